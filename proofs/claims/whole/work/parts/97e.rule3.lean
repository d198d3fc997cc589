section
/-! rule: a rule told, in the model -/
section RU3
variable {μ : MSt} {j : Nat} {s : Nat} {L : List Cd}
theorem mRul_1 {k : Nat} (h : k ≠ 2 ∧ k ≠ 20) : (mRul μ s L).1 k = μ.1 k := mR0_1 (pl := -1) (rg := 0) h
theorem mRul_o {a : Nat} (h : a ≠ 15 ∧ a ≠ 16 ∧ a ≠ 17 ∧ a ≠ 18) : (mRul μ s L).2.1 a = μ.2.1 a := by
  funext i
  unfold mRul
  dsimp only
  rw [if_neg (fun g => h.1 g.1), if_neg (fun g => h.2.1 g.1), if_neg (fun g => h.2.2.1 g.1), if_neg (fun g => h.2.2.2 g.1)]
theorem mRul_15 {i : Nat} : (mRul μ s L).2.1 15 i = if 400 * s ≤ i ∧ i < 400 * s + L.length then (L.getD (i - 400 * s) (0, 0)).1 else μ.2.1 15 i := by
  unfold mRul
  dsimp only
  by_cases e : 400 * s ≤ i ∧ i < 400 * s + L.length
  · rw [if_pos ⟨rfl, e⟩, if_pos e]
  · rw [if_neg (fun g => e g.2), if_neg (fun g => absurd g.1 (by decide)), if_neg (fun g => absurd g.1 (by decide)), if_neg (fun g => absurd g.1 (by decide)), if_neg e]
theorem mRul_16 {i : Nat} : (mRul μ s L).2.1 16 i = if 400 * s ≤ i ∧ i < 400 * s + L.length then (L.getD (i - 400 * s) (0, 0)).2 else μ.2.1 16 i := by
  unfold mRul
  dsimp only
  rw [if_neg (fun g => absurd g.1 (by decide))]
  by_cases e : 400 * s ≤ i ∧ i < 400 * s + L.length
  · rw [if_pos ⟨rfl, e⟩, if_pos e]
  · rw [if_neg (fun g => e g.2), if_neg (fun g => absurd g.1 (by decide)), if_neg (fun g => absurd g.1 (by decide)), if_neg e]
theorem mRul_17 {i : Nat} : (mRul μ s L).2.1 17 i = if i = s then L.length else μ.2.1 17 i := by
  unfold mRul
  dsimp only
  rw [if_neg (fun g => absurd g.1 (by decide)), if_neg (fun g => absurd g.1 (by decide))]
  by_cases e : i = s
  · rw [if_pos ⟨rfl, e⟩, if_pos e]
  · rw [if_neg (fun g => e g.2), if_neg (fun g => absurd g.1 (by decide)), if_neg e]
theorem mRul_18 {i : Nat} : (mRul μ s L).2.1 18 i = if i = s then 1 else μ.2.1 18 i := by
  unfold mRul
  dsimp only
  rw [if_neg (fun g => absurd g.1 (by decide)), if_neg (fun g => absurd g.1 (by decide)), if_neg (fun g => absurd g.1 (by decide))]
  by_cases e : i = s
  · rw [if_pos ⟨rfl, e⟩, if_pos e]
  · rw [if_neg (fun g => e g.2), if_neg e]
theorem mRul_row {k : Nat} (hk : k < L.length) : (mRul μ s L).2.1 15 (400 * s + k) = (L.getD k (0, 0)).1 ∧ (mRul μ s L).2.1 16 (400 * s + k) = (L.getD k (0, 0)).2 := by
  rw [mRul_15, mRul_16, if_pos (by omega), if_pos (by omega), show 400 * s + k - 400 * s = k by omega]
  exact ⟨rfl, rfl⟩
theorem mRul_oth {t k : Nat} (hL : L.length ≤ 400) (ht : t ≠ s) (hk : k < 400) : (mRul μ s L).2.1 15 (400 * t + k) = μ.2.1 15 (400 * t + k) ∧ (mRul μ s L).2.1 16 (400 * t + k) = μ.2.1 16 (400 * t + k) := by
  rw [mRul_15, mRul_16, if_neg (by omega), if_neg (by omega)]
  exact ⟨rfl, rfl⟩
theorem mRul_nm {t : Nat} (hI : MI μ j) (hL : L.length ≤ 400) (ht : t < μ.1 9) : mNm (mRul μ s L) t = lnR μ s (bitsL L) t := by
  unfold lnR
  by_cases e : t = s
  · subst e
    unfold mNm mBits
    rw [mRul_18, if_pos rfl, if_pos rfl, if_pos rfl, mRul_17, if_pos rfl]
    exact bitsN_cg _ (fun i hi => mRul_row hi)
  · rw [if_neg e]
    unfold mNm mBits
    rw [mRul_18, mRul_17, if_neg e, if_neg e]
    by_cases h1 : μ.2.1 18 t = 1
    · rw [if_pos h1, if_pos h1]
      have := (hI.ru.1 t ht h1).1
      exact bitsN_cg _ (fun i hi => mRul_oth hL e (by omega))
    · rw [if_neg h1, if_neg h1]
theorem mRul_MI (hI : MI μ j) (hs : s < μ.1 9) (hL : L.length ≤ 400) (hok : okL (μ.1 9) (μ.1 7) 43 0 L) (hen : enL 0 L = 1) (hrg : ∀ i : Nat, i < μ.1 9 → ¬ (fwR (lnR μ s (bitsL L)) (μ.1 9) i).testBit i = true) : MI (mRul μ s L) j := by
  have hI0 := mR0_MI (pl := -1) (rg := 0) hI (by decide)
  have e7 : (mRul μ s L).1 7 = μ.1 7 := mRul_1 (by decide)
  have e9 : (mRul μ s L).1 9 = μ.1 9 := mRul_1 (by decide)
  have e14 : (mRul μ s L).1 14 = μ.1 14 := mRul_1 (by decide)
  have e22 : (mRul μ s L).1 22 = μ.1 22 := mRul_1 (by decide)
  have e26 : (mRul μ s L).1 26 = μ.1 26 := mRul_1 (by decide)
  have e13 : (mRul μ s L).2.2 13 = μ.2.2 13 := mR0_3 (μ := μ) (pl := -1) (rg := 0) (k := 13) (by decide)
  obtain ⟨a0, a1, a2, a3, a4, a5, a6, a7, a8, a9⟩ := hI
  refine ⟨hI0.c0, ?_, ?_, ?_, ?_, ?_, ?_, ?_, ?_, ?_⟩
  · unfold mLi; rw [mRul_o (by decide), mRul_o (by decide), e7]; exact a1
  · unfold mSl
    rw [mRul_o (a := 8) (by decide), e9, e14]
    intro t ht
    obtain ⟨b1, b2, b3, b4, b5, b6, b7⟩ := a2 t ht
    refine ⟨b1, b2, b3, b4, b5, b6, ?_⟩
    rw [mRul_18]
    split
    · exact Nat.le_refl _
    · exact b7
  · unfold mSn; rw [mRul_o (by decide), e14]; exact a3
  · unfold mGr; rw [mRul_o (by decide), e7, e9, e22]; exact a4
  · unfold mQu; rw [mRul_o (a := 6) (by decide), mRul_o (a := 5) (by decide), mRul_o (a := 21) (by decide), e7, e22]; exact a5
  · unfold mRu
    rw [e7, e9]
    refine ⟨fun t ht h18 => ?_, ⟨rkS (lnR μ s (bitsL L)) (μ.1 9), fun t k ht hk hb => ?_⟩⟩
    · rw [mRul_17]
      by_cases e : t = s
      · subst e
        rw [if_pos rfl]
        exact okL_wf hL (fun k hk => by obtain ⟨h1, h2⟩ := mRul_row (μ := μ) (s := t) hk; rw [h1, h2]) hok hen
      · rw [if_neg e]
        rw [mRul_18, if_neg e] at h18
        obtain ⟨c1, c2, c3, c4⟩ := a6.1 t ht h18
        have hd : ∀ k : Nat, k ≤ μ.2.1 17 t → depN (fun k => (mRul μ s L).2.1 15 (400 * t + k)) k = depN (fun k => μ.2.1 15 (400 * t + k)) k := by
          intro k
          induction k with
          | zero => intro _; rfl
          | succ k ih =>
            intro hk
            have h1 := (mRul_oth (μ := μ) hL e (k := k) (by omega)).1
            show (if (mRul μ s L).2.1 15 (400 * t + k) = 14 then _ else if (mRul μ s L).2.1 15 (400 * t + k) = 15 ∨ (mRul μ s L).2.1 15 (400 * t + k) = 16 then _ else _) = (if μ.2.1 15 (400 * t + k) = 14 then _ else if μ.2.1 15 (400 * t + k) = 15 ∨ μ.2.1 15 (400 * t + k) = 16 then _ else _)
            rw [h1, ih (by omega)]
        refine ⟨c1, by rw [hd _ (Nat.le_refl _)]; exact c2, fun k hk => by rw [hd k hk]; exact c3 k hk, fun k hk => ?_⟩
        obtain ⟨h1, h2⟩ := mRul_oth (μ := μ) hL e (k := k) (by omega)
        rw [hd k (by omega)]
        dsimp only
        rw [h1, h2]
        exact c4 k hk
    · rw [mRul_nm (j := j) ⟨a0, a1, a2, a3, a4, a5, a6, a7, a8, a9⟩ hL ht] at hb
      exact rkS_lt hrg hk hb
  · unfold mLk; rw [mRul_o (a := 23) (by decide), mRul_o (a := 24) (by decide), mRul_o (a := 25) (by decide), e14, e26]; exact a7
  · unfold mWt; rw [mRul_o (by decide), e13, e14]; exact a8
  · unfold mZe
    rw [mRul_o (a := 4) (by decide), mRul_o (a := 6) (by decide), mRul_o (a := 10) (by decide), mRul_o (a := 12) (by decide), mRul_o (a := 21) (by decide), e13, e7, e9, e14, e22]
    refine ⟨a9.1, fun t ht => ?_, a9.2.2⟩
    rw [mRul_18, if_neg (by omega)]
    exact a9.2.1 t ht
end RU3
end
