section
/-! slopes that would lean on themselves: the reference -/
section RG3
variable {ρ ρ' : RSt} {μ : MSt} {j : Nat}
def rg38 : Nat → Prop := fun k => k = 38
theorem sh1_n {i : Nat} (hi : i < 31) : (1 : Int32) <<< (nI i &&& 31) = nI (1 <<< i) := by
  have := nI_or1 0 i hi
  rw [Nat.zero_or] at this
  rw [← this]
  apply b_ext
  intro q hq
  rw [b_or, bt_nI 0 hq, Nat.zero_testBit, Bool.false_or]
theorem and_bit {a i : Nat} : a &&& (1 <<< i) = if a.testBit i = true then 1 <<< i else 0 := by
  apply Nat.eq_of_testBit_eq
  intro q
  rw [Nat.testBit_and, Nat.one_shiftLeft, Nat.testBit_two_pow]
  by_cases e : i = q
  · subst e
    by_cases h : a.testBit i = true
    · rw [if_pos h, h, Nat.testBit_two_pow_self]; simp
    · rw [if_neg h, Nat.zero_testBit]; simpa using h
  · rw [show decide (i = q) = false by simpa using e, Bool.and_false]
    split
    · rw [Nat.testBit_two_pow, show decide (i = q) = false by simpa using e]
    · rw [Nat.zero_testBit]
theorem sR_ring {post : Int32 → RSt → Prop} {s N len : Nat} {c n : Nat → Nat} (hR : RR ρ μ) (hI : MI μ j) (hs : s < μ.1 9) (h400 : len ≤ 400) (e17 : ρ.2.1 17 10 = nI len) (e15 : ∀ k : Nat, k < len → ρ.2.1 15 (4000 + k) = nI (c k) ∧ ρ.2.1 16 (4000 + k) = nI (n k) ∧ c k < 2 ^ 31 ∧ (c k = 12 → n k < 31)) (hN : bitsN c n len = N) (hp : ∀ ρ', smR rg38 ρ ρ' → post (nI (rgB (lnR μ s N) (μ.1 9) (μ.1 9))) ρ') : wpR_ring_0 post ρ (nI s) := by
  have hc := hI.cs
  generalize hRR : lnR μ s N = R at hp
  have hRk : ∀ ρ', smR rg38 ρ ρ' → RR ρ' μ := fun ρ' h => hR.sm h (fun k hk => by unfold rg38 at hk; omega)
  -- the rounds, then the bits
  have hrest : ∀ ρ1, smR rg38 ρ ρ1 → (∀ i : Nat, i < μ.1 9 → ρ1.2.1 38 i = nI (R i)) → wpR_ring_56 post ρ1 0 := by
    intro ρ1 h1 hv1
    refine gLP.up 10 (fun r (x : RSt × Int32) => r ≤ 10 ∧ smR rg38 ρ x.1 ∧ (∃ v : Nat → Nat, (∀ i : Nat, i < μ.1 9 → x.1.2.1 38 i = nI (v i)) ∧ (∀ i q : Nat, i < μ.1 9 → (v i).testBit q = true → (fwR R (μ.1 9) i).testBit q = true) ∧ (∀ i q : Nat, i < μ.1 9 → Wd R (μ.1 9) r i q → (v i).testBit q = true)) ∧ x.2 = nI r) (fun k x h => h.1) ?_ (j := 0) ⟨Nat.zero_le _, h1, ⟨R, hv1, fun i q _ h => fwR_0 h, fun i q _ h => h⟩, rfl⟩
    rintro r ⟨ρ2, y⟩ P ⟨hr, h2, ⟨v, hv, hso, hco⟩, e0⟩ hP
    dsimp only at h2 hv e0
    subst e0
    dsimp only
    refine ⟨fun e => ?_, fun e => ?_⟩
    · rw [show (10 : Int32) = nI 10 from rfl, nI_leI (by omega) (by omega)] at e
      obtain rfl : r = 10 := by omega
      refine gLP.up (μ.1 9) (fun i (x : RSt × Int32 × Int32) => i ≤ μ.1 9 ∧ x = (ρ2, nI (rgB R (μ.1 9) i), nI i)) (fun k x h => h.1) ?_ (j := 0) ⟨Nat.zero_le _, rfl⟩
      rintro i x Q ⟨hi, rfl⟩ hQ
      dsimp only
      have e9 := (hRk ρ2 h2).s1 (k := 9) (by unfold sc1; omega)
      unfold wpR_ring_137_F
      rw [e9, nI_leI (by omega) (by omega)]
      refine ⟨fun e1 => ?_, fun e1 => ⟨vp_in_nI (by omega) (by omega), hQ _ ⟨by omega, ?_⟩⟩⟩
      · obtain rfl : i = μ.1 9 := by omega
        exact hp ρ2 h2
      · have hi9 : i < μ.1 9 := by omega
        rw [nI_clamp (by omega), hv i hi9, sh1_n (by omega), nI_and, nI_or, nI_1, and_bit]
        have hiff : (v i).testBit i = true ↔ (fwR R (μ.1 9) i).testBit i = true := by
          refine ⟨fun g => hso i i hi9 g, fun g => hco i i hi9 ?_⟩
          have := Wd_mono (R := R) (n := μ.1 9) (d := μ.1 9) (10 - μ.1 9) (fwR_Wd (μ.1 9) i i (Nat.le_refl _) g)
          rw [show μ.1 9 + (10 - μ.1 9) = 10 by omega] at this
          exact this
        by_cases eb : (fwR R (μ.1 9) i).testBit i = true
        · rw [if_pos (hiff.mpr eb), show rgB R (μ.1 9) (i + 1) = rgB R (μ.1 9) i ||| (1 <<< i) from if_pos eb]
        · rw [if_neg (fun g => eb (hiff.mp g)), Nat.or_zero, show rgB R (μ.1 9) (i + 1) = rgB R (μ.1 9) i from if_neg eb]
    · rw [show (10 : Int32) = nI 10 from rfl, nI_leI (by omega) (by omega)] at e
      -- a round: the rows below k are done
      refine gLP.up (μ.1 9) (fun k (x : RSt × Int32 × Int32) => k ≤ μ.1 9 ∧ smR rg38 ρ x.1 ∧ (∃ v : Nat → Nat, (∀ i : Nat, i < μ.1 9 → x.1.2.1 38 i = nI (v i)) ∧ (∀ i q : Nat, i < μ.1 9 → (v i).testBit q = true → (fwR R (μ.1 9) i).testBit q = true) ∧ (∀ i q : Nat, i < μ.1 9 → Wd R (μ.1 9) r i q → (v i).testBit q = true) ∧ (∀ i q : Nat, i < k → Wd R (μ.1 9) (r + 1) i q → (v i).testBit q = true)) ∧ x.2 = (nI r, nI k)) (fun k x h => h.1) ?_ (j := 0) ⟨Nat.zero_le _, h2, ⟨v, hv, hso, hco, fun i q h => absurd h (Nat.not_lt_zero _)⟩, rfl⟩
      rintro k ⟨ρ3, y⟩ Q ⟨hk, h3, ⟨v3, hv3, hso3, hco3, hdn3⟩, e0⟩ hQ
      dsimp only at h3 hv3 e0
      subst e0
      dsimp only
      have e9 := (hRk ρ3 h3).s1 (k := 9) (by unfold sc1; omega)
      unfold wpR_ring_64_F
      rw [e9, nI_leI (by omega) (by omega)]
      refine ⟨fun e1 => ?_, fun e1 => ?_⟩
      · obtain rfl : k = μ.1 9 := by omega
        exact hP _ ⟨by omega, h3, ⟨v3, hv3, hso3, fun i q hi h => hdn3 i q hi h⟩, by rw [nI_1]⟩
      · have hk9 : k < μ.1 9 := by omega
        refine gLP.up (μ.1 9) (fun m (x : RSt × Int32 × Int32 × Int32) => m ≤ μ.1 9 ∧ smR rg38 ρ x.1 ∧ (∃ v : Nat → Nat, (∀ i : Nat, i < μ.1 9 → x.1.2.1 38 i = nI (v i)) ∧ (∀ i q : Nat, i < μ.1 9 → (v i).testBit q = true → (fwR R (μ.1 9) i).testBit q = true) ∧ (∀ i q : Nat, i < μ.1 9 → Wd R (μ.1 9) r i q → (v i).testBit q = true) ∧ (∀ i q : Nat, i < k → Wd R (μ.1 9) (r + 1) i q → (v i).testBit q = true) ∧ (∀ p q : Nat, p < m → Wd R (μ.1 9) r k p → Wd R (μ.1 9) r p q → (v k).testBit q = true)) ∧ x.2 = (nI r, nI k, nI m)) (fun k x h => h.1) ?_ (j := 0) ⟨Nat.zero_le _, h3, ⟨v3, hv3, hso3, hco3, hdn3, fun p q h => absurd h (Nat.not_lt_zero _)⟩, rfl⟩
        rintro m ⟨ρ4, y⟩ S ⟨hm, h4, ⟨v4, hv4, hso4, hco4, hdn4, hrw4⟩, e0⟩ hS
        dsimp only at h4 hv4 e0
        subst e0
        dsimp only
        have e9' := (hRk ρ4 h4).s1 (k := 9) (by unfold sc1; omega)
        unfold wpR_ring_75_F
        rw [e9', nI_leI (by omega) (by omega)]
        refine ⟨fun e2 => ?_, fun e2 => ⟨vp_in_nI (by omega) (by omega), ?_⟩⟩
        · obtain rfl : m = μ.1 9 := by omega
          refine hQ _ ⟨by omega, h4, ⟨v4, hv4, hso4, hco4, fun i q hi hw => ?_⟩, by rw [nI_1]⟩
          by_cases ei : i = k
          · subst ei
            rcases hw with hw | ⟨p, hp9, w1, w2⟩
            · exact hco4 i q hk9 hw
            · exact hrw4 p q hp9 w1 w2
          · exact hdn4 i q (by omega) hw
        · have hm9 : m < μ.1 9 := by omega
          rw [nI_clamp (by omega), hv4 k hk9, nI_clamp (by omega), hv4 m hm9, hb_1 (by omega), bt_nI _ (by omega)]
          refine ⟨fun e3 => hS _ ⟨by omega, h4, ⟨v4, hv4, hso4, hco4, hdn4, fun p q hp' w1 w2 => ?_⟩, by rw [nI_1]⟩, fun e3 => ⟨vp_in_nI (by omega) (by omega), vp_in_nI (by omega) (by omega), vp_in_nI (by omega) (by omega), ?_⟩⟩
          · by_cases ep : p = m
            · subst ep
              exact absurd (hco4 k p hk9 w1) e3
            · exact hrw4 p q (by omega) w1 w2
          · intro s4 hs4
            have hsm : smR rg38 ρ s4 := by rw [hs4]; exact h4.tr (smR_A rfl)
            have hval : ∀ i : Nat, i < μ.1 9 → s4.2.1 38 i = nI (if i = k then v4 k ||| v4 m else v4 i) := by
              intro i hi
              rw [hs4]
              by_cases ei : i = k
              · subst ei; rw [rA_s, if_pos rfl, nI_or]
              · rw [rA_n (fun _ => ei), if_neg ei]; exact hv4 i hi
            have up : ∀ i q : Nat, (v4 i).testBit q = true → (if i = k then v4 k ||| v4 m else v4 i).testBit q = true := by
              intro i q g
              by_cases ei : i = k
              · subst ei; rw [if_pos rfl, Nat.testBit_or, g, Bool.true_or]
              · rw [if_neg ei]; exact g
            refine hS _ ⟨by omega, hsm, ⟨_, hval, fun i q hi g => ?_, fun i q hi w => up i q (hco4 i q hi w), fun i q hi w => up i q (hdn4 i q hi w), fun p q hp' w1 w2 => ?_⟩, by rw [nI_1]⟩
            · by_cases ei : i = k
              · subst ei
                rw [if_pos rfl, Nat.testBit_or, Bool.or_eq_true] at g
                rcases g with g | g
                · exact hso4 i q hi g
                · exact fwR_tr _ i m q hm9 (hso4 i m hi e3) (hso4 m q hm9 g)
              · rw [if_neg ei] at g; exact hso4 i q hi g
            · by_cases ep : p = m
              · subst ep
                rw [if_pos rfl, Nat.testBit_or, hco4 p q hm9 w2, Bool.or_true]
              · exact up k q (hrw4 p q (by omega) w1 w2)
  -- the rows, to begin with
  refine gLP.up (μ.1 9) (fun k (x : RSt × Int32 × Int32) => k ≤ μ.1 9 ∧ smR rg38 ρ x.1 ∧ (∀ i : Nat, i < k → x.1.2.1 38 i = nI (R i)) ∧ x.2 = (nI s, nI k)) (fun k x h => h.1) ?_ (j := 0) ⟨Nat.zero_le _, smR.rf, fun i hi => absurd hi (Nat.not_lt_zero _), rfl⟩
  rintro k ⟨ρ1, y⟩ P ⟨hk, h1, hv1, e0⟩ hP
  dsimp only at h1 hv1 e0
  subst e0
  dsimp only
  have hR1 := hRk ρ1 h1
  have e9 := hR1.s1 (k := 9) (by unfold sc1; omega)
  unfold wpR_ring_2_F
  rw [e9, nI_leI (by omega) (by omega)]
  refine ⟨fun e => ?_, fun e => ?_⟩
  · obtain rfl : k = μ.1 9 := by omega
    exact hrest ρ1 h1 hv1
  · have hk9 : k < μ.1 9 := by omega
    have h47 : ∀ w : Int32, w = nI (R k) → wpR_ring_47 post (fun s v1 v2 => P (s, v1, v2)) ρ1 (nI s) (nI k) (nI k) w := by
      intro w hw
      refine ⟨vp_in_nI (by omega) (by omega), ?_⟩
      intro s7 hs7
      refine hP _ ⟨by omega, by rw [hs7]; exact h1.tr (smR_A rfl), fun i hi => ?_, by rw [nI_1]⟩
      rw [hs7, nI_clamp (by omega)]
      by_cases ei : i = k
      · subst ei; rw [rA_s]; exact hw
      · rw [rA_n (fun _ => ei)]; exact hv1 i (by omega)
    have hsl := hI.sl k hk9
    have e18 := hR1.s2 (k := 18) (i := k) (by unfold sc2; omega)
    rw [nI_eq (by omega) (by omega), nI_clamp (by omega), e18, show (0 : Int32) = nI 0 from rfl, nI_eq (by omega) (by omega)]
    refine ⟨fun e1 => ⟨vp_in_nI (by omega) (by omega), fun e2 => h47 _ ?_, fun e2 => ?_⟩, fun e1 => ?_⟩
    · rw [← hRR]
      unfold lnR mNm
      rw [if_neg e1, if_neg (by omega)]
    · have h18 : μ.2.1 18 k = 1 := by omega
      have hwf := hI.ru.1 k hk9 h18
      refine sR_names (c := fun q => μ.2.1 15 (400 * k + q)) (n := fun q => μ.2.1 16 (400 * k + q)) (len := μ.2.1 17 k) (by omega) hwf.1 (hR1.s2 (k := 17) (by unfold sc2; omega)) (fun q hq => ?_) (h47 _ ?_)
      · have hw := hwf.2.2.2 q hq
        have := hwf.1
        exact ⟨hR1.s2 (k := 15) (by unfold sc2; omega), hR1.s2 (k := 16) (by unfold sc2; omega), by dsimp only at hw ⊢; omega, fun g => by have := hw.2.2.1 g; dsimp only at this ⊢; omega⟩
      · rw [← hRR]
        unfold lnR mNm mBits
        rw [if_neg e1, if_pos h18]
    · subst e1
      have q17 : ρ1.2.1 17 10 = nI len := by rw [h1.2.1 17 (by unfold rg38; omega)]; exact e17
      refine sR_names (s := 10) (c := c) (n := n) (len := len) (by decide) h400 q17 (fun q hq => ?_) (h47 _ ?_)
      · rw [h1.2.1 15 (by unfold rg38; omega), h1.2.1 16 (by unfold rg38; omega)]
        exact e15 q hq
      · rw [← hRR]
        unfold lnR
        rw [if_pos rfl, hN]
end RG3
end
