section
/-! slope: the call, of both -/
section SLR
variable {σ : CSt} {lab : Nat → Nat} {ad : Nat → Nat → Nat} {ρ : RSt} {μ : MSt} {j : Nat}
theorem cO_slope {post : Int32 → CSt → Prop} {pX : String → CSt → Prop} {mc ms : Nat} {v1 v2 v3 v4 v5 : Int32} (h : CRep σ lab ad μ) (hI : MI μ j) (hm : 100 ≤ mc ∧ 1200 ≤ ms)
    (h1 : plc v1 → plc v2 → nmb v3 1 20 → nmb v4 0 9 → nmb v5 1 4 → μ.1 9 < 10 → ∀ fr to mi st k : Nat, (fr < 10 ∧ to < 10 ∧ (1 ≤ mi ∧ mi ≤ 20) ∧ st ≤ 9 ∧ (1 ≤ k ∧ k ≤ 4)) → v1 = nI fr → v2 = nI to → v3 = nI mi → v4 = nI st → v5 = nI k → ∀ σ' lab' ad', ad' 7 0 = ad 7 0 → CRep σ' lab' ad' (mSlo μ fr to mi st k) → post (nI (μ.1 9)) σ')
    (hi : ¬ (plc v1 ∧ plc v2) → pX "java/lang/IndexOutOfBoundsException" σ)
    (ha : plc v1 → plc v2 → ¬ (nmb v3 1 20 ∧ nmb v4 0 9 ∧ nmb v5 1 4) → pX "java/lang/IllegalArgumentException" σ)
    (hu : plc v1 → plc v2 → nmb v3 1 20 → nmb v4 0 9 → nmb v5 1 4 → ¬ μ.1 9 < 10 → pX "java/lang/UnsupportedOperationException" σ) : wpC_X7_slope_0 mc ms post pX σ (ad 7 0) v1 v2 v3 v4 v5 := by
  have hc := hI.cs
  have hc0 := hI.c0
  unfold mC0 at hc0
  refine ⟨by omega, by omega, sC_placeP (fun p1 => ⟨by omega, by omega, sC_placeP (fun p2 => ⟨by omega, by omega, sC_numP (fun p3 => ⟨by omega, by omega, sC_numP (fun p4 => ⟨by omega, by omega, sC_numP (fun p5 => ⟨h.x7, _, h.x.2.1.2.1, h.ls.2.1.1, sC_size h.ls.2.1 ⟨by omega, by omega, sC_room (b := 10) rfl (by omega) (by omega) (fun h8 => ?_) (hu p1 p2 p3 p4 p5)⟩⟩) (fun g => ha p1 p2 (fun e => g e.2.2))⟩) (fun g => ha p1 p2 (fun e => g e.2.1))⟩) (fun g => ha p1 p2 (fun e => g e.1))⟩) (fun g => hi (fun e => g e.2))⟩) (fun g => hi (fun e => g e.1))⟩
  obtain ⟨fr, w1, e1⟩ := plc_of p1
  obtain ⟨to, w2, e2⟩ := plc_of p2
  obtain ⟨mi, w3, w3', e3⟩ := nmb_of (a := 1) (b := 20) rfl rfl (by omega) (by omega) p3
  obtain ⟨st, w4, w4', e4⟩ := nmb_of (a := 0) (b := 9) rfl rfl (by omega) (by omega) p4
  obtain ⟨k, hk1, hk4, e5⟩ := nmb_of (a := 1) (b := 4) rfl rfl (by omega) (by omega) p5
  have h1 := h1 p1 p2 p3 p4 p5 h8 fr to mi st k ⟨w1, w2, ⟨w3, w3'⟩, w4', ⟨hk1, hk4⟩⟩ e1 e2 e3 e4 e5
  refine ⟨h.x7, _, h.x.2.1.2.2.1, h.ls.2.2.1.1, sC_size h.ls.2.2.1 ⟨by omega, by omega, ?_⟩⟩
  have e40 : nI (μ.1 14) + v5 - 1 = nI (μ.1 14 + k - 1) := by rw [e5, nI_add, show (1 : Int32) = nI 1 from rfl, nI_sub (by omega)]
  rw [e40]
  refine sC_room (b := 40) rfl (by omega) (by omega) (fun _ => ?_) (fun e => absurd (by omega) e)
  refine ⟨h.x7, _, h.x.2.1.2.1, h.ls.2.1.1, sC_size h.ls.2.1 ⟨by omega, by omega, ?_⟩⟩
  intro q hq
  rintro s30 rfl
  refine ⟨by omega, by omega, ?_⟩
  intro q1 hq1
  rintro s2 rfl
  have hne : ¬ q = q1 := fun e => hq1 (e ▸ List.mem_append_right _ List.mem_cons_self)
  have hne2 : ¬ q1 = q := fun e => hne e.symm
  have a0 : cAt (csO (csO σ q 6) q1 0) 0 q1 := at_csOq
  have a6 : cAt (csO (csO σ q 6) q1 0) 6 q := at_csO hq1 at_csOq
  refine ⟨a0, ?_⟩
  rintro s2 rfl
  refine ⟨a0, ?_⟩
  rintro s3 rfl
  refine ⟨a6, ?_⟩
  rintro s4 rfl
  intro q5 hq5
  rintro s6 rfl
  generalize hs4 : csR (csR (csI (csO (csO σ q 6) q1 0) 0 q1 0) 1 q1 (some (cZ (csI (csO (csO σ q 6) q1 0) 0 q1 0)).1)) 101 q (some q1) = s4 at hq5 ⊢
  have b6 : cAt s4 6 q := by subst hs4; exact a6
  have b0 : cAt s4 0 q1 := by subst hs4; exact a0
  have hn6 : ¬ q = q5 := ne_csO hq5 b6
  have hn0 : ¬ q1 = q5 := ne_csO hq5 b0
  have d6 : cAt (csA s4 q5 9 (0 : Int32).toNatClampNeg) 6 q := at_csA hq5 b6
  have d0 : cAt (csA s4 q5 9 (0 : Int32).toNatClampNeg) 0 q1 := at_csA hq5 b0
  have d9 : cAt (csA s4 q5 9 (0 : Int32).toNatClampNeg) 9 q5 := at_csAq
  refine ⟨d6, ?_⟩
  rintro s7 rfl
  refine ⟨d6, ?_⟩
  rintro s8 rfl
  refine ⟨d6, ?_⟩
  rintro s9 rfl
  refine ⟨d6, ?_⟩
  rintro s10 rfl
  refine ⟨d6, ?_⟩
  rintro s11 rfl
  refine ⟨d6, ?_⟩
  rintro s12 rfl
  generalize hσ0 : csI (csI (csI (csI (csI (csR (csA s4 q5 9 (0 : Int32).toNatClampNeg) 104 q (some q5)) 96 q (nI (μ.1 9))) 97 q v1) 98 q v2) 99 q v3) 100 q v4 = σ0
  let laba := va_up (va_up lab q (μ.1 9)) q1 (20 + μ.1 9)
  let lab1 := va_up laba q5 (200 + μ.1 9)
  have la6 : laba q = μ.1 9 := by show va_up _ _ _ q = _; rw [va_up_ne _ _ hne, va_up_self]
  have la0 : laba q1 = 20 + μ.1 9 := va_up_self _ _ _
  have l6 : lab1 q = μ.1 9 := by show va_up _ _ _ q = _; rw [va_up_ne _ _ hn6]; exact la6
  have l0 : lab1 q1 = 20 + μ.1 9 := by show va_up _ _ _ q1 = _; rw [va_up_ne _ _ hn0]; exact la0
  have l9 : lab1 q5 = 200 + μ.1 9 := va_up_self _ _ _
  have hk : keepS (fun k l => (k = 6 ∧ l = μ.1 9) ∨ (k = 0 ∧ l = 20 + μ.1 9) ∨ (k = 9 ∧ l = 200 + μ.1 9)) σ lab σ0 lab1 := by
    have k4 : keepR (fun k l => (k = 6 ∧ l = μ.1 9) ∨ (k = 0 ∧ l = 20 + μ.1 9) ∨ (k = 9 ∧ l = 200 + μ.1 9)) σ lab s4 laba := by
      subst hs4
      have k0 := keep_csO (X := fun k l => (k = 6 ∧ l = μ.1 9) ∨ (k = 0 ∧ l = 20 + μ.1 9) ∨ (k = 9 ∧ l = 200 + μ.1 9)) hq 6 (lab := lab) (μ.1 9)
      have k1 := k0.tr (keep_csO hq1 0 (20 + μ.1 9))
      have k2 := k1.tr (keepR.mono (keep_csI (lab := laba) a0 la0 0 0) (fun k l hx => Or.inr (Or.inl hx)))
      have k3 := k2.tr (keepR.mono (keep_csR (lab := laba) (by exact a0) la0 1 (some (cZ (csI (csO (csO σ q 6) q1 0) 0 q1 0)).1)) (fun k l hx => Or.inr (Or.inl hx)))
      exact k3.tr (keepR.mono (keep_csR (lab := laba) (by exact a6) la6 101 (some q1)) (fun k l hx => Or.inl hx))
    subst hσ0
    have k5 := k4.tr (keep_csA hq5 9 (0 : Int32).toNatClampNeg (200 + μ.1 9))
    have k6 := k5.tr (keepR.mono (keep_csR (lab := lab1) d6 l6 104 (some q5)) (fun k l hx => Or.inl hx))
    have k7 := k6.tr (keepR.mono (keep_csI (lab := lab1) (by exact d6) l6 96 (nI (μ.1 9))) (fun k l hx => Or.inl hx))
    have k8 := k7.tr (keepR.mono (keep_csI (lab := lab1) (by exact d6) l6 97 v1) (fun k l hx => Or.inl hx))
    have k9 := k8.tr (keepR.mono (keep_csI (lab := lab1) (by exact d6) l6 98 v2) (fun k l hx => Or.inl hx))
    have k10 := k9.tr (keepR.mono (keep_csI (lab := lab1) (by exact d6) l6 99 v3) (fun k l hx => Or.inl hx))
    exact (k10.tr (keepR.mono (keep_csI (lab := lab1) (by exact d6) l6 100 v4) (fun k l hx => Or.inl hx))).s
  have c6 : cAt σ0 6 q := by subst hσ0; exact d6
  have c9 : cAt σ0 9 q5 := by subst hσ0; exact d9
  have hqL : isL σ0 lab1 q1 (20 + μ.1 9) 0 (ad 1) := by
    refine new_L (by subst hσ0; exact d0) l0 ?_ ?_
    · subst hσ0; subst hs4; simp [csI, csR, csA, csO, cmk, cI, cu2]
    · subst hσ0; subst hs4; simp [csI, csR, csA, csO, cmk, cR, cZ, cu2]
  have hf : cR σ0 101 q = some q1 ∧ cR σ0 104 q = some q5 ∧ cI σ0 96 q = nI (μ.1 9) ∧ cI σ0 97 q = nI fr ∧ cI σ0 98 q = nI to ∧ cI σ0 99 q = nI mi ∧ cI σ0 100 q = nI st ∧ cI σ0 102 q = 0 ∧ cI σ0 103 q = 0 := by
    subst hσ0; subst hs4
    rw [← e1, ← e2, ← e3, ← e4]
    simp [csI, csR, csA, csO, cmk, cI, cR, cu2, hne]
  have hX : cX σ0 lab1 ad μ := h.x.kp hk (by omega) rfl (fun _ _ => rfl) rfl rfl
  have hL := h.ls.2.1.kp hk (by omega) (by omega) (fun i hi => rfl)
  refine ⟨hX.1.1, _, hX.2.1.2.1, 1, 109, by omega, by omega, hL.1, ?_⟩
  refine sC_add hL (by omega) (fun i hi => hk.elm ((elm_L h).2.1 i hi)) (elm_of c6 (by omega)) (fun _ => ⟨by omega, by omega⟩) (fun σ1 lab2 k1 k2 _ => ?_)
  have hr := slope_rep (fr := fr) (to := to) (mi := mi) (st := st) h hI h8 hk ⟨c6, l6⟩ hqL ⟨c9, l9⟩ hf k1.s k2
  generalize had : cu2 (cu2 (cu2 ad 6 (μ.1 9) q) 0 (20 + μ.1 9) q1) 9 (200 + μ.1 9) q5 = ad1 at hr
  have x7 : ad1 7 0 = ad 7 0 := by rw [← had, adu_n (by omega), adu_n (by omega), adu_n (by omega)]
  have x6 : ad1 6 (μ.1 9) = q := by rw [← had, adu_n (by omega), adu_n (by omega), adu_s]
  rw [e5]
  refine gLP.up k (fun i (x : CSt × Nat × Nat × Nat × Int32 × Int32 × Nat × Int32) => i ≤ k ∧ (∃ lab' ad', ad' 7 0 = ad 7 0 ∧ ad' 6 (μ.1 9) = q ∧ CRep x.1 lab' ad' (mSlo μ fr to mi st i)) ∧ ∃ kk nn : Nat, kk = 11 + 4 * i ∧ nn = 164 + 230 * i ∧ x.2 = (kk, nn, ad 7 0, nI k, nI (μ.1 9), q, nI i)) (fun i x h => h.1) ?_ (j := 0) ⟨Nat.zero_le _, ⟨lab2, ad1, x7, x6, hr⟩, _, _, rfl, rfl, rfl⟩
  rintro i ⟨s, y⟩ P ⟨hi, ⟨lab', ad', y7, y6, hC⟩, kk, nn, ek, en, e⟩ hP
  dsimp only at e hC
  subst e
  dsimp only
  refine ⟨fun e => ?_, fun e => ?_⟩
  · rw [nI_leI (by omega) (by omega)] at e
    obtain rfl : i = k := by omega
    exact ⟨by omega, by omega, h1 s lab' ad' y7 hC⟩
  · rw [nI_leI (by omega) (by omega)] at e
    refine ⟨4, 230, by omega, by omega, ?_, ?_⟩
    · rw [← y7]; exact hC.x7
    · rw [← y7, ← y6]
      refine sC_addCell hC hI h8 (by omega) ⟨by omega, by omega⟩ (fun σ' lab'' ad'' z7 z6 hC' => hP _ ⟨by omega, ⟨lab'', ad'', z7.trans y7, z6.trans y6, hC'⟩, kk + 4, nn + 230, by omega, by omega, ?_⟩)
      dsimp only
      rw [nI_1, y7, y6]
theorem RR.congr {ρ : RSt} {μ μ' : MSt} (h : RR ρ μ) (h1 : ∀ k : Nat, sc1 k ∨ (50 ≤ k ∧ k < 55) → μ'.1 k = μ.1 k) (h2 : ∀ k i : Nat, sc2 k i → μ'.2.1 k i = μ.2.1 k i) (h3 : (∀ i, μ'.2.2 1 i = μ.2.2 1 i) ∧ (∀ i, μ'.2.2 13 i = μ.2.2 13 i) ∧ μ'.2.2 19 0 = μ.2.2 19 0) : RR ρ μ' :=
  ⟨fun k hk => by rw [h1 k (Or.inl hk)]; exact h.1 k hk, fun k i hk => by rw [h2 k i hk]; exact h.2.1 k i hk, ⟨fun i => by rw [h3.1]; exact h.2.2.1.1 i, fun i => by rw [h3.2.1]; exact h.2.2.1.2.1 i, by rw [h3.2.2]; exact h.2.2.1.2.2⟩, fun i hi => by rw [h1 (50 + i) (Or.inr (by omega))]; exact h.2.2.2 i hi⟩
def mSl1 (μ : MSt) (fr to mi st k : Nat) : MSt := m2 (m2 (m2 (m2 (m2 (m2 μ 8 (6 * μ.1 9) fr) 8 (6 * μ.1 9 + 1) to) 8 (6 * μ.1 9 + 2) mi) 8 (6 * μ.1 9 + 3) st) 8 (6 * μ.1 9 + 4) (μ.1 14)) 8 (6 * μ.1 9 + 5) k
def mSl2 (μ : MSt) (fr to mi st k : Nat) : Nat → MSt
  | 0 => mSl1 μ fr to mi st k
  | i + 1 => m2 (mSl2 μ fr to mi st k i) 11 (μ.1 14 + i) (μ.1 9)
theorem mSl2_1 {fr to mi st k : Nat} : ∀ i : Nat, (mSl2 μ fr to mi st k i).1 = μ.1
  | 0 => rfl
  | i + 1 => mSl2_1 i
theorem mSl2_3 {fr to mi st k : Nat} : ∀ i : Nat, (mSl2 μ fr to mi st k i).2.2 = μ.2.2
  | 0 => rfl
  | i + 1 => mSl2_3 i
theorem mSl2_11 {fr to mi st k : Nat} : ∀ (i a q : Nat), (a ≠ 11 → (mSl2 μ fr to mi st k i).2.1 a q = (mSl1 μ fr to mi st k).2.1 a q) ∧ (a = 11 → (mSl2 μ fr to mi st k i).2.1 a q = if μ.1 14 ≤ q ∧ q < μ.1 14 + i then μ.1 9 else μ.2.1 a q)
  | 0, a, q => ⟨fun _ => rfl, fun e => by subst e; rw [if_neg (by omega)]; show (mSl1 μ fr to mi st k).2.1 11 q = _; unfold mSl1; rw [m2_n (by omega), m2_n (by omega), m2_n (by omega), m2_n (by omega), m2_n (by omega), m2_n (by omega)]⟩
  | i + 1, a, q => by
    obtain ⟨b1, b2⟩ := mSl2_11 (fr := fr) (to := to) (mi := mi) (st := st) (k := k) i a q
    refine ⟨fun h => (m2_n (fun e => absurd e h)).trans (b1 h), fun h => ?_⟩
    subst h
    by_cases e : q = μ.1 14 + i
    · subst e
      rw [if_pos (by omega)]
      exact m2_s
    · refine (m2_n (fun _ => e)).trans ((b2 rfl).trans ?_)
      by_cases e2 : μ.1 14 ≤ q ∧ q < μ.1 14 + i
      · rw [if_pos e2, if_pos (by omega)]
      · rw [if_neg e2, if_neg (by omega)]
theorem mSl2_eq {fr to mi st k a q : Nat} : (mSl2 μ fr to mi st k k).2.1 a q = (mSlo μ fr to mi st k).2.1 a q := by
  obtain ⟨b1, b2⟩ := mSl2_11 (μ := μ) (fr := fr) (to := to) (mi := mi) (st := st) (k := k) k a q
  by_cases e11 : a = 11
  · rw [b2 e11]
    subst e11
    by_cases e : μ.1 14 ≤ q ∧ q < μ.1 14 + k
    · rw [if_pos e, mSlo_11 e]
    · rw [if_neg e, mSlo_2 (by omega) (by omega)]
  · rw [b1 e11]
    obtain ⟨g0, g1, g2, g3, g4, g5⟩ := mSlo_8 (μ := μ) (fr := fr) (to := to) (mi := mi) (st := st) (k := k)
    by_cases e8 : a = 8 ∧ 6 * μ.1 9 ≤ q ∧ q < 6 * μ.1 9 + 6
    · obtain ⟨rfl, e⟩ := e8
      unfold mSl1
      rcases (show q = 6 * μ.1 9 ∨ q = 6 * μ.1 9 + 1 ∨ q = 6 * μ.1 9 + 2 ∨ q = 6 * μ.1 9 + 3 ∨ q = 6 * μ.1 9 + 4 ∨ q = 6 * μ.1 9 + 5 by omega) with rfl | rfl | rfl | rfl | rfl | rfl
      · rw [m2_n (by omega), m2_n (by omega), m2_n (by omega), m2_n (by omega), m2_n (by omega), m2_s, g0]
      · rw [m2_n (by omega), m2_n (by omega), m2_n (by omega), m2_n (by omega), m2_s, g1]
      · rw [m2_n (by omega), m2_n (by omega), m2_n (by omega), m2_s, g2]
      · rw [m2_n (by omega), m2_n (by omega), m2_s, g3]
      · rw [m2_n (by omega), m2_s, g4]
      · rw [m2_s, g5]
    · unfold mSl1
      by_cases ea : a = 8
      · subst ea
        rw [m2_n (by omega), m2_n (by omega), m2_n (by omega), m2_n (by omega), m2_n (by omega), m2_n (by omega)]
        by_cases el : q < 6 * μ.1 9
        · rw [mSlo_2 (by omega) (by omega)]
        · unfold mSlo
          dsimp only
          rw [if_neg e8, if_neg (fun e => absurd e.1 (by decide))]
      · rw [m2_n (by omega), m2_n (by omega), m2_n (by omega), m2_n (by omega), m2_n (by omega), m2_n (by omega), mSlo_2 (by omega) (by omega)]
end SLR
end
