section
/-! slope: the reference; what holds afterwards -/
section SLS
variable {ρ : RSt} {μ : MSt} {j : Nat}
theorem rO_slope {post : Int32 → RSt → Prop} {v1 v2 v3 v4 v5 : Int32} (hR : RR ρ μ) (hI : MI μ j)
    (h1 : plc v1 → plc v2 → nmb v3 1 20 → nmb v4 0 9 → nmb v5 1 4 → μ.1 9 < 10 → ∀ fr to mi st k : Nat, (fr < 10 ∧ to < 10 ∧ (1 ≤ mi ∧ mi ≤ 20) ∧ st ≤ 9 ∧ (1 ≤ k ∧ k ≤ 4)) → v1 = nI fr → v2 = nI to → v3 = nI mi → v4 = nI st → v5 = nI k → ∀ ρ', RR ρ' (mSlo μ fr to mi st k) → ρ'.1 0 = 0 → post (nI (μ.1 9)) ρ')
    (hi : ¬ (plc v1 ∧ plc v2) → ∀ ρ', RR ρ' μ → ρ'.1 0 = 1 → post 0 ρ')
    (ha : plc v1 → plc v2 → ¬ (nmb v3 1 20 ∧ nmb v4 0 9 ∧ nmb v5 1 4) → ∀ ρ', RR ρ' μ → ρ'.1 0 = 2 → post 0 ρ')
    (hu : plc v1 → plc v2 → nmb v3 1 20 → nmb v4 0 9 → nmb v5 1 4 → ¬ μ.1 9 < 10 → ∀ ρ', RR ρ' μ → ρ'.1 0 = 3 → post 0 ρ') : wpR_slope_0 post ρ v1 v2 v3 v4 v5 := by
  have hc := hI.cs
  have hc0 := hI.c0
  unfold mC0 at hc0
  rintro s1 rfl
  have hR' := hR.sI (k := 0) 0 (by unfold sc1; omega) (by decide)
  have e9 := hR'.s1 (k := 9) (by unfold sc1; omega)
  have e14 := hR'.s1 (k := 14) (by unfold sc1; omega)
  have hbad : ¬ (plc v1 ∧ plc v2) → wpR_slope_20 post (rsI ρ 0 0) v1 v2 v3 v4 v5 := by
    intro g
    unfold wpR_slope_20 wpR_slope_25
    exact sR_t1 ⟨fun _ => hi g _ (hR'.sI 1 (by unfold sc1; omega) (by decide)) rfl, fun e => absurd e (by decide)⟩
  refine sR_noPlaceP (fun p1 => ⟨fun e => absurd rfl e, fun _ => sR_noPlaceP (fun p2 => ⟨fun _ => sR_t0 ⟨fun e => absurd rfl e, fun _ => ?_⟩, fun e => absurd rfl e⟩) (fun p2 => ⟨fun e => absurd e (by decide), fun _ => hbad (fun g => p2 g.2)⟩)⟩) (fun p1 => ⟨fun _ => hbad (fun g => p1 g.1), fun e => absurd e (by decide)⟩)
  have hbad2 : ¬ (nmb v3 1 20 ∧ nmb v4 0 9 ∧ nmb v5 1 4) → wpR_slope_71 post (rsI ρ 0 0) v1 v2 v3 v4 v5 := by
    intro g
    unfold wpR_slope_71 wpR_slope_76
    exact sR_t1 ⟨fun _ => ha p1 p2 g _ (hR'.sI 2 (by unfold sc1; omega) (by decide)) rfl, fun e => absurd e (by decide)⟩
  refine sR_inP (lo := 1) (hi := 20) rfl rfl (fun p3 => ⟨fun e => absurd e (by decide), fun _ => sR_inP (lo := 0) (hi := 9) rfl rfl (fun p4 => ⟨fun e => absurd e (by decide), fun _ => sR_inP (lo := 1) (hi := 4) rfl rfl (fun p5 => ⟨fun _ => ?_, fun e => absurd e (by decide)⟩) (fun g => ⟨fun e => absurd rfl e, fun _ => hbad2 (fun e => g e.2.2)⟩)⟩) (fun g => ⟨fun _ => hbad2 (fun e => g e.2.1), fun e => absurd rfl e⟩)⟩) (fun g => ⟨fun _ => hbad2 (fun e => g e.1), fun e => absurd rfl e⟩)
  refine sR_t0 ⟨fun e => absurd rfl e, fun _ => ?_⟩
  obtain ⟨fr, w1, e1⟩ := plc_of p1
  obtain ⟨to, w2, e2⟩ := plc_of p2
  obtain ⟨mi, w3, w3', e3⟩ := nmb_of (a := 1) (b := 20) rfl rfl (by omega) (by omega) p3
  obtain ⟨st, w4, w4', e4⟩ := nmb_of (a := 0) (b := 9) rfl rfl (by omega) (by omega) p4
  obtain ⟨k, hk1, hk4, e5⟩ := nmb_of (a := 1) (b := 4) rfl rfl (by omega) (by omega) p5
  rw [e9, show (10 : Int32) = nI 10 from rfl, nI_eq (by omega) (by omega)]
  refine ⟨fun g => ?_, fun g => ?_⟩
  · unfold wpR_slope_105 wpR_slope_110
    exact sR_t1 ⟨fun e => absurd e (by decide), fun _ => hu p1 p2 p3 p4 p5 (by omega) _ (hR'.sI 3 (by unfold sc1; omega) (by decide)) rfl⟩
  have h8 : μ.1 9 < 10 := by omega
  have hh := h1 p1 p2 p3 p4 p5 h8 fr to mi st k ⟨w1, w2, ⟨w3, w3'⟩, w4', ⟨hk1, hk4⟩⟩ e1 e2 e3 e4 e5
  refine ⟨fun _ => sR_t0 ⟨fun _ => ?_, fun e => absurd rfl e⟩, fun e => absurd (show (rsI ρ 0 0).1 14 + v5 ≤ 40 by rw [e14, e5, nI_add, show (40 : Int32) = nI 40 from rfl, nI_leI (by omega) (by omega)]; omega) e⟩
  rw [e9, show (6 : Int32) * nI (μ.1 9) = nI (6 * μ.1 9) by rw [show (6 : Int32) = nI 6 from rfl, nI_mul], show nI (6 * μ.1 9) + 1 = nI (6 * μ.1 9 + 1) from nI_add _ 1, show nI (6 * μ.1 9) + 2 = nI (6 * μ.1 9 + 2) from nI_add _ 2, show nI (6 * μ.1 9) + 3 = nI (6 * μ.1 9 + 3) from nI_add _ 3, show nI (6 * μ.1 9) + 4 = nI (6 * μ.1 9 + 4) from nI_add _ 4, show nI (6 * μ.1 9) + 5 = nI (6 * μ.1 9 + 5) from nI_add _ 5, nI_clamp (by omega), nI_clamp (by omega), nI_clamp (by omega), nI_clamp (by omega), nI_clamp (by omega), nI_clamp (by omega)]
  refine ⟨vp_in_nI (by omega) (by omega), ?_⟩
  rintro s8 rfl
  refine ⟨vp_in_nI (by omega) (by omega), ?_⟩
  rintro s9 rfl
  refine ⟨vp_in_nI (by omega) (by omega), ?_⟩
  rintro s10 rfl
  refine ⟨vp_in_nI (by omega) (by omega), ?_⟩
  rintro s11 rfl
  refine ⟨vp_in_nI (by omega) (by omega), ?_⟩
  rintro s12 rfl
  refine ⟨vp_in_nI (by omega) (by omega), ?_⟩
  rintro s13 rfl
  have q6 : RR _ (mSl1 μ fr to mi st k) := (((((hR'.u2 (k := 8) (i := 6 * μ.1 9) e1 (by decide) (by decide)).u2 (k := 8) (i := 6 * μ.1 9 + 1) e2 (by decide) (by decide)).u2 (k := 8) (i := 6 * μ.1 9 + 2) e3 (by decide) (by decide)).u2 (k := 8) (i := 6 * μ.1 9 + 3) e4 (by decide) (by decide)).u2 (k := 8) (i := 6 * μ.1 9 + 4) (n := μ.1 14) (v := (rsI ρ 0 0).1 14) e14 (by decide) (by decide)).u2 (k := 8) (i := 6 * μ.1 9 + 5) e5 (by decide) (by decide)
  refine gLP.up k (fun i (x : RSt × Int32 × Int32) => i ≤ k ∧ RR x.1 (mSl2 μ fr to mi st k i) ∧ x.1.1 0 = 0 ∧ x.2 = (nI k, nI i)) (fun i x h => h.1) ?_ (j := 0) ⟨Nat.zero_le _, q6, rfl, by rw [e5]; rfl⟩
  rintro i ⟨s, y⟩ P ⟨hik, hS, ht, e⟩ hP
  dsimp only at e hS ht
  subst e
  dsimp only
  have f9 := hS.s1 (k := 9) (by unfold sc1; omega)
  have f14 := hS.s1 (k := 14) (by unfold sc1; omega)
  rw [mSl2_1] at f9 f14
  refine ⟨fun e => ?_, fun e => ?_⟩
  · rw [nI_leI (by omega) (by omega)] at e
    obtain rfl : i = k := by omega
    rintro s2 rfl
    rintro s3 rfl
    have z1 := hS.u1 (k := 14) (n := μ.1 14 + i) (v := s.1 14 + nI i) (by rw [f14, nI_add]) (by decide) (by decide)
    have z2 := z1.u1 (k := 9) (n := μ.1 9 + 1) (v := s.1 9 + 1) (by rw [f9, nI_1]) (by decide) (by decide)
    have e8 : (rsI (rsI s 14 (s.1 14 + nI i)) 9 ((rsI s 14 (s.1 14 + nI i)).1 9 + 1)).1 9 - 1 = nI (μ.1 9) := by
      show s.1 9 + 1 - 1 = _
      rw [f9, nI_1, nI_pred]
    rw [e8]
    refine hh _ ?_ ht
    refine RR.congr z2 (fun q hq => ?_) (fun a q _ => ?_) ⟨fun i => ?_, fun i => ?_, ?_⟩
    · show (if q = 14 then μ.1 14 + i else if q = 9 then μ.1 9 + 1 else μ.1 q) = va_up (va_up (mSl2 μ fr to mi st i i).1 14 (μ.1 14 + i)) 9 (μ.1 9 + 1) q
      rw [up_ap, up_ap, mSl2_1]
      by_cases a : q = 14
      · rw [if_pos a, if_neg (by omega), if_pos a]
      · rw [if_neg a, if_neg a]
    · exact mSl2_eq.symm
    · show μ.2.2 1 _ = (mSl2 μ fr to mi st _ _).2.2 1 _; rw [mSl2_3]
    · show μ.2.2 13 _ = (mSl2 μ fr to mi st _ _).2.2 13 _; rw [mSl2_3]
    · show μ.2.2 19 0 = (mSl2 μ fr to mi st _ _).2.2 19 0; rw [mSl2_3]
  · rw [nI_leI (by omega) (by omega)] at e
    rw [f14, nI_add, nI_clamp (by omega)]
    refine ⟨vp_in_nI (by omega) (by omega), ?_⟩
    rintro s4 rfl
    exact hP _ ⟨by omega, hS.u2 (k := 11) (i := μ.1 14 + i) (n := μ.1 9) f9 (by decide) (by decide), ht, by rw [nI_1]⟩
theorem slope_MI {fr to mi st k : Nat} (hI : MI μ j) (h8 : μ.1 9 < 10) (h1 : fr < 10) (h2 : to < 10) (h3 : 1 ≤ mi ∧ mi ≤ 20) (h4 : st ≤ 9) (h5 : 1 ≤ k ∧ k ≤ 4) : MI (mSlo μ fr to mi st k) j := by
  have hz := hI.ze
  have hc := hI.cs
  have hc0 := hI.c0
  unfold mC0 at hc0
  have e1 : ∀ q, q ≠ 14 ∧ q ≠ 9 → (mSlo μ fr to mi st k).1 q = μ.1 q := fun q hk => mSlo_1 hk
  have eN : ∀ s, mNm (mSlo μ fr to mi st k) s = mNm μ s := fun s => mNm_eq (mSlo_2 (by omega) (by omega)) (fun _ => mSlo_2 (by omega) (by omega)) (fun _ _ _ => ⟨mSlo_2 (by omega) (by omega), mSlo_2 (by omega) (by omega)⟩)
  have eA : ∀ a, a ≠ 8 ∧ a ≠ 11 → (mSlo μ fr to mi st k).2.1 a = μ.2.1 a := fun a ha => by funext i; exact mSlo_2 (by omega) (by omega)
  have eB : (mSlo μ fr to mi st k).2.2 = μ.2.2 := rfl
  obtain ⟨g0, g1, g2, g3, g4, g5⟩ := mSlo_8 (μ := μ) (fr := fr) (to := to) (mi := mi) (st := st) (k := k)
  refine ⟨?_, ?_, ?_, ?_, ?_, ?_, ?_, ?_, ?_, ?_⟩
  · unfold mC0
    rw [mSlo_14, mSlo_9, e1 2 (by decide), e1 7 (by decide), e1 22 (by decide), e1 26 (by decide), e1 27 (by decide), e1 28 (by decide), e1 20 (by decide)]
    omega
  · unfold mLi; rw [e1 7 (by decide), eA 3 (by decide), eA 4 (by decide)]; exact hI.li
  · unfold mSl
    rw [mSlo_9, mSlo_14, eA 18 (by decide)]
    intro s hs
    by_cases e : s = μ.1 9
    · subst e
      rw [g0, g1, g2, g3, g4, g5, hz.2.1 _ (Nat.le_refl _)]
      omega
    · have := hI.sl s (by omega)
      rw [mSlo_2 (by omega) (by omega), mSlo_2 (by omega) (by omega), mSlo_2 (by omega) (by omega), mSlo_2 (by omega) (by omega), mSlo_2 (by omega) (by omega), mSlo_2 (by omega) (by omega)]
      omega
  · unfold mSn
    rw [mSlo_14, eA 10 (by decide)]
    intro c hc
    by_cases e : c < μ.1 14
    · exact hI.sn c e
    · rw [hz.2.2.1 _ (by omega), hz.2.2.1 _ (by omega), hz.2.2.1 _ (by omega), hz.2.2.1 _ (by omega)]
      omega
  · unfold mGr; rw [e1 22 (by decide), mSlo_9, e1 7 (by decide), eA 21 (by decide)]
    intro g hg
    have := hI.gr g hg
    omega
  · unfold mQu; rw [e1 7 (by decide), eA 6 (by decide), eA 5 (by decide), e1 22 (by decide), eA 21 (by decide)]; exact hI.qu
  · unfold mRu
    rw [mSlo_9, e1 7 (by decide), eA 15 (by decide), eA 16 (by decide), eA 17 (by decide), eA 18 (by decide)]
    refine ⟨fun s hs e => ?_, ?_⟩
    · have hs' : s < μ.1 9 := by
        by_cases e2 : s < μ.1 9
        · exact e2
        · rw [hz.2.1 s (by omega)] at e; exact absurd e (by decide)
      obtain ⟨a1, a2, a3, a4⟩ := hI.ru.1 s hs' e
      refine ⟨a1, a2, a3, fun k hk => ?_⟩
      obtain ⟨b1, b2, b3, b4, b5, b6⟩ := a4 k hk
      exact ⟨b1, b2, fun e => by have := b3 e; omega, b4, b5, b6⟩
    · obtain ⟨r, hr⟩ := hI.ru.2
      refine ⟨fun s => if s = μ.1 9 then 0 else r s + 1, fun s k' hs hk e => ?_⟩
      rw [eN] at e
      have hs' : s < μ.1 9 := by
        by_cases e2 : s < μ.1 9
        · exact e2
        · unfold mNm at e
          rw [hz.2.1 s (by omega), if_neg (by decide), Nat.zero_testBit] at e
          exact absurd e (by decide)
      dsimp only
      rw [if_neg (show ¬ s = μ.1 9 by omega)]
      by_cases ek : k' = μ.1 9
      · rw [if_pos ek]; omega
      · rw [if_neg ek]
        have := hr s k' hs' (by omega) e
        omega
  · unfold mLk; rw [e1 26 (by decide), mSlo_14, eA 23 (by decide), eA 24 (by decide), eA 25 (by decide)]
    intro q hq
    have := hI.lk q hq
    omega
  · unfold mWt; rw [mSlo_14, eA 12 (by decide), eB]
    intro c hc
    by_cases e : c < μ.1 14
    · exact hI.wt c e
    · rw [(hz.2.2.2.1 c (by omega)).1, (hz.2.2.2.1 c (by omega)).2]
      exact ⟨by omega, by decide, by decide⟩
  · unfold mZe
    rw [e1 7 (by decide), mSlo_9, mSlo_14, e1 22 (by decide), eA 4 (by decide), eA 6 (by decide), eA 18 (by decide), eA 10 (by decide), eA 12 (by decide), eA 21 (by decide), eB]
    exact ⟨hz.1, fun s hs => hz.2.1 s (by omega), fun i hi => hz.2.2.1 i (by omega), fun c hc => hz.2.2.2.1 c (by omega), hz.2.2.2.2⟩
end SLS
end
