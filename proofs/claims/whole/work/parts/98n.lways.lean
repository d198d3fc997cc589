section
/-! least: the reference's ways -/
section LR2
variable {ρ ρ' : RSt} {μ : MSt} {j : Nat}
def z43 (ρ : RSt) : Prop := ∀ q : Nat, q < 1600 → (ρ.2.2 43 q).toInt = 0
theorem d40 {i : Nat} (h : i < 1600) : nI i / 40 = nI (i / 40) ∧ nI i - nI i / 40 * 40 = nI (i % 40) := by
  have e : nI i / 40 = nI (i / 40) := by rw [show (40 : Int32) = nI 40 from rfl, nI_div (by omega) (by omega)]
  refine ⟨e, ?_⟩
  rw [e, show (40 : Int32) = nI 40 from rfl, nI_mul, nI_sub (by omega)]
  congr 1
  omega
theorem WI.ini : WI 40 (fun i j => if (40 * i + j) % 40 = (40 * i + j) / 40 then 0 else FAR) := by
  refine ⟨fun i j hi hj => ?_, fun i hi => ?_⟩
  · (try dsimp only)
    split
    · exact ⟨Int.le_refl _, by unfold FAR; decide⟩
    · exact ⟨by unfold FAR; decide, Int.le_refl _⟩
  · (try dsimp only)
    rw [if_pos (by omega)]
/-- one link more -/
theorem ways_lk {n K : Nat} {A B : Nat → Nat} {ln : Nat → Int} {w : Nat → Nat → Int} {k : Nat} {z : Int} (hN : NetOk n K A B ln) (hk : k < K) (hI : WI n w) (hS : WS n K A B ln w) (hL : WL K A B ln w k) (hz : (z = ln k ∧ ln k ≤ w (A k) (B k)) ∨ (z = w (A k) (B k) ∧ w (A k) (B k) ≤ ln k)) :
    WI n (fun i j => if (i = A k ∧ j = B k) ∨ (i = B k ∧ j = A k) then z else w i j) ∧ WS n K A B ln (fun i j => if (i = A k ∧ j = B k) ∨ (i = B k ∧ j = A k) then z else w i j) ∧ WL K A B ln (fun i j => if (i = A k ∧ j = B k) ∨ (i = B k ∧ j = A k) then z else w i j) (k + 1) := by
  obtain ⟨a1, a2, a3, a4, a5⟩ := hN.2.2 k hk
  have hw := hI.1 _ _ a1 a2
  have hF : FAR = 1000000000000 := rfl
  refine ⟨⟨fun i j hi hj => ?_, fun i hi => ?_⟩, fun g hg i j hi hj hlt => ?_, fun q hq hqK => ?_⟩
  · (try dsimp only)
    split
    · omega
    · exact hI.1 i j hi hj
  · (try dsimp only)
    rw [if_neg (by omega)]
    exact hI.2 i hi
  · (try dsimp only at hlt ⊢)
    have g1 := hg k hk
    have g2 : w (A k) (B k) < FAR → g (A k) - g (B k) ≤ w (A k) (B k) ∧ g (B k) - g (A k) ≤ w (A k) (B k) := fun hl => by
      have y1 := hS g hg _ _ a1 a2 hl
      have y2 := hS (fun c => - g c) (fun q hq => by have := hg q hq; (try dsimp only); omega) _ _ a1 a2 hl
      (try dsimp only at y2)
      omega
    by_cases c : (i = A k ∧ j = B k) ∨ (i = B k ∧ j = A k)
    · rw [if_pos c] at hlt ⊢
      rcases c with ⟨e1, e2⟩ | ⟨e1, e2⟩ <;> subst e1 <;> subst e2 <;> rcases hz with ⟨z1, z2⟩ | ⟨z1, z2⟩
      · omega
      · have := g2 (by omega); omega
      · omega
      · have := g2 (by omega); omega
    · rw [if_neg c] at hlt ⊢
      exact hS g hg i j hi hj hlt
  · (try dsimp only)
    have hl : q < k → w (A q) (B q) ≤ ln q ∧ w (B q) (A q) ≤ ln q := fun h => hL q h hqK
    by_cases e : q = k
    · subst e
      rw [if_pos (Or.inl ⟨rfl, rfl⟩), if_pos (Or.inr ⟨rfl, rfl⟩)]
      omega
    · have h1 := hl (by omega)
      constructor
      · split
        · rename_i c
          rcases c with ⟨e1, e2⟩ | ⟨e1, e2⟩ <;> rw [e1, e2] at h1 <;> omega
        · exact h1.1
      · split
        · rename_i c
          rcases c with ⟨e1, e2⟩ | ⟨e1, e2⟩ <;> rw [e1, e2] at h1 <;> omega
        · exact h1.2
theorem sR_ways {post : RSt → Prop} (hR : RR ρ μ) (hI : MI μ j) (hp : ∀ ρ' w, lsK ρ ρ' → WV ρ' (μ.1 14) w → WOK (μ.1 14) (μ.1 26) (μ.2.1 23) (μ.2.1 24) (nLn μ) w → z43 ρ' → post ρ') : wpR_ways_0 post ρ := by
  have hN := ntOk hI
  have hc := hI.cs
  have hn : μ.1 14 ≤ 40 := by omega
  have hF : FAR = 1000000000000 := rfl
  refine gLP.up 1600 (fun i (x : RSt × Int32) => i ≤ 1600 ∧ lsK ρ x.1 ∧ (∀ q : Nat, q < i → (x.1.2.2 42 q).toInt = (if q % 40 = q / 40 then 0 else FAR) ∧ (x.1.2.2 43 q).toInt = 0) ∧ x.2 = nI i) (fun i x h => h.1) ?_ (j := 0) ⟨Nat.zero_le _, lsK.rf, fun q hq => absurd hq (Nat.not_lt_zero _), rfl⟩
  rintro i ⟨s, y⟩ P ⟨hi, k1, v1, e⟩ hP
  (try dsimp only at k1 v1 e)
  subst e
  (try dsimp only)
  refine ⟨fun e => ?_, fun e => ?_⟩
  rotate_left
  · rw [show (1600 : Int32) = nI 1600 from rfl, nI_leI (by omega) (by omega)] at e
    have hi' : i < 1600 := by omega
    obtain ⟨d1, d2⟩ := d40 hi'
    have hw : ∀ w : Int64, w.toInt = (if i % 40 = i / 40 then 0 else FAR) → wpR_ways_32 post (fun s v1 => P (s, v1)) s (nI i) (nI i) w := by
      intro w hw
      refine ⟨vp_in_nI (by omega) (by omega), ?_⟩
      intro s13 hs13
      have k13 : lsK ρ s13 := by rw [hs13]; exact k1.tr (lsK.J (by decide))
      have v13 : ∀ q : Nat, q < i + 1 → (s13.2.2 42 q).toInt = (if q % 40 = q / 40 then 0 else FAR) := fun q hq => by
        rw [hs13, nI_clamp (by omega), rJ_s]
        by_cases eq : q = i
        · subst eq; rw [if_pos rfl]; exact hw
        · rw [if_neg eq]; exact (v1 q (by omega)).1
      have w13 : ∀ q : Nat, q < i → (s13.2.2 43 q).toInt = 0 := fun q hq => by rw [hs13, rJ_n (by decide)]; exact (v1 q hq).2
      clear hs13
      refine ⟨vp_in_nI (by omega) (by omega), ?_⟩
      intro s14 hs14
      refine hP _ ⟨by omega, by rw [hs14]; exact k13.tr (lsK.J (by decide)), fun q hq => ?_, by rw [nI_1]⟩
      (try dsimp only)
      rw [hs14, rJ_n (by decide), nI_clamp (by omega), rJ_s]
      refine ⟨v13 q hq, ?_⟩
      by_cases eq : q = i
      · subst eq; rw [if_pos rfl]; rfl
      · rw [if_neg eq]; exact w13 q (by omega)
    refine ⟨fun e2 => hw _ ?_, fun e2 => hw _ ?_⟩
    · rw [d2, d1, nI_eq (by omega) (by omega)] at e2
      rw [if_neg e2]; rfl
    · rw [d2, d1, nI_eq (by omega) (by omega)] at e2
      rw [if_pos e2]; rfl
  rw [show (1600 : Int32) = nI 1600 from rfl, nI_leI (by omega) (by omega)] at e
  have ei : i = 1600 := by omega
  subst ei
  have hz : z43 s := fun q hq => (v1 q hq).2
  have hWI0 := WI.ini
  refine gLP.up (μ.1 26) (fun k (x : RSt × Int32) => k ≤ μ.1 26 ∧ lsK ρ x.1 ∧ z43 x.1 ∧ (∃ w, WV x.1 (μ.1 14) w ∧ WI (μ.1 14) w ∧ WS (μ.1 14) (μ.1 26) (μ.2.1 23) (μ.2.1 24) (nLn μ) w ∧ WL (μ.1 26) (μ.2.1 23) (μ.2.1 24) (nLn μ) w k) ∧ x.2 = nI k) (fun i x h => h.1) ?_ (j := 0) ⟨Nat.zero_le _, k1, hz, ⟨(fun i j => if (40 * i + j) % 40 = (40 * i + j) / 40 then 0 else FAR), fun i j hi hj => (v1 _ (by omega)).1, ⟨fun i j hi hj => hWI0.1 i j (by omega) (by omega), fun i hi => hWI0.2 i (by omega)⟩, fun g hg i j hi hj hlt => ?_, fun k hk => absurd hk (Nat.not_lt_zero _)⟩, rfl⟩
  rotate_left
  · (try dsimp only at hlt ⊢)
    by_cases c : (40 * i + j) % 40 = (40 * i + j) / 40
    · rw [if_pos c]
      have : i = j := by omega
      subst this
      omega
    · rw [if_neg c] at hlt; omega
  clear hP v1 k1 hz
  rintro k ⟨s, y⟩ P ⟨hk, k1, hz, ⟨w, hV, hWI, hWS, hWL⟩, e⟩ hP
  (try dsimp only at k1 hz hV e)
  subst e
  (try dsimp only)
  have hRs := k1.rr hR
  have e26 : s.1 26 = nI (μ.1 26) := hRs.s1 (by unfold sc1; omega)
  unfold wpR_ways_48_F
  rw [e26, nI_leI (by omega) (by omega)]
  refine ⟨fun e => ?_, fun e => ?_⟩
  rotate_left
  · have hk' : k < μ.1 26 := by omega
    obtain ⟨a1, a2, a3, a4, a5⟩ := hN.2.2 k hk'
    have hlen := hI.2.2.2.2.2.2.2.1 k hk'
    have e23 : s.2.1 23 (nI k).toNatClampNeg = nI (μ.2.1 23 k) := by rw [nI_clamp (by omega)]; exact hRs.s2 (by unfold sc2; omega)
    have e24 : s.2.1 24 (nI k).toNatClampNeg = nI (μ.2.1 24 k) := by rw [nI_clamp (by omega)]; exact hRs.s2 (by unfold sc2; omega)
    have e25 : s.2.1 25 (nI k).toNatClampNeg = nI (μ.2.1 25 k) := by rw [nI_clamp (by omega)]; exact hRs.s2 (by unfold sc2; omega)
    rw [e23, e24, e25]
    generalize hA : μ.2.1 23 k = a at *
    generalize hB : μ.2.1 24 k = b at *
    have i1 : (40 : Int32) * nI a + nI b = nI (40 * a + b) := ix rfl rfl
    have i2 : (40 : Int32) * nI b + nI a = nI (40 * b + a) := ix rfl rfl
    rw [i1, i2]
    refine ⟨vp_in_nI (by omega) (by omega), vp_in_nI (by omega) (by omega), ?_⟩
    intro x10 hx10
    refine ⟨vp_in_nI (by omega) (by omega), vp_in_nI (by omega) (by omega), ?_⟩
    intro x11 hx11
    subst hx10
    subst hx11
    have hw := hV a b a1 a2
    have c1 : (nI (40 * a + b)).toNatClampNeg = 40 * a + b := nI_clamp (by omega)
    have c2 : (nI (40 * b + a)).toNatClampNeg = 40 * b + a := nI_clamp (by omega)
    have tl : ((nI (μ.2.1 25 k)).toInt64).toInt = nLn μ k := by rw [Int32.toInt_toInt64, nI_toInt (by omega)]; rfl
    have hrest : ∀ z : Int64, (z.toInt = nLn μ k ∧ nLn μ k ≤ w a b) ∨ (z.toInt = w a b ∧ w a b ≤ nLn μ k) → wpR_ways_128 post (fun s v1 => P (s, v1)) s (nI k) (nI (40 * a + b)) (nI (40 * b + a)) (nI (40 * a + b)) z := by
      intro z hz'
      refine ⟨vp_in_nI (by omega) (by omega), ?_⟩
      intro s7 hs7
      rw [c1] at hs7
      have k7 : lsK ρ s7 := by rw [hs7]; exact k1.tr (lsK.J (by decide))
      have z7 : z43 s7 := fun q hq => by rw [hs7, rJ_n (by decide)]; exact hz q hq
      have v7 : ∀ q : Nat, s7.2.2 42 q = if q = 40 * a + b then z else s.2.2 42 q := fun q => by rw [hs7, rJ_s]
      clear hs7
      refine ⟨vp_in_nI (by omega) (by omega), vp_in_nI (by omega) (by omega), ?_⟩
      rw [c1, c2, v7, if_pos rfl]
      intro s8 hs8
      obtain ⟨l1, l2, l3⟩ := ways_lk (z := z.toInt) hN hk' hWI hWS hWL (by rw [hA, hB]; exact hz')
      rw [hA, hB] at l1 l2 l3
      refine hP _ ⟨by omega, by rw [hs8]; exact k7.tr (lsK.J (by decide)), fun q hq => by (try dsimp only); rw [hs8, rJ_n (by decide)]; exact z7 q hq, ⟨_, fun i j hi hj => ?_, l1, l2, l3⟩, by rw [nI_1]⟩
      (try dsimp only)
      rw [hs8, rJ_s, v7]
      by_cases q1 : i = b ∧ j = a
      · rw [if_pos (by omega), if_pos (Or.inr q1)]
      · rw [if_neg (by omega)]
        by_cases q2 : i = a ∧ j = b
        · rw [if_pos (by omega), if_pos (Or.inl q2)]
        · rw [if_neg (by omega), if_neg (by omega)]
          exact hV i j hi hj
    refine ⟨vp_in_nI (by omega) (by omega), vp_in_nI (by omega) (by omega), ?_⟩
    rw [c1, lgz_ge, tl, hw]
    refine ⟨fun e2 => ⟨vp_in_nI (by omega) (by omega), hrest _ (Or.inr ⟨hw, e2⟩)⟩, fun e2 => ⟨vp_in_nI (by omega) (by omega), hrest _ (Or.inl ⟨tl, by omega⟩)⟩⟩
  have ek : k = μ.1 26 := by omega
  subst ek
  refine gLP.up (μ.1 14) (fun m (x : RSt × Int32) => m ≤ μ.1 14 ∧ lsK ρ x.1 ∧ z43 x.1 ∧ (∃ w, WV x.1 (μ.1 14) w ∧ WI (μ.1 14) w ∧ WS (μ.1 14) (μ.1 26) (μ.2.1 23) (μ.2.1 24) (nLn μ) w ∧ WL (μ.1 26) (μ.2.1 23) (μ.2.1 24) (nLn μ) w (μ.1 26) ∧ WT (μ.1 14) w m) ∧ x.2 = nI m) (fun i x h => h.1) ?_ (j := 0) ⟨Nat.zero_le _, k1, hz, ⟨w, hV, hWI, hWS, hWL, fun k i j hk => absurd hk (Nat.not_lt_zero _)⟩, rfl⟩
  clear e26 hRs hP hWL hWS hWI hV hz k1
  rintro m ⟨s, y⟩ P ⟨hm, k1, hz, ⟨D, hV, hWI, hWS, hWL, hWT⟩, e⟩ hP
  (try dsimp only at k1 hz hV e)
  subst e
  (try dsimp only)
  have e14 : ∀ s, lsK ρ s → s.1 14 = nI (μ.1 14) := fun s ks => (ks.rr hR).s1 (by unfold sc1; omega)
  unfold wpR_ways_149_F
  rw [e14 s k1, nI_leI (by omega) (by omega)]
  refine ⟨fun e => ?_, fun e => ?_⟩
  · have em : m = μ.1 14 := by omega
    subst em
    exact hp s D k1 hV ⟨hWI, hWS, hWT, hWL⟩ hz
  have hm' : m < μ.1 14 := by omega
  refine gLP.up (μ.1 14) (fun i (x : RSt × Int32 × Int32) => i ≤ μ.1 14 ∧ lsK ρ x.1 ∧ z43 x.1 ∧ WV x.1 (μ.1 14) (fwp D m (40 * i)) ∧ x.2 = (nI m, nI i)) (fun i x h => h.1) ?_ (j := 0) ⟨Nat.zero_le _, k1, hz, hV.cg (fun i j hi hj => by unfold fwp; rw [if_neg (by omega)]), rfl⟩
  clear hV hz k1 e
  rintro i ⟨s, y⟩ P' ⟨hi, k1, hz, hV, e⟩ hP'
  (try dsimp only at k1 hz hV e)
  subst e
  (try dsimp only)
  unfold wpR_ways_159_F
  rw [e14 s k1, nI_leI (by omega) (by omega)]
  refine ⟨fun e => ?_, fun e => ?_⟩
  · have ei : i = μ.1 14 := by omega
    subst ei
    exact hP _ ⟨by omega, k1, hz, ⟨_, hV, hWI.fwp hm', hWS.fwp hWI hm', hWL.fwp, hWT.next hWI hm' hn⟩, by rw [nI_1]⟩
  have hi' : i < μ.1 14 := by omega
  refine gLP.up (μ.1 14) (fun j (x : RSt × Int32 × Int32 × Int32) => j ≤ μ.1 14 ∧ lsK ρ x.1 ∧ z43 x.1 ∧ WV x.1 (μ.1 14) (fwp D m (40 * i + j)) ∧ x.2 = (nI m, nI i, nI j)) (fun i x h => h.1) ?_ (j := 0) ⟨Nat.zero_le _, k1, hz, hV, rfl⟩
  clear hV hz k1 e
  rintro j' ⟨s, y⟩ P'' ⟨hj, k1, hz, hV, e⟩ hP''
  (try dsimp only at k1 hz hV e)
  subst e
  (try dsimp only)
  unfold wpR_ways_169_F
  rw [e14 s k1, nI_leI (by omega) (by omega)]
  refine ⟨fun e => ?_, fun e => ?_⟩
  · have ej : j' = μ.1 14 := by omega
    subst ej
    exact hP' _ ⟨by omega, k1, hz, hV.cg (fun u v hu hv => by
      unfold fwp
      by_cases c : 40 * u + v < 40 * (i + 1)
      · rw [if_pos c, if_pos (by omega)]
      · rw [if_neg c, if_neg (by omega)]), by rw [nI_1]⟩
  have hj' : j' < μ.1 14 := by omega
  have i1 : (40 : Int32) * nI i + nI m = nI (40 * i + m) := ix rfl rfl
  have i2 : (40 : Int32) * nI m + nI j' = nI (40 * m + j') := ix rfl rfl
  have i3 : (40 : Int32) * nI i + nI j' = nI (40 * i + j') := ix rfl rfl
  rw [i1, i2, i3, nI_clamp (n := 40 * i + m) (by omega), nI_clamp (n := 40 * m + j') (by omega), nI_clamp (n := 40 * i + j') (by omega)]
  refine ⟨vp_in_nI (by omega) (by omega), vp_in_nI (by omega) (by omega), ?_⟩
  intro x2 hx2
  have r1 := hV i m hi' hm'
  have r2 := hV m j' hm' hj'
  have r3 := hV i j' hi' hj'
  rw [fwp_im hWI hm'] at r1
  rw [fwp_mj hWI hm'] at r2
  have r3' : fwp D m (40 * i + j') i j' = D i j' := by unfold fwp; rw [if_neg (by omega)]
  rw [r3'] at r3
  have b1 := hWI.1 i m hi' hm'
  have b2 := hWI.1 m j' hm' hj'
  have t2 : x2.toInt = D i m + D m j' := by rw [hx2, i64_add (by rw [r1, r2]; omega) (by rw [r1, r2]; omega), r1, r2]
  clear hx2
  refine ⟨vp_in_nI (by omega) (by omega), ?_⟩
  rw [lgz_ge, t2, r3]
  have hstep : ∀ u v : Nat, u < μ.1 14 → v < μ.1 14 → ¬ (u = i ∧ v = j') → fwp D m (40 * i + (j' + 1)) u v = fwp D m (40 * i + j') u v := fun u v hu hv hne => by
    unfold fwp
    by_cases c : 40 * u + v < 40 * i + j'
    · rw [if_pos c, if_pos (by omega)]
    · rw [if_neg c, if_neg (by omega)]
  have hself : fwp D m (40 * i + (j' + 1)) i j' = fwm D m i j' := by unfold fwp; rw [if_pos (by omega)]
  refine ⟨fun e2 => hP'' _ ⟨by omega, k1, hz, fun u v hu hv => ?_, by rw [nI_1]⟩, fun e2 => ⟨vp_in_nI (by omega) (by omega), ?_⟩⟩
  · (try dsimp only)
    by_cases c : u = i ∧ v = j'
    · obtain ⟨rfl, rfl⟩ := c
      rw [hself, r3]
      unfold fwm
      rw [if_neg (by omega)]
    · rw [hstep u v hu hv c]; exact hV u v hu hv
  · intro s4 hs4
    refine hP'' _ ⟨by omega, by rw [hs4]; exact k1.tr (lsK.J (by decide)), fun q hq => by (try dsimp only); rw [hs4, rJ_n (by decide)]; exact hz q hq, fun u v hu hv => ?_, by rw [nI_1]⟩
    (try dsimp only)
    rw [hs4, rJ_s]
    by_cases c : u = i ∧ v = j'
    · obtain ⟨rfl, rfl⟩ := c
      rw [if_pos rfl, hself, t2]
      unfold fwm
      rw [if_pos (by omega)]
    · rw [if_neg (by omega), hstep u v hu hv c]; exact hV u v hu hv
end LR2
end
