section
/-! least: the reference, whole -/
section LR8
variable {ρ ρ' s s' : RSt} {μ : MSt} {j n : Nat} {w y : Nat → Nat → Int} {sp ms U V co : Nat → Int} {bf : Nat → Option Nat} {Tot : Int}
/-- what the reference answers -/
def LPR (μ : MSt) (W : Int64) : Prop := (W.toInt = 0 ∧ ∀ v : Nat, v < μ.1 14 → lMx μ v = 0) ∨
  ∃ (w y : Nat → Nat → Int) (sp ms U V : Nat → Int), WOK (μ.1 14) (μ.1 26) (μ.2.1 23) (μ.2.1 24) (nLn μ) w ∧ QJ (μ.1 14) (lMx μ) (lSx μ) (lTot μ) w y sp ms U V ∧
    (((∀ v : Nat, v < μ.1 14 → ms v ≤ 0) ∧ W.toInt = S2 (μ.1 14) y w) ∨
      (W = -1 ∧ ∃ (co : Nat → Int) (bf : Nat → Option Nat), SI (μ.1 14) w y (lMx μ) (lSx μ) sp U V co bf ∧ (∀ i j : Nat, i < μ.1 14 → j < μ.1 14 → AR w y (lMx μ) (lSx μ) co i j) ∧ (∃ v : Nat, v < μ.1 14 ∧ 0 < ms v) ∧ ∀ v : Nat, v < μ.1 14 → 0 < ms v → ¬ co (40 + v) < FAR))
theorem S2_0 {f : Nat → Nat → Int} : S2 n (fun _ _ => 0) f = 0 := sumZ_0 (fun i _ => sumZ_0 (fun j _ => Int.zero_mul _))
theorem S2_bd (hI : MI μ j) (hj : j ≤ 512) (hW : WOK (μ.1 14) (μ.1 26) (μ.2.1 23) (μ.2.1 24) (nLn μ) w) (hQ : QJ (μ.1 14) (lMx μ) (lSx μ) (lTot μ) w y sp ms U V) : 0 ≤ S2 (μ.1 14) y w ∧ S2 (μ.1 14) y w ≤ 1000000000000000 := by
  have hN := ntOk hI
  have hn := hN.1
  have hTot := lTot_bd hI hj
  have hsum : 0 ≤ sumZ ms (μ.1 14) := sumZ_nn (fun v hv => (hQ.2.2.2.1 v hv).2.2.1)
  have hb : ∀ i j : Nat, i < μ.1 14 → j < μ.1 14 → 0 ≤ y i j * w i j ∧ y i j * w i j ≤ 200000000000 := fun i j hi hj => by
    obtain ⟨a1, a2, a3⟩ := hQ.1 i j hi hj
    have b1 := hW.1.1 i j hi hj
    refine ⟨Int.mul_nonneg a1 b1.1, ?_⟩
    by_cases c : 0 < y i j
    · have b2 := hW.bd hN hi hj (a2 c).2.2
      have : y i j * w i j ≤ 40000000 * 3900 := Int.mul_le_mul (by omega) b2 b1.1 (by decide)
      omega
    · have : y i j = 0 := by omega
      rw [this, Int.zero_mul]; decide
  have h1 : ∀ i : Nat, i < μ.1 14 → 0 ≤ sumZ (fun j => y i j * w i j) (μ.1 14) ∧ sumZ (fun j => y i j * w i j) (μ.1 14) ≤ 8000000000000 := fun i hi => by
    have a1 := sumZ_nn (f := fun j => y i j * w i j) (n := μ.1 14) (fun j hj => (hb i j hi hj).1)
    have a2 := sumZ_c (f := fun j => y i j * w i j) (n := μ.1 14) (fun j hj => (hb i j hi hj).2)
    exact ⟨a1, by omega⟩
  have a1 := sumZ_nn (f := fun i => sumZ (fun j => y i j * w i j) (μ.1 14)) (n := μ.1 14) (fun i hi => (h1 i hi).1)
  have a2 := sumZ_c (f := fun i => sumZ (fun j => y i j * w i j) (μ.1 14)) (n := μ.1 14) (fun i hi => (h1 i hi).2)
  unfold S2
  exact ⟨a1, by omega⟩
theorem QJ_ini (hI : MI μ j) (hj : j ≤ 512) (hW : WOK (μ.1 14) (μ.1 26) (μ.2.1 23) (μ.2.1 24) (nLn μ) w) : QJ (μ.1 14) (lMx μ) (lSx μ) (lTot μ) w (fun _ _ => 0) (lSx μ) (lMx μ) (fun _ => 0) (fun _ => 0) := by
  refine ⟨fun i j hi hj => ⟨Int.le_refl _, fun g => absurd g (Int.lt_irrefl _), ?_⟩, fun i j hi hj _ _ _ => ⟨?_, fun g => absurd g (Int.lt_irrefl _)⟩, fun v hv => ⟨Int.le_refl _, Int.le_refl _, fun _ => rfl⟩, fun v hv => ?_, fun g => ?_⟩
  · show (0 : Int) ≤ lTot μ - lTot μ
    omega
  · have := (hW.1.1 i j hi hj).1
    (try dsimp only)
    omega
  · obtain ⟨a1, a2, -⟩ := lx_bd hI hj hv
    omega
  · rw [S2_0, sumZ_0 (fun i _ => ?_)]
    (try dsimp only)
    rw [Int.sub_self, Int.sub_self, Int.sub_self, Int.mul_zero]
theorem rO_least {post : Int64 → RSt → Prop} (hR : RR ρ μ) (hI : MI μ j) (hj : j ≤ 512) (hq : ∀ W ρ', RR ρ' μ → LPR μ W → post W ρ') : wpR_least_0 post ρ := by
  have hN := ntOk hI
  have hn := hN.1
  have hz : (0 : Int64).toInt = 0 := rfl
  have hx : ∀ v : Nat, v < μ.1 14 → lSx μ v = 0 ∨ lMx μ v = 0 := fun v hv => (lx_bd hI hj hv).2.2
  have hnar : vp_nar .boolean 0 = 0 ∧ vp_nar .boolean 1 = 1 := ⟨rfl, rfl⟩
  intro s20 hs20
  have hR20 : RR s20 μ := by rw [hs20]; exact hR.sI 0 (by unfold sc1; omega) (by decide)
  clear hs20
  refine sR_ways hR20 hI (fun s21 w k21 hV21 hW hz21 => ?_)
  have hR21 := k21.rr hR20
  clear k21 hR20 hR
  have e14 : ∀ s, lsK s21 s → s.1 14 = nI (μ.1 14) := fun s ks => (ks.rr hR21).s1 (by unfold sc1; omega)
  refine gLP.up (μ.1 14) (fun i (x : RSt × Int64 × Int32) => i ≤ μ.1 14 ∧ lsK s21 x.1 ∧ WV x.1 (μ.1 14) w ∧ z43 x.1 ∧ (∀ v : Nat, v < i → (x.1.2.2 44 v).toInt = lSx μ v - lMx μ v ∧ (x.1.2.1 47 v ≠ 0 ↔ 0 < lSx μ v) ∧ (x.1.2.1 48 v ≠ 0 ↔ 0 < lMx μ v)) ∧ ((0 ≤ x.2.1.toInt ∧ x.2.1.toInt ≤ i) ∧ (x.2.1.toInt = 0 → ∀ v : Nat, v < i → lMx μ v = 0)) ∧ x.2.2 = nI i) (fun i x h => h.1) ?_ (j := 0) ⟨Nat.zero_le _, lsK.rf, hV21, hz21, fun v hv => absurd hv (Nat.not_lt_zero _), ⟨⟨Int.le_refl _, Int.le_refl _⟩, fun _ v hv => absurd hv (Nat.not_lt_zero _)⟩, rfl⟩
  rintro i ⟨s, b, y0⟩ P ⟨hi, k1, hV, hz1, v1, hb, e⟩ hP
  (try dsimp only at k1 hV hz1 v1 hb e)
  subst e
  (try dsimp only)
  unfold wpR_least_13_F
  rw [e14 s k1, nI_leI (by omega) (by omega)]
  refine ⟨fun e => ?_, fun e => ?_⟩
  rotate_left
  · have hi' : i < μ.1 14 := by omega
    have hRs := k1.rr hR21
    have hd := mDep_lt hI hj hi'
    have hwt := (hI.2.2.2.2.2.2.2.2.1 i hi').1
    have hxb := lx_bd hI hj hi'
    refine sR_depth hRs (by omega) ?_
    have e12 : s.2.1 12 (nI i).toNatClampNeg = nI (μ.2.1 12 i) := by rw [nI_clamp (by omega)]; exact hRs.s2 (by unfold sc2; omega)
    rw [e12, nI_clamp (n := i) (by omega)]
    have tE : ((nI (mDep μ i) - nI (μ.2.1 12 i)).toInt64).toInt = lSx μ i - lMx μ i := by
      rw [Int32.toInt_toInt64, i32_sub (by rw [nI_toInt (by omega), nI_toInt (by omega)]; omega) (by rw [nI_toInt (by omega), nI_toInt (by omega)]; omega), nI_toInt (by omega), nI_toInt (by omega)]
      unfold lSx lMx exc
      split <;> split <;> omega
    refine ⟨vp_in_nI (by omega) (by omega), vp_in_nI (by omega) (by omega), ?_⟩
    intro s18 hs18
    have k18 : lsK s21 s18 := by rw [hs18]; exact k1.tr (lsK.J (by decide))
    have V18 : WV s18 (μ.1 14) w := fun a c ha hc => by rw [hs18, rJ_n (by decide)]; exact hV a c ha hc
    have z18 : z43 s18 := fun q hq => by rw [hs18, rJ_n (by decide)]; exact hz1 q hq
    have h18 : ∀ v, (s18.2.2 44 v).toInt = if v = i then lSx μ i - lMx μ i else (s.2.2 44 v).toInt := fun v => by
      rw [hs18, rJ_s]
      by_cases ev : v = i
      · rw [if_pos ev, if_pos ev]; exact tE
      · rw [if_neg ev, if_neg ev]
    have a18 : s18.2.1 = s.2.1 := by rw [hs18]; rfl
    clear hs18
    have hh : (s18.2.2 44 i).toInt = lSx μ i - lMx μ i := by rw [h18, if_pos rfl]
    -- those that get
    have hgets : ∀ s10 : RSt, lsK s21 s10 → WV s10 (μ.1 14) w → z43 s10 → (∀ v, (s10.2.2 44 v) = s18.2.2 44 v) → (∀ v : Nat, v < i + 1 → (s10.2.1 47 v ≠ 0 ↔ 0 < lSx μ v)) → (∀ v : Nat, s10.2.1 48 v = s.2.1 48 v) → ∀ g : Int32, (g = 0 ∧ ¬ 0 < lMx μ i) ∨ (g = 1 ∧ 0 < lMx μ i) → wpR_least_83 post (fun s v3 v5 => P (s, v3, v5)) s10 b (nI i) (nI i) g := by
      intro s10 k10 V10 z10 h10 a10 g10 g hg
      refine ⟨vp_in_nI (by omega) (by omega), ?_⟩
      intro s8 hs8
      rw [nI_clamp (n := i) (by omega)] at hs8
      have hgv : vp_nar .boolean g = g := by
        rcases hg with ⟨c, -⟩ | ⟨c, -⟩
        · rw [c]; exact hnar.1
        · rw [c]; exact hnar.2
      rw [hgv] at hs8
      have k8 : lsK s21 s8 := by rw [hs8]; exact k10.tr (lsK.A (by decide))
      have V8 : WV s8 (μ.1 14) w := by rw [hs8]; exact V10
      have z8 : z43 s8 := by rw [hs8]; exact z10
      have v8 : ∀ v : Nat, v < i + 1 → (s8.2.2 44 v).toInt = lSx μ v - lMx μ v ∧ (s8.2.1 47 v ≠ 0 ↔ 0 < lSx μ v) ∧ (s8.2.1 48 v ≠ 0 ↔ 0 < lMx μ v) := fun v hv => by
        have e44 : s8.2.2 44 v = s10.2.2 44 v := by rw [hs8]; rfl
        have e47 : s8.2.1 47 v = s10.2.1 47 v := by rw [hs8, rA_n (fun e => absurd e (by decide))]
        refine ⟨?_, by rw [e47]; exact a10 v hv, ?_⟩
        · rw [e44, h10, h18]
          by_cases ev : v = i
          · rw [if_pos ev, ev]
          · rw [if_neg ev]; exact (v1 v (by omega)).1
        · by_cases ev : v = i
          · subst ev
            rw [hs8, rA_s]
            rcases hg with ⟨c, c2⟩ | ⟨c, c2⟩
            · rw [c]; exact ⟨fun g => absurd rfl g, fun g => absurd g c2⟩
            · rw [c]; exact ⟨fun _ => c2, fun _ => by decide⟩
          · rw [hs8, rA_n (fun _ => ev), g10]; exact (v1 v (by omega)).2.2
      have h48 : s8.2.1 48 i = g := by rw [hs8, rA_s]
      clear hs8
      rw [nI_clamp (n := i) (by omega), h48]
      refine ⟨vp_in_nI (by omega) (by omega), fun e8 => ?_, fun e8 => ?_⟩
      · have hM0 : ¬ 0 < lMx μ i := by
          rcases hg with ⟨-, c⟩ | ⟨c, -⟩
          · exact c
          · rw [c] at e8; exact absurd e8 (by decide)
        refine hP _ ⟨by omega, k8, V8, z8, v8, ⟨?_, fun g v hv => ?_⟩, by rw [nI_1]⟩
        · (try dsimp only)
          rw [i64_add (by rw [hz]; omega) (by rw [hz]; omega), hz]; omega
        · (try dsimp only at g)
          rw [i64_add (by rw [hz]; omega) (by rw [hz]; omega), hz] at g
          by_cases ev : v = i
          · subst ev; omega
          · exact hb.2 (by omega) v (by omega)
      · have h1i : (1 : Int64).toInt = 1 := rfl
        refine hP _ ⟨by omega, k8, V8, z8, v8, ⟨?_, fun g v hv => ?_⟩, by rw [nI_1]⟩
        · (try dsimp only)
          rw [i64_add (by rw [h1i]; omega) (by rw [h1i]; omega), h1i]; omega
        · (try dsimp only at g)
          rw [i64_add (by rw [h1i]; omega) (by rw [h1i]; omega), h1i] at g
          omega
    have hgives : ∀ g : Int32, (g = 0 ∧ ¬ 0 < lSx μ i) ∨ (g = 1 ∧ 0 < lSx μ i) → wpR_least_61 post (fun s v3 v5 => P (s, v3, v5)) s18 b (nI i) (nI i) g := by
      intro g hg
      refine ⟨vp_in_nI (by omega) (by omega), ?_⟩
      intro s10 hs10
      rw [nI_clamp (n := i) (by omega)] at hs10
      have hgv : vp_nar .boolean g = g := by
        rcases hg with ⟨c, -⟩ | ⟨c, -⟩
        · rw [c]; exact hnar.1
        · rw [c]; exact hnar.2
      rw [hgv] at hs10
      have k10 : lsK s21 s10 := by rw [hs10]; exact k18.tr (lsK.A (by decide))
      have V10 : WV s10 (μ.1 14) w := by rw [hs10]; exact V18
      have z10 : z43 s10 := by rw [hs10]; exact z18
      have h10 : ∀ v, s10.2.2 44 v = s18.2.2 44 v := fun v => by rw [hs10]; rfl
      have a10 : ∀ v : Nat, v < i + 1 → (s10.2.1 47 v ≠ 0 ↔ 0 < lSx μ v) := fun v hv => by
        by_cases ev : v = i
        · subst ev
          rw [hs10, rA_s]
          rcases hg with ⟨c, c2⟩ | ⟨c, c2⟩
          · rw [c]; exact ⟨fun g => absurd rfl g, fun g => absurd g c2⟩
          · rw [c]; exact ⟨fun _ => c2, fun _ => by decide⟩
        · rw [hs10, rA_n (fun _ => ev), a18]; exact (v1 v (by omega)).2.1
      have g10 : ∀ v : Nat, s10.2.1 48 v = s.2.1 48 v := fun v => by rw [hs10, rA_n (fun e => absurd e (by decide)), a18]
      clear hs10
      rw [nI_clamp (n := i) (by omega), lgz_ge, h10, hh, hz]
      refine ⟨vp_in_nI (by omega) (by omega), fun e2 => hgets s10 k10 V10 z10 h10 a10 g10 0 (Or.inl ⟨rfl, by omega⟩), fun e2 => hgets s10 k10 V10 z10 h10 a10 g10 1 (Or.inr ⟨rfl, by omega⟩)⟩
    rw [lgz_le, hh, hz]
    exact ⟨vp_in_nI (by omega) (by omega), fun e2 => hgives 0 (Or.inl ⟨rfl, by omega⟩), fun e2 => hgives 1 (Or.inr ⟨rfl, by omega⟩)⟩
  have ei : i = μ.1 14 := by omega
  subst ei
  refine ⟨fun e2 => ?_, fun e2 => ?_⟩
  rotate_left
  · rw [lgc_eq] at e2
    exact hq 0 s (k1.rr hR21) (Or.inl ⟨rfl, hb.2 (by rw [e2]; rfl)⟩)
  clear e2 hb hP
  have hF0 : SF s μ w (fun _ _ => 0) (lSx μ) (lMx μ) := ⟨hV, fun i j hi hj => hz1 _ (by omega), fun v hv => (v1 v hv).1, fun v hv => (v1 v hv).2⟩
  have hQ0 := QJ_ini hI hj hW
  -- after seeking
  have hI123 : ∀ (s' : RSt) (y : Nat → Nat → Int) (sp ms U V : Nat → Int) (K : Int32 → RSt → Prop), lsK s21 s' → SF s' μ w y sp ms → QJ (μ.1 14) (lMx μ) (lSx μ) (lTot μ) w y sp ms U V → (∀ (r : Int32) (s'' : RSt) (co : Nat → Int) (bf : Nat → Option Nat), lsK s21 s'' → SF s'' μ w y sp ms → SV s'' (μ.1 14) co bf → SI (μ.1 14) w y (lMx μ) (lSx μ) sp U V co bf → (∀ i j : Nat, i < μ.1 14 → j < μ.1 14 → AR w y (lMx μ) (lSx μ) co i j) → ((r = -1 ∧ ∀ v : Nat, v < μ.1 14 → 0 < ms v → ¬ co (40 + v) < FAR) ∨ ∃ t : Nat, t < μ.1 14 ∧ r = nI t ∧ 0 < ms t ∧ co (40 + t) < FAR) → K r s'') → wpR_seeks_0 K s' := by
    intro s' y sp ms U V K ks hF hQ hK
    refine sR_seeks (ks.rr hR21) hI hj hF hQ hW (fun s'' co bf k2 a1 a2 a3 a4 => hK _ s'' co bf (ks.tr k2.ls) (hF.sk k2) a1 a2 a3 (Or.inl ⟨rfl, a4⟩)) (fun s'' co bf t k2 a1 a2 a3 a4 a5 a6 => hK _ s'' co bf (ks.tr k2.ls) (hF.sk k2) a1 a2 a3 (Or.inr ⟨t, a4, rfl, a5, a6⟩))
  have hmeas : ∀ (s' : RSt) (y : Nat → Nat → Int) (sp ms U V : Nat → Int), SF s' μ w y sp ms → QJ (μ.1 14) (lMx μ) (lSx μ) (lTot μ) w y sp ms U V → sumZ (fun v => if (s'.2.2 44 v).toInt < 0 then -(s'.2.2 44 v).toInt else 0) (μ.1 14) = sumZ ms (μ.1 14) := by
    intro s' y sp ms U V hF hQ
    refine sumZ_cg (fun v hv => ?_)
    have h1 := lx_or hI hj hQ hv
    rw [hF.2.2.1 v hv]
    split <;> omega
  refine hI123 s _ _ _ _ _ _ k1 hF0 hQ0 (fun r s14 co bf k14 hF14 hV14 hS14 hA14 hr => ?_)
  refine gLP.by (fun (x : RSt × Int64 × Int32) => lsK s21 x.1 ∧ ∃ (y : Nat → Nat → Int) (sp ms U V co : Nat → Int) (bf : Nat → Option Nat), SF x.1 μ w y sp ms ∧ QJ (μ.1 14) (lMx μ) (lSx μ) (lTot μ) w y sp ms U V ∧ SV x.1 (μ.1 14) co bf ∧ SI (μ.1 14) w y (lMx μ) (lSx μ) sp U V co bf ∧ (∀ i j : Nat, i < μ.1 14 → j < μ.1 14 → AR w y (lMx μ) (lSx μ) co i j) ∧ ((x.2.2 = -1 ∧ ∀ v : Nat, v < μ.1 14 → 0 < ms v → ¬ co (40 + v) < FAR) ∨ ∃ t : Nat, t < μ.1 14 ∧ x.2.2 = nI t ∧ 0 < ms t ∧ co (40 + t) < FAR) ∧ x.2.1.toInt = S2 (μ.1 14) y w) (fun x => (sumZ (fun v => if (x.1.2.2 44 v).toInt < 0 then -(x.1.2.2 44 v).toInt else 0) (μ.1 14)).toNat) ?_ _ ⟨k14, _, _, _, _, _, co, bf, hF14, hQ0, hV14, hS14, hA14, hr, by (try dsimp only); rw [S2_0]; rfl⟩
  clear hr hA14 hS14 hV14 hF14 k14 co bf s14 r hF0 hQ0 v1 hz1 hV k1 s b
  rintro P ⟨s, a, r⟩ ⟨k1, y, sp, ms, U, V, co, bf, hF, hQ, hV, hS, hA, hr, ha⟩ hP
  (try dsimp only at k1 hF hV hr ha)
  (try dsimp only)
  rcases hr with ⟨rfl, hnone⟩ | ⟨t, ht, rfl, hmt, hct⟩
  · refine ⟨fun _ => ?_, fun e => absurd (by decide) e⟩
    refine gLP.up (μ.1 14) (fun i (x : RSt × Int64 × Int32) => i ≤ μ.1 14 ∧ (∀ v : Nat, v < i → ms v ≤ 0) ∧ x = (s, a, nI i)) (fun i x h => h.1) ?_ (j := 0) ⟨Nat.zero_le _, fun v hv => absurd hv (Nat.not_lt_zero _), rfl⟩
    rintro i x P ⟨hi, v1, rfl⟩ hP
    (try dsimp only)
    unfold wpR_least_149_F
    rw [e14 s k1, nI_leI (by omega) (by omega)]
    refine ⟨fun e => hq a s (k1.rr hR21) (Or.inr ⟨w, y, sp, ms, U, V, hW, hQ, Or.inl ⟨fun v hv => v1 v (by omega), ha⟩⟩), fun e => ?_⟩
    have hi' : i < μ.1 14 := by omega
    have r44 := hF.2.2.1 i hi'
    have hxo := lx_or hI hj hQ hi'
    rw [nI_clamp (n := i) (by omega), lgz_ge, r44, hz]
    refine ⟨vp_in_nI (by omega) (by omega), fun e2 => hP _ ⟨by omega, fun v hv => ?_, by rw [nI_1]⟩, fun e2 => hq (-1) s (k1.rr hR21) (Or.inr ⟨w, y, sp, ms, U, V, hW, hQ, Or.inr ⟨rfl, co, bf, hS, hA, ⟨i, hi', by omega⟩, hnone⟩⟩)⟩
    by_cases ev : v = i
    · subst ev; omega
    · exact v1 v (by omega)
  · refine ⟨fun e => absurd e (nI_nn (by omega)), fun _ => ?_⟩
    obtain ⟨m, hm⟩ := (hS.2.2.2.2.2 t ht).2 hct
    obtain ⟨h, I, C, hPth⟩ := hS.path m t ht hct hm
    obtain ⟨hT1, hT2⟩ := hPth.ta hS hA hQ
    obtain ⟨⟨-, hIh⟩, -⟩ := hPth.2.1 h (Nat.le_refl _)
    have hci := (hT1 h (Nat.le_refl _)).1
    have hsp : 0 < sp (I h) := (hS.2.2.2.1 (I h) hIh).1 hci hPth.2.2.2
    have hroot := ((hS.1 (I h) hIh).2.2.2.2 hsp).1
    have hcb := (hS.bd hA hQ hW hN ht).1 hct
    have hcv := ((hS.1 t ht).2.2.2.1 hct).1
    have hv0 := (hQ.2.2.1 t ht).2.1
    refine sR_carries hI hj hF hQ hV hPth hT1 hT2 ht hmt hsp ⟨by omega, hcb⟩ (fun s4 am yq W k4 q1 q2 q3 hY hF4 hWt => ?_)
    have hQ4 := hQ.aug hS hA hW hN hx hPth ht hY q1 q2 q3
    have hb1 := S2_bd hI hj hW hQ
    have hb4 := S2_bd hI hj hW hQ4
    have hsum : S2 (μ.1 14) yq w = S2 (μ.1 14) y w + am * co (40 + t) := by
      rw [hY.2.2.1, hroot, Int.sub_zero]
    refine hI123 s4 _ _ _ _ _ _ (k1.tr k4) hF4 hQ4 (fun r s6 co6 bf6 k6 hF6 hV6 hS6 hA6 hr6 => hP _ ⟨k6, _, _, _, _, _, co6, bf6, hF6, hQ4, hV6, hS6, hA6, hr6, ?_⟩ ?_)
    · (try dsimp only)
      rw [i64_add (by rw [ha, hWt]; omega) (by rw [ha, hWt]; omega), ha, hWt, hsum]
    · (try dsimp only)
      rw [hmeas s6 _ _ _ _ _ hF6 hQ4, hmeas s _ _ _ _ _ hF hQ]
      have e := sumZ_ch (f := ms) (g := updZ ms t (ms t - am)) (n := μ.1 14) (p := t) (d := - am) ht (by rw [updZ_s]; omega) (fun i _ hi => updZ_n hi)
      have h1 := sumZ_nn (f := updZ ms t (ms t - am)) (n := μ.1 14) (fun v hv => (hQ4.2.2.2.1 v hv).2.2.1)
      rw [e] at h1 ⊢
      omega
end LR8
end
