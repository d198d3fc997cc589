section
/-! least: the class's small loops -/
section LC3
variable {σ σ' : CSt} {lab : Nat → Nat} {ad : Nat → Nat → Nat} {μ : MSt} {j : Nat} {cf dd sp ms far : Nat → Int} {via : Nat → Option Nat}
theorem i64_add {a b : Int64} (h1 : -9223372036854775808 ≤ a.toInt + b.toInt) (h2 : a.toInt + b.toInt < 9223372036854775808) : (a + b).toInt = a.toInt + b.toInt := by
  rw [Int64.toInt_add]; exact Int.bmod_eq_of_le (by omega) (by omega)
theorem i64_sub {a b : Int64} (h1 : -9223372036854775808 ≤ a.toInt - b.toInt) (h2 : a.toInt - b.toInt < 9223372036854775808) : (a - b).toInt = a.toInt - b.toInt := by
  rw [Int64.toInt_sub]; exact Int.bmod_eq_of_le (by omega) (by omega)
theorem i64_mul {a b : Int64} (h1 : -9223372036854775808 ≤ a.toInt * b.toInt) (h2 : a.toInt * b.toInt < 9223372036854775808) : (a * b).toInt = a.toInt * b.toInt := by
  rw [Int64.toInt_mul]; exact Int.bmod_eq_of_le (by omega) (by omega)
theorem i64_neg {a : Int64} (h1 : -9223372036854775808 < a.toInt) : (-a).toInt = - a.toInt := by
  have := Int64.toInt_lt a
  rw [Int64.toInt_neg]; exact Int.bmod_eq_of_le (by omega) (by omega)
/-- what a cell has too much, what is missing to it -/
def exc (μ : MSt) (v : Nat) : Int := (mDep μ v : Int) - (μ.2.1 12 v : Int)
def lSx (μ : MSt) (v : Nat) : Int := if 0 < exc μ v then exc μ v else 0
def lMx (μ : MSt) (v : Nat) : Int := if exc μ v < 0 then - exc μ v else 0
theorem lx_bd (hI : MI μ j) (hj : j ≤ 512) {v : Nat} (hv : v < μ.1 14) : (0 ≤ lSx μ v ∧ lSx μ v ≤ 51200000) ∧ (0 ≤ lMx μ v ∧ lMx μ v ≤ 1000000) ∧ (lSx μ v = 0 ∨ lMx μ v = 0) := by
  have h1 := mDep_lt hI hj hv
  have h2 := (hI.2.2.2.2.2.2.2.2.1 v hv).1
  unfold lSx lMx exc
  split <;> split <;> omega
theorem sC_prepare {post : CSt → Prop} (h : CRep σ lab ad μ) (hI : MI μ j) (hj : j ≤ 512) (hq : ∀ σ', keepS noX σ lab σ' lab → LCa σ' ad μ (fun _ => 0) (lSx μ) (lMx μ) → post σ') : wpC_X0_prepare_0 post σ (ad 0 2) (ad 0 4) := by
  have hN := ntOk hI
  have hc := hI.cs
  have hc0 : (0 : Int32).toInt = 0 := rfl
  refine gLP.up (μ.1 14) (fun i (x : CSt × Nat × Nat × Int32) => i ≤ μ.1 14 ∧ keepS noX σ lab x.1 lab ∧ (∀ v : Nat, v < i → (cI x.1 20 (ad 1 v)).toInt = lSx μ v ∧ (cI x.1 21 (ad 1 v)).toInt = lMx μ v) ∧ x.2 = (ad 0 2, ad 0 4, nI i)) (fun i x h => h.1) ?_ (j := 0) ⟨Nat.zero_le _, keepS.rf, fun v hv => absurd hv (Nat.not_lt_zero _), rfl⟩
  rintro i ⟨σ1, y⟩ P ⟨hi, k1, v1, e⟩ hP
  (try dsimp only at k1 v1 e)
  subst e
  (try dsimp only)
  have hC := h.nox k1
  refine ⟨hC.ls.2.2.1.1, sC_size hC.ls.2.2.1 ⟨fun e => ?_, fun e => ?_⟩⟩
  · rw [nI_leI (by omega) (by omega)] at e
    have ei : i = μ.1 14 := by omega
    subst ei
    refine gLP.up (μ.1 26) (fun i (x : CSt × Nat × Int32) => i ≤ μ.1 26 ∧ keepS noX σ lab x.1 lab ∧ (∀ v : Nat, v < μ.1 14 → (cI x.1 20 (ad 1 v)).toInt = lSx μ v ∧ (cI x.1 21 (ad 1 v)).toInt = lMx μ v) ∧ (∀ k : Nat, k < i → (cI x.1 67 (ad 4 k)).toInt = 0) ∧ x.2 = (ad 0 4, nI i)) (fun i x h => h.1) ?_ (j := 0) ⟨Nat.zero_le _, k1, v1, fun v hv => absurd hv (Nat.not_lt_zero _), rfl⟩
    clear hC v1 k1 hP
    rintro i ⟨σ2, y⟩ P ⟨hi, k1, v1, c1, e⟩ hP
    (try dsimp only at k1 v1 c1 e)
    subst e
    (try dsimp only)
    have hC := h.nox k1
    refine ⟨hC.ls.2.2.2.2.1, sC_size hC.ls.2.2.2.2 ⟨fun e => ?_, fun e => ?_⟩⟩
    · rw [nI_leI (by omega) (by omega)] at e
      have ei : i = μ.1 26 := by omega
      subst ei
      exact hq _ k1 ⟨c1, v1⟩
    · rw [nI_leI (by omega) (by omega)] at e
      have hi' : i < μ.1 26 := by omega
      have hl := hC.lk hi'
      refine ⟨hC.ls.2.2.2.2.1, sC_get hC.ls.2.2.2.2 hi' ⟨_, rfl, hl.1.1, hl.1.1, ?_⟩⟩
      intro s7 hs7
      refine hP _ ⟨by omega, by rw [hs7]; exact k1.tr (keep_scr (by unfold scrI; omega)), fun v hv => ?_, fun k hk => ?_, by rw [nI_1]⟩
      · (try dsimp only)
        rw [hs7, pI_csI, cu2_ap, if_neg (by decide), cu2_ap, if_neg (by decide)]; exact v1 v hv
      · (try dsimp only)
        rw [hs7, pI_csI, cu2_ap, if_pos rfl]
        by_cases ek : k = i
        · subst ek; rw [if_pos rfl]; rfl
        · rw [if_neg (fun g => ek (hC.ad4 (by omega) hi' g))]; exact c1 k (by omega)
  · rw [nI_leI (by omega) (by omega)] at e
    have hi' : i < μ.1 14 := by omega
    have ho := hC.ce hi'
    have hb := lx_bd hI hj hi'
    have hd := mDep_lt hI hj hi'
    have hw := (hI.2.2.2.2.2.2.2.2.1 i hi').1
    have e18 : (nI (mDep μ i) - cI σ1 18 (ad 1 i)).toInt = exc μ i := by
      rw [ho.2.2.2.1, i32_sub (by rw [nI_toInt (by omega), nI_toInt (by omega)]; omega) (by rw [nI_toInt (by omega), nI_toInt (by omega)]; omega), nI_toInt (by omega), nI_toInt (by omega)]
      rfl
    have hex : -1000000 ≤ exc μ i ∧ exc μ i ≤ 51200000 := by unfold exc; omega
    refine ⟨hC.ls.2.2.1.1, sC_get hC.ls.2.2.1 hi' ⟨_, rfl, ho.1.1, ho.1.1, sC_depth hC hi' ⟨ho.1.1, ?_⟩⟩⟩
    intro x16 hx16
    have t16 : x16.toInt = lSx μ i := by
      rw [hx16]
      unfold lSx
      by_cases c : (nI (mDep μ i) - cI σ1 18 (ad 1 i)) < 0
      · rw [if_pos c, hc0]
        rw [Int32.lt_iff_toInt_lt, e18, hc0] at c
        rw [if_neg (by omega)]
      · rw [if_neg c, e18]
        rw [Int32.lt_iff_toInt_lt, e18, hc0] at c
        split <;> omega
    refine ⟨ho.1.1, ?_⟩
    intro s17 hs17 x18 hx18
    have t18 : x18.toInt = lMx μ i := by
      have e18n := i32_neg (a := nI (mDep μ i) - cI σ1 18 (ad 1 i)) (by omega)
      rw [hx18]
      unfold lMx
      by_cases c : -(nI (mDep μ i) - cI σ1 18 (ad 1 i)) < 0
      · rw [if_pos c, hc0]
        rw [Int32.lt_iff_toInt_lt, e18n, e18, hc0] at c
        rw [if_neg (by omega)]
      · rw [if_neg c, e18n, e18]
        rw [Int32.lt_iff_toInt_lt, e18n, e18, hc0] at c
        split <;> omega
    have k17 : keepS noX σ lab s17 lab := by rw [hs17]; exact k1.tr (keep_scr (by unfold scrI; omega))
    have v17 : ∀ v : Nat, v < i + 1 → (cI s17 20 (ad 1 v)).toInt = lSx μ v := fun v hv => by
      rw [hs17, pI_csI, cu2_ap, if_pos rfl]
      by_cases ev : v = i
      · subst ev; rw [if_pos rfl]; exact t16
      · rw [if_neg (fun g => ev (hC.ad1 (by omega) hi' g))]; exact (v1 v (by omega)).1
    have w17 : ∀ v : Nat, v < i → (cI s17 21 (ad 1 v)).toInt = lMx μ v := fun v hv => by
      rw [hs17, pI_csI, cu2_ap, if_neg (by decide)]; exact (v1 v hv).2
    have o17 : cAt s17 1 (ad 1 i) := by rw [hs17]; exact ho.1.1
    clear hs17
    refine ⟨o17, ?_⟩
    intro s19 hs19
    refine hP _ ⟨by omega, by rw [hs19]; exact k17.tr (keep_scr (by unfold scrI; omega)), fun v hv => ?_, by rw [nI_1]⟩
    (try dsimp only)
    rw [hs19, pI_csI, cu2_ap, if_neg (by decide), cu2_ap, if_pos rfl]
    refine ⟨v17 v hv, ?_⟩
    by_cases ev : v = i
    · subst ev; rw [if_pos rfl]; exact t18
    · rw [if_neg (fun g => ev (hC.ad1 (by omega) hi' g))]; exact w17 v (by omega)
theorem sC_any {post : Int32 → CSt → Prop} (h : CRep σ lab ad μ) (hI : MI μ j) (ha : LCa σ ad μ cf sp ms) (h0 : (∀ v : Nat, v < μ.1 14 → ms v ≤ 0) → post 0 σ) (h1 : (∃ v : Nat, v < μ.1 14 ∧ 0 < ms v) → post 1 σ) : wpC_X0_anyMissing_0 post σ (ad 0 2) := by
  have hc := hI.cs
  have hc0 : (0 : Int32).toInt = 0 := rfl
  refine gLP.up (μ.1 14) (fun i (x : CSt × Nat × Int32) => i ≤ μ.1 14 ∧ (∀ v : Nat, v < i → ms v ≤ 0) ∧ x = (σ, ad 0 2, nI i)) (fun i x h => h.1) ?_ (j := 0) ⟨Nat.zero_le _, fun v hv => absurd hv (Nat.not_lt_zero _), rfl⟩
  rintro i x P ⟨hi, v1, rfl⟩ hP
  (try dsimp only)
  refine ⟨h.ls.2.2.1.1, sC_size h.ls.2.2.1 ⟨fun e => ?_, fun e => ?_⟩⟩
  · rw [nI_leI (by omega) (by omega)] at e
    exact h0 (fun v hv => v1 v (by omega))
  · rw [nI_leI (by omega) (by omega)] at e
    have hi' : i < μ.1 14 := by omega
    have ho := h.ce hi'
    have hm := (ha.2 i hi').2
    refine ⟨h.ls.2.2.1.1, sC_get h.ls.2.2.1 hi' ⟨_, rfl, ho.1.1, ho.1.1, fun e2 => hP _ ⟨by omega, fun v hv => ?_, by rw [nI_1]⟩, fun e2 => h1 ⟨i, hi', ?_⟩⟩⟩
    · rw [Int32.le_iff_toInt_le, hm, hc0] at e2
      by_cases ev : v = i
      · subst ev; exact e2
      · exact v1 v (by omega)
    · rw [Int32.le_iff_toInt_le, hm, hc0] at e2; omega
theorem sC_near {post : Option Nat → CSt → Prop} (h : CRep σ lab ad μ) (hI : MI μ j) (ha : LCa σ ad μ cf sp ms) (hb : LCb σ ad μ far via) (h0 : (∀ v : Nat, v < μ.1 14 → 0 < ms v → far v = UN) → post none σ) (h1 : ∀ t : Nat, t < μ.1 14 → 0 < ms t → far t ≠ UN → (∀ v : Nat, v < μ.1 14 → 0 < ms v → far v ≠ UN → far t ≤ far v) → post (some (ad 1 t)) σ) : wpC_X0_nearestMissing_0 post σ (ad 0 2) := by
  have hc := hI.cs
  have hc0 : (0 : Int32).toInt = 0 := rfl
  have hun : (1073741824 : Int32).toInt = UN := rfl
  refine gLP.up (μ.1 14) (fun i (x : CSt × Nat × Option Nat × Int32) => i ≤ μ.1 14 ∧ ((x.2.2.1 = none ∧ ∀ v : Nat, v < i → 0 < ms v → far v = UN) ∨ ∃ t : Nat, t < i ∧ x.2.2.1 = some (ad 1 t) ∧ 0 < ms t ∧ far t ≠ UN ∧ ∀ v : Nat, v < i → 0 < ms v → far v ≠ UN → far t ≤ far v) ∧ (x.1, x.2.1, x.2.2.2) = (σ, ad 0 2, nI i)) (fun i x h => h.1) ?_ (j := 0) ⟨Nat.zero_le _, Or.inl ⟨rfl, fun v hv => absurd hv (Nat.not_lt_zero _)⟩, rfl⟩
  rintro i ⟨s, w0, w1, w2⟩ P ⟨hi, hv, e⟩ hP
  (try dsimp only at hv e)
  obtain ⟨rfl, rfl, rfl⟩ := (show s = σ ∧ w0 = ad 0 2 ∧ w2 = nI i from ⟨congrArg Prod.fst e, congrArg (fun z => z.2.1) e, congrArg (fun z => z.2.2) e⟩)
  clear e
  (try dsimp only)
  refine ⟨h.ls.2.2.1.1, sC_size h.ls.2.2.1 ⟨fun e => ?_, fun e => ?_⟩⟩
  · rw [nI_leI (by omega) (by omega)] at e
    have ei : i = μ.1 14 := by omega
    subst ei
    rcases hv with ⟨g1, g2⟩ | ⟨t, g1, g2, g3, g4, g5⟩
    · rw [g1]; exact h0 g2
    · rw [g2]; exact h1 t g1 g3 g4 g5
  · rw [nI_leI (by omega) (by omega)] at e
    have hi' : i < μ.1 14 := by omega
    have ho := h.ce hi'
    have hm := (ha.2 i hi').2
    have hf := (hb i hi').1
    -- this one doesn't count
    have hskip : (0 < ms i → far i = UN) → wpC_X0_nearestMissing_41 post (fun s v0 v1 v2 => P (s, v0, v1, v2)) s (ad 0 2) w1 (nI i) (ad 1 i) := by
      intro g
      refine ⟨fun _ => hP _ ⟨by omega, ?_, by rw [nI_1]⟩, fun e => absurd rfl e⟩
      (try dsimp only)
      rcases hv with ⟨g1, g2⟩ | ⟨t, g1, g2, g3, g4, g5⟩
      · refine Or.inl ⟨g1, fun v hv hms => ?_⟩
        by_cases ev : v = i
        · subst ev; exact g hms
        · exact g2 v (by omega) hms
      · refine Or.inr ⟨t, by omega, g2, g3, g4, fun v hv hms hfv => ?_⟩
        by_cases ev : v = i
        · subst ev; exact absurd (g hms) hfv
        · exact g5 v (by omega) hms hfv
    refine ⟨h.ls.2.2.1.1, sC_get h.ls.2.2.1 hi' ⟨_, rfl, ho.1.1, ho.1.1, fun e2 => hskip (fun g => ?_), fun e2 => ⟨ho.1.1, fun e3 => hskip (fun _ => ?_), fun e3 => ?_⟩⟩⟩
    · rw [Int32.le_iff_toInt_le, hm, hc0] at e2; omega
    · rw [i32_eq, hf] at e3; exact e3
    · rw [Int32.le_iff_toInt_le, hm, hc0] at e2
      have hfi : far i ≠ UN := fun g => e3 (by rw [i32_eq, hf, g]; rfl)
      refine ⟨fun g => absurd g (by decide), fun _ => ⟨fun g => hP _ ⟨by omega, ?_, by rw [nI_1]⟩, fun a3 g => ?_⟩⟩
      · (try dsimp only)
        refine Or.inr ⟨i, by omega, rfl, by omega, hfi, fun v hv' hms hfv => ?_⟩
        rcases hv with ⟨g1, g2⟩ | ⟨t, g1, g2, -⟩
        · by_cases ev : v = i
          · subst ev; exact Int.le_refl _
          · exact absurd (g2 v (by omega) hms) hfv
        · rw [g] at g2; exact absurd g2 (by simp)
      · rcases hv with ⟨g1, g2⟩ | ⟨t, g1, g2, g3, g4, g5⟩
        · rw [g] at g1; exact absurd g1 (by simp)
        · rw [g] at g2
          obtain rfl : a3 = ad 1 t := Option.some.inj g2
          have hft := (hb t (by omega)).1
          refine ⟨ho.1.1, (h.ce (i := t) (by omega)).1.1, fun e4 => hP _ ⟨by omega, Or.inr ⟨t, by omega, rfl, g3, g4, fun v hv' hms hfv => ?_⟩, by rw [nI_1]⟩, fun e4 => hP _ ⟨by omega, Or.inr ⟨i, by omega, rfl, by omega, hfi, fun v hv' hms hfv => ?_⟩, by rw [nI_1]⟩⟩
          · rw [Int32.le_iff_toInt_le, hft, hf] at e4
            by_cases ev : v = i
            · subst ev; exact e4
            · exact g5 v (by omega) hms hfv
          · rw [Int32.le_iff_toInt_le, hft, hf] at e4
            by_cases ev : v = i
            · subst ev; exact Int.le_refl _
            · have := g5 v (by omega) hms hfv; omega
def absZ (x : Int) : Int := if 0 ≤ x then x else - x
theorem sC_sum {post : Int64 → CSt → Prop} (h : CRep σ lab ad μ) (hI : MI μ j) (ha : LCa σ ad μ cf sp ms) (hcf : cfOk μ cf) (hp : ∀ V : Int64, V.toInt = sumZ (fun k => absZ (cf k) * nLn μ k) (μ.1 26) → post V σ) : wpC_X0_sumCarried_0 post σ (ad 0 4) := by
  have hc := hI.cs
  have hN := ntOk hI
  have hc0 : (0 : Int32).toInt = 0 := rfl
  have hbd : ∀ i : Nat, i ≤ μ.1 26 → 0 ≤ sumZ (fun k => absZ (cf k) * nLn μ k) i ∧ sumZ (fun k => absZ (cf k) * nLn μ k) i ≤ i * 100000000000 := by
    intro i hi
    have hk : ∀ k : Nat, k < i → 0 ≤ absZ (cf k) * nLn μ k ∧ absZ (cf k) * nLn μ k ≤ 100000000000 := fun k hk => by
      have h1 := (hN.2.2 k (by omega)).2.2.2
      have h2 := hcf k (by omega)
      have h3 : 0 ≤ absZ (cf k) ∧ absZ (cf k) ≤ 1000000000 := by unfold absZ; split <;> omega
      have h4 : absZ (cf k) * nLn μ k ≤ 1000000000 * 100 := Int.mul_le_mul h3.2 h1.2 (by omega) (by decide)
      exact ⟨Int.mul_nonneg h3.1 (by omega), by omega⟩
    exact ⟨sumZ_nn (fun k hk' => (hk k hk').1), sumZ_c (fun k hk' => (hk k hk').2)⟩
  refine gLP.up (μ.1 26) (fun i (x : CSt × Nat × Int64 × Int32) => i ≤ μ.1 26 ∧ x.2.2.1.toInt = sumZ (fun k => absZ (cf k) * nLn μ k) i ∧ (x.1, x.2.1, x.2.2.2) = (σ, ad 0 4, nI i)) (fun i x h => h.1) ?_ (j := 0) ⟨Nat.zero_le _, rfl, rfl⟩
  rintro i ⟨s, w0, w1, w2⟩ P ⟨hi, hv, e⟩ hP
  (try dsimp only at hv e)
  obtain ⟨rfl, rfl, rfl⟩ := (show s = σ ∧ w0 = ad 0 4 ∧ w2 = nI i from ⟨congrArg Prod.fst e, congrArg (fun z => z.2.1) e, congrArg (fun z => z.2.2) e⟩)
  clear e
  (try dsimp only)
  refine ⟨h.ls.2.2.2.2.1, sC_size h.ls.2.2.2.2 ⟨fun e => ?_, fun e => ?_⟩⟩
  · rw [nI_leI (by omega) (by omega)] at e
    have ei : i = μ.1 26 := by omega
    subst ei
    exact hp w1 hv
  · rw [nI_leI (by omega) (by omega)] at e
    have hi' : i < μ.1 26 := by omega
    have hl := h.lk hi'
    have h67 := ha.1 i hi'
    have hcb := hcf i hi'
    have hlen := hI.2.2.2.2.2.2.2.1 i hi'
    have e66 : (cI s 66 (ad 4 i)).toInt = nLn μ i := by rw [hl.2.2.2, nI_toInt (by omega)]; rfl
    refine ⟨h.ls.2.2.2.2.1, sC_get h.ls.2.2.2.2 hi' ⟨_, rfl, hl.1.1, hl.1.1, ?_⟩⟩
    intro x7 hx7
    have t7 : x7.toInt = absZ (cf i) := by
      rw [hx7]
      unfold absZ
      by_cases c : 0 ≤ cI s 67 (ad 4 i)
      · rw [if_pos c, h67]
        rw [Int32.le_iff_toInt_le, hc0, h67] at c
        rw [if_pos c]
      · rw [if_neg c, i32_sub (by rw [hc0, h67]; omega) (by rw [hc0, h67]; omega), hc0, h67]
        rw [Int32.le_iff_toInt_le, hc0, h67] at c
        rw [if_neg c]; omega
    have b1 := hbd i (by omega)
    have b2 := hbd (i + 1) (by omega)
    have b3 : sumZ (fun k => absZ (cf k) * nLn μ k) (i + 1) = sumZ (fun k => absZ (cf k) * nLn μ k) i + absZ (cf i) * nLn μ i := rfl
    have m1 : (x7.toInt64 * (cI s 66 (ad 4 i)).toInt64).toInt = absZ (cf i) * nLn μ i := by
      rw [i64_mul (by rw [Int32.toInt_toInt64, Int32.toInt_toInt64, t7, e66]; omega) (by rw [Int32.toInt_toInt64, Int32.toInt_toInt64, t7, e66]; omega), Int32.toInt_toInt64, Int32.toInt_toInt64, t7, e66]
    refine ⟨hl.1.1, hP _ ⟨by omega, ?_, by rw [nI_1]⟩⟩
    (try dsimp only)
    rw [i64_add (by rw [hv, m1]; omega) (by rw [hv, m1]; omega), hv, m1, b3]
end LC3
end
