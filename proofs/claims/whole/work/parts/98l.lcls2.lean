section
/-! least: the class, whole -/
section LC5
variable {σ σ' : CSt} {lab : Nat → Nat} {ad : Nat → Nat → Nat} {μ : MSt} {j : Nat}
def lTot (μ : MSt) : Int := sumZ (lMx μ) (μ.1 14)
abbrev LJm (μ : MSt) (cf sp ms dd : Nat → Int) : Prop := LJ (μ.1 14) (μ.1 26) (μ.2.1 23) (μ.2.1 24) (nLn μ) (lMx μ) (lSx μ) (lTot μ) cf sp ms dd
/-- what the class answers -/
def LPC (μ : MSt) (V : Int64) : Prop := (∃ cf sp ms dd : Nat → Int, LJm μ cf sp ms dd ∧ (∀ v : Nat, v < μ.1 14 → ms v ≤ 0) ∧ V.toInt = sumZ (fun k => absZ (cf k) * nLn μ k) (μ.1 26)) ∨
  (V = -1 ∧ ∃ (cf sp ms dd far : Nat → Int) (via : Nat → Option Nat), LJm μ cf sp ms dd ∧ MEAS (μ.1 14) (μ.1 26) (μ.2.1 23) (μ.2.1 24) (nLn μ) cf dd sp far via ∧ (∃ v : Nat, v < μ.1 14 ∧ 0 < ms v) ∧ ∀ v : Nat, v < μ.1 14 → 0 < ms v → far v = UN)
theorem lTot_bd (hI : MI μ j) (hj : j ≤ 512) : 0 ≤ lTot μ ∧ lTot μ ≤ 40000000 := by
  have hc := hI.cs
  have h1 := sumZ_nn (f := lMx μ) (n := μ.1 14) (fun v hv => (lx_bd hI hj hv).2.1.1)
  have h2 := sumZ_c (f := lMx μ) (n := μ.1 14) (b := 1000000) (fun v hv => (lx_bd hI hj hv).2.1.2)
  unfold lTot
  omega
theorem LJ_ini (hI : MI μ j) (hj : j ≤ 512) : LJm μ (fun _ => 0) (lSx μ) (lMx μ) (fun _ => 0) := by
  have hN := ntOk hI
  refine ⟨fun k hk u hu => ?_, fun v hv => ⟨Int.le_refl _, (by decide : (0 : Int) % 64 ≤ 39)⟩, fun v hv _ => rfl, fun v hv => ?_, fun g => ?_, fun k hk => ?_⟩
  · have hl := (hN.2.2 k hk).2.2.2
    have : cst (μ.2.1 23) (nLn μ) (fun _ => 0) k u = nLn μ k := by
      unfold cst
      have e0 : cfr (μ.2.1 23) (fun _ => 0) k u = 0 := by
        unfold cfr
        split <;> rfl
      rw [e0]
      rfl
    rw [this]
    (try dsimp only)
    omega
  · obtain ⟨a1, a2, -⟩ := lx_bd hI hj hv
    omega
  · rw [sumZ_0 (fun i _ => by (try dsimp only); rw [Int.zero_mul]), sumZ_0 (fun i _ => ?_)]
    (try dsimp only)
    rw [Int.sub_self, Int.sub_self, Int.sub_self, Int.mul_zero]
  · show -(lTot μ - lTot μ) ≤ 0 ∧ (0 : Int) ≤ lTot μ - lTot μ
    omega
theorem LJ_cf {cf sp ms dd : Nat → Int} (hI : MI μ j) (hj : j ≤ 512) (h : LJm μ cf sp ms dd) : cfOk μ cf := by
  intro k hk
  have h1 := h.2.2.2.2.2 k hk
  have h2 := lTot_bd hI hj
  have h3 := sumZ_nn (f := ms) (n := μ.1 14) (fun v hv => (h.2.2.2.1 v hv).2.2.1)
  omega
theorem cO_least {post : Int64 → CSt → Prop} (h : CRep σ lab ad μ) (hI : MI μ j) (hj : j ≤ 512) (hq : ∀ V σ', CRep σ' lab ad μ → LPC μ V → post V σ') : wpC_X7_least_0 post σ (ad 7 0) := by
  have hN := ntOk hI
  have hc := hI.cs
  have hx : ∀ v : Nat, v < μ.1 14 → lSx μ v = 0 ∨ lMx μ v = 0 := fun v hv => (lx_bd hI hj hv).2.2
  refine ⟨h.x7, _, h.x.2.1.2.2.1, h.x7, _, h.x.2.1.2.2.2.2.1, ?_⟩
  refine sC_prepare h hI hj (fun s0 k0 a0 => ?_)
  refine gLP.up 1000000 (fun N (x : CSt × Nat × Nat × Int32) => N ≤ 1000000 ∧ keepS noX σ lab x.1 lab ∧ (∃ cf sp ms dd rr : Nat → Int, LCa x.1 ad μ cf sp ms ∧ LJm μ cf sp ms dd ∧ CN (μ.1 14) (μ.1 26) (μ.2.1 23) (μ.2.1 24) (nLn μ) cf sp ms dd rr N) ∧ x.2 = (ad 0 2, ad 0 4, nI N)) (fun i x h => h.1) ?_ (j := 0) ⟨Nat.zero_le _, k0, ⟨(fun _ => 0), lSx μ, lMx μ, (fun _ => 0), (fun _ => 0), a0, LJ_ini hI hj, CN.ini hN (fun _ _ => rfl)⟩, rfl⟩
  clear a0 k0 s0
  rintro N ⟨s, y⟩ P ⟨hNl, k1, ⟨cf, sp, ms, dd, rr, a1, hL, hCN⟩, e⟩ hP
  (try dsimp only at k1 a1 e)
  subst e
  (try dsimp only)
  have hlt := hCN.lt hN
  have hC := h.nox k1
  have hcf := LJ_cf hI hj hL
  refine ⟨fun e => ?_, fun _ => ?_⟩
  · rw [show (1000000 : Int32) = nI 1000000 from rfl, nI_leI (by omega) (by omega)] at e
    omega
  refine sC_any hC hI a1 (fun hall => ⟨fun _ => ?_, fun e => absurd rfl e⟩) (fun hex => ⟨fun e => absurd e (by decide), fun _ => ?_⟩)
  · exact sC_sum hC hI a1 hcf (fun V hV => hq V s hC (Or.inl ⟨cf, sp, ms, dd, hL, hall, hV⟩))
  refine sC_measure hC hI a1 hcf hL.1 hL.2.1 hL.2.2.1 (fun s7 far via k7 a7 b7 hM => ?_)
  have hC7 := hC.nox k7
  refine sC_near hC7 hI a7 b7 (fun hnone => ⟨fun _ => hq (-1) s7 hC7 (Or.inr ⟨rfl, cf, sp, ms, dd, far, via, hL, hM, hex, hnone⟩), fun a e => absurd e (by simp)⟩) (fun t ht hmt hft hmin => ⟨fun e => absurd e (by simp), fun a11 e11 => ?_⟩)
  obtain rfl : ad 1 t = a11 := Option.some.inj e11
  obtain ⟨m, w1, w2, w3, w4, w5, w6, w7⟩ := hM.way hL.1 hL.2.1 hN ht hft
  have hW : Wy (μ.1 14) (μ.1 26) (μ.2.1 23) (μ.2.1 24) via t m := ⟨w1, w2, fun i hi => (w3 i hi).1, fun i hi => ⟨(w4 i hi).1, (w4 i hi).2.1⟩, w5⟩
  have hst : ∀ i : Nat, i < m → far (nd (μ.2.1 23) (μ.2.1 24) via t i) ≠ UN ∧ far (nd (μ.2.1 23) (μ.2.1 24) via t (i + 1)) ≠ UN ∧ far (nd (μ.2.1 23) (μ.2.1 24) via t i) = far (nd (μ.2.1 23) (μ.2.1 24) via t (i + 1)) + 64 * cst (μ.2.1 23) (nLn μ) cf (kk (μ.2.1 23) (μ.2.1 24) via t i) (nd (μ.2.1 23) (μ.2.1 24) via t (i + 1)) + 1 := fun i hi => ⟨(w3 i (by omega)).2, (w3 (i + 1) (by omega)).2, (w4 i hi).2.2⟩
  have hsm : ∀ v : Nat, v < μ.1 14 → 0 ≤ sp v ∧ sp v ≤ 1000000000 := fun v hv => by
    have g1 := hL.2.2.2.1 v hv
    have g2 := lx_bd hI hj hv
    omega
  have hmb : ms t ≤ 1000000000 := by
    have g1 := hL.2.2.2.1 t ht
    have g2 := lx_bd hI hj ht
    omega
  have hne : nd (μ.2.1 23) (μ.2.1 24) via t m ≠ t := by
    intro e
    have g1 := hL.2.2.2.1 t ht
    rw [e] at w6
    rcases hx t ht with g | g <;> omega
  refine ⟨hC7.ls.2.2.1.1, sC_size hC7.ls.2.2.1 ?_⟩
  refine sC_carryTo hC7 hI a7 b7 hcf ht hW ⟨hmt, hmb⟩ w6 hne hsm (fun s14 am k14 q1 q2 q3 q4 q5 a14 => hP _ ⟨by omega, (k1.tr k7).tr k14, ⟨_, _, _, dd2 far dd, rr2 far rr (far t), a14, ?_, ?_⟩, by rw [nI_1]⟩)
  · exact hL.aug hN hM ht hx hW hst q1 q2 q3 q4
  · exact hCN.step hL hN hM ht hmt hft hmin hx hW hst w6 w7 q1 q2 q3 q4 q5
end LC5
end
