section
/-! least: the class's rows while it looks -/
section LC1
theorem i32_neg {a : Int32} (h1 : -2147483648 < a.toInt) : (-a).toInt = - a.toInt := by
  have := Int32.toInt_lt a
  rw [Int32.toInt_neg]; exact Int.bmod_eq_of_le (by omega) (by omega)
theorem i32_eq {a b : Int32} : a = b ↔ a.toInt = b.toInt := Int32.toInt_inj.symm
variable {σ σ' : CSt} {lab : Nat → Nat} {ad : Nat → Nat → Nat} {μ : MSt} {j : Nat} {cf dd sp ms far : Nat → Int} {via : Nat → Option Nat}
def nLn (μ : MSt) : Nat → Int := fun k => (μ.2.1 25 k : Int)
theorem ntOk (hI : MI μ j) : NetOk (μ.1 14) (μ.1 26) (μ.2.1 23) (μ.2.1 24) (nLn μ) := by
  have hc := hI.cs
  refine ⟨by omega, by omega, fun k hk => ?_⟩
  obtain ⟨a1, a2, a3, a4, a5⟩ := hI.2.2.2.2.2.2.2.1 k hk
  exact ⟨a1, a2, a3, by unfold nLn; omega, by unfold nLn; omega⟩
def LCa (σ : CSt) (ad : Nat → Nat → Nat) (μ : MSt) (cf sp ms : Nat → Int) : Prop := (∀ k : Nat, k < μ.1 26 → (cI σ 67 (ad 4 k)).toInt = cf k) ∧ ∀ v : Nat, v < μ.1 14 → (cI σ 20 (ad 1 v)).toInt = sp v ∧ (cI σ 21 (ad 1 v)).toInt = ms v
def LCb (σ : CSt) (ad : Nat → Nat → Nat) (μ : MSt) (far : Nat → Int) (via : Nat → Option Nat) : Prop := ∀ v : Nat, v < μ.1 14 → (cI σ 22 (ad 1 v)).toInt = far v ∧ cR σ 23 (ad 1 v) = (via v).map (ad 4)
theorem CRep.ad1 (h : CRep σ lab ad μ) {u v : Nat} (hu : u < μ.1 14) (hv : v < μ.1 14) (e : ad 1 u = ad 1 v) : u = v := (h.ce hu).1.2.symm.trans ((congrArg lab e).trans (h.ce hv).1.2)
theorem CRep.ad4 (h : CRep σ lab ad μ) {u v : Nat} (hu : u < μ.1 26) (hv : v < μ.1 26) (e : ad 4 u = ad 4 v) : u = v := (h.lk hu).1.2.symm.trans ((congrArg lab e).trans (h.lk hv).1.2)
theorem LCa.o {k a : Nat} {v : Int32} (h : LCa σ ad μ cf sp ms) (hk : k ≠ 67 ∧ k ≠ 20 ∧ k ≠ 21) : LCa (csI σ k a v) ad μ cf sp ms :=
  ⟨fun i hi => by rw [cI_n' hk.1]; exact h.1 i hi, fun i hi => by rw [cI_n' hk.2.1, cI_n' hk.2.2]; exact h.2 i hi⟩
where
  cI_n' {σ : CSt} {k k' a a' : Nat} {v : Int32} (h : k ≠ k') : cI (csI σ k a v) k' a' = cI σ k' a' := by rw [pI_csI, cu2_ap, if_neg (fun g => h g.symm)]
theorem LCa.r {k a : Nat} {v : Option Nat} (h : LCa σ ad μ cf sp ms) : LCa (csR σ k a v) ad μ cf sp ms := h
theorem LCb.o {k a : Nat} {v : Int32} (h : LCb σ ad μ far via) (hk : k ≠ 22) : LCb (csI σ k a v) ad μ far via := fun i hi => by
  rw [pI_csI, cu2_ap, if_neg (fun g => hk g.symm)]; exact h i hi
theorem sC_other {post : Option Nat → CSt → Prop} {k u : Nat} (h : CRep σ lab ad μ) (hI : MI μ j) (hk : k < μ.1 26) (hu : inc (μ.2.1 23) (μ.2.1 24) k u) (hp : post (some (ad 1 (ot (μ.2.1 23) (μ.2.1 24) k u))) σ) : wpC_X4_other_0 post σ (ad 4 k) (ad 1 u) := by
  have hl := h.lk hk
  have hN := ntOk hI
  obtain ⟨n1, n2, n3, -⟩ := hN.2.2 k hk
  unfold ot at hp
  refine ⟨hl.1.1, _, hl.2.1, fun e => ⟨hl.1.1, _, hl.2.1, ?_⟩, fun e => ⟨hl.1.1, _, hl.2.2.1, ?_⟩⟩
  · rw [if_neg (fun g => e (by rw [g]))] at hp; exact hp
  · rw [if_pos (h.ad1 (hN.lt hk hu) n1 e)] at hp; exact hp
theorem sC_cFrom {post : Int32 → CSt → Prop} {k u : Nat} (h : CRep σ lab ad μ) (hI : MI μ j) (ha : LCa σ ad μ cf sp ms) (hk : k < μ.1 26) (hu : inc (μ.2.1 23) (μ.2.1 24) k u) (hb : -1000000000 ≤ cf k ∧ cf k ≤ 1000000000) (hp : ∀ r : Int32, r.toInt = cfr (μ.2.1 23) cf k u → post r σ) : wpC_X4_carriedFrom_0 post σ (ad 4 k) (ad 1 u) := by
  have hl := h.lk hk
  have hN := ntOk hI
  obtain ⟨n1, n2, n3, -⟩ := hN.2.2 k hk
  have h1 := ha.1 k hk
  unfold cfr at hp
  refine ⟨hl.1.1, _, hl.2.1, fun e => ⟨hl.1.1, hp _ ?_⟩, fun e => ⟨hl.1.1, hp _ ?_⟩⟩
  · rw [if_neg (fun g => e (by rw [g])), i32_neg (by omega), h1]
  · rw [if_pos (h.ad1 (hN.lt hk hu) n1 e), h1]
theorem sC_brings {post : Int32 → CSt → Prop} {k u : Nat} (h : CRep σ lab ad μ) (hI : MI μ j) (ha : LCa σ ad μ cf sp ms) (hb : LCb σ ad μ far via) (hk : k < μ.1 26) (hu : inc (μ.2.1 23) (μ.2.1 24) k u) (hcb : -1000000000 ≤ cf k ∧ cf k ≤ 1000000000) (hfb : far u = UN ∨ (-1000000000 ≤ far u ∧ far u ≤ 1000000000))
    (hno : (far u ≠ UN → far (ot (μ.2.1 23) (μ.2.1 24) k u) ≤ far u + 64 * cst (μ.2.1 23) (nLn μ) cf k u + 1) → post 0 σ)
    (hyes : far u ≠ UN → far u + 64 * cst (μ.2.1 23) (nLn μ) cf k u + 1 < far (ot (μ.2.1 23) (μ.2.1 24) k u) → ∀ σ', keepS noX σ lab σ' lab → LCa σ' ad μ cf sp ms → LCb σ' ad μ (updZ far (ot (μ.2.1 23) (μ.2.1 24) k u) (far u + 64 * cst (μ.2.1 23) (nLn μ) cf k u + 1)) (fun i => if i = ot (μ.2.1 23) (μ.2.1 24) k u then some k else via i) → post 1 σ') : wpC_X0_brings_0 post σ (ad 4 k) (ad 1 u) := by
  have hN := ntOk hI
  have hun := hN.lt hk hu
  have hon := hN.ot_lt hk hu
  have hl := h.lk hk
  have hlen := hI.2.2.2.2.2.2.2.1 k hk
  have e66 : (cI σ 66 (ad 4 k)).toInt = nLn μ k := by rw [hl.2.2.2, nI_toInt (by omega)]; rfl
  have hln : 1 ≤ nLn μ k ∧ nLn μ k ≤ 100 := by unfold nLn; omega
  obtain ⟨f1, f2⟩ := hb u hun
  obtain ⟨g1, g2⟩ := hb _ hon
  have e64 : (64 : Int32).toInt = 64 := rfl
  have e1 : (1 : Int32).toInt = 1 := rfl
  refine ⟨(h.ce hun).1.1, fun e => ?_, fun e => hno (fun g => ?_)⟩
  rotate_left
  · rw [i32_eq, f1] at e
    exact absurd e g
  have hfu : far u ≠ UN := fun g => e (by rw [i32_eq, f1, g]; rfl)
  have hfr := hfb.resolve_left hfu
  refine ⟨hl.1.1, sC_other h hI hk hu ⟨hl.1.1, sC_cFrom h hI ha hk hu hcb (fun r hr => ?_)⟩⟩
  have hrest : ∀ w : Int32, w.toInt = cst (μ.2.1 23) (nLn μ) cf k u → wpC_X0_brings_37 post σ (ad 4 k) (ad 1 u) (some (ad 1 (ot (μ.2.1 23) (μ.2.1 24) k u))) w := by
    intro w hw
    have hcs := cst_le hN (cf := cf) (u := u) hk
    have m1 : (w * 64).toInt = cst (μ.2.1 23) (nLn μ) cf k u * 64 := by rw [i32_mul (by rw [hw, e64]; omega) (by rw [hw, e64]; omega), hw, e64]
    have m2 : (cI σ 22 (ad 1 u) + w * 64).toInt = far u + cst (μ.2.1 23) (nLn μ) cf k u * 64 := by rw [i32_add (by rw [m1, f1]; omega) (by rw [m1, f1]; omega), m1, f1]
    have m3 : (cI σ 22 (ad 1 u) + w * 64 + 1).toInt = far u + 64 * cst (μ.2.1 23) (nLn μ) cf k u + 1 := by rw [i32_add (by rw [m2, e1]; omega) (by rw [m2, e1]; omega), m2, e1]; omega
    refine ⟨(h.ce hun).1.1, _, rfl, (h.ce hon).1.1, fun e2 => ⟨(h.ce hon).1.1, ?_⟩, fun e2 => hno (fun _ => ?_)⟩
    rotate_left
    · rw [Int32.lt_iff_toInt_lt, m3, g1] at e2; omega
    rw [Int32.lt_iff_toInt_lt, m3, g1] at e2
    intro s3 hs3
    have k3 : keepS noX σ lab s3 lab := by rw [hs3]; exact keep_scr (by unfold scrI; omega)
    have a3 : LCa s3 ad μ cf sp ms := by rw [hs3]; exact ha.o (by decide)
    have v3 : ∀ v : Nat, v < μ.1 14 → (cI s3 22 (ad 1 v)).toInt = updZ far (ot (μ.2.1 23) (μ.2.1 24) k u) (far u + 64 * cst (μ.2.1 23) (nLn μ) cf k u + 1) v ∧ cR s3 23 (ad 1 v) = (via v).map (ad 4) := by
      intro v hv
      rw [hs3, pI_csI, cu2_ap, if_pos rfl]
      refine ⟨?_, (hb v hv).2⟩
      by_cases ev : v = ot (μ.2.1 23) (μ.2.1 24) k u
      · rw [ev, if_pos rfl, updZ_s]; exact m3
      · rw [if_neg (fun g => ev (h.ad1 hv hon g)), updZ_n ev]; exact (hb v hv).1
    clear hs3
    refine ⟨k3.at (h.ce hon).1.1, ?_⟩
    intro s4 hs4
    refine hyes hfu e2 s4 (by rw [hs4]; exact k3.tr keep_scrR) (by rw [hs4]; exact a3.r) (fun v hv => ?_)
    rw [hs4, pR_csR, cu2_ap, if_pos rfl]
    refine ⟨(v3 v hv).1, ?_⟩
    (try dsimp only)
    by_cases ev : v = ot (μ.2.1 23) (μ.2.1 24) k u
    · rw [ev, if_pos rfl, if_pos rfl]; rfl
    · rw [if_neg (fun g => ev (h.ad1 hv hon g)), if_neg ev]; exact (v3 v hv).2
  have hc0 : (0 : Int32).toInt = 0 := rfl
  refine ⟨fun e2 => ⟨hl.1.1, hrest _ ?_⟩, fun e2 => ⟨hl.1.1, hrest _ ?_⟩⟩
  · rw [Int32.le_iff_toInt_le, hr, hc0] at e2
    unfold cst
    rw [if_neg (by omega)]; exact e66
  · rw [Int32.le_iff_toInt_le, hr, hc0] at e2
    unfold cst
    rw [if_pos (by omega), i32_neg (by omega), e66]
end LC1
end
