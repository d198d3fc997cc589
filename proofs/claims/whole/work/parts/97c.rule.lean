section
/-! rule: how many slopes are named; the model afterwards -/
section RU
def bcS (x k : Int32) : Int32 := (x.toUInt32 >>> (k.toUInt32 &&& Int32.toUInt32 31)).toInt32
def bc1 (x : Int32) : Int32 := x - (bcS x 1 &&& 1431655765)
def bc2 (x : Int32) : Int32 := (x &&& 858993459) + (bcS x 2 &&& 858993459)
def bc3 (x : Int32) : Int32 := (x + bcS x 4) &&& 252645135
def bc4 (x : Int32) : Int32 := x + bcS x 8
def bc5 (x : Int32) : Int32 := x + bcS x 16
def bcI (v : Int32) : Int32 := bc5 (bc4 (bc3 (bc2 (bc1 v)))) &&& 63
theorem bc_R {post : Int32 → Prop} {v : Int32} (h : post (bcI v)) : wpR_J6_bitCount_0f7a4_0 post v := by
  intro x1 h1 x2 h2 x3 h3 x4 h4 x5 h5
  subst h1; subst h2; subst h3; subst h4; subst h5
  exact h
theorem bc_C {post : Int32 → CSt → Prop} {s : CSt} {v : Int32} (h : post (bcI v) s) : wpC_J6_bitCount_0f7a4_0 post s v := by
  intro x1 h1 x2 h2 x3 h3 x4 h4 x5 h5
  subst h1; subst h2; subst h3; subst h4; subst h5
  exact h
variable {μ : MSt} {j : Nat}
/-- the tape used up; where the text was wrong, which slopes would lean on themselves -/
def mR0 (μ : MSt) (pl : Int32) (rg : Nat) : MSt := (va_up (va_up μ.1 2 0) 20 rg, μ.2.1, cu2 μ.2.2 19 0 pl)
/-- a slope's rule is told -/
def mRul (μ : MSt) (s : Nat) (L : List Cd) : MSt :=
  ((mR0 μ (-1) 0).1, fun a i => if a = 15 ∧ 400 * s ≤ i ∧ i < 400 * s + L.length then (L.getD (i - 400 * s) (0, 0)).1 else if a = 16 ∧ 400 * s ≤ i ∧ i < 400 * s + L.length then (L.getD (i - 400 * s) (0, 0)).2 else if a = 17 ∧ i = s then L.length else if a = 18 ∧ i = s then 1 else μ.2.1 a i, (mR0 μ (-1) 0).2.2)
theorem mR0_1 {pl : Int32} {rg k : Nat} (h : k ≠ 2 ∧ k ≠ 20) : (mR0 μ pl rg).1 k = μ.1 k := by
  show va_up (va_up μ.1 2 0) 20 rg k = _
  rw [up_ap, if_neg h.2, up_ap, if_neg h.1]
theorem mR0_3 {pl : Int32} {rg k : Nat} (h : k ≠ 19) : (mR0 μ pl rg).2.2 k = μ.2.2 k := by
  funext i
  show cu2 μ.2.2 19 0 pl k i = _
  rw [cu2_ap, if_neg h]
end RU
end
