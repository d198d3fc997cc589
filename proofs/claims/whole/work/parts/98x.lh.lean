section
/-! the law's loop: what each call needs -/
section LH
variable {mc ms L j k n : Nat} {μ : MSt} {lab : Nat → Nat} {ad : Nat → Nat → Nat} {K23 : lSt → Nat → Nat → Nat → Int32 → Prop} {x : Nat} {v4 : Int32}
def VP (L : Nat) (v4 : Int32) : Prop := vp_in (v4 + 1) L ∧ vp_in (v4 + 2) L ∧ vp_in (v4 + 3) L ∧ vp_in (v4 + 4) L ∧ vp_in (v4 + 5) L
def LInv (x j : Nat) (τ : CSt) (ρ : RSt) : Prop := ∃ (μ : MSt) (lab : Nat → Nat) (ad : Nat → Nat → Nat), ad 7 0 = x ∧ CRep τ lab ad μ ∧ RR ρ μ ∧ MI μ j ∧ TB μ
def LK (K23 : lSt → Nat → Nat → Nat → Int32 → Prop) (x j k n : Nat) (v4 : Int32) : Prop := ∀ (τ : CSt) (ρ : RSt) (o : Nat → Int64) (k' n' : Nat), LInv x (j + 1) τ ρ → k' ≤ k + 100 → n' ≤ n + 6110 → K23 (τ, (ρ, o)) k' n' x (v4 + 6)
theorem LK.go {τ : CSt} {ρ : RSt} {o : Nat → Int64} (kk : LK K23 x j k n v4) (a b : Nat) (ha : a ≤ 100) (hb : b ≤ 6110) (hC : CRep τ lab ad μ) (hx : ad 7 0 = x) (hR : RR ρ μ) (hI : MI μ (j + 1)) (hT : TB μ) : K23 (τ, (ρ, o)) (k + a) (n + b) x (v4 + 6) := kk τ ρ o _ _ ⟨μ, lab, ad, hx, hC, hR, hI, hT⟩ (Nat.add_le_add_left ha k) (Nat.add_le_add_left hb n)
theorem LK.go0 {τ : CSt} {ρ : RSt} {o : Nat → Int64} (kk : LK K23 x j k n v4) (hC : CRep τ lab ad μ) (hx : ad 7 0 = x) (hR : RR ρ μ) (hI : MI μ (j + 1)) (hT : TB μ) : K23 (τ, (ρ, o)) k n x (v4 + 6) := kk.go 0 0 (by decide) (by decide) hC hx hR hI hT
theorem nIi {v : Int32} {a b N : Nat} (hN : N < 2 ^ 31) (ha : a ≤ N) (hb : b ≤ N) (e : v = nI a) (e' : v = nI b) : a = b := (nI_eq (by omega) (by omega)).mp (e.symm.trans e')
theorem no_lt {v : Int32} {i N : Nat} (hN : N < 2 ^ 31) (e : v = nI i) (hi : i < N) (g : ¬ v < 0 → ¬ v < nI N) : False := by
  subst e
  exact g (nI_pos (by omega)) (nI_lt hi hN)
theorem no_le {v m : Int32} {i N : Nat} (hm : m = nI N) (hN : N < 2 ^ 31) (e : v = nI i) (hi : i ≤ N) (g : ¬ v < 0 → ¬ v ≤ m) : False := by
  subst e; subst hm
  exact g (nI_pos (by omega)) (nI_le hi hN)
theorem no_rg {w m : Int32} {a N : Nat} (hm : m.toInt = N) (e : w = nI a) (ha : a ≤ N) (hN : N < 2 ^ 31) (h : w.toInt < 0 ∨ m.toInt < w.toInt) : False := by
  subst e
  rw [nI_toInt (by omega), hm] at h
  omega
theorem no_rgl {w : Int32} {a N : Nat} (e : w = nI a) (ha : a ≤ N) (hN : N < 2 ^ 31) (h : w.toInt < 0 ∨ (N : Int) < w.toInt) : False := by
  subst e
  rw [nI_toInt (by omega)] at h
  omega
/-! the law's own ends -/
theorem lt_e {A C : Prop} {a b : Int32} (e : a = b) (h : A) : (a = b → A) ∧ (¬ a = b → C) := ⟨fun _ => h, fun g => absurd e g⟩
theorem lt_q {A C : Prop} {a b : Int64} (e : a = b) (h : A) : (lg_cmp a b = 0 → A) ∧ (¬ lg_cmp a b = 0 → C) := ⟨fun _ => h, fun g => absurd (lgc_eq.mpr e) g⟩
theorem lt_o {A B C : Prop} {t : Int32} {p q : Int64} (ht : t = 0) (e : p = q) (h : A) : (t = 0 → (¬ (0 : Int32) = 0 → A) ∧ ((0 : Int32) = 0 → (lg_cmp p q = 0 → A) ∧ (¬ lg_cmp p q = 0 → B))) ∧ (¬ t = 0 → C) := ⟨fun _ => ⟨fun _ => h, fun _ => lt_q e h⟩, fun g => absurd ht g⟩
theorem lt_x {A B C : Prop} {t r : Int32} (ht : t = r) (hr : ¬ r = 0) (h : A) : (t = r → (¬ r = 0 → A) ∧ (r = 0 → B)) ∧ (¬ t = r → C) := ⟨fun _ => ⟨fun _ => h, fun g => absurd g hr⟩, fun g => absurd ht g⟩
theorem lt_b {A B : Prop} {D : Int64 → Prop} {C : Prop} {t v : Int32} (ht : t = 0) (h : v = 0 → D 0) (h' : ¬ v = 0 → D 1) : (t = 0 → (¬ (0 : Int32) = 0 → A) ∧ ((0 : Int32) = 0 → (v = 0 → D 0) ∧ (¬ v = 0 → D 1))) ∧ (¬ t = 0 → C) := ⟨fun _ => ⟨fun g => absurd rfl g, fun _ => ⟨h, h'⟩⟩, fun g => absurd ht g⟩
theorem up_0 {f : Nat → Int64} {w : Int64} : vp_updL f (0 : Int32).toNatClampNeg w 0 = w := rfl
theorem vin0 : vp_in (0 : Int32) 1 := nI_in (c := 0) (N := 1) (by decide) (by decide)
end LH
end
