/-! lists of the class's pool -/
def capOk (c : Nat) : Prop := c = 10 ∨ c = 15 ∨ c = 22 ∨ c = 33 ∨ c = 49 ∨ c = 73 ∨ c = 109
/-- the list's data: the empty constant, or a row of its own -/
def isD (σ : CSt) (lab : Nat → Nat) (m n : Nat) (f : Nat → Nat) (d : Nat) : Prop :=
  (n = 0 ∧ d = (cZ σ).1) ∨ (d ≠ (cZ σ).1 ∧ cAt σ 10 d ∧ lab d = m ∧ n ≤ cN σ d ∧ capOk (cN σ d) ∧ ∀ i : Nat, i < n → cE σ d i = some (f i))
def isL (σ : CSt) (lab : Nat → Nat) (a m n : Nat) (f : Nat → Nat) : Prop :=
  cAt σ 0 a ∧ lab a = m ∧ cI σ 2 a = nI n ∧ n ≤ 80 ∧ ∃ d : Nat, cR σ 1 a = some d ∧ isD σ lab m n f d
theorem sC_size {σ : CSt} {lab : Nat → Nat} {a m n : Nat} {f : Nat → Nat} {post : Int32 → CSt → Prop} (h : isL σ lab a m n f) (hp : post (nI n) σ) : wpC_Jx4a65c_size_8abf5_0 post σ a := ⟨h.1, by rw [h.2.2.1]; exact hp⟩
theorem sC_isEmpty {σ : CSt} {lab : Nat → Nat} {a m n : Nat} {f : Nat → Nat} {post : Int32 → CSt → Prop} (h : isL σ lab a m n f) (hp : post (if n = 0 then 1 else 0) σ) : wpC_Jx4a65c_isEmpty_aae02_0 post σ a := by
  refine ⟨h.1, ?_, ?_⟩
  · intro e
    rw [h.2.2.1] at e
    by_cases hn : n = 0
    · subst hn; exact absurd nI_0 e
    · rw [if_neg hn] at hp; exact hp
  · intro e
    rw [h.2.2.1] at e
    by_cases hn : n = 0
    · rw [if_pos hn] at hp; exact hp
    · exact absurd e (nI_ne0 (by omega) (by have := h.2.2.2.1; omega))
theorem sC_get {σ : CSt} {lab : Nat → Nat} {a m n i : Nat} {f : Nat → Nat} {post : Option Nat → CSt → Prop} (h : isL σ lab a m n f) (hi : i < n) (hp : post (some (f i)) σ) : wpC_Jx4a65c_get_915e3_0 post σ a (nI i) := by
  obtain ⟨h1, -, h2, h3, d, h4, h5⟩ := h
  have hl : i < 2 ^ 31 := by omega
  rcases h5 with ⟨h5, -⟩ | ⟨-, h6, -, h7, -, h8⟩
  · omega
  · have h9 : cN σ d < 2 ^ 31 ∨ 2 ^ 31 ≤ cN σ d := by omega
    refine ⟨h1, fun e => absurd e (nI_pos hl), fun _ => ⟨fun _ => ⟨h1, h1, d, h4, h6, ?_, by rw [nI_clamp hl, h8 i hi]; exact hp⟩, fun e => absurd (by rw [h2]; exact nI_lt hi (by omega)) e⟩⟩
    show ¬ (nI i < 0 ∨ cN σ d ≤ (nI i).toNatClampNeg)
    rw [nI_clamp hl]
    exact fun e => e.elim (nI_pos hl) (fun e => by omega)
