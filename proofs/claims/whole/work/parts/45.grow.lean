/-! .. and grows, if it is full -/
section GROW
variable {σ : CSt} {lab : Nat → Nat} {a m n e : Nat} {f : Nat → Nat} {mc ms : Nat}
/-- the empty list's first row: ten -/
theorem grow_0 {post : Option Nat → CSt → Prop} (ha : cAt σ 0 a) (hl : lab a = m) (hr : cR σ 1 a = some (cZ σ).1) (hm : 1 ≤ mc ∧ 109 ≤ ms)
    (hp : ∀ q : Nat, q ∉ cL σ → q ≠ (cZ σ).1 → post (some q) (csR (csA σ q 10 10) 1 a (some q))) : wpC_Jx4a65c_grow_92f84_0 mc ms post σ a (nI 1) := by
  have hz : cNq σ (cZ σ).1 = 0 := if_pos rfl
  refine ⟨ha, _, hr, Or.inl rfl, ?_, ?_⟩
  · intro h; rw [hz] at h; exact absurd h (by decide)
  · intro _
    refine ⟨ha, _, hr, fun _ => ?_, fun h => absurd rfl h⟩
    rintro x rfl
    refine ⟨by omega, by omega, by decide, by decide, fun q hq hqz => ?_⟩
    rintro s13 rfl
    refine ⟨at_csA hq ha, ?_⟩
    rintro s15 rfl
    exact ⟨by omega, by omega, hp q hq hqz⟩
end GROW
