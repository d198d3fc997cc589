/-! a list takes one more at its end -/
/-- how much the list's data holds -/
def capL (σ : CSt) (a : Nat) : Nat := match cR σ 1 a with
  | some d => cNq σ d
  | none => 0
def addX (m : Nat) : Nat → Nat → Prop := fun k l => (k = 0 ∨ k = 10) ∧ l = m
section ADD
variable {σ : CSt} {lab : Nat → Nat} {a m n e : Nat} {f : Nat → Nat} {mc ms : Nat}
theorem add_11 {post : CSt → Prop} {d : Nat} {k q : Nat} (ha : cAt σ 0 a) (hl : lab a = m) (hd : cAt σ 10 d) (hld : lab d = m) (hr : cR σ 1 a = some d) (hdz : d ≠ (cZ σ).1) (hn : n < 80) (hc : n < cN σ d) (hcap : capOk (cN σ d)) (hf : ∀ i : Nat, i < n → cE σ d i = some (f i)) (he : cElm σ e) (hk : k ≤ mc ∧ q ≤ ms)
    (hp : ∀ σ' : CSt, keepR (addX m) σ lab σ' lab → isL σ' lab a m (n + 1) (va_up f n e) → cR σ' 1 a = some d → (∀ key : Nat, key ≠ 0 → key ≠ 2 → cI σ' key a = cI σ key a) → post σ') : wpC_Jx4a65c_add_72be8_11 mc ms post σ k q a e (some d) (nI n) := by
  have hb : n < 2 ^ 31 := by omega
  have hcN : cN σ d < 2 ^ 31 := by rcases hcap with h | h | h | h | h | h | h <;> omega
  refine ⟨d, rfl, hd, he, vp_in_nI hc hcN, ?_⟩
  rintro s2 rfl
  refine ⟨ha, ?_⟩
  rintro s3 rfl
  refine ⟨hk.1, hk.2, hp _ ?_ ?_ hr ?_⟩
  · exact ((keep_csE hd hld _).mono (fun k l h => ⟨Or.inr h.1, h.2⟩)).tr ((keep_csI (σ := csE σ d _) ha hl 2 _).mono (fun k l h => ⟨Or.inl h.1, h.2⟩))
  · refine ⟨ha, hl, ?_, by omega, d, hr, Or.inr ⟨hdz, hd, hld, hc, hcap, fun i hi => ?_⟩⟩
    · rw [pI_csI, cu2_ap, if_pos rfl, if_pos rfl, nI_1]
    · rw [pE_csI, pE_csE, up_ap, if_pos rfl, nI_clamp hb, up_ap, up_ap]
      by_cases hin : i = n
      · rw [if_pos hin, if_pos hin]
      · rw [if_neg hin, if_neg hin]; exact hf i (by omega)
  · intro key h0 h2
    rw [pI_csI, cu2_ap, if_neg h2, pI_csE]
end ADD
