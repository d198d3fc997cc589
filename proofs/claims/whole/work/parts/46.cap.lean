section GROW2
variable {σ : CSt} {lab : Nat → Nat} {a m n e d : Nat} {f : Nat → Nat} {mc ms : Nat}
def capN (c : Nat) : Nat := c + c / 2
theorem cap_len {c : Nat} (h : capOk c) (h9 : c ≤ 79) : (nI c) + (if (nI (c + 1) - nI c) < (nI c >>> (1 &&& 31)) then (nI c >>> (1 &&& 31)) else (nI (c + 1) - nI c)) = nI (capN c) ∧ capOk (capN c) ∧ capN c ≤ 109 ∧ c < capN c := by
  rcases h with rfl | rfl | rfl | rfl | rfl | rfl | rfl
  · exact ⟨by decide, Or.inr (Or.inl rfl), by decide, by decide⟩
  · exact ⟨by decide, Or.inr (Or.inr (Or.inl rfl)), by decide, by decide⟩
  · exact ⟨by decide, Or.inr (Or.inr (Or.inr (Or.inl rfl))), by decide, by decide⟩
  · exact ⟨by decide, Or.inr (Or.inr (Or.inr (Or.inr (Or.inl rfl)))), by decide, by decide⟩
  · exact ⟨by decide, Or.inr (Or.inr (Or.inr (Or.inr (Or.inr (Or.inl rfl))))), by decide, by decide⟩
  · exact ⟨by decide, Or.inr (Or.inr (Or.inr (Or.inr (Or.inr (Or.inr rfl))))), by decide, by decide⟩
  · omega
end GROW2
