/-! the single writes, as steps -/
section ONE
variable {σ : CSt} {lab : Nat → Nat} {kd m a : Nat}
theorem ne_at (hb : cAt σ kd a) (hl : lab a = m) {b : Nat} (hx : ¬ (cK σ b = kd ∧ lab b = m)) : ¬ b = a := fun e => hx (by rw [e]; exact ⟨hb.2, hl⟩)
theorem keep_csI (hb : cAt σ kd a) (hl : lab a = m) (key : Nat) (v : Int32) : keepR (fun k l => k = kd ∧ l = m) σ lab (csI σ key a v) lab := ⟨rfl, fun b h => ⟨h, rfl, rfl, rfl, fun hx => ⟨fun k => by rw [pI_csI, cu2_ap, if_neg (ne_at hb hl hx)]; split <;> rfl, fun _ => rfl, fun _ => rfl, rfl, rfl⟩⟩⟩
theorem keep_csR (hb : cAt σ kd a) (hl : lab a = m) (key : Nat) (v : Option Nat) : keepR (fun k l => k = kd ∧ l = m) σ lab (csR σ key a v) lab := ⟨rfl, fun b h => ⟨h, rfl, rfl, rfl, fun hx => ⟨fun _ => rfl, fun k => by rw [pR_csR, cu2_ap, if_neg (ne_at hb hl hx)]; split <;> rfl, fun _ => rfl, rfl, rfl⟩⟩⟩
theorem keep_csJ (hb : cAt σ kd a) (hl : lab a = m) (key : Nat) (v : Int64) : keepR (fun k l => k = kd ∧ l = m) σ lab (csJ σ key a v) lab := ⟨rfl, fun b h => ⟨h, rfl, rfl, rfl, fun hx => ⟨fun _ => rfl, fun _ => rfl, fun k => by rw [pJ_csJ, cu2_ap, if_neg (ne_at hb hl hx)]; split <;> rfl, rfl, rfl⟩⟩⟩
theorem keep_csV (hb : cAt σ kd a) (hl : lab a = m) (f : Nat → Int32) : keepR (fun k l => k = kd ∧ l = m) σ lab (csV σ a f) lab := ⟨rfl, fun b h => ⟨h, rfl, rfl, rfl, fun hx => ⟨fun _ => rfl, fun _ => rfl, fun _ => rfl, by rw [pV_csV, va_up_ne _ _ (ne_at hb hl hx)], rfl⟩⟩⟩
theorem keep_csE (hb : cAt σ kd a) (hl : lab a = m) (f : Nat → Option Nat) : keepR (fun k l => k = kd ∧ l = m) σ lab (csE σ a f) lab := ⟨rfl, fun b h => ⟨h, rfl, rfl, rfl, fun hx => ⟨fun _ => rfl, fun _ => rfl, fun _ => rfl, rfl, by rw [pE_csE, va_up_ne _ _ (ne_at hb hl hx)]⟩⟩⟩
theorem keep_csO {q : Nat} (hq : q ∉ cL σ) (kd m : Nat) {X : Nat → Nat → Prop} : keepR X σ lab (csO σ q kd) (va_up lab q m) := ⟨rfl, fun b h => by
  have hn : b ≠ q := fun e => hq (e ▸ h)
  refine ⟨List.mem_append_left _ h, va_up_ne _ _ hn, va_up_ne _ _ hn, rfl, fun _ => ⟨fun k => ?_, fun k => ?_, fun k => ?_, rfl, rfl⟩⟩
  · rw [pI_csO]; exact if_neg hn
  · rw [pR_csO]; exact if_neg hn
  · rw [pJ_csO]; exact if_neg hn⟩
theorem keep_csA {q : Nat} (hq : q ∉ cL σ) (kd n m : Nat) {X : Nat → Nat → Prop} : keepR X σ lab (csA σ q kd n) (va_up lab q m) := ⟨rfl, fun b h => by
  have hn : b ≠ q := fun e => hq (e ▸ h)
  exact ⟨List.mem_append_left _ h, va_up_ne _ _ hn, va_up_ne _ _ hn, va_up_ne _ _ hn, fun _ => ⟨fun _ => rfl, fun _ => rfl, fun _ => rfl, va_up_ne _ _ hn, va_up_ne _ _ hn⟩⟩⟩
end ONE
