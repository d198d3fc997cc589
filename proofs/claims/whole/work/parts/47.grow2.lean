section GROW3
variable {σ : CSt} {lab : Nat → Nat} {a m n e d : Nat} {f : Nat → Nat} {mc ms : Nat}
/-- a full list's next row: half as much again -/
theorem grow_1 {post : Option Nat → CSt → Prop} {c : Nat} (ha : cAt σ 0 a) (hr : cR σ 1 a = some d) (hd : cAt σ 10 d) (hdz : d ≠ (cZ σ).1) (hc : cN σ d = c) (hcap : capOk c) (h9 : c ≤ 79) (hel : ∀ i : Nat, i < c → ∀ y : Nat, cE σ d i = some y → cElm σ y) (hm : 1 ≤ mc ∧ 109 ≤ ms)
    (hp : ∀ (q : Nat) (g : Nat → Option Nat), q ∉ cL σ → q ≠ (cZ σ).1 → (∀ i : Nat, i < c → g i = cE σ d i) → post (some q) (csR (csE (csA σ q 10 (capN c)) q g) 1 a (some q))) : wpC_Jx4a65c_grow_92f84_0 mc ms post σ a (nI (c + 1)) := by
  have hz : cNq σ d = c := (if_neg hdz).trans hc
  have hpos : 0 < c := by rcases hcap with h | h | h | h | h | h | h <;> omega
  obtain ⟨e1, e2, e3, e4⟩ := cap_len hcap h9
  refine ⟨ha, _, hr, Or.inr ⟨hdz, hd⟩, fun _ => ?_, fun h => absurd (by rw [hz, ← nI_0]; exact nI_lt hpos (by omega)) h⟩
  rw [hz]
  rintro x rfl
  rw [e1]
  refine ⟨fun h => absurd h (nI_nle (by omega) (by omega)), fun _ => ⟨fun h => ?_, fun _ => ?_⟩⟩
  · exfalso
    have h1 := Int32.lt_iff_toInt_lt.mp h
    rw [nI_toInt (by omega)] at h1
    have h2 : (2147483639 : Int32).toInt = 2147483639 := by decide
    omega
  · refine ⟨ha, d, hr, by omega, by omega, hd, fun h => absurd rfl h, fun _ => ⟨nI_pos (by omega), by rw [nI_clamp (by omega)]; exact e3, fun q hq hqz => ?_⟩⟩
    rintro s4 rfl
    have hdq : d ≠ q := fun h => hq (h ▸ hd.1)
    have hcN4 : cNq (csA σ q 10 (nI (capN c)).toNatClampNeg) d = c := by
      rw [cNq, pZ_csA, if_neg hdz, pN_csA, va_up_ne _ _ hdq, hc]
    refine ⟨Or.inr ⟨hdz, at_csA hq hd⟩, ?_⟩
    rw [hcN4]
    rintro x rfl
    rw [if_neg (nI_nlt (by omega) (by omega))]
    have hcl : (nI c).toNatClampNeg = c := nI_clamp (by omega)
    have h0 : (0 : Int32).toNatClampNeg = 0 := by decide
    refine ⟨at_csA hq hd, at_csAq, by decide, by decide, nI_pos (by omega), ?_, ?_, ?_, ?_⟩
    · rw [hcl, h0, pN_csA, va_up_ne _ _ hdq, hc]; omega
    · rw [hcl, h0, pN_csA, va_up_self, nI_clamp (by omega)]; omega
    · intro i hi y hy
      rw [hcl] at hi
      rw [h0, Nat.zero_add, pE_csA, va_up_ne _ _ hdq] at hy
      obtain ⟨kd, hk, hat⟩ := hel i hi y hy
      exact ⟨kd, hk, at_csA hq hat⟩
    · rintro s2 rfl
      refine ⟨at_csA (n := (nI (capN c)).toNatClampNeg) hq ha, ?_⟩
      rintro s7 rfl
      refine ⟨by omega, by omega, ?_⟩
      rw [nI_clamp (show capN c < 2 ^ 31 by omega)]
      refine hp q _ hq hqz (fun i hi => ?_)
      rw [hcl, h0, pE_csA, va_up_ne _ _ hdq]
      show (if 0 ≤ i ∧ i < 0 + c then cE σ d (0 + (i - 0)) else _) = cE σ d i
      rw [if_pos ⟨Nat.zero_le _, by omega⟩, Nat.sub_zero, Nat.zero_add]
end GROW3
