/-! the first of a list goes -/
theorem i0_clamp : (0 : Int32).toNatClampNeg = 0 := by decide
theorem i1_clamp : ((0 : Int32) + 1).toNatClampNeg = 1 := by decide
theorem vp_in_0 {n : Nat} (h : 0 < n) : vp_in 0 n := by
  unfold vp_in
  rw [i0_clamp]
  exact fun e => e.elim (by decide) (fun e => by omega)
theorem rem_34 {σ : CSt} {lab : Nat → Nat} {a m n d : Nat} {f : Nat → Nat} {post : CSt → Prop} (h1 : cAt σ 0 a) (h2 : lab a = m) (hn : n ≤ 79) (hr : cR σ 1 a = some d) (hd : cAt σ 10 d) (hdz : d ≠ (cZ σ).1) (hl : lab d = m) (hc : n < cN σ d) (hcap : capOk (cN σ d)) (hf : ∀ i : Nat, i < n → cE σ d i = some (f i))
    (hp : ∀ σ' : CSt, keepR (addX m) σ lab σ' lab → isL σ' lab a m n f → capL σ' a = capL σ a → post σ') : wpC_Jx4a65c_fastRemove_b59b0_34 post σ a d (nI n) := by
  refine ⟨h1, ?_⟩
  rintro s1 rfl
  have hN : cN σ d < 2 ^ 31 := by rcases hcap with h | h | h | h | h | h | h <;> omega
  refine ⟨hd, vp_in_nI hc hN, ?_⟩
  rintro s2 rfl
  have hk : keepR (addX m) σ lab (csE (csI σ 2 a (nI n)) d (va_up (cE (csI σ 2 a (nI n)) d) (nI n).toNatClampNeg none)) lab := ((keep_csI h1 h2 2 _).mono (fun k l h => ⟨Or.inl h.1, h.2⟩)).tr ((keep_csE (σ := csI σ 2 a (nI n)) hd hl _).mono (fun k l h => ⟨Or.inr h.1, h.2⟩))
  refine hp _ hk ⟨h1, h2, ?_, by omega, d, hr, Or.inr ⟨hdz, hd, hl, Nat.le_of_lt hc, hcap, fun i hi => ?_⟩⟩ ?_
  · rw [pI_csE, pI_csI, cu2_ap, if_pos rfl, if_pos rfl]
  · rw [pE_csE, pE_csI, va_up_self, nI_clamp (by omega), va_up_ne _ _ (by omega)]; exact hf i hi
  · rw [capL_of (d := d) hr, capL_of (d := d) (by exact hr)]; rfl
theorem sC_remove0 {σ : CSt} {lab : Nat → Nat} {a m n : Nat} {f : Nat → Nat} {post : Option Nat → CSt → Prop} (h : isL σ lab a m (n + 1) f) (hel : ∀ i : Nat, i < n + 1 → cElm σ (f i))
    (hp : ∀ σ' : CSt, keepR (addX m) σ lab σ' lab → isL σ' lab a m n (fun i => f (i + 1)) → capL σ' a = capL σ a → post (some (f 0)) σ') : wpC_Jx4a65c_remove_915e3_0 post σ a 0 := by
  obtain ⟨h1, h2, h3, h4, d, h5, h6⟩ := h
  rcases h6 with ⟨g1, -⟩ | ⟨g1, g2, g3, g4, g5, g6⟩
  · omega
  have hN : cN σ d < 2 ^ 31 := by rcases g5 with h | h | h | h | h | h | h <;> omega
  refine ⟨h1, fun e => absurd e (by decide), fun _ => ⟨fun _ => ⟨h1, d, h5, g2, vp_in_0 (by omega), h1, ?_⟩, fun e => absurd (by rw [h3, ← nI_0]; exact nI_lt (Nat.succ_pos n) (by omega)) e⟩⟩
  refine ⟨h1, h1, ?_⟩
  rintro s3 rfl
  have hk : keepR (addX m) σ lab (csI σ 0 a (cI σ 0 a + 1)) lab := (keep_csI h1 h2 0 _).mono (fun k l h => ⟨Or.inl h.1, h.2⟩)
  have hs : cI (csI σ 0 a (cI σ 0 a + 1)) 2 a - 1 = nI n := by
    have : cI (csI σ 0 a (cI σ 0 a + 1)) 2 a = nI (n + 1) := by rw [pI_csI, cu2_ap, if_neg (by decide)]; exact h3
    rw [this, nI_pred]
  refine ⟨h1, ?_, ?_⟩
  · intro hle
    rw [hs] at hle ⊢
    have hn0 : n = 0 := by
      by_cases e : n = 0
      · exact e
      · exact absurd hle (nI_nle (by omega) (by omega))
    subst hn0
    rw [i0_clamp, g6 0 (Nat.succ_pos _)]
    exact rem_34 (σ := csI σ 0 a (cI σ 0 a + 1)) (f := fun i => f (i + 1)) h1 h2 (by omega) h5 g2 g1 g3 (by show 0 < cN σ d; omega) g5 (fun i hi => absurd hi (Nat.not_lt_zero i)) (fun σ' k1 k2 k3 => hp σ' (hk.tr k1) k2 k3)
  · intro hgt
    rw [hs] at hgt ⊢
    have e0 : nI n - 0 = nI n := by rw [Int32.sub_zero]
    have hcl : (nI n).toNatClampNeg = n := nI_clamp (by omega)
    rw [e0, hcl, i1_clamp, i0_clamp]
    refine ⟨g2, g2, by decide, by decide, nI_pos (by omega), by show 1 + n ≤ cN σ d; omega, by show 0 + n ≤ cN σ d; omega, ?_, ?_⟩
    · intro i hi y hy
      have hy' : cE σ d (1 + i) = some y := hy
      rw [g6 (1 + i) (by omega)] at hy'
      cases hy'
      exact hk.elm (hel _ (by omega))
    · rintro s5 rfl
      rw [show cE (csI σ 0 a (cI σ 0 a + 1)) d = cE σ d from rfl, g6 0 (Nat.succ_pos _)]
      refine rem_34 (σ := csE (csI σ 0 a (cI σ 0 a + 1)) d (va_cpy (cE σ d) (cE σ d) 1 0 n)) (f := fun i => f (i + 1)) h1 h2 (by omega) h5 g2 g1 g3 (by show n < cN σ d; omega) g5 (fun i hi => ?_) (fun σ' k1 k2 k3 => hp σ' ((hk.tr ((keep_csE (σ := csI σ 0 a (cI σ 0 a + 1)) g2 g3 _).mono (fun k l h => ⟨Or.inr h.1, h.2⟩))).tr k1) k2 k3)
      rw [pE_csE, va_up_self]
      show (if 0 ≤ i ∧ i < 0 + n then cE σ d (1 + (i - 0)) else _) = _
      rw [if_pos ⟨Nat.zero_le _, by omega⟩, Nat.sub_zero, Nat.add_comm 1 i]
      exact g6 (i + 1) (by omega)
