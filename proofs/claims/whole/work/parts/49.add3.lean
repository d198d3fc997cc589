/-- a list takes one more at its end: the whole call -/
theorem sC_add {σ : CSt} {lab : Nat → Nat} {a m n e : Nat} {f : Nat → Nat} {mc ms : Nat} {post : Int32 → CSt → Prop} (h : isL σ lab a m n f) (hn : n < 80) (hel : ∀ i : Nat, i < n → cElm σ (f i)) (he : cElm σ e) (hg : n = capL σ a → 1 ≤ mc ∧ 109 ≤ ms)
    (hp : ∀ (σ' : CSt) (lab' : Nat → Nat), keepR (addX m) σ lab σ' lab' → isL σ' lab' a m (n + 1) (va_up f n e) → capL σ' a = (if n = capL σ a then capG n else capL σ a) → post 1 σ') : wpC_Jx4a65c_add_9ea2d_0 mc ms post σ a e := by
  obtain ⟨h1, h2, h3, h4, d, h5, h6⟩ := h
  refine ⟨h1, h1, ?_⟩
  rintro s1 rfl
  have hk : keepR (addX m) σ lab (csI σ 0 a (cI σ 0 a + 1)) lab := (keep_csI h1 h2 0 _).mono (fun k l h => ⟨Or.inl h.1, h.2⟩)
  refine ⟨h1, d, h5, h1, mc, ms, by omega, by omega, h1, ?_⟩
  have hs : cI (csI σ 0 a (cI σ 0 a + 1)) 2 a = nI n := by rw [pI_csI, cu2_ap, if_neg (by decide)]; exact h3
  rw [hs]
  exact add_72 (σ := csI σ 0 a (cI σ 0 a + 1)) h1 h2 h5 h6 hn hs hel he hg (fun σ' lab' k1 k2 k3 => ⟨by omega, by omega, hp σ' lab' (hk.tr k1) k2 k3⟩)
