section
/-! rule: what holds of the model afterwards -/
section RU2
variable {μ μ' : MSt} {j : Nat}
theorem MI_sc (hI : MI μ j) (hc : mC0 μ' j) (h1 : μ'.1 7 = μ.1 7 ∧ μ'.1 9 = μ.1 9 ∧ μ'.1 14 = μ.1 14 ∧ μ'.1 22 = μ.1 22 ∧ μ'.1 26 = μ.1 26) (h2 : μ'.2.1 = μ.2.1) (h3 : μ'.2.2 13 = μ.2.2 13) : MI μ' j := by
  obtain ⟨e7, e9, e14, e22, e26⟩ := h1
  have hN : ∀ s, mNm μ' s = mNm μ s := fun s => by unfold mNm mBits; rw [h2]
  obtain ⟨a0, a1, a2, a3, a4, a5, a6, a7, a8, a9⟩ := hI
  refine ⟨hc, ?_, ?_, ?_, ?_, ?_, ?_, ?_, ?_, ?_⟩
  · unfold mLi; rw [h2, e7]; exact a1
  · unfold mSl; rw [h2, e9, e14]; exact a2
  · unfold mSn; rw [h2, e14]; exact a3
  · unfold mGr; rw [h2, e7, e9, e22]; exact a4
  · unfold mQu; rw [h2, e7, e22]; exact a5
  · unfold mRu
    rw [h2, e7, e9]
    refine ⟨a6.1, ?_⟩
    obtain ⟨r, hr⟩ := a6.2
    exact ⟨r, fun s k hs hk g => hr s k hs hk (by rw [hN] at g; exact g)⟩
  · unfold mLk; rw [h2, e14, e26]; exact a7
  · unfold mWt; rw [h2, h3, e14]; exact a8
  · unfold mZe; rw [h2, h3, e7, e9, e14, e22]; exact a9
theorem mR0_MI {pl : Int32} {rg : Nat} (hI : MI μ j) (hr : rg < 1024) : MI (mR0 μ pl rg) j := by
  refine MI_sc hI ?_ ⟨mR0_1 (by decide), mR0_1 (by decide), mR0_1 (by decide), mR0_1 (by decide), mR0_1 (by decide)⟩ rfl (mR0_3 (by decide))
  have h0 := hI.c0
  unfold mC0 at h0 ⊢
  rw [mR0_1 (k := 7) (by decide), mR0_1 (k := 9) (by decide), mR0_1 (k := 14) (by decide), mR0_1 (k := 22) (by decide), mR0_1 (k := 26) (by decide), mR0_1 (k := 27) (by decide), mR0_1 (k := 28) (by decide)]
  have e2 : (mR0 μ pl rg).1 2 = 0 := by
    show va_up (va_up μ.1 2 0) 20 rg 2 = 0
    rw [up_ap, if_neg (by decide), up_ap, if_pos rfl]
  have e20 : (mR0 μ pl rg).1 20 = rg := by
    show va_up (va_up μ.1 2 0) 20 rg 20 = rg
    rw [up_ap, if_pos rfl]
  rw [e2, e20]
  omega
end RU2
end
