section
/-! what holds of the model after a small call -/
section MV
variable {μ μ' : MSt} {j : Nat}
theorem MI_1 (hI : MI μ j) {k n : Nat} (hk : k = 2 ∧ n ≤ 400 ∨ k = 27 ∧ n ≤ 300) : MI (m1 μ k n) j := by
  have h0 := hI.c0
  refine MI_sc hI ?_ ⟨m1_n (by omega), m1_n (by omega), m1_n (by omega), m1_n (by omega), m1_n (by omega)⟩ rfl rfl
  unfold mC0 at h0 ⊢
  rw [m1_n (μ := μ) (k := k) (v := n) (k' := 7) (by omega), m1_n (μ := μ) (k := k) (v := n) (k' := 9) (by omega), m1_n (μ := μ) (k := k) (v := n) (k' := 14) (by omega), m1_n (μ := μ) (k := k) (v := n) (k' := 22) (by omega), m1_n (μ := μ) (k := k) (v := n) (k' := 26) (by omega), m1_n (μ := μ) (k := k) (v := n) (k' := 28) (by omega), m1_n (μ := μ) (k := k) (v := n) (k' := 20) (by omega)]
  rcases hk with ⟨rfl, hn⟩ | ⟨rfl, hn⟩
  · rw [m1_s, m1_n (by decide)]; omega
  · rw [m1_s, m1_n (by decide)]; omega
theorem MI_feed (hI : MI μ j) {f : Nat → Int32} (h : μ.1 2 ≤ 380) : MI (mFe μ f 20) j := by
  have h0 := hI.c0
  have e1 : ∀ k, k ≠ 2 → (mFe μ f 20).1 k = μ.1 k := fun k hk => by
    show (m1 (mFd μ f 20) 2 (μ.1 2 + 20)).1 k = μ.1 k
    rw [m1_n hk, mFd_1]
  have e2 : (mFe μ f 20).1 2 = μ.1 2 + 20 := m1_s
  refine MI_sc hI ?_ ⟨e1 _ (by decide), e1 _ (by decide), e1 _ (by decide), e1 _ (by decide), e1 _ (by decide)⟩ (mFd_2 20) (mFd_3 20 13 (by decide))
  unfold mC0 at h0 ⊢
  rw [e2, e1 7 (by decide), e1 9 (by decide), e1 14 (by decide), e1 22 (by decide), e1 26 (by decide), e1 27 (by decide), e1 28 (by decide), e1 20 (by decide)]
  omega
theorem MI_price (hI : MI μ j) {c : Nat} {w : Int32} (hc : c < μ.1 14) (h1 : -10000 ≤ w.toInt ∧ w.toInt ≤ 10000) : MI (m3 μ 13 c w) j := by
  obtain ⟨a0, a1, a2, a3, a4, a5, a6, a7, a8, a9⟩ := hI
  refine ⟨a0, a1, a2, a3, a4, a5, a6, a7, fun v hv => ?_, a9.1, a9.2.1, a9.2.2.1, fun v hv => ?_, a9.2.2.2.2⟩
  · have := a8 v hv
    refine ⟨this.1, ?_⟩
    by_cases e : v = c
    · subst e; rw [m3_s]; exact h1
    · rw [m3_n (fun _ => e)]; exact this.2
  · have hv' : μ.1 14 ≤ v := hv
    rw [m3_n (fun _ => by omega)]; exact a9.2.2.2.1 v hv
theorem MI_want (hI : MI μ j) {c n : Nat} (hc : c < μ.1 14) (h1 : n ≤ 1000000) : MI (m2 μ 12 c n) j := by
  have e : ∀ k, k ≠ 12 → (m2 μ 12 c n).2.1 k = μ.2.1 k := fun k hk => by funext i; exact m2_n (fun e => absurd e hk)
  have eN : ∀ s, mNm (m2 μ 12 c n) s = mNm μ s := fun s => mNm_eq (by rw [e 18 (by decide)]) (fun _ => by rw [e 17 (by decide)]) (fun _ _ _ => by rw [e 15 (by decide), e 16 (by decide)]; exact ⟨rfl, rfl⟩)
  obtain ⟨a0, a1, a2, a3, a4, a5, a6, a7, a8, a9⟩ := hI
  refine ⟨a0, ?_, ?_, ?_, ?_, ?_, ?_, ?_, fun v hv => ?_, ?_, ?_, ?_, fun v hv => ?_, ?_⟩
  · unfold mLi; rw [e 3 (by decide), e 4 (by decide)]; exact a1
  · unfold mSl; rw [e 8 (by decide), e 18 (by decide)]; exact a2
  · unfold mSn; rw [e 10 (by decide)]; exact a3
  · unfold mGr; rw [e 21 (by decide)]; exact a4
  · unfold mQu; rw [e 6 (by decide), e 5 (by decide), e 21 (by decide)]; exact a5
  · unfold mRu
    rw [e 15 (by decide), e 16 (by decide), e 17 (by decide), e 18 (by decide)]
    refine ⟨a6.1, ?_⟩
    obtain ⟨r, hr⟩ := a6.2
    exact ⟨r, fun s k hs hk g => hr s k hs hk (by rw [eN] at g; exact g)⟩
  · unfold mLk; rw [e 23 (by decide), e 24 (by decide), e 25 (by decide)]; exact a7
  · have := a8 v hv
    refine ⟨?_, this.2⟩
    by_cases ev : v = c
    · subst ev; rw [m2_s]; exact h1
    · rw [m2_n (fun _ => ev)]; exact this.1
  · rw [e 4 (by decide), e 6 (by decide)]; exact a9.1
  · rw [e 18 (by decide)]; exact a9.2.1
  · rw [e 10 (by decide)]; exact a9.2.2.1
  · have hv' : μ.1 14 ≤ v := hv
    rw [m2_n (fun _ => by omega)]; exact a9.2.2.2.1 v hv
  · rw [e 21 (by decide)]; exact a9.2.2.2.2
theorem MI_stop (hI : MI μ j) {i w : Nat} (hi : i < μ.1 7) (h1 : w ≤ 1) : MI (m2 μ 4 i w) j := by
  have e : ∀ k, k ≠ 4 → (m2 μ 4 i w).2.1 k = μ.2.1 k := fun k hk => by funext q; exact m2_n (fun e => absurd e hk)
  have eN : ∀ s, mNm (m2 μ 4 i w) s = mNm μ s := fun s => mNm_eq (by rw [e 18 (by decide)]) (fun _ => by rw [e 17 (by decide)]) (fun _ _ _ => by rw [e 15 (by decide), e 16 (by decide)]; exact ⟨rfl, rfl⟩)
  obtain ⟨a0, a1, a2, a3, a4, a5, a6, a7, a8, a9⟩ := hI
  refine ⟨a0, fun v hv => ?_, ?_, ?_, ?_, ?_, ?_, ?_, ?_, fun v hv => ?_, ?_, ?_, ?_, ?_⟩
  · have := a1 v hv
    rw [e 3 (by decide)]
    refine ⟨this.1, this.2.1, this.2.2.1, this.2.2.2.1, this.2.2.2.2.1, ?_⟩
    by_cases ev : v = i
    · subst ev; rw [m2_s]; exact h1
    · rw [m2_n (fun _ => ev)]; exact this.2.2.2.2.2
  · unfold mSl; rw [e 8 (by decide), e 18 (by decide)]; exact a2
  · unfold mSn; rw [e 10 (by decide)]; exact a3
  · unfold mGr; rw [e 21 (by decide)]; exact a4
  · unfold mQu; rw [e 6 (by decide), e 5 (by decide), e 21 (by decide)]; exact a5
  · unfold mRu
    rw [e 15 (by decide), e 16 (by decide), e 17 (by decide), e 18 (by decide)]
    refine ⟨a6.1, ?_⟩
    obtain ⟨r, hr⟩ := a6.2
    exact ⟨r, fun s k hs hk g => hr s k hs hk (by rw [eN] at g; exact g)⟩
  · unfold mLk; rw [e 23 (by decide), e 24 (by decide), e 25 (by decide)]; exact a7
  · unfold mWt; rw [e 12 (by decide)]; exact a8
  · have hv' : μ.1 7 ≤ v := hv
    rw [m2_n (fun _ => by omega), e 6 (by decide)]; exact a9.1 v hv
  · rw [e 18 (by decide)]; exact a9.2.1
  · rw [e 10 (by decide)]; exact a9.2.2.1
  · rw [e 12 (by decide)]; exact a9.2.2.2.1
  · rw [e 21 (by decide)]; exact a9.2.2.2.2
theorem MI_unrule (hI : MI μ j) {i : Nat} (hi : i < μ.1 9) : MI (m2 μ 18 i 0) j := by
  have e : ∀ k, k ≠ 18 → (m2 μ 18 i 0).2.1 k = μ.2.1 k := fun k hk => by funext q; exact m2_n (fun e => absurd e hk)
  obtain ⟨a0, a1, a2, a3, a4, a5, a6, a7, a8, a9⟩ := hI
  have e18 : ∀ s, s ≠ i → (m2 μ 18 i 0).2.1 18 s = μ.2.1 18 s := fun s hs => m2_n (fun _ => hs)
  refine ⟨a0, ?_, fun s hs => ?_, ?_, ?_, ?_, ⟨fun s hs h18 => ?_, ?_⟩, ?_, ?_, ?_, fun v hv => ?_, ?_, ?_, ?_⟩
  · unfold mLi; rw [e 3 (by decide), e 4 (by decide)]; exact a1
  · have := a2 s hs
    rw [e 8 (by decide)]
    refine ⟨this.1, this.2.1, this.2.2.1, this.2.2.2.1, this.2.2.2.2.1, this.2.2.2.2.2.1, ?_⟩
    by_cases es : s = i
    · subst es; rw [m2_s]; decide
    · rw [e18 s es]; exact this.2.2.2.2.2.2
  · unfold mSn; rw [e 10 (by decide)]; exact a3
  · unfold mGr; rw [e 21 (by decide)]; exact a4
  · unfold mQu; rw [e 6 (by decide), e 5 (by decide), e 21 (by decide)]; exact a5
  · rw [e 15 (by decide), e 16 (by decide), e 17 (by decide)]
    by_cases es : s = i
    · subst es; rw [m2_s] at h18; exact absurd h18 (by decide)
    · rw [e18 s es] at h18; exact a6.1 s hs h18
  · obtain ⟨r, hr⟩ := a6.2
    refine ⟨r, fun s k hs hk g => ?_⟩
    by_cases es : s = i
    · subst es
      have : mNm (m2 μ 18 s 0) s = 0 := by unfold mNm; rw [m2_s, if_neg (by decide)]
      rw [this, Nat.zero_testBit] at g
      exact absurd g (by decide)
    · refine hr s k hs hk ?_
      rw [mNm_eq (μ := μ) (μ' := m2 μ 18 i 0) (e18 s es) (fun _ => by rw [e 17 (by decide)]) (fun _ _ _ => by rw [e 15 (by decide), e 16 (by decide)]; exact ⟨rfl, rfl⟩)] at g
      exact g
  · unfold mLk; rw [e 23 (by decide), e 24 (by decide), e 25 (by decide)]; exact a7
  · unfold mWt; rw [e 12 (by decide)]; exact a8
  · rw [e 4 (by decide), e 6 (by decide)]; exact a9.1
  · have hv' : μ.1 9 ≤ v := hv
    rw [m2_n (fun _ => by omega)]; exact a9.2.1 v hv
  · rw [e 10 (by decide)]; exact a9.2.2.1
  · rw [e 12 (by decide)]; exact a9.2.2.2.1
  · rw [e 21 (by decide)]; exact a9.2.2.2.2
/-- snow changes -/
theorem MI_sn (hI : MI μ j) {j' : Nat} (hj : j ≤ j') (h1 : ∀ k, k ≠ 50 ∧ k ≠ 51 ∧ k ≠ 52 → μ'.1 k = μ.1 k) (h2 : ∀ k, k ≠ 10 → μ'.2.1 k = μ.2.1 k) (h3 : μ'.2.2 = μ.2.2) (hs : mSn μ' j') (hz : ∀ i, 4 * μ.1 14 ≤ i → μ'.2.1 10 i = 0) : MI μ' j' := by
  have eN : ∀ s, mNm μ' s = mNm μ s := fun s => mNm_eq (by rw [h2 18 (by decide)]) (fun _ => by rw [h2 17 (by decide)]) (fun _ _ _ => by rw [h2 15 (by decide), h2 16 (by decide)]; exact ⟨rfl, rfl⟩)
  have h0 := hI.c0
  obtain ⟨a0, a1, a2, a3, a4, a5, a6, a7, a8, a9⟩ := hI
  refine ⟨?_, ?_, ?_, hs, ?_, ?_, ?_, ?_, ?_, ?_, ?_, fun i hi => ?_, ?_, ?_⟩
  · unfold mC0 at h0 ⊢
    rw [h1 2 (by decide), h1 7 (by decide), h1 9 (by decide), h1 14 (by decide), h1 22 (by decide), h1 26 (by decide), h1 27 (by decide), h1 28 (by decide), h1 20 (by decide)]
    omega
  · unfold mLi; rw [h2 3 (by decide), h2 4 (by decide), h1 7 (by decide)]; exact a1
  · unfold mSl; rw [h2 8 (by decide), h2 18 (by decide), h1 9 (by decide), h1 14 (by decide)]; exact a2
  · unfold mGr; rw [h2 21 (by decide), h1 22 (by decide), h1 7 (by decide), h1 9 (by decide)]; exact a4
  · unfold mQu; rw [h2 6 (by decide), h2 5 (by decide), h2 21 (by decide), h1 7 (by decide), h1 22 (by decide)]; exact a5
  · unfold mRu
    rw [h2 15 (by decide), h2 16 (by decide), h2 17 (by decide), h2 18 (by decide), h1 9 (by decide), h1 7 (by decide)]
    refine ⟨a6.1, ?_⟩
    obtain ⟨r, hr⟩ := a6.2
    exact ⟨r, fun s k hs hk g => hr s k hs hk (by rw [eN] at g; exact g)⟩
  · unfold mLk; rw [h2 23 (by decide), h2 24 (by decide), h2 25 (by decide), h1 26 (by decide), h1 14 (by decide)]; exact a7
  · unfold mWt; rw [h2 12 (by decide), h3, h1 14 (by decide)]; exact a8
  · rw [h2 4 (by decide), h2 6 (by decide), h1 7 (by decide)]; exact a9.1
  · rw [h2 18 (by decide), h1 9 (by decide)]; exact a9.2.1
  · rw [h1 14 (by decide)] at hi; exact hz i hi
  · rw [h2 12 (by decide), h3, h1 14 (by decide)]; exact a9.2.2.2.1
  · rw [h2 21 (by decide), h1 22 (by decide)]; exact a9.2.2.2.2
theorem MI_snow (hI : MI μ j) {c k n : Nat} (hc : c < μ.1 14) (hk : k ≤ 1) (hn : n ≤ 100000) : MI (m2 (m1 μ (50 + k) (μ.1 (50 + k) + n)) 10 (4 * c + k) (μ.2.1 10 (4 * c + k) + n)) (j + 1) := by
  refine MI_sn hI (by omega) (fun q hq => ?_) (fun q hq => ?_) rfl (fun v hv => ?_) (fun i hi => ?_)
  · exact m1_n (by omega)
  · funext i; exact m2_n (fun e => absurd e hq)
  · have hv' : v < μ.1 14 := by
      have e : (m1 μ (50 + k) (μ.1 (50 + k) + n)).1 14 = μ.1 14 := m1_n (by omega)
      have : v < (m1 μ (50 + k) (μ.1 (50 + k) + n)).1 14 := hv
      omega
    have h1 := hI.sn v hv'
    by_cases ev : v = c
    · subst ev
      have e0 : ∀ q : Nat, q < 4 → (m2 (m1 μ (50 + k) (μ.1 (50 + k) + n)) 10 (4 * v + k) (μ.2.1 10 (4 * v + k) + n)).2.1 10 (4 * v + q) = if q = k then μ.2.1 10 (4 * v + q) + n else μ.2.1 10 (4 * v + q) := fun q hq => by
        by_cases eq : q = k
        · subst eq; rw [if_pos rfl, m2_s]
        · rw [if_neg eq, m2_n (fun _ => by omega)]; rfl
      have f0 : (m2 (m1 μ (50 + k) (μ.1 (50 + k) + n)) 10 (4 * v + k) (μ.2.1 10 (4 * v + k) + n)).2.1 10 (4 * v) = if 0 = k then μ.2.1 10 (4 * v) + n else μ.2.1 10 (4 * v) := e0 0 (by decide)
      rw [f0, e0 1 (by decide), e0 2 (by decide), e0 3 (by decide)]
      rcases (show k = 0 ∨ k = 1 by omega) with rfl | rfl
      · rw [if_pos rfl, if_neg (by decide), if_neg (by decide), if_neg (by decide)]; omega
      · rw [if_neg (by decide), if_pos rfl, if_neg (by decide), if_neg (by decide)]; omega
    · rw [m2_n (fun _ => by omega), m2_n (fun _ => by omega), m2_n (fun _ => by omega), m2_n (fun _ => by omega)]
      have e : (m1 μ (50 + k) (μ.1 (50 + k) + n)).2.1 = μ.2.1 := rfl
      rw [e]; omega
  · rw [m2_n (fun _ => by omega)]
    exact hI.ze.2.2.1 i hi
theorem mMel_lt {c n : Nat} : ∀ k q : Nat, q < 4 → (mMel μ c n k).1.2.1 10 (4 * c + q) ≤ μ.2.1 10 (4 * c + q)
  | 0, _, _ => Nat.le_refl _
  | k + 1, q, h => by
    have ih := mMel_lt (c := c) (n := n) k q h
    show (m2 (mMel μ c n k).1 10 (4 * c + k) (μ.2.1 10 (4 * c + k) - min (n - (mMel μ c n k).2) (μ.2.1 10 (4 * c + k)))).2.1 10 (4 * c + q) ≤ _
    by_cases e : q = k
    · subst e; rw [m2_s]; omega
    · rw [m2_n (fun _ => by omega)]; exact ih
theorem MI_melt (hI : MI μ j) {c n : Nat} (hc : c < μ.1 14) : MI (m1 (mMel μ c n 4).1 52 (μ.1 52 + (mMel μ c n 4).2)) j := by
  refine MI_sn hI (Nat.le_refl _) (fun q hq => ?_) (fun q hq => ?_) (mMel_3 4) (fun v hv => ?_) (fun i hi => ?_)
  · rw [m1_n hq.2.2, mMel_1]
  · funext i; exact mMel_o 4 i q (fun e => absurd e hq)
  · have hv' : v < μ.1 14 := by
      have : v < (m1 (mMel μ c n 4).1 52 (μ.1 52 + (mMel μ c n 4).2)).1 14 := hv
      rw [m1_n (by decide), mMel_1] at this; exact this
    have h1 := hI.sn v hv'
    show (mMel μ c n 4).1.2.1 10 (4 * v) + (mMel μ c n 4).1.2.1 10 (4 * v + 1) + (mMel μ c n 4).1.2.1 10 (4 * v + 2) + (mMel μ c n 4).1.2.1 10 (4 * v + 3) ≤ 100000 * j
    by_cases ev : v = c
    · subst ev
      have b0 := mMel_lt (μ := μ) (c := v) (n := n) 4 0 (by decide)
      have b1 := mMel_lt (μ := μ) (c := v) (n := n) 4 1 (by decide)
      have b2 := mMel_lt (μ := μ) (c := v) (n := n) 4 2 (by decide)
      have b3 := mMel_lt (μ := μ) (c := v) (n := n) 4 3 (by decide)
      rw [show 4 * v + 0 = 4 * v from rfl] at b0
      omega
    · rw [mMel_o 4 _ _ (fun _ => by omega), mMel_o 4 _ _ (fun _ => by omega), mMel_o 4 _ _ (fun _ => by omega), mMel_o 4 _ _ (fun _ => by omega)]
      exact h1
  · show (mMel μ c n 4).1.2.1 10 i = 0
    rw [mMel_o 4 _ _ (fun _ => by omega)]
    exact hI.ze.2.2.1 i hi
theorem MI_push (hI : MI μ j) {c : Nat} (hc : c < μ.1 14) : MI (m2 (m2 (m2 (m2 μ 10 (4 * c + 0) 0) 10 (4 * c + 1) 0) 10 (4 * c + 2) (mDep μ c)) 10 (4 * c + 3) 0) j := by
  refine MI_sn hI (Nat.le_refl _) (fun q hq => rfl) (fun q hq => ?_) rfl (fun v hv => ?_) (fun i hi => ?_)
  · funext i
    rw [m2_n (fun e => absurd e hq), m2_n (fun e => absurd e hq), m2_n (fun e => absurd e hq), m2_n (fun e => absurd e hq)]
  · have h1 := hI.sn v hv
    by_cases ev : v = c
    · subst ev
      have e0 : (m2 (m2 (m2 (m2 μ 10 (4 * v + 0) 0) 10 (4 * v + 1) 0) 10 (4 * v + 2) (mDep μ v)) 10 (4 * v + 3) 0).2.1 10 (4 * v) = 0 := by
        rw [m2_n (fun _ => by omega), m2_n (fun _ => by omega), m2_n (fun _ => by omega)]
        exact m2_s (i := 4 * v + 0)
      have e1 : (m2 (m2 (m2 (m2 μ 10 (4 * v + 0) 0) 10 (4 * v + 1) 0) 10 (4 * v + 2) (mDep μ v)) 10 (4 * v + 3) 0).2.1 10 (4 * v + 1) = 0 := by
        rw [m2_n (fun _ => by omega), m2_n (fun _ => by omega), m2_s]
      have e2 : (m2 (m2 (m2 (m2 μ 10 (4 * v + 0) 0) 10 (4 * v + 1) 0) 10 (4 * v + 2) (mDep μ v)) 10 (4 * v + 3) 0).2.1 10 (4 * v + 2) = mDep μ v := by
        rw [m2_n (fun _ => by omega), m2_s]
      have e3 : (m2 (m2 (m2 (m2 μ 10 (4 * v + 0) 0) 10 (4 * v + 1) 0) 10 (4 * v + 2) (mDep μ v)) 10 (4 * v + 3) 0).2.1 10 (4 * v + 3) = 0 := m2_s
      rw [e0, e1, e2, e3]
      unfold mDep
      omega
    · have e : ∀ q : Nat, q < 4 → (m2 (m2 (m2 (m2 μ 10 (4 * c + 0) 0) 10 (4 * c + 1) 0) 10 (4 * c + 2) (mDep μ c)) 10 (4 * c + 3) 0).2.1 10 (4 * v + q) = μ.2.1 10 (4 * v + q) := fun q hq => by
        rw [m2_n (fun _ => by omega), m2_n (fun _ => by omega), m2_n (fun _ => by omega), m2_n (fun _ => by omega)]
      rw [show 4 * v = 4 * v + 0 from rfl, e 0 (by decide), show 4 * v + 0 = 4 * v from rfl, e 1 (by decide), e 2 (by decide), e 3 (by decide)]
      exact h1
  · rw [m2_n (fun _ => by omega), m2_n (fun _ => by omega), m2_n (fun _ => by omega), m2_n (fun _ => by omega)]
    exact hI.ze.2.2.1 i hi
/-! the tape's bytes -/
def TB (μ : MSt) : Prop := ∃ b : Nat → Nat, ∀ i : Nat, i < 400 → b i < 256 ∧ μ.2.2 1 i = sB (b i)
theorem TB.o (h : TB μ) (e : μ'.2.2 1 = μ.2.2 1) : TB μ' := by
  obtain ⟨b, hb⟩ := h
  exact ⟨b, fun i hi => by rw [e]; exact hb i hi⟩
theorem by_ok (t : Int8) : ∃ b : Nat, b < 256 ∧ vp_nar .byte t.toInt32 = sB b := by
  refine ⟨t.toBitVec.toNat, t.toBitVec.isLt, ?_⟩
  have key : ∀ n : Nat, n < 256 → vp_nar .byte (Int8.ofBitVec (BitVec.ofNat 8 n)).toInt32 = sB n := by decide +kernel
  have := key t.toBitVec.toNat t.toBitVec.isLt
  rw [BitVec.ofNat_toNat, BitVec.setWidth_eq] at this
  exact this
theorem TB.feed (h : TB μ) {f : Nat → Int32} : ∀ k : Nat, TB (mFd μ f k)
  | 0 => h
  | k + 1 => by
    obtain ⟨b, hb⟩ := TB.feed h (f := f) k
    obtain ⟨v, hv1, hv2⟩ := by_ok ((f (k / 4)) >>> ((24 - 8 * nI (k % 4)) &&& 31)).toInt8
    refine ⟨fun i => if i = μ.1 2 + k then v else b i, fun i hi => ?_⟩
    show (if i = μ.1 2 + k then v else b i) < 256 ∧ (m3 (mFd μ f k) 1 (μ.1 2 + k) (byteOf (f (k / 4)) (k % 4))).2.2 1 i = sB (if i = μ.1 2 + k then v else b i)
    by_cases e : i = μ.1 2 + k
    · subst e
      rw [if_pos rfl, m3_s]
      exact ⟨hv1, hv2⟩
    · rw [if_neg e, m3_n (fun _ => e)]
      exact hb i hi
theorem mBo_33 {l k : Nat} : (mBo μ l k).2.2 = μ.2.2 := rfl
theorem mStp_3 : ∀ n : Nat, (mStp μ n).2.2 = μ.2.2
  | 0 => rfl
  | n + 1 => by
    have h1 : ∀ (ν : MSt) (op : Nat → Bool) (g : Nat), (mCho ν op g).2.2 = ν.2.2 := fun ν op g => by
      unfold mCho
      split
      · rw [mWrN_3]; rfl
      · split <;> rfl
    have h2 : ∀ (ν : MSt) (op : Nat → Bool) (m : Nat), (mChoN ν op m).2.2 = ν.2.2 := fun ν op m => by
      induction m with
      | zero => rfl
      | succ m ih =>
        show (if (mChoN ν op m).2.1 21 (7 * m + 2) = 0 then mCho (mChoN ν op m) op m else mChoN ν op m).2.2 = ν.2.2
        split
        · rw [h1]; exact ih
        · exact ih
    have h3 : ∀ (ν : MSt) (m : Nat), (mFil ν m).2.2 = ν.2.2 := fun ν m => by
      induction m with
      | zero => rfl
      | succ m ih =>
        by_cases e : mRun (mFil ν m) m = true
        · rw [mFil_y e, mBo_33]; exact ih
        · rw [mFil_n e]; exact ih
    show (mFil (mSent (mStp μ n)) ((mStp μ n).1 7)).2.2 = μ.2.2
    rw [h3]
    show (mChoN (mGoN (mStp μ n) ((mStp μ n).1 22)) (mOp (mStp μ n)) ((mStp μ n).1 22)).2.2 = μ.2.2
    rw [h2, mGoN_3, mStp_3 n]
end MV
end
