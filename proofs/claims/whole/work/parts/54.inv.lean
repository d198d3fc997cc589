section
/-! what holds of the model after j calls -/
def mC0 (μ : MSt) (j : Nat) : Prop := μ.1 2 ≤ 400 ∧ μ.1 7 ≤ 8 ∧ μ.1 9 ≤ 10 ∧ μ.1 14 ≤ 4 * μ.1 9 ∧ μ.1 22 ≤ 60 ∧ μ.1 26 ≤ 80 ∧ μ.1 27 ≤ 300 ∧ μ.1 28 ≤ 600 * j ∧ μ.1 20 < 1024
def mLi (μ : MSt) : Prop := ∀ i : Nat, i < μ.1 7 → μ.2.1 3 (5 * i) ≤ 9 ∧ μ.2.1 3 (5 * i + 1) ≤ 9 ∧ (1 ≤ μ.2.1 3 (5 * i + 2) ∧ μ.2.1 3 (5 * i + 2) ≤ 20) ∧ (1 ≤ μ.2.1 3 (5 * i + 3) ∧ μ.2.1 3 (5 * i + 3) ≤ 30) ∧ μ.2.1 3 (5 * i + 4) ≤ 200 ∧ μ.2.1 4 i ≤ 1
def mSl (μ : MSt) : Prop := ∀ s : Nat, s < μ.1 9 → μ.2.1 8 (6 * s) ≤ 9 ∧ μ.2.1 8 (6 * s + 1) ≤ 9 ∧ (1 ≤ μ.2.1 8 (6 * s + 2) ∧ μ.2.1 8 (6 * s + 2) ≤ 20) ∧ μ.2.1 8 (6 * s + 3) ≤ 9 ∧ μ.2.1 8 (6 * s + 4) + μ.2.1 8 (6 * s + 5) ≤ μ.1 14 ∧ (1 ≤ μ.2.1 8 (6 * s + 5) ∧ μ.2.1 8 (6 * s + 5) ≤ 4) ∧ μ.2.1 18 s ≤ 1
def mSn (μ : MSt) (j : Nat) : Prop := ∀ c : Nat, c < μ.1 14 → μ.2.1 10 (4 * c) + μ.2.1 10 (4 * c + 1) + μ.2.1 10 (4 * c + 2) + μ.2.1 10 (4 * c + 3) ≤ 100000 * j
def mGr (μ : MSt) : Prop := ∀ g : Nat, g < μ.1 22 → (1 ≤ μ.2.1 21 (7 * g) ∧ μ.2.1 21 (7 * g) ≤ 4) ∧ μ.2.1 21 (7 * g + 1) ≤ 9 ∧
  ((μ.2.1 21 (7 * g + 2) = 0 ∧ μ.2.1 21 (7 * g + 3) ≤ 9 ∧ μ.2.1 21 (7 * g + 4) = 0) ∨ (μ.2.1 21 (7 * g + 2) = 1 ∧ μ.2.1 21 (7 * g + 3) < μ.1 7 ∧ μ.2.1 21 (7 * g + 4) = 0) ∨ (μ.2.1 21 (7 * g + 2) = 2 ∧ μ.2.1 21 (7 * g + 3) < μ.1 7 ∧ 1 ≤ μ.2.1 21 (7 * g + 4) ∧ μ.2.1 21 (7 * g + 4) ≤ 30) ∨ (μ.2.1 21 (7 * g + 2) = 3 ∧ μ.2.1 21 (7 * g + 3) < μ.1 9 ∧ 1 ≤ μ.2.1 21 (7 * g + 4) ∧ μ.2.1 21 (7 * g + 4) ≤ 30))
def mQu (μ : MSt) : Prop := ∀ l : Nat, l < μ.1 7 → μ.2.1 6 l ≤ 60 ∧ ∀ k : Nat, k < μ.2.1 6 l → μ.2.1 5 (60 * l + k) < μ.1 22 ∧ μ.2.1 21 (7 * μ.2.1 5 (60 * l + k) + 2) = 1 ∧ μ.2.1 21 (7 * μ.2.1 5 (60 * l + k) + 3) = l ∧ ∀ k' : Nat, k' < k → μ.2.1 5 (60 * l + k') ≠ μ.2.1 5 (60 * l + k)
/-- how many bits lie on the pile after k steps -/
def depN (c : Nat → Nat) : Nat → Nat
  | 0 => 0
  | k + 1 => if c k = 14 then depN c k else if c k = 15 ∨ c k = 16 then depN c k - 1 else depN c k + 1
def wfN (c n : Nat → Nat) (len nS nL : Nat) : Prop := len ≤ 400 ∧ depN c len = 1 ∧ (∀ k : Nat, k ≤ len → depN c k ≤ 43) ∧ ∀ k : Nat, k < len → c k ≤ 16 ∧ n k < 1000000 ∧ (c k = 12 → n k < nS) ∧ (c k = 13 → n k < nL) ∧ (c k = 14 → 1 ≤ depN c k) ∧ (c k = 15 ∨ c k = 16 → 2 ≤ depN c k)
def mRu (μ : MSt) : Prop := (∀ s : Nat, s < μ.1 9 → μ.2.1 18 s = 1 → wfN (fun k => μ.2.1 15 (400 * s + k)) (fun k => μ.2.1 16 (400 * s + k)) (μ.2.1 17 s) (μ.1 9) (μ.1 7)) ∧ ∃ rank : Nat → Nat, ∀ s k : Nat, s < μ.1 9 → k < μ.1 9 → (mNm μ s).testBit k = true → rank k < rank s
def mLk (μ : MSt) : Prop := ∀ k : Nat, k < μ.1 26 → μ.2.1 23 k < μ.1 14 ∧ μ.2.1 24 k < μ.1 14 ∧ μ.2.1 23 k ≠ μ.2.1 24 k ∧ 1 ≤ μ.2.1 25 k ∧ μ.2.1 25 k ≤ 100
def mWt (μ : MSt) : Prop := ∀ c : Nat, c < μ.1 14 → μ.2.1 12 c ≤ 1000000 ∧ -10000 ≤ (μ.2.2 13 c).toInt ∧ (μ.2.2 13 c).toInt ≤ 10000
def mZe (μ : MSt) : Prop := (∀ l : Nat, μ.1 7 ≤ l → μ.2.1 4 l = 0 ∧ μ.2.1 6 l = 0) ∧ (∀ s : Nat, μ.1 9 ≤ s → μ.2.1 18 s = 0) ∧ (∀ i : Nat, 4 * μ.1 14 ≤ i → μ.2.1 10 i = 0) ∧ (∀ c : Nat, μ.1 14 ≤ c → μ.2.1 12 c = 0 ∧ μ.2.2 13 c = 0) ∧ ∀ g : Nat, μ.1 22 ≤ g → μ.2.1 21 (7 * g + 4) = 0 ∧ μ.2.1 21 (7 * g + 5) = 0 ∧ μ.2.1 21 (7 * g + 6) = 0
def MI (μ : MSt) (j : Nat) : Prop := mC0 μ j ∧ mLi μ ∧ mSl μ ∧ mSn μ j ∧ mGr μ ∧ mQu μ ∧ mRu μ ∧ mLk μ ∧ mWt μ ∧ mZe μ
theorem MI.up {μ : MSt} {j : Nat} (h : MI μ j) : MI μ (j + 1) := by
  obtain ⟨h1, h2, h3, h4, h5⟩ := h
  refine ⟨?_, h2, h3, ?_, h5⟩
  · unfold mC0 at h1 ⊢; omega
  · intro c hc; have := h4 c hc; omega
/-- all together, after j calls -/
def Inv (x : Nat) (σ : CSt) (ρ : RSt) (j : Nat) : Prop := ∃ (μ : MSt) (lab : Nat → Nat) (ad : Nat → Nat → Nat), ad 7 0 = x ∧ CRep σ lab ad μ ∧ RR ρ μ ∧ MI μ j
section RRU
variable {ρ : RSt} {μ : MSt}
theorem RR.s1 (h : RR ρ μ) {k : Nat} (hk : sc1 k) : ρ.1 k = nI (μ.1 k) := h.1 k hk
theorem RR.s2 (h : RR ρ μ) {k i : Nat} (hk : sc2 k i) : ρ.2.1 k i = nI (μ.2.1 k i) := h.2.1 k i hk
/-- a scalar that the model doesn't have -/
theorem RR.sI (h : RR ρ μ) {k : Nat} (v : Int32) (hk : ¬ sc1 k) (h19 : k ≠ 19) : RR (rsI ρ k v) μ := by
  refine ⟨fun k' h' => ?_, h.2.1, ⟨h.2.2.1.1, h.2.2.1.2.1, ?_⟩, h.2.2.2⟩
  · show upd ρ.1 k v k' = _
    rw [upd_ap, if_neg (fun e => hk (by rw [← e]; exact h'))]; exact h.1 k' h'
  · show upd ρ.1 k v 19 = _
    rw [upd_ap, if_neg (fun e => h19 e.symm)]; exact h.2.2.1.2.2
theorem RR.sA (h : RR ρ μ) {k i : Nat} (v : Int32) (hk : ¬ sc2 k i) (h1 : k ≠ 1) (h13 : k ≠ 13) : RR (rsA ρ k i v) μ := by
  refine ⟨h.1, fun k' i' h' => ?_, ⟨fun i' => ?_, fun i' => ?_, h.2.2.1.2.2⟩, h.2.2.2⟩
  · show (if k' = k then upd (ρ.2.1 k) i v else ρ.2.1 k') i' = _
    by_cases e : k' = k
    · rw [if_pos e, upd_ap]
      by_cases e2 : i' = i
      · exact absurd (by rw [← e, ← e2]; exact h') hk
      · rw [if_neg e2, ← e]; exact h.2.1 k' i' h'
    · rw [if_neg e]; exact h.2.1 k' i' h'
  · show (if 1 = k then upd (ρ.2.1 k) i v else ρ.2.1 1) i' = _
    rw [if_neg (fun e => h1 e.symm)]; exact h.2.2.1.1 i'
  · show (if 13 = k then upd (ρ.2.1 k) i v else ρ.2.1 13) i' = _
    rw [if_neg (fun e => h13 e.symm)]; exact h.2.2.1.2.1 i'
theorem RR.sJ (h : RR ρ μ) {k i : Nat} (v : Int64) (hk : k ≠ 29 ∨ 5 ≤ i) : RR (rsJ ρ k i v) μ := by
  refine ⟨h.1, h.2.1, h.2.2.1, fun i' h' => ?_⟩
  show (if 29 = k then vp_updL (ρ.2.2 k) i v else ρ.2.2 29) i' = _
  by_cases e : 29 = k
  · rw [if_pos e]
    show (if i' = i then v else ρ.2.2 k i') = _
    rw [if_neg (by omega), ← e]; exact h.2.2.2 i' h'
  · rw [if_neg e]; exact h.2.2.2 i' h'
/-- what the model has too, in both -/
theorem RR.u1 (h : RR ρ μ) {k n : Nat} {v : Int32} (hv : v = nI n) (hk : k ≠ 19) (hk2 : k < 50) : RR (rsI ρ k v) (m1 μ k n) := by
  refine ⟨fun k' h' => ?_, h.2.1, ⟨h.2.2.1.1, h.2.2.1.2.1, ?_⟩, fun i hi => ?_⟩
  · show upd ρ.1 k v k' = nI (va_up μ.1 k n k')
    rw [upd_ap, up_ap]
    split
    · exact hv
    · exact h.1 k' h'
  · show upd ρ.1 k v 19 = _
    rw [upd_ap, if_neg (fun e => hk e.symm)]; exact h.2.2.1.2.2
  · show ρ.2.2 29 i = lN (va_up μ.1 k n (50 + i))
    rw [up_ap, if_neg (by omega)]; exact h.2.2.2 i hi
theorem RR.u2 (h : RR ρ μ) {k i n : Nat} {v : Int32} (hv : v = nI n) (h1 : k ≠ 1) (h13 : k ≠ 13) : RR (rsA ρ k i v) (m2 μ k i n) := by
  refine ⟨h.1, fun k' i' h' => ?_, ⟨fun i' => ?_, fun i' => ?_, h.2.2.1.2.2⟩, h.2.2.2⟩
  · show (if k' = k then upd (ρ.2.1 k) i v else ρ.2.1 k') i' = nI (cu2 μ.2.1 k i n k' i')
    rw [cu2_ap]
    by_cases e : k' = k
    · rw [if_pos e, if_pos e, upd_ap]
      split
      · exact hv
      · rw [← e]; exact h.2.1 k' i' h'
    · rw [if_neg e, if_neg e]; exact h.2.1 k' i' h'
  · show (if 1 = k then upd (ρ.2.1 k) i v else ρ.2.1 1) i' = _
    rw [if_neg (fun e => h1 e.symm)]; exact h.2.2.1.1 i'
  · show (if 13 = k then upd (ρ.2.1 k) i v else ρ.2.1 13) i' = _
    rw [if_neg (fun e => h13 e.symm)]; exact h.2.2.1.2.1 i'
theorem RR.u3 (h : RR ρ μ) {k i : Nat} (v : Int32) (hk : k = 1 ∨ k = 13) : RR (rsA ρ k i v) (m3 μ k i v) := by
  refine ⟨h.1, fun k' i' h' => ?_, ⟨fun i' => ?_, fun i' => ?_, ?_⟩, h.2.2.2⟩
  · show (if k' = k then upd (ρ.2.1 k) i v else ρ.2.1 k') i' = _
    rw [if_neg (by rcases hk with rfl | rfl <;> (unfold sc2 at h'; omega))]; exact h.2.1 k' i' h'
  · show (if 1 = k then upd (ρ.2.1 k) i v else ρ.2.1 1) i' = cu2 μ.2.2 k i v 1 i'
    rw [cu2_ap]
    by_cases e : 1 = k
    · rw [if_pos e, if_pos e, upd_ap]
      split
      · rfl
      · rw [← e]; exact h.2.2.1.1 i'
    · rw [if_neg e, if_neg e]; exact h.2.2.1.1 i'
  · show (if 13 = k then upd (ρ.2.1 k) i v else ρ.2.1 13) i' = cu2 μ.2.2 k i v 13 i'
    rw [cu2_ap]
    by_cases e : 13 = k
    · rw [if_pos e, if_pos e, upd_ap]
      split
      · rfl
      · rw [← e]; exact h.2.2.1.2.1 i'
    · rw [if_neg e, if_neg e]; exact h.2.2.1.2.1 i'
  · show ρ.1 19 = cu2 μ.2.2 k i v 19 0
    rw [cu2_ap, if_neg (by omega)]; exact h.2.2.1.2.2
theorem RR.u19 (h : RR ρ μ) (v : Int32) : RR (rsI ρ 19 v) (m3 μ 19 0 v) := by
  refine ⟨fun k' h' => ?_, h.2.1, ⟨h.2.2.1.1, h.2.2.1.2.1, rfl⟩, h.2.2.2⟩
  show upd ρ.1 19 v k' = _
  rw [upd_ap, if_neg (by unfold sc1 at h'; omega)]; exact h.1 k' h'
theorem RR.uJ (h : RR ρ μ) {i n : Nat} {v : Int64} (hv : v = lN n) : RR (rsJ ρ 29 i v) (m1 μ (50 + i) n) := by
  refine ⟨fun k' h' => ?_, h.2.1, h.2.2.1, fun i' h' => ?_⟩
  · show _ = nI (va_up μ.1 (50 + i) n k')
    rw [up_ap, if_neg (by unfold sc1 at h'; omega)]; exact h.1 k' h'
  · show (if i' = i then v else ρ.2.2 29 i') = lN (va_up μ.1 (50 + i) n (50 + i'))
    rw [up_ap]
    by_cases e : i' = i
    · rw [if_pos e, if_pos (by omega)]; exact hv
    · rw [if_neg e, if_neg (by omega)]; exact h.2.2.2 i' h'
end RRU
end
