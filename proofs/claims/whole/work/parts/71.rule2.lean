section
/-! what a rule says: the reference -/
def smR (K : Nat → Prop) (ρ ρ' : RSt) : Prop := ρ'.1 = ρ.1 ∧ (∀ k : Nat, ¬ K k → ρ'.2.1 k = ρ.2.1 k) ∧ ρ'.2.2 = ρ.2.2
theorem smR.rf {K : Nat → Prop} {ρ : RSt} : smR K ρ ρ := ⟨rfl, fun _ _ => rfl, rfl⟩
theorem smR.tr {K : Nat → Prop} {ρ ρ' ρ'' : RSt} (h : smR K ρ ρ') (g : smR K ρ' ρ'') : smR K ρ ρ'' := ⟨g.1.trans h.1, fun k hk => (g.2.1 k hk).trans (h.2.1 k hk), g.2.2.trans h.2.2⟩
theorem smR.mono {K K' : Nat → Prop} {ρ ρ' : RSt} (h : smR K ρ ρ') (hK : ∀ k, K k → K' k) : smR K' ρ ρ' := ⟨h.1, fun k hk => h.2.1 k (fun e => hk (hK k e)), h.2.2⟩
theorem smR_A {K : Nat → Prop} {ρ : RSt} {k i : Nat} {v : Int32} (hk : K k) : smR K ρ (rsA ρ k i v) := ⟨rfl, fun q hq => if_neg (fun e : q = k => hq (by rw [e]; exact hk)), rfl⟩
theorem RR.sm {K : Nat → Prop} {ρ ρ' : RSt} {μ : MSt} (h : RR ρ μ) (hs : smR K ρ ρ') (hK : ∀ k, K k → 30 ≤ k) : RR ρ' μ := by
  have hn : ∀ k, k < 30 → ρ'.2.1 k = ρ.2.1 k := fun k hk => hs.2.1 k (fun e => by have := hK k e; omega)
  refine ⟨fun k hk => by rw [hs.1]; exact h.1 k hk, fun k i hk => by rw [hn k (by unfold sc2 at hk; omega)]; exact h.2.1 k i hk, ⟨fun i => by rw [hn 1 (by omega)]; exact h.2.2.1.1 i, fun i => by rw [hn 13 (by omega)]; exact h.2.2.1.2.1 i, by rw [hs.1]; exact h.2.2.1.2.2⟩, fun i hi => by rw [hs.2.2]; exact h.2.2.2 i hi⟩
theorem rA_s {ρ : RSt} {k i : Nat} {v : Int32} : (rsA ρ k i v).2.1 k i = v := by
  show (if k = k then upd (ρ.2.1 k) i v else ρ.2.1 k) i = v
  rw [if_pos rfl, upd_ap, if_pos rfl]
theorem rA_n {ρ : RSt} {k i k' i' : Nat} {v : Int32} (h : k' = k → i' ≠ i) : (rsA ρ k i v).2.1 k' i' = ρ.2.1 k' i' := by
  show (if k' = k then upd (ρ.2.1 k) i v else ρ.2.1 k') i' = _
  by_cases e : k' = k
  · rw [if_pos e, upd_ap, if_neg (h e), e]
  · rw [if_neg e]
def bI (b : Bool) : Int32 := if b then 1 else 0
theorem bI_n (b : Bool) : vp_nar .boolean (bI b) = bI b ∧ narrow .boolean (.int (bI b)) = .int (bI b) := by cases b <;> exact ⟨rfl, rfl⟩
theorem bI_0 {b : Bool} : bI b = 0 ↔ b = false := by cases b <;> decide
theorem nI_m1 {n : Nat} (h : 1 ≤ n) : nI n + (-1) = nI (n - 1) := by
  obtain ⟨m, rfl⟩ : ∃ m, n = m + 1 := ⟨n - 1, by omega⟩
  rw [← nI_1, Int32.add_assoc, show (1 : Int32) + (-1) = 0 from rfl, Int32.add_zero]
  rfl
/-- a row of ints that holds a pile, its top last -/
def plR (f : Nat → Int32) (S : List Bool) : Prop := ∀ i : Nat, i < S.length → f (S.length - 1 - i) = bI (S.getD i false)
theorem plR_push {f : Nat → Int32} {S : List Bool} {b : Bool} (h : plR f S) : plR (upd f S.length (bI b)) (b :: S) := by
  intro i hi
  simp only [List.length_cons] at hi ⊢
  rw [upd_ap]
  cases i with
  | zero => rw [if_pos (by omega)]; rfl
  | succ i =>
    rw [if_neg (by omega), show S.length + 1 - 1 - (i + 1) = S.length - 1 - i by omega, h i (by omega)]
    rfl
theorem plR_not {f : Nat → Int32} {S : List Bool} {b : Bool} (h : plR f (b :: S)) : plR (upd f S.length (bI (!b))) ((!b) :: S) := by
  intro i hi
  simp only [List.length_cons] at hi ⊢
  rw [upd_ap]
  cases i with
  | zero => rw [if_pos (by omega)]; rfl
  | succ i =>
    have := h (i + 1) (by simp; omega)
    simp only [List.length_cons] at this
    rw [if_neg (by omega), this]
    rfl
theorem plR_two {f : Nat → Int32} {S : List Bool} {a b c : Bool} (h : plR f (a :: b :: S)) : plR (upd f S.length (bI c)) (c :: S) := by
  intro i hi
  simp only [List.length_cons] at hi ⊢
  rw [upd_ap]
  cases i with
  | zero => rw [if_pos (by omega)]; rfl
  | succ i =>
    have := h (i + 2) (by simp; omega)
    simp only [List.length_cons] at this
    rw [if_neg (by omega), show S.length + 1 - 1 - (i + 1) = S.length + 1 + 1 - 1 - (i + 2) by omega, this]
    rfl
theorem plR_top {f : Nat → Int32} {S : List Bool} {a : Bool} (h : plR f (a :: S)) : f S.length = bI a := by
  have := h 0 (by simp)
  simpa using this
theorem plR_top2 {f : Nat → Int32} {S : List Bool} {a b : Bool} (h : plR f (a :: b :: S)) : f (S.length + 1) = bI a ∧ f S.length = bI b := by
  have h0 := h 0 (by simp)
  have h1 := h 1 (by simp)
  simp at h0 h1
  exact ⟨h0, h1⟩
section RU
variable {ρ : RSt} {μ : MSt} {j : Nat}
theorem sR_cmp {post : Int32 → Prop} {v how n : Nat} (hh : how < 3) (hn : n < 2 ^ 31) (hv : v < 2 ^ 31) (hp : post (bI (cmpN v how n))) : wpR_compares_0 post (nI v) (nI how) (nI n) := by
  have hb : (cmpN v how n = true → post 1) ∧ (cmpN v how n = false → post 0) := by
    constructor
    · intro e; rw [e] at hp; exact hp
    · intro e; rw [e] at hp; exact hp
  unfold cmpN at hb
  unfold wpR_compares_0
  rw [show (0 : Int32) = nI 0 from rfl, show (1 : Int32) = nI 1 from rfl, nI_eq (by omega) (by omega), nI_eq (by omega) (by omega), nI_eq (by omega) (by omega), nI_leI (by omega) (by omega), nI_leI (by omega) (by omega)]
  refine ⟨fun a => ⟨fun b => ⟨fun g => hb.2 ?_, fun g => hb.1 ?_⟩, fun b => ⟨fun g => hb.2 ?_, fun g => hb.1 ?_⟩⟩, fun a => ⟨fun g => hb.2 ?_, fun g => hb.1 ?_⟩⟩
  · rw [if_neg (by omega), if_neg (by omega)]; simpa using g
  · rw [if_neg (by omega), if_neg (by omega)]; simpa using g
  · rw [if_neg (by omega), if_pos (by omega)]; simpa using g
  · rw [if_neg (by omega), if_pos (by omega)]; simp; omega
  · rw [if_pos (by omega)]; simpa using g
  · rw [if_pos (by omega)]; simp; omega
theorem sR_meas {post : Int32 → RSt → Prop} {s w : Nat} (hR : RR ρ μ) (hI : MI μ j) (hj : j ≤ 512) (hs : s < μ.1 9) (hw : w < 4) (hp : post (nI (mMeas μ s w)) ρ) : wpR_measure_0 post ρ (nI s) (nI w) := by
  have hc := hI.cs
  have hc0 := hI.c0
  unfold mC0 at hc0
  have hb := hI.sl s hs
  have e27 := hR.s1 (k := 27) (by unfold sc1; omega)
  have e28 := hR.s1 (k := 28) (by unfold sc1; omega)
  have e4 := hR.s2 (k := 8) (i := 6 * s + 4) (by unfold sc2; omega)
  have e5 := hR.s2 (k := 8) (i := 6 * s + 5) (by unfold sc2; omega)
  have x4 : (6 : Int32) * nI s + 4 = nI (6 * s + 4) := by rw [show (6 : Int32) = nI 6 from rfl, nI_mul, show (4 : Int32) = nI 4 from rfl, nI_add]
  have x5 : (6 : Int32) * nI s + 5 = nI (6 * s + 5) := by rw [show (6 : Int32) = nI 6 from rfl, nI_mul, show (5 : Int32) = nI 5 from rfl, nI_add]
  have hw3 : ∀ c : Nat, ρ.2.1 10 (4 * c + 3) = nI (μ.2.1 10 (4 * c + 3)) := fun c => hR.s2 (k := 10) (by unfold sc2; omega)
  unfold wpR_measure_0
  rw [x4, nI_clamp (by omega), e4, show (1 : Int32) = nI 1 from rfl, show (2 : Int32) = nI 2 from rfl, show (0 : Int32) = nI 0 from rfl, nI_eq (by omega) (by omega), nI_eq (by omega) (by omega), nI_eq (by omega) (by omega), nI4 (q := 3) (k := 3) rfl, nI_clamp (by omega), hw3]
  have hd : ∀ k : Nat, k < μ.2.1 8 (6 * s + 5) → mDep μ (μ.2.1 8 (6 * s + 4) + k) < 2 ^ 31 := fun k hk => by have := mDep_lt hI hj (c := μ.2.1 8 (6 * s + 4) + k) (by omega); omega
  have hd2 : ∀ k : Nat, k < μ.2.1 8 (6 * s + 5) → μ.2.1 10 (4 * (μ.2.1 8 (6 * s + 4) + k) + 3) < 2 ^ 31 := fun k hk => by have := hI.sn (μ.2.1 8 (6 * s + 4) + k) (by omega); omega
  have hl : ∀ k : Nat, k < μ.2.1 8 (6 * s + 5) → mLd μ s k < 2 ^ 31 := fun k hk => by have := mLd_lt hI hj hs hk; omega
  have hm : ∀ k : Nat, k ≤ μ.2.1 8 (6 * s + 5) → mMw μ s k < 2 ^ 31 := fun k hk => by have := mMw_lt hI hj hs hk; omega
  let F : Nat → Nat := fun k => if w = 0 then mLd μ s k else mMw μ s (k + 1)
  have hloop : ¬ w = 1 → ¬ w = 2 → wpR_measure_57 post ρ (nI s) (nI w) (nI (μ.2.1 8 (6 * s + 4))) (nI (F 0)) := by
    intro w1 w2
    unfold wpR_measure_57
    rw [nI_1]
    refine gLP.up (μ.2.1 8 (6 * s + 5) - 1) (fun k (x : RSt × Int32 × Int32 × Int32 × Int32 × Int32) => k ≤ μ.2.1 8 (6 * s + 5) - 1 ∧ x = (ρ, nI s, nI w, nI (μ.2.1 8 (6 * s + 4)), nI (F k), nI (μ.2.1 8 (6 * s + 4) + 1 + k))) (fun k x h => h.1) ?_ (j := 0) ⟨Nat.zero_le _, rfl⟩
    rintro k x P ⟨hk, rfl⟩ hP
    dsimp only
    unfold wpR_measure_64_F
    rw [x5, nI_clamp (by omega), e5, nI_add, nI_leI (by omega) (by omega)]
    refine ⟨vp_in_nI (by omega) (by omega), fun e => ?_, fun e => ?_⟩
    · obtain rfl : k = μ.2.1 8 (6 * s + 5) - 1 := by omega
      have e1 : mMeas μ s w = F (μ.2.1 8 (6 * s + 5) - 1) / 100 := by
        unfold mMeas
        by_cases w0 : w = 0
        · rw [if_pos w0]
          show _ = (if w = 0 then _ else _) / 100
          rw [if_pos w0]
        · rw [if_neg w0, if_neg w1, if_neg w2]
          show _ = (if w = 0 then _ else _) / 100
          rw [if_neg w0, show μ.2.1 8 (6 * s + 5) - 1 + 1 = μ.2.1 8 (6 * s + 5) by omega]
      have hF : F (μ.2.1 8 (6 * s + 5) - 1) < 2 ^ 31 := by
        show (if w = 0 then _ else _) < _
        split
        · exact hl _ (by omega)
        · exact hm _ (by omega)
      rw [show (100 : Int32) = nI 100 from rfl, nI_div hF (by omega), ← e1]
      exact hp
    · rw [show (0 : Int32) = nI 0 from rfl, nI_eq (by omega) (by omega), nI4 (q := 3) (k := 3) rfl, nI_clamp (by omega), hw3]
      have hP : ∀ y : Nat, y = F (k + 1) → P (ρ, nI s, nI w, nI (μ.2.1 8 (6 * s + 4)), nI y, nI (μ.2.1 8 (6 * s + 4) + 1 + k) + 1) := fun y hy => hP _ ⟨by omega, by rw [hy, nI_1]; rfl⟩
      refine ⟨fun w0 => ⟨vp_in_nI (by omega) (by omega), ?_⟩, fun w0 => sR_depth hR (by omega) ?_⟩
      · have eF : F k = mMw μ s (k + 1) := if_neg w0
        have eF' : F (k + 1) = max (mMw μ s (k + 1)) (μ.2.1 10 (4 * (μ.2.1 8 (6 * s + 4) + (k + 1)) + 3)) := if_neg w0
        unfold wpR_measure_106
        rw [show (0 : Int32) = nI 0 from rfl, nI_eq (by omega) (by omega), show μ.2.1 8 (6 * s + 4) + 1 + k = μ.2.1 8 (6 * s + 4) + (k + 1) by omega, nI_leI (hd2 _ (by omega)) (by rw [eF]; exact hm _ (by omega))]
        rw [show μ.2.1 8 (6 * s + 4) + 1 + k = μ.2.1 8 (6 * s + 4) + (k + 1) by omega] at hP
        refine ⟨fun _ => ⟨fun g => hP _ (by rw [eF'] ; rw [eF] at g ⊢; omega), fun g => hP _ (by rw [eF']; rw [eF] at g; omega)⟩, fun e => absurd e w0⟩
      · have eF : F k = mLd μ s k := if_pos w0
        have eF' : F (k + 1) = min (mLd μ s k) (mDep μ (μ.2.1 8 (6 * s + 4) + (k + 1))) := if_pos w0
        unfold wpR_measure_106
        rw [show (0 : Int32) = nI 0 from rfl, nI_eq (by omega) (by omega), show μ.2.1 8 (6 * s + 4) + 1 + k = μ.2.1 8 (6 * s + 4) + (k + 1) by omega, nI_leI (by rw [eF]; exact hl _ (by omega)) (hd _ (by omega))]
        rw [show μ.2.1 8 (6 * s + 4) + 1 + k = μ.2.1 8 (6 * s + 4) + (k + 1) by omega] at hP
        exact ⟨fun e => absurd w0 e, fun _ => ⟨fun g => hP _ (by rw [eF']; rw [eF] at g ⊢; omega), fun g => hP _ (by rw [eF']; rw [eF] at g; omega)⟩⟩
  refine ⟨fun w1 => ⟨fun w2 => ⟨vp_in_nI (by omega) (by omega), fun w0 => ⟨vp_in_nI (by omega) (by omega), ?_⟩, fun w0 => sR_depth hR (by omega) ?_⟩, fun w2 => ?_⟩, fun w1 => ?_⟩
  · have := hloop w1 w2
    rw [show F 0 = μ.2.1 10 (4 * μ.2.1 8 (6 * s + 4) + 3) from (if_neg w0).trans (Nat.zero_max _)] at this
    exact this
  · have := hloop w1 w2
    rw [show F 0 = mDep μ (μ.2.1 8 (6 * s + 4)) from if_pos w0] at this
    exact this
  · unfold mMeas at hp
    rw [if_neg (by omega), if_neg w1, if_pos w2] at hp
    rw [e28, show (60 : Int32) = nI 60 from rfl, nI_div (by omega) (by omega)]
    exact hp
  · unfold mMeas at hp
    rw [if_neg (by omega), if_pos w1] at hp
    rw [e27]
    exact hp
end RU
end
