section
/-! least: the net, ways through it -/
section LS2
/-- cells, links, a link's ends, its length -/
def NetOk (n K : Nat) (A B : Nat → Nat) (ln : Nat → Int) : Prop := n ≤ 40 ∧ K ≤ 80 ∧ ∀ k : Nat, k < K → A k < n ∧ B k < n ∧ A k ≠ B k ∧ 1 ≤ ln k ∧ ln k ≤ 100
variable {n K : Nat} {A B : Nat → Nat} {ln : Nat → Int}
def inc (A B : Nat → Nat) (k u : Nat) : Prop := u = A k ∨ u = B k
def ot (A B : Nat → Nat) (k u : Nat) : Nat := if u = A k then B k else A k
/-- what a link carries away from one of its ends -/
def cfr (A : Nat → Nat) (cf : Nat → Int) (k u : Nat) : Int := if u = A k then cf k else - cf k
/-- what it costs to carry one more away from an end -/
def cst (A : Nat → Nat) (ln : Nat → Int) (cf : Nat → Int) (k u : Nat) : Int := if cfr A cf k u < 0 then - ln k else ln k
theorem NetOk.lt (h : NetOk n K A B ln) {k u : Nat} (hk : k < K) (hu : inc A B k u) : u < n := by
  obtain ⟨h1, h2, -⟩ := h.2.2 k hk
  rcases hu with e | e
  · rw [e]; exact h1
  · rw [e]; exact h2
theorem NetOk.ot_inc (h : NetOk n K A B ln) {k u : Nat} (hk : k < K) (hu : inc A B k u) : inc A B k (ot A B k u) ∧ ot A B k (ot A B k u) = u ∧ ot A B k u ≠ u := by
  obtain ⟨-, -, h3, -⟩ := h.2.2 k hk
  unfold inc ot
  rcases hu with e | e
  · subst e
    rw [if_pos rfl, if_neg (fun g => h3 g.symm)]
    exact ⟨Or.inr rfl, rfl, fun g => h3 g.symm⟩
  · subst e
    rw [if_neg (fun g => h3 g.symm), if_pos rfl]
    exact ⟨Or.inl rfl, rfl, h3⟩
theorem NetOk.ot_lt (h : NetOk n K A B ln) {k u : Nat} (hk : k < K) (hu : inc A B k u) : ot A B k u < n := h.lt hk (h.ot_inc hk hu).1
theorem NetOk.cfr_ot (h : NetOk n K A B ln) {cf : Nat → Int} {k u : Nat} (hk : k < K) (hu : inc A B k u) : cfr A cf k (ot A B k u) = - cfr A cf k u := by
  obtain ⟨-, -, h3, -⟩ := h.2.2 k hk
  unfold cfr ot
  rcases hu with e | e
  · subst e
    rw [if_pos rfl, if_neg (fun g => h3 g.symm), if_pos rfl]
  · subst e
    have g1 : ¬ B k = A k := fun g => h3 g.symm
    rw [if_neg g1, if_pos rfl, if_neg g1]; omega
theorem NetOk.ends (h : NetOk n K A B ln) {k u v : Nat} (hk : k < K) (hu : inc A B k u) (hv : inc A B k v) (hne : v ≠ u) : v = ot A B k u := by
  obtain ⟨-, -, h3, -⟩ := h.2.2 k hk
  unfold ot
  rcases hu with e | e
  · rw [if_pos e]
    rcases hv with g | g
    · exact absurd (g.trans e.symm) hne
    · exact g
  · rw [if_neg (fun g => h3 (g.symm.trans e))]
    rcases hv with g | g
    · exact g
    · exact absurd (g.trans e.symm) hne
/-- a measure that no link shortens -/
def Fe (K : Nat) (A B : Nat → Nat) (ln : Nat → Int) (cf : Nat → Int) (φ : Nat → Int) : Prop := ∀ k : Nat, k < K → ∀ u : Nat, inc A B k u → φ (ot A B k u) ≤ φ u + 64 * cst A ln cf k u + 1
theorem cst_le (h : NetOk n K A B ln) {cf : Nat → Int} {k u : Nat} (hk : k < K) : -100 ≤ cst A ln cf k u ∧ cst A ln cf k u ≤ 100 := by
  obtain ⟨-, -, -, h4, h5⟩ := h.2.2 k hk
  unfold cst
  split <;> omega
/-- the costs in a measure -/
theorem Fe.cost {cf dd : Nat → Int} (h : Fe K A B ln cf dd) (hm : ∀ v : Nat, v < n → 0 ≤ dd v ∧ dd v % 64 ≤ 39) (hN : NetOk n K A B ln) {k u : Nat} (hk : k < K) (hu : inc A B k u) : dd (ot A B k u) / 64 ≤ dd u / 64 + cst A ln cf k u := by
  have h1 := h k hk u hu
  have h2 := hm u (hN.lt hk hu)
  have h3 := hm _ (hN.ot_lt hk hu)
  omega
/-! the measure found: how far, by which link -/
def UN : Int := 1073741824
def MEAS (n K : Nat) (A B : Nat → Nat) (ln cf dd sp far : Nat → Int) (via : Nat → Option Nat) : Prop :=
  (∀ v : Nat, v < n → far v ≤ UN ∧ (far v ≠ UN → 64 * (dd v / 64) ≤ far v)) ∧ (∀ v : Nat, v < n → 0 < sp v → far v = 0 ∧ via v = none) ∧
    (∀ v : Nat, v < n → ∀ k : Nat, via v = some k → k < K ∧ inc A B k v ∧ far v ≠ UN ∧ far (ot A B k v) ≠ UN ∧ far v = far (ot A B k v) + 64 * cst A ln cf k (ot A B k v) + 1) ∧
    (∀ v : Nat, v < n → far v ≠ UN → via v = none → 0 < sp v) ∧
    (∀ k : Nat, k < K → ∀ u : Nat, inc A B k u → far u ≠ UN → far (ot A B k u) ≠ UN ∧ far (ot A B k u) ≤ far u + 64 * cst A ln cf k u + 1)
/-- the way back from a cell -/
def nd (A B : Nat → Nat) (via : Nat → Option Nat) (t : Nat) : Nat → Nat
  | 0 => t
  | j + 1 => match via (nd A B via t j) with
    | some k => ot A B k (nd A B via t j)
    | none => nd A B via t j
def kk (A B : Nat → Nat) (via : Nat → Option Nat) (t j : Nat) : Nat := (via (nd A B via t j)).getD 0
theorem nd_s {via : Nat → Option Nat} {t j k : Nat} (h : via (nd A B via t j) = some k) : nd A B via t (j + 1) = ot A B k (nd A B via t j) := by
  show (match via (nd A B via t j) with
    | some k => ot A B k (nd A B via t j)
    | none => nd A B via t j) = _
  rw [h]
theorem nd_add {via : Nat → Option Nat} {t i : Nat} : ∀ j : Nat, nd A B via t (i + j) = nd A B via (nd A B via t i) j
  | 0 => rfl
  | j + 1 => by
    show (match via (nd A B via t (i + j)) with
      | some k => ot A B k (nd A B via t (i + j))
      | none => nd A B via t (i + j)) = (match via (nd A B via (nd A B via t i) j) with
      | some k => ot A B k (nd A B via (nd A B via t i) j)
      | none => nd A B via (nd A B via t i) j)
    rw [nd_add j]
/-- the way back from t has m links and ends -/
def Ch (A B : Nat → Nat) (via : Nat → Option Nat) (t m : Nat) : Prop := (∀ j : Nat, j < m → ∃ k : Nat, via (nd A B via t j) = some k) ∧ via (nd A B via t m) = none
section ME
variable {cf dd sp far : Nat → Int} {via : Nat → Option Nat} {t m : Nat}
theorem Ch.vk (h : Ch A B via t m) {j : Nat} (hj : j < m) : via (nd A B via t j) = some (kk A B via t j) := by
  obtain ⟨k, hk⟩ := h.1 j hj
  unfold kk
  rw [hk]
  rfl
theorem Ch.s (h : Ch A B via t m) {j : Nat} (hj : j < m) : nd A B via t (j + 1) = ot A B (kk A B via t j) (nd A B via t j) := nd_s (h.vk hj)
/-- what ends is reached -/
theorem ch_ex (hN : NetOk n K A B ln) {rc : Nat → Int} (h0 : ∀ v : Nat, v < n → ∀ k : Nat, via v = some k → k < K ∧ inc A B k v ∧ 0 ≤ rc (ot A B k v) ∧ rc (ot A B k v) < rc v) : ∀ (d : Nat) (v : Nat), v < n → (rc v).toNat = d → ∃ m, Ch A B via v m := by
  intro d
  induction d using Nat.strongRecOn with
  | _ d ih =>
    intro v hv hd
    cases e : via v with
    | none => exact ⟨0, fun j hj => absurd hj (Nat.not_lt_zero _), e⟩
    | some k =>
      obtain ⟨a1, a2, a3, a4⟩ := h0 v hv k e
      obtain ⟨m, hm⟩ := ih (rc (ot A B k v)).toNat (by omega) _ (hN.ot_lt a1 a2) rfl
      have e1 : nd A B via v 1 = ot A B k v := nd_s (j := 0) e
      refine ⟨m + 1, fun j hj => ?_, ?_⟩
      · cases j with
        | zero => exact ⟨k, e⟩
        | succ j =>
          rw [show j + 1 = 1 + j by omega, nd_add, e1]
          exact hm.1 j (by omega)
      · rw [show m + 1 = 1 + m by omega, nd_add, e1]
        exact hm.2
/-- along the way a number falls -/
theorem Ch.falls (h : Ch A B via t m) {rc : Nat → Int} (hf : ∀ j : Nat, j < m → rc (nd A B via t (j + 1)) < rc (nd A B via t j)) : ∀ j i : Nat, i < j → j ≤ m → rc (nd A B via t j) < rc (nd A B via t i) := by
  intro j
  induction j with
  | zero => intro i hi; omega
  | succ j ih =>
    intro i hi hj
    have h1 := hf j (by omega)
    by_cases e : i = j
    · subst e; exact h1
    · have := ih i (by omega) (by omega); omega
theorem MEAS.rc (hM : MEAS n K A B ln cf dd sp far via) (hF : Fe K A B ln cf dd) (hd : ∀ v : Nat, v < n → 0 ≤ dd v ∧ dd v % 64 ≤ 39) (hN : NetOk n K A B ln) {v k : Nat} (hv : v < n) (hk : via v = some k) : k < K ∧ inc A B k v ∧ 0 ≤ far (ot A B k v) - 64 * (dd (ot A B k v) / 64) ∧ far (ot A B k v) - 64 * (dd (ot A B k v) / 64) < far v - 64 * (dd v / 64) := by
  obtain ⟨m1, m2, m3, m4, m5⟩ := hM
  obtain ⟨a1, a2, a3, a4, a5⟩ := m3 v hv k hk
  have hl := hN.ot_lt a1 a2
  have h1 := (m1 _ hl).2 a4
  obtain ⟨o1, o2, -⟩ := hN.ot_inc a1 a2
  have h2 := hF.cost hd hN a1 o1
  rw [o2] at h2
  exact ⟨a1, a2, by omega, by omega⟩
/-- the whole of a way: its links, its cells -/
theorem MEAS.way (hM : MEAS n K A B ln cf dd sp far via) (hF : Fe K A B ln cf dd) (hd : ∀ v : Nat, v < n → 0 ≤ dd v ∧ dd v % 64 ≤ 39) (hN : NetOk n K A B ln) (ht : t < n) (hf : far t ≠ UN) : ∃ m : Nat, Ch A B via t m ∧ m + 1 ≤ n ∧ (∀ j : Nat, j ≤ m → nd A B via t j < n ∧ far (nd A B via t j) ≠ UN) ∧ (∀ j : Nat, j < m → kk A B via t j < K ∧ inc A B (kk A B via t j) (nd A B via t j) ∧ far (nd A B via t j) = far (nd A B via t (j + 1)) + 64 * cst A ln cf (kk A B via t j) (nd A B via t (j + 1)) + 1) ∧ (∀ i j : Nat, i < j → j ≤ m → nd A B via t i ≠ nd A B via t j) ∧ 0 < sp (nd A B via t m) ∧ (∀ j : Nat, j ≤ m → ∃ C : Int, far (nd A B via t j) = 64 * C + ((m - j : Nat) : Int)) := by
  obtain ⟨m, hC⟩ := ch_ex (rc := fun v => far v - 64 * (dd v / 64)) hN (fun v hv k hk => hM.rc hF hd hN hv hk) _ t ht rfl
  have hall : ∀ j : Nat, j ≤ m → nd A B via t j < n ∧ far (nd A B via t j) ≠ UN := by
    intro j
    induction j with
    | zero => exact fun _ => ⟨ht, hf⟩
    | succ j ih =>
      intro hj
      obtain ⟨i1, i2⟩ := ih (by omega)
      obtain ⟨a1, a2, a3, a4, a5⟩ := hM.2.2.1 _ i1 _ (hC.vk (by omega))
      rw [hC.s (by omega)]
      exact ⟨hN.ot_lt a1 a2, a4⟩
  have hstep : ∀ j : Nat, j < m → kk A B via t j < K ∧ inc A B (kk A B via t j) (nd A B via t j) ∧ far (nd A B via t j) = far (nd A B via t (j + 1)) + 64 * cst A ln cf (kk A B via t j) (nd A B via t (j + 1)) + 1 := by
    intro j hj
    obtain ⟨a1, a2, a3, a4, a5⟩ := hM.2.2.1 _ (hall j (by omega)).1 _ (hC.vk hj)
    rw [hC.s hj]
    exact ⟨a1, a2, a5⟩
  have hne : ∀ i j : Nat, i < j → j ≤ m → nd A B via t i ≠ nd A B via t j := by
    intro i j hij hj e
    have := hC.falls (rc := fun v => far v - 64 * (dd v / 64)) (fun j hj => by
      have := (hM.rc hF hd hN (hall j (by omega)).1 (hC.vk hj)).2.2.2
      rw [hC.s hj]; exact this) j i hij hj
    rw [e] at this
    exact Int.lt_irrefl _ this
  have hroot : 0 < sp (nd A B via t m) := hM.2.2.2.1 _ (hall m (Nat.le_refl _)).1 (hall m (Nat.le_refl _)).2 hC.2
  refine ⟨m, hC, php1 (f := nd A B via t) (fun i hi => (hall i (by omega)).1) (fun i j hij hj => hne i j hij (by omega)), hall, hstep, hne, hroot, fun j hj => ?_⟩
  have key : ∀ d j : Nat, j + d = m → ∃ C : Int, far (nd A B via t j) = 64 * C + ((m - j : Nat) : Int) := by
    intro d
    induction d with
    | zero =>
      intro j hj
      obtain rfl : j = m := by omega
      refine ⟨0, ?_⟩
      rw [(hM.2.1 _ (hall j (Nat.le_refl _)).1 hroot).1, Nat.sub_self]; rfl
    | succ d ih =>
      intro j hj
      obtain ⟨C, hCC⟩ := ih (j + 1) (by omega)
      have h3 := (hstep j (by omega)).2.2
      refine ⟨C + cst A ln cf (kk A B via t j) (nd A B via t (j + 1)), ?_⟩
      have e : ((m - j : Nat) : Int) = ((m - (j + 1) : Nat) : Int) + 1 := by omega
      rw [h3, hCC, e]; omega
  exact key (m - j) j (by omega)
end ME
end LS2
end
