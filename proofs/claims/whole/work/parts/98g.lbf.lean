section
/-! least: rounds over all links -/
section LS7
variable {n K : Nat} {A B : Nat → Nat} {ln : Nat → Int} {cf dd sp far : Nat → Int} {via : Nat → Option Nat} {tt : Nat → Nat} {ρ pc : Nat}
def arcN (A : Nat → Nat) (k u : Nat) : Nat := if u = A k then 2 * k else 2 * k + 1
def nFin (n : Nat) (far : Nat → Int) : Nat := sumN (fun v => if far v = UN then 0 else 1) n
theorem nFin_le : nFin n far ≤ n := by
  have := sumN_ind (p := fun v => if far v = UN then 0 else 1) (q := fun v => if far v = UN then 1 else 0) (fun v => by (try dsimp only); split <;> rfl) n
  unfold nFin; omega
/-- within round ρ, so many arcs gone through -/
def BFI (n K : Nat) (A B : Nat → Nat) (ln cf dd sp far : Nat → Int) (via : Nat → Option Nat) (tt : Nat → Nat) (ρ pc : Nat) : Prop :=
  (∀ v : Nat, v < n → far v ≤ UN ∧ (far v ≠ UN → 64 * (dd v / 64) ≤ far v ∧ far v ≤ 6401 * (nFin n far : Int)) ∧ (0 < sp v → far v = 0 ∧ via v = none)) ∧
  (∀ v : Nat, v < n → ∀ k : Nat, via v = some k → k < K ∧ inc A B k v ∧ far v ≠ UN ∧ far (ot A B k v) ≠ UN ∧ far (ot A B k v) + 64 * cst A ln cf k (ot A B k v) + 1 ≤ far v ∧ tt v ≤ tt (ot A B k v) + 1) ∧
  (∀ v : Nat, v < n → far v ≠ UN → via v = none → 0 < sp v) ∧
  (∀ v : Nat, v < n → tt v ≤ ρ ∧ (0 < tt v → via v ≠ none)) ∧
  (∀ k : Nat, k < K → ∀ u : Nat, inc A B k u → far u ≠ UN → (far (ot A B k u) ≠ UN ∧ far (ot A B k u) ≤ far u + 64 * cst A ln cf k u + 1) ∨ (if arcN A k u < pc then ρ else ρ - 1) ≤ tt u)
theorem arc_eq (hN : NetOk n K A B ln) {k k' u u' : Nat} (hk : k < K) (hk' : k' < K) (hu : inc A B k u) (hu' : inc A B k' u') (h : arcN A k u = arcN A k' u') : k = k' ∧ u = u' := by
  unfold arcN at h
  have e : k = k' := by split at h <;> split at h <;> omega
  subst e
  refine ⟨rfl, ?_⟩
  have hne := (hN.2.2 k hk).2.2.1
  rcases hu with g | g <;> rcases hu' with g' | g'
  · rw [g, g']
  · rw [if_pos g, if_neg (fun y => hne (y.symm.trans g'))] at h; omega
  · rw [if_neg (fun y => hne (y.symm.trans g)), if_pos g'] at h; omega
  · rw [g, g']
/-- nothing nearer by this arc -/
theorem BFI.no (h : BFI n K A B ln cf dd sp far via tt ρ pc) (hN : NetOk n K A B ln) {k u : Nat} (hk : k < K) (hu : inc A B k u) (hp : arcN A k u = pc) (hno : far u ≠ UN → far (ot A B k u) ≤ far u + 64 * cst A ln cf k u + 1) : BFI n K A B ln cf dd sp far via tt ρ (pc + 1) := by
  obtain ⟨h1, h2, h3, h4, h5⟩ := h
  refine ⟨h1, h2, h3, h4, fun k' hk' u' hu' hf => ?_⟩
  by_cases e : arcN A k' u' = pc
  · obtain ⟨rfl, rfl⟩ := arc_eq hN hk hk' hu hu' (hp.trans e.symm)
    have a1 := hno hf
    have a2 := ((h1 _ (hN.lt hk hu)).2.1 hf).2
    have a3 : (nFin n far : Int) ≤ 40 := by have := nFin_le (n := n) (far := far); have := hN.1; omega
    have a4 := cst_le hN (cf := cf) (u := u) hk
    exact Or.inl ⟨by unfold UN; omega, a1⟩
  · rcases h5 k' hk' u' hu' hf with g | g
    · exact Or.inl g
    · refine Or.inr ?_
      by_cases c : arcN A k' u' < pc
      · rw [if_pos c] at g; rw [if_pos (by omega)]; exact g
      · rw [if_neg c] at g; rw [if_neg (by omega)]; exact g
theorem nFin_up {v : Nat} {x : Int} (hv : v < n) (hx : x ≠ UN) : nFin n far ≤ nFin n (updZ far v x) ∧ (far v = UN → nFin n far + 1 = nFin n (updZ far v x)) := by
  unfold nFin
  have key : ∀ n : Nat, (v < n → sumN (fun i => if far i = UN then 0 else 1) n ≤ sumN (fun i => if updZ far v x i = UN then 0 else 1) n ∧ (far v = UN → sumN (fun i => if far i = UN then 0 else 1) n + 1 = sumN (fun i => if updZ far v x i = UN then 0 else 1) n)) ∧ (n ≤ v → sumN (fun i => if far i = UN then 0 else 1) n = sumN (fun i => if updZ far v x i = UN then 0 else 1) n) := by
    intro n
    induction n with
    | zero => exact ⟨fun h => absurd h (Nat.not_lt_zero _), fun _ => rfl⟩
    | succ n ih =>
      show (v < n + 1 → sumN (fun i => if far i = UN then 0 else 1) n + (if far n = UN then 0 else 1) ≤ sumN (fun i => if updZ far v x i = UN then 0 else 1) n + (if updZ far v x n = UN then 0 else 1) ∧ (far v = UN → sumN (fun i => if far i = UN then 0 else 1) n + (if far n = UN then 0 else 1) + 1 = sumN (fun i => if updZ far v x i = UN then 0 else 1) n + (if updZ far v x n = UN then 0 else 1))) ∧ (n + 1 ≤ v → sumN (fun i => if far i = UN then 0 else 1) n + (if far n = UN then 0 else 1) = sumN (fun i => if updZ far v x i = UN then 0 else 1) n + (if updZ far v x n = UN then 0 else 1))
      by_cases e : n = v
      · subst e
        rw [updZ_s, if_neg hx, ih.2 (Nat.le_refl _)]
        refine ⟨fun _ => ⟨by split <;> omega, fun g => by rw [if_pos g]⟩, fun g => by omega⟩
      · rw [updZ_n e]
        refine ⟨fun g => ?_, fun g => by rw [ih.2 (by omega)]⟩
        obtain ⟨a1, a2⟩ := ih.1 (by omega)
        exact ⟨by omega, fun g => by have := a2 g; omega⟩
  exact (key n).1 hv
/-- a cell is nearer by this arc -/
theorem BFI.yes (h : BFI n K A B ln cf dd sp far via tt ρ pc) (hN : NetOk n K A B ln) (hF : Fe K A B ln cf dd) (hd : ∀ v : Nat, v < n → 0 ≤ dd v ∧ dd v % 64 ≤ 39) {k u : Nat} (hk : k < K) (hu : inc A B k u) (hp : arcN A k u = pc) (hf : far u ≠ UN) (hlt : far u + 64 * cst A ln cf k u + 1 < far (ot A B k u)) :
    BFI n K A B ln cf dd sp (updZ far (ot A B k u) (far u + 64 * cst A ln cf k u + 1)) (fun i => if i = ot A B k u then some k else via i) (fun i => if i = ot A B k u then ρ else tt i) ρ (pc + 1) := by
  obtain ⟨h1, h2, h3, h4, h5⟩ := h
  have hun := hN.lt hk hu
  obtain ⟨o1, o2, o3⟩ := hN.ot_inc hk hu
  have hon := hN.ot_lt hk hu
  generalize hv : ot A B k u = v at hlt o1 o2 o3 hon ⊢
  have hc := hF.cost hd hN hk hu
  rw [hv] at hc
  obtain ⟨a1, a2, a3⟩ := h1 u hun
  obtain ⟨b1, b2, b3⟩ := h1 v hon
  obtain ⟨a4, a5⟩ := a2 hf
  have hne : far u + 64 * cst A ln cf k u + 1 ≠ UN := by omega
  have hd0 := (hd v hon).1
  have hsp : ¬ 0 < sp v := fun g => by have := (b3 g).1; omega
  obtain ⟨f1, f2⟩ := nFin_up (far := far) (x := far u + 64 * cst A ln cf k u + 1) hon hne
  have f3 := cst_le hN (cf := cf) (u := u) hk
  have hu' : updZ far v (far u + 64 * cst A ln cf k u + 1) u = far u := updZ_n (fun g => o3 g.symm)
  refine ⟨fun w hw => ?_, fun w hw k' hk' => ?_, fun w hw hfw hvw => ?_, fun w hw => ?_, fun k' hk' u' hu'' hf' => ?_⟩
  · obtain ⟨c1, c2, c3⟩ := h1 w hw
    by_cases e : w = v
    · subst e
      rw [updZ_s]
      refine ⟨by omega, fun _ => ⟨by omega, ?_⟩, fun g => absurd g hsp⟩
      by_cases g : far w = UN
      · have := f2 g; omega
      · have := (c2 g).2; omega
    · rw [updZ_n e]
      refine ⟨c1, fun g => ⟨(c2 g).1, by have := (c2 g).2; omega⟩, fun g => ⟨(c3 g).1, ?_⟩⟩
      (try dsimp only)
      rw [if_neg e]; exact (c3 g).2
  · (try dsimp only at hk' ⊢)
    by_cases e : w = v
    · subst e
      rw [if_pos rfl] at hk'
      obtain rfl : k = k' := Option.some.inj hk'
      rw [updZ_s, o2, hu', if_pos rfl, if_neg (fun g => o3 g.symm)]
      refine ⟨hk, o1, hne, hf, Int.le_refl _, ?_⟩
      rcases h5 k hk u hu hf with g | g
      · rw [hv] at g; omega
      · rw [if_neg (by omega)] at g; omega
    · rw [if_neg e] at hk'
      obtain ⟨c1, c2, c3, c4, c5, c6⟩ := h2 w hw k' hk'
      rw [updZ_n e, if_neg e]
      by_cases e2 : ot A B k' w = v
      · rw [e2] at c4 c5 c6 ⊢
        rw [updZ_s, if_pos rfl]
        have := (h4 w hw).1
        exact ⟨c1, c2, c3, hne, by omega, by omega⟩
      · rw [updZ_n e2, if_neg e2]
        exact ⟨c1, c2, c3, c4, c5, c6⟩
  · (try dsimp only at hvw)
    by_cases e : w = v
    · rw [if_pos e] at hvw; exact absurd hvw (by simp)
    · rw [if_neg e] at hvw
      rw [updZ_n e] at hfw
      exact h3 w hw hfw hvw
  · (try dsimp only)
    by_cases e : w = v
    · rw [if_pos e, if_pos e]; exact ⟨Nat.le_refl _, fun _ => by simp⟩
    · rw [if_neg e, if_neg e]; exact h4 w hw
  · (try dsimp only)
    by_cases e : u' = v
    · refine Or.inr ?_
      rw [if_pos e]; split <;> omega
    · rw [updZ_n e] at hf' ⊢
      rw [if_neg e]
      by_cases ea : arcN A k' u' = pc
      · obtain ⟨rfl, rfl⟩ := arc_eq hN hk hk' hu hu'' (hp.trans ea.symm)
        rw [hv, updZ_s]
        exact Or.inl ⟨hne, Int.le_refl _⟩
      · rcases h5 k' hk' u' hu'' hf' with g | g
        · refine Or.inl ?_
          by_cases e2 : ot A B k' u' = v
          · rw [e2] at g ⊢
            rw [updZ_s]
            exact ⟨hne, by omega⟩
          · rw [updZ_n e2]; exact g
        · refine Or.inr ?_
          by_cases c : arcN A k' u' < pc
          · rw [if_pos c] at g; rw [if_pos (by omega)]; exact g
          · rw [if_neg c] at g; rw [if_neg (by omega)]; exact g
/-- the next round begins -/
theorem BFI.next (h : BFI n K A B ln cf dd sp far via tt ρ (2 * K)) (hN : NetOk n K A B ln) : BFI n K A B ln cf dd sp far via tt (ρ + 1) 0 := by
  obtain ⟨h1, h2, h3, h4, h5⟩ := h
  refine ⟨h1, h2, h3, fun v hv => ⟨by have := (h4 v hv).1; omega, (h4 v hv).2⟩, fun k hk u hu hf => ?_⟩
  rcases h5 k hk u hu hf with g | g
  · exact Or.inl g
  · refine Or.inr ?_
    rw [if_pos (by unfold arcN; split <;> omega)] at g
    rw [if_neg (by omega)]
    omega
/-- a round in which nothing came nearer -/
theorem BFI.done (h : BFI n K A B ln cf dd sp far via tt ρ (2 * K)) (ht : ∀ v : Nat, v < n → tt v < ρ) (hN : NetOk n K A B ln) : MEAS n K A B ln cf dd sp far via := by
  obtain ⟨h1, h2, h3, h4, h5⟩ := h
  have hst : ∀ k : Nat, k < K → ∀ u : Nat, inc A B k u → far u ≠ UN → far (ot A B k u) ≠ UN ∧ far (ot A B k u) ≤ far u + 64 * cst A ln cf k u + 1 := by
    intro k hk u hu hf
    rcases h5 k hk u hu hf with g | g
    · exact g
    · rw [if_pos (by unfold arcN; split <;> omega)] at g
      have := ht u (hN.lt hk hu)
      omega
  refine ⟨fun v hv => ⟨(h1 v hv).1, fun g => ((h1 v hv).2.1 g).1⟩, fun v hv g => (h1 v hv).2.2 g, fun v hv k hk => ?_, h3, hst⟩
  obtain ⟨c1, c2, c3, c4, c5, -⟩ := h2 v hv k hk
  obtain ⟨o1, o2, -⟩ := hN.ot_inc c1 c2
  have := (hst k c1 _ o1 c4).2
  rw [o2] at this
  exact ⟨c1, c2, c3, c4, by omega⟩
/-- so many rounds are enough -/
theorem BFI.end (h : BFI n K A B ln cf dd sp far via tt ρ (2 * K)) (hN : NetOk n K A B ln) (hF : Fe K A B ln cf dd) (hd : ∀ v : Nat, v < n → 0 ≤ dd v ∧ dd v % 64 ≤ 39) (hr : n ≤ ρ) {v : Nat} (hv : v < n) (ht : tt v = ρ) : False := by
  obtain ⟨h1, h2, h3, h4, h5⟩ := h
  have key : ∀ j : Nat, j ≤ n → nd A B via v j < n ∧ ρ ≤ tt (nd A B via v j) + j ∧ (0 < j → far (nd A B via v j) ≠ UN) ∧ ∀ i : Nat, i < j → far (nd A B via v j) - 64 * (dd (nd A B via v j) / 64) < far (nd A B via v i) - 64 * (dd (nd A B via v i) / 64) := by
    intro j
    induction j with
    | zero => exact fun _ => ⟨hv, by rw [show nd A B via v 0 = v from rfl, ht]; omega, fun g => absurd g (Nat.lt_irrefl _), fun i hi => absurd hi (Nat.not_lt_zero _)⟩
    | succ j ih =>
      intro hj
      obtain ⟨i1, i2, i3, i4⟩ := ih (by omega)
      have hvia := (h4 _ i1).2 (by omega)
      cases e : via (nd A B via v j) with
      | none => exact absurd e hvia
      | some k =>
        obtain ⟨c1, c2, c3, c4, c5, c6⟩ := h2 _ i1 k e
        obtain ⟨o1, o2, -⟩ := hN.ot_inc c1 c2
        have hcc := hF.cost hd hN c1 o1
        rw [o2] at hcc
        rw [nd_s e]
        refine ⟨hN.ot_lt c1 c2, by omega, fun _ => c4, fun i hi => ?_⟩
        by_cases ei : i = j
        · subst ei; omega
        · have := i4 i (by omega); omega
  have := php1 (n := n) (m := n + 1) (f := nd A B via v) (fun i hi => (key i (by omega)).1) (fun i j hij hj e => by
    have := (key j (by omega)).2.2.2 i hij
    rw [e] at this
    exact Int.lt_irrefl _ this)
  omega
end LS7
end
