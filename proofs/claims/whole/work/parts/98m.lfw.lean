section
/-! least: shortest ways between all cells, the reference's -/
section LR1
def FAR : Int := 1000000000000
theorem lgz_ge {x y : Int64} : 0 ≤ lg_cmp x y ↔ y.toInt ≤ x.toInt := by
  have h := lgc_lt (x := x) (y := y)
  rw [Int64.lt_iff_toInt_lt] at h
  constructor
  · intro g
    have : ¬ lg_cmp x y < 0 := Int32.not_lt.mpr g
    rw [h] at this; omega
  · intro g
    refine Int32.not_lt.mp (fun e => ?_)
    rw [h] at e; omega
theorem lgz_le {x y : Int64} : lg_cmp x y ≤ 0 ↔ x.toInt ≤ y.toInt := by
  have h := lgc_gt (x := x) (y := y)
  rw [Int64.lt_iff_toInt_lt] at h
  constructor
  · intro g
    have : ¬ 0 < lg_cmp x y := Int32.not_lt.mpr g
    rw [h] at this; omega
  · intro g
    refine Int32.not_lt.mp (fun e => ?_)
    rw [h] at e; omega
theorem rJ_s {ρ : RSt} {k p q : Nat} {v : Int64} : (rsJ ρ k p v).2.2 k q = if q = p then v else ρ.2.2 k q := by
  show (if k = k then vp_updL (ρ.2.2 k) p v else ρ.2.2 k) q = _
  rw [if_pos rfl]; rfl
theorem rJ_n {ρ : RSt} {k k' p q : Nat} {v : Int64} (h : k' ≠ k) : (rsJ ρ k p v).2.2 k' q = ρ.2.2 k' q := by
  show (if k' = k then vp_updL (ρ.2.2 k) p v else ρ.2.2 k') q = _
  rw [if_neg h]
/-- what least leaves in place -/
def lsK (ρ ρ' : RSt) : Prop := ρ'.1 = ρ.1 ∧ (∀ k i : Nat, k < 46 → ρ'.2.1 k i = ρ.2.1 k i) ∧ ∀ k i : Nat, k < 42 → ρ'.2.2 k i = ρ.2.2 k i
theorem lsK.rf {ρ : RSt} : lsK ρ ρ := ⟨rfl, fun _ _ _ => rfl, fun _ _ _ => rfl⟩
theorem lsK.tr {ρ ρ' ρ'' : RSt} (h : lsK ρ ρ') (g : lsK ρ' ρ'') : lsK ρ ρ'' := ⟨g.1.trans h.1, fun k i hk => (g.2.1 k i hk).trans (h.2.1 k i hk), fun k i hk => (g.2.2 k i hk).trans (h.2.2 k i hk)⟩
theorem lsK.J {ρ : RSt} {k p : Nat} {v : Int64} (hk : 42 ≤ k) : lsK ρ (rsJ ρ k p v) := ⟨rfl, fun _ _ _ => rfl, fun k' i h => rJ_n (by omega)⟩
theorem lsK.A {ρ : RSt} {k p : Nat} {v : Int32} (hk : 46 ≤ k) : lsK ρ (rsA ρ k p v) := ⟨rfl, fun k' i h => rA_n (fun e => absurd e (by omega)), fun _ _ _ => rfl⟩
theorem lsK.rr {ρ ρ' : RSt} {μ : MSt} (h : lsK ρ ρ') (hR : RR ρ μ) : RR ρ' μ :=
  ⟨fun k hk => by rw [h.1]; exact hR.1 k hk, fun k i hk => by rw [h.2.1 k i (by unfold sc2 at hk; omega)]; exact hR.2.1 k i hk, ⟨fun i => by rw [h.2.1 1 i (by decide)]; exact hR.2.2.1.1 i, fun i => by rw [h.2.1 13 i (by decide)]; exact hR.2.2.1.2.1 i, by rw [h.1]; exact hR.2.2.1.2.2⟩, fun i hi => by rw [h.2.2 29 _ (by decide)]; exact hR.2.2.2 i hi⟩
variable {n K : Nat} {A B : Nat → Nat} {ln : Nat → Int} {w D : Nat → Nat → Int} {m p : Nat}
def lipZ (K : Nat) (A B : Nat → Nat) (ln g : Nat → Int) : Prop := ∀ k : Nat, k < K → g (B k) - g (A k) ≤ ln k ∧ g (A k) - g (B k) ≤ ln k
def WI (n : Nat) (w : Nat → Nat → Int) : Prop := (∀ i j : Nat, i < n → j < n → 0 ≤ w i j ∧ w i j ≤ FAR) ∧ ∀ i : Nat, i < n → w i i = 0
def WS (n K : Nat) (A B : Nat → Nat) (ln : Nat → Int) (w : Nat → Nat → Int) : Prop := ∀ g : Nat → Int, lipZ K A B ln g → ∀ i j : Nat, i < n → j < n → w i j < FAR → g j - g i ≤ w i j
def WT (n : Nat) (w : Nat → Nat → Int) (m : Nat) : Prop := ∀ k i j : Nat, k < m → k < n → i < n → j < n → w i j ≤ w i k + w k j
def WL (K : Nat) (A B : Nat → Nat) (ln : Nat → Int) (w : Nat → Nat → Int) (m : Nat) : Prop := ∀ k : Nat, k < m → k < K → w (A k) (B k) ≤ ln k ∧ w (B k) (A k) ≤ ln k
def fwm (D : Nat → Nat → Int) (m i j : Nat) : Int := if D i m + D m j < D i j then D i m + D m j else D i j
def fwp (D : Nat → Nat → Int) (m p i j : Nat) : Int := if 40 * i + j < p then fwm D m i j else D i j
theorem fwm_le {i j : Nat} : fwm D m i j ≤ D i j ∧ fwm D m i j ≤ D i m + D m j ∧ (fwm D m i j = D i j ∨ fwm D m i j = D i m + D m j) := by
  unfold fwm
  split <;> omega
theorem fwp_le {i j : Nat} : fwp D m p i j ≤ D i j ∧ (fwp D m p i j = D i j ∨ fwp D m p i j = D i m + D m j) := by
  have := fwm_le (D := D) (m := m) (i := i) (j := j)
  unfold fwp
  split
  · exact ⟨this.1, this.2.2⟩
  · exact ⟨Int.le_refl _, Or.inl rfl⟩
theorem WI.fwp (h : WI n D) (hm : m < n) : WI n (fwp D m p) := by
  refine ⟨fun i j hi hj => ?_, fun i hi => ?_⟩
  · have h1 := h.1 i j hi hj
    have h2 := h.1 i m hi hm
    have h3 := h.1 m j hm hj
    obtain ⟨a, b⟩ := fwp_le (D := D) (m := m) (p := p) (i := i) (j := j)
    omega
  · have h1 := h.2 i hi
    have h2 := h.1 i m hi hm
    have h3 := h.1 m i hm hi
    obtain ⟨a, b⟩ := fwp_le (D := D) (m := m) (p := p) (i := i) (j := i)
    omega
theorem WS.fwp (h : WS n K A B ln D) (hI : WI n D) (hm : m < n) : WS n K A B ln (fwp D m p) := by
  intro g hg i j hi hj hlt
  have h2 := hI.1 i m hi hm
  have h3 := hI.1 m j hm hj
  obtain ⟨a, b⟩ := fwp_le (D := D) (m := m) (p := p) (i := i) (j := j)
  rcases b with b | b
  · have := h g hg i j hi hj (by omega); omega
  · have g1 := h g hg i m hi hm (by omega)
    have g2 := h g hg m j hm hj (by omega)
    omega
theorem WL.fwp {q : Nat} (h : WL K A B ln D q) : WL K A B ln (fwp D m p) q := by
  intro k hk hkK
  have h1 := h k hk hkK
  have a := (fwp_le (D := D) (m := m) (p := p) (i := A k) (j := B k)).1
  have b := (fwp_le (D := D) (m := m) (p := p) (i := B k) (j := A k)).1
  omega
theorem fwp_im (hI : WI n D) (hm : m < n) {i : Nat} : fwp D m p i m = D i m := by
  have h1 := hI.2 m hm
  unfold fwp fwm
  rw [h1]
  split
  · rw [if_neg (by omega)]
  · rfl
theorem fwp_mj (hI : WI n D) (hm : m < n) {j : Nat} : fwp D m p m j = D m j := by
  have h1 := hI.2 m hm
  unfold fwp fwm
  rw [h1]
  split
  · rw [if_neg (by omega)]
  · rfl
theorem WT.next (h : WT n D m) (hI : WI n D) (hm : m < n) (hn : n ≤ 40) : WT n (fwp D m (40 * n)) (m + 1) := by
  have e : ∀ i j : Nat, i < n → j < n → fwp D m (40 * n) i j = fwm D m i j := fun i j hi hj => by unfold fwp; rw [if_pos (by omega)]
  intro k i j hk hkn hi hj
  rw [e i j hi hj, e i k hi hkn, e k j hkn hj]
  obtain ⟨a1, a2, a3⟩ := fwm_le (D := D) (m := m) (i := i) (j := j)
  by_cases c : k = m
  · subst c
    have e1 := fwp_im (p := 40 * n) hI hm (i := i)
    have e2 := fwp_mj (p := 40 * n) hI hm (j := j)
    rw [e i k hi hm] at e1
    rw [e k j hm hj] at e2
    omega
  · have hkm : k < m := by omega
    obtain ⟨-, -, b3⟩ := fwm_le (D := D) (m := m) (i := i) (j := k)
    obtain ⟨-, -, c3⟩ := fwm_le (D := D) (m := m) (i := k) (j := j)
    have t1 := h k i j hkm hkn hi hj
    have t2 := h k m j hkm hkn hm hj
    have t3 := h k i m hkm hkn hi hm
    have p1 := (hI.1 m k hm hkn).1
    have p2 := (hI.1 k m hkn hm).1
    rcases b3 with b | b <;> rcases c3 with c | c <;> omega
/-- the reference's row -/
def WV (ρ : RSt) (n : Nat) (w : Nat → Nat → Int) : Prop := ∀ i j : Nat, i < n → j < n → (ρ.2.2 42 (40 * i + j)).toInt = w i j
theorem WV.cg {ρ : RSt} {w w' : Nat → Nat → Int} (h : WV ρ n w) (e : ∀ i j : Nat, i < n → j < n → w' i j = w i j) : WV ρ n w' := fun i j hi hj => by rw [e i j hi hj]; exact h i j hi hj
/-- all that the ways give -/
def WOK (n K : Nat) (A B : Nat → Nat) (ln : Nat → Int) (w : Nat → Nat → Int) : Prop := WI n w ∧ WS n K A B ln w ∧ WT n w n ∧ WL K A B ln w K
/-- what is reached by no link is far; what is not far is within 3900 -/
theorem WOK.cl (h : WOK n K A B ln w) (hN : NetOk n K A B ln) {C : Nat → Prop} (hC : ∀ k : Nat, k < K → (C (A k) ↔ C (B k))) {i j : Nat} (hi : i < n) (hj : j < n) (hf : w i j < FAR) : C i ↔ C j := by
  have h0 := (h.1.1 i j hi hj).1
  have hz : ∀ k : Nat, k < K → 1 ≤ ln k := fun k hk => (hN.2.2 k hk).2.2.2.1
  haveI : ∀ c, Decidable (C c) := fun c => Classical.propDecidable _
  constructor
  · intro hCi
    by_cases hCj : C j
    · exact hCj
    · have := h.2.1 (fun c => if C c then 0 else FAR) (fun k hk => by
        have hk1 := hz k hk
        have hk2 := hC k hk
        (try dsimp only)
        by_cases c : C (A k)
        · rw [if_pos c, if_pos (hk2.mp c)]; omega
        · rw [if_neg c, if_neg (fun g => c (hk2.mpr g))]; omega) i j hi hj hf
      (try dsimp only at this)
      rw [if_pos hCi, if_neg hCj] at this
      omega
  · intro hCj
    by_cases hCi : C i
    · exact hCi
    · have := h.2.1 (fun c => if C c then FAR else 0) (fun k hk => by
        have hk1 := hz k hk
        have hk2 := hC k hk
        (try dsimp only)
        by_cases c : C (A k)
        · rw [if_pos c, if_pos (hk2.mp c)]; omega
        · rw [if_neg c, if_neg (fun g => c (hk2.mpr g))]; omega) i j hi hj hf
      (try dsimp only at this)
      rw [if_pos hCj, if_neg hCi] at this
      omega
theorem WOK.bd (h : WOK n K A B ln w) (hN : NetOk n K A B ln) {i j : Nat} (hi : i < n) (hj : j < n) (hf : w i j < FAR) : w i j ≤ 3900 := by
  have key : ∀ q : Nat, (∃ q' : Nat, q' < q ∧ ∀ c : Nat, c < n → w i c ≤ 100 * (q' : Int) + 100 → w i c ≤ 100 * (q' : Int)) ∨ q + 1 ≤ sumN (fun c => if w i c ≤ 100 * (q : Int) then 1 else 0) n := by
    intro q
    induction q with
    | zero =>
      refine Or.inr ?_
      have := sumN_ltS (p := fun _ => 0) (q := fun c => if w i c ≤ 100 * ((0 : Nat) : Int) then 1 else 0) (n := n) (i := i) (fun v _ => Nat.zero_le _) hi (by (try dsimp only); rw [if_pos (by rw [h.1.2 i hi]; omega)]; decide)
      omega
    | succ q ih =>
      rcases ih with ⟨q', g1, g2⟩ | g
      · exact Or.inl ⟨q', by omega, g2⟩
      · by_cases c : ∀ c : Nat, c < n → w i c ≤ 100 * (q : Int) + 100 → w i c ≤ 100 * (q : Int)
        · exact Or.inl ⟨q, by omega, c⟩
        · refine Or.inr ?_
          have hex : ∃ c : Nat, c < n ∧ w i c ≤ 100 * (q : Int) + 100 ∧ ¬ w i c ≤ 100 * (q : Int) := by
            refine Classical.byContradiction (fun hno => c (fun c hc hl => ?_))
            by_cases hh : w i c ≤ 100 * (q : Int)
            · exact hh
            · exact absurd ⟨c, hc, hl, hh⟩ hno
          obtain ⟨c0, y1, y2, y3⟩ := hex
          have := sumN_ltS (p := fun c => if w i c ≤ 100 * (q : Int) then 1 else 0) (q := fun c => if w i c ≤ 100 * ((q + 1 : Nat) : Int) then 1 else 0) (n := n) (i := c0) (fun v _ => by
            (try dsimp only)
            by_cases a : w i v ≤ 100 * (q : Int)
            · rw [if_pos a, if_pos (by omega)]; exact Nat.le_refl _
            · rw [if_neg a]; exact Nat.zero_le _) y1 (by (try dsimp only); rw [if_neg y3, if_pos (by omega)]; decide)
          omega
  have hle : ∀ q : Nat, sumN (fun c => if w i c ≤ 100 * (q : Int) then 1 else 0) n ≤ n := by
    intro q
    have := sumN_ind (p := fun c => if w i c ≤ 100 * (q : Int) then 1 else 0) (q := fun c => if w i c ≤ 100 * (q : Int) then 0 else 1) (fun v => by (try dsimp only); split <;> rfl) n
    omega
  have hn := hN.1
  rcases key n with ⟨q, g1, g2⟩ | g
  · have := (h.cl hN (C := fun c => c < n ∧ w i c ≤ 100 * (q : Int)) (fun k hk => by
      obtain ⟨a1, a2, a3, a4, a5⟩ := hN.2.2 k hk
      obtain ⟨l1, l2⟩ := h.2.2.2 k hk hk
      have t1 := h.2.2.1 (A k) i (B k) a1 a1 hi a2
      have t2 := h.2.2.1 (B k) i (A k) a2 a2 hi a1
      exact ⟨fun y => ⟨a2, g2 _ a2 (by omega)⟩, fun y => ⟨a1, g2 _ a1 (by omega)⟩⟩) hi hj hf).mp ⟨hi, by rw [h.1.2 i hi]; omega⟩
    omega
  · have := hle n; omega
theorem WOK.sy (h : WOK n K A B ln w) (hN : NetOk n K A B ln) {i j c : Nat} (hi : i < n) (hj : j < n) (hc : c < n) (hf : w i j < FAR) (h1 : w c i < FAR) : w c j < FAR := by
  have := (h.cl hN (C := fun v => v < n ∧ w c v < FAR) (fun k hk => by
    obtain ⟨a1, a2, a3, a4, a5⟩ := hN.2.2 k hk
    obtain ⟨l1, l2⟩ := h.2.2.2 k hk hk
    have t1 := h.2.2.1 (A k) c (B k) a1 a1 hc a2
    have t2 := h.2.2.1 (B k) c (A k) a2 a2 hc a1
    refine ⟨fun y => ⟨a2, ?_⟩, fun y => ⟨a1, ?_⟩⟩
    · have := h.bd hN hc a1 y.2
      unfold FAR; omega
    · have := h.bd hN hc a2 y.2
      unfold FAR; omega) hi hj hf).mp ⟨hi, h1⟩
  exact this.2
end LR1
end
