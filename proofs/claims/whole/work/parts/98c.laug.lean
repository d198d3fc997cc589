section
/-! least: as much as can be goes along a way -/
section LS3
variable {n K : Nat} {A B : Nat → Nat} {ln : Nat → Int} {cf dd sp ms far Mx Sx : Nat → Int} {via : Nat → Option Nat} {t m : Nat} {am Tot : Int}
/-- the flow when i links of the way have been gone -/
def pfl (A B : Nat → Nat) (via : Nat → Option Nat) (t : Nat) (am : Int) (cf : Nat → Int) : Nat → Nat → Int
  | 0 => cf
  | i + 1 => fun k => if k = kk A B via t i then pfl A B via t am cf i k + (if nd A B via t (i + 1) = A k then am else - am) else pfl A B via t am cf i k
/-- a way back: its links, its cells -/
def Wy (n K : Nat) (A B : Nat → Nat) (via : Nat → Option Nat) (t m : Nat) : Prop := Ch A B via t m ∧ m + 1 ≤ n ∧ (∀ j : Nat, j ≤ m → nd A B via t j < n) ∧ (∀ j : Nat, j < m → kk A B via t j < K ∧ inc A B (kk A B via t j) (nd A B via t j)) ∧ (∀ i j : Nat, i < j → j ≤ m → nd A B via t i ≠ nd A B via t j)
theorem Wy.inc2 (h : Wy n K A B via t m) (hN : NetOk n K A B ln) {j : Nat} (hj : j < m) : inc A B (kk A B via t j) (nd A B via t (j + 1)) ∧ ot A B (kk A B via t j) (nd A B via t (j + 1)) = nd A B via t j := by
  obtain ⟨a1, a2⟩ := h.2.2.2.1 j hj
  obtain ⟨b1, b2, -⟩ := hN.ot_inc a1 a2
  rw [h.1.s hj]
  exact ⟨b1, b2⟩
theorem Wy.kne (h : Wy n K A B via t m) (hN : NetOk n K A B ln) {i j : Nat} (hij : i < j) (hj : j < m) : kk A B via t i ≠ kk A B via t j := by
  intro e
  obtain ⟨a1, a2⟩ := h.2.2.2.1 i (by omega)
  obtain ⟨b1, b2⟩ := h.2.2.2.1 j hj
  rw [← e] at b1 b2
  have hne := h.2.2.2.2
  have h1 := hN.ends a1 a2 b2 (fun g => hne i j hij (by omega) g.symm)
  rw [← h.1.s (by omega : i < m)] at h1
  by_cases c : i + 1 = j
  · subst c
    have h2 := h.1.s hj
    rw [← e, h.1.s (by omega : i < m), (hN.ot_inc a1 a2).2.1] at h2
    exact hne i (i + 1 + 1) (by omega) (by omega) h2.symm
  · exact hne (i + 1) j (by omega) (by omega) h1.symm
theorem Wy.pf0 (h : Wy n K A B via t m) (hN : NetOk n K A B ln) : ∀ i j : Nat, i ≤ j → j < m → pfl A B via t am cf i (kk A B via t j) = cf (kk A B via t j) := by
  intro i
  induction i with
  | zero => intro j _ _; rfl
  | succ i ih =>
    intro j hij hj
    show (if kk A B via t j = kk A B via t i then _ else pfl A B via t am cf i (kk A B via t j)) = _
    rw [if_neg (fun e => h.kne hN (i := i) (j := j) (by omega) hj e.symm)]
    exact ih j (by omega) hj
/-- each link is as it was, or on the way and changed once -/
theorem Wy.pf (h : Wy n K A B via t m) (hN : NetOk n K A B ln) : ∀ i : Nat, i ≤ m → ∀ k : Nat, pfl A B via t am cf i k = cf k ∧ (∀ j : Nat, j < i → k ≠ kk A B via t j) ∨ ∃ j : Nat, j < i ∧ k = kk A B via t j ∧ cfr A (pfl A B via t am cf i) k (nd A B via t (j + 1)) = cfr A cf k (nd A B via t (j + 1)) + am := by
  intro i
  induction i with
  | zero => intro _ k; exact Or.inl ⟨rfl, fun j hj => absurd hj (Nat.not_lt_zero _)⟩
  | succ i ih =>
    intro hi k
    by_cases e : k = kk A B via t i
    · refine Or.inr ⟨i, by omega, e, ?_⟩
      have h0 := h.pf0 (am := am) (cf := cf) hN i i (Nat.le_refl _) (by omega)
      rw [← e] at h0
      unfold cfr
      have e1 : pfl A B via t am cf (i + 1) k = pfl A B via t am cf i k + (if nd A B via t (i + 1) = A k then am else - am) := if_pos e
      rw [e1, h0]
      split <;> omega
    · have e1 : pfl A B via t am cf (i + 1) k = pfl A B via t am cf i k := if_neg e
      rcases ih (by omega) k with ⟨g1, g2⟩ | ⟨j, g1, g2, g3⟩
      · refine Or.inl ⟨e1.trans g1, fun j hj => ?_⟩
        by_cases c : j = i
        · subst c; exact e
        · exact g2 j (by omega)
      · refine Or.inr ⟨j, by omega, g2, ?_⟩
        unfold cfr at g3 ⊢
        rw [e1]; exact g3
theorem Wy.fe (h : Wy n K A B via t m) (hN : NetOk n K A B ln) {φ : Nat → Int} (hF : Fe K A B ln cf φ) (hT : ∀ j : Nat, j < m → φ (nd A B via t j) = φ (nd A B via t (j + 1)) + 64 * cst A ln cf (kk A B via t j) (nd A B via t (j + 1)) + 1) (h0 : 0 ≤ am) (hb : ∀ j : Nat, j < m → cfr A cf (kk A B via t j) (nd A B via t (j + 1)) < 0 → am ≤ - cfr A cf (kk A B via t j) (nd A B via t (j + 1))) : Fe K A B ln (pfl A B via t am cf m) φ := by
  intro k hk u hu
  have h1 := hF k hk u hu
  rcases h.pf (am := am) (cf := cf) hN m (Nat.le_refl _) k with ⟨g1, -⟩ | ⟨j, g1, g2, g3⟩
  · have : cst A ln (pfl A B via t am cf m) k u = cst A ln cf k u := by unfold cst cfr; rw [g1]
    rw [this]; exact h1
  · obtain ⟨i1, i2⟩ := h.inc2 hN g1
    rw [← g2] at i1 i2
    have hl := (hN.2.2 k hk).2.2.2
    have hj := hT j g1
    have hbj := hb j g1
    rw [← g2] at hj hbj
    have c2 := hN.cfr_ot (cf := pfl A B via t am cf m) hk i1
    rw [i2] at c2
    by_cases e : u = nd A B via t (j + 1)
    · subst e
      rw [i2, hj]
      unfold cst
      rw [g3]
      split <;> split <;> omega
    · have e2 := hN.ends hk i1 hu e
      rw [i2] at e2
      subst e2
      rw [show ot A B k (nd A B via t j) = nd A B via t (j + 1) by rw [← i2]; exact (hN.ot_inc hk i1).2.1, hj]
      unfold cst
      rw [c2, g3]
      split <;> split <;> omega
theorem Wy.sum (h : Wy n K A B via t m) (hN : NetOk n K A B ln) (g : Nat → Int) : ∀ i : Nat, i ≤ m → sumZ (fun k => pfl A B via t am cf i k * (g (B k) - g (A k))) K = sumZ (fun k => cf k * (g (B k) - g (A k))) K + am * (g t - g (nd A B via t i)) := by
  intro i
  induction i with
  | zero => intro _; show _ = _ + am * (g t - g t); rw [Int.sub_self, Int.mul_zero, Int.add_zero]; rfl
  | succ i ih =>
    intro hi
    obtain ⟨a1, a2⟩ := h.2.2.2.1 i (by omega)
    obtain ⟨b1, b2⟩ := h.inc2 hN (j := i) (by omega)
    rw [sumZ_ch (f := fun k => pfl A B via t am cf i k * (g (B k) - g (A k))) (p := kk A B via t i) (d := am * (g (nd A B via t i) - g (nd A B via t (i + 1)))) a1 ?_ ?_, ih (by omega)]
    · rw [Int.mul_sub, Int.mul_sub, Int.mul_sub]; omega
    · (try dsimp only)
      have e1 : pfl A B via t am cf (i + 1) (kk A B via t i) = pfl A B via t am cf i (kk A B via t i) + (if nd A B via t (i + 1) = A (kk A B via t i) then am else - am) := if_pos rfl
      rw [e1]
      have h3 := (hN.2.2 _ a1).2.2.1
      unfold ot at b2
      by_cases e : nd A B via t (i + 1) = A (kk A B via t i)
      · rw [if_pos e] at b2
        rw [if_pos e, Int.add_mul, e, ← b2]
      · rw [if_neg e] at b2
        have e4 : nd A B via t (i + 1) = B (kk A B via t i) := b1.resolve_left e
        rw [if_neg e, Int.add_mul, e4, ← b2, Int.neg_mul, Int.mul_sub, Int.mul_sub, Int.mul_sub]; omega
    · intro k _ hne
      (try dsimp only)
      rw [show pfl A B via t am cf (i + 1) k = pfl A B via t am cf i k from if_neg hne]
theorem Wy.bd (h : Wy n K A B via t m) (hN : NetOk n K A B ln) (h0 : 0 ≤ am) {b : Int} {k i : Nat} (hi : i ≤ m) (hb : - b ≤ cf k ∧ cf k ≤ b) : - (b + am) ≤ pfl A B via t am cf i k ∧ pfl A B via t am cf i k ≤ b + am := by
  rcases h.pf (am := am) (cf := cf) hN i hi k with ⟨g1, -⟩ | ⟨j, g1, g2, g3⟩
  · rw [g1]; omega
  · unfold cfr at g3
    split at g3 <;> omega
/-- what holds between two ways -/
def LJ (n K : Nat) (A B : Nat → Nat) (ln Mx Sx : Nat → Int) (Tot : Int) (cf sp ms dd : Nat → Int) : Prop :=
  Fe K A B ln cf dd ∧ (∀ v : Nat, v < n → 0 ≤ dd v ∧ dd v % 64 ≤ 39) ∧ (∀ v : Nat, v < n → 0 < sp v → dd v = 0) ∧ (∀ v : Nat, v < n → 0 ≤ sp v ∧ sp v ≤ Sx v ∧ 0 ≤ ms v ∧ ms v ≤ Mx v) ∧
    (∀ g : Nat → Int, sumZ (fun k => cf k * (g (B k) - g (A k))) K = sumZ (fun c => g c * ((Mx c - ms c) - (Sx c - sp c))) n) ∧ (∀ k : Nat, k < K → - (Tot - sumZ ms n) ≤ cf k ∧ cf k ≤ Tot - sumZ ms n)
def updZ (f : Nat → Int) (p : Nat) (v : Int) : Nat → Int := fun i => if i = p then v else f i
theorem updZ_s {f : Nat → Int} {p : Nat} {v : Int} : updZ f p v p = v := if_pos rfl
theorem updZ_n {f : Nat → Int} {p i : Nat} {v : Int} (h : i ≠ p) : updZ f p v i = f i := if_neg h
/-- the measure kept -/
noncomputable def dd2 (far dd : Nat → Int) : Nat → Int := fun v => if far v = UN then dd v else far v
theorem MEAS.fe (hM : MEAS n K A B ln cf dd sp far via) (hF : Fe K A B ln cf dd) (hN : NetOk n K A B ln) : Fe K A B ln cf (dd2 far dd) := by
  intro k hk u hu
  unfold dd2
  by_cases e : far u = UN
  · have e2 : far (ot A B k u) = UN := by
      by_cases c : far (ot A B k u) = UN
      · exact c
      · obtain ⟨o1, o2, -⟩ := hN.ot_inc hk hu
        have := (hM.2.2.2.2 k hk _ o1 c).1
        rw [o2] at this
        exact absurd e this
    rw [if_pos e, if_pos e2]
    exact hF k hk u hu
  · obtain ⟨a1, a2⟩ := hM.2.2.2.2 k hk u hu e
    rw [if_neg e, if_neg a1]
    exact a2
theorem LJ.aug (hL : LJ n K A B ln Mx Sx Tot cf sp ms dd) (hN : NetOk n K A B ln) (hM : MEAS n K A B ln cf dd sp far via) (ht : t < n) (hx : ∀ v : Nat, v < n → Sx v = 0 ∨ Mx v = 0) (hW : Wy n K A B via t m) (hst : ∀ j : Nat, j < m → far (nd A B via t j) ≠ UN ∧ far (nd A B via t (j + 1)) ≠ UN ∧ far (nd A B via t j) = far (nd A B via t (j + 1)) + 64 * cst A ln cf (kk A B via t j) (nd A B via t (j + 1)) + 1) (h0 : 0 < am) (h1 : am ≤ ms t) (h2 : am ≤ sp (nd A B via t m)) (hb : ∀ j : Nat, j < m → cfr A cf (kk A B via t j) (nd A B via t (j + 1)) < 0 → am ≤ - cfr A cf (kk A B via t j) (nd A B via t (j + 1))) :
    LJ n K A B ln Mx Sx Tot (pfl A B via t am cf m) (updZ sp (nd A B via t m) (sp (nd A B via t m) - am)) (updZ ms t (ms t - am)) (dd2 far dd) := by
  obtain ⟨l1, l2, l3, l4, l5, l6⟩ := hL
  have hs := hW.2.2.1 m (Nat.le_refl _)
  have hne : nd A B via t m ≠ t := by
    intro e
    have a1 := l4 _ hs
    have a2 := l4 _ ht
    rw [e] at a1 h2
    rcases hx t ht with g | g <;> omega
  refine ⟨hW.fe hN (hM.fe l1 hN) (fun j hj => ?_) (by omega) hb, fun v hv => ?_, fun v hv h => ?_, fun v hv => ?_, fun g => ?_, fun k hk => ?_⟩
  · obtain ⟨a1, a2, a3⟩ := hst j hj
    unfold dd2
    rw [if_neg a1, if_neg a2]; exact a3
  · unfold dd2
    by_cases e : far v = UN
    · rw [if_pos e]; exact l2 v hv
    · rw [if_neg e]
      obtain ⟨m', w1, w2, w3, w4, w5, w6, w7⟩ := hM.way l1 l2 hN hv e
      have a1 := (hM.1 v hv).2 e
      have a2 := l2 v hv
      obtain ⟨C, hC⟩ := w7 0 (by omega)
      have hC' : far v = 64 * C + ((m' - 0 : Nat) : Int) := hC
      have := hN.1
      omega
  · have hsp : 0 < sp v := by
      unfold updZ at h
      split at h
      · rename_i e; rw [e]; omega
      · exact h
    unfold dd2
    have := (hM.2.1 v hv hsp).1
    rw [if_neg (by rw [this]; unfold UN; decide)]
    exact this
  · have a := l4 v hv
    have hq : 0 ≤ updZ sp (nd A B via t m) (sp (nd A B via t m) - am) v ∧ updZ sp (nd A B via t m) (sp (nd A B via t m) - am) v ≤ sp v := by
      unfold updZ
      split
      · rename_i e; rw [e]; omega
      · omega
    have hp : 0 ≤ updZ ms t (ms t - am) v ∧ updZ ms t (ms t - am) v ≤ ms v := by
      unfold updZ
      split
      · rename_i e; rw [e]; omega
      · omega
    omega
  · rw [hW.sum hN g m (Nat.le_refl _), l5 g]
    have s1 := sumZ_ch (f := fun c => g c * ((Mx c - ms c) - (Sx c - sp c))) (g := fun c => g c * ((Mx c - updZ ms t (ms t - am) c) - (Sx c - sp c))) (n := n) (p := t) (d := am * g t) ht (by (try dsimp only); rw [updZ_s, Int.mul_comm am, ← Int.mul_add]; congr 1; omega) (fun i _ hi => by (try dsimp only); rw [updZ_n hi])
    have s2 := sumZ_ch (f := fun c => g c * ((Mx c - updZ ms t (ms t - am) c) - (Sx c - sp c))) (g := fun c => g c * ((Mx c - updZ ms t (ms t - am) c) - (Sx c - updZ sp (nd A B via t m) (sp (nd A B via t m) - am) c))) (n := n) (p := nd A B via t m) (d := - (am * g (nd A B via t m))) hs (by (try dsimp only); rw [updZ_s, Int.mul_comm am, ← Int.mul_neg, ← Int.mul_add]; congr 1; omega) (fun i _ hi => by (try dsimp only); rw [updZ_n hi])
    rw [s2, s1, Int.mul_sub]; omega
  · have e := sumZ_ch (f := ms) (g := updZ ms t (ms t - am)) (n := n) (p := t) (d := - am) ht (by rw [updZ_s]; omega) (fun i _ hi => updZ_n hi)
    have := hW.bd hN (am := am) (cf := cf) (k := k) (by omega) (Nat.le_refl m) (l6 k hk)
    rw [e]; omega
end LS3
end
