section
/-! a minute, in the model: its parts, and what holds after each -/
section MS
variable {μ μ' : MSt} {j : Nat}
theorem MI_st (hI : MI μ j) (h1 : ∀ k, k ≠ 54 → k ≠ 28 → μ'.1 k = μ.1 k) (h28 : μ'.1 28 ≤ 600 * j) (h2 : ∀ k, k ≠ 5 → k ≠ 6 → k ≠ 10 → k ≠ 21 → μ'.2.1 k = μ.2.1 k) (h3 : μ'.2.2 = μ.2.2) (hg : mGr μ') (hq : mQu μ') (hs : mSn μ' j)
    (z6 : ∀ l, μ.1 7 ≤ l → μ'.2.1 6 l = μ.2.1 6 l) (z10 : ∀ i, 4 * μ.1 14 ≤ i → μ'.2.1 10 i = μ.2.1 10 i) (z21 : ∀ i, 7 * μ.1 22 ≤ i → μ'.2.1 21 i = μ.2.1 21 i) : MI μ' j := by
  have e7 := h1 7 (by decide) (by decide); have e9 := h1 9 (by decide) (by decide); have e14 := h1 14 (by decide) (by decide); have e22 := h1 22 (by decide) (by decide); have e26 := h1 26 (by decide) (by decide)
  have e2 := h1 2 (by decide) (by decide); have e27 := h1 27 (by decide) (by decide); have e20 := h1 20 (by decide) (by decide)
  have a3 := h2 3 (by decide) (by decide) (by decide) (by decide); have a4 := h2 4 (by decide) (by decide) (by decide) (by decide); have a8 := h2 8 (by decide) (by decide) (by decide) (by decide); have a12 := h2 12 (by decide) (by decide) (by decide) (by decide); have a15 := h2 15 (by decide) (by decide) (by decide) (by decide); have a16 := h2 16 (by decide) (by decide) (by decide) (by decide); have a17 := h2 17 (by decide) (by decide) (by decide) (by decide); have a18 := h2 18 (by decide) (by decide) (by decide) (by decide); have a23 := h2 23 (by decide) (by decide) (by decide) (by decide); have a24 := h2 24 (by decide) (by decide) (by decide) (by decide); have a25 := h2 25 (by decide) (by decide) (by decide) (by decide)
  have hz := hI.ze
  have eN : ∀ s, mNm μ' s = mNm μ s := fun s => mNm_eq (by rw [a18]) (fun _ => by rw [a17]) (fun _ _ _ => by rw [a15, a16]; exact ⟨rfl, rfl⟩)
  refine ⟨?_, ?_, ?_, hs, hg, hq, ?_, ?_, ?_, ?_⟩
  · have := hI.c0
    unfold mC0 at this ⊢
    rw [e2, e7, e9, e14, e22, e26, e27, e20]
    omega
  · unfold mLi; rw [e7, a3, a4]; exact hI.li
  · unfold mSl; rw [e9, e14, a8, a18]; exact hI.sl
  · unfold mRu
    rw [e9, e7, a15, a16, a17, a18]
    refine ⟨hI.ru.1, ?_⟩
    obtain ⟨r, hr⟩ := hI.ru.2
    exact ⟨r, fun s k hs hk e => hr s k hs hk (by rw [eN] at e; exact e)⟩
  · unfold mLk; rw [e26, e14, a23, a24, a25]; exact hI.lk
  · unfold mWt; rw [e14, a12, h3]; exact hI.wt
  · unfold mZe
    rw [e7, e9, e14, e22, a4, a18, a12, h3]
    refine ⟨fun l hl => ⟨(hz.1 l hl).1, by rw [z6 l hl]; exact (hz.1 l hl).2⟩, hz.2.1, fun i hi => by rw [z10 i hi]; exact hz.2.2.1 i hi, hz.2.2.2.1, fun g hg => ?_⟩
    rw [z21 _ (by omega), z21 _ (by omega), z21 _ (by omega)]
    exact hz.2.2.2.2 g hg
theorem mGo_2 {g k i : Nat} (h : k ≠ 21 ∨ i < 7 * g + 2 ∨ 7 * g + 4 < i) : (mGo μ g).2.1 k i = μ.2.1 k i := by
  unfold mGo
  split
  · split
    · rw [m2_n (by omega), m2_n (by omega), m2_n (by omega)]
    · rw [m2_n (by omega)]
  · rfl
theorem mGo_3 {g : Nat} : (mGo μ g).2.2 = μ.2.2 := by
  unfold mGo
  split
  · split <;> rfl
  · rfl
/-- the group's own numbers afterwards -/
theorem mGo_g {g : Nat} : ((μ.2.1 21 (7 * g + 2) = 2 ∨ μ.2.1 21 (7 * g + 2) = 3) → μ.2.1 21 (7 * g + 4) - 1 = 0 → (mGo μ g).2.1 21 (7 * g + 2) = 0 ∧ (mGo μ g).2.1 21 (7 * g + 3) = mEp μ g ∧ (mGo μ g).2.1 21 (7 * g + 4) = 0) ∧
    ((μ.2.1 21 (7 * g + 2) = 2 ∨ μ.2.1 21 (7 * g + 2) = 3) → ¬ μ.2.1 21 (7 * g + 4) - 1 = 0 → (mGo μ g).2.1 21 (7 * g + 2) = μ.2.1 21 (7 * g + 2) ∧ (mGo μ g).2.1 21 (7 * g + 3) = μ.2.1 21 (7 * g + 3) ∧ (mGo μ g).2.1 21 (7 * g + 4) = μ.2.1 21 (7 * g + 4) - 1) ∧
    (¬ (μ.2.1 21 (7 * g + 2) = 2 ∨ μ.2.1 21 (7 * g + 2) = 3) → mGo μ g = μ) := by
  refine ⟨fun a b => ?_, fun a b => ?_, fun a => ?_⟩
  · unfold mGo
    rw [if_pos a, if_pos b, m2_s, m2_n (by omega), m2_s, m2_n (by omega), m2_n (by omega), m2_s]
    exact ⟨rfl, rfl, b⟩
  · unfold mGo
    rw [if_pos a, if_neg b, m2_n (by omega), m2_n (by omega), m2_s]
    exact ⟨rfl, rfl, rfl⟩
  · unfold mGo
    rw [if_neg a]
theorem mEp_le {g : Nat} (hI : MI μ j) (hg : g < μ.1 22) (hs : μ.2.1 21 (7 * g + 2) = 2 ∨ μ.2.1 21 (7 * g + 2) = 3) : mEp μ g ≤ 9 := by
  have hb := hI.gr g hg
  unfold mEp
  by_cases e : μ.2.1 21 (7 * g + 2) = 2
  · rw [if_pos e]
    exact (hI.li _ (by omega)).2.1
  · rw [if_neg e]
    exact (hI.sl _ (by omega)).2.1
theorem mGo_MI {g : Nat} (hI : MI μ j) (hg : g < μ.1 22) : MI (mGo μ g) j := by
  obtain ⟨c1, c2, c3⟩ := mGo_g (μ := μ) (g := g)
  by_cases hs : μ.2.1 21 (7 * g + 2) = 2 ∨ μ.2.1 21 (7 * g + 2) = 3
  rotate_left
  · rw [c3 hs]; exact hI
  have hb := hI.gr g hg
  have hep := mEp_le hI hg hs
  refine MI_st hI (fun k _ _ => by rw [mGo_1]) (by rw [mGo_1]; have := hI.c0; unfold mC0 at this; omega) (fun k _ _ _ h => by funext i; exact mGo_2 (Or.inl h)) mGo_3 ?_ ?_ ?_ (fun l _ => mGo_2 (by omega)) (fun i _ => mGo_2 (by omega)) (fun i hi => mGo_2 (by omega))
  · unfold mGr
    rw [mGo_1]
    intro g' hg'
    by_cases e : g' = g
    · subst e
      rw [mGo_2 (by omega), mGo_2 (by omega)]
      by_cases h0 : μ.2.1 21 (7 * g' + 4) - 1 = 0
      · obtain ⟨d1, d2, d3⟩ := c1 hs h0
        rw [d1, d2, d3]
        omega
      · obtain ⟨d1, d2, d3⟩ := c2 hs h0
        rw [d1, d2, d3]
        omega
    · rw [mGo_2 (by omega), mGo_2 (by omega), mGo_2 (by omega), mGo_2 (by omega), mGo_2 (by omega)]
      exact hI.gr g' hg'
  · unfold mQu
    rw [mGo_1]
    intro l hl
    rw [mGo_2 (by omega)]
    refine ⟨(hI.qu l hl).1, fun k hk => ?_⟩
    obtain ⟨a1, a2, a3, a4⟩ := (hI.qu l hl).2 k hk
    have hne : μ.2.1 5 (60 * l + k) ≠ g := by intro e; rw [e] at a2; omega
    rw [mGo_2 (by omega), mGo_2 (by omega), mGo_2 (by omega)]
    refine ⟨a1, a2, a3, fun k' hk' => ?_⟩
    rw [mGo_2 (by omega)]
    exact a4 k' hk'
  · unfold mSn
    rw [mGo_1]
    intro c hc
    rw [mGo_2 (by omega), mGo_2 (by omega), mGo_2 (by omega), mGo_2 (by omega)]
    exact hI.sn c hc
def mGoN (μ : MSt) : Nat → MSt
  | 0 => μ
  | n + 1 => mGo (mGoN μ n) n
theorem mGoN_1 : ∀ n : Nat, (mGoN μ n).1 = μ.1
  | 0 => rfl
  | n + 1 => mGo_1.trans (mGoN_1 n)
theorem mGoN_3 : ∀ n : Nat, (mGoN μ n).2.2 = μ.2.2
  | 0 => rfl
  | n + 1 => mGo_3.trans (mGoN_3 n)
theorem mGoN_2 : ∀ n k : Nat, k ≠ 21 → (mGoN μ n).2.1 k = μ.2.1 k
  | 0, _, _ => rfl
  | n + 1, k, h => by
    refine Eq.trans ?_ (mGoN_2 n k h)
    funext i
    exact mGo_2 (Or.inl h)
theorem mGoN_MI (hI : MI μ j) : ∀ n : Nat, n ≤ μ.1 22 → MI (mGoN μ n) j
  | 0, _ => hI
  | n + 1, h => mGo_MI (mGoN_MI hI n (by omega)) (by rw [mGoN_1]; omega)
/-! wear: a cell -/
def wr1 (μ : MSt) (c due : Nat) : Nat := min due (μ.2.1 10 (4 * c + 2))
def wr2 (μ : MSt) (c due : Nat) : Nat := min (due - wr1 μ c due) (μ.2.1 10 (4 * c + 1))
def wr3 (μ : MSt) (c due : Nat) : Nat := min (due - wr1 μ c due - wr2 μ c due) (μ.2.1 10 (4 * c))
def wrS (μ : MSt) (c due : Nat) : Nat := wr1 μ c due + wr2 μ c due + wr3 μ c due
def mWr (μ : MSt) (c due : Nat) : MSt :=
  (va_up μ.1 54 (μ.1 54 + wrS μ c due),
   fun a i => if a = 10 ∧ i = 4 * c + 2 then μ.2.1 10 (4 * c + 2) - wr1 μ c due else if a = 10 ∧ i = 4 * c + 1 then μ.2.1 10 (4 * c + 1) - wr2 μ c due else if a = 10 ∧ i = 4 * c then μ.2.1 10 (4 * c) - wr3 μ c due else if a = 10 ∧ i = 4 * c + 3 then μ.2.1 10 (4 * c + 3) + wrS μ c due else μ.2.1 a i, μ.2.2)
theorem mWr_1 {c due k : Nat} (h : k ≠ 54) : (mWr μ c due).1 k = μ.1 k := by show va_up _ _ _ k = _; rw [up_ap, if_neg h]
theorem mWr_54 {c due : Nat} : (mWr μ c due).1 54 = μ.1 54 + wrS μ c due := by show va_up μ.1 54 (μ.1 54 + wrS μ c due) 54 = _; rw [up_ap, if_pos rfl]
theorem mWr_2 {c due a i : Nat} (h : a = 10 → i < 4 * c ∨ 4 * c + 4 ≤ i) : (mWr μ c due).2.1 a i = μ.2.1 a i := by
  unfold mWr
  dsimp only
  rw [if_neg (fun e => by have := h e.1; omega), if_neg (fun e => by have := h e.1; omega), if_neg (fun e => by have := h e.1; omega), if_neg (fun e => by have := h e.1; omega)]
theorem mWr_c {c due : Nat} : (mWr μ c due).2.1 10 (4 * c) = μ.2.1 10 (4 * c) - wr3 μ c due ∧ (mWr μ c due).2.1 10 (4 * c + 1) = μ.2.1 10 (4 * c + 1) - wr2 μ c due ∧ (mWr μ c due).2.1 10 (4 * c + 2) = μ.2.1 10 (4 * c + 2) - wr1 μ c due ∧ (mWr μ c due).2.1 10 (4 * c + 3) = μ.2.1 10 (4 * c + 3) + wrS μ c due := by
  unfold mWr
  dsimp only
  refine ⟨?_, ?_, ?_, ?_⟩
  · rw [if_neg (by omega), if_neg (by omega), if_pos ⟨rfl, rfl⟩]
  · rw [if_neg (by omega), if_pos ⟨rfl, rfl⟩]
  · rw [if_pos ⟨rfl, rfl⟩]
  · rw [if_neg (by omega), if_neg (by omega), if_neg (by omega), if_pos ⟨rfl, rfl⟩]
theorem mWr_sum {c due : Nat} : (mWr μ c due).2.1 10 (4 * c) + (mWr μ c due).2.1 10 (4 * c + 1) + (mWr μ c due).2.1 10 (4 * c + 2) + (mWr μ c due).2.1 10 (4 * c + 3) = μ.2.1 10 (4 * c) + μ.2.1 10 (4 * c + 1) + μ.2.1 10 (4 * c + 2) + μ.2.1 10 (4 * c + 3) ∧ wrS μ c due ≤ due := by
  obtain ⟨a, b, c', d⟩ := mWr_c (μ := μ) (c := c) (due := due)
  rw [a, b, c', d]
  unfold wrS wr3 wr2 wr1
  omega
theorem mWr_MI {c due : Nat} (hI : MI μ j) (hc : c < μ.1 14) : MI (mWr μ c due) j := by
  refine MI_st hI (fun k h _ => mWr_1 h) (by rw [mWr_1 (by decide)]; have := hI.c0; unfold mC0 at this; omega) (fun k _ _ h _ => by funext i; exact mWr_2 (fun e => absurd e h)) rfl ?_ ?_ ?_ (fun l _ => mWr_2 (by omega)) (fun i hi => mWr_2 (by omega)) (fun i _ => mWr_2 (by omega))
  · have e : (mWr μ c due).2.1 21 = μ.2.1 21 := by funext i; exact mWr_2 (by omega)
    unfold mGr
    rw [mWr_1 (by decide), mWr_1 (by decide), mWr_1 (by decide), e]
    exact hI.gr
  · have e : (mWr μ c due).2.1 21 = μ.2.1 21 := by funext i; exact mWr_2 (by omega)
    have e5 : (mWr μ c due).2.1 5 = μ.2.1 5 := by funext i; exact mWr_2 (by omega)
    have e6 : (mWr μ c due).2.1 6 = μ.2.1 6 := by funext i; exact mWr_2 (by omega)
    unfold mQu
    rw [mWr_1 (by decide), mWr_1 (by decide), e, e5, e6]
    exact hI.qu
  · unfold mSn
    rw [mWr_1 (by decide)]
    intro c' hc'
    by_cases e : c' = c
    · subst e
      rw [mWr_sum.1]
      exact hI.sn _ hc'
    · rw [mWr_2 (by omega), mWr_2 (by omega), mWr_2 (by omega), mWr_2 (by omega)]
      exact hI.sn _ hc'
/-- wear: the first n of a slope's cells -/
def mWrN (μ : MSt) (s due : Nat) : Nat → MSt
  | 0 => μ
  | n + 1 => mWr (mWrN μ s due n) (μ.2.1 8 (6 * s + 4) + n) due
theorem mWrN_1 {s due k : Nat} (h : k ≠ 54) : ∀ n : Nat, (mWrN μ s due n).1 k = μ.1 k
  | 0 => rfl
  | n + 1 => (mWr_1 h).trans (mWrN_1 h n)
theorem mWrN_2 {s due a i : Nat} (h : a ≠ 10) : ∀ n : Nat, (mWrN μ s due n).2.1 a i = μ.2.1 a i
  | 0 => rfl
  | n + 1 => (mWr_2 (fun e => absurd e h)).trans (mWrN_2 h n)
theorem mWrN_3 {s due : Nat} : ∀ n : Nat, (mWrN μ s due n).2.2 = μ.2.2
  | 0 => rfl
  | n + 1 => mWrN_3 (s := s) (due := due) n
theorem mWrN_MI {s due : Nat} (hI : MI μ j) (hs : s < μ.1 9) : ∀ n : Nat, n ≤ μ.2.1 8 (6 * s + 5) → MI (mWrN μ s due n) j
  | 0, _ => hI
  | n + 1, h => mWr_MI (mWrN_MI hI hs n (by omega)) (by rw [mWrN_1 (by decide)]; have := hI.sl s hs; omega)
/-! a free group chooses -/
def pkS (μ : MSt) (b : Option Nat) (s : Nat) : Option Nat := match b with
  | none => some s
  | some b' => if μ.2.1 8 (6 * b' + 3) < μ.2.1 8 (6 * s + 3) then some s else some b'
def pkL (μ : MSt) (b : Option Nat) (l : Nat) : Option Nat := match b with
  | none => some l
  | some b' => if mWait μ l < mWait μ b' then some l else some b'
def fitS (μ : MSt) (op : Nat → Bool) (g s : Nat) : Prop := μ.2.1 8 (6 * s) = μ.2.1 21 (7 * g + 3) ∧ μ.2.1 8 (6 * s + 3) ≤ μ.2.1 21 (7 * g + 1) ∧ op s = true
def fitL (μ : MSt) (g l : Nat) : Prop := μ.2.1 3 (5 * l) = μ.2.1 21 (7 * g + 3) ∧ mRun μ l = true
noncomputable def bsl (μ : MSt) (op : Nat → Bool) (g : Nat) : Nat → Option Nat
  | 0 => none
  | s + 1 => @ite _ (fitS μ op g s) (Classical.propDecidable _) (pkS μ (bsl μ op g s) s) (bsl μ op g s)
noncomputable def bli (μ : MSt) (g : Nat) : Nat → Option Nat
  | 0 => none
  | l + 1 => @ite _ (fitL μ g l) (Classical.propDecidable _) (pkL μ (bli μ g l) l) (bli μ g l)
theorem bsl_y {op : Nat → Bool} {g s : Nat} (h : fitS μ op g s) : bsl μ op g (s + 1) = pkS μ (bsl μ op g s) s := @if_pos _ (Classical.propDecidable _) h _ _ _
theorem bsl_n {op : Nat → Bool} {g s : Nat} (h : ¬ fitS μ op g s) : bsl μ op g (s + 1) = bsl μ op g s := @if_neg _ (Classical.propDecidable _) h _ _ _
theorem bli_y {g l : Nat} (h : fitL μ g l) : bli μ g (l + 1) = pkL μ (bli μ g l) l := @if_pos _ (Classical.propDecidable _) h _ _ _
theorem bli_n {g l : Nat} (h : ¬ fitL μ g l) : bli μ g (l + 1) = bli μ g l := @if_neg _ (Classical.propDecidable _) h _ _ _
theorem bsl_lt {op : Nat → Bool} {g : Nat} : ∀ n s : Nat, bsl μ op g n = some s → s < n
  | 0, s, h => by cases h
  | n + 1, s, h => by
    have ih : ∀ s : Nat, bsl μ op g n = some s → s < n := fun s h => bsl_lt n s h
    by_cases hf : fitS μ op g n
    · rw [bsl_y hf] at h
      cases hb : bsl μ op g n with
      | none => rw [hb] at h; cases h; omega
      | some b' =>
        rw [hb] at h
        have h' : (if μ.2.1 8 (6 * b' + 3) < μ.2.1 8 (6 * n + 3) then some n else some b') = some s := h
        have := ih _ hb
        split at h'
        · cases h'; omega
        · cases h'; omega
    · rw [bsl_n hf] at h
      have := ih s h
      omega
theorem bli_lt {g : Nat} : ∀ n l : Nat, bli μ g n = some l → l < n
  | 0, l, h => by cases h
  | n + 1, l, h => by
    have ih : ∀ s : Nat, bli μ g n = some s → s < n := fun s h => bli_lt n s h
    by_cases hf : fitL μ g n
    · rw [bli_y hf] at h
      cases hb : bli μ g n with
      | none => rw [hb] at h; cases h; omega
      | some b' =>
        rw [hb] at h
        have h' : (if mWait μ n < mWait μ b' then some n else some b') = some l := h
        have := ih _ hb
        split at h'
        · cases h'; omega
        · cases h'; omega
    · rw [bli_n hf] at h
      have := ih l h
      omega
def mDown (μ : MSt) (g s : Nat) : MSt := m2 (m2 (m2 (m2 μ 21 (7 * g + 2) 3) 21 (7 * g + 3) s) 21 (7 * g + 4) (μ.2.1 8 (6 * s + 2))) 21 (7 * g + 6) (μ.2.1 21 (7 * g + 6) + 1)
def mQue (μ : MSt) (g l : Nat) : MSt := m2 (m2 (m2 (m2 μ 21 (7 * g + 2) 1) 21 (7 * g + 3) l) 5 (60 * l + μ.2.1 6 l) g) 6 l (μ.2.1 6 l + 1)
noncomputable def mCho (μ : MSt) (op : Nat → Bool) (g : Nat) : MSt :=
  match bsl μ op g (μ.1 9) with
  | some s => mWrN (mDown μ g s) s (μ.2.1 21 (7 * g) * (1 + μ.2.1 8 (6 * s + 3))) (μ.2.1 8 (6 * s + 5))
  | none =>
    match bli μ g (μ.1 7) with
    | some l => mQue μ g l
    | none => μ
end MS
end
