section
/-! a minute, in the model: choosing and boarding; what holds after each -/
theorem inj_le : ∀ (n q : Nat) (f : Nat → Nat), (∀ k : Nat, k < q → f k < n) → (∀ k k' : Nat, k < q → k' < k → f k' ≠ f k) → q ≤ n
  | 0, q, f, h, _ => by
    cases q with
    | zero => exact Nat.le_refl _
    | succ q => exact absurd (h 0 (by omega)) (Nat.not_lt_zero _)
  | n + 1, q, f, h, hi => by
    by_cases hx : ∃ k : Nat, k < q ∧ f k = n
    · obtain ⟨k0, hk0, e0⟩ := hx
      have := inj_le n (q - 1) (fun k => if k < k0 then f k else f (k + 1)) (fun k hk => by
        split
        · have h1 := h k (by omega)
          have h2 := hi k0 k hk0 (by assumption)
          omega
        · have h1 := h (k + 1) (by omega)
          have h2 := hi (k + 1) k0 (by omega) (by omega)
          omega) (fun k k' hk hk' => by
        show (if k' < k0 then f k' else f (k' + 1)) ≠ (if k < k0 then f k else f (k + 1))
        by_cases a : k' < k0
        · by_cases b : k < k0
          · rw [if_pos a, if_pos b]; exact hi k k' (by omega) hk'
          · rw [if_pos a, if_neg b]; exact hi (k + 1) k' (by omega) (by omega)
        · rw [if_neg a, if_neg (by omega)]; exact hi (k + 1) (k' + 1) (by omega) (by omega))
      omega
    · have := inj_le n q f (fun k hk => by
        have h1 := h k hk
        have h2 : f k ≠ n := fun e => hx ⟨k, hk, e⟩
        omega) hi
      omega
section MS
variable {μ μ' : MSt} {j : Nat}
theorem mDown_2 {g s k i : Nat} (h : k ≠ 21 ∨ i < 7 * g + 2 ∨ (7 * g + 4 < i ∧ i ≠ 7 * g + 6)) : (mDown μ g s).2.1 k i = μ.2.1 k i := by
  unfold mDown
  rw [m2_n (by omega), m2_n (by omega), m2_n (by omega), m2_n (by omega)]
theorem mDown_g {g s : Nat} : (mDown μ g s).2.1 21 (7 * g + 2) = 3 ∧ (mDown μ g s).2.1 21 (7 * g + 3) = s ∧ (mDown μ g s).2.1 21 (7 * g + 4) = μ.2.1 8 (6 * s + 2) ∧ (mDown μ g s).2.1 21 (7 * g + 6) = μ.2.1 21 (7 * g + 6) + 1 := by
  unfold mDown
  refine ⟨?_, ?_, ?_, ?_⟩
  · rw [m2_n (by omega), m2_n (by omega), m2_n (by omega), m2_s]
  · rw [m2_n (by omega), m2_n (by omega), m2_s]
  · rw [m2_n (by omega), m2_s]
  · rw [m2_s]
theorem mDown_MI {g s : Nat} (hI : MI μ j) (hg : g < μ.1 22) (hs : s < μ.1 9) (h0 : μ.2.1 21 (7 * g + 2) = 0) : MI (mDown μ g s) j := by
  have hsl := hI.sl s hs
  have hb := hI.gr g hg
  obtain ⟨d1, d2, d3, d4⟩ := mDown_g (μ := μ) (g := g) (s := s)
  refine MI_st hI (fun k _ _ => rfl) (by have := hI.c0; unfold mC0 at this; exact this.2.2.2.2.2.2.2.1) (fun k _ _ _ h => by funext i; exact mDown_2 (Or.inl h)) rfl ?_ ?_ ?_ (fun l _ => mDown_2 (by omega)) (fun i _ => mDown_2 (by omega)) (fun i hi => mDown_2 (by omega))
  · unfold mGr
    show ∀ g', g' < μ.1 22 → _
    intro g' hg'
    show _ ∧ _ ∧ (_ ∨ (_ ∧ _ < μ.1 7 ∧ _) ∨ (_ ∧ _ < μ.1 7 ∧ _) ∨ (_ ∧ _ < μ.1 9 ∧ _))
    by_cases e : g' = g
    · subst e
      rw [d1, d2, d3, mDown_2 (by omega), mDown_2 (by omega)]
      omega
    · rw [mDown_2 (by omega), mDown_2 (by omega), mDown_2 (by omega), mDown_2 (by omega), mDown_2 (by omega)]
      exact hI.gr g' hg'
  · unfold mQu
    show ∀ l, l < μ.1 7 → _
    intro l hl
    rw [mDown_2 (by omega)]
    refine ⟨(hI.qu l hl).1, fun k hk => ?_⟩
    obtain ⟨a1, a2, a3, a4⟩ := (hI.qu l hl).2 k hk
    have hne : μ.2.1 5 (60 * l + k) ≠ g := by intro e; rw [e] at a2; omega
    rw [mDown_2 (by omega), mDown_2 (by omega), mDown_2 (by omega)]
    refine ⟨a1, a2, a3, fun k' hk' => ?_⟩
    rw [mDown_2 (by omega)]
    exact a4 k' hk'
  · unfold mSn
    show ∀ c, c < μ.1 14 → _
    intro c hc
    rw [mDown_2 (by omega), mDown_2 (by omega), mDown_2 (by omega), mDown_2 (by omega)]
    exact hI.sn c hc
theorem mQue_2 {g l k i : Nat} (h21 : k = 21 → i ≠ 7 * g + 2 ∧ i ≠ 7 * g + 3) (h5 : k = 5 → i ≠ 60 * l + μ.2.1 6 l) (h6 : k = 6 → i ≠ l) : (mQue μ g l).2.1 k i = μ.2.1 k i := by
  unfold mQue
  rw [m2_n (by omega), m2_n (by omega), m2_n (by omega), m2_n (by omega)]
theorem mQue_g {g l : Nat} : (mQue μ g l).2.1 21 (7 * g + 2) = 1 ∧ (mQue μ g l).2.1 21 (7 * g + 3) = l ∧ (mQue μ g l).2.1 5 (60 * l + μ.2.1 6 l) = g ∧ (mQue μ g l).2.1 6 l = μ.2.1 6 l + 1 := by
  unfold mQue
  refine ⟨?_, ?_, ?_, ?_⟩
  · rw [m2_n (by omega), m2_n (by omega), m2_n (by omega), m2_s]
  · rw [m2_n (by omega), m2_n (by omega), m2_s]
  · rw [m2_n (by omega), m2_s]
  · rw [m2_s]
/-- a free group stands in no row, so there is room -/
theorem qu_room {g l : Nat} (hI : MI μ j) (hg : g < μ.1 22) (hl : l < μ.1 7) (h0 : μ.2.1 21 (7 * g + 2) = 0) : μ.2.1 6 l < 60 := by
  have hq := hI.qu l hl
  have hc := hI.cs
  have := inj_le (μ.1 22) (μ.2.1 6 l + 1) (fun k => if k = μ.2.1 6 l then g else μ.2.1 5 (60 * l + k)) (fun k hk => by
    split
    · exact hg
    · exact (hq.2 k (by omega)).1) (fun k k' hk hk' => by
    rw [if_neg (show ¬ k' = μ.2.1 6 l by omega)]
    split
    · intro e
      have := (hq.2 k' (by omega)).2.1
      rw [e, h0] at this
      omega
    · exact (hq.2 k (by omega)).2.2.2 k' hk')
  omega
theorem mQue_MI {g l : Nat} (hI : MI μ j) (hg : g < μ.1 22) (hl : l < μ.1 7) (h0 : μ.2.1 21 (7 * g + 2) = 0) : MI (mQue μ g l) j := by
  have hb := hI.gr g hg
  have hroom := qu_room hI hg hl h0
  obtain ⟨d1, d2, d3, d4⟩ := mQue_g (μ := μ) (g := g) (l := l)
  refine MI_st hI (fun k _ _ => rfl) (by have := hI.c0; unfold mC0 at this; exact this.2.2.2.2.2.2.2.1) (fun k h5 h6 _ h => by funext i; exact mQue_2 (fun e => absurd e h) (fun e => absurd e h5) (fun e => absurd e h6)) rfl ?_ ?_ ?_ (fun l' hl' => mQue_2 (by omega) (by omega) (by omega)) (fun i _ => mQue_2 (by omega) (by omega) (by omega)) (fun i hi => mQue_2 (by omega) (by omega) (by omega))
  · unfold mGr
    show ∀ g', g' < μ.1 22 → _
    intro g' hg'
    show _ ∧ _ ∧ (_ ∨ (_ ∧ _ < μ.1 7 ∧ _) ∨ (_ ∧ _ < μ.1 7 ∧ _) ∨ (_ ∧ _ < μ.1 9 ∧ _))
    by_cases e : g' = g
    · subst e
      rw [d1, d2, mQue_2 (by omega) (by omega) (by omega), mQue_2 (by omega) (by omega) (by omega), mQue_2 (by omega) (by omega) (by omega)]
      omega
    · rw [mQue_2 (by omega) (by omega) (by omega), mQue_2 (by omega) (by omega) (by omega), mQue_2 (by omega) (by omega) (by omega), mQue_2 (by omega) (by omega) (by omega), mQue_2 (by omega) (by omega) (by omega)]
      exact hI.gr g' hg'
  · unfold mQu
    show ∀ l', l' < μ.1 7 → _
    intro l' hl'
    have hq := hI.qu l' hl'
    have hold : ∀ k : Nat, k < μ.2.1 6 l' → (mQue μ g l).2.1 5 (60 * l' + k) = μ.2.1 5 (60 * l' + k) := fun k hk => mQue_2 (by omega) (fun _ => by
      have := hq.1
      by_cases e : l' = l
      · subst e; omega
      · omega) (by omega)
    have hst : ∀ k : Nat, k < μ.2.1 6 l' → (mQue μ g l).2.1 21 (7 * μ.2.1 5 (60 * l' + k) + 2) = 1 ∧ (mQue μ g l).2.1 21 (7 * μ.2.1 5 (60 * l' + k) + 3) = l' ∧ μ.2.1 5 (60 * l' + k) ≠ g := by
      intro k hk
      obtain ⟨a1, a2, a3, a4⟩ := hq.2 k hk
      have hne : μ.2.1 5 (60 * l' + k) ≠ g := by intro e; rw [e] at a2; omega
      rw [mQue_2 (by omega) (by omega) (by omega), mQue_2 (by omega) (by omega) (by omega)]
      exact ⟨a2, a3, hne⟩
    by_cases e : l' = l
    · subst e
      rw [d4]
      refine ⟨by omega, fun k hk => ?_⟩
      by_cases ek : k = μ.2.1 6 l'
      · subst ek
        rw [d3, d1, d2]
        refine ⟨hg, rfl, rfl, fun k' hk' => ?_⟩
        rw [hold k' hk']
        exact (hst k' hk').2.2
      · rw [hold k (by omega)]
        refine ⟨(hq.2 k (by omega)).1, (hst k (by omega)).1, (hst k (by omega)).2.1, fun k' hk' => ?_⟩
        rw [hold k' (by omega)]
        exact (hq.2 k (by omega)).2.2.2 k' hk'
    · rw [mQue_2 (by omega) (by omega) (by omega)]
      refine ⟨hq.1, fun k hk => ?_⟩
      rw [hold k hk]
      refine ⟨(hq.2 k hk).1, (hst k hk).1, (hst k hk).2.1, fun k' hk' => ?_⟩
      rw [hold k' (by omega)]
      exact (hq.2 k hk).2.2.2 k' hk'
  · unfold mSn
    show ∀ c, c < μ.1 14 → _
    intro c hc
    rw [mQue_2 (by omega) (by omega) (by omega), mQue_2 (by omega) (by omega) (by omega), mQue_2 (by omega) (by omega) (by omega), mQue_2 (by omega) (by omega) (by omega)]
    exact hI.sn c hc
theorem mCho_s {op : Nat → Bool} {g s : Nat} (h : bsl μ op g (μ.1 9) = some s) : mCho μ op g = mWrN (mDown μ g s) s (μ.2.1 21 (7 * g) * (1 + μ.2.1 8 (6 * s + 3))) (μ.2.1 8 (6 * s + 5)) := by unfold mCho; rw [h]
theorem mCho_l {op : Nat → Bool} {g l : Nat} (h : bsl μ op g (μ.1 9) = none) (h2 : bli μ g (μ.1 7) = some l) : mCho μ op g = mQue μ g l := by unfold mCho; rw [h]; dsimp only; rw [h2]
theorem mCho_n {op : Nat → Bool} {g : Nat} (h : bsl μ op g (μ.1 9) = none) (h2 : bli μ g (μ.1 7) = none) : mCho μ op g = μ := by unfold mCho; rw [h]; dsimp only; rw [h2]
theorem mCho_MI {op : Nat → Bool} {g : Nat} (hI : MI μ j) (hg : g < μ.1 22) (h0 : μ.2.1 21 (7 * g + 2) = 0) : MI (mCho μ op g) j ∧ (∀ k, k ≠ 54 → (mCho μ op g).1 k = μ.1 k) := by
  cases hs : bsl μ op g (μ.1 9) with
  | some s =>
    rw [mCho_s hs]
    have hs9 := bsl_lt _ _ hs
    refine ⟨mWrN_MI (mDown_MI hI hg hs9 h0) hs9 _ ?_, fun k hk => mWrN_1 hk _⟩
    rw [mDown_2 (by omega)]
    exact Nat.le_refl _
  | none =>
    cases hl : bli μ g (μ.1 7) with
    | some l => rw [mCho_l hs hl]; exact ⟨mQue_MI hI hg (bli_lt _ _ hl) h0, fun k _ => rfl⟩
    | none => rw [mCho_n hs hl]; exact ⟨hI, fun _ _ => rfl⟩
/-- all free groups choose, the first n -/
noncomputable def mChoN (μ : MSt) (op : Nat → Bool) : Nat → MSt
  | 0 => μ
  | n + 1 => if (mChoN μ op n).2.1 21 (7 * n + 2) = 0 then mCho (mChoN μ op n) op n else mChoN μ op n
theorem mChoN_MI {op : Nat → Bool} (hI : MI μ j) : ∀ n : Nat, n ≤ μ.1 22 → MI (mChoN μ op n) j ∧ ∀ k, k ≠ 54 → (mChoN μ op n).1 k = μ.1 k
  | 0, _ => ⟨hI, fun _ _ => rfl⟩
  | n + 1, h => by
    obtain ⟨a, b⟩ := mChoN_MI (op := op) hI n (by omega)
    show MI (if (mChoN μ op n).2.1 21 (7 * n + 2) = 0 then mCho (mChoN μ op n) op n else mChoN μ op n) j ∧ _
    by_cases e : (mChoN μ op n).2.1 21 (7 * n + 2) = 0
    · rw [if_pos e]
      obtain ⟨c, d⟩ := mCho_MI (op := op) a (by rw [b 22 (by decide)]; omega) e
      refine ⟨c, fun k hk => ?_⟩
      show (if _ then _ else _ : MSt).1 k = _
      rw [if_pos e, d k hk, b k hk]
    · rw [if_neg e]
      refine ⟨a, fun k hk => ?_⟩
      show (if _ then _ else _ : MSt).1 k = _
      rw [if_neg e, b k hk]
theorem mChoN_none {op : Nat → Bool} : ∀ n : Nat, (∀ g : Nat, g < n → ¬ μ.2.1 21 (7 * g + 2) = 0) → mChoN μ op n = μ
  | 0, _ => rfl
  | n + 1, h => by
    have ih := mChoN_none (op := op) n (fun g hg => h g (by omega))
    show (if (mChoN μ op n).2.1 21 (7 * n + 2) = 0 then _ else _) = μ
    rw [ih, if_neg (h n (by omega))]
/-! boarding -/
abbrev qg (μ : MSt) (l k : Nat) : Nat := μ.2.1 5 (60 * l + k)
def mLf (μ : MSt) (l : Nat) : Nat → Nat
  | 0 => μ.2.1 3 (5 * l + 2)
  | k + 1 => mLf μ l k - μ.2.1 21 (7 * qg μ l k)
def stB (μ : MSt) (l k : Nat) : Prop := k = μ.2.1 6 l ∨ mLf μ l k < μ.2.1 21 (7 * qg μ l k)
def isB (μ : MSt) (l k : Nat) : Prop := k ≤ μ.2.1 6 l ∧ stB μ l k ∧ ∀ i : Nat, i < k → ¬ stB μ l i
noncomputable def mB (μ : MSt) (l : Nat) : Nat := Classical.epsilon (isB μ l)
theorem mB_eq {l k : Nat} (h : isB μ l k) : mB μ l = k := by
  have h' := Classical.epsilon_spec (p := isB μ l) ⟨k, h⟩
  show Classical.epsilon (isB μ l) = k
  generalize Classical.epsilon (isB μ l) = k' at h'
  rcases Nat.lt_trichotomy k k' with e | e | e
  · exact absurd h.2.1 (h'.2.2 k e)
  · exact e.symm
  · exact absurd h'.2.1 (h.2.2 k' e)
theorem mLf_le {l : Nat} : ∀ k : Nat, mLf μ l k ≤ μ.2.1 3 (5 * l + 2)
  | 0 => Nat.le_refl _
  | k + 1 => by have := mLf_le (l := l) k; show mLf μ l k - _ ≤ _; omega
/-- the first k of a row ride -/
def brd (μ : MSt) (l : Nat) : Nat → MSt
  | 0 => μ
  | k + 1 => m2 (m2 (m2 (brd μ l k) 21 (7 * qg μ l k + 2) 2) 21 (7 * qg μ l k + 4) (μ.2.1 3 (5 * l + 3))) 21 (7 * qg μ l k + 5) (μ.2.1 21 (7 * qg μ l k + 5) + 1)
theorem brd_1 {l : Nat} : ∀ k : Nat, (brd μ l k).1 = μ.1 ∧ (brd μ l k).2.2 = μ.2.2
  | 0 => ⟨rfl, rfl⟩
  | k + 1 => brd_1 k
theorem brd_2 {l a i : Nat} (h : a ≠ 21) : ∀ k : Nat, (brd μ l k).2.1 a i = μ.2.1 a i
  | 0 => rfl
  | k + 1 => by
    show (m2 (m2 (m2 _ _ _ _) _ _ _) _ _ _).2.1 a i = _
    rw [m2_n (by omega), m2_n (by omega), m2_n (by omega)]
    exact brd_2 h k
theorem brd_n {l g f : Nat} (hf : f < 7) : ∀ k : Nat, ((f ≠ 2 ∧ f ≠ 4 ∧ f ≠ 5) ∨ ∀ i : Nat, i < k → qg μ l i ≠ g) → (brd μ l k).2.1 21 (7 * g + f) = μ.2.1 21 (7 * g + f)
  | 0, _ => rfl
  | k + 1, h => by
    show (m2 (m2 (m2 _ _ _ _) _ _ _) _ _ _).2.1 21 _ = _
    have ih := brd_n (l := l) (g := g) hf k (h.imp id (fun h i hi => h i (by omega)))
    rcases h with h | h
    · rw [m2_n (by omega), m2_n (by omega), m2_n (by omega)]
      exact ih
    · have := h k (by omega)
      rw [m2_n (by omega), m2_n (by omega), m2_n (by omega)]
      exact ih
theorem brd_y {l i : Nat} : ∀ k : Nat, i < k → (∀ a b : Nat, a < k → b < a → qg μ l b ≠ qg μ l a) → (brd μ l k).2.1 21 (7 * qg μ l i + 2) = 2 ∧ (brd μ l k).2.1 21 (7 * qg μ l i + 4) = μ.2.1 3 (5 * l + 3) ∧ (brd μ l k).2.1 21 (7 * qg μ l i + 5) = μ.2.1 21 (7 * qg μ l i + 5) + 1
  | 0, h, _ => absurd h (Nat.not_lt_zero _)
  | k + 1, h, hd => by
    show (m2 (m2 (m2 _ _ _ _) _ _ _) _ _ _).2.1 21 _ = _ ∧ (m2 (m2 (m2 _ _ _ _) _ _ _) _ _ _).2.1 21 _ = _ ∧ (m2 (m2 (m2 _ _ _ _) _ _ _) _ _ _).2.1 21 _ = _
    by_cases e : i = k
    · subst e
      refine ⟨?_, ?_, ?_⟩
      · rw [m2_n (by omega), m2_n (by omega), m2_s]
      · rw [m2_n (by omega), m2_s]
      · rw [m2_s]
    · have hne := hd k i (by omega) (by omega)
      obtain ⟨a, b, c⟩ := brd_y (l := l) (i := i) k (by omega) (fun x y hx hy => hd x y (by omega) hy)
      refine ⟨?_, ?_, ?_⟩
      · rw [m2_n (by omega), m2_n (by omega), m2_n (by omega)]; exact a
      · rw [m2_n (by omega), m2_n (by omega), m2_n (by omega)]; exact b
      · rw [m2_n (by omega), m2_n (by omega), m2_n (by omega)]; exact c
def mBo (μ : MSt) (l k : Nat) : MSt :=
  (μ.1, fun a i => if a = 6 ∧ i = l then μ.2.1 6 l - k else if a = 5 ∧ 60 * l ≤ i ∧ i < 60 * l + (μ.2.1 6 l - k) then μ.2.1 5 (i + k) else (brd μ l k).2.1 a i, μ.2.2)
theorem mBo_6 {l k i : Nat} : (mBo μ l k).2.1 6 i = if i = l then μ.2.1 6 l - k else μ.2.1 6 i := by
  unfold mBo
  dsimp only
  by_cases e : i = l
  · rw [if_pos ⟨rfl, e⟩, if_pos e]
  · rw [if_neg (fun g => e g.2), if_neg e, if_neg (by omega)]
    exact brd_2 (by decide) k
theorem mBo_5 {l k i : Nat} : (mBo μ l k).2.1 5 i = if 60 * l ≤ i ∧ i < 60 * l + (μ.2.1 6 l - k) then μ.2.1 5 (i + k) else μ.2.1 5 i := by
  unfold mBo
  dsimp only
  rw [if_neg (by omega)]
  by_cases e : 60 * l ≤ i ∧ i < 60 * l + (μ.2.1 6 l - k)
  · rw [if_pos ⟨rfl, e⟩, if_pos e]
  · rw [if_neg (fun g => e g.2), if_neg e]
    exact brd_2 (by decide) k
theorem mBo_21 {l k i : Nat} : (mBo μ l k).2.1 21 i = (brd μ l k).2.1 21 i := by
  unfold mBo
  dsimp only
  rw [if_neg (by omega), if_neg (by omega)]
theorem mBo_o {l k a i : Nat} (h : a ≠ 5 ∧ a ≠ 6 ∧ a ≠ 21) : (mBo μ l k).2.1 a i = μ.2.1 a i := by
  unfold mBo
  dsimp only
  rw [if_neg (by omega), if_neg (by omega)]
  exact brd_2 h.2.2 k
theorem qu_inj {l : Nat} (hI : MI μ j) (hl : l < μ.1 7) {k : Nat} (hk : k ≤ μ.2.1 6 l) : ∀ a b : Nat, a < k → b < a → qg μ l b ≠ qg μ l a := fun a b ha hb => ((hI.qu l hl).2 a (by omega)).2.2.2 b hb
theorem mBo_MI {l k : Nat} (hI : MI μ j) (hl : l < μ.1 7) (hk : k ≤ μ.2.1 6 l) : MI (mBo μ l k) j := by
  have hli := hI.li l hl
  have hq := hI.qu l hl
  have hinj := qu_inj hI hl hk
  have hg21 : ∀ g f : Nat, f < 7 → ((f ≠ 2 ∧ f ≠ 4 ∧ f ≠ 5) ∨ ∀ i : Nat, i < k → qg μ l i ≠ g) → (mBo μ l k).2.1 21 (7 * g + f) = μ.2.1 21 (7 * g + f) := fun g f hf h => mBo_21.trans (brd_n hf k h)
  refine MI_st hI (fun k _ _ => rfl) (by have := hI.c0; unfold mC0 at this; exact this.2.2.2.2.2.2.2.1) (fun a h5 h6 _ h => by funext i; exact mBo_o ⟨h5, h6, h⟩) rfl ?_ ?_ ?_ (fun l' hl' => by rw [mBo_6, if_neg (by omega)]) (fun i _ => mBo_o (by omega)) (fun i hi => ?_)
  · unfold mGr
    show ∀ g', g' < μ.1 22 → _
    intro g hg
    have hb := hI.gr g hg
    have e0 : (mBo μ l k).2.1 21 (7 * g) = μ.2.1 21 (7 * g) := hg21 g 0 (by decide) (Or.inl (by decide))
    have e1 := hg21 g 1 (by decide) (Or.inl (by decide))
    have e3 := hg21 g 3 (by decide) (Or.inl (by decide))
    rw [e0, e1, e3]
    show _ ∧ _ ∧ (_ ∨ (_ ∧ _ < μ.1 7 ∧ _) ∨ (_ ∧ _ < μ.1 7 ∧ _) ∨ (_ ∧ _ < μ.1 9 ∧ _))
    by_cases e : ∃ i : Nat, i < k ∧ qg μ l i = g
    · obtain ⟨i, hi, rfl⟩ := e
      obtain ⟨a, b, -⟩ := brd_y (l := l) (i := i) k hi hinj
      rw [mBo_21, mBo_21, a, b]
      have h3 : μ.2.1 21 (7 * qg μ l i + 3) = l := (hq.2 i (by omega)).2.2.1
      refine ⟨hb.1, hb.2.1, Or.inr (Or.inr (Or.inl ⟨rfl, by omega, by omega, by omega⟩))⟩
    · have hn : ∀ i : Nat, i < k → qg μ l i ≠ g := fun i hi e' => e ⟨i, hi, e'⟩
      rw [hg21 g 2 (by decide) (Or.inr hn), hg21 g 4 (by decide) (Or.inr hn)]
      exact hb
  · unfold mQu
    show ∀ l', l' < μ.1 7 → _
    intro l' hl'
    rw [mBo_6]
    by_cases e : l' = l
    · subst e
      rw [if_pos rfl]
      refine ⟨by omega, fun q hq' => ?_⟩
      have hs : ∀ q : Nat, q < μ.2.1 6 l' - k → (mBo μ l' k).2.1 5 (60 * l' + q) = qg μ l' (q + k) := fun q hq => by rw [mBo_5, if_pos (by omega), Nat.add_assoc]
      rw [hs q hq']
      obtain ⟨a1, a2, a3, a4⟩ := hq.2 (q + k) (by omega)
      have hn : ∀ i : Nat, i < k → qg μ l' i ≠ qg μ l' (q + k) := fun i hi => a4 i (by omega)
      rw [hg21 _ 2 (by decide) (Or.inr hn), hg21 _ 3 (by decide) (Or.inl (by decide))]
      refine ⟨a1, a2, a3, fun k' hk' => ?_⟩
      rw [hs k' (by omega)]
      exact a4 (k' + k) (by omega)
    · rw [if_neg e]
      have hql := hI.qu l' hl'
      refine ⟨hql.1, fun q hq' => ?_⟩
      have hs : ∀ q : Nat, q < μ.2.1 6 l' → (mBo μ l k).2.1 5 (60 * l' + q) = μ.2.1 5 (60 * l' + q) := fun q hq'' => by rw [mBo_5, if_neg (by omega)]
      rw [hs q hq']
      obtain ⟨a1, a2, a3, a4⟩ := hql.2 q hq'
      have hn : ∀ i : Nat, i < k → qg μ l i ≠ μ.2.1 5 (60 * l' + q) := fun i hi e' => by
        have := (hq.2 i (by omega)).2.2.1
        rw [show μ.2.1 5 (60 * l + i) = μ.2.1 5 (60 * l' + q) from e', a3] at this
        exact e this
      rw [hg21 _ 2 (by decide) (Or.inr hn), hg21 _ 3 (by decide) (Or.inl (by decide))]
      refine ⟨a1, a2, a3, fun k' hk' => ?_⟩
      rw [hs k' (by omega)]
      exact a4 k' hk'
  · unfold mSn
    show ∀ c, c < μ.1 14 → _
    intro c hc
    rw [mBo_o (by omega), mBo_o (by omega), mBo_o (by omega), mBo_o (by omega)]
    exact hI.sn c hc
  · obtain ⟨g, f, hf, rfl⟩ : ∃ g f : Nat, f < 7 ∧ i = 7 * g + f := ⟨i / 7, i % 7, by omega, by omega⟩
    exact hg21 g f hf (Or.inr (fun q hq' e => by have := (hq.2 q (by omega)).1; rw [show μ.2.1 5 (60 * l + q) = g from e] at this; omega))
end MS
end
