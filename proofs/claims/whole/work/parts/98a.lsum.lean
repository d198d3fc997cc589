section
/-! least: sums, least numbers, counting -/
section LS1
def sumZ (f : Nat → Int) : Nat → Int
  | 0 => 0
  | n + 1 => sumZ f n + f n
theorem sumZ_cg {f g : Nat → Int} : ∀ {n : Nat}, (∀ i : Nat, i < n → f i = g i) → sumZ f n = sumZ g n
  | 0, _ => rfl
  | n + 1, h => by
    show sumZ f n + f n = sumZ g n + g n
    rw [sumZ_cg (fun i hi => h i (by omega)), h n (by omega)]
theorem sumZ_add {f g : Nat → Int} : ∀ {n : Nat}, sumZ (fun i => f i + g i) n = sumZ f n + sumZ g n
  | 0 => rfl
  | n + 1 => by
    show sumZ (fun i => f i + g i) n + (f n + g n) = sumZ f n + f n + (sumZ g n + g n)
    rw [sumZ_add]; omega
theorem sumZ_le {f g : Nat → Int} : ∀ {n : Nat}, (∀ i : Nat, i < n → f i ≤ g i) → sumZ f n ≤ sumZ g n
  | 0, _ => Int.le_refl _
  | n + 1, h => by
    have h1 := sumZ_le (f := f) (g := g) (n := n) (fun i hi => h i (by omega))
    have h2 := h n (by omega)
    show sumZ f n + f n ≤ sumZ g n + g n
    omega
theorem sumZ_0 {f : Nat → Int} {n : Nat} (h : ∀ i : Nat, i < n → f i = 0) : sumZ f n = 0 := by
  rw [sumZ_cg h]
  induction n with
  | zero => rfl
  | succ n ih => show sumZ (fun _ => 0) n + 0 = 0; rw [ih (fun i hi => h i (by omega))]; rfl
/-- one place changes -/
theorem sumZ_ch {f g : Nat → Int} {n p : Nat} {d : Int} (hp : p < n) (h1 : g p = f p + d) (h2 : ∀ i : Nat, i < n → i ≠ p → g i = f i) : sumZ g n = sumZ f n + d := by
  induction n with
  | zero => omega
  | succ n ih =>
    show sumZ g n + g n = sumZ f n + f n + d
    by_cases e : p = n
    · subst e
      rw [sumZ_cg (f := g) (g := f) (fun i hi => h2 i (by omega) (by omega)), h1]; omega
    · rw [ih (by omega) (fun i hi hne => h2 i (by omega) hne), h2 n (by omega) (by omega)]; omega
theorem sumZ_le1 {f : Nat → Int} {n p : Nat} (h : ∀ i : Nat, i < n → 0 ≤ f i) (hp : p < n) : f p ≤ sumZ f n := by
  have h1 := sumZ_ch (f := fun i => if i = p then 0 else f i) (g := f) (n := n) (p := p) (d := f p) hp (by rw [if_pos rfl]; omega) (fun i _ hne => by rw [if_neg hne])
  have h2 : 0 ≤ sumZ (fun i => if i = p then 0 else f i) n := by
    have := sumZ_le (f := fun _ => 0) (g := fun i => if i = p then 0 else f i) (n := n) (fun i hi => by
      split
      · exact Int.le_refl _
      · exact h i hi)
    rw [sumZ_0 (f := fun _ => 0) (fun _ _ => rfl)] at this
    exact this
  omega
theorem sumZ_nn {f : Nat → Int} {n : Nat} (h : ∀ i : Nat, i < n → 0 ≤ f i) : 0 ≤ sumZ f n := by
  have := sumZ_le (f := fun _ => 0) (g := f) (n := n) h
  rw [sumZ_0 (f := fun _ => 0) (fun _ _ => rfl)] at this
  exact this
theorem sumZ_c {f : Nat → Int} {n : Nat} {b : Int} (h : ∀ i : Nat, i < n → f i ≤ b) : sumZ f n ≤ n * b := by
  induction n with
  | zero => show (0 : Int) ≤ 0 * b; rw [Int.zero_mul]; exact Int.le_refl _
  | succ n ih =>
    have h1 := ih (fun i hi => h i (by omega))
    have h2 := h n (by omega)
    show sumZ f n + f n ≤ ((n + 1 : Nat) : Int) * b
    rw [show ((n + 1 : Nat) : Int) = n + 1 from rfl, Int.add_mul, Int.one_mul]
    omega
/-- the least number below n that has a property; n without one -/
theorem lst_ex (p : Nat → Prop) (n : Nat) : ∃ m : Nat, m ≤ n ∧ (m < n → p m) ∧ ∀ i : Nat, i < n → p i → m ≤ i := by
  induction n with
  | zero => exact ⟨0, Nat.le_refl _, fun h => absurd h (Nat.lt_irrefl _), fun i hi => absurd hi (Nat.not_lt_zero _)⟩
  | succ n ih =>
    obtain ⟨m, h1, h2, h3⟩ := ih
    by_cases e : m < n
    · exact ⟨m, by omega, fun _ => h2 e, fun i hi hp => by
        by_cases g : i < n
        · exact h3 i g hp
        · omega⟩
    · by_cases hp : p n
      · exact ⟨n, by omega, fun _ => hp, fun i hi hpi => by
          by_cases g : i < n
          · have := h3 i g hpi; omega
          · omega⟩
      · refine ⟨n + 1, Nat.le_refl _, fun h => absurd h (Nat.lt_irrefl _), fun i hi hpi => ?_⟩
        by_cases g : i < n
        · have := h3 i g hpi; omega
        · obtain rfl : i = n := by omega
          exact absurd hpi hp
noncomputable def lst (p : Nat → Prop) (n : Nat) : Nat := Classical.choose (lst_ex p n)
theorem lst_le {p : Nat → Prop} {n : Nat} : lst p n ≤ n := (Classical.choose_spec (lst_ex p n)).1
theorem lst_p {p : Nat → Prop} {n : Nat} (h : lst p n < n) : p (lst p n) := (Classical.choose_spec (lst_ex p n)).2.1 h
theorem lst_min {p : Nat → Prop} {n i : Nat} (hi : i < n) (hp : p i) : lst p n ≤ i := (Classical.choose_spec (lst_ex p n)).2.2 i hi hp
/-- so many different ones of those that count -/
theorem php {w : Nat → Nat} : ∀ (n m : Nat) (f : Nat → Nat), (∀ i : Nat, i < m → f i < n ∧ w (f i) = 1) → (∀ i j : Nat, i < j → j < m → f i ≠ f j) → m ≤ sumN w n
  | 0, m, f, h1, _ => by
    by_cases e : 0 < m
    · have := (h1 0 e).1; omega
    · omega
  | n + 1, m, f, h1, h2 => by
    show m ≤ sumN w n + w n
    by_cases e : ∃ i : Nat, i < m ∧ f i = n
    · obtain ⟨i0, hi0, e0⟩ := e
      have hw : w n = 1 := by rw [← e0]; exact (h1 i0 hi0).2
      have hne : ∀ i : Nat, i < m → i ≠ i0 → f i ≠ n := fun i hi hne g => by
        rcases Nat.lt_or_gt_of_ne hne with c | c
        · exact h2 i i0 c hi0 (by rw [g, e0])
        · exact h2 i0 i c hi (by rw [g, e0])
      have := php n (m - 1) (fun i => if i < i0 then f i else f (i + 1)) (fun i hi => by
        by_cases c : i < i0
        · rw [if_pos c]
          have a1 := h1 i (by omega)
          have a2 := hne i (by omega) (by omega)
          exact ⟨by omega, a1.2⟩
        · rw [if_neg c]
          have a1 := h1 (i + 1) (by omega)
          have a2 := hne (i + 1) (by omega) (by omega)
          exact ⟨by omega, a1.2⟩) (fun i j hij hj => by
        by_cases c : i < i0
        · rw [if_pos c]
          by_cases c2 : j < i0
          · rw [if_pos c2]; exact h2 i j hij (by omega)
          · rw [if_neg c2]; exact h2 i (j + 1) (by omega) (by omega)
        · rw [if_neg c, if_neg (by omega)]
          exact h2 (i + 1) (j + 1) (by omega) (by omega))
      omega
    · have := php n m f (fun i hi => by
        have a1 := h1 i hi
        have a2 : f i ≠ n := fun g => e ⟨i, hi, g⟩
        exact ⟨by omega, a1.2⟩) h2
      omega
theorem php1 {n m : Nat} {f : Nat → Nat} (h1 : ∀ i : Nat, i < m → f i < n) (h2 : ∀ i j : Nat, i < j → j < m → f i ≠ f j) : m ≤ n := by
  have h := php (w := fun _ => 1) n m f (fun i hi => ⟨h1 i hi, rfl⟩) h2
  have e : ∀ n : Nat, sumN (fun _ => 1) n = n := by
    intro n
    induction n with
    | zero => rfl
    | succ n ih => show sumN (fun _ => 1) n + 1 = n + 1; rw [ih]
  rw [e] at h
  exact h
end LS1
end
