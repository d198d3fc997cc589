section
/-! slopes that would lean on themselves -/
section RG
/-- rows of bits, closed through the slopes below t -/
def fwR (R : Nat → Nat) : Nat → Nat → Nat
  | 0, k => R k
  | t + 1, k => if (fwR R t k).testBit t = true then fwR R t k ||| fwR R t t else fwR R t k
variable {R : Nat → Nat} {n : Nat}
theorem fwR_b {t k j : Nat} : (fwR R (t + 1) k).testBit j = true ↔ (fwR R t k).testBit j = true ∨ ((fwR R t k).testBit t = true ∧ (fwR R t t).testBit j = true) := by
  show (if (fwR R t k).testBit t = true then fwR R t k ||| fwR R t t else fwR R t k).testBit j = true ↔ _
  by_cases h : (fwR R t k).testBit t = true
  · rw [if_pos h, Nat.testBit_or, Bool.or_eq_true]
    exact ⟨fun g => g.imp id (fun g => ⟨h, g⟩), fun g => g.imp id And.right⟩
  · rw [if_neg h]
    exact ⟨Or.inl, fun g => g.elim id (fun g => absurd g.1 h)⟩
theorem fwR_0 {t k j : Nat} (h : (R k).testBit j = true) : (fwR R t k).testBit j = true := by
  induction t with
  | zero => exact h
  | succ t ih => exact fwR_b.mpr (Or.inl ih)
theorem fwR_tr : ∀ (t k i j : Nat), i < t → (fwR R t k).testBit i = true → (fwR R t i).testBit j = true → (fwR R t k).testBit j = true
  | 0, _, _, _, h, _, _ => absurd h (Nat.not_lt_zero _)
  | t + 1, k, i, j, hi, h1, h2 => by
    have ih := fwR_tr t
    rw [fwR_b] at h1 h2 ⊢
    by_cases e : i = t
    · subst e
      rcases h1 with h1 | ⟨h1, -⟩
      · rcases h2 with h2 | ⟨-, h2⟩
        · exact Or.inr ⟨h1, h2⟩
        · exact Or.inr ⟨h1, h2⟩
      · rcases h2 with h2 | ⟨-, h2⟩
        · exact Or.inr ⟨h1, h2⟩
        · exact Or.inr ⟨h1, h2⟩
    · have hi' : i < t := by omega
      rcases h1 with h1 | ⟨h1, h1'⟩
      · rcases h2 with h2 | ⟨h2, h2'⟩
        · exact Or.inl (ih k i j hi' h1 h2)
        · exact Or.inr ⟨ih k i t hi' h1 h2, h2'⟩
      · rcases h2 with h2 | ⟨h2, h2'⟩
        · exact Or.inr ⟨h1, ih t i j hi' h1' h2⟩
        · exact Or.inr ⟨h1, h2'⟩
theorem fwR_lt {m : Nat} (h : ∀ k, R k < 2 ^ m) : ∀ t k : Nat, fwR R t k < 2 ^ m
  | 0, k => h k
  | t + 1, k => by
    show (if (fwR R t k).testBit t = true then fwR R t k ||| fwR R t t else fwR R t k) < _
    split
    · exact Nat.or_lt_two_pow (fwR_lt h t k) (fwR_lt h t t)
    · exact fwR_lt h t k
/-- joined by a walk of at most 2 ^ d steps -/
def Wd (R : Nat → Nat) (n : Nat) : Nat → Nat → Nat → Prop
  | 0, k, j => (R k).testBit j = true
  | d + 1, k, j => Wd R n d k j ∨ ∃ i : Nat, i < n ∧ Wd R n d k i ∧ Wd R n d i j
theorem Wd_mono {d k j : Nat} : ∀ c : Nat, Wd R n d k j → Wd R n (d + c) k j
  | 0, h => h
  | c + 1, h => Or.inl (Wd_mono c h)
theorem fwR_Wd : ∀ t k j : Nat, t ≤ n → (fwR R t k).testBit j = true → Wd R n t k j
  | 0, _, _, _, h => h
  | t + 1, k, j, ht, h => by
    rw [fwR_b] at h
    rcases h with h | ⟨h1, h2⟩
    · exact Or.inl (fwR_Wd t k j (by omega) h)
    · exact Or.inr ⟨t, by omega, fwR_Wd t k t (by omega) h1, fwR_Wd t t j (by omega) h2⟩
/-- the slopes that lean on themselves, as bits -/
def rgB (R : Nat → Nat) (m : Nat) : Nat → Nat
  | 0 => 0
  | k + 1 => if (fwR R m k).testBit k = true then rgB R m k ||| (1 <<< k) else rgB R m k
theorem rgB_0 {m : Nat} : ∀ k : Nat, rgB R m k = 0 → ∀ i : Nat, i < k → ¬ (fwR R m i).testBit i = true
  | 0, _, i, hi => absurd hi (Nat.not_lt_zero _)
  | k + 1, h, i, hi => by
    have h' : (if (fwR R m k).testBit k = true then rgB R m k ||| (1 <<< k) else rgB R m k) = 0 := h
    by_cases e : (fwR R m k).testBit k = true
    · rw [if_pos e] at h'
      have : (rgB R m k ||| (1 <<< k)).testBit k = true := by
        rw [Nat.testBit_or, Nat.one_shiftLeft, Nat.testBit_two_pow_self, Bool.or_true]
      rw [h', Nat.zero_testBit] at this
      exact absurd this (by decide)
    · rw [if_neg e] at h'
      by_cases ei : i = k
      · subst ei; exact e
      · exact rgB_0 k h' i (by omega)
theorem rgB_lt {m : Nat} : ∀ k : Nat, rgB R m k < 2 ^ k
  | 0 => by show 0 < 2 ^ 0; decide
  | k + 1 => by
    have ih := rgB_lt (m := m) k
    show (if (fwR R m k).testBit k = true then rgB R m k ||| (1 <<< k) else rgB R m k) < _
    have h2 : (2 : Nat) ^ (k + 1) = 2 ^ k * 2 := Nat.pow_succ 2 k
    split
    · refine Nat.or_lt_two_pow (by omega) ?_
      rw [Nat.one_shiftLeft]
      have : 0 < (2 : Nat) ^ k := Nat.pow_pos (by decide)
      omega
    · omega
/-- how many slopes a slope leans on, in all -/
def rkS (R : Nat → Nat) (m k : Nat) : Nat := sumN (fun i => if (fwR R m k).testBit i = true then 1 else 0) m
theorem sumN_le {f g : Nat → Nat} : ∀ m : Nat, (∀ i : Nat, i < m → f i ≤ g i) → sumN f m ≤ sumN g m
  | 0, _ => Nat.le_refl _
  | m + 1, h => by
    have h1 := sumN_le m (fun i hi => h i (by omega))
    have h2 := h m (by omega)
    show sumN f m + f m ≤ sumN g m + g m
    omega
theorem sumN_lt {f g : Nat → Nat} {i : Nat} : ∀ m : Nat, (∀ i : Nat, i < m → f i ≤ g i) → i < m → f i < g i → sumN f m < sumN g m
  | 0, _, hi, _ => absurd hi (Nat.not_lt_zero _)
  | m + 1, h, hi, hl => by
    have h2 := h m (by omega)
    show sumN f m + f m < sumN g m + g m
    by_cases e : i = m
    · subst e
      have h1 := sumN_le (f := f) (g := g) i (fun q hq => h q (by omega))
      omega
    · have h1 := sumN_lt (f := f) (g := g) (i := i) m (fun q hq => h q (by omega)) (by omega) hl
      omega
theorem rkS_lt {m s k : Nat} (h0 : ∀ i : Nat, i < m → ¬ (fwR R m i).testBit i = true) (hk : k < m) (h : (R s).testBit k = true) : rkS R m k < rkS R m s := by
  have hsk : (fwR R m s).testBit k = true := fwR_0 h
  refine sumN_lt (i := k) m (fun i hi => ?_) hk ?_
  · by_cases e : (fwR R m k).testBit i = true
    · rw [if_pos e, if_pos (fwR_tr m s k i hk hsk e)]
      exact Nat.le_refl _
    · rw [if_neg e]; exact Nat.zero_le _
  · rw [if_neg (h0 k hk), if_pos hsk]
    decide
end RG
end
