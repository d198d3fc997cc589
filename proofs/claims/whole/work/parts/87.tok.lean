section
/-! rules' texts: words, numbers and signs, in the model -/
section TK
def rnN (p : Nat → Bool) : Nat → Nat → Nat
  | 0, a => a
  | n + 1, a => if p a = true then rnN p n (a + 1) else a
/-- the first place from a on, e at the latest, at which p does not hold -/
def rn (p : Nat → Bool) (e a : Nat) : Nat := rnN p (e - a) a
variable {p : Nat → Bool} {e a : Nat}
theorem rn_st (h : a < e) (hp : p a = true) : rn p e a = rn p e (a + 1) := by
  unfold rn
  obtain ⟨n, hn⟩ : ∃ n, e - a = n + 1 := ⟨e - a - 1, by omega⟩
  rw [hn, show e - (a + 1) = n by omega]
  exact if_pos hp
theorem rn_no (h : a < e → ¬ p a = true) : rn p e a = a := by
  unfold rn
  cases hn : e - a with
  | zero => rfl
  | succ n => exact if_neg (h (by omega))
theorem rnN_ge : ∀ n a : Nat, a ≤ rnN p n a ∧ rnN p n a ≤ a + n
  | 0, a => ⟨Nat.le_refl _, Nat.le_refl _⟩
  | n + 1, a => by
    have ih := rnN_ge n (a + 1)
    show a ≤ (if p a = true then rnN p n (a + 1) else a) ∧ (if p a = true then rnN p n (a + 1) else a) ≤ a + (n + 1)
    split <;> omega
theorem rn_ge : a ≤ rn p e a := (rnN_ge _ _).1
theorem rn_le (h : a ≤ e) : rn p e a ≤ e := by
  have := (rnN_ge (p := p) (e - a) a).2
  unfold rn
  omega
theorem rnN_all : ∀ n a i : Nat, a ≤ i → i < rnN p n a → p i = true
  | 0, a, i, h1, h2 => by have : i < a := h2; omega
  | n + 1, a, i, h1, h2 => by
    have h2' : i < (if p a = true then rnN p n (a + 1) else a) := h2
    split at h2'
    · rename_i hp
      by_cases e : i = a
      · rw [e]; exact hp
      · exact rnN_all n (a + 1) i (by omega) h2'
    · omega
theorem rn_all {i : Nat} (h1 : a ≤ i) (h2 : i < rn p e a) : p i = true := rnN_all _ _ _ h1 h2
/-- a byte as the tape has it -/
def sB (b : Nat) : Int32 := if b < 128 then nI b else nI b - 256
theorem sB_and : ∀ b : Nat, b < 256 → sB b &&& 255 = nI b := by decide +kernel
theorem sB_all : ∀ b : Nat, b < 256 → (sB b < 97 ↔ b < 97 ∨ 128 ≤ b) ∧ (122 < sB b ↔ 122 < b ∧ b < 128) ∧ (sB b < 48 ↔ b < 48 ∨ 128 ≤ b) ∧ (57 < sB b ↔ 57 < b ∧ b < 128) ∧ (sB b = 32 ↔ b = 32) := by decide +kernel
theorem sB_sg : ∀ b : Nat, b < 256 → (sB b = 60 ↔ b = 60) ∧ (sB b = 62 ↔ b = 62) ∧ (sB b = 61 ↔ b = 61) ∧ (sB b = 40 ↔ b = 40) ∧ (sB b = 41 ↔ b = 41) := by decide +kernel
theorem sB_lo {b : Nat} (h : b < 128) : sB b = nI b := if_pos h
def isSp (b : Nat → Nat) (i : Nat) : Bool := decide (b i = 32)
def isLe (b : Nat → Nat) (i : Nat) : Bool := decide (97 ≤ b i ∧ b i ≤ 122)
def isDi (b : Nat → Nat) (i : Nat) : Bool := decide (48 ≤ b i ∧ b i ≤ 57)
theorem isSp_t {b : Nat → Nat} {i : Nat} : isSp b i = true ↔ b i = 32 := decide_eq_true_iff
theorem isLe_t {b : Nat → Nat} {i : Nat} : isLe b i = true ↔ 97 ≤ b i ∧ b i ≤ 122 := decide_eq_true_iff
theorem isDi_t {b : Nat → Nat} {i : Nat} : isDi b i = true ↔ 48 ≤ b i ∧ b i ≤ 57 := decide_eq_true_iff
/-- from f on n bytes spell w -/
def isw (b : Nat → Nat) (f n : Nat) (w : List Int32) : Prop := n = w.length ∧ ∀ k : Nat, k < w.length → nI (b (f + k)) = jAt w (nI k)
noncomputable def kwd (b : Nat → Nat) (f n : Nat) : Nat := by
  classical
  exact if isw b f n (ctb.getD 0 []) then 0 else if isw b f n (ctb.getD 1 []) then 1 else if isw b f n (ctb.getD 2 []) then 2 else if isw b f n (ctb.getD 3 []) then 3 else if isw b f n (ctb.getD 4 []) then 4 else if isw b f n (ctb.getD 5 []) then 5 else if isw b f n (ctb.getD 6 []) then 6 else if isw b f n (ctb.getD 7 []) then 7 else if isw b f n (ctb.getD 8 []) then 8 else 16
theorem words_ne : ∀ i : Nat, i < 9 → ∀ j : Nat, j < 9 → ((ctb.getD i []).length = (ctb.getD j []).length ∧ ∀ k : Nat, k < (ctb.getD i []).length → jAt (ctb.getD i []) (nI k) = jAt (ctb.getD j []) (nI k)) → i = j := by decide +kernel
theorem isw_uniq {b : Nat → Nat} {f n i j : Nat} (hi : i < 9) (hj : j < 9) (h : isw b f n (ctb.getD i [])) (g : isw b f n (ctb.getD j [])) : i = j :=
  words_ne i hi j hj ⟨h.1.symm.trans g.1, fun k hk => (h.2 k hk).symm.trans (g.2 k (by rw [← g.1, h.1]; exact hk))⟩
theorem kwd_y {b : Nat → Nat} {f n i : Nat} (hi : i < 9) (h : isw b f n (ctb.getD i [])) : kwd b f n = i := by
  have u : ∀ j : Nat, j < 9 → isw b f n (ctb.getD j []) → i = j := fun j hj g => isw_uniq hi hj h g
  unfold kwd
  split
  · rename_i g; exact (u 0 (by decide) g).symm
  split
  · rename_i g; exact (u 1 (by decide) g).symm
  split
  · rename_i g; exact (u 2 (by decide) g).symm
  split
  · rename_i g; exact (u 3 (by decide) g).symm
  split
  · rename_i g; exact (u 4 (by decide) g).symm
  split
  · rename_i g; exact (u 5 (by decide) g).symm
  split
  · rename_i g; exact (u 6 (by decide) g).symm
  split
  · rename_i g; exact (u 7 (by decide) g).symm
  split
  · rename_i g; exact (u 8 (by decide) g).symm
  rename_i n0 n1 n2 n3 n4 n5 n6 n7 n8
  rcases (show i = 0 ∨ i = 1 ∨ i = 2 ∨ i = 3 ∨ i = 4 ∨ i = 5 ∨ i = 6 ∨ i = 7 ∨ i = 8 by omega) with rfl | rfl | rfl | rfl | rfl | rfl | rfl | rfl | rfl
  · exact absurd h n0
  · exact absurd h n1
  · exact absurd h n2
  · exact absurd h n3
  · exact absurd h n4
  · exact absurd h n5
  · exact absurd h n6
  · exact absurd h n7
  · exact absurd h n8
theorem kwd_n {b : Nat → Nat} {f n : Nat} (h : ∀ i : Nat, i < 9 → ¬ isw b f n (ctb.getD i [])) : kwd b f n = 16 := by
  unfold kwd
  rw [if_neg (h 0 (by decide)), if_neg (h 1 (by decide)), if_neg (h 2 (by decide)), if_neg (h 3 (by decide)), if_neg (h 4 (by decide)), if_neg (h 5 (by decide)), if_neg (h 6 (by decide)), if_neg (h 7 (by decide)), if_neg (h 8 (by decide))]
theorem kwd_c {b : Nat → Nat} {f n : Nat} : (kwd b f n < 9 ∧ isw b f n (ctb.getD (kwd b f n) [])) ∨ (kwd b f n = 16 ∧ ∀ i : Nat, i < 9 → ¬ isw b f n (ctb.getD i [])) := by
  by_cases h : ∃ i : Nat, i < 9 ∧ isw b f n (ctb.getD i [])
  · obtain ⟨i, hi, h⟩ := h
    rw [kwd_y hi h]
    exact Or.inl ⟨hi, h⟩
  · have h' : ∀ i : Nat, i < 9 → ¬ isw b f n (ctb.getD i []) := fun i hi g => h ⟨i, hi, g⟩
    exact Or.inr ⟨kwd_n h', h'⟩
/-- the first n digits' number -/
def dvN (b : Nat → Nat) (f : Nat) : Nat → Nat
  | 0 => 0
  | n + 1 => if n < 6 then dvN b f n * 10 + (b (f + n) - 48) else dvN b f n
theorem dvN_le {b : Nat → Nat} {f : Nat} : ∀ n : Nat, (∀ k : Nat, k < n → b (f + k) ≤ 57) → dvN b f n < 10 ^ (min n 6)
  | 0, _ => by show 0 < 10 ^ (min 0 6); decide
  | n + 1, h => by
    have ih := dvN_le n (fun k hk => h k (by omega))
    have hb := h n (by omega)
    show (if n < 6 then dvN b f n * 10 + (b (f + n) - 48) else dvN b f n) < _
    by_cases e : n < 6
    · rw [if_pos e, show min (n + 1) 6 = n + 1 by omega]
      rw [show min n 6 = n by omega] at ih
      have : (10 : Nat) ^ (n + 1) = 10 ^ n * 10 := Nat.pow_succ 10 n
      omega
    · rw [if_neg e, show min (n + 1) 6 = min n 6 by omega]
      exact ih
def sgk (c : Nat) : Nat := if c = 60 then 9 else if c = 62 then 10 else if c = 61 then 11 else if c = 40 then 12 else if c = 41 then 13 else 16
/-- a word, number or sign: where it begins, where it ends, its kind, its number -/
abbrev Tk : Type := Nat × Nat × Nat × Nat
noncomputable def tok (b : Nat → Nat) (e a : Nat) : Tk :=
  if e ≤ rn (isSp b) e a then (rn (isSp b) e a, rn (isSp b) e a, 15, 0)
  else if isLe b (rn (isSp b) e a) = true then (rn (isSp b) e a, rn (isLe b) e (rn (isSp b) e a), kwd b (rn (isSp b) e a) (rn (isLe b) e (rn (isSp b) e a) - rn (isSp b) e a), 0)
  else if isDi b (rn (isSp b) e a) = true then (rn (isSp b) e a, rn (isDi b) e (rn (isSp b) e a), (if rn (isDi b) e (rn (isSp b) e a) - rn (isSp b) e a ≤ 6 then 14 else 16), dvN b (rn (isSp b) e a) (rn (isDi b) e (rn (isSp b) e a) - rn (isSp b) e a))
  else (rn (isSp b) e a, rn (isSp b) e a + 1, sgk (b (rn (isSp b) e a)), 0)
theorem sgk_c (c : Nat) : sgk c ≤ 16 ∧ 9 ≤ sgk c ∧ sgk c ≠ 14 ∧ sgk c ≠ 15 := by
  unfold sgk
  split
  · decide
  split
  · decide
  split
  · decide
  split
  · decide
  split
  · decide
  · decide
theorem kwd_le {b : Nat → Nat} {f n : Nat} : kwd b f n ≤ 16 ∧ (kwd b f n ≤ 8 ∨ kwd b f n = 16) := by
  rcases kwd_c (b := b) (f := f) (n := n) with h | h <;> omega
theorem tok_le {b : Nat → Nat} {e a : Nat} (h : a ≤ e) : a ≤ (tok b e a).1 ∧ (tok b e a).1 ≤ (tok b e a).2.1 ∧ (tok b e a).2.1 ≤ e ∧ (tok b e a).2.2.1 ≤ 16 ∧ ((tok b e a).2.2.1 ≠ 15 → (tok b e a).1 < (tok b e a).2.1) ∧ ((tok b e a).2.2.1 = 15 → (tok b e a).1 = e) := by
  have h1 : a ≤ rn (isSp b) e a := rn_ge
  have h2 : rn (isSp b) e a ≤ e := rn_le h
  unfold tok
  split
  · exact ⟨h1, Nat.le_refl _, h2, by show 15 ≤ 16; decide, fun e => absurd rfl e, fun _ => by dsimp only; omega⟩
  · rename_i hlt
    have h3 : rn (isLe b) e (rn (isSp b) e a) ≤ e := rn_le h2
    have h4 : rn (isDi b) e (rn (isSp b) e a) ≤ e := rn_le h2
    split
    · rename_i hl
      have h5 : rn (isSp b) e a + 1 ≤ rn (isLe b) e (rn (isSp b) e a) := by rw [rn_st (by omega) hl]; exact rn_ge
      have hk := kwd_le (b := b) (f := rn (isSp b) e a) (n := rn (isLe b) e (rn (isSp b) e a) - rn (isSp b) e a)
      exact ⟨h1, by dsimp only; omega, h3, hk.1, fun _ => by dsimp only; omega, fun ek => by dsimp only at ek; omega⟩
    split
    · rename_i hd
      have h5 : rn (isSp b) e a + 1 ≤ rn (isDi b) e (rn (isSp b) e a) := by rw [rn_st (by omega) hd]; exact rn_ge
      refine ⟨h1, by dsimp only; omega, h4, by dsimp only; split <;> decide, fun _ => by dsimp only; omega, fun ek => ?_⟩
      dsimp only at ek
      split at ek <;> exact absurd ek (by decide)
    · have := sgk_c (b (rn (isSp b) e a))
      exact ⟨h1, by dsimp only; omega, by dsimp only; omega, this.1, fun _ => by dsimp only; omega, fun ek => by dsimp only at ek; omega⟩
theorem tok_nb {b : Nat → Nat} {e a : Nat} : (tok b e a).2.2.1 = 14 → (tok b e a).2.2.2 < 1000000 := by
  unfold tok
  split
  · intro h; exact absurd h (by dsimp only; decide)
  split
  · intro h
    have hk := kwd_le (b := b) (f := rn (isSp b) e a) (n := rn (isLe b) e (rn (isSp b) e a) - rn (isSp b) e a)
    dsimp only at h
    omega
  split
  · intro h
    dsimp only at h ⊢
    have hd := dvN_le (b := b) (f := rn (isSp b) e a) (rn (isDi b) e (rn (isSp b) e a) - rn (isSp b) e a) (fun k hk => by
      have := rn_all (p := isDi b) (e := e) (a := rn (isSp b) e a) (i := rn (isSp b) e a + k) (by omega) (by omega)
      rw [isDi_t] at this
      exact this.2)
    have : (10 : Nat) ^ (min (rn (isDi b) e (rn (isSp b) e a) - rn (isSp b) e a) 6) ≤ 10 ^ 6 := Nat.pow_le_pow_right (by decide) (by omega)
    omega
  · intro h
    have := sgk_c (b (rn (isSp b) e a))
    dsimp only at h
    omega
end TK
end
