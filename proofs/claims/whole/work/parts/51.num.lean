section
/-! numbers, loops upward -/
theorem gLP.up {α : Type} {F : (α → Prop) → α → Prop} (n : Nat) (I : Nat → α → Prop) (hn : ∀ j x, I j x → j ≤ n)
    (hs : ∀ (j : Nat) (x : α) (P : α → Prop), I j x → (∀ y, I (j + 1) y → P y) → F P x) {j : Nat} {x : α} (h : I j x) : gLP F x := by
  intro P hP
  have key : ∀ (d j : Nat) (y : α), n + 1 - j = d → I j y → P y := by
    intro d
    induction d with
    | zero => intro j y hd hI; have := hn j y hI; omega
    | succ d ih => intro j y hd hI; exact hP y (hs j y P hI (fun z hz => ih (j + 1) z (by omega) hz))
  exact key _ j x rfl h
theorem lgc_lt {x y : Int64} : lg_cmp x y < 0 ↔ x < y := by
  unfold lg_cmp
  by_cases h : x > y
  · rw [if_pos h]
    exact ⟨fun e => absurd e (by decide), fun e => absurd (Int64.lt_trans e h) (Int64.lt_irrefl)⟩
  · rw [if_neg h]
    by_cases h2 : x = y
    · rw [if_pos h2, h2]
      exact ⟨fun e => absurd e (by decide), fun e => absurd e (Int64.lt_irrefl)⟩
    · rw [if_neg h2]
      refine ⟨fun _ => ?_, fun _ => by decide⟩
      rcases Int64.lt_or_lt_of_ne h2 with e | e
      · exact e
      · exact absurd e h
theorem lgc_gt {x y : Int64} : 0 < lg_cmp x y ↔ y < x := by
  unfold lg_cmp
  by_cases h : x > y
  · rw [if_pos h]; exact ⟨fun _ => h, fun _ => by decide⟩
  · rw [if_neg h]
    refine ⟨fun e => ?_, fun e => absurd e h⟩
    split at e
    · exact absurd e (by decide)
    · exact absurd e (by decide)
theorem lgc_eq {x y : Int64} : lg_cmp x y = 0 ↔ x = y := by
  unfold lg_cmp
  by_cases h : x > y
  · rw [if_pos h]; exact ⟨fun e => absurd e (by decide), fun e => absurd h (by rw [e]; exact Int64.lt_irrefl)⟩
  · rw [if_neg h]
    by_cases h2 : x = y
    · rw [if_pos h2]; exact ⟨fun _ => h2, fun _ => rfl⟩
    · rw [if_neg h2]; exact ⟨fun e => absurd e (by decide), fun e => absurd e h2⟩
theorem il_lt {x y : Int32} : x.toInt64 < y.toInt64 ↔ x < y := by
  rw [Int64.lt_iff_toInt_lt, Int32.lt_iff_toInt_lt, Int32.toInt_toInt64, Int32.toInt_toInt64]
theorem il_eq {x y : Int32} : x.toInt64 = y.toInt64 ↔ x = y := by
  rw [← Int64.toInt_inj, ← Int32.toInt_inj, Int32.toInt_toInt64, Int32.toInt_toInt64]
theorem i32_add {a b : Int32} (h1 : -2147483648 ≤ a.toInt + b.toInt) (h2 : a.toInt + b.toInt < 2147483648) : (a + b).toInt = a.toInt + b.toInt := by
  rw [Int32.toInt_add]; exact Int.bmod_eq_of_le (by omega) (by omega)
theorem i32_sub {a b : Int32} (h1 : -2147483648 ≤ a.toInt - b.toInt) (h2 : a.toInt - b.toInt < 2147483648) : (a - b).toInt = a.toInt - b.toInt := by
  rw [Int32.toInt_sub]; exact Int.bmod_eq_of_le (by omega) (by omega)
theorem i32_mul {a b : Int32} (h1 : -2147483648 ≤ a.toInt * b.toInt) (h2 : a.toInt * b.toInt < 2147483648) : (a * b).toInt = a.toInt * b.toInt := by
  rw [Int32.toInt_mul]; exact Int.bmod_eq_of_le (by omega) (by omega)
theorem nI_mul (a b : Nat) : nI a * nI b = nI (a * b) := (Int32.ofNat_mul a b).symm
theorem nI_sub {a b : Nat} (h : b ≤ a) : nI a - nI b = nI (a - b) := by
  have e : nI (a - b) + nI b = nI a := by rw [nI_add]; congr 1; omega
  rw [← e, Int32.add_sub_cancel]
/-- a number, or none of those below n -/
theorem inR_or (v : Int32) {n : Nat} (hn : n < 2 ^ 31) : (∃ i : Nat, i < n ∧ v = nI i) ∨ (¬ v < 0 → ¬ v < nI n) := by
  by_cases h0 : v < 0
  · exact Or.inr (fun h => absurd h0 h)
  · obtain ⟨j, hj, rfl⟩ := nI_of h0
    by_cases h1 : j < n
    · exact Or.inl ⟨j, h1, rfl⟩
    · exact Or.inr (fun _ => nI_nlt (by omega) hj)
theorem sR_in {post : Int32 → Prop} {a lo hi : Int64} (h1 : lo ≤ a → a ≤ hi → post 1) (h0 : ¬ (lo ≤ a ∧ a ≤ hi) → post 0) : wpR_in_0 post a lo hi := by
  refine ⟨fun h => h0 (fun e => Int64.not_le.mpr (lgc_lt.mp h) e.1), fun h => ⟨fun g => h0 (fun e => Int64.not_le.mpr (lgc_gt.mp g) e.2), fun g => h1 ?_ ?_⟩⟩
  · exact Int64.not_lt.mp (fun e => h (lgc_lt.mpr e))
  · exact Int64.not_lt.mp (fun e => g (lgc_gt.mpr e))
/-- in(v, lo, hi) for three ints -/
theorem sR_inI {post : Int32 → Prop} {v lo hi : Int32} {l h : Int64} (hl : lo.toInt64 = l) (hh : hi.toInt64 = h) (h1 : ¬ v < lo → v ≤ hi → post 1) (h0 : (¬ v < lo → ¬ v ≤ hi) → post 0) : wpR_in_0 post v.toInt64 l h := by
  subst hl; subst hh
  refine sR_in (fun a b => h1 (fun e => Int64.not_le.mpr (il_lt.mpr e) a) (Int32.not_lt.mp (fun e => Int64.not_le.mpr (il_lt.mpr e) b))) (fun e => h0 (fun a b => e ⟨Int64.not_lt.mp (fun g => a (il_lt.mp g)), Int64.not_lt.mp (fun g => Int32.not_le.mpr (il_lt.mp g) b)⟩))
/-- .. and for the numbers below n -/
theorem sR_inN {post : Int32 → Prop} {v w : Int32} {n : Nat} (hw : w = nI n) (hn : n < 2 ^ 31) (h1 : ∀ i : Nat, i < n → v = nI i → post 1) (h0 : (¬ v < 0 → ¬ v < nI n) → post 0) : wpR_in_0 post v.toInt64 0 (w - 1).toInt64 := by
  subst hw
  have hm : (nI n - 1).toInt = (n : Int) - 1 := by
    rw [i32_sub (by rw [nI_toInt hn, show (1 : Int32).toInt = 1 from rfl]; omega) (by rw [nI_toInt hn, show (1 : Int32).toInt = 1 from rfl]; omega), nI_toInt hn]
    rfl
  refine sR_inI (lo := 0) rfl rfl (fun a b => ?_) (fun e => h0 (fun a b => e a ?_))
  · obtain ⟨j, hj, rfl⟩ := nI_of a
    refine h1 j ?_ rfl
    rw [Int32.le_iff_toInt_le, nI_toInt hj, hm] at b
    omega
  · obtain ⟨j, hj, rfl⟩ := nI_of a
    rw [nI_ltI hj hn] at b
    rw [Int32.le_iff_toInt_le, nI_toInt hj, hm]
    omega
end
