section
/-! what a rule says: the model, the class -/
theorem nI_shr {n k : Nat} (hn : n < 2 ^ 31) (hk : k < 31) : nI n >>> (nI k &&& 31) = nI (n / 2 ^ k) := by
  apply b_ext
  intro i hi
  rw [b_sshr k (by omega) _ hi, bt_nI _ hi, Nat.testBit_div_two_pow]
  by_cases h : k + i < 32
  · rw [if_pos h, bt_nI _ h, Nat.add_comm]
  · rw [if_neg h, bt_nI _ (by decide), Nat.testBit_lt_two_pow (Nat.lt_of_lt_of_le hn (by decide)), Nat.testBit_lt_two_pow (Nat.lt_of_lt_of_le hn (Nat.pow_le_pow_right (by decide) (by omega)))]
theorem nI_and (a b : Nat) : nI a &&& nI b = nI (a &&& b) := by
  apply b_ext
  intro i hi
  rw [b_and, bt_nI _ hi, bt_nI _ hi, bt_nI _ hi, Nat.testBit_and]
theorem nI_mask {n k : Nat} {m : Int32} (hm : m = nI (2 ^ k - 1)) : nI n &&& m = nI (n % 2 ^ k) := by
  rw [hm, nI_and, Nat.and_two_pow_sub_one_eq_mod]
theorem nI_div {a b : Nat} (ha : a < 2 ^ 31) (hb : b < 2 ^ 31) : nI a / nI b = nI (a / b) := by
  apply i32_of
  have h1 : a / b ≤ a := Nat.div_le_self a b
  rw [Int32.toInt_div, nI_toInt ha, nI_toInt hb, nI_toInt (by omega)]
  rw [show ((a : Int).tdiv (b : Int)) = ((a / b : Nat) : Int) from rfl]
  generalize a / b = q at h1 ⊢
  exact Int.bmod_eq_of_le (by omega) (by omega)
def cmpN (v how n : Nat) : Bool := if how = 0 then decide (v < n) else if how = 1 then decide (n < v) else decide (v = n)
def mLd (μ : MSt) (s : Nat) : Nat → Nat
  | 0 => mDep μ (μ.2.1 8 (6 * s + 4))
  | k + 1 => min (mLd μ s k) (mDep μ (μ.2.1 8 (6 * s + 4) + (k + 1)))
def mMw (μ : MSt) (s : Nat) : Nat → Nat
  | 0 => 0
  | k + 1 => max (mMw μ s k) (μ.2.1 10 (4 * (μ.2.1 8 (6 * s + 4) + k) + 3))
def mMeas (μ : MSt) (s what : Nat) : Nat := if what = 0 then mLd μ s (μ.2.1 8 (6 * s + 5) - 1) / 100 else if what = 1 then μ.1 27 else if what = 2 then μ.1 28 / 60 else mMw μ s (μ.2.1 8 (6 * s + 5)) / 100
def mTst (μ : MSt) (op : Nat → Bool) (s c n : Nat) : Bool := if c = 12 then op n else if c = 13 then mRun μ n else cmpN (mMeas μ s (c / 3)) (c % 3) n
def plN : List Bool → List Bool
  | b :: S => (!b) :: S
  | [] => []
def plA : List Bool → List Bool
  | a :: b :: S => (b && a) :: S
  | S => S
def plO : List Bool → List Bool
  | a :: b :: S => (b || a) :: S
  | S => S
/-- the pile after k steps -/
def evS (c : Nat → Nat) (t : Nat → Bool) : Nat → List Bool
  | 0 => []
  | k + 1 => if c k = 14 then plN (evS c t k) else if c k = 15 then plA (evS c t k) else if c k = 16 then plO (evS c t k) else t k :: evS c t k
theorem evS_len {c n : Nat → Nat} {t : Nat → Bool} {len nS nL : Nat} (h : wfN c n len nS nL) : ∀ k : Nat, k ≤ len → (evS c t k).length = depN c k
  | 0, _ => rfl
  | k + 1, hk => by
    have ih := evS_len h (t := t) k (by omega)
    obtain ⟨-, -, -, -, h14, h15⟩ := h.2.2.2 k (by omega)
    show (if c k = 14 then plN (evS c t k) else if c k = 15 then plA (evS c t k) else if c k = 16 then plO (evS c t k) else t k :: evS c t k).length = if c k = 14 then depN c k else if c k = 15 ∨ c k = 16 then depN c k - 1 else depN c k + 1
    by_cases e14 : c k = 14
    · rw [if_pos e14, if_pos e14, ← ih]
      cases evS c t k <;> rfl
    · rw [if_neg e14, if_neg e14]
      by_cases e15 : c k = 15
      · rw [if_pos e15, if_pos (Or.inl e15)]
        have := h15 (Or.inl e15)
        rw [← ih] at this ⊢
        match hS : evS c t k, this with
        | a :: b :: S, _ => rfl
      · rw [if_neg e15]
        by_cases e16 : c k = 16
        · rw [if_pos e16, if_pos (Or.inr e16)]
          have := h15 (Or.inr e16)
          rw [← ih] at this ⊢
          match hS : evS c t k, this with
          | a :: b :: S, _ => rfl
        · rw [if_neg e16, if_neg (fun e => e.elim e15 e16), ← ih]
          rfl
abbrev mC (μ : MSt) (s k : Nat) : Nat := μ.2.1 15 (400 * s + k)
abbrev mN (μ : MSt) (s k : Nat) : Nat := μ.2.1 16 (400 * s + k)
def mEv (μ : MSt) (op : Nat → Bool) (s k : Nat) : List Bool := evS (mC μ s) (fun k => mTst μ op s (mC μ s k) (mN μ s k)) k
def mHold (μ : MSt) (op : Nat → Bool) (s : Nat) : Bool := (mEv μ op s (μ.2.1 17 s)).getD 0 false
theorem cw_facts {c n : Nat} (hc : c ≤ 16) (hn : n < 1000000) : cw c n < 2 ^ 31 ∧ cw c n / 2 ^ 24 = (if c < 12 then c / 3 else c - 8) ∧ cw c n % 2 ^ 20 = n ∧ (c < 12 → cw c n / 2 ^ 20 % 2 ^ 4 = 9 + c % 3) := by
  unfold cw
  by_cases h : c < 12
  · rw [if_pos h, if_pos h]
    omega
  · rw [if_neg h, if_neg h]
    omega
section CR
variable {σ : CSt} {lab : Nat → Nat} {ad : Nat → Nat → Nat} {μ : MSt} {j : Nat}
theorem bl_post {post : Int32 → CSt → Prop} {b : Bool} (hp : post (if b then 1 else 0) σ) : (b = true → post 1 σ) ∧ (b = false → post 0 σ) := by
  constructor
  · rintro rfl; exact hp
  · rintro rfl; exact hp
theorem sC_cmp {post : Int32 → CSt → Prop} {v c n : Nat} (hc : c < 12) (hn : n < 1000000) (hv : v < 2 ^ 31) (hp : post (if cmpN v (c % 3) n then 1 else 0) σ) : wpC_X7_compares_0 post σ (nI v) (nI (cw c n)) (nI n) := by
  obtain ⟨f1, f2, f3, f4⟩ := cw_facts (c := c) (by omega) hn
  have e : ((nI (cw c n)) >>> ((20 : Int32) &&& 31)) &&& 15 = nI (9 + c % 3) := by
    rw [show (20 : Int32) = nI 20 from rfl, nI_shr f1 (by decide), nI_mask (k := 4) (m := 15) rfl, f4 hc]
  have hb := bl_post hp
  unfold cmpN at hb
  unfold wpC_X7_compares_0
  rw [e, show (9 : Int32) = nI 9 from rfl, show (10 : Int32) = nI 10 from rfl, nI_eq (by omega) (by omega), nI_eq (by omega) (by omega), nI_eq (by omega) (by omega), nI_leI (by omega) (by omega), nI_leI (by omega) (by omega)]
  refine ⟨fun a => ⟨fun b => ⟨fun g => hb.2 ?_, fun g => hb.1 ?_⟩, fun b => ⟨fun g => hb.2 ?_, fun g => hb.1 ?_⟩⟩, fun a => ⟨fun g => hb.2 ?_, fun g => hb.1 ?_⟩⟩
  · rw [if_neg (by omega), if_neg (by omega)]; simpa using g
  · rw [if_neg (by omega), if_neg (by omega)]; simpa using g
  · rw [if_neg (by omega), if_pos (by omega)]; simpa using g
  · rw [if_neg (by omega), if_pos (by omega)]; simp; omega
  · rw [if_pos (by omega)]; simpa using g
  · rw [if_pos (by omega)]; simp; omega
theorem sC_least {post : Int32 → CSt → Prop} {s : Nat} (h : CRep σ lab ad μ) (hI : MI μ j) (hj : j ≤ 512) (hs : s < μ.1 9) (hp : post (nI (mLd μ s (μ.2.1 8 (6 * s + 5) - 1))) σ) : wpC_X6_leastDepth_0 post σ (ad 6 s) := by
  have hl := h.sl hs
  have hk := h.sc hs
  have hb := hI.sl s hs
  have hc := hI.cs
  unfold cSc at hk
  refine ⟨hl.1.1, _, hl.2.1, hk.1, sC_isEmpty hk ?_⟩
  rw [if_neg (by omega)]
  refine ⟨fun _ => ⟨hl.1.1, _, hl.2.1, hk.1, sC_get (i := 0) hk (by omega) ⟨_, rfl, (h.ce (by omega)).1.1, (h.ce (by omega)).1.1, sC_depth h (by omega) ?_⟩⟩, fun e => absurd rfl e⟩
  have hd : ∀ k : Nat, k < μ.2.1 8 (6 * s + 5) → mDep μ (μ.2.1 8 (6 * s + 4) + k) < 2 ^ 31 := fun k hk => by have := mDep_lt hI hj (c := μ.2.1 8 (6 * s + 4) + k) (by omega); omega
  have hm : ∀ k : Nat, k < μ.2.1 8 (6 * s + 5) → mLd μ s k < 2 ^ 31 := by
    intro k
    induction k with
    | zero => intro hk; exact hd 0 hk
    | succ k ih => intro hk; have := ih (by omega); show min _ _ < _; omega
  refine gLP.up (μ.2.1 8 (6 * s + 5) - 1) (fun k (x : CSt × Nat × Int32 × Int32) => k ≤ μ.2.1 8 (6 * s + 5) - 1 ∧ x = (σ, ad 6 s, nI (mLd μ s k), nI (k + 1))) (fun k x h => h.1) ?_ (j := 0) ⟨Nat.zero_le _, rfl⟩
  rintro k x P ⟨hk2, rfl⟩ hP
  refine ⟨hl.1.1, _, hl.2.1, hk.1, sC_size hk ⟨fun e => ?_, fun e => ?_⟩⟩
  · rw [nI_leI (by omega) (by omega)] at e
    obtain rfl : k = μ.2.1 8 (6 * s + 5) - 1 := by omega
    exact hp
  · rw [nI_leI (by omega) (by omega)] at e
    refine ⟨hl.1.1, _, hl.2.1, hk.1, sC_get hk (by omega) ⟨_, rfl, (h.ce (by omega)).1.1, (h.ce (by omega)).1.1, sC_depth h (by omega) ?_⟩⟩
    rintro x11 rfl
    refine hP _ ⟨by omega, ?_⟩
    dsimp only
    have e1 : (if nI (mDep μ (μ.2.1 8 (6 * s + 4) + (k + 1))) < nI (mLd μ s k) then nI (mDep μ (μ.2.1 8 (6 * s + 4) + (k + 1))) else nI (mLd μ s k)) = nI (mLd μ s (k + 1)) := by
      show _ = nI (min _ _)
      by_cases g : mDep μ (μ.2.1 8 (6 * s + 4) + (k + 1)) < mLd μ s k
      · rw [if_pos (nI_lt g (hm k (by omega)))]; congr 1; omega
      · rw [if_neg (nI_nlt (by omega) (hd _ (by omega)))]; congr 1; omega
    rw [e1, nI_1]
theorem sC_most {post : Int32 → CSt → Prop} {s : Nat} (h : CRep σ lab ad μ) (hI : MI μ j) (hj : j ≤ 512) (hs : s < μ.1 9) (hp : post (nI (mMw μ s (μ.2.1 8 (6 * s + 5)))) σ) : wpC_X6_mostWorn_0 post σ (ad 6 s) := by
  have hl := h.sl hs
  have hk := h.sc hs
  have hb := hI.sl s hs
  have hc := hI.cs
  unfold cSc at hk
  have hd : ∀ k : Nat, k < μ.2.1 8 (6 * s + 5) → μ.2.1 10 (4 * (μ.2.1 8 (6 * s + 4) + k) + 3) < 2 ^ 31 := fun k hk => by have := hI.sn (μ.2.1 8 (6 * s + 4) + k) (by omega); omega
  have hm : ∀ k : Nat, k ≤ μ.2.1 8 (6 * s + 5) → mMw μ s k < 2 ^ 31 := by
    intro k
    induction k with
    | zero => intro hk; show 0 < _; omega
    | succ k ih => intro hk; have := ih (by omega); have := hd k (by omega); show max _ _ < _; omega
  refine gLP.up (μ.2.1 8 (6 * s + 5)) (fun k (x : CSt × Nat × Int32 × Int32) => k ≤ μ.2.1 8 (6 * s + 5) ∧ x = (σ, ad 6 s, nI (mMw μ s k), nI k)) (fun k x h => h.1) ?_ (j := 0) ⟨Nat.zero_le _, rfl⟩
  rintro k x P ⟨hk2, rfl⟩ hP
  refine ⟨hl.1.1, _, hl.2.1, hk.1, sC_size hk ⟨fun e => ?_, fun e => ?_⟩⟩
  · rw [nI_leI (by omega) (by omega)] at e
    obtain rfl : k = μ.2.1 8 (6 * s + 5) := by omega
    exact hp
  · rw [nI_leI (by omega) (by omega)] at e
    have hc' : μ.2.1 8 (6 * s + 4) + k < μ.1 14 := by omega
    have hsn := h.sn hc'
    refine ⟨hl.1.1, _, hl.2.1, hk.1, sC_get hk (by omega) ⟨_, rfl, (h.ce hc').1.1, (h.ce hc').1.1, _, (h.ce hc').2.1, hsn.1.1, (vi4 hsn.2.1).2.2.2, ?_⟩⟩
    rw [show (3 : Int32).toNatClampNeg = 3 from rfl, show cV σ (ad 9 (100 + (μ.2.1 8 (6 * s + 4) + k))) 3 = nI (μ.2.1 10 (4 * (μ.2.1 8 (6 * s + 4) + k) + 3)) from hsn.2.2 3 (by decide)]
    rintro x10 rfl
    refine hP _ ⟨by omega, ?_⟩
    dsimp only
    have e1 : (if nI (mMw μ s k) < nI (μ.2.1 10 (4 * (μ.2.1 8 (6 * s + 4) + k) + 3)) then nI (μ.2.1 10 (4 * (μ.2.1 8 (6 * s + 4) + k) + 3)) else nI (mMw μ s k)) = nI (mMw μ s (k + 1)) := by
      show _ = nI (max _ _)
      by_cases g : mMw μ s k < μ.2.1 10 (4 * (μ.2.1 8 (6 * s + 4) + k) + 3)
      · rw [if_pos (nI_lt g (hd k (by omega)))]; congr 1; omega
      · rw [if_neg (nI_nlt (by omega) (hm k (by omega)))]; congr 1; omega
    rw [e1, nI_1]
theorem mLd_lt {s k : Nat} (hI : MI μ j) (hj : j ≤ 512) (hs : s < μ.1 9) (hk : k < μ.2.1 8 (6 * s + 5)) : mLd μ s k ≤ 51200000 := by
  have hb := hI.sl s hs
  induction k with
  | zero => exact mDep_lt hI hj (by omega)
  | succ k ih => have := ih (by omega); show min _ _ ≤ _; omega
theorem mMw_lt {s k : Nat} (hI : MI μ j) (hj : j ≤ 512) (hs : s < μ.1 9) (hk : k ≤ μ.2.1 8 (6 * s + 5)) : mMw μ s k ≤ 51200000 := by
  have hb := hI.sl s hs
  induction k with
  | zero => exact Nat.zero_le _
  | succ k ih => have := ih (by omega); have := hI.sn (μ.2.1 8 (6 * s + 4) + k) (by omega); show max _ _ ≤ _; omega
theorem mRun_post {post : Int32 → CSt → Prop} {b : Bool} (hp : post (if b then 1 else 0) σ) : ((if b then (1 : Int32) else 0) = 0 → post 0 σ) ∧ (¬ (if b then (1 : Int32) else 0) = 0 → post 1 σ) := by
  cases b
  · exact ⟨fun _ => hp, fun e => absurd rfl e⟩
  · exact ⟨fun e => absurd e (by decide), fun _ => hp⟩
theorem sC_passes {post : Int32 → CSt → Prop} {s c n : Nat} {op : Nat → Bool} {ob : Int32} (h : CRep σ lab ad μ) (hI : MI μ j) (hj : j ≤ 512) (hs : s < μ.1 9) (hc : c < 14) (hn : n < 1000000) (h12 : c = 12 → n < μ.1 9) (h13 : c = 13 → n < μ.1 7) (hop : ∀ i : Nat, i < μ.1 9 → bt ob i = op i) (hp : post (if mTst μ op s c n then 1 else 0) σ) : wpC_X7_passes_0 post σ (ad 7 0) (ad 6 s) (nI (cw c n)) ob := by
  have hcs := hI.cs
  have hl := h.sl hs
  have hb := hI.sl s hs
  have hc0 := hI.c0
  unfold mC0 at hc0
  obtain ⟨f1, f2, f3, f4⟩ := cw_facts (c := c) (by omega) hn
  have eW : (nI (cw c n)) >>> ((24 : Int32) &&& 31) = nI (if c < 12 then c / 3 else c - 8) := by
    rw [show (24 : Int32) = nI 24 from rfl, nI_shr f1 (by decide), f2]
  have eN : (nI (cw c n)) &&& 1048575 = nI n := by rw [nI_mask (k := 20) (m := 1048575) rfl, f3]
  have hcmp : ∀ v : Nat, c < 12 → v = mMeas μ s (c / 3) → v < 2 ^ 31 → wpC_X7_compares_0 (fun r σ => narrow .boolean (.int r) = .int r ∧ post r σ) σ (nI v) (nI (cw c n)) (nI n) := by
    intro v h1 h2 h3
    refine sC_cmp h1 hn h3 ⟨bl_n _, ?_⟩
    have eT : mTst μ op s c n = cmpN v (c % 3) n := by unfold mTst; rw [if_neg (by omega), if_neg (by omega), ← h2]
    rw [eT] at hp
    exact hp
  have h131 : c < 12 → c / 3 = 2 → wpC_X7_passes_131 post σ (ad 7 0) (nI (cw c n)) (nI n) := by
    intro h1 h2
    refine ⟨h.x7, ?_⟩
    rw [h.x.2.2.2.2.1, show (60 : Int32) = nI 60 from rfl, nI_div (by omega) (by omega)]
    refine hcmp _ h1 ?_ (by have : μ.1 28 / 60 ≤ μ.1 28 := Nat.div_le_self _ _; omega)
    unfold mMeas
    rw [h2, if_neg (by decide), if_neg (by decide), if_pos rfl]
  unfold wpC_X7_passes_0
  rw [eW, eN, show (0 : Int32) = nI 0 from rfl, show (1 : Int32) = nI 1 from rfl, show (2 : Int32) = nI 2 from rfl, show (3 : Int32) = nI 3 from rfl, show (4 : Int32) = nI 4 from rfl, show (5 : Int32) = nI 5 from rfl]
  have hw : (if c < 12 then c / 3 else c - 8) ≤ 5 := by split <;> omega
  generalize hwe : (if c < 12 then c / 3 else c - 8) = w at hw ⊢
  have hq : ∀ q : Nat, q < 2 ^ 31 → (nI w = nI q ↔ w = q) := fun q h => nI_eq (by omega) h
  rw [hq 0 (by decide), hq 1 (by decide), hq 2 (by decide), hq 3 (by decide), hq 4 (by decide), hq 5 (by decide), nI_toInt (by omega)]
  refine ⟨fun e => ?_, fun e => ?_, fun e => ?_, fun e => ?_, fun e => ?_, fun e => ?_, fun e => by omega⟩
  · have h12' : c < 12 := by split at hwe <;> omega
    rw [if_pos h12'] at hwe
    refine ⟨hl.1.1, sC_least h hI hj hs ?_⟩
    have := mLd_lt hI hj hs (k := μ.2.1 8 (6 * s + 5) - 1) (by omega)
    rw [show (100 : Int32) = nI 100 from rfl, nI_div (by omega) (by omega)]
    refine hcmp _ h12' ?_ (by have : mLd μ s (μ.2.1 8 (6 * s + 5) - 1) / 100 ≤ mLd μ s (μ.2.1 8 (6 * s + 5) - 1) := Nat.div_le_self _ _; omega)
    unfold mMeas
    rw [hwe, e, if_pos rfl]
  · have h12' : c < 12 := by split at hwe <;> omega
    rw [if_pos h12'] at hwe
    refine ⟨h.x7, ?_⟩
    rw [h.x.2.2.2.1]
    refine hcmp _ h12' ?_ (by omega)
    unfold mMeas
    rw [hwe, e, if_neg (by decide), if_pos rfl]
  · have h12' : c < 12 := by split at hwe <;> omega
    rw [if_pos h12'] at hwe
    exact h131 h12' (by omega)
  · have h12' : c < 12 := by split at hwe <;> omega
    rw [if_pos h12'] at hwe
    refine ⟨hl.1.1, sC_most h hI hj hs ?_⟩
    have := mMw_lt hI hj hs (k := μ.2.1 8 (6 * s + 5)) (by omega)
    rw [show (100 : Int32) = nI 100 from rfl, nI_div (by omega) (by omega)]
    refine hcmp _ h12' ?_ (by have : mMw μ s (μ.2.1 8 (6 * s + 5)) / 100 ≤ mMw μ s (μ.2.1 8 (6 * s + 5)) := Nat.div_le_self _ _; omega)
    unfold mMeas
    rw [hwe, e, if_neg (by decide), if_neg (by decide), if_neg (by decide)]
  · have e12 : c = 12 := by split at hwe <;> omega
    have hn' := h12 e12
    have eT : mTst μ op s c n = bt ob n := by unfold mTst; rw [if_pos e12, ← hop n hn']
    rw [eT] at hp
    unfold wpC_X7_hasBit_0
    rw [hb_1 (by omega)]
    refine ⟨fun g => ⟨rfl, ?_⟩, fun g => ⟨rfl, ?_⟩⟩
    · rw [show bt ob n = false by simpa using g] at hp; exact hp
    · rw [g] at hp; exact hp
  · have e13 : c = 13 := by split at hwe <;> omega
    have hn' := h13 e13
    have eT : mTst μ op s c n = mRun μ n := by unfold mTst; rw [if_neg (by omega), if_pos e13]
    rw [eT] at hp
    refine ⟨h.x7, _, h.x.2.1.1, h.ls.1.1, sC_size h.ls.1 ⟨fun g => ?_, fun _ => ⟨h.x7, _, h.x.2.1.1, h.ls.1.1, sC_get h.ls.1 hn' ⟨_, rfl, (h.li hn').1.1, h.x7, sC_run h hI hn' (mRun_post hp)⟩⟩⟩⟩
    rw [nI_leI (by omega) (by omega)] at g
    omega
theorem sC_holds {post : Int32 → CSt → Prop} {s : Nat} {op : Nat → Bool} {ob : Int32} (h : CRep σ lab ad μ) (hI : MI μ j) (hj : j ≤ 512) (hs : s < μ.1 9) (hr : μ.2.1 18 s = 1) (hop : ∀ i : Nat, i < μ.1 9 → bt ob i = op i) (hp : post (if mHold μ op s then 1 else 0) σ) : wpC_X7_holds_0 post σ (ad 7 0) (ad 6 s) ob := by
  have hcs := hI.cs
  have hl := h.sl hs
  have hco := (h.co hs).2 hr
  have hwf : wfN (mC μ s) (mN μ s) (μ.2.1 17 s) (μ.1 9) (μ.1 7) := hI.ru.1 s hs hr
  have hlen := evS_len hwf (t := fun k => mTst μ op s (mC μ s k) (mN μ s k))
  have h400 : μ.2.1 17 s ≤ 400 := hwf.1
  refine gLP.up (μ.2.1 17 s) (fun k (x : CSt × Nat × Nat × Int32 × Int64 × Int32) => k ≤ μ.2.1 17 s ∧ ∃ v : Int64, pS v (mEv μ op s k) ∧ x = (σ, ad 7 0, ad 6 s, ob, v, nI k)) (fun k x h => h.1) ?_ (j := 0) ⟨Nat.zero_le _, 0, pS_0, rfl⟩
  rintro k x P ⟨hk, v, hv, rfl⟩ hP
  dsimp only
  refine ⟨hl.1.1, _, hl.2.2.1, hco.1.1, ?_⟩
  rw [hco.2.1, nI_leI (by omega) (by omega)]
  refine ⟨fun e => ?_, fun e => ⟨hl.1.1, _, hl.2.2.1, hco.1.1, by rw [hco.2.1]; exact vp_in_nI (by omega) (by omega), ?_⟩⟩
  · obtain rfl : k = μ.2.1 17 s := by omega
    rw [lgc_eq, t_odd, hv.2 0 (by decide)]
    unfold mHold at hp
    refine ⟨fun g => ?_, fun g => ?_⟩
    · rw [show (mEv μ op s (μ.2.1 17 s)).getD 0 false = false by simpa using g] at hp; exact hp
    · rw [g] at hp; exact hp
  · have hkk := hwf.2.2.2 k (by omega)
    obtain ⟨c16, nlt, k12, k13, k14, k15⟩ := hkk
    have hl1 := hlen k hk
    have d43 := hwf.2.2.1 k hk
    rw [nI_clamp (by omega), show cV σ (ad 9 (200 + s)) k = nI (cw (mC μ s k) (mN μ s k)) from hco.2.2 k (by omega)]
    obtain ⟨f1, f2, f3, f4⟩ := cw_facts c16 nlt
    have eW : (nI (cw (mC μ s k) (mN μ s k))) >>> ((24 : Int32) &&& 31) = nI (if mC μ s k < 12 then mC μ s k / 3 else mC μ s k - 8) := by
      rw [show (24 : Int32) = nI 24 from rfl, nI_shr f1 (by decide), f2]
    have hstep : mEv μ op s (k + 1) = if mC μ s k = 14 then plN (mEv μ op s k) else if mC μ s k = 15 then plA (mEv μ op s k) else if mC μ s k = 16 then plO (mEv μ op s k) else mTst μ op s (mC μ s k) (mN μ s k) :: mEv μ op s k := rfl
    have hP : ∀ v' : Int64, pS v' (mEv μ op s (k + 1)) → P (σ, ad 7 0, ad 6 s, ob, v', nI k + 1) := fun v' h' => hP _ ⟨by omega, v', h', by rw [nI_1]⟩
    have hS : (mEv μ op s k).length = depN (mC μ s) k := hl1
    rw [eW]
    have hw : (if mC μ s k < 12 then mC μ s k / 3 else mC μ s k - 8) ≤ 8 := by split <;> omega
    generalize hwe : (if mC μ s k < 12 then mC μ s k / 3 else mC μ s k - 8) = w at hw ⊢
    rw [show (6 : Int32) = nI 6 from rfl, show (7 : Int32) = nI 7 from rfl, show (8 : Int32) = nI 8 from rfl, nI_eq (by omega) (by omega), nI_eq (by omega) (by omega), nI_eq (by omega) (by omega)]
    refine ⟨fun e6 => ⟨fun e7 => ⟨fun e8 => ⟨hl.1.1, _, hl.2.2.1, hco.1.1, ?_, h.x7, ?_⟩, fun e8 => ?_⟩, fun e7 => ?_⟩, fun e6 => ?_⟩
    · rw [hco.2.1]; exact vp_in_nI (by omega) (by omega)
    · have hlt : mC μ s k < 14 := by split at hwe <;> omega
      rw [if_neg (by omega), if_neg (by omega), if_neg (by omega)] at hstep
      rw [show cV σ (ad 9 (200 + s)) k = nI (cw (mC μ s k) (mN μ s k)) from hco.2.2 k (by omega)]
      refine sC_passes h hI hj hs hlt nlt k12 k13 hop ?_
      have hpush : ∀ w : Int32, w = (if mTst μ op s (mC μ s k) (mN μ s k) then 1 else 0) → P (σ, ad 7 0, ad 6 s, ob, (v <<< ((1 : Int32).toInt64 &&& 63)) ||| w.toInt64, nI k + 1) := fun w hw => hP _ (by rw [hstep]; exact pS_push hv (by omega) hw)
      cases hT : mTst μ op s (mC μ s k) (mN μ s k) with
      | true => rw [hT] at hpush; exact ⟨fun e => absurd e (by decide), fun _ => hpush 1 rfl⟩
      | false => rw [hT] at hpush; exact ⟨fun _ => hpush 0 rfl, fun e => absurd rfl e⟩
    · rintro x12 rfl
      have e16 : mC μ s k = 16 := by split at hwe <;> omega
      rw [if_neg (by omega), if_neg (by omega), if_pos e16] at hstep
      have := k15 (Or.inr e16)
      refine hP _ ?_
      rw [hstep]
      match hm : mEv μ op s k, hS with
      | a :: b :: S, _ => rw [hm] at hv; exact pS_or hv
      | [a], hx => simp at hx; omega
      | [], hx => simp at hx; omega
    · rintro x13 rfl
      have e15 : mC μ s k = 15 := by split at hwe <;> omega
      rw [if_neg (by omega), if_pos e15] at hstep
      have := k15 (Or.inl e15)
      refine hP _ ?_
      rw [hstep]
      match hm : mEv μ op s k, hS with
      | a :: b :: S, _ => rw [hm] at hv; exact pS_and hv
      | [a], hx => simp at hx; omega
      | [], hx => simp at hx; omega
    · have e14 : mC μ s k = 14 := by split at hwe <;> omega
      rw [if_pos e14] at hstep
      have := k14 e14
      refine hP _ ?_
      rw [hstep]
      match hm : mEv μ op s k, hS with
      | a :: S, _ => rw [hm] at hv; exact pS_not hv
      | [], hx => simp at hx; omega
end CR
end
