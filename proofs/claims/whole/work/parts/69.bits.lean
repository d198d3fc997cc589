section
/-! ints and longs by their bits (the first rows out of kit/laws/BITS.to-paste) -/
def bt (x : Int32) (i : Nat) : Bool := x.toBitVec.getLsbD i
theorem b_ext {x y : Int32} (h : ∀ i, i < 32 → bt x i = bt y i) : x = y := Int32.toBitVec_inj.mp (BitVec.eq_of_getLsbD_eq (fun i hi => h i hi))
theorem b_or (x y : Int32) (i : Nat) : bt (x ||| y) i = (bt x i || bt y i) := by unfold bt; rw [Int32.toBitVec_or, BitVec.getLsbD_or]
theorem b_and (x y : Int32) (i : Nat) : bt (x &&& y) i = (bt x i && bt y i) := by unfold bt; rw [Int32.toBitVec_and, BitVec.getLsbD_and]
theorem b_xor (x y : Int32) (i : Nat) : bt (x ^^^ y) i = (bt x i ^^ bt y i) := by unfold bt; rw [Int32.toBitVec_xor, BitVec.getLsbD_xor]
theorem b_big {x : Int32} {i : Nat} (h : 32 ≤ i) : bt x i = false := BitVec.getLsbD_of_ge _ _ h
theorem b_m1 : ∀ i, i < 32 → bt (-1) i = true := by decide +kernel
theorem b_0 (i : Nat) : bt 0 i = false := BitVec.getLsbD_zero
theorem s_l : ∀ n, n < 32 → ((nI n &&& 31).toBitVec.smod 32).toNat = n := by decide +kernel
theorem b_shl (n : Nat) (hn : n < 32) (x : Int32) {i : Nat} (hi : i < 32) : bt (x <<< (nI n &&& 31)) i = (decide (n ≤ i) && bt x (i - n)) := by
  unfold bt
  rw [Int32.toBitVec_shiftLeft]
  show (x.toBitVec <<< ((nI n &&& 31).toBitVec.smod 32).toNat).getLsbD i = _
  rw [s_l n hn, BitVec.getLsbD_shiftLeft]
  rcases Nat.lt_or_ge i n with h | h
  · simp [h, Nat.not_le.mpr h]
  · simp [hi, h, Nat.not_lt.mpr h]
theorem b_sshr (n : Nat) (hn : n < 32) (x : Int32) {i : Nat} (hi : i < 32) : bt (x >>> (nI n &&& 31)) i = if n + i < 32 then bt x (n + i) else bt x 31 := by
  unfold bt
  rw [Int32.toBitVec_shiftRight]
  show (x.toBitVec.sshiftRight ((nI n &&& 31).toBitVec.smod 32).toNat).getLsbD i = _
  rw [s_l n hn, BitVec.getLsbD_sshiftRight, BitVec.msb_eq_getLsbD_last]
  simp [hi]
theorem b_1 : ∀ i : Nat, i < 32 → bt 1 i = decide (i = 0) := by decide +kernel
theorem bt_nI (n : Nat) {i : Nat} (hi : i < 32) : bt (nI n) i = n.testBit i := by
  show (BitVec.ofNat 32 n).getLsbD i = _
  rw [BitVec.getLsbD_ofNat]
  simp [hi]
/-- has x the bit k -/
theorem hb_1 {x : Int32} {k : Nat} (hk : k < 32) : ((x >>> (nI k &&& 31)) &&& 1) = 1 ↔ bt x k = true := by
  constructor
  · intro h
    have := congrArg (fun y => bt y 0) h
    rw [b_and, b_sshr k hk x (by decide), if_pos (by omega), b_1 0 (by decide)] at this
    simpa using this
  · intro h
    apply b_ext
    intro i hi
    rw [b_and, b_1 i hi, b_sshr k hk x hi]
    by_cases e : i = 0
    · subst e; rw [if_pos (by omega)]; simp [h]
    · simp [e]
theorem hb_0 {x : Int32} {k : Nat} (hk : k < 32) : ((x >>> (nI k &&& 31)) &&& 1) = 0 ↔ bt x k = false := by
  constructor
  · intro h
    have := congrArg (fun y => bt y 0) h
    rw [b_and, b_sshr k hk x (by decide), if_pos (by omega), b_1 0 (by decide), b_0] at this
    simpa using this
  · intro h
    apply b_ext
    intro i hi
    rw [b_and, b_1 i hi, b_sshr k hk x hi, b_0]
    by_cases e : i = 0
    · subst e; rw [if_pos (by omega)]; simp [h]
    · simp [e]
/-- the bit k is put to x -/
theorem b_set {x : Int32} {k i : Nat} (hk : k < 32) (hi : i < 32) : bt (x ||| (1 <<< (nI k &&& 31))) i = (bt x i || decide (i = k)) := by
  rw [b_or, b_shl k hk 1 hi]
  by_cases h : k ≤ i
  · rw [b_1 (i - k) (by omega)]
    simp [h]
    by_cases e : i = k
    · simp [e]
    · simp [e, show ¬ i - k = 0 by omega]
  · simp [h, show ¬ i = k by omega]
theorem b_sub {x y : Int32} : (x &&& (y ^^^ (-1))) = 0 ↔ ∀ i : Nat, i < 32 → bt x i = true → bt y i = true := by
  constructor
  · intro h i hi hx
    have := congrArg (fun y => bt y i) h
    rw [b_and, b_xor, b_m1 i hi, b_0, hx] at this
    simpa using this
  · intro h
    apply b_ext
    intro i hi
    rw [b_and, b_xor, b_m1 i hi, b_0]
    by_cases e : bt x i = true
    · simp [e, h i hi e]
    · simp [show bt x i = false by simpa using e]
theorem b_all : ∀ n : Nat, n < 11 → ∀ i : Nat, i < 32 → bt ((1 <<< (nI n &&& 31)) - 1) i = decide (i < n) := by decide +kernel
/-! longs -/
def tb (x : Int64) (i : Nat) : Bool := x.toBitVec.getLsbD i
theorem t_ext {x y : Int64} (h : ∀ i, i < 64 → tb x i = tb y i) : x = y := Int64.toBitVec_inj.mp (BitVec.eq_of_getLsbD_eq (fun i hi => h i hi))
theorem t_or (x y : Int64) (i : Nat) : tb (x ||| y) i = (tb x i || tb y i) := by unfold tb; rw [Int64.toBitVec_or, BitVec.getLsbD_or]
theorem t_and (x y : Int64) (i : Nat) : tb (x &&& y) i = (tb x i && tb y i) := by unfold tb; rw [Int64.toBitVec_and, BitVec.getLsbD_and]
theorem t_xor (x y : Int64) (i : Nat) : tb (x ^^^ y) i = (tb x i ^^ tb y i) := by unfold tb; rw [Int64.toBitVec_xor, BitVec.getLsbD_xor]
theorem t_0 (i : Nat) : tb 0 i = false := BitVec.getLsbD_zero
theorem t_1 : ∀ i : Nat, i < 64 → tb 1 i = decide (i = 0) := by decide +kernel
theorem t_i0 : ∀ i : Nat, i < 64 → tb ((0 : Int32).toInt64) i = false := by decide +kernel
theorem t_i1 : ∀ i : Nat, i < 64 → tb ((1 : Int32).toInt64) i = decide (i = 0) := by decide +kernel
theorem t_big {x : Int64} {i : Nat} (h : 64 ≤ i) : tb x i = false := BitVec.getLsbD_of_ge _ _ h
theorem t_shl1 (x : Int64) {i : Nat} (hi : i < 64) : tb (x <<< ((1 : Int32).toInt64 &&& 63)) i = (decide (1 ≤ i) && tb x (i - 1)) := by
  unfold tb
  rw [Int64.toBitVec_shiftLeft]
  show (x.toBitVec <<< (((1 : Int32).toInt64 &&& 63).toBitVec.smod 64).toNat).getLsbD i = _
  rw [show (((1 : Int32).toInt64 &&& 63).toBitVec.smod 64).toNat = 1 by decide, BitVec.getLsbD_shiftLeft]
  rcases Nat.lt_or_ge i 1 with h | h
  · simp [h, Nat.not_le.mpr h]
  · simp [hi, h, Nat.not_lt.mpr h]
theorem t_shr1 (x : Int64) {i : Nat} (hi : i < 64) : tb (x >>> ((1 : Int32).toInt64 &&& 63)) i = if 1 + i < 64 then tb x (1 + i) else tb x 63 := by
  unfold tb
  rw [Int64.toBitVec_shiftRight]
  show (x.toBitVec.sshiftRight (((1 : Int32).toInt64 &&& 63).toBitVec.smod 64).toNat).getLsbD i = _
  rw [show (((1 : Int32).toInt64 &&& 63).toBitVec.smod 64).toNat = 1 by decide, BitVec.getLsbD_sshiftRight, BitVec.msb_eq_getLsbD_last]
  simp [hi]
theorem t_shr2 (x : Int64) {i : Nat} (hi : i < 64) : tb (x >>> ((2 : Int32).toInt64 &&& 63)) i = if 2 + i < 64 then tb x (2 + i) else tb x 63 := by
  unfold tb
  rw [Int64.toBitVec_shiftRight]
  show (x.toBitVec.sshiftRight (((2 : Int32).toInt64 &&& 63).toBitVec.smod 64).toNat).getLsbD i = _
  rw [show (((2 : Int32).toInt64 &&& 63).toBitVec.smod 64).toNat = 2 by decide, BitVec.getLsbD_sshiftRight, BitVec.msb_eq_getLsbD_last]
  simp [hi]
theorem t_odd {x : Int64} : (x &&& 1) = 1 ↔ tb x 0 = true := by
  constructor
  · intro h
    have := congrArg (fun y => tb y 0) h
    rw [t_and, t_1 0 (by decide)] at this
    simpa using this
  · intro h
    apply t_ext
    intro i hi
    rw [t_and, t_1 i hi]
    by_cases e : i = 0
    · subst e; simp [h]
    · simp [e]
/-! a pile of bits, its top first, and a long that holds it -/
def pS (v : Int64) (S : List Bool) : Prop := S.length ≤ 60 ∧ ∀ i : Nat, i < 64 → tb v i = S.getD i false
theorem getD_big {S : List Bool} {i : Nat} (h : S.length ≤ i) : S.getD i false = false := by
  rw [List.getD_eq_getElem?_getD, List.getElem?_eq_none h]; rfl
theorem pS_0 : pS 0 [] := ⟨by decide, fun i _ => by rw [t_0]; rfl⟩
theorem pS_push {v : Int64} {S : List Bool} {b : Bool} {w : Int32} (h : pS v S) (hl : S.length < 60) (hw : w = if b then 1 else 0) : pS ((v <<< ((1 : Int32).toInt64 &&& 63)) ||| w.toInt64) (b :: S) := by
  refine ⟨by simp; omega, fun i hi => ?_⟩
  rw [t_or, t_shl1 v hi]
  have hw2 : tb w.toInt64 i = (b && decide (i = 0)) := by
    subst hw
    cases b
    · simpa using t_i0 i hi
    · simpa using t_i1 i hi
  rw [hw2]
  cases i with
  | zero => simp
  | succ i => simp [h.2 i (by omega)]
theorem pS_not {v : Int64} {S : List Bool} {b : Bool} (h : pS v (b :: S)) : pS (v ^^^ 1) ((!b) :: S) := by
  refine ⟨by have := h.1; simpa using this, fun i hi => ?_⟩
  rw [t_xor, t_1 i hi, h.2 i hi]
  cases i with
  | zero => simp
  | succ i => simp
theorem pS_two {v : Int64} {S : List Bool} {a b c : Bool} {y : Int64} (h : pS v (a :: b :: S)) (hy : ∀ i : Nat, i < 64 → tb y i = (c && decide (i = 0))) : pS (((v >>> ((2 : Int32).toInt64 &&& 63)) <<< ((1 : Int32).toInt64 &&& 63)) ||| y) (c :: S) := by
  have hl := h.1
  simp at hl
  refine ⟨by simp; omega, fun i hi => ?_⟩
  rw [t_or, t_shl1 _ hi, hy i hi]
  cases i with
  | zero => simp
  | succ i =>
    rw [show i + 1 - 1 = i from rfl, t_shr2 v (by omega)]
    have e : tb v (2 + i) = S.getD i false := by
      by_cases g : 2 + i < 64
      · rw [h.2 (2 + i) g, show 2 + i = i + 1 + 1 by omega]; simp
      · rw [t_big (by omega), getD_big (by omega)]
    by_cases g : 2 + i < 64
    · simp [g, e]
    · have e63 : tb v 63 = false := by rw [h.2 63 (by omega)]; exact getD_big (by simp; omega)
      have eS : S.getD i false = false := getD_big (by omega)
      rw [if_neg g, e63, show ((c :: S).getD (i + 1) false) = S.getD i false by simp, eS]
      simp
theorem pS_bits {v : Int64} {S : List Bool} {a b : Bool} (h : pS v (a :: b :: S)) {i : Nat} (hi : i < 64) : tb (v &&& 1) i = (a && decide (i = 0)) ∧ tb ((v >>> ((1 : Int32).toInt64 &&& 63)) &&& 1) i = (b && decide (i = 0)) := by
  rw [t_and, t_and, t_1 i hi, t_shr1 v hi]
  by_cases e : i = 0
  · subst e
    rw [if_pos (by omega), h.2 0 (by omega), h.2 1 (by omega)]
    simp
  · simp [e]
theorem pS_and {v : Int64} {S : List Bool} {a b : Bool} (h : pS v (a :: b :: S)) : pS (((v >>> ((2 : Int32).toInt64 &&& 63)) <<< ((1 : Int32).toInt64 &&& 63)) ||| (((v >>> ((1 : Int32).toInt64 &&& 63)) &&& 1) &&& (v &&& 1))) ((b && a) :: S) := by
  refine pS_two h (fun i hi => ?_)
  rw [t_and, (pS_bits h hi).1, (pS_bits h hi).2]
  cases a <;> cases b <;> simp
theorem t_or3 (x y z : Int64) : (x ||| y) ||| z = x ||| (y ||| z) := by
  apply t_ext
  intro i _
  rw [t_or, t_or, t_or, t_or, Bool.or_assoc]
theorem pS_or {v : Int64} {S : List Bool} {a b : Bool} (h : pS v (a :: b :: S)) : pS ((((v >>> ((2 : Int32).toInt64 &&& 63)) <<< ((1 : Int32).toInt64 &&& 63)) ||| ((v >>> ((1 : Int32).toInt64 &&& 63)) &&& 1)) ||| (v &&& 1)) ((b || a) :: S) := by
  rw [t_or3]
  refine pS_two h (fun i hi => ?_)
  rw [t_or, (pS_bits h hi).1, (pS_bits h hi).2]
  cases a <;> cases b <;> simp
end
