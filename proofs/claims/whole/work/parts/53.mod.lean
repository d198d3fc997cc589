section
/-! the model: numbers, rows of numbers, rows of ints (numbered as the reference's fields) -/
abbrev MSt : Type := (Nat → Nat) × (Nat → Nat → Nat) × (Nat → Nat → Int32)
def m1 (μ : MSt) (k v : Nat) : MSt := (va_up μ.1 k v, μ.2)
def m2 (μ : MSt) (k i v : Nat) : MSt := (μ.1, cu2 μ.2.1 k i v, μ.2.2)
def m3 (μ : MSt) (k i : Nat) (v : Int32) : MSt := (μ.1, μ.2.1, cu2 μ.2.2 k i v)
def sumN (f : Nat → Nat) : Nat → Nat
  | 0 => 0
  | n + 1 => sumN f n + f n
def bitsN (c n : Nat → Nat) : Nat → Nat
  | 0 => 0
  | k + 1 => if c k = 12 then bitsN c n k ||| (1 <<< n k) else bitsN c n k
/-- people who wait at a lift -/
def mWait (μ : MSt) (l : Nat) : Nat := sumN (fun k => μ.2.1 21 (7 * μ.2.1 5 (60 * l + k))) (μ.2.1 6 l)
/-- the slopes that a slope's rule names, as bits -/
def mBits (μ : MSt) (s : Nat) : Nat := bitsN (fun k => μ.2.1 15 (400 * s + k)) (fun k => μ.2.1 16 (400 * s + k)) (μ.2.1 17 s)
def mNm (μ : MSt) (s : Nat) : Nat := if μ.2.1 18 s = 1 then mBits μ s else 0
/-- a step of a rule as the class has it -/
def cw (c n : Nat) : Nat := if c < 12 then (c / 3) * 16777216 + (9 + c % 3) * 1048576 + n else (c - 8) * 16777216 + n
def mEp (μ : MSt) (g : Nat) : Nat := if μ.2.1 21 (7 * g + 2) = 2 then μ.2.1 3 (5 * μ.2.1 21 (7 * g + 3) + 1) else μ.2.1 8 (6 * μ.2.1 21 (7 * g + 3) + 1)
section CR
variable (σ : CSt) (lab : Nat → Nat) (ad : Nat → Nat → Nat) (μ : MSt)
def cX : Prop := xO σ lab ad (nI (μ.1 2)) (nI (μ.1 27)) (nI (μ.1 28)) (μ.2.2 19 0) (nI (μ.1 20)) (lN (μ.1 50)) (lN (μ.1 51)) (lN (μ.1 52)) (lN (μ.1 54))
def cLs : Prop := lsO σ lab ad (μ.1 7) (μ.1 9) (μ.1 14) (μ.1 22) (μ.1 26)
def cLi (i : Nat) : Prop := liO σ lab ad i (nI (μ.2.1 3 (5 * i))) (nI (μ.2.1 3 (5 * i + 1))) (nI (μ.2.1 3 (5 * i + 2))) (nI (μ.2.1 3 (5 * i + 3))) (nI (μ.2.1 3 (5 * i + 4))) (nI (mWait μ i)) (nI (μ.2.1 4 i))
def cRo (i : Nat) : Prop := isL σ lab (ad 0 (10 + i)) (10 + i) (μ.2.1 6 i) (fun k => ad 2 (μ.2.1 5 (60 * i + k)))
def cSl (s : Nat) : Prop := slO σ lab ad s (nI (μ.2.1 8 (6 * s))) (nI (μ.2.1 8 (6 * s + 1))) (nI (μ.2.1 8 (6 * s + 2))) (nI (μ.2.1 8 (6 * s + 3))) (nI (μ.2.1 18 s)) (nI (mNm μ s))
def cSc (s : Nat) : Prop := isL σ lab (ad 0 (20 + s)) (20 + s) (μ.2.1 8 (6 * s + 5)) (fun k => ad 1 (μ.2.1 8 (6 * s + 4) + k))
def cCo (s : Nat) : Prop := obj σ lab ad 9 (200 + s) ∧ (μ.2.1 18 s = 1 → arO σ lab ad 9 (200 + s) (μ.2.1 17 s) (fun k => nI (cw (μ.2.1 15 (400 * s + k)) (μ.2.1 16 (400 * s + k)))))
def cCe (c : Nat) : Prop := ceO σ lab ad c (nI (μ.2.1 11 c)) (nI (μ.2.1 12 c)) (μ.2.2 13 c)
def cSn (c : Nat) : Prop := arO σ lab ad 9 (100 + c) 4 (fun k => nI (μ.2.1 10 (4 * c + k)))
def cGr (g : Nat) : Prop := grO σ lab ad g (nI (μ.2.1 21 (7 * g))) (nI (μ.2.1 21 (7 * g + 1))) (nI (μ.2.1 21 (7 * g + 2))) (nI (μ.2.1 21 (7 * g + 3))) (nI (μ.2.1 21 (7 * g + 4))) (nI (μ.2.1 21 (7 * g + 5))) (nI (μ.2.1 21 (7 * g + 6))) (nI (mEp μ g))
def cLk (k : Nat) : Prop := lkO σ lab ad k (μ.2.1 23 k) (μ.2.1 24 k) (nI (μ.2.1 25 k))
def cTp : Prop := arO σ lab ad 8 0 400 (μ.2.2 1)
def CRep : Prop := cX σ lab ad μ ∧ cLs σ lab ad μ ∧ (∀ i : Nat, i < μ.1 7 → cLi σ lab ad μ i) ∧ (∀ i : Nat, i < μ.1 7 → cRo σ lab ad μ i) ∧ (∀ s : Nat, s < μ.1 9 → cSl σ lab ad μ s) ∧ (∀ s : Nat, s < μ.1 9 → cSc σ lab ad μ s) ∧ (∀ s : Nat, s < μ.1 9 → cCo σ lab ad μ s) ∧
  (∀ c : Nat, c < μ.1 14 → cCe σ lab ad μ c) ∧ (∀ c : Nat, c < μ.1 14 → cSn σ lab ad μ c) ∧ (∀ g : Nat, g < μ.1 22 → cGr σ lab ad μ g) ∧ (∀ k : Nat, k < μ.1 26 → cLk σ lab ad μ k) ∧ reO σ lab ad ∧ cTp σ lab ad μ
end CR
section CRA
variable {σ : CSt} {lab : Nat → Nat} {ad : Nat → Nat → Nat} {μ : MSt}
theorem CRep.x (h : CRep σ lab ad μ) : cX σ lab ad μ := h.1
theorem CRep.ls (h : CRep σ lab ad μ) : cLs σ lab ad μ := h.2.1
theorem CRep.li (h : CRep σ lab ad μ) {i : Nat} (hi : i < μ.1 7) : cLi σ lab ad μ i := h.2.2.1 i hi
theorem CRep.ro (h : CRep σ lab ad μ) {i : Nat} (hi : i < μ.1 7) : cRo σ lab ad μ i := h.2.2.2.1 i hi
theorem CRep.sl (h : CRep σ lab ad μ) {i : Nat} (hi : i < μ.1 9) : cSl σ lab ad μ i := h.2.2.2.2.1 i hi
theorem CRep.sc (h : CRep σ lab ad μ) {i : Nat} (hi : i < μ.1 9) : cSc σ lab ad μ i := h.2.2.2.2.2.1 i hi
theorem CRep.co (h : CRep σ lab ad μ) {i : Nat} (hi : i < μ.1 9) : cCo σ lab ad μ i := h.2.2.2.2.2.2.1 i hi
theorem CRep.ce (h : CRep σ lab ad μ) {i : Nat} (hi : i < μ.1 14) : cCe σ lab ad μ i := h.2.2.2.2.2.2.2.1 i hi
theorem CRep.sn (h : CRep σ lab ad μ) {i : Nat} (hi : i < μ.1 14) : cSn σ lab ad μ i := h.2.2.2.2.2.2.2.2.1 i hi
theorem CRep.gr (h : CRep σ lab ad μ) {i : Nat} (hi : i < μ.1 22) : cGr σ lab ad μ i := h.2.2.2.2.2.2.2.2.2.1 i hi
theorem CRep.lk (h : CRep σ lab ad μ) {i : Nat} (hi : i < μ.1 26) : cLk σ lab ad μ i := h.2.2.2.2.2.2.2.2.2.2.1 i hi
theorem CRep.re (h : CRep σ lab ad μ) : reO σ lab ad := h.2.2.2.2.2.2.2.2.2.2.2.1
theorem CRep.tp (h : CRep σ lab ad μ) : cTp σ lab ad μ := h.2.2.2.2.2.2.2.2.2.2.2.2
theorem CRep.x7 (h : CRep σ lab ad μ) : cAt σ 7 (ad 7 0) := h.1.1.1
end CRA
/-- the reference's state stands for the model -/
def sc1 (k : Nat) : Prop := k = 2 ∨ k = 7 ∨ k = 9 ∨ k = 14 ∨ k = 20 ∨ k = 22 ∨ k = 26 ∨ k = 27 ∨ k = 28
def sc2 (k i : Nat) : Prop := k = 3 ∨ k = 4 ∨ k = 5 ∨ k = 6 ∨ k = 8 ∨ k = 10 ∨ k = 11 ∨ k = 12 ∨ k = 18 ∨ k = 21 ∨ k = 23 ∨ k = 24 ∨ k = 25 ∨ (k = 15 ∧ i < 4000) ∨ (k = 16 ∧ i < 4000) ∨ (k = 17 ∧ i < 10)
def RR (ρ : RSt) (μ : MSt) : Prop := (∀ k : Nat, sc1 k → ρ.1 k = nI (μ.1 k)) ∧ (∀ k i : Nat, sc2 k i → ρ.2.1 k i = nI (μ.2.1 k i)) ∧ ((∀ i : Nat, ρ.2.1 1 i = μ.2.2 1 i) ∧ (∀ i : Nat, ρ.2.1 13 i = μ.2.2 13 i) ∧ ρ.1 19 = μ.2.2 19 0) ∧ ∀ i : Nat, i < 5 → ρ.2.2 29 i = lN (μ.1 (50 + i))
end
