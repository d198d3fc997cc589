/-! reads of the class's state after writes -/
theorem pL_csI (s : CSt) (k a : Nat) (v : Int32) : cL (csI s k a v) = cL s := rfl
theorem pK_csI (s : CSt) (k a : Nat) (v : Int32) : cK (csI s k a v) = cK s := rfl
theorem pI_csI (s : CSt) (k a : Nat) (v : Int32) : cI (csI s k a v) = cu2 (cI s) k a v := rfl
theorem pR_csI (s : CSt) (k a : Nat) (v : Int32) : cR (csI s k a v) = cR s := rfl
theorem pJ_csI (s : CSt) (k a : Nat) (v : Int32) : cJ (csI s k a v) = cJ s := rfl
theorem pN_csI (s : CSt) (k a : Nat) (v : Int32) : cN (csI s k a v) = cN s := rfl
theorem pV_csI (s : CSt) (k a : Nat) (v : Int32) : cV (csI s k a v) = cV s := rfl
theorem pE_csI (s : CSt) (k a : Nat) (v : Int32) : cE (csI s k a v) = cE s := rfl
theorem pZ_csI (s : CSt) (k a : Nat) (v : Int32) : cZ (csI s k a v) = cZ s := rfl
theorem pL_csR (s : CSt) (k a : Nat) (v : Option Nat) : cL (csR s k a v) = cL s := rfl
theorem pK_csR (s : CSt) (k a : Nat) (v : Option Nat) : cK (csR s k a v) = cK s := rfl
theorem pI_csR (s : CSt) (k a : Nat) (v : Option Nat) : cI (csR s k a v) = cI s := rfl
theorem pR_csR (s : CSt) (k a : Nat) (v : Option Nat) : cR (csR s k a v) = cu2 (cR s) k a v := rfl
theorem pJ_csR (s : CSt) (k a : Nat) (v : Option Nat) : cJ (csR s k a v) = cJ s := rfl
theorem pN_csR (s : CSt) (k a : Nat) (v : Option Nat) : cN (csR s k a v) = cN s := rfl
theorem pV_csR (s : CSt) (k a : Nat) (v : Option Nat) : cV (csR s k a v) = cV s := rfl
theorem pE_csR (s : CSt) (k a : Nat) (v : Option Nat) : cE (csR s k a v) = cE s := rfl
theorem pZ_csR (s : CSt) (k a : Nat) (v : Option Nat) : cZ (csR s k a v) = cZ s := rfl
theorem pL_csJ (s : CSt) (k a : Nat) (v : Int64) : cL (csJ s k a v) = cL s := rfl
theorem pK_csJ (s : CSt) (k a : Nat) (v : Int64) : cK (csJ s k a v) = cK s := rfl
theorem pI_csJ (s : CSt) (k a : Nat) (v : Int64) : cI (csJ s k a v) = cI s := rfl
theorem pR_csJ (s : CSt) (k a : Nat) (v : Int64) : cR (csJ s k a v) = cR s := rfl
theorem pJ_csJ (s : CSt) (k a : Nat) (v : Int64) : cJ (csJ s k a v) = cu2 (cJ s) k a v := rfl
theorem pN_csJ (s : CSt) (k a : Nat) (v : Int64) : cN (csJ s k a v) = cN s := rfl
theorem pV_csJ (s : CSt) (k a : Nat) (v : Int64) : cV (csJ s k a v) = cV s := rfl
theorem pE_csJ (s : CSt) (k a : Nat) (v : Int64) : cE (csJ s k a v) = cE s := rfl
theorem pZ_csJ (s : CSt) (k a : Nat) (v : Int64) : cZ (csJ s k a v) = cZ s := rfl
theorem pL_csV (s : CSt) (a : Nat) (f : Nat → Int32) : cL (csV s a f) = cL s := rfl
theorem pK_csV (s : CSt) (a : Nat) (f : Nat → Int32) : cK (csV s a f) = cK s := rfl
theorem pI_csV (s : CSt) (a : Nat) (f : Nat → Int32) : cI (csV s a f) = cI s := rfl
theorem pR_csV (s : CSt) (a : Nat) (f : Nat → Int32) : cR (csV s a f) = cR s := rfl
theorem pJ_csV (s : CSt) (a : Nat) (f : Nat → Int32) : cJ (csV s a f) = cJ s := rfl
theorem pN_csV (s : CSt) (a : Nat) (f : Nat → Int32) : cN (csV s a f) = cN s := rfl
theorem pV_csV (s : CSt) (a : Nat) (f : Nat → Int32) : cV (csV s a f) = va_up (cV s) a f := rfl
theorem pE_csV (s : CSt) (a : Nat) (f : Nat → Int32) : cE (csV s a f) = cE s := rfl
theorem pZ_csV (s : CSt) (a : Nat) (f : Nat → Int32) : cZ (csV s a f) = cZ s := rfl
theorem pL_csE (s : CSt) (a : Nat) (f : Nat → Option Nat) : cL (csE s a f) = cL s := rfl
theorem pK_csE (s : CSt) (a : Nat) (f : Nat → Option Nat) : cK (csE s a f) = cK s := rfl
theorem pI_csE (s : CSt) (a : Nat) (f : Nat → Option Nat) : cI (csE s a f) = cI s := rfl
theorem pR_csE (s : CSt) (a : Nat) (f : Nat → Option Nat) : cR (csE s a f) = cR s := rfl
theorem pJ_csE (s : CSt) (a : Nat) (f : Nat → Option Nat) : cJ (csE s a f) = cJ s := rfl
theorem pN_csE (s : CSt) (a : Nat) (f : Nat → Option Nat) : cN (csE s a f) = cN s := rfl
theorem pV_csE (s : CSt) (a : Nat) (f : Nat → Option Nat) : cV (csE s a f) = cV s := rfl
theorem pE_csE (s : CSt) (a : Nat) (f : Nat → Option Nat) : cE (csE s a f) = va_up (cE s) a f := rfl
theorem pZ_csE (s : CSt) (a : Nat) (f : Nat → Option Nat) : cZ (csE s a f) = cZ s := rfl
theorem pL_csO (s : CSt) (q kd : Nat) : cL (csO s q kd) = cL s ++ [q] := rfl
theorem pK_csO (s : CSt) (q kd : Nat) : cK (csO s q kd) = va_up (cK s) q kd := rfl
theorem pI_csO (s : CSt) (q kd : Nat) : cI (csO s q kd) = fun k a => if a = q then 0 else cI s k a := rfl
theorem pR_csO (s : CSt) (q kd : Nat) : cR (csO s q kd) = fun k a => if a = q then none else cR s k a := rfl
theorem pJ_csO (s : CSt) (q kd : Nat) : cJ (csO s q kd) = fun k a => if a = q then 0 else cJ s k a := rfl
theorem pN_csO (s : CSt) (q kd : Nat) : cN (csO s q kd) = cN s := rfl
theorem pV_csO (s : CSt) (q kd : Nat) : cV (csO s q kd) = cV s := rfl
theorem pE_csO (s : CSt) (q kd : Nat) : cE (csO s q kd) = cE s := rfl
theorem pZ_csO (s : CSt) (q kd : Nat) : cZ (csO s q kd) = cZ s := rfl
theorem pL_csA (s : CSt) (q kd n : Nat) : cL (csA s q kd n) = cL s ++ [q] := rfl
theorem pK_csA (s : CSt) (q kd n : Nat) : cK (csA s q kd n) = va_up (cK s) q kd := rfl
theorem pI_csA (s : CSt) (q kd n : Nat) : cI (csA s q kd n) = cI s := rfl
theorem pR_csA (s : CSt) (q kd n : Nat) : cR (csA s q kd n) = cR s := rfl
theorem pJ_csA (s : CSt) (q kd n : Nat) : cJ (csA s q kd n) = cJ s := rfl
theorem pN_csA (s : CSt) (q kd n : Nat) : cN (csA s q kd n) = va_up (cN s) q n := rfl
theorem pV_csA (s : CSt) (q kd n : Nat) : cV (csA s q kd n) = va_up (cV s) q (fun _ => 0) := rfl
theorem pE_csA (s : CSt) (q kd n : Nat) : cE (csA s q kd n) = va_up (cE s) q (fun _ => none) := rfl
theorem pZ_csA (s : CSt) (q kd n : Nat) : cZ (csA s q kd n) = cZ s := rfl
theorem cu2_ap {α : Type} (f : Nat → Nat → α) (k a : Nat) (v : α) (k2 a2 : Nat) : cu2 f k a v k2 a2 = if k2 = k then (if a2 = a then v else f k2 a2) else f k2 a2 := rfl
theorem up_ap {α : Type} (f : Nat → α) (k : Nat) (v : α) (j : Nat) : va_up f k v j = if j = k then v else f j := rfl
theorem upd_ap (f : Nat → Int32) (k : Nat) (v : Int32) (j : Nat) : upd f k v j = if j = k then v else f j := rfl
theorem at_csI {s : CSt} {k a : Nat} {v : Int32} {kd b : Nat} : cAt (csI s k a v) kd b ↔ cAt s kd b := Iff.rfl
theorem at_csR {s : CSt} {k a : Nat} {v : Option Nat} {kd b : Nat} : cAt (csR s k a v) kd b ↔ cAt s kd b := Iff.rfl
theorem at_csJ {s : CSt} {k a : Nat} {v : Int64} {kd b : Nat} : cAt (csJ s k a v) kd b ↔ cAt s kd b := Iff.rfl
theorem at_csV {s : CSt} {a : Nat} {f : Nat → Int32} {kd b : Nat} : cAt (csV s a f) kd b ↔ cAt s kd b := Iff.rfl
theorem at_csE {s : CSt} {a : Nat} {f : Nat → Option Nat} {kd b : Nat} : cAt (csE s a f) kd b ↔ cAt s kd b := Iff.rfl
theorem at_csO {s : CSt} {q kd : Nat} {kd2 b : Nat} (hq : q ∉ cL s) (h : cAt s kd2 b) : cAt (csO s q kd) kd2 b := ⟨List.mem_append_left _ h.1, by
  show va_up (cK s) q kd b = kd2
  rw [va_up_ne _ _ (fun e => hq (by rw [← e]; exact h.1))]; exact h.2⟩
theorem at_csOq {s : CSt} {q kd : Nat} : cAt (csO s q kd) kd q := ⟨List.mem_append_right _ List.mem_cons_self, va_up_self _ _ _⟩
theorem ne_csO {s : CSt} {q kd2 b : Nat} (hq : q ∉ cL s) (h : cAt s kd2 b) : ¬ b = q := fun e => hq (by rw [← e]; exact h.1)
theorem at_csA {s : CSt} {q kd n : Nat} {kd2 b : Nat} (hq : q ∉ cL s) (h : cAt s kd2 b) : cAt (csA s q kd n) kd2 b := ⟨List.mem_append_left _ h.1, by
  show va_up (cK s) q kd b = kd2
  rw [va_up_ne _ _ (fun e => hq (by rw [← e]; exact h.1))]; exact h.2⟩
theorem at_csAq {s : CSt} {q kd n : Nat} : cAt (csA s q kd n) kd q := ⟨List.mem_append_right _ List.mem_cons_self, va_up_self _ _ _⟩
theorem ne_kd {s : CSt} {a b k1 k2 : Nat} (h1 : cAt s k1 a) (h2 : cAt s k2 b) (hk : k1 ≠ k2) : ¬ a = b := fun e => hk (by rw [← h1.2, ← h2.2, e])
theorem ne_lab {lab : Nat → Nat} {a b m n : Nat} (h1 : lab a = m) (h2 : lab b = n) (hk : m ≠ n) : ¬ a = b := fun e => hk (by rw [← h1, ← h2, e])
theorem elm_of {s : CSt} {kd a : Nat} (h : cAt s kd a) (hk : kd = 1 ∨ kd = 2 ∨ kd = 3 ∨ kd = 4 ∨ kd = 6) : cElm s a := ⟨kd, hk, h⟩
