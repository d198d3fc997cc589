section
/-! the begin -/
section IN
variable {s σ : CSt} {lab : Nat → Nat} {x m k : Nat}
def μ_0 : MSt := (fun _ => 0, fun _ _ => 0, fun k _ => if k = 19 then -1 else 0)
theorem MI_0 : MI μ_0 0 := by
  refine ⟨?_, fun i hi => absurd hi (Nat.not_lt_zero _), fun i hi => absurd hi (Nat.not_lt_zero _), fun i hi => absurd hi (Nat.not_lt_zero _), fun i hi => absurd hi (Nat.not_lt_zero _), fun i hi => absurd hi (Nat.not_lt_zero _), ⟨fun i hi => absurd hi (Nat.not_lt_zero _), fun _ => 0, fun s k hs => absurd hs (Nat.not_lt_zero _)⟩, fun i hi => absurd hi (Nat.not_lt_zero _), fun i hi => absurd hi (Nat.not_lt_zero _), fun _ _ => ⟨rfl, rfl⟩, fun _ _ => rfl, fun _ _ => rfl, fun _ _ => ⟨rfl, rfl⟩, fun _ _ => ⟨rfl, rfl, rfl⟩⟩
  unfold mC0
  show 0 ≤ 400 ∧ 0 ≤ 8 ∧ 0 ≤ 10 ∧ 0 ≤ 4 * 0 ∧ 0 ≤ 60 ∧ 0 ≤ 80 ∧ 0 ≤ 300 ∧ 0 ≤ 600 * 0 ∧ 0 < 1024
  decide
theorem TB_0 : TB μ_0 := ⟨fun _ => 0, fun i _ => ⟨(by decide : (0 : Nat) < 256), rfl⟩⟩
theorem RR_0 : RR r_1 μ_0 := by
  refine ⟨fun k hk => ?_, fun k i _ => rfl, ⟨fun i => rfl, fun i => rfl, rfl⟩, fun i _ => rfl⟩
  show (if k = 19 then (-1 : Int32) else 0) = nI 0
  rw [if_neg (by unfold sc1 at hk; omega)]
  rfl
theorem sameS.rf {b : Nat} : sameS s s b := ⟨fun _ _ => rfl, fun _ _ => rfl, fun _ => rfl, rfl, rfl⟩
theorem sameS.tr {s' s'' : CSt} {b : Nat} (h : sameS s s' b) (g : sameS s' s'' b) : sameS s s'' b := ⟨fun k hk => (g.1 k hk).trans (h.1 k hk), fun k hk => (g.2.1 k hk).trans (h.2.1 k hk), fun k => (g.2.2.1 k).trans (h.2.2.1 k), g.2.2.2.1.trans h.2.2.2.1, g.2.2.2.2.trans h.2.2.2.2⟩
theorem sm_I {a b : Nat} {v : Int32} (hb : ¬ b = a) : sameS s (csI s k a v) b := ⟨fun k' _ => by rw [pI_csI, cu2_ap, if_neg hb]; split <;> rfl, fun _ _ => rfl, fun _ => rfl, rfl, rfl⟩
theorem sm_R {a b : Nat} {v : Option Nat} (hb : ¬ b = a) : sameS s (csR s k a v) b := ⟨fun _ _ => rfl, fun k' _ => by rw [pR_csR, cu2_ap, if_neg hb]; split <;> rfl, fun _ => rfl, rfl, rfl⟩
theorem sm_O {q kd b : Nat} (hb : ¬ b = q) : sameS s (csO s q kd) b := ⟨fun k' _ => by rw [pI_csO]; exact if_neg hb, fun k' _ => by rw [pR_csO]; exact if_neg hb, fun k' => by rw [pJ_csO]; exact if_neg hb, rfl, rfl⟩
theorem sm_A {q kd n b : Nat} (hb : ¬ b = q) : sameS s (csA s q kd n) b := ⟨fun _ _ => rfl, fun _ _ => rfl, fun _ => rfl, va_up_ne _ _ hb, va_up_ne _ _ hb⟩
/-- what was there is there, of its kind -/
def oldS (s s' : CSt) : Prop := cZ s' = cZ s ∧ ∀ b : Nat, b ∈ cL s → b ∈ cL s' ∧ cK s' b = cK s b ∧ cN s' b = cN s b
theorem oldS.rf : oldS s s := ⟨rfl, fun _ hb => ⟨hb, rfl, rfl⟩⟩
theorem oldS.tr {s' s'' : CSt} (h : oldS s s') (g : oldS s' s'') : oldS s s'' := ⟨g.1.trans h.1, fun b hb => by
  obtain ⟨a1, a2, a3⟩ := h.2 b hb
  obtain ⟨b1, b2, b3⟩ := g.2 b a1
  exact ⟨b1, b2.trans a2, b3.trans a3⟩⟩
theorem oldS.at {s' : CSt} {kd b : Nat} (h : oldS s s') (hb : cAt s kd b) : cAt s' kd b := ⟨(h.2 b hb.1).1, ((h.2 b hb.1).2.1).trans hb.2⟩
theorem old_I {a : Nat} {v : Int32} : oldS s (csI s k a v) := ⟨rfl, fun _ hb => ⟨hb, rfl, rfl⟩⟩
theorem old_R {a : Nat} {v : Option Nat} : oldS s (csR s k a v) := ⟨rfl, fun _ hb => ⟨hb, rfl, rfl⟩⟩
theorem old_O {q kd : Nat} (hq : q ∉ cL s) : oldS s (csO s q kd) := ⟨rfl, fun b hb => ⟨List.mem_append_left _ hb, va_up_ne _ _ (fun e => hq (e ▸ hb)), rfl⟩⟩
theorem old_A {q kd n : Nat} (hq : q ∉ cL s) : oldS s (csA s q kd n) := ⟨rfl, fun b hb => ⟨List.mem_append_left _ hb, va_up_ne _ _ (fun e => hq (e ▸ hb)), va_up_ne _ _ (fun e => hq (e ▸ hb))⟩⟩
theorem ini_L {post : Nat → CSt → Prop} (hx : cAt s 7 x)
    (hp : ∀ q s', q ∉ cL s → oldS s s' → (∀ b : Nat, b ∈ cL s → ¬ b = x → sameS s s' b) → cAt s' 0 q ∧ cI s' 2 q = 0 ∧ cR s' 1 q = some (cZ s').1 → cR s' k x = some q → (∀ k', k' ≠ k → cR s' k' x = cR s k' x) → (∀ k', cI s' k' x = cI s k' x) → (∀ k', cJ s' k' x = cJ s k' x) → post q s') :
    ∀ q1 : Nat, q1 ∉ cL s → ∀ s2 : CSt, s2 = csO s q1 0 → wpC_Jx4a65c_init_da8c8_0 (fun s3 => cAt s3 7 x ∧ ∀ s4 : CSt, s4 = csR s3 k x (some q1) → post q1 s4) s2 q1 := by
  intro q hq s2 hs2
  have hxq : ¬ x = q := fun e => hq (e ▸ hx.1)
  have hbq : ∀ b : Nat, b ∈ cL s → ¬ b = q := fun b hb e => hq (e ▸ hb)
  have o2 : oldS s s2 := by rw [hs2]; exact old_O hq
  have m2 : ∀ b : Nat, b ∈ cL s → sameS s s2 b := fun b hb => by rw [hs2]; exact sm_O (hbq b hb)
  have hq2 : cAt s2 0 q := by rw [hs2]; exact at_csOq
  have z2 : cI s2 2 q = 0 := by rw [hs2, pI_csO]; exact if_pos rfl
  have i2 : ∀ k', cI s2 k' x = cI s k' x := fun k' => by rw [hs2, pI_csO]; exact if_neg hxq
  have r2 : ∀ k', cR s2 k' x = cR s k' x := fun k' => by rw [hs2, pR_csO]; exact if_neg hxq
  clear hs2
  refine ⟨hq2, ?_⟩
  intro s3 hs3
  have o3 : oldS s s3 := by rw [hs3]; exact o2.tr old_I
  have m3 : ∀ b : Nat, b ∈ cL s → sameS s s3 b := fun b hb => by rw [hs3]; exact (m2 b hb).tr (sm_I (hbq b hb))
  have hq3 : cAt s3 0 q := by rw [hs3]; exact hq2
  have z3 : cI s3 2 q = 0 := by rw [hs3, pI_csI, cu2_ap, if_neg (by decide)]; exact z2
  have i3 : ∀ k', cI s3 k' x = cI s k' x := fun k' => by
    rw [hs3, pI_csI, cu2_ap]
    split
    · exact i2 k'
    · exact i2 k'
  have r3 : ∀ k', cR s3 k' x = cR s k' x := fun k' => by rw [hs3]; exact r2 k'
  clear hs3 m2 o2 i2 r2
  refine ⟨hq3, ?_⟩
  intro s4 hs4
  have o4 : oldS s s4 := by rw [hs4]; exact o3.tr old_R
  have m4 : ∀ b : Nat, b ∈ cL s → sameS s s4 b := fun b hb => by rw [hs4]; exact (m3 b hb).tr (sm_R (hbq b hb))
  have hq4 : cAt s4 0 q := by rw [hs4]; exact hq3
  have z4 : cI s4 2 q = 0 := by rw [hs4]; exact z3
  have e4 : cR s4 1 q = some (cZ s4).1 := by rw [hs4, pR_csR, cu2_ap, if_pos rfl, if_pos rfl]; rfl
  have i4 : ∀ k', cI s4 k' x = cI s k' x := fun k' => by rw [hs4]; exact i3 k'
  have r4 : ∀ k', cR s4 k' x = cR s k' x := fun k' => by
    rw [hs4, pR_csR, cu2_ap]
    split
    · exact r3 k'
    · exact r3 k'
  clear hs4 m3 o3 i3 r3
  refine ⟨o4.at hx, ?_⟩
  intro s5 hs5
  have hxq' : ¬ q = x := fun e => hxq e.symm
  refine hp q s5 hq ?_ (fun b hb hbx => ?_) ⟨?_, ?_, ?_⟩ ?_ (fun k' hk' => ?_) (fun k' => ?_) (fun k' => ?_)
  · rw [hs5]; exact o4.tr old_R
  · rw [hs5]; exact (m4 b hb).tr (sm_R hbx)
  · rw [hs5]; exact hq4
  · rw [hs5]; exact z4
  · rw [hs5, pR_csR, cu2_ap]
    split
    · exact e4
    · exact e4
  · rw [hs5, pR_csR, cu2_ap, if_pos rfl, if_pos rfl]
  · rw [hs5, pR_csR, cu2_ap, if_neg hk']; exact r4 k'
  · rw [hs5]; exact i4 k'
  · rw [hs5]; exact (m4 x hx.1).2.2.1 k'
/-- a list that is empty, told of later -/
def newL (s : CSt) (q : Nat) : Prop := cAt s 0 q ∧ cI s 2 q = 0 ∧ cR s 1 q = some (cZ s).1
theorem newL.mv {s' : CSt} {q : Nat} (h : newL s q) (ho : oldS s s') (hs : sameS s s' q) : newL s' q := ⟨ho.at h.1, (hs.1 2 (by unfold scrI; omega)).trans h.2.1, by rw [hs.2.1 1 (by decide), ho.1]; exact h.2.2⟩
theorem cO_init {post : CSt → Prop} (z : Nat × Nat) (x : Nat) (hp : ∀ σ' lab ad, ad 7 0 = x → CRep σ' lab ad μ_0 → post σ') : wpC_X7_init_0 post (csO (c_0 z) x 7) x := by
  have hx0 : cAt (csO (c_0 z) x 7) 7 x := at_csOq
  have i0 : ∀ k, cI (csO (c_0 z) x 7) k x = 0 := fun k => by rw [pI_csO]; exact if_pos rfl
  have j0 : ∀ k, cJ (csO (c_0 z) x 7) k x = 0 := fun k => by rw [pJ_csO]; exact if_pos rfl
  generalize csO (c_0 z) x 7 = s0 at hx0 i0 j0 ⊢
  have nx : ∀ {s : CSt} {q : Nat}, cAt s 0 q → cAt s 7 x → ¬ q = x := fun a b e => ne_kd a b (by decide) e
  refine ini_L hx0 (fun q1 s1 n1 o1 m1 L1 r1 R1 I1 J1 => ?_)
  have hx1 := o1.at hx0
  refine ini_L hx1 (fun q2 s2 n2 o2 m2 L2 r2 R2 I2 J2 => ?_)
  have hx2 := o2.at hx1
  have L12 : newL s2 q1 := newL.mv L1 o2 (m2 q1 L1.1.1 (nx L1.1 hx1))
  have d12 : ¬ q1 = q2 := fun e => n2 (e ▸ L1.1.1)
  refine ini_L hx2 (fun q3 s3 n3 o3 m3 L3 r3 R3 I3 J3 => ?_)
  have hx3 := o3.at hx2
  have L13 : newL s3 q1 := newL.mv L12 o3 (m3 q1 L12.1.1 (nx L12.1 hx2))
  have L23 : newL s3 q2 := newL.mv L2 o3 (m3 q2 L2.1.1 (nx L2.1 hx2))
  have d13 : ¬ q1 = q3 := fun e => n3 (e ▸ L12.1.1)
  have d23 : ¬ q2 = q3 := fun e => n3 (e ▸ L2.1.1)
  refine ini_L hx3 (fun q4 s4 n4 o4 m4 L4 r4 R4 I4 J4 => ?_)
  have hx4 := o4.at hx3
  have L14 : newL s4 q1 := newL.mv L13 o4 (m4 q1 L13.1.1 (nx L13.1 hx3))
  have L24 : newL s4 q2 := newL.mv L23 o4 (m4 q2 L23.1.1 (nx L23.1 hx3))
  have L34 : newL s4 q3 := newL.mv L3 o4 (m4 q3 L3.1.1 (nx L3.1 hx3))
  have d14 : ¬ q1 = q4 := fun e => n4 (e ▸ L13.1.1)
  have d24 : ¬ q2 = q4 := fun e => n4 (e ▸ L23.1.1)
  have d34 : ¬ q3 = q4 := fun e => n4 (e ▸ L3.1.1)
  refine ini_L hx4 (fun q5 s5 n5 o5 m5 L5 r5 R5 I5 J5 => ?_)
  have hx5 := o5.at hx4
  have L15 : newL s5 q1 := newL.mv L14 o5 (m5 q1 L14.1.1 (nx L14.1 hx4))
  have L25 : newL s5 q2 := newL.mv L24 o5 (m5 q2 L24.1.1 (nx L24.1 hx4))
  have L35 : newL s5 q3 := newL.mv L34 o5 (m5 q3 L34.1.1 (nx L34.1 hx4))
  have L45 : newL s5 q4 := newL.mv L4 o5 (m5 q4 L4.1.1 (nx L4.1 hx4))
  have d15 : ¬ q1 = q5 := fun e => n5 (e ▸ L14.1.1)
  have d25 : ¬ q2 = q5 := fun e => n5 (e ▸ L24.1.1)
  have d35 : ¬ q3 = q5 := fun e => n5 (e ▸ L34.1.1)
  have d45 : ¬ q4 = q5 := fun e => n5 (e ▸ L4.1.1)
  have X112 : cR s5 112 x = some q1 := by rw [R5 _ (by decide), R4 _ (by decide), R3 _ (by decide), R2 _ (by decide)]; exact r1
  have X113 : cR s5 113 x = some q2 := by rw [R5 _ (by decide), R4 _ (by decide), R3 _ (by decide)]; exact r2
  have X114 : cR s5 114 x = some q3 := by rw [R5 _ (by decide), R4 _ (by decide)]; exact r3
  have X115 : cR s5 115 x = some q4 := by rw [R5 _ (by decide)]; exact r4
  have XI : ∀ k, cI s5 k x = 0 := fun k => by rw [I5, I4, I3, I2, I1]; exact i0 k
  have XJ : ∀ k, cJ s5 k x = 0 := fun k => by rw [J5, J4, J3, J2, J1]; exact j0 k
  have L55 : newL s5 q5 := L5
  clear L14 L24 L34 L4 L13 L23 L3 L12 L2 L1 m1 m2 m3 m4 m5 o1 o2 o3 o4 o5 R1 R2 R3 R4 R5 I1 I2 I3 I4 I5 J1 J2 J3 J4 J5 r1 r2 r3 r4 hx0 hx1 hx2 hx3 hx4 i0 j0 n1 n2 n3 n4 n5 L5
  -- the reader
  intro q6 n6 s6 hs6
  have o6 : oldS s5 s6 := by rw [hs6]; exact old_O n6
  have m6 : ∀ b : Nat, b ∈ cL s5 → sameS s5 s6 b := fun b hb => by rw [hs6]; exact sm_O (fun e => n6 (e ▸ hb))
  have h6 : cAt s6 5 q6 := by rw [hs6]; exact at_csOq
  clear hs6
  intro q7 n7 s7 hs7
  have o7 : oldS s6 s7 := by rw [hs7]; exact old_A n7
  have m7 : ∀ b : Nat, b ∈ cL s6 → sameS s6 s7 b := fun b hb => by rw [hs7]; exact sm_A (fun e => n7 (e ▸ hb))
  have h7 : cAt s7 9 q7 ∧ cN s7 q7 = 400 := by rw [hs7]; exact ⟨at_csAq, by rw [pN_csA, va_up_self]; rfl⟩
  clear hs7
  refine ⟨o7.at h6, ?_⟩
  intro s8 hs8
  have h6' := o7.at h6
  have d67 : ¬ q7 = q6 := fun e => n7 (e ▸ h6.1)
  have o8 : oldS s7 s8 := by rw [hs8]; exact old_R
  have m8 : ∀ b : Nat, ¬ b = q6 → sameS s7 s8 b := fun b hb => by rw [hs8]; exact sm_R hb
  have r8 : cR s8 82 q6 = some q7 := by rw [hs8, pR_csR, cu2_ap, if_pos rfl, if_pos rfl]
  clear hs8
  intro q8 n8 s9 hs9
  have o9 : oldS s8 s9 := by rw [hs9]; exact old_A n8
  have m9 : ∀ b : Nat, b ∈ cL s8 → sameS s8 s9 b := fun b hb => by rw [hs9]; exact sm_A (fun e => n8 (e ▸ hb))
  clear hs9
  refine ⟨o9.at (o8.at h6'), ?_⟩
  intro s10 hs10
  have o10 : oldS s9 s10 := by rw [hs10]; exact old_R
  have m10 : ∀ b : Nat, ¬ b = q6 → sameS s9 s10 b := fun b hb => by rw [hs10]; exact sm_R hb
  have r10 : cR s10 82 q6 = some q7 := by rw [hs10, pR_csR, cu2_ap, if_neg (by decide), (m9 q6 (o8.at h6').1).2.1 82 (by decide)]; exact r8
  clear hs10
  have oo : oldS s5 s10 := (((o6.tr o7).tr o8).tr o9).tr o10
  have mm : ∀ b : Nat, b ∈ cL s5 → sameS s5 s10 b := fun b hb => by
    have h1 := (o6.2 b hb).1
    have h2 := (o7.2 b h1).1
    have h3 := (o8.2 b h2).1
    have hne : ¬ b = q6 := fun e => n6 (e ▸ hb)
    exact ((((m6 b hb).tr (m7 b h1)).tr (m8 b hne)).tr (m9 b h3)).tr (m10 b hne)
  have c10 : cAt s10 9 q7 := o10.at (o9.at (o8.at h7.1))
  have N10 : cN s10 q7 = 400 := (o10.2 q7 (o9.at (o8.at h7.1)).1).2.2.trans ((o9.2 q7 (o8.at h7.1).1).2.2.trans ((o8.2 q7 h7.1.1).2.2.trans h7.2))
  have e10 : cAt s10 5 q6 := o10.at (o9.at (o8.at h6'))
  have hx10 := oo.at hx5
  have M10 := mm x hx5.1
  clear o6 o7 o8 o9 o10 m6 m7 m8 m9 m10 n6 n7 n8 r8 h6 h6' h7 s6 s7 s8 s9
  refine ⟨hx10, ?_⟩
  intro s11 hs11
  have o11 : oldS s10 s11 := by rw [hs11]; exact old_R
  have m11 : ∀ b : Nat, ¬ b = x → sameS s10 s11 b := fun b hb => by rw [hs11]; exact sm_R hb
  have x11 : cR s11 117 x = some q6 := by rw [hs11, pR_csR, cu2_ap, if_pos rfl, if_pos rfl]
  have R11 : ∀ k, k ≠ 117 → cR s11 k x = cR s10 k x := fun k hk => by rw [hs11, pR_csR, cu2_ap, if_neg hk]
  have I11 : ∀ k, cI s11 k x = cI s10 k x := fun k => by rw [hs11]; rfl
  have J11 : ∀ k, cJ s11 k x = cJ s10 k x := fun k => by rw [hs11]; rfl
  clear hs11
  intro q9 n9 s12 hs12
  have o12 : oldS s11 s12 := by rw [hs12]; exact old_A n9
  have m12 : ∀ b : Nat, b ∈ cL s11 → sameS s11 s12 b := fun b hb => by rw [hs12]; exact sm_A (fun e => n9 (e ▸ hb))
  have h12 : cAt s12 8 q9 ∧ cN s12 q9 = 400 ∧ ∀ i, cV s12 q9 i = 0 := by rw [hs12]; exact ⟨at_csAq, by rw [pN_csA, va_up_self]; rfl, fun i => by rw [pV_csA, va_up_self]⟩
  have R12 : ∀ k, cR s12 k x = cR s11 k x := fun k => by rw [hs12]; rfl
  have I12 : ∀ k, cI s12 k x = cI s11 k x := fun k => by rw [hs12]; rfl
  have J12 : ∀ k, cJ s12 k x = cJ s11 k x := fun k => by rw [hs12]; rfl
  clear hs12
  have hx11 := o11.at hx10
  have hx12 := o12.at hx11
  refine ⟨hx12, ?_⟩
  intro s13 hs13
  have o13 : oldS s12 s13 := by rw [hs13]; exact old_R
  have m13 : ∀ b : Nat, ¬ b = x → sameS s12 s13 b := fun b hb => by rw [hs13]; exact sm_R hb
  have x13 : cR s13 118 x = some q9 := by rw [hs13, pR_csR, cu2_ap, if_pos rfl, if_pos rfl]
  have R13 : ∀ k, k ≠ 118 → cR s13 k x = cR s12 k x := fun k hk => by rw [hs13, pR_csR, cu2_ap, if_neg hk]
  have I13 : ∀ k, cI s13 k x = cI s12 k x := fun k => by rw [hs13]; rfl
  have J13 : ∀ k, cJ s13 k x = cJ s12 k x := fun k => by rw [hs13]; rfl
  clear hs13
  refine ⟨o13.at hx12, ?_⟩
  intro s14 hs14
  have o14 : oldS s13 s14 := by rw [hs14]; exact old_I
  have m14 : ∀ b : Nat, ¬ b = x → sameS s13 s14 b := fun b hb => by rw [hs14]; exact sm_I hb
  have R14 : ∀ k, cR s14 k x = cR s13 k x := fun k => by rw [hs14]; rfl
  have I14 : ∀ k, cI s14 k x = if k = 122 then -1 else cI s13 k x := fun k => by rw [hs14, pI_csI, cu2_ap, if_pos rfl]
  have J14 : ∀ k, cJ s14 k x = cJ s13 k x := fun k => by rw [hs14]; rfl
  clear hs14
  have oz : oldS s10 s14 := ((o11.tr o12).tr o13).tr o14
  have mz : ∀ b : Nat, b ∈ cL s10 → ¬ b = x → sameS s10 s14 b := fun b hb hbx => (((m11 b hbx).tr (m12 b (o11.2 b hb).1)).tr (m13 b hbx)).tr (m14 b hbx)
  have hL : ∀ q, newL s5 q → newL s14 q := fun q h => by
    have h1 := newL.mv h oo (mm q h.1.1)
    exact newL.mv h1 oz (mz q h1.1.1 (nx h1.1 hx10))
  have hd6x : ¬ q6 = x := fun e => ne_kd e10 hx10 (by decide) e
  have hd7x : ¬ q7 = x := fun e => ne_kd c10 hx10 (by decide) e
  have hd9x : ¬ q9 = x := fun e => ne_kd h12.1 hx12 (by decide) e
  have s9e := (m13 q9 hd9x).tr (m14 q9 hd9x)
  have o1314 := o13.tr o14
  have fR : ∀ k, k ≠ 117 → k ≠ 118 → k ≠ 23 → cR s14 k x = cR s5 k x := fun k h1 h2 h3 => by rw [R14, R13 k h2, R12, R11 k h1, M10.2.1 k h3]
  have fI : ∀ k, k ≠ 122 → ¬ scrI k → cI s14 k x = 0 := fun k h1 h2 => by rw [I14, if_neg h1, I13, I12, I11, M10.1 k h2]; exact XI k
  have fJ : ∀ k, cJ s14 k x = 0 := fun k => by rw [J14, J13, J12, J11, M10.2.2.1]; exact XJ k
  have hls : ∀ i : Nat, cAt s14 0 ((fun i => if i = 0 then q1 else if i = 1 then q2 else if i = 2 then q3 else if i = 3 then q4 else q5) i) := fun i => by
    (try dsimp only)
    split
    · exact (hL q1 L15).1
    split
    · exact (hL q2 L25).1
    split
    · exact (hL q3 L35).1
    split
    · exact (hL q4 L45).1
    · exact (hL q5 L55).1
  have nk : ∀ {kd kd' a b : Nat}, cAt s14 kd a → cAt s14 kd' b → kd ≠ kd' → ¬ a = b := fun a b h => ne_kd a b h
  have ax : cAt s14 7 x := oz.at hx10
  have a6 : cAt s14 5 q6 := oz.at e10
  have a7 : cAt s14 9 q7 := oz.at c10
  have a9 : cAt s14 8 q9 := o1314.at h12.1
  have b1 := (hL q1 L15).1
  have b2 := (hL q2 L25).1
  have b3 := (hL q3 L35).1
  have b4 := (hL q4 L45).1
  have b5 := (hL q5 L55).1
  refine hp s14 (fun a => if a = q2 then 1 else if a = q3 then 2 else if a = q4 then 3 else if a = q5 then 4 else 0) (fun k i => if k = 7 then x else if k = 5 then q6 else if k = 9 then q7 else if k = 8 then q9 else if i = 0 then q1 else if i = 1 then q2 else if i = 2 then q3 else if i = 3 then q4 else q5) rfl ?_
  have lo : ∀ {kd a : Nat}, cAt s14 kd a → kd ≠ 0 → (if a = q2 then 1 else if a = q3 then 2 else if a = q4 then 3 else if a = q5 then 4 else 0) = 0 := fun h hk => by
    rw [if_neg (nk h b2 hk), if_neg (nk h b3 hk), if_neg (nk h b4 hk), if_neg (nk h b5 hk)]
  have lq1 : (if q1 = q2 then 1 else if q1 = q3 then 2 else if q1 = q4 then 3 else if q1 = q5 then 4 else 0) = 0 := by rw [if_neg d12, if_neg d13, if_neg d14, if_neg d15]
  have lq2 : (if q2 = q2 then 1 else if q2 = q3 then 2 else if q2 = q4 then 3 else if q2 = q5 then 4 else 0) = 1 := by rw [if_pos rfl]
  have lq3 : (if q3 = q2 then 1 else if q3 = q3 then 2 else if q3 = q4 then 3 else if q3 = q5 then 4 else 0) = 2 := by rw [if_neg (fun e => d23 e.symm), if_pos rfl]
  have lq4 : (if q4 = q2 then 1 else if q4 = q3 then 2 else if q4 = q4 then 3 else if q4 = q5 then 4 else 0) = 3 := by rw [if_neg (fun e => d24 e.symm), if_neg (fun e => d34 e.symm), if_pos rfl]
  have lq5 : (if q5 = q2 then 1 else if q5 = q3 then 2 else if q5 = q4 then 3 else if q5 = q5 then 4 else 0) = 4 := by rw [if_neg (fun e => d25 e.symm), if_neg (fun e => d35 e.symm), if_neg (fun e => d45 e.symm), if_pos rfl]
  refine ⟨⟨⟨ax, lo ax (by decide)⟩, ⟨?_, ?_, ?_, ?_, ?_, ?_, ?_⟩, ?_, ?_, ?_, ?_, ?_, fJ _, fJ _, fJ _, fJ _⟩, ⟨?_, ?_, ?_, ?_, ?_⟩, fun i hi => absurd hi (Nat.not_lt_zero _), fun i hi => absurd hi (Nat.not_lt_zero _), fun i hi => absurd hi (Nat.not_lt_zero _), fun i hi => absurd hi (Nat.not_lt_zero _), fun i hi => absurd hi (Nat.not_lt_zero _), fun i hi => absurd hi (Nat.not_lt_zero _), fun i hi => absurd hi (Nat.not_lt_zero _), fun i hi => absurd hi (Nat.not_lt_zero _), fun i hi => absurd hi (Nat.not_lt_zero _), ⟨⟨a6, lo a6 (by decide)⟩, ?_, ⟨a7, lo a7 (by decide)⟩, ?_⟩, ⟨⟨a9, lo a9 (by decide)⟩, ?_, fun i _ => ?_⟩⟩
  · exact (fR 112 (by decide) (by decide) (by decide)).trans X112
  · exact (fR 113 (by decide) (by decide) (by decide)).trans X113
  · exact (fR 114 (by decide) (by decide) (by decide)).trans X114
  · exact (fR 115 (by decide) (by decide) (by decide)).trans X115
  · exact (fR 116 (by decide) (by decide) (by decide)).trans r5
  · show cR s14 117 x = some q6
    rw [R14, R13 _ (by decide), R12]; exact x11
  · show cR s14 118 x = some q9
    rw [R14]; exact x13
  · exact fI 119 (by decide) (by unfold scrI; omega)
  · exact fI 120 (by decide) (by unfold scrI; omega)
  · exact fI 121 (by decide) (by unfold scrI; omega)
  · show cI s14 122 x = -1
    rw [I14, if_pos rfl]
  · exact fI 123 (by decide) (by unfold scrI; omega)
  · exact new_L b1 lq1 (hL q1 L15).2.1 (hL q1 L15).2.2
  · exact new_L b2 lq2 (hL q2 L25).2.1 (hL q2 L25).2.2
  · exact new_L b3 lq3 (hL q3 L35).2.1 (hL q3 L35).2.2
  · exact new_L b4 lq4 (hL q4 L45).2.1 (hL q4 L45).2.2
  · exact new_L b5 lq5 (hL q5 L55).2.1 (hL q5 L55).2.2
  · show cR s14 82 q6 = some q7
    rw [(mz q6 e10.1 hd6x).2.1 82 (by decide)]; exact r10
  · show cN s14 q7 = 400
    rw [(oz.2 q7 c10.1).2.2]; exact N10
  · show cN s14 q9 = 400
    rw [(o1314.2 q9 h12.1.1).2.2]; exact h12.2.1
  · show cV s14 q9 i = 0
    rw [s9e.2.2.2.1]; exact h12.2.2 i
end IN
end
