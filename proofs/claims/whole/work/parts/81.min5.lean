section
/-! the class's minute: a lift fills -/
section FL
variable {σ σ' : CSt} {lab lab' : Nat → Nat} {ad : Nat → Nat → Nat} {μ μ' : MSt} {j : Nat}
theorem sumN_hd {f : Nat → Nat} : ∀ n : Nat, sumN f (n + 1) = f 0 + sumN (fun i => f (i + 1)) n
  | 0 => Nat.add_comm _ _
  | n + 1 => by
    have := sumN_hd (f := f) n
    show sumN f (n + 1) + f (n + 1) = f 0 + (sumN (fun i => f (i + 1)) n + f (n + 1))
    omega
theorem mBo_1 {l k : Nat} : (mBo μ l k).1 = μ.1 := rfl
/-- the row one shorter, its head not yet riding -/
def mBh (μ : MSt) (l k : Nat) : MSt := (μ.1, fun a i => if a = 21 then (mBo μ l k).2.1 21 i else (mBo μ l (k + 1)).2.1 a i, μ.2.2)
theorem mBh_21 {l k i : Nat} : (mBh μ l k).2.1 21 i = (mBo μ l k).2.1 21 i := rfl
theorem mBh_o {l k a i : Nat} (h : a ≠ 21) : (mBh μ l k).2.1 a i = (mBo μ l (k + 1)).2.1 a i := if_neg h
theorem brd_s {l k i : Nat} (h : i < 7 * qg μ l k + 2 ∨ 7 * qg μ l k + 7 ≤ i) : (brd μ l (k + 1)).2.1 21 i = (brd μ l k).2.1 21 i := by
  show (m2 (m2 (m2 _ _ _ _) _ _ _) _ _ _).2.1 21 _ = _
  rw [m2_n (by omega), m2_n (by omega), m2_n (by omega)]
theorem sC_fill {post : CSt → Prop} {l : Nat} (h : CRep σ lab ad μ) (hI : MI μ j) (hl : l < μ.1 7) (hp : ∀ σ', CRep σ' lab ad (mBo μ l (mB μ l)) → capS σ ad (μ.1 7) σ' → post σ') : wpC_X3_fill_0 post σ (ad 3 l) := by
  have hc := hI.cs
  have hq := hI.qu l hl
  have hli := hI.li l hl
  have hL0 := h.li hl
  refine ⟨hL0.1.1, ?_⟩
  rw [hL0.2.2.2.2.2.1]
  refine gLP.up (μ.2.1 6 l) (fun k (x : CSt × Nat × Int32 × Int32) => k ≤ μ.2.1 6 l ∧ (∀ i : Nat, i < k → ¬ stB μ l i) ∧ CRep x.1 lab ad (mBo μ l k) ∧ capS σ ad (μ.1 7) x.1 ∧ x.2 = (ad 3 l, nI (mLf μ l k), nI k)) (fun k x h => h.1) ?_ (j := 0) ⟨Nat.zero_le _, fun i hi => absurd hi (Nat.not_lt_zero _), h.cg rfl (fun a i => ?_) rfl, fun _ _ => rfl, rfl⟩
  rotate_left
  · by_cases e5 : a = 5
    · subst e5
      rw [mBo_5]
      split
      · rfl
      · rfl
    · by_cases e6 : a = 6
      · subst e6
        rw [mBo_6]
        split
        · rename_i e; rw [e]; rfl
        · rfl
      · by_cases e21 : a = 21
        · subst e21; exact mBo_21
        · exact mBo_o ⟨e5, e6, e21⟩
  rintro k ⟨s, y⟩ P ⟨hk, hns, hC, hcap, e⟩ hP
  dsimp only at hC hcap e
  subst e
  dsimp only
  have hIk := mBo_MI hI hl hk
  have hL := hC.li (i := l) hl
  have hR := hC.ro (i := l) hl
  have e6k : (mBo μ l k).2.1 6 l = μ.2.1 6 l - k := by rw [mBo_6, if_pos rfl]
  unfold cRo at hR
  rw [e6k] at hR
  have hend : stB μ l k → post s := fun hst => hp s (by rw [mB_eq ⟨hk, hst, hns⟩]; exact hC) hcap
  refine ⟨fun e => ?_, fun e => ⟨hL.1.1, _, hL.2.1, hR.1, sC_isEmpty hR ?_⟩⟩
  · rw [show (60 : Int32) = nI 60 from rfl, nI_leI (by omega) (by omega)] at e
    exact hend (Or.inl (by omega))
  refine ⟨fun e4 => ?_, fun e4 => ⟨hL.1.1, _, hL.2.1, hR.1, ?_⟩⟩
  · by_cases e0 : μ.2.1 6 l - k = 0
    · exact hend (Or.inl (by omega))
    · rw [if_neg e0] at e4; exact absurd rfl e4
  have hkn : k < μ.2.1 6 l := by
    by_cases e0 : μ.2.1 6 l - k = 0
    · rw [if_pos e0] at e4; exact absurd e4 (by decide)
    · omega
  have e50 : ∀ q : Nat, q < μ.2.1 6 l - k → (mBo μ l k).2.1 5 (60 * l + q) = qg μ l (q + k) := fun q hq' => by rw [mBo_5, if_pos (by omega), Nat.add_assoc]
  obtain ⟨g1, g2, g3, g4⟩ := hq.2 k hkn
  have eg : (mBo μ l k).2.1 5 (60 * l + 0) = qg μ l k := by rw [e50 0 (by omega), Nat.zero_add]
  have hG := hC.gr (i := qg μ l k) g1
  have hb := hI.gr (qg μ l k) g1
  have hne : ∀ i : Nat, i < k → qg μ l i ≠ qg μ l k := fun i hi => g4 i hi
  have o21 : ∀ f : Nat, f < 7 → (mBo μ l k).2.1 21 (7 * qg μ l k + f) = μ.2.1 21 (7 * qg μ l k + f) := fun f hf => mBo_21.trans (brd_n hf k (Or.inr hne))
  have o0 : (mBo μ l k).2.1 21 (7 * qg μ l k) = μ.2.1 21 (7 * qg μ l k) := o21 0 (by decide)
  have hlf := mLf_le (μ := μ) (l := l) k
  rw [show (0 : Int32) = nI 0 from rfl]
  refine sC_get hR (by omega) ⟨_, rfl, ?_⟩
  rw [eg]
  refine ⟨hG.1.1, hG.1.1, ?_⟩
  rw [hG.2.2.1, o0, nI_ltI (by omega) (by omega)]
  refine ⟨fun e5 => hend (Or.inr e5), fun e5 => ⟨hL.1.1, _, hL.2.1, hR.1, ?_⟩⟩
  have hnst : ¬ stB μ l k := fun hst => hst.elim (by omega) e5
  obtain ⟨d, hd⟩ : ∃ d, μ.2.1 6 l - k = d + 1 := ⟨μ.2.1 6 l - k - 1, by omega⟩
  rw [hd] at hR
  have hel := (elm_L hC).2.2.2.1
  refine sC_remove0 hR (fun i hi => hel _ (by rw [e50 i (by omega)]; exact (hq.2 (i + k) (by omega)).1)) (fun σ1 k1 hR1 hcap1 => ⟨_, rfl, ?_⟩)
  rw [eg]
  have hL1 := hL.kp (ad' := ad) k1.s (by unfold addX; omega) rfl rfl
  have hG1 := hG.kp (ad' := ad) k1.s (by unfold addX; omega) rfl
  have hL1w : cI σ1 55 (ad 3 l) = nI (mWait (mBo μ l k) l) := hL1.2.2.2.2.2.2.2.2.1
  have hG1s : cI σ1 33 (ad 2 (qg μ l k)) = nI (μ.2.1 21 (7 * qg μ l k)) := by rw [← o0]; exact hG1.2.2.1
  refine ⟨hG1.1.1, hG1.1.1, hL1.1.1, hG1.1.1, hL1.1.1, ?_⟩
  -- how many wait
  have e6h : (mBh μ l k).2.1 6 l = d := by rw [mBh_o (by decide), mBo_6, if_pos rfl]; omega
  have e5h : ∀ q : Nat, q < d → (mBh μ l k).2.1 5 (60 * l + q) = qg μ l (q + 1 + k) := fun q hq' => by rw [mBh_o (by decide), mBo_5, if_pos (by omega)]; show μ.2.1 5 (60 * l + q + (k + 1)) = μ.2.1 5 (60 * l + (q + 1 + k)); rw [show 60 * l + q + (k + 1) = 60 * l + (q + 1 + k) by omega]
  have eW : mWait (mBo μ l k) l = μ.2.1 21 (7 * qg μ l k) + mWait (mBh μ l k) l := by
    unfold mWait
    rw [e6k, hd, sumN_hd, e6h]
    rw [eg, o0]
    congr 1
    refine sumN_eq (fun q hq' => ?_)
    rw [e5h q hq', mBh_21, e50 (q + 1) (by omega)]
  rw [hL1w, hG1s, nI_sub (by omega)]
  rintro s15 rfl
  have eW2 : mWait (mBo μ l k) l - μ.2.1 21 (7 * qg μ l k) = mWait (mBh μ l k) l := by omega
  rw [eW2]
  have k2 : keepS (rowX l) s lab (csI σ1 55 (ad 3 l) (nI (mWait (mBh μ l k) l))) lab := (k1.s.mono (fun a b hx => by unfold addX at hx; unfold rowX; omega)).tr ((keep_csI (lab := lab) hL1.1.1 hL1.1.2 55 _).s.mono (fun a b hx => by unfold rowX; omega))
  have hH : CRep (csI σ1 55 (ad 3 l) (nI (mWait (mBh μ l k) l))) lab ad (mBh μ l k) := by
    refine hC.setQ (by omega) hc.2.1 k2 (fun _ => ?_) (fun _ => ?_) rfl rfl (fun a h5 h6 => ?_) (fun i hi => ?_) (fun i hi hne' q hq' => ?_)
    · unfold cLi
      have x3 : ∀ i, (mBh μ l k).2.1 3 i = (mBo μ l k).2.1 3 i := fun i => by rw [mBh_o (by decide), mBo_o (by omega), mBo_o (by omega)]
      have x4 : ∀ i, (mBh μ l k).2.1 4 i = (mBo μ l k).2.1 4 i := fun i => by rw [mBh_o (by decide), mBo_o (by omega), mBo_o (by omega)]
      rw [x3, x3, x3, x3, x3, x4]
      obtain ⟨b1, b2, b3, b4, b5, b6, b7, b8, b9, b10⟩ := hL1
      refine ⟨b1, b2, ?_, ?_, ?_, ?_, ?_, ?_, ?_, ?_⟩
      · simp only [pI_csI, cu2_ap]; exact b3
      · simp only [pI_csI, cu2_ap]; exact b4
      · simp only [pI_csI, cu2_ap]; exact b5
      · simp only [pI_csI, cu2_ap]; exact b6
      · simp only [pI_csI, cu2_ap]; exact b7
      · simp only [pI_csI, cu2_ap]; exact b8
      · simp only [pI_csI, cu2_ap, if_true]
      · simp only [pI_csI, cu2_ap]; exact b10
    · unfold cRo
      rw [e6h]
      refine hR1.kp (keep_csI (lab := lab) hL1.1.1 hL1.1.2 55 _).s (by omega) (by omega) (fun q hq' => ?_)
      rw [e5h q hq', e50 (q + 1) (by omega)]
    · funext i
      by_cases e21 : a = 21
      · subst e21; rfl
      · rw [mBh_o e21, mBo_o ⟨h5, h6, e21⟩, mBo_o ⟨h5, h6, e21⟩]
    · rw [mBh_o (by decide), mBo_6, mBo_6, if_neg hi, if_neg hi]
    · have e6i : (mBo μ l k).2.1 6 i = μ.2.1 6 i := by rw [mBo_6, if_neg hne']
      rw [e6i] at hq'
      have := (hI.qu i hi).1
      rw [mBh_o (by decide), mBo_5, mBo_5, if_neg (by omega), if_neg (by omega)]
  have cap2 : capS s ad (μ.1 7) (csI σ1 55 (ad 3 l) (nI (mWait (mBh μ l k) l))) := by
    intro q hq7
    have c1 : capL σ1 (ad 0 (10 + q)) = capL s (ad 0 (10 + q)) := by
      by_cases e : q = l
      · subst e; exact hcap1
      · exact capL_kp (hC.ro (i := q) hq7) k1.s (by unfold addX; omega)
    rw [← c1]
    rfl
  generalize csI σ1 55 (ad 3 l) (nI (mWait (mBh μ l k) l)) = σ2 at hH k2 cap2 ⊢
  have hG2 := hH.gr (i := qg μ l k) g1
  have hL2 := hH.li (i := l) hl
  have x3 : ∀ i, (mBh μ l k).2.1 3 i = μ.2.1 3 i := fun i => by rw [mBh_o (by decide), mBo_o (by omega)]
  obtain ⟨o, f32, f33, f34, f35, f36, f38, f39, f40, f37⟩ := hG2
  have hL50 : cI σ2 50 (ad 3 l) = nI (μ.2.1 3 (5 * l + 1)) := by rw [← x3]; exact hL2.2.2.2.2.1
  have hL52 : cI σ2 52 (ad 3 l) = nI (μ.2.1 3 (5 * l + 3)) := by rw [← x3]; exact hL2.2.2.2.2.2.2.1
  refine ⟨o.1, o.1, ?_⟩
  rintro s1 rfl
  refine ⟨hL2.1.1, o.1, ?_⟩
  rw [show cI (csI σ2 35 (ad 2 (qg μ l k)) 2) 50 (ad 3 l) = nI (μ.2.1 3 (5 * l + 1)) by rw [pI_csI, cu2_ap, if_neg (by decide)]; exact hL50]
  rintro s2 rfl
  refine ⟨hL2.1.1, o.1, ?_⟩
  rw [show cI (csI (csI σ2 35 (ad 2 (qg μ l k)) 2) 37 (ad 2 (qg μ l k)) (nI (μ.2.1 3 (5 * l + 1)))) 52 (ad 3 l) = nI (μ.2.1 3 (5 * l + 3)) by rw [pI_csI, cu2_ap, if_neg (by decide), pI_csI, cu2_ap, if_neg (by decide)]; exact hL52]
  rintro s3 rfl
  refine ⟨o.1, o.1, ?_⟩
  have f39' : cI σ2 39 (ad 2 (qg μ l k)) = nI (μ.2.1 21 (7 * qg μ l k + 5)) := by rw [← o21 5 (by decide)]; exact f39
  rw [show cI (csI (csI (csI σ2 35 (ad 2 (qg μ l k)) 2) 37 (ad 2 (qg μ l k)) (nI (μ.2.1 3 (5 * l + 1)))) 38 (ad 2 (qg μ l k)) (nI (μ.2.1 3 (5 * l + 3)))) 39 (ad 2 (qg μ l k)) = nI (μ.2.1 21 (7 * qg μ l k + 5)) by rw [pI_csI, cu2_ap, if_neg (by decide), pI_csI, cu2_ap, if_neg (by decide), pI_csI, cu2_ap, if_neg (by decide)]; exact f39', nI_1]
  rintro s4 rfl
  have k6 := (((keep_csI (σ := σ2) (lab := lab) o.1 o.2 35 2).s.tr (keep_csI (σ := csI σ2 35 (ad 2 (qg μ l k)) 2) (lab := lab) o.1 o.2 37 (nI (μ.2.1 3 (5 * l + 1)))).s).tr (keep_csI (σ := csI (csI σ2 35 (ad 2 (qg μ l k)) 2) 37 (ad 2 (qg μ l k)) (nI (μ.2.1 3 (5 * l + 1)))) (lab := lab) o.1 o.2 38 (nI (μ.2.1 3 (5 * l + 3)))).s).tr (keep_csI (σ := csI (csI (csI σ2 35 (ad 2 (qg μ l k)) 2) 37 (ad 2 (qg μ l k)) (nI (μ.2.1 3 (5 * l + 1)))) 38 (ad 2 (qg μ l k)) (nI (μ.2.1 3 (5 * l + 3)))) (lab := lab) o.1 o.2 39 (nI (μ.2.1 21 (7 * qg μ l k + 5) + 1))).s
  obtain ⟨y2, y4, y5⟩ := brd_y (μ := μ) (l := l) (i := k) (k + 1) (by omega) (fun a b ha hb => (hq.2 a (by omega)).2.2.2 b hb)
  have o21' : ∀ f : Nat, f < 7 → (f ≠ 2 ∧ f ≠ 4 ∧ f ≠ 5) → (mBo μ l (k + 1)).2.1 21 (7 * qg μ l k + f) = μ.2.1 21 (7 * qg μ l k + f) := fun f hf h => mBo_21.trans (brd_n hf (k + 1) (Or.inl h))
  have o0' : (mBo μ l (k + 1)).2.1 21 (7 * qg μ l k) = μ.2.1 21 (7 * qg μ l k) := o21' 0 (by decide) (by decide)
  have hF : CRep (csI (csI (csI (csI σ2 35 (ad 2 (qg μ l k)) 2) 37 (ad 2 (qg μ l k)) (nI (μ.2.1 3 (5 * l + 1)))) 38 (ad 2 (qg μ l k)) (nI (μ.2.1 3 (5 * l + 3)))) 39 (ad 2 (qg μ l k)) (nI (μ.2.1 21 (7 * qg μ l k + 5) + 1))) lab ad (mBo μ l (k + 1)) := by
    refine hH.setGr k6 (fun _ => ?_) rfl rfl (fun a ha => by funext i; exact (mBh_o ha).symm) (fun i hi => by rw [mBh_21, mBo_21, mBo_21]; exact brd_s hi)
    unfold cGr
    have eep : mEp (mBo μ l (k + 1)) (qg μ l k) = μ.2.1 3 (5 * l + 1) := by
      unfold mEp
      rw [mBo_21, y2, if_pos rfl, o21' 3 (by decide) (by decide), g3, mBo_o (by omega)]
    rw [eep, o0', o21' 1 (by decide) (by decide), o21' 3 (by decide) (by decide), o21' 6 (by decide) (by decide), mBo_21, mBo_21, mBo_21, y2, y4, y5]
    rw [mBh_21, o0] at f33
    rw [mBh_21, o21 1 (by decide)] at f34
    rw [mBh_21, o21 3 (by decide)] at f36
    rw [mBh_21, o21 6 (by decide)] at f40
    refine ⟨o, ?_, ?_, ?_, ?_, ?_, ?_, ?_, ?_, fun _ => ?_⟩
    · simp only [pI_csI, cu2_ap]; exact f32
    · simp only [pI_csI, cu2_ap]; exact f33
    · simp only [pI_csI, cu2_ap]; exact f34
    · simp only [pI_csI, cu2_ap, if_true]; rfl
    · simp only [pI_csI, cu2_ap]; exact f36
    · simp only [pI_csI, cu2_ap, if_true]; rfl
    · simp only [pI_csI, cu2_ap, if_true]
    · simp only [pI_csI, cu2_ap]; exact f40
    · simp only [pI_csI, cu2_ap, if_true]; rfl
  have cap6 := capS_kp hH k6 (fun q _ => by omega)
  refine hP _ ⟨by omega, fun i hi => ?_, hF, (hcap.tr cap2).tr cap6, ?_⟩
  · by_cases e : i = k
    · subst e; exact hnst
    · exact hns i (by omega)
  · rw [nI_sub (by omega), nI_1]
    rfl
end FL
end
