section
/-! the class's minute: sending; how rows grow -/
section SD
variable {σ σ' : CSt} {lab lab' : Nat → Nat} {ad : Nat → Nat → Nat} {μ μ' : MSt} {j : Nat}
def rkC (c : Nat) : Nat := if c < 10 then 0 else if c < 15 then 1 else if c < 22 then 2 else if c < 33 then 3 else if c < 49 then 4 else if c < 73 then 5 else if c < 109 then 6 else 7
theorem rkC_le (c : Nat) : rkC c ≤ 7 := by
  unfold rkC
  split
  · omega
  · split
    · omega
    · split
      · omega
      · split
        · omega
        · split
          · omega
          · split
            · omega
            · split <;> omega
def PF (c : Nat → Nat) (n : Nat) : Nat := sumN (fun l => rkC (c l)) n
theorem PF_le (c : Nat → Nat) : ∀ n : Nat, PF c n ≤ 7 * n
  | 0 => Nat.le_refl _
  | n + 1 => by
    have h1 := PF_le c n
    have h2 := rkC_le (c n)
    show PF c n + rkC (c n) ≤ _
    omega
theorem PF_cg {c c' : Nat → Nat} {n : Nat} (h : ∀ l : Nat, l < n → c l = c' l) : PF c n = PF c' n := sumN_eq (fun l hl => by rw [h l hl])
theorem PF_up {c : Nat → Nat} {l v : Nat} : ∀ n : Nat, l < n → PF (va_up c l v) n + rkC (c l) = PF c n + rkC v
  | 0, h => absurd h (Nat.not_lt_zero _)
  | n + 1, h => by
    show PF (va_up c l v) n + rkC (va_up c l v n) + rkC (c l) = PF c n + rkC (c n) + rkC v
    rw [up_ap]
    by_cases e : n = l
    · subst e
      rw [if_pos rfl, PF_cg (c' := c) (fun i hi => by rw [up_ap, if_neg (by omega)])]
      omega
    · have := PF_up (c := c) (l := l) (v := v) n (by omega)
      rw [if_neg e]
      omega
theorem capL_ok {a m n : Nat} {f : Nat → Nat} (h : isL σ lab a m n f) : (capL σ a = 0 ∨ capOk (capL σ a)) ∧ n ≤ capL σ a := by
  obtain ⟨h1, h2, h3, h4, d, h5, h6⟩ := h
  rw [capL_of h5]
  unfold cNq
  rcases h6 with ⟨g1, g2⟩ | ⟨g1, g2, g3, g4, g5, -⟩
  · rw [if_pos g2]; exact ⟨Or.inl rfl, by omega⟩
  · rw [if_neg g1]; exact ⟨Or.inr g5, g4⟩
theorem capG_rk {n : Nat} (h : n = 0 ∨ capOk n) (h60 : n < 60) : rkC (capG n) = rkC n + 1 := by
  rcases h with rfl | rfl | rfl | rfl | rfl | rfl | rfl | rfl
  · decide
  · decide
  · decide
  · decide
  · decide
  · decide
  · omega
  · omega
/-- the rows' room -/
def cc (σ : CSt) (ad : Nat → Nat → Nat) (l : Nat) : Nat := capL σ (ad 0 (10 + l))
noncomputable def cpCho (μ : MSt) (op : Nat → Bool) (g : Nat) (c : Nat → Nat) : Nat → Nat :=
  match bsl μ op g (μ.1 9) with
  | some _ => c
  | none =>
    match bli μ g (μ.1 7) with
    | some l => if μ.2.1 6 l = c l then va_up c l (capG (c l)) else c
    | none => c
theorem cpCho_s {op : Nat → Bool} {g s : Nat} {c : Nat → Nat} (h : bsl μ op g (μ.1 9) = some s) : cpCho μ op g c = c := by unfold cpCho; rw [h]
theorem cpCho_l {op : Nat → Bool} {g l : Nat} {c : Nat → Nat} (h : bsl μ op g (μ.1 9) = none) (h2 : bli μ g (μ.1 7) = some l) : cpCho μ op g c = if μ.2.1 6 l = c l then va_up c l (capG (c l)) else c := by unfold cpCho; rw [h]; dsimp only; rw [h2]
theorem cpCho_n {op : Nat → Bool} {g : Nat} {c : Nat → Nat} (h : bsl μ op g (μ.1 9) = none) (h2 : bli μ g (μ.1 7) = none) : cpCho μ op g c = c := by unfold cpCho; rw [h]; dsimp only; rw [h2]
theorem sC_goDown {post : CSt → Prop} {g s : Nat} (h : CRep σ lab ad μ) (hI : MI μ j) (hg : g < μ.1 22) (hs : s < μ.1 9) (hp : ∀ σ', CRep σ' lab ad (mDown μ g s) → keepS (atX 2 g) σ lab σ' lab → post σ') : wpC_X2_goDown_0 post σ (ad 2 g) (ad 6 s) := by
  obtain ⟨o, f32, f33, f34, f35, f36, f38, f39, f40, f37⟩ := h.gr hg
  have hl := h.sl hs
  have hne : ¬ ad 6 s = ad 2 g := ne_kd hl.1.1 o.1 (by decide)
  obtain ⟨d1, d2, d3, d4⟩ := mDown_g (μ := μ) (g := g) (s := s)
  have k0 : keepS (atX 2 g) σ lab σ lab := keepS.rf
  refine ⟨o.1, ?_⟩
  rintro s1 rfl
  have k1 := k0.tr (keep_csI (lab := lab) o.1 o.2 35 3).s
  refine ⟨hl.1.1, o.1, ?_⟩
  rw [show cI (csI σ 35 (ad 2 g) 3) 96 (ad 6 s) = nI s by rw [pI_csI, cu2_ap, if_neg (by decide)]; exact hl.2.2.2.1]
  rintro s2 rfl
  have k2 := k1.tr (keep_csI (σ := csI σ 35 (ad 2 g) 3) (lab := lab) o.1 o.2 36 (nI s)).s
  refine ⟨hl.1.1, o.1, ?_⟩
  rw [show cI (csI (csI σ 35 (ad 2 g) 3) 36 (ad 2 g) (nI s)) 98 (ad 6 s) = nI (μ.2.1 8 (6 * s + 1)) by rw [pI_csI, cu2_ap, if_neg (by decide), pI_csI, cu2_ap, if_neg (by decide)]; exact hl.2.2.2.2.2.1]
  rintro s3 rfl
  have k3 := k2.tr (keep_csI (σ := csI (csI σ 35 (ad 2 g) 3) 36 (ad 2 g) (nI s)) (lab := lab) o.1 o.2 37 (nI (μ.2.1 8 (6 * s + 1)))).s
  refine ⟨hl.1.1, o.1, ?_⟩
  rw [show cI (csI (csI (csI σ 35 (ad 2 g) 3) 36 (ad 2 g) (nI s)) 37 (ad 2 g) (nI (μ.2.1 8 (6 * s + 1)))) 99 (ad 6 s) = nI (μ.2.1 8 (6 * s + 2)) by rw [pI_csI, cu2_ap, if_neg (by decide), pI_csI, cu2_ap, if_neg (by decide), pI_csI, cu2_ap, if_neg (by decide)]; exact hl.2.2.2.2.2.2.1]
  rintro s4 rfl
  have k4 := k3.tr (keep_csI (σ := csI (csI (csI σ 35 (ad 2 g) 3) 36 (ad 2 g) (nI s)) 37 (ad 2 g) (nI (μ.2.1 8 (6 * s + 1)))) (lab := lab) o.1 o.2 38 (nI (μ.2.1 8 (6 * s + 2)))).s
  refine ⟨o.1, o.1, ?_⟩
  rw [show cI (csI (csI (csI (csI σ 35 (ad 2 g) 3) 36 (ad 2 g) (nI s)) 37 (ad 2 g) (nI (μ.2.1 8 (6 * s + 1)))) 38 (ad 2 g) (nI (μ.2.1 8 (6 * s + 2)))) 40 (ad 2 g) = nI (μ.2.1 21 (7 * g + 6)) by rw [pI_csI, cu2_ap, if_neg (by decide), pI_csI, cu2_ap, if_neg (by decide), pI_csI, cu2_ap, if_neg (by decide), pI_csI, cu2_ap, if_neg (by decide)]; exact f40, nI_1]
  rintro s5 rfl
  have k5 := k4.tr (keep_csI (σ := csI (csI (csI (csI σ 35 (ad 2 g) 3) 36 (ad 2 g) (nI s)) 37 (ad 2 g) (nI (μ.2.1 8 (6 * s + 1)))) 38 (ad 2 g) (nI (μ.2.1 8 (6 * s + 2)))) (lab := lab) o.1 o.2 40 (nI (μ.2.1 21 (7 * g + 6) + 1))).s
  refine hp _ (h.setGr k5 (fun _ => ?_) rfl rfl (fun k hk => by funext i; exact mDown_2 (Or.inl hk)) (fun i hi => mDown_2 (by omega))) k5
  have eep : mEp (mDown μ g s) g = μ.2.1 8 (6 * s + 1) := by unfold mEp; rw [d1, d2, if_neg (by decide), mDown_2 (by omega)]
  unfold cGr
  rw [d1, d2, d3, d4, eep, mDown_2 (by omega), mDown_2 (by omega), mDown_2 (by omega)]
  refine ⟨o, ?_, ?_, ?_, ?_, ?_, ?_, ?_, ?_, fun _ => ?_⟩
  · simp only [pI_csI, cu2_ap]; exact f32
  · simp only [pI_csI, cu2_ap]; exact f33
  · simp only [pI_csI, cu2_ap]; exact f34
  · simp only [pI_csI, cu2_ap, if_true]; rfl
  · simp only [pI_csI, cu2_ap, if_true]; rfl
  · simp only [pI_csI, cu2_ap, if_true]; rfl
  · simp only [pI_csI, cu2_ap]; exact f39
  · simp only [pI_csI, cu2_ap, if_true]
  · simp only [pI_csI, cu2_ap, if_true]; rfl
theorem sC_queue {post : CSt → Prop} {g l mc ms : Nat} (h : CRep σ lab ad μ) (hI : MI μ j) (hg : g < μ.1 22) (hl : l < μ.1 7) (h0 : μ.2.1 21 (7 * g + 2) = 0) (hm : μ.2.1 6 l = cc σ ad l → 1 ≤ mc ∧ 109 ≤ ms) (hp : ∀ σ' lab', CRep σ' lab' ad (mQue μ g l) → (∀ q : Nat, q < μ.1 7 → cc σ' ad q = (if μ.2.1 6 l = cc σ ad l then va_up (cc σ ad) l (capG (cc σ ad l)) else cc σ ad) q) → post σ') : wpC_X2_waitAt_0 (fun s9 => ∃ m10 m11 : Nat, 0 + m10 ≤ mc ∧ 0 + m11 ≤ ms ∧ cAt s9 3 (ad 3 l) ∧ wpC_X3_takeLast_0 m10 m11 (fun s12 => 0 + m10 ≤ mc ∧ 0 + m11 ≤ ms ∧ post s12) s9 (ad 3 l) (ad 2 g)) σ (ad 2 g) (ad 3 l) := by
  have hc := hI.cs
  have hroom := qu_room hI hg hl h0
  obtain ⟨o, f32, f33, f34, f35, f36, f38, f39, f40, f37⟩ := h.gr hg
  have hL := h.li hl
  have hq := hI.qu l hl
  have hb := hI.gr g hg
  let μ1 : MSt := m2 (m2 μ 21 (7 * g + 2) 1) 21 (7 * g + 3) l
  have u2 : ∀ k i, (k ≠ 21 ∨ (i ≠ 7 * g + 2 ∧ i ≠ 7 * g + 3)) → μ1.2.1 k i = μ.2.1 k i := fun k i hx => (m2_n (by omega)).trans (m2_n (by omega))
  have u21 : μ1.2.1 21 (7 * g + 2) = 1 := (m2_n (by omega)).trans m2_s
  have u31 : μ1.2.1 21 (7 * g + 3) = l := m2_s
  have hone : cI σ 48 (ad 3 l) = nI l := hL.2.2.1
  refine ⟨o.1, ?_⟩
  rintro s1 rfl
  refine ⟨hL.1.1, o.1, ?_⟩
  rw [show cI (csI σ 35 (ad 2 g) 1) 48 (ad 3 l) = nI l by rw [pI_csI, cu2_ap, if_neg (by decide)]; exact hone]
  rintro s2 rfl
  have k2 := (keep_csI (lab := lab) o.1 o.2 35 1).s.tr (keep_csI (σ := csI σ 35 (ad 2 g) 1) (lab := lab) o.1 o.2 36 (nI l)).s
  have h1 : CRep (csI (csI σ 35 (ad 2 g) 1) 36 (ad 2 g) (nI l)) lab ad μ1 := by
    refine h.setGr k2 (fun _ => ?_) rfl rfl (fun k hk => by funext i; exact u2 k i (Or.inl hk)) (fun i hi => u2 _ _ (by omega))
    unfold cGr
    rw [u21, u31, u2 _ _ (by omega), u2 _ _ (by omega), u2 _ _ (by omega), u2 _ _ (by omega), u2 _ _ (by omega)]
    refine ⟨o, ?_, ?_, ?_, ?_, ?_, ?_, ?_, ?_, fun e => e.elim (fun e => absurd e (by decide)) (fun e => absurd e (by decide))⟩
    · simp only [pI_csI, cu2_ap]; exact f32
    · simp only [pI_csI, cu2_ap]; exact f33
    · simp only [pI_csI, cu2_ap]; exact f34
    · simp only [pI_csI, cu2_ap, if_true]; rfl
    · simp only [pI_csI, cu2_ap, if_true]
    · simp only [pI_csI, cu2_ap]; exact f38
    · simp only [pI_csI, cu2_ap]; exact f39
    · simp only [pI_csI, cu2_ap]; exact f40
  generalize hσ1 : csI (csI σ 35 (ad 2 g) 1) 36 (ad 2 g) (nI l) = σ1 at h1 k2 ⊢
  have cap1 : capS σ ad (μ.1 7) σ1 := capS_kp h k2 (by omega)
  have hL1 := h1.li (i := l) hl
  have hR1 := h1.ro (i := l) hl
  have hG1 := h1.gr (i := g) hg
  unfold cRo at hR1
  rw [u2 _ _ (by omega)] at hR1
  have hel := (elm_L h1).2.2.2.1
  refine ⟨mc, ms, by omega, by omega, hL1.1.1, hL1.1.1, _, hL1.2.1, mc, ms, by omega, by omega, hR1.1, ?_⟩
  refine sC_add hR1 (by omega) (fun i hi => hel _ (by rw [u2 _ _ (by omega)]; exact (hq.2 i hi).1)) (hel g hg) (fun e => hm (by rw [e]; exact cap1 l hl)) (fun σ2 lab2 k3 hR2 hcap => ?_)
  have hL2 := (h1.li (i := l) hl).kp (ad' := ad) k3.s (by unfold addX; omega) rfl rfl
  have hG2 := (h1.gr (i := g) hg).kp (ad' := ad) k3.s (by unfold addX; omega) rfl
  have hLw : cI σ2 55 (ad 3 l) = nI (mWait μ1 l) := hL2.2.2.2.2.2.2.2.2.1
  have hGs : cI σ2 33 (ad 2 g) = nI (μ1.2.1 21 (7 * g)) := hG2.2.2.1
  refine ⟨hL2.1.1, hG2.1.1, hL2.1.1, ?_⟩
  rw [hLw, hGs, nI_add]
  rintro s7 rfl
  have k4 : keepS (rowX l) σ1 lab (csI σ2 55 (ad 3 l) (nI (mWait μ1 l + μ1.2.1 21 (7 * g)))) lab2 := (k3.s.mono (fun k a hx => by unfold addX at hx; unfold rowX; omega)).tr ((keep_csI (lab := lab2) hL2.1.1 hL2.1.2 55 _).s.mono (fun k a hx => by unfold rowX; omega))
  obtain ⟨d1, d2, d3, d4⟩ := mQue_g (μ := μ) (g := g) (l := l)
  have eW1 : mWait μ1 l = mWait μ l := mWait_eq (u2 _ _ (by omega)) (fun _ _ => u2 _ _ (by omega)) (fun _ _ => u2 _ _ (by omega))
  have eq21 : ∀ i, (mQue μ g l).2.1 21 i = μ1.2.1 21 i := fun i => (m2_n (by omega)).trans (m2_n (by omega))
  have eW : mWait (mQue μ g l) l = mWait μ1 l + μ1.2.1 21 (7 * g) := by
    unfold mWait
    rw [d4]
    show sumN _ (μ.2.1 6 l) + (fun k => (mQue μ g l).2.1 21 (7 * (mQue μ g l).2.1 5 (60 * l + k))) (μ.2.1 6 l) = _
    rw [show μ1.2.1 6 l = μ.2.1 6 l from u2 _ _ (by omega)]
    dsimp only
    rw [d3, eq21]
    congr 1
    exact sumN_eq (fun k hk => by rw [mQue_2 (k := 5) (by omega) (by omega) (by omega), eq21, u2 5 _ (by omega)])
  refine ⟨by omega, by omega, by omega, by omega, hp _ lab2 (h1.setQ (by omega) hc.2.1 k4 (fun _ => ?_) (fun _ => ?_) rfl rfl (fun k h5 h6 => ?_) (fun i hi => ?_) (fun i hi hne k hk => ?_)) (fun q hq7 => ?_)⟩
  · unfold cLi
    rw [eW, mQue_2 (k := 3) (by omega) (by omega) (by omega), mQue_2 (k := 3) (by omega) (by omega) (by omega), mQue_2 (k := 3) (by omega) (by omega) (by omega), mQue_2 (k := 3) (by omega) (by omega) (by omega), mQue_2 (k := 3) (by omega) (by omega) (by omega), mQue_2 (k := 4) (by omega) (by omega) (by omega)]
    obtain ⟨b1, b2, b3, b4, b5, b6, b7, b8, b9, b10⟩ := hL2
    rw [u2 _ _ (by omega)] at b4 b5 b6 b7 b8 b10
    refine ⟨b1, b2, ?_, ?_, ?_, ?_, ?_, ?_, ?_, ?_⟩
    · simp only [pI_csI, cu2_ap]; exact b3
    · simp only [pI_csI, cu2_ap]; exact b4
    · simp only [pI_csI, cu2_ap]; exact b5
    · simp only [pI_csI, cu2_ap]; exact b6
    · simp only [pI_csI, cu2_ap]; exact b7
    · simp only [pI_csI, cu2_ap]; exact b8
    · simp only [pI_csI, cu2_ap, if_true]
    · simp only [pI_csI, cu2_ap]; exact b10
  · unfold cRo
    rw [d4]
    refine hR2.kp (keep_csI (lab := lab2) hL2.1.1 hL2.1.2 55 _).s (by omega) (by omega) (fun k hk => ?_)
    rw [up_ap]
    by_cases e : k = μ.2.1 6 l
    · subst e; rw [if_pos rfl, d3]
    · rw [if_neg e, mQue_2 (k := 5) (by omega) (by omega) (by omega), u2 5 _ (by omega)]
  · funext i
    exact (m2_n (by omega)).trans (m2_n (by omega))
  · exact (m2_n (by omega)).trans (m2_n (by omega))
  · have := (hI.qu i hi).1
    have e6 : μ1.2.1 6 i = μ.2.1 6 i := u2 _ _ (by omega)
    rw [e6] at hk
    exact (m2_n (by omega)).trans (m2_n (by omega))
  · have e1 : cc (csI σ2 55 (ad 3 l) (nI (mWait μ1 l + μ1.2.1 21 (7 * g)))) ad q = cc σ2 ad q := rfl
    rw [e1]
    by_cases e : q = l
    · subst e
      show capL σ2 (ad 0 (10 + q)) = _
      rw [hcap, show capL σ1 (ad 0 (10 + q)) = cc σ ad q from cap1 q hl]
      by_cases e2 : μ.2.1 6 q = cc σ ad q
      · rw [if_pos e2, if_pos e2, up_ap, if_pos rfl, e2]
      · rw [if_neg e2, if_neg e2]
    · have e3 : cc σ2 ad q = cc σ ad q := (capL_kp (h1.ro (i := q) hq7) k3.s (by unfold addX; omega)).trans (cap1 q hq7)
      rw [e3]
      split
      · rw [up_ap, if_neg e]
      · rfl
end SD
end
