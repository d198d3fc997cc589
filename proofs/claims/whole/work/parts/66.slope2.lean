section
/-! slope: its cells, the call -/
section SLQ
variable {σ : CSt} {lab : Nat → Nat} {ad : Nat → Nat → Nat} {ρ : RSt} {μ : MSt} {j : Nat} {fr to mi st k : Nat}
theorem mSlo_k {a i : Nat} (h8 : a = 8 → i ≠ 6 * μ.1 9 + 5) (h11 : a = 11 → i ≠ μ.1 14 + k) : (mSlo μ fr to mi st (k + 1)).2.1 a i = (mSlo μ fr to mi st k).2.1 a i := by
  by_cases e8 : a = 8 ∧ 6 * μ.1 9 ≤ i ∧ i < 6 * μ.1 9 + 6
  · obtain ⟨g0, g1, g2, g3, g4, -⟩ := mSlo_8 (μ := μ) (fr := fr) (to := to) (mi := mi) (st := st) (k := k)
    obtain ⟨f0, f1, f2, f3, f4, -⟩ := mSlo_8 (μ := μ) (fr := fr) (to := to) (mi := mi) (st := st) (k := k + 1)
    have := h8 e8.1
    obtain ⟨rfl, e⟩ := e8
    rcases (show i = 6 * μ.1 9 ∨ i = 6 * μ.1 9 + 1 ∨ i = 6 * μ.1 9 + 2 ∨ i = 6 * μ.1 9 + 3 ∨ i = 6 * μ.1 9 + 4 by omega) with rfl | rfl | rfl | rfl | rfl
    · rw [g0, f0]
    · rw [g1, f1]
    · rw [g2, f2]
    · rw [g3, f3]
    · rw [g4, f4]
  · unfold mSlo
    dsimp only
    rw [if_neg e8, if_neg e8]
    by_cases e11 : a = 11 ∧ μ.1 14 ≤ i ∧ i < μ.1 14 + k
    · rw [if_pos e11, if_pos ⟨e11.1, by omega⟩]
    · rw [if_neg e11, if_neg (fun e => e11 ⟨e.1, by have := h11 e.1; omega⟩)]
theorem mSlo_1k {q : Nat} (h : q ≠ 14) : (mSlo μ fr to mi st (k + 1)).1 q = (mSlo μ fr to mi st k).1 q := by
  show (if q = 14 then _ else _) = (if q = 14 then _ else _)
  rw [if_neg h, if_neg h]
theorem cell_rep {σ0 σ1 σ2 : CSt} {lab1 lab2 lab3 : Nat → Nat} {q qs : Nat} (h : CRep σ lab ad (mSlo μ fr to mi st k)) (hI : MI μ j) (h9 : μ.1 9 < 10) (h4 : k < 4)
    (hk : keepS (fun a l => (a = 1 ∧ l = μ.1 14 + k) ∨ (a = 9 ∧ l = 100 + (μ.1 14 + k))) σ lab σ0 lab1)
    (hq : cAt σ0 1 q ∧ lab1 q = μ.1 14 + k) (hqs : cAt σ0 9 qs ∧ lab1 qs = 100 + (μ.1 14 + k))
    (hf : cR σ0 17 q = some qs ∧ cI σ0 16 q = nI (μ.1 9) ∧ cI σ0 18 q = 0 ∧ cI σ0 19 q = 0 ∧ cN σ0 qs = 4 ∧ ∀ i : Nat, i < 4 → cV σ0 qs i = 0)
    (hk2 : keepS (addX 2) σ0 lab1 σ1 lab2) (hl : isL σ1 lab2 (ad 0 2) 2 (μ.1 14 + k + 1) (va_up (ad 1) (μ.1 14 + k) q))
    (hk3 : keepS (addX (20 + μ.1 9)) σ1 lab2 σ2 lab3) (hl3 : isL σ2 lab3 (ad 0 (20 + μ.1 9)) (20 + μ.1 9) (k + 1) (va_up (fun i => ad 1 (μ.1 14 + i)) k q)) :
    CRep σ2 lab3 (cu2 (cu2 ad 1 (μ.1 14 + k) q) 9 (100 + (μ.1 14 + k)) qs) (mSlo μ fr to mi st (k + 1)) := by
  have hc := hI.cs
  have hc0 := hI.c0
  unfold mC0 at hc0
  have hz := hI.ze
  have hk23 : keepS (fun a l => (a = 0 ∨ a = 10) ∧ (l = 2 ∨ l = 20 + μ.1 9)) σ0 lab1 σ2 lab3 := (hk2.mono (fun k l hx => by unfold addX at hx; omega)).tr (hk3.mono (fun k l hx => by unfold addX at hx; omega))
  have hkk : keepS (fun a l => (a = 1 ∧ l = μ.1 14 + k) ∨ (a = 9 ∧ l = 100 + (μ.1 14 + k)) ∨ ((a = 0 ∨ a = 10) ∧ (l = 2 ∨ l = 20 + μ.1 9))) σ lab σ2 lab3 :=
    (hk.mono (fun k l hx => by omega)).tr (hk23.mono (fun k l hx => by omega))
  have ea : ∀ a l : Nat, (a = 1 → l ≠ μ.1 14 + k) → (a = 9 → l ≠ 100 + (μ.1 14 + k)) → cu2 (cu2 ad 1 (μ.1 14 + k) q) 9 (100 + (μ.1 14 + k)) qs a l = ad a l := fun a l b c => by rw [adu_n c, adu_n b]
  have e1 : cu2 (cu2 ad 1 (μ.1 14 + k) q) 9 (100 + (μ.1 14 + k)) qs 1 (μ.1 14 + k) = q := by rw [adu_n (by omega), adu_s]
  have e9 : cu2 (cu2 ad 1 (μ.1 14 + k) q) 9 (100 + (μ.1 14 + k)) qs 9 (100 + (μ.1 14 + k)) = qs := adu_s
  obtain ⟨g0, g1, g2, g3, g4, g5⟩ := mSlo_8 (μ := μ) (fr := fr) (to := to) (mi := mi) (st := st) (k := k)
  obtain ⟨f0, f1, f2, f3, f4, f5⟩ := mSlo_8 (μ := μ) (fr := fr) (to := to) (mi := mi) (st := st) (k := k + 1)
  have en : ∀ q : Nat, q = 7 ∨ q = 22 ∨ q = 26 → (mSlo μ fr to mi st k).1 q = μ.1 q := fun q hq => mSlo_1 (by omega)
  refine ⟨?_, ?_, fun i hi => ?_, fun i hi => ?_, fun i hi => ?_, fun i hi => ?_, fun i hi => ?_, fun i hi => ?_, fun i hi => ?_, fun i hi => ?_, fun i hi => ?_, ?_, ?_⟩
  · exact kX h hkk (by omega) (ea _ _ (by omega) (by omega)) (fun i hi => ea _ _ (by omega) (by omega)) (ea _ _ (by omega) (by omega)) (ea _ _ (by omega) (by omega)) (fun k hk => mSlo_1k (by omega)) rfl
  · have hls := h.ls
    unfold cLs lsO at hls ⊢
    rw [mSlo_14, mSlo_9, mSlo_1 (by omega), mSlo_1 (by omega), mSlo_1 (by omega)] at hls
    rw [mSlo_14, mSlo_9, mSlo_1 (by omega), mSlo_1 (by omega), mSlo_1 (by omega), ea 0 0 (by omega) (by omega), ea 0 1 (by omega) (by omega), ea 0 2 (by omega) (by omega), ea 0 3 (by omega) (by omega), ea 0 4 (by omega) (by omega)]
    refine ⟨hls.1.kp hkk (by omega) (by omega) (fun i hi => ea _ _ (by omega) (by omega)), hls.2.1.kp hkk (by omega) (by omega) (fun i hi => ea _ _ (by omega) (by omega)), hl.kp hk3 (by unfold addX; omega) (by unfold addX; omega) (fun i hi => ?_), hls.2.2.2.1.kp hkk (by omega) (by omega) (fun i hi => ea _ _ (by omega) (by omega)), hls.2.2.2.2.kp hkk (by omega) (by omega) (fun i hi => ea _ _ (by omega) (by omega))⟩
    rw [up_ap]
    by_cases e : i = μ.1 14 + k
    · rw [if_pos e, e, e1]
    · rw [if_neg e, ea _ _ (by omega) (by omega)]
  · rw [mSlo_1k (by omega)] at hi
    exact kLi h hkk hi (by omega) (ea _ _ (by omega) (by omega)) (ea _ _ (by omega) (by omega)) (fun k hk => mSlo_k (by omega) (by omega)) (mSlo_k (by omega) (by omega)) (mWait_eq (mSlo_k (by omega) (by omega)) (fun _ _ => mSlo_k (by omega) (by omega)) (fun _ _ => mSlo_k (by omega) (by omega)))
  · rw [mSlo_1k (by omega)] at hi
    have hi' := hi
    rw [en _ (by omega)] at hi'
    exact kRo h hkk hi (by omega) (ea _ _ (by omega) (by omega)) (mSlo_k (by omega) (by omega)) (fun _ _ => mSlo_k (by omega) (by omega)) (fun _ _ => ea _ _ (by omega) (by omega))
  · rw [mSlo_1k (by omega)] at hi
    have hi' := hi
    rw [mSlo_9] at hi'
    exact kSl h hkk hi (by omega) (ea _ _ (by omega) (by omega)) (ea _ _ (by omega) (by omega)) (ea _ _ (by omega) (by omega)) (fun q hq => mSlo_k (by omega) (by omega)) (mSlo_k (by omega) (by omega)) (mNm_eq (mSlo_k (by omega) (by omega)) (fun _ => mSlo_k (by omega) (by omega)) (fun _ _ _ => ⟨mSlo_k (by omega) (by omega), mSlo_k (by omega) (by omega)⟩))
  · rw [mSlo_1k (by omega)] at hi
    have hi' := hi
    rw [mSlo_9] at hi'
    by_cases e : i = μ.1 9
    · subst e
      unfold cSc
      rw [ea _ _ (by omega) (by omega), f4, f5]
      refine hl3.re (fun i hi => ?_)
      rw [up_ap]
      by_cases e : i = k
      · rw [if_pos e, e, e1]
      · rw [if_neg e, ea _ _ (by omega) (by omega)]
    · have hs := hI.sl i (by omega)
      have ek : ∀ q : Nat, q < 6 → (mSlo μ fr to mi st k).2.1 8 (6 * i + q) = μ.2.1 8 (6 * i + q) := fun q hq => mSlo_2 (by omega) (by omega)
      refine kSc h hkk hi (by omega) (ea _ _ (by omega) (by omega)) (fun q hq => mSlo_k (by omega) (by omega)) (fun q hq => ?_)
      rw [ek 5 (by decide)] at hq
      rw [ek 4 (by decide)]
      exact ea _ _ (by omega) (by omega)
  · rw [mSlo_1k (by omega)] at hi
    have hi' := hi
    rw [mSlo_9] at hi'
    exact kCo h hkk hi (by omega) (ea _ _ (by omega) (by omega)) (mSlo_k (by omega) (by omega)) (fun _ => mSlo_k (by omega) (by omega)) (fun _ _ _ => ⟨mSlo_k (by omega) (by omega), mSlo_k (by omega) (by omega)⟩)
  · rw [mSlo_14] at hi
    by_cases e : i = μ.1 14 + k
    · subst e
      have hs := hk23.same hq.1 hq.2 (by omega)
      unfold cCe ceO obj
      have g12 : (mSlo μ fr to mi st (k + 1)).2.1 12 (μ.1 14 + k) = 0 := by rw [mSlo_2 (by omega) (by omega)]; exact (hz.2.2.2.1 _ (by omega)).1
      have g13 : (mSlo μ fr to mi st (k + 1)).2.2 13 (μ.1 14 + k) = 0 := (hz.2.2.2.1 _ (by omega)).2
      rw [e1, e9, mSlo_11 (by omega), g12, g13, hs.2.1 17 (by decide), hs.1 16 (by unfold scrI; omega), hs.1 18 (by unfold scrI; omega), hs.1 19 (by unfold scrI; omega)]
      exact ⟨⟨hk23.at hq.1, (hk23.lb hq.1).trans hq.2⟩, hf.1, hf.2.1, hf.2.2.1, hf.2.2.2.1⟩
    · exact kCe h hkk (by rw [mSlo_14]; omega) (by omega) (ea _ _ (by omega) (by omega)) (ea _ _ (by omega) (by omega)) (mSlo_k (by omega) (by omega)) (mSlo_k (by omega) (by omega)) rfl
  · rw [mSlo_14] at hi
    by_cases e : i = μ.1 14 + k
    · subst e
      have hs := hk23.same hqs.1 hqs.2 (by omega)
      unfold cSn arO obj
      rw [e9, hk23.N hqs.1, hs.2.2.2.1]
      refine ⟨⟨hk23.at hqs.1, (hk23.lb hqs.1).trans hqs.2⟩, hf.2.2.2.2.1, fun i hi => ?_⟩
      rw [hf.2.2.2.2.2 i hi]
      show 0 = nI ((mSlo μ fr to mi st (k + 1)).2.1 10 (4 * (μ.1 14 + k) + i))
      rw [mSlo_2 (by omega) (by omega), hz.2.2.1 _ (by omega)]
      rfl
    · exact kSn h hkk (by rw [mSlo_14]; omega) (by omega) (ea _ _ (by omega) (by omega)) (fun _ _ => mSlo_k (by omega) (by omega))
  · rw [mSlo_1k (by omega)] at hi
    have hi' := hi
    rw [en _ (by omega)] at hi'
    have hg := hI.gr i hi'
    have ei : ∀ q : Nat, (mSlo μ fr to mi st (k + 1)).2.1 21 q = (mSlo μ fr to mi st k).2.1 21 q := fun q => mSlo_k (by omega) (by omega)
    have ej : ∀ q : Nat, (mSlo μ fr to mi st k).2.1 21 q = μ.2.1 21 q := fun q => mSlo_2 (by omega) (by omega)
    refine kGr2 h hkk hi (by omega) (ea _ _ (by omega) (by omega)) (fun _ _ => ei _) (by rw [ej]; omega) (fun e0 => ?_)
    unfold mEp
    rw [ej] at e0
    rw [ei, ei, ej, ej]
    by_cases e : μ.2.1 21 (7 * i + 2) = 2
    · rw [if_pos e, if_pos e, mSlo_k (by omega) (by omega)]
    · rw [if_neg e, if_neg e, mSlo_k (by omega) (by omega)]
  · rw [mSlo_1k (by omega)] at hi
    have hi' := hi
    rw [en _ (by omega)] at hi'
    have hl := hI.lk i hi'
    have ej : ∀ a q : Nat, a = 23 ∨ a = 24 → (mSlo μ fr to mi st k).2.1 a q = μ.2.1 a q := fun a q ha => mSlo_2 (by omega) (by omega)
    exact kLk h hkk hi (by omega) (ea _ _ (by omega) (by omega)) (by rw [ej _ _ (by omega)]; exact ea _ _ (by omega) (by omega)) (by rw [ej _ _ (by omega)]; exact ea _ _ (by omega) (by omega)) (mSlo_k (by omega) (by omega)) (mSlo_k (by omega) (by omega)) (mSlo_k (by omega) (by omega))
  · exact h.re.kp hkk (by omega) (ea _ _ (by omega) (by omega)) (ea _ _ (by omega) (by omega))
  · exact kTp h hkk (by omega) (ea _ _ (by omega) (by omega)) (fun _ _ => rfl)
theorem sC_addCell {post : CSt → Prop} {mc ms : Nat} (h : CRep σ lab ad (mSlo μ fr to mi st k)) (hI : MI μ j) (h9 : μ.1 9 < 10) (h4 : k < 4) (hm : 4 ≤ mc ∧ 230 ≤ ms)
    (hp : ∀ σ' lab' ad', ad' 7 0 = ad 7 0 → ad' 6 (μ.1 9) = ad 6 (μ.1 9) → CRep σ' lab' ad' (mSlo μ fr to mi st (k + 1)) → post σ') : wpC_X7_addCell_0 mc ms post σ (ad 7 0) (ad 6 (μ.1 9)) := by
  have hc := hI.cs
  have hc0 := hI.c0
  unfold mC0 at hc0
  have hsl := h.sl (i := μ.1 9) (by rw [mSlo_9]; omega)
  have hsc := h.sc (i := μ.1 9) (by rw [mSlo_9]; omega)
  obtain ⟨g0, g1, g2, g3, g4, g5⟩ := mSlo_8 (μ := μ) (fr := fr) (to := to) (mi := mi) (st := st) (k := k)
  unfold cSc at hsc
  rw [g4, g5] at hsc
  have hls := h.ls
  unfold cLs lsO at hls
  rw [mSlo_14] at hls
  refine ⟨by omega, by omega, ?_⟩
  intro q hq
  rintro s2 rfl
  have nq : ∀ kd l, obj σ lab ad kd l → ¬ ad kd l = q := fun kd l ho => ne_csO hq ho.1
  refine ⟨at_csO hq hsl.1.1, by omega, by omega, ?_⟩
  intro qs hqs
  rintro s2 rfl
  have hne : ¬ q = qs := fun e => hqs (e ▸ List.mem_append_right _ List.mem_cons_self)
  have hne2 : ¬ qs = q := fun e => hne e.symm
  have a1 : cAt (csA (csO σ q 1) qs 9 (4 : Int32).toNatClampNeg) 1 q := at_csA hqs at_csOq
  have a9 : cAt (csA (csO σ q 1) qs 9 (4 : Int32).toNatClampNeg) 9 qs := at_csAq
  refine ⟨a1, ?_⟩
  rintro s3 rfl
  refine ⟨a1, ?_⟩
  rintro s4 rfl
  have e96 : cI (csO σ q 1) 96 (ad 6 (μ.1 9)) = nI (μ.1 9) := by
    show (if ad 6 (μ.1 9) = q then 0 else cI σ 96 (ad 6 (μ.1 9))) = _
    rw [if_neg (nq _ _ hsl.1)]; exact hsl.2.2.2.1
  rw [e96]
  generalize hσ0 : csI (csR (csA (csO σ q 1) qs 9 (4 : Int32).toNatClampNeg) 17 q (some qs)) 16 q (nI (μ.1 9)) = σ0
  let lab1 := va_up (va_up lab q (μ.1 14 + k)) qs (100 + (μ.1 14 + k))
  have l1 : lab1 q = μ.1 14 + k := by show va_up _ _ _ q = _; rw [va_up_ne _ _ hne, va_up_self]
  have l9 : lab1 qs = 100 + (μ.1 14 + k) := va_up_self _ _ _
  have hk : keepS (fun a l => (a = 1 ∧ l = μ.1 14 + k) ∨ (a = 9 ∧ l = 100 + (μ.1 14 + k))) σ lab σ0 lab1 := by
    subst hσ0
    have k0 := keep_csO (X := fun a l => (a = 1 ∧ l = μ.1 14 + k) ∨ (a = 9 ∧ l = 100 + (μ.1 14 + k))) hq 1 (lab := lab) (μ.1 14 + k)
    have k1 := k0.tr (keep_csA hqs 9 (4 : Int32).toNatClampNeg (100 + (μ.1 14 + k)))
    have k2 := k1.tr (keepR.mono (keep_csR (lab := lab1) a1 l1 17 (some qs)) (fun k l hx => Or.inl hx))
    exact (k2.tr (keepR.mono (keep_csI (lab := lab1) (by exact a1) l1 16 (nI (μ.1 9))) (fun k l hx => Or.inl hx))).s
  have b1 : cAt σ0 1 q := by subst hσ0; exact a1
  have b9 : cAt σ0 9 qs := by subst hσ0; exact a9
  have hf : cR σ0 17 q = some qs ∧ cI σ0 16 q = nI (μ.1 9) ∧ cI σ0 18 q = 0 ∧ cI σ0 19 q = 0 ∧ cN σ0 qs = 4 ∧ ∀ i : Nat, i < 4 → cV σ0 qs i = 0 := by
    subst hσ0
    refine ⟨?_, ?_, ?_, ?_, ?_, fun i _ => ?_⟩
    · simp [csI, csR, csA, csO, cmk, cR, cu2]
    · simp [csI, csR, csA, csO, cmk, cI, cu2]
    · simp [csI, csR, csA, csO, cmk, cI, cu2]
    · simp [csI, csR, csA, csO, cmk, cI, cu2]
    · show va_up (cN (csO σ q 1)) qs _ qs = 4
      rw [va_up_self]; rfl
    · show va_up (cV (csO σ q 1)) qs _ qs i = 0
      rw [va_up_self]
  have hX : cX σ0 lab1 ad (mSlo μ fr to mi st k) := h.x.kp hk (by omega) rfl (fun _ _ => rfl) rfl rfl
  have hL := hls.2.2.1.kp hk (by omega) (by omega) (fun i hi => rfl)
  have hS0 : cSl σ0 lab1 ad (mSlo μ fr to mi st k) (μ.1 9) := hsl.kp hk (by omega) rfl rfl rfl
  refine ⟨hX.1.1, _, hX.2.1.2.2.1, 1, 109, by omega, by omega, hL.1, ?_⟩
  have hel := elm_L h
  refine sC_add hL (by omega) (fun i hi => hk.elm (hel.2.2.1 i (by rw [mSlo_14]; exact hi))) (elm_of b1 (by omega)) (fun _ => ⟨by omega, by omega⟩) (fun σ1 lab2 k1 k2 _ => ?_)
  have hS1 : cSl σ1 lab2 ad (mSlo μ fr to mi st k) (μ.1 9) := hS0.kp k1.s (by unfold addX; omega) rfl rfl rfl
  have hL1 := (hsc.kp hk (by omega) (by omega) (fun i hi => rfl)).kp k1.s (by unfold addX; omega) (by unfold addX; omega) (fun i hi => rfl)
  refine ⟨hS1.1.1, _, hS1.2.1, 1, 109, by omega, by omega, hL1.1, ?_⟩
  refine sC_add hL1 (by omega) (fun i hi => k1.s.elm (hk.elm (hel.2.2.1 _ (by rw [mSlo_14]; omega)))) (k1.s.elm (elm_of b1 (by omega))) (fun _ => ⟨by omega, by omega⟩) (fun σ2 lab3 k3 k4 _ => ⟨by omega, by omega, ?_⟩)
  refine hp σ2 lab3 _ ?_ ?_ (cell_rep h hI h9 h4 hk ⟨b1, l1⟩ ⟨b9, l9⟩ hf k1.s k2 k3.s k4)
  · rw [adu_n (by omega), adu_n (by omega)]
  · rw [adu_n (by omega), adu_n (by omega)]
end SLQ
end
