section
/-! rule: the class, whole -/
section CRU2
variable {σ : CSt} {lab : Nat → Nat} {ad : Nat → Nat → Nat} {μ : MSt} {j : Nat} {v : Int32} {b : Nat → Nat}
/-- the code copied, the slope's fields written -/
theorem sC_told {post : Int32 → CSt → Prop} {s : Nat} {L : List Cd} (h : CRep σ lab ad (mR0 μ (-1) 0)) (hI : MI μ j) (hs : s < μ.1 9) (hL : L.length + 1 ≤ 400) (e83 : cI σ 83 (ad 5 0) = nI L.length) (e81 : cI σ 81 (ad 5 0) = nI (bitsL L)) (hv : ∀ i : Nat, i < L.length → cV σ (ad 9 0) i = nI (cw (L.getD i (0, 0)).1 (L.getD i (0, 0)).2))
    (hp : ∀ σ' lab' ad', ad' 7 0 = ad 7 0 → CRep σ' lab' ad' (mRul μ s L) → post (bcI (nI (bitsL L))) σ') : cAt σ 6 (ad 6 s) ∧ ∀ s24 : CSt, s24 = csI σ 102 (ad 6 s) 1 → cAt s24 7 (ad 7 0) ∧ ∃ a25 : Nat, cR s24 117 (ad 7 0) = some a25 ∧ cAt s24 5 a25 ∧ cAt s24 6 (ad 6 s) ∧ ∀ s26 : CSt, s26 = csI s24 103 (ad 6 s) (cI s24 81 a25) → cAt s26 7 (ad 7 0) ∧ ∃ a27 : Nat, cR s26 117 (ad 7 0) = some a27 ∧ cAt s26 5 a27 ∧ wpC_X5_codeCopy_0 (fun r29 s28 => cAt s28 6 (ad 6 s) ∧ ∀ s30 : CSt, s30 = csR s28 104 (ad 6 s) r29 → cAt s30 6 (ad 6 s) ∧ wpC_J6_bitCount_0f7a4_0 (fun r32 s31 => post r32 s31) s30 (cI s30 103 (ad 6 s))) s26 a27 := by
  have n9 : (mR0 μ (-1) 0).1 9 = μ.1 9 := mR0_1 (by decide)
  have hl : cSl σ lab ad (mR0 μ (-1) 0) s := h.sl (by rw [n9]; exact hs)
  have h7 := h.x.1
  have h5 := h.re.1
  refine ⟨hl.1.1, ?_⟩
  intro s24 hs24
  have k24 : keepS (rlX s) σ lab s24 lab := by
    rw [hs24]; exact (keep_csI hl.1.1 hl.1.2 102 1).s.mono (fun k l hx => Or.inl hx)
  have i24 : ∀ k, k ≠ 102 → cI s24 k (ad 6 s) = cI σ k (ad 6 s) := fun k hk => by rw [hs24, pI_csI, cu2_ap, if_neg hk]
  have j24 : cI s24 102 (ad 6 s) = 1 := by rw [hs24, cI_s]
  have c24 : ∀ k, cR s24 k (ad 6 s) = cR σ k (ad 6 s) := fun k => by rw [hs24]; rfl
  have v24 : cV s24 = cV σ := by rw [hs24]; rfl
  have p24 : cI s24 81 (ad 5 0) = nI (bitsL L) := by rw [hs24, pI_csI, cu2_ap, if_neg (by decide)]; exact e81
  have q24 : cI s24 83 (ad 5 0) = nI L.length := by rw [hs24, pI_csI, cu2_ap, if_neg (by decide)]; exact e83
  clear hs24
  have x24 := (k24.same h7.1 h7.2 (by unfold rlX; omega)).2.1 117 (by decide)
  refine ⟨k24.at h7.1, _, x24.trans h.x.2.1.2.2.2.2.2.1, k24.at h5.1, k24.at hl.1.1, ?_⟩
  rw [p24]
  intro s26 hs26
  have l24 := (k24.lb hl.1.1).trans hl.1.2
  have k26 : keepS (rlX s) σ lab s26 lab := by
    rw [hs26]; exact k24.tr ((keep_csI (k24.at hl.1.1) l24 103 _).s.mono (fun k l hx => Or.inl hx))
  have i26 : ∀ k, k ≠ 102 → k ≠ 103 → cI s26 k (ad 6 s) = cI σ k (ad 6 s) := fun k hk h3 => by rw [hs26, pI_csI, cu2_ap, if_neg h3]; exact i24 k hk
  have j26 : cI s26 102 (ad 6 s) = 1 := by rw [hs26, cI_n (by decide)]; exact j24
  have m26 : cI s26 103 (ad 6 s) = nI (bitsL L) := by rw [hs26, cI_s]
  have c26 : ∀ k, cR s26 k (ad 6 s) = cR σ k (ad 6 s) := fun k => by rw [hs26]; exact c24 k
  have v26 : cV s26 = cV σ := by rw [hs26]; exact v24
  have q26 : cI s26 83 (ad 5 0) = nI L.length := by rw [hs26, pI_csI, cu2_ap, if_neg (by decide)]; exact q24
  clear hs26
  have x26 := (k26.same h7.1 h7.2 (by unfold rlX; omega)).2.1 117 (by decide)
  have x82 := (k26.same h5.1 h5.2 (by unfold rlX; omega)).2.1 82 (by decide)
  have h9 := h.re.2.2.1
  have a9 := k26.at h9.1
  have N9 : cN s26 (ad 9 0) = 400 := (k26.N h9.1).trans h.re.2.2.2
  refine ⟨k26.at h7.1, _, x26.trans h.x.2.1.2.2.2.2.2.1, k26.at h5.1, k26.at h5.1, _, x82.trans h.re.2.1, k26.at h5.1, ?_⟩
  rw [q26]
  refine ⟨a9, fun _ => ⟨nI_nn (by omega), by rw [nI_clamp (by omega)]; omega, ?_⟩, fun e => ?_⟩
  rotate_left
  · rw [N9, nI_eq (by omega) (by omega)] at e; omega
  rw [nI_clamp (by omega)]
  intro q hq s3 hs3
  have k3 : keepS (rlX s) σ lab s3 (va_up lab q (200 + s)) := by rw [hs3]; exact k26.tr (keep_csA hq 9 L.length (200 + s)).s
  have hqn : ∀ {kd a : Nat}, cAt s26 kd a → ¬ a = q := fun g e => hq (by rw [← e]; exact g.1)
  have I3 : ∀ k a, cI s3 k a = cI s26 k a := fun k a => by rw [hs3, pI_csA]
  have R3 : ∀ k a, cR s3 k a = cR s26 k a := fun k a => by rw [hs3, pR_csA]
  have a3 : cAt s3 9 q := by rw [hs3]; exact at_csAq
  have N3 : cN s3 q = L.length := by rw [hs3, pN_csA, va_up_self]
  have V3 : cV s3 (ad 9 0) = cV σ (ad 9 0) := by rw [hs3, pV_csA, va_up_ne _ _ (hqn a9), v26]
  clear hs3
  have N39 : cN s3 (ad 9 0) = 400 := (k3.N h9.1).trans h.re.2.2.2
  refine ⟨k3.at h9.1, ?_⟩
  intro x4 hx4
  rw [N39, if_pos (by rw [nI_ltI (by omega) (by omega)]; omega)] at hx4
  subst hx4
  rw [nI_clamp (by omega), N39, N3, show (0 : Int32).toNatClampNeg = 0 from rfl]
  refine ⟨k3.at h9.1, a3, by decide, by decide, nI_nn (by omega), by omega, by omega, ?_⟩
  intro s5 hs5
  have k5 : keepS (rlX s) σ lab s5 (va_up lab q (200 + s)) := by rw [hs5]; exact k3.tr ((keep_csV a3 (va_up_self _ _ _) _).s.mono (fun k l hx => Or.inr hx))
  have I5 : ∀ k a, cI s5 k a = cI s26 k a := fun k a => by rw [hs5]; exact I3 k a
  have R5 : ∀ k a, cR s5 k a = cR s26 k a := fun k a => by rw [hs5]; exact R3 k a
  have a5 : cAt s5 9 q := by rw [hs5]; exact a3
  have N5 : cN s5 q = L.length := by rw [hs5]; exact N3
  have V5 : ∀ i : Nat, i < L.length → cV s5 q i = nI (cw (L.getD i (0, 0)).1 (L.getD i (0, 0)).2) := fun i hi => by
    rw [hs5, pV_csV, va_up_self]
    unfold va_cpy
    rw [if_pos (by omega), V3, show 0 + (i - 0) = i by omega]
    exact hv i hi
  clear hs5
  refine ⟨k5.at hl.1.1, ?_⟩
  intro s30 hs30
  have l5 := (k5.lb hl.1.1).trans hl.1.2
  have k30 : keepS (rlX s) σ lab s30 (va_up lab q (200 + s)) := by rw [hs30]; exact k5.tr ((keep_csR (k5.at hl.1.1) l5 104 _).s.mono (fun k l hx => Or.inl hx))
  have I30 : ∀ k a, cI s30 k a = cI s26 k a := fun k a => by rw [hs30]; exact I5 k a
  have R30 : ∀ k, k ≠ 104 → cR s30 k (ad 6 s) = cR s26 k (ad 6 s) := fun k hk => by rw [hs30, pR_csR, cu2_ap, if_neg hk]; exact R5 _ _
  have r30 : cR s30 104 (ad 6 s) = some q := by rw [hs30, pR_csR, cu2_ap, if_pos rfl, if_pos rfl]
  have a30 : cAt s30 9 q := by rw [hs30]; exact a5
  have N30 : cN s30 q = L.length := by rw [hs30]; exact N5
  have V30 : ∀ i : Nat, i < L.length → cV s30 q i = nI (cw (L.getD i (0, 0)).1 (L.getD i (0, 0)).2) := fun i hi => by rw [hs30]; exact V5 i hi
  clear hs30
  refine ⟨k30.at hl.1.1, ?_⟩
  rw [I30, m26]
  have ea : ∀ k l : Nat, (k = 9 → l ≠ 200 + s) → cu2 ad 9 (200 + s) q k l = ad k l := fun k l a => adu_n a
  have e9 : cu2 ad 9 (200 + s) q 9 (200 + s) = q := adu_s
  refine bc_C (hp s30 _ _ (ea _ _ (by omega)) (rul_rep h hI k30 (by omega) ?_ ?_))
  · have eb : mNm (mRul μ s L) s = bitsL L := by
      rw [mRul_nm hI (by omega) hs]
      unfold lnR
      rw [if_pos rfl]
    unfold cSl slO
    rw [eb, mRul_18, if_pos rfl, mRul_o (by decide), ea 6 s (by omega), ea 0 _ (by omega), e9]
    refine ⟨hl.1.kp k30 (ea _ _ (by omega)), ?_, r30, ?_, ?_, ?_, ?_, ?_, ?_, ?_⟩
    · rw [R30 _ (by decide), c26]; exact hl.2.1
    · rw [I30, i26 _ (by decide) (by decide)]; exact hl.2.2.2.1
    · rw [I30, i26 _ (by decide) (by decide)]; exact hl.2.2.2.2.1
    · rw [I30, i26 _ (by decide) (by decide)]; exact hl.2.2.2.2.2.1
    · rw [I30, i26 _ (by decide) (by decide)]; exact hl.2.2.2.2.2.2.1
    · rw [I30, i26 _ (by decide) (by decide)]; exact hl.2.2.2.2.2.2.2.1
    · rw [I30, j26]; rfl
    · rw [I30, m26]
  · have ho : obj s30 (va_up lab q (200 + s)) (cu2 ad 9 (200 + s) q) 9 (200 + s) := by
      unfold obj
      rw [e9]
      exact ⟨a30, va_up_self _ _ _⟩
    refine ⟨ho, fun _ => ⟨ho, ?_, ?_⟩⟩
    · rw [e9, N30, mRul_17, if_pos rfl]
    · rw [mRul_17, if_pos rfl, e9]
      intro i hi
      dsimp only
      rw [(mRul_row hi).1, (mRul_row hi).2]
      exact V30 i hi
theorem cO_rule {post : Int32 → CSt → Prop} {pX : String → CSt → Prop} (h : CRep σ lab ad μ) (hI : MI μ j) (hb : ∀ i : Nat, i < 400 → b i < 256 ∧ μ.2.2 1 i = sB (b i))
    (h0 : (¬ v < 0 → ¬ v < nI (μ.1 9)) → ∀ σ', CRep σ' lab ad (m1 μ 2 0) → pX "java/lang/IndexOutOfBoundsException" σ')
    (h2 : ∀ s : Nat, s < μ.1 9 → v = nI s → (pAll b (μ.1 2) (μ.1 9) (μ.1 7)).1 = false → ∀ σ', CRep σ' lab ad (mR0 μ (nI (plW b (μ.1 2) (μ.1 9) (μ.1 7))) 0) → pX "java/lang/IllegalArgumentException" σ')
    (h3 : ∀ s : Nat, s < μ.1 9 → v = nI s → (pAll b (μ.1 2) (μ.1 9) (μ.1 7)).1 = true → ¬ rgB (lnR μ s (bitsL (pAll b (μ.1 2) (μ.1 9) (μ.1 7)).2.2)) (μ.1 9) (μ.1 9) = 0 → ∀ σ', CRep σ' lab ad (mR0 μ (-1) (rgB (lnR μ s (bitsL (pAll b (μ.1 2) (μ.1 9) (μ.1 7)).2.2)) (μ.1 9) (μ.1 9))) → pX "java/lang/IllegalStateException" σ')
    (h1 : ∀ s : Nat, s < μ.1 9 → v = nI s → (pAll b (μ.1 2) (μ.1 9) (μ.1 7)).1 = true → rgB (lnR μ s (bitsL (pAll b (μ.1 2) (μ.1 9) (μ.1 7)).2.2)) (μ.1 9) (μ.1 9) = 0 → ∀ σ' lab' ad', ad' 7 0 = ad 7 0 → CRep σ' lab' ad' (mRul μ s (pAll b (μ.1 2) (μ.1 9) (μ.1 7)).2.2) → post (bcI (nI (bitsL (pAll b (μ.1 2) (μ.1 9) (μ.1 7)).2.2))) σ') : wpC_X7_rule_0 post pX σ (ad 7 0) v := by
  have hc := hI.cs
  have e2 := h.x.2.2.1
  refine ⟨h.x7, h.x7, ?_⟩
  intro s1 hs1
  have r1 : CRep s1 lab ad (m1 μ 2 0) := by
    rw [hs1]
    exact h.setX (keep_x h) ⟨h.x.1, h.x.2.1, by rw [pI_csI, cu2_ap, if_pos rfl, if_pos rfl]; rfl, h.x.2.2.2⟩ rfl (fun _ _ => rfl) (fun k hk => by show va_up μ.1 2 0 k = _; rw [up_ap, if_neg (by omega)])
  clear hs1
  have q9 : (m1 μ 2 0).1 9 = μ.1 9 := m1_n (by decide)
  have q7 : (m1 μ 2 0).1 7 = μ.1 7 := m1_n (by decide)
  refine ⟨r1.x7, sC_slopeAt r1 (by rw [q9]; omega) (fun s hs e => ?_) (fun a => h0 (by rw [q9] at a; exact a) s1 r1)⟩
  rw [q9] at hs
  have hh2 := h2 s hs e
  have hh3 := h3 s hs e
  have hh1 := h1 s hs e
  clear h0 h1 h2 h3
  refine ⟨r1.x7, _, r1.x.2.1.2.2.2.2.2.1, r1.x7, _, r1.x.2.1.2.2.2.2.2.2, r1.x7, _, r1.x.2.1.2.1, r1.ls.2.1.1, sC_size r1.ls.2.1 ⟨r1.x7, _, r1.x.2.1.1, r1.ls.1.1, sC_size r1.ls.1 ⟨r1.re.1.1, ?_⟩⟩⟩
  rw [e2, q9, q7]
  refine sC_takes (b := b) r1.re.1 r1.re.2.1 r1.re.2.2.1 r1.re.2.2.2 r1.tp.1.1 r1.tp.2.1 (fun i hi => ⟨(hb i hi).1, (r1.tp.2.2 i hi).trans (hb i hi).2⟩) (by omega) (by omega) (by omega) (fun s12 hP => ?_)
  have hok := fun g => pAll_ok (b := b) (e := μ.1 2) (nS := μ.1 9) (nL := μ.1 7) g
  unfold plW at hh2
  generalize pAll b (μ.1 2) (μ.1 9) (μ.1 7) = r at hP hh1 hh2 hh3 hok ⊢
  obtain ⟨hRd, hXT, hT, hF⟩ := hP
  have r12 : CRep s12 lab ad (m1 μ 2 0) := r1.rdr hRd.1 hRd.2.1
  clear hRd hXT r1
  have h5 := r12.re.1
  refine ⟨r12.x7, _, r12.x.2.1.2.2.2.2.2.1, h5.1, r12.x7, ?_⟩
  intro s15 hs15
  refine ⟨by rw [hs15]; exact r12.x7, ?_⟩
  intro s16 hs16
  have k16 : keepS (atX 7 0) s12 lab s16 lab := by
    rw [hs16, hs15]
    exact (keep_x r12).tr (keep_csI (σ := csI s12 122 (ad 7 0) (cI s12 80 (ad 5 0))) r12.x.1.1 r12.x.1.2 123 0).s
  have r16 : CRep s16 lab ad (mR0 μ (cI s12 80 (ad 5 0)) 0) := by
    refine rl_g r12 k16 (fun k => by rw [hs16, hs15]; rfl) (fun k => by rw [hs16, hs15]; rfl) (fun k a1 a2 => by rw [hs16, cI_n a2, hs15, cI_n a1]) (by rw [hs16, cI_n (by decide), hs15, cI_s]) (by rw [hs16, cI_s]; rfl) (fun k hk => ?_) rfl (fun _ _ => rfl)
    show va_up μ.1 2 0 k = va_up (va_up μ.1 2 0) 20 0 k
    rw [up_ap _ 20, if_neg hk]
  have V16 : cV s16 = cV s12 := by rw [hs16, hs15]; rfl
  clear hs15 hs16
  have f16 : ∀ k, ¬ scrI k → cI s16 k (ad 5 0) = cI s12 k (ad 5 0) := (k16.same h5.1 h5.2 (by unfold atX; omega)).1
  cases ho : r.1 with
  | false =>
    rw [(hF ho).1] at r16
    exact ⟨fun g => absurd rfl g, fun _ => hh2 ho s16 r16⟩
  | true =>
    obtain ⟨g1, g2, g3, g4, g5⟩ := hT ho
    rw [g1] at r16
    obtain ⟨o1, o2, o3⟩ := hok ho
    refine ⟨fun _ => ?_, fun g => absurd g (by decide)⟩
    refine ⟨r16.x7, _, r16.x.2.1.2.2.2.2.2.1, r16.re.1.1, _, rfl, r16.x7, ?_⟩
    rw [f16 81 (by unfold scrI; omega), g5]
    have n9 : (mR0 μ (-1) 0).1 9 = μ.1 9 := mR0_1 (by decide)
    refine sC_circle r16 (mR0_MI hI (by decide)) (by rw [n9]; exact hs) (fun s20 hk20 => ?_)
    have r20 := r16.nox hk20
    have h5' := r16.re.1
    have f20 := (hk20.same h5'.1 h5'.2 (fun g => g)).1
    have h9' := r16.re.2.2.1
    have v20 := (hk20.same h9'.1 h9'.2 (fun g => g)).2.2.2.1
    clear hk20
    rw [n9, show lnR (mR0 μ (-1) 0) s (bitsL r.2.2) = lnR μ s (bitsL r.2.2) from rfl]
    have hrg : rgB (lnR μ s (bitsL r.2.2)) (μ.1 9) (μ.1 9) < 1024 := by
      have h1 := rgB_lt (R := lnR μ s (bitsL r.2.2)) (m := μ.1 9) (μ.1 9)
      have h2 : (2 : Nat) ^ μ.1 9 ≤ 2 ^ 10 := Nat.pow_le_pow_right (by decide) (by omega)
      omega
    refine ⟨r20.x7, ?_⟩
    intro s22 hs22
    have k22 : keepS (atX 7 0) s20 lab s22 lab := by rw [hs22]; exact keep_x r20
    have e123 : cI s22 123 (ad 7 0) = nI (rgB (lnR μ s (bitsL r.2.2)) (μ.1 9) (μ.1 9)) := by rw [hs22, cI_s]
    have r22 : CRep s22 lab ad (mR0 μ (-1) (rgB (lnR μ s (bitsL r.2.2)) (μ.1 9) (μ.1 9))) := by
      refine rl_g r20 k22 (fun k => by rw [hs22]; rfl) (fun k => by rw [hs22]; rfl) (fun k a1 a2 => by rw [hs22, cI_n a2]) (by rw [hs22, cI_n (by decide)]; exact r20.x.2.2.2.2.2.1) e123 (fun k hk => ?_) rfl (fun _ hk => mR0_3 hk)
      show va_up (va_up μ.1 2 0) 20 0 k = va_up (va_up μ.1 2 0) 20 _ k
      rw [up_ap _ 20, if_neg hk, up_ap _ 20, if_neg hk]
    have V22 : cV s22 = cV s20 := by rw [hs22]; rfl
    clear hs22
    have f22 := (k22.same r20.re.1.1 r20.re.1.2 (by unfold atX; omega)).1
    refine ⟨r22.x7, ?_⟩
    rw [e123, show (0 : Int32) = nI 0 from rfl, nI_eq (by omega) (by omega)]
    refine ⟨fun z => ?_, fun z => hh3 ho z s22 r22⟩
    rw [z] at r22
    exact sC_told r22 hI hs (by omega) (by rw [f22 83 (by unfold scrI; omega), f20 83 (by unfold scrI; omega), f16 83 (by unfold scrI; omega)]; exact g2) (by rw [f22 81 (by unfold scrI; omega), f20 81 (by unfold scrI; omega), f16 81 (by unfold scrI; omega)]; exact g5) (fun i hi => by rw [V22, v20, V16]; exact g4 i hi) (fun σ' lab' ad' a1 a2 => hh1 ho z σ' lab' ad' a1 a2)
end CRU2
end
