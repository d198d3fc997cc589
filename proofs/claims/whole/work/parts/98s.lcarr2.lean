section
/-! least: the reference carries -/
section LR7
variable {ρ ρ' s s' : RSt} {μ : MSt} {j n : Nat} {w y yq : Nat → Nat → Int} {sp ms U V co hs : Nat → Int} {bf : Nat → Option Nat} {Tot am : Int} {t h q : Nat} {I C : Nat → Nat}
def SX (s : RSt) (μ : MSt) (w y : Nat → Nat → Int) (hs : Nat → Int) : Prop := WV s (μ.1 14) w ∧ (∀ i j : Nat, i < μ.1 14 → j < μ.1 14 → (s.2.2 43 (40 * i + j)).toInt = y i j) ∧ (∀ v : Nat, v < μ.1 14 → (s.2.2 44 v).toInt = hs v) ∧ ∀ v : Nat, v < μ.1 14 → (s.2.1 47 v ≠ 0 ↔ 0 < lSx μ v) ∧ (s.2.1 48 v ≠ 0 ↔ 0 < lMx μ v)
theorem SX.upy (h : SX s μ w y hs) (hn : μ.1 14 ≤ 40) {i0 j0 : Nat} {v : Int64} (hi : i0 < μ.1 14) (hj : j0 < μ.1 14) : SX (rsJ s 43 (40 * i0 + j0) v) μ w (up2 y i0 j0 v.toInt) hs := by
  refine ⟨fun i j hi hj => by rw [rJ_n (by decide)]; exact h.1 i j hi hj, fun i j hi' hj' => ?_, fun v hv => by rw [rJ_n (by decide)]; exact h.2.2.1 v hv, h.2.2.2⟩
  rw [rJ_s]
  by_cases c : i = i0 ∧ j = j0
  · obtain ⟨rfl, rfl⟩ := c
    rw [if_pos rfl, up2_s]
  · rw [if_neg (by omega), up2_n c]
    exact h.2.1 i j hi' hj'
theorem SX.uph (h : SX s μ w y hs) {p : Nat} {v : Int64} : SX (rsJ s 44 p v) μ w y (updZ hs p v.toInt) := by
  refine ⟨fun i j hi hj => by rw [rJ_n (by decide)]; exact h.1 i j hi hj, fun i j hi hj => by rw [rJ_n (by decide)]; exact h.2.1 i j hi hj, fun u hu => ?_, h.2.2.2⟩
  rw [rJ_s]
  by_cases c : u = p
  · subst c; rw [if_pos rfl, updZ_s]
  · rw [if_neg c, updZ_n c]; exact h.2.2.1 u hu
theorem sR_carries {post : Int64 → RSt → Prop} (hI : MI μ j) (hj : j ≤ 512) (hF : SF ρ μ w y sp ms) (hQ : QJ (μ.1 14) (lMx μ) (lSx μ) (lTot μ) w y sp ms U V) (hV : SV ρ (μ.1 14) co bf) (hP : Pth (μ.1 14) bf t h I C) (hT1 : ∀ q : Nat, q ≤ h → TA w (lMx μ) (lSx μ) co (I q) (C q)) (hT2 : ∀ q : Nat, q < h → TA w (lMx μ) (lSx μ) co (I q) (C (q + 1)) ∧ 0 < y (I q) (C (q + 1))) (ht : t < μ.1 14) (hms : 0 < ms t) (hsp : 0 < sp (I h)) (hco : 0 ≤ co (40 + t) ∧ co (40 + t) ≤ 3900)
    (hq : ∀ s am yq (W : Int64), lsK ρ s → 0 < am → am ≤ ms t → am ≤ sp (I h) → YI (μ.1 14) w y (lMx μ) (lSx μ) co t h I C am h yq → SF s μ w yq (updZ sp (I h) (sp (I h) - am)) (updZ ms t (ms t - am)) → W.toInt = am * co (40 + t) → post W s) : wpR_carries_0 post ρ (nI t) := by
  have hN := ntOk hI
  have hn := hN.1
  have hTot := lTot_bd hI hj
  have hsum : 0 ≤ sumZ ms (μ.1 14) := sumZ_nn (fun v hv => (hQ.2.2.2.1 v hv).2.2.1)
  have hyb : ∀ i j : Nat, i < μ.1 14 → j < μ.1 14 → 0 ≤ y i j ∧ y i j ≤ 40000000 := fun i j hi hj => by
    have := hQ.1 i j hi hj; omega
  have hIC : ∀ q : Nat, q ≤ h → C q < μ.1 14 ∧ I q < μ.1 14 := fun q hq => (hP.2.1 q hq).1
  have hC0 := hP.1
  have hb1 : ∀ q : Nat, q ≤ h → ρ.2.1 46 (40 + C q) = nI (I q) := fun q hq => by
    have h1 := (hP.2.1 q hq).2.1
    have h2 := hIC q hq
    rw [(hV (40 + C q) (Or.inr ⟨by omega, by omega⟩)).2, h1]
    show nI (I q % 40) = nI (I q)
    congr 1; omega
  have hb2 : ∀ q : Nat, q < h → ρ.2.1 46 (I q) = nI (C (q + 1)) := fun q hq => by
    have h2 := hIC q (by omega)
    have h3 := hIC (q + 1) (by omega)
    rw [(hV (I q) (Or.inl h2.2)).2, hP.2.2.1 q hq]
    show nI ((40 + C (q + 1)) % 40) = nI (C (q + 1))
    congr 1; omega
  have hb3 : ρ.2.1 46 (I h) = -1 := by
    rw [(hV (I h) (Or.inl (hIC h (Nat.le_refl _)).2)).2, hP.2.2.2]
  have hxt := lx_or hI hj hQ ht
  have hxs := lx_or hI hj hQ (hIC h (Nat.le_refl _)).2
  have r44t := hF.2.2.1 t ht
  have r44s := hF.2.2.1 (I h) (hIC h (Nat.le_refl _)).2
  have hne : I h ≠ t := fun e => by rw [e] at hsp; omega
  have rct := (hV (40 + t) (Or.inr ⟨by omega, by omega⟩)).1
  have hm : (-(ρ.2.2 44 t)).toInt = ms t := by rw [i64_neg (by omega), r44t]; omega
  have h0t := hb1 0 (Nat.zero_le _)
  rw [hC0] at h0t
  unfold wpR_carries_0
  rw [n40, nI_clamp (n := t) (by omega), nI_clamp (n := 40 + t) (by omega), h0t]
  refine ⟨vp_in_nI (by omega) (by omega), vp_in_nI (by omega) (by omega), ?_⟩
  refine gLP.up h (fun q (x : RSt × Int32 × Int64 × Int32) => q ≤ h ∧ ((0 < x.2.2.1.toInt ∧ x.2.2.1.toInt ≤ ms t) ∧ ∀ q' : Nat, q' < q → x.2.2.1.toInt ≤ y (I q') (C (q' + 1))) ∧ (x.1, x.2.1, x.2.2.2) = (ρ, nI t, nI (I q))) (fun i x h => h.1) ?_ (j := 0) ⟨Nat.zero_le _, ⟨⟨by (try dsimp only); rw [hm]; exact hms, by (try dsimp only); rw [hm]; exact Int.le_refl _⟩, fun q hq => absurd hq (Nat.not_lt_zero _)⟩, rfl⟩
  rintro q ⟨s, w0, a, w1⟩ P ⟨hqh, ⟨p1, p2⟩, e⟩ hPP
  (try dsimp only at p1 p2 e)
  obtain ⟨rfl, rfl, rfl⟩ := (show s = ρ ∧ w0 = nI t ∧ w1 = nI (I q) from ⟨congrArg Prod.fst e, congrArg (fun z => z.2.1) e, congrArg (fun z => z.2.2) e⟩)
  clear e
  (try dsimp only)
  obtain ⟨cq, iq⟩ := hIC q hqh
  unfold wpR_carries_23_F
  rw [nI_clamp (n := I q) (by omega)]
  by_cases hlast : q = h
  · subst hlast
    rw [hb3]
    refine ⟨vp_in_nI (by omega) (by omega), fun _ => ⟨vp_in_nI (by omega) (by omega), ?_⟩, fun e => absurd (by decide) e⟩
    intro x5 hx5
    have t5 : 0 < x5.toInt ∧ x5.toInt ≤ a.toInt ∧ x5.toInt ≤ sp (I q) := by
      rw [hx5]
      by_cases c : s.2.2 44 (I q) < a
      · rw [if_pos c]
        rw [Int64.lt_iff_toInt_lt, r44s] at c
        omega
      · rw [if_neg c]
        rw [Int64.lt_iff_toInt_lt, r44s] at c
        omega
    clear hx5
    refine ⟨vp_in_nI (by omega) (by omega), vp_in_nI (by omega) (by omega), ?_⟩
    intro s6 hs6
    have hF0 : SX s μ w y (fun v => sp v - ms v) := hF
    have f6 := hF0.uph (p := I q) (v := s.2.2 44 (I q) - x5)
    rw [i64_sub (by rw [r44s]; omega) (by rw [r44s]; omega), r44s, ← hs6] at f6
    have k6 : lsK s s6 := by rw [hs6]; exact lsK.J (by decide)
    have b6 : ∀ k, s6.2.1 46 k = s.2.1 46 k := fun k => by rw [hs6]; rfl
    have c6 : ∀ k, s6.2.2 45 k = s.2.2 45 k := fun k => by rw [hs6, rJ_n (by decide)]
    clear hs6
    refine ⟨vp_in_nI (by omega) (by omega), vp_in_nI (by omega) (by omega), ?_⟩
    intro s7 hs7
    rw [nI_clamp (n := t) (by omega)] at hs7
    have r6 := f6.2.2.1 t ht
    rw [updZ_n (fun g => hne g.symm)] at r6
    (try dsimp only at r6)
    have f7 := f6.uph (p := t) (v := s6.2.2 44 t + x5)
    rw [i64_add (by rw [r6]; omega) (by rw [r6]; omega), r6, ← hs7] at f7
    have k7 : lsK s s7 := by rw [hs7]; exact k6.tr (lsK.J (by decide))
    have b7 : ∀ k, s7.2.1 46 k = s.2.1 46 k := fun k => by rw [hs7]; exact b6 k
    have c7 : ∀ k, s7.2.2 45 k = s.2.2 45 k := fun k => by rw [hs7, rJ_n (by decide)]; exact c6 k
    clear hs7
    rw [n40, nI_clamp (n := 40 + t) (by omega), b7, h0t]
    have i1 : (40 : Int32) * nI (I 0) + nI t = nI (40 * I 0 + t) := ix rfl rfl
    have hi0 := (hIC 0 (Nat.zero_le _)).2
    rw [i1, nI_clamp (n := 40 * I 0 + t) (by omega)]
    refine ⟨vp_in_nI (by omega) (by omega), vp_in_nI (by omega) (by omega), vp_in_nI (by omega) (by omega), vp_in_nI (by omega) (by omega), ?_⟩
    intro s8 hs8
    have r7 := f7.2.1 (I 0) t hi0 ht
    have yb := hyb (I 0) t hi0 ht
    have f8 := f7.upy hn (v := s7.2.2 43 (40 * I 0 + t) + x5) hi0 ht
    rw [i64_add (by rw [r7]; omega) (by rw [r7]; omega), r7, ← hs8] at f8
    have k8 : lsK s s8 := by rw [hs8]; exact k7.tr (lsK.J (by decide))
    have b8 : ∀ k, s8.2.1 46 k = s.2.1 46 k := fun k => by rw [hs8]; exact b7 k
    clear hs8
    have hW : (x5 * s7.2.2 45 (40 + t)).toInt = x5.toInt * co (40 + t) := by
      have hm1 : 0 ≤ x5.toInt * co (40 + t) := Int.mul_nonneg (by omega) hco.1
      have hm2 : x5.toInt * co (40 + t) ≤ 1000000 * 3900 := Int.mul_le_mul (by omega) hco.2 hco.1 (by decide)
      rw [c7, i64_mul (by rw [rct]; omega) (by rw [rct]; omega), rct]
    have hY0 : YI (μ.1 14) w y (lMx μ) (lSx μ) co t q I C x5.toInt 0 (up2 y (I 0) t (y (I 0) t + x5.toInt)) := YI.ini hP hT1 (fun i j hi hj => (hyb i j hi hj).1) (by omega)
    have hy0 : ∀ i j : Nat, i < μ.1 14 → j < μ.1 14 → 0 ≤ y i j := fun i j hi hj => (hyb i j hi hj).1
    generalize hWg : x5 * s7.2.2 45 (40 + t) = W at hW ⊢
    refine gLP.up q (fun u (x : RSt × Int64 × Int32 × Int64) => u ≤ q ∧ lsK s x.1 ∧ (∀ k, x.1.2.1 46 k = s.2.1 46 k) ∧ (∃ yq, YI (μ.1 14) w y (lMx μ) (lSx μ) co t q I C x5.toInt u yq ∧ SX x.1 μ w yq (updZ (updZ (fun v => sp v - ms v) (I q) (sp (I q) - ms (I q) - x5.toInt)) t (sp t - ms t + x5.toInt))) ∧ x.2 = (x5, nI (I u), W)) (fun i x h => h.1) ?_ (j := 0) ⟨Nat.zero_le _, k8, b8, ⟨_, hY0, f8⟩, rfl⟩
    clear hWg f8 hY0 k8 b8 r7 f7 k7 b7 c7 r6 f6 k6 b6 c6 hPP s7
    rintro u ⟨s9, y9⟩ P9 ⟨hu, k9, b9, ⟨yq, hY, f9⟩, e9⟩ hP9
    (try dsimp only at k9 b9 f9 e9)
    subst e9
    (try dsimp only)
    obtain ⟨cu, iu⟩ := hIC u (by omega)
    unfold wpR_carries_153_F
    rw [nI_clamp (n := I u) (by omega), b9]
    by_cases hlu : u = q
    · subst hlu
      rw [hb3]
      refine ⟨vp_in_nI (by omega) (by omega), fun _ => ?_, fun e => absurd (by decide) e⟩
      refine hq s9 x5.toInt yq W k9 t5.1 (by omega) t5.2.2 hY ⟨f9.1, f9.2.1, fun v hv => ?_, f9.2.2.2⟩ hW
      rw [f9.2.2.1 v hv]
      by_cases c1 : v = t
      · subst c1
        rw [updZ_s, updZ_n (fun g => hne g.symm), updZ_s]; omega
      · rw [updZ_n c1]
        by_cases c2 : v = I u
        · rw [c2, updZ_s, updZ_s, updZ_n hne]; omega
        · rw [updZ_n c2, updZ_n c2, updZ_n c1]
    · have huq : u < q := by omega
      obtain ⟨cu1, iu1⟩ := hIC (u + 1) (by omega)
      rw [hb2 u huq]
      have i2 : (40 : Int32) * nI (I u) + nI (C (u + 1)) = nI (40 * I u + C (u + 1)) := ix rfl rfl
      rw [i2, nI_clamp (n := 40 * I u + C (u + 1)) (by omega), n40, nI_clamp (n := 40 + C (u + 1)) (by omega)]
      refine ⟨vp_in_nI (by omega) (by omega), fun e => absurd e (nI_nn (by omega)), fun _ => ⟨vp_in_nI (by omega) (by omega), vp_in_nI (by omega) (by omega), vp_in_nI (by omega) (by omega), ?_⟩⟩
      intro s2 hs2
      have g1 := hY.2.2.2.1 u (Nat.le_refl _) huq
      have g2 := hY.2.2.2.2.1 (u + 1) (by omega) (by omega)
      have g3 := p2 u huq
      have yb1 := hyb (I u) (C (u + 1)) iu cu1
      have yb2 := hyb (I (u + 1)) (C (u + 1)) iu1 cu1
      have r9 := f9.2.1 (I u) (C (u + 1)) iu cu1
      rw [g1] at r9
      have f2 := f9.upy hn (v := s9.2.2 43 (40 * I u + C (u + 1)) - x5) iu cu1
      rw [i64_sub (by rw [r9]; omega) (by rw [r9]; omega), r9, ← hs2] at f2
      have k2 : lsK s s2 := by rw [hs2]; exact k9.tr (lsK.J (by decide))
      have b2 : ∀ k, s2.2.1 46 k = s.2.1 46 k := fun k => by rw [hs2]; exact b9 k
      clear hs2
      rw [b2, hb1 (u + 1) (by omega)]
      have i3 : (40 : Int32) * nI (I (u + 1)) + nI (C (u + 1)) = nI (40 * I (u + 1) + C (u + 1)) := ix rfl rfl
      rw [i3, nI_clamp (n := 40 * I (u + 1) + C (u + 1)) (by omega)]
      refine ⟨vp_in_nI (by omega) (by omega), vp_in_nI (by omega) (by omega), vp_in_nI (by omega) (by omega), ?_⟩
      intro s3 hs3
      have hneI := (hP.ne (a := u) (b := u + 1) (by omega) (by omega) (by omega)).1
      have r2 := f2.2.1 (I (u + 1)) (C (u + 1)) iu1 cu1
      rw [up2_n (fun g => hneI g.1.symm), g2] at r2
      have f3 := f2.upy hn (v := s2.2.2 43 (40 * I (u + 1) + C (u + 1)) + x5) iu1 cu1
      rw [i64_add (by rw [r2]; omega) (by rw [r2]; omega), r2, ← hs3] at f3
      refine hP9 _ ⟨by omega, by rw [hs3]; exact k2.tr (lsK.J (by decide)), fun k => by rw [hs3]; exact b2 k, ⟨_, hY.step hP hT1 hT2 huq (by omega) hy0 (by omega), f3⟩, rfl⟩
  · have hqlt : q < h := by omega
    obtain ⟨cq1, iq1⟩ := hIC (q + 1) (by omega)
    rw [hb2 q hqlt]
    have i2 : (40 : Int32) * nI (I q) + nI (C (q + 1)) = nI (40 * I q + C (q + 1)) := ix rfl rfl
    rw [i2, nI_clamp (n := 40 * I q + C (q + 1)) (by omega), n40 (C (q + 1)), nI_clamp (n := 40 + C (q + 1)) (by omega), hb1 (q + 1) (by omega)]
    refine ⟨vp_in_nI (by omega) (by omega), fun e => absurd e (nI_nn (by omega)), fun _ => ⟨vp_in_nI (by omega) (by omega), vp_in_nI (by omega) (by omega), ?_⟩⟩
    intro x9 hx9
    have r43 := hF.2.1 (I q) (C (q + 1)) iq cq1
    have hy9 := (hT2 q hqlt).2
    have t9 : 0 < x9.toInt ∧ x9.toInt ≤ a.toInt ∧ x9.toInt ≤ y (I q) (C (q + 1)) := by
      rw [hx9]
      by_cases c : s.2.2 43 (40 * I q + C (q + 1)) < a
      · rw [if_pos c]
        rw [Int64.lt_iff_toInt_lt, r43] at c
        omega
      · rw [if_neg c]
        rw [Int64.lt_iff_toInt_lt, r43] at c
        omega
    refine ⟨vp_in_nI (by omega) (by omega), hPP _ ⟨by omega, ⟨⟨t9.1, by (try dsimp only); omega⟩, fun q' hq' => ?_⟩, rfl⟩⟩
    (try dsimp only)
    by_cases c : q' = q
    · subst c; exact t9.2.2
    · have := p2 q' (by omega); omega
end LR7
end
