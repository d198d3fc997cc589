section
/-! group, link -/
section GRP
variable {σ : CSt} {lab : Nat → Nat} {ad : Nat → Nat → Nat} {ρ : RSt} {μ : MSt} {j : Nat}
def mGroup (μ : MSt) (sz sk pl : Nat) : MSt := m1 (m2 (m2 (m2 (m2 μ 21 (7 * μ.1 22) sz) 21 (7 * μ.1 22 + 1) sk) 21 (7 * μ.1 22 + 2) 0) 21 (7 * μ.1 22 + 3) pl) 22 (μ.1 22 + 1)
theorem mGroup_2 {sz sk pl k i : Nat} (h : k ≠ 21 ∨ i < 7 * μ.1 22 ∨ 7 * μ.1 22 + 4 ≤ i) : (mGroup μ sz sk pl).2.1 k i = μ.2.1 k i := by
  unfold mGroup
  show (m2 _ _ _ _).2.1 k i = _
  rw [m2_n (by omega), m2_n (by omega), m2_n (by omega), m2_n (by omega)]
theorem mGroup_1 {sz sk pl k : Nat} (h : k ≠ 22) : (mGroup μ sz sk pl).1 k = μ.1 k := m1_n h
theorem mGroup_0 {sz sk pl : Nat} : (mGroup μ sz sk pl).2.1 21 (7 * μ.1 22) = sz ∧ (mGroup μ sz sk pl).2.1 21 (7 * μ.1 22 + 1) = sk ∧ (mGroup μ sz sk pl).2.1 21 (7 * μ.1 22 + 2) = 0 ∧ (mGroup μ sz sk pl).2.1 21 (7 * μ.1 22 + 3) = pl := by
  unfold mGroup
  refine ⟨?_, ?_, ?_, ?_⟩
  · show (m2 _ _ _ _).2.1 21 _ = _; rw [m2_n (by omega), m2_n (by omega), m2_n (by omega), m2_s]
  · show (m2 _ _ _ _).2.1 21 _ = _; rw [m2_n (by omega), m2_n (by omega), m2_s]
  · show (m2 _ _ _ _).2.1 21 _ = _; rw [m2_n (by omega), m2_s]
  · show (m2 _ _ _ _).2.1 21 _ = _; rw [m2_s]
theorem group_rep {σ0 σ1 : CSt} {lab1 lab2 : Nat → Nat} {q sz sk pl : Nat} (h : CRep σ lab ad μ) (hI : MI μ j)
    (hk : keepS (atX 2 (μ.1 22)) σ lab σ0 lab1) (hq : cAt σ0 2 q ∧ lab1 q = μ.1 22)
    (hf : cI σ0 32 q = nI (μ.1 22) ∧ cI σ0 33 q = nI sz ∧ cI σ0 34 q = nI sk ∧ cI σ0 35 q = 0 ∧ cI σ0 36 q = nI pl ∧ cI σ0 38 q = 0 ∧ cI σ0 39 q = 0 ∧ cI σ0 40 q = 0)
    (hk2 : keepS (addX 3) σ0 lab1 σ1 lab2) (hl : isL σ1 lab2 (ad 0 3) 3 (μ.1 22 + 1) (va_up (ad 2) (μ.1 22) q)) :
    CRep σ1 lab2 (cu2 ad 2 (μ.1 22) q) (mGroup μ sz sk pl) := by
  have hc := hI.cs
  have hz := hI.ze
  have hkk : keepS (fun k l => (k = 2 ∧ l = μ.1 22) ∨ ((k = 0 ∨ k = 10) ∧ l = 3)) σ lab σ1 lab2 :=
    (hk.mono (fun k l hx => by unfold atX at hx; omega)).tr (hk2.mono (fun k l hx => by unfold addX at hx; omega))
  have ea : ∀ k l : Nat, (k = 2 → l ≠ μ.1 22) → cu2 ad 2 (μ.1 22) q k l = ad k l := fun k l a => adu_n a
  have e2 : cu2 ad 2 (μ.1 22) q 2 (μ.1 22) = q := adu_s
  have e22 : (mGroup μ sz sk pl).1 22 = μ.1 22 + 1 := m1_s
  refine ⟨?_, ?_, fun i hi => ?_, fun i hi => ?_, fun i hi => ?_, fun i hi => ?_, fun i hi => ?_, fun i hi => ?_, fun i hi => ?_, fun i hi => ?_, fun i hi => ?_, ?_, ?_⟩
  · exact kX h hkk (by omega) (ea _ _ (by omega)) (fun i hi => ea _ _ (by omega)) (ea _ _ (by omega)) (ea _ _ (by omega)) (fun k hk => mGroup_1 (by omega)) rfl
  · unfold cLs lsO
    rw [e22, mGroup_1 (by decide), mGroup_1 (by decide), mGroup_1 (by decide), mGroup_1 (by decide), ea 0 0 (by omega), ea 0 1 (by omega), ea 0 2 (by omega), ea 0 3 (by omega), ea 0 4 (by omega)]
    refine ⟨h.ls.1.kp hkk (by omega) (by omega) (fun i hi => ea _ _ (by omega)), h.ls.2.1.kp hkk (by omega) (by omega) (fun i hi => ea _ _ (by omega)), h.ls.2.2.1.kp hkk (by omega) (by omega) (fun i hi => ea _ _ (by omega)), hl.re (fun i hi => ?_), h.ls.2.2.2.2.kp hkk (by omega) (by omega) (fun i hi => ea _ _ (by omega))⟩
    rw [up_ap]
    by_cases e : i = μ.1 22
    · rw [if_pos e, e, e2]
    · rw [if_neg e, ea _ _ (by omega)]
  · rw [mGroup_1 (by decide)] at hi
    have hqu := hI.qu i hi
    exact kLi h hkk (by omega) (by omega) (ea _ _ (by omega)) (ea _ _ (by omega)) (fun k hk => mGroup_2 (by omega)) (mGroup_2 (by omega)) (mWait_eq (mGroup_2 (by omega)) (fun _ _ => mGroup_2 (by omega)) (fun k hk => mGroup_2 (by have := (hqu.2 k hk).1; omega)))
  · rw [mGroup_1 (by decide)] at hi
    have hqu := hI.qu i hi
    exact kRo h hkk hi (by omega) (ea _ _ (by omega)) (mGroup_2 (by omega)) (fun _ _ => mGroup_2 (by omega)) (fun k hk => ea _ _ (by have := (hqu.2 k hk).1; omega))
  · rw [mGroup_1 (by decide)] at hi
    exact kSl h hkk hi (by omega) (ea _ _ (by omega)) (ea _ _ (by omega)) (ea _ _ (by omega)) (fun _ _ => mGroup_2 (by omega)) (mGroup_2 (by omega)) (mNm_eq (mGroup_2 (by omega)) (fun _ => mGroup_2 (by omega)) (fun _ _ _ => ⟨mGroup_2 (by omega), mGroup_2 (by omega)⟩))
  · rw [mGroup_1 (by decide)] at hi
    exact kSc h hkk hi (by omega) (ea _ _ (by omega)) (fun _ _ => mGroup_2 (by omega)) (fun _ _ => ea _ _ (by omega))
  · rw [mGroup_1 (by decide)] at hi
    exact kCo h hkk hi (by omega) (ea _ _ (by omega)) (mGroup_2 (by omega)) (fun _ => mGroup_2 (by omega)) (fun _ _ _ => ⟨mGroup_2 (by omega), mGroup_2 (by omega)⟩)
  · rw [mGroup_1 (by decide)] at hi
    exact kCe h hkk hi (by omega) (ea _ _ (by omega)) (ea _ _ (by omega)) (mGroup_2 (by omega)) (mGroup_2 (by omega)) rfl
  · rw [mGroup_1 (by decide)] at hi
    exact kSn h hkk hi (by omega) (ea _ _ (by omega)) (fun _ _ => mGroup_2 (by omega))
  · rw [e22] at hi
    by_cases e : i = μ.1 22
    · subst e
      have hs := hk2.same hq.1 hq.2 (by unfold addX; omega)
      obtain ⟨g0, g1, g2, g3⟩ := mGroup_0 (μ := μ) (sz := sz) (sk := sk) (pl := pl)
      have z := hz.2.2.2.2 _ (Nat.le_refl (μ.1 22))
      have g4 : (mGroup μ sz sk pl).2.1 21 (7 * μ.1 22 + 4) = 0 := by rw [mGroup_2 (by omega)]; exact z.1
      have g5 : (mGroup μ sz sk pl).2.1 21 (7 * μ.1 22 + 5) = 0 := by rw [mGroup_2 (by omega)]; exact z.2.1
      have g6 : (mGroup μ sz sk pl).2.1 21 (7 * μ.1 22 + 6) = 0 := by rw [mGroup_2 (by omega)]; exact z.2.2
      unfold cGr grO obj
      rw [e2, g0, g1, g2, g3, g4, g5, g6, hs.1 32 (by unfold scrI; omega), hs.1 33 (by unfold scrI; omega), hs.1 34 (by unfold scrI; omega), hs.1 35 (by unfold scrI; omega), hs.1 36 (by unfold scrI; omega), hs.1 38 (by unfold scrI; omega), hs.1 39 (by unfold scrI; omega), hs.1 40 (by unfold scrI; omega)]
      obtain ⟨f1, f2, f3, f4, f5, f6, f7, f8⟩ := hf
      exact ⟨⟨hk2.at hq.1, (hk2.lb hq.1).trans hq.2⟩, f1, f2, f3, f4, f5, f6, f7, f8, fun e => e.elim (fun e => absurd e (by decide)) (fun e => absurd e (by decide))⟩
    · have hg := hI.gr i (by omega)
      exact kGr h hkk (by omega) (by omega) (ea _ _ (by omega)) (fun _ _ => mGroup_2 (by omega)) (mEp_eq (fun _ _ => mGroup_2 (by omega)) (fun e => mGroup_2 (by omega)) (mGroup_2 (by omega)))
  · rw [mGroup_1 (by decide)] at hi
    exact kLk h hkk hi (by omega) (ea _ _ (by omega)) (ea _ _ (by omega)) (ea _ _ (by omega)) (mGroup_2 (by omega)) (mGroup_2 (by omega)) (mGroup_2 (by omega))
  · exact h.re.kp hkk (by omega) (ea _ _ (by omega)) (ea _ _ (by omega))
  · exact kTp h hkk (by omega) (ea _ _ (by omega)) (fun _ _ => rfl)
theorem cO_group {post : Int32 → CSt → Prop} {pX : String → CSt → Prop} {mc ms : Nat} {v1 v2 v3 : Int32} (h : CRep σ lab ad μ) (hI : MI μ j) (hm : 100 ≤ mc ∧ 400 ≤ ms)
    (h1 : plc v3 → nmb v1 1 4 → nmb v2 0 9 → μ.1 22 < 60 → ∀ sz sk pl : Nat, ((1 ≤ sz ∧ sz ≤ 4) ∧ sk ≤ 9 ∧ pl < 10) → v1 = nI sz → v2 = nI sk → v3 = nI pl → ∀ σ' lab' ad', ad' 7 0 = ad 7 0 → CRep σ' lab' ad' (mGroup μ sz sk pl) → post (nI (μ.1 22)) σ')
    (hi : ¬ plc v3 → pX "java/lang/IndexOutOfBoundsException" σ)
    (ha : plc v3 → ¬ (nmb v1 1 4 ∧ nmb v2 0 9) → pX "java/lang/IllegalArgumentException" σ)
    (hu : plc v3 → nmb v1 1 4 → nmb v2 0 9 → ¬ μ.1 22 < 60 → pX "java/lang/UnsupportedOperationException" σ) : wpC_X7_group_0 mc ms post pX σ (ad 7 0) v1 v2 v3 := by
  have hc := hI.cs
  refine ⟨by omega, by omega, sC_placeP (fun p1 => ⟨by omega, by omega, sC_numP (fun p3 => ⟨by omega, by omega, sC_numP (fun p4 => ⟨h.x7, _, h.x.2.1.2.2.2.1, h.ls.2.2.2.1.1, sC_size h.ls.2.2.2.1 ⟨by omega, by omega, sC_room (b := 60) rfl (by omega) (by omega) (fun h8 => ⟨h.x7, _, h.x.2.1.2.2.2.1, h.ls.2.2.2.1.1, sC_size h.ls.2.2.2.1 ⟨h.x7, _, h.x.2.1.2.2.2.1, by omega, by omega, ?_⟩⟩) (hu p1 p3 p4)⟩⟩) (fun g => ha p1 (fun e => g e.2))⟩) (fun g => ha p1 (fun e => g e.1))⟩) hi⟩
  obtain ⟨pl, w1, e1⟩ := plc_of p1
  obtain ⟨sz, w3, w3', e3⟩ := nmb_of (a := 1) (b := 4) rfl rfl (by omega) (by omega) p3
  obtain ⟨sk, w4, w4', e4⟩ := nmb_of (a := 0) (b := 9) rfl rfl (by omega) (by omega) p4
  have h1 := h1 p1 p3 p4 h8 sz sk pl ⟨⟨w3, w3'⟩, w4', w1⟩ e3 e4 e1
  intro q hq
  rintro s17 rfl
  have a3 : cAt (csO σ q 2) 2 q := at_csOq
  refine ⟨a3, ?_⟩
  rintro s1 rfl
  refine ⟨a3, ?_⟩
  rintro s2 rfl
  refine ⟨a3, ?_⟩
  rintro s3 rfl
  refine ⟨a3, ?_⟩
  rintro s4 rfl
  refine ⟨a3, ?_⟩
  rintro s5 rfl
  generalize hσ0 : csI (csI (csI (csI (csI (csO σ q 2) 35 q 0) 32 q (nI (μ.1 22))) 33 q v1) 34 q v2) 36 q v3 = σ0
  let lab1 := va_up lab q (μ.1 22)
  have l3 : lab1 q = μ.1 22 := va_up_self _ _ _
  have hk : keepS (atX 2 (μ.1 22)) σ lab σ0 lab1 := by
    subst hσ0
    have k0 := keep_csO (X := atX 2 (μ.1 22)) hq 2 (lab := lab) (μ.1 22)
    have k1 := k0.tr (keep_csI (lab := lab1) a3 l3 35 0)
    have k2 := k1.tr (keep_csI (lab := lab1) (by exact a3) l3 32 (nI (μ.1 22)))
    have k3 := k2.tr (keep_csI (lab := lab1) (by exact a3) l3 33 v1)
    have k4 := k3.tr (keep_csI (lab := lab1) (by exact a3) l3 34 v2)
    exact (k4.tr (keep_csI (lab := lab1) (by exact a3) l3 36 v3)).s
  have b3 : cAt σ0 2 q := by subst hσ0; exact a3
  have hf : cI σ0 32 q = nI (μ.1 22) ∧ cI σ0 33 q = nI sz ∧ cI σ0 34 q = nI sk ∧ cI σ0 35 q = 0 ∧ cI σ0 36 q = nI pl ∧ cI σ0 38 q = 0 ∧ cI σ0 39 q = 0 ∧ cI σ0 40 q = 0 := by
    subst hσ0
    rw [← e1, ← e3, ← e4]
    simp [csI, csO, cmk, cI, cu2]
  have hL := h.ls.2.2.2.1.kp hk (by unfold atX; omega) (by unfold atX; omega) (fun i hi => rfl)
  refine ⟨mc - 5, ms - 33, by omega, by omega, hL.1, ?_⟩
  refine sC_add hL (by omega) (fun i hi => hk.elm ((elm_L h).2.2.2.1 i hi)) (elm_of b3 (by omega)) (fun _ => by omega) (fun σ1 lab2 k1 k2 _ => ⟨by omega, by omega, ?_⟩)
  exact h1 σ1 lab2 _ (by rw [adu_n (by omega)]) (group_rep h hI hk ⟨b3, l3⟩ hf k1.s k2)
theorem rO_group {post : Int32 → RSt → Prop} {v1 v2 v3 : Int32} (hR : RR ρ μ) (hI : MI μ j)
    (h1 : plc v3 → nmb v1 1 4 → nmb v2 0 9 → μ.1 22 < 60 → ∀ sz sk pl : Nat, ((1 ≤ sz ∧ sz ≤ 4) ∧ sk ≤ 9 ∧ pl < 10) → v1 = nI sz → v2 = nI sk → v3 = nI pl → ∀ ρ', RR ρ' (mGroup μ sz sk pl) → ρ'.1 0 = 0 → post (nI (μ.1 22)) ρ')
    (hi : ¬ plc v3 → ∀ ρ', RR ρ' μ → ρ'.1 0 = 1 → post 0 ρ')
    (ha : plc v3 → ¬ (nmb v1 1 4 ∧ nmb v2 0 9) → ∀ ρ', RR ρ' μ → ρ'.1 0 = 2 → post 0 ρ')
    (hu : plc v3 → nmb v1 1 4 → nmb v2 0 9 → ¬ μ.1 22 < 60 → ∀ ρ', RR ρ' μ → ρ'.1 0 = 3 → post 0 ρ') : wpR_group_0 post ρ v1 v2 v3 := by
  have hc := hI.cs
  rintro s1 rfl
  have hR' := hR.sI (k := 0) 0 (by unfold sc1; omega) (by decide)
  have e22 := hR'.s1 (k := 22) (by unfold sc1; omega)
  refine sR_noPlaceP (fun p1 => sR_t0 ⟨fun e => absurd rfl e, fun _ => ?_⟩) (fun p1 => sR_t1 ⟨fun _ => hi p1 _ (hR'.sI 1 (by unfold sc1; omega) (by decide)) rfl, fun e => absurd e (by decide)⟩)
  have hbad2 : ¬ (nmb v1 1 4 ∧ nmb v2 0 9) → wpR_group_42 post (rsI ρ 0 0) v1 v2 v3 := by
    intro g
    unfold wpR_group_42 wpR_group_47
    exact sR_t1 ⟨fun _ => ha p1 g _ (hR'.sI 2 (by unfold sc1; omega) (by decide)) rfl, fun e => absurd e (by decide)⟩
  refine sR_inP (lo := 1) (hi := 4) rfl rfl (fun p3 => ⟨fun e => absurd e (by decide), fun _ => sR_inP (lo := 0) (hi := 9) rfl rfl (fun p4 => ⟨fun _ => ?_, fun e => absurd e (by decide)⟩) (fun g => ⟨fun e => absurd rfl e, fun _ => hbad2 (fun e => g e.2)⟩)⟩) (fun g => ⟨fun _ => hbad2 (fun e => g e.1), fun e => absurd rfl e⟩)
  refine sR_t0 ⟨fun e => absurd rfl e, fun _ => ?_⟩
  rw [e22, show (60 : Int32) = nI 60 from rfl, nI_eq (by omega) (by omega)]
  refine ⟨fun g => sR_t0 ⟨fun _ => ?_, fun e => absurd rfl e⟩, fun g => sR_t1 ⟨fun e => absurd e (by decide), fun _ => hu p1 p3 p4 (by omega) _ (hR'.sI 3 (by unfold sc1; omega) (by decide)) rfl⟩⟩
  have h8 : μ.1 22 < 60 := by omega
  obtain ⟨pl, w1, e1⟩ := plc_of p1
  obtain ⟨sz, w3, w3', e3⟩ := nmb_of (a := 1) (b := 4) rfl rfl (by omega) (by omega) p3
  obtain ⟨sk, w4, w4', e4⟩ := nmb_of (a := 0) (b := 9) rfl rfl (by omega) (by omega) p4
  have hh := h1 p1 p3 p4 h8 sz sk pl ⟨⟨w3, w3'⟩, w4', w1⟩ e3 e4 e1
  rw [e22, show (7 : Int32) * nI (μ.1 22) = nI (7 * μ.1 22) by rw [show (7 : Int32) = nI 7 from rfl, nI_mul], show nI (7 * μ.1 22) + 1 = nI (7 * μ.1 22 + 1) from nI_add _ 1, show nI (7 * μ.1 22) + 2 = nI (7 * μ.1 22 + 2) from nI_add _ 2, show nI (7 * μ.1 22) + 3 = nI (7 * μ.1 22 + 3) from nI_add _ 3, nI_clamp (by omega), nI_clamp (by omega), nI_clamp (by omega), nI_clamp (by omega)]
  refine ⟨vp_in_nI (by omega) (by omega), ?_⟩
  rintro s4 rfl
  refine ⟨vp_in_nI (by omega) (by omega), ?_⟩
  rintro s5 rfl
  refine ⟨vp_in_nI (by omega) (by omega), ?_⟩
  rintro s6 rfl
  refine ⟨vp_in_nI (by omega) (by omega), ?_⟩
  rintro s7 rfl
  rintro s8 rfl
  have q5 := (((hR'.u2 (k := 21) (i := 7 * μ.1 22) e3 (by decide) (by decide)).u2 (k := 21) (i := 7 * μ.1 22 + 1) e4 (by decide) (by decide)).u2 (k := 21) (i := 7 * μ.1 22 + 2) (n := 0) (v := 0) rfl (by decide) (by decide)).u2 (k := 21) (i := 7 * μ.1 22 + 3) e1 (by decide) (by decide)
  have q6 := q5.u1 (k := 22) (n := μ.1 22 + 1) (v := nI (μ.1 22) + 1) (by rw [nI_1]) (by decide) (by decide)
  rw [show (rsA (rsA (rsA (rsA (rsI ρ 0 0) 21 (7 * μ.1 22) v1) 21 (7 * μ.1 22 + 1) v2) 21 (7 * μ.1 22 + 2) 0) 21 (7 * μ.1 22 + 3) v3).1 22 = nI (μ.1 22) from e22]
  have e8 : (rsI (rsA (rsA (rsA (rsA (rsI ρ 0 0) 21 (7 * μ.1 22) v1) 21 (7 * μ.1 22 + 1) v2) 21 (7 * μ.1 22 + 2) 0) 21 (7 * μ.1 22 + 3) v3) 22 (nI (μ.1 22) + 1)).1 22 - 1 = nI (μ.1 22) := by
    show nI (μ.1 22) + 1 - 1 = _
    rw [nI_1, nI_pred]
  rw [e8]
  exact hh _ q6 rfl
theorem group_MI {sz sk pl : Nat} (hI : MI μ j) (h8 : μ.1 22 < 60) (h1 : pl < 10) (h3 : 1 ≤ sz ∧ sz ≤ 4) (h5 : sk ≤ 9) : MI (mGroup μ sz sk pl) j := by
  have hz := hI.ze
  have e22 : (mGroup μ sz sk pl).1 22 = μ.1 22 + 1 := m1_s
  have e1 : ∀ k, k ≠ 22 → (mGroup μ sz sk pl).1 k = μ.1 k := fun k hk => mGroup_1 hk
  have eN : ∀ s, mNm (mGroup μ sz sk pl) s = mNm μ s := fun s => mNm_eq (mGroup_2 (by omega)) (fun _ => mGroup_2 (by omega)) (fun _ _ _ => ⟨mGroup_2 (by omega), mGroup_2 (by omega)⟩)
  have eA : ∀ k, k ≠ 21 → (mGroup μ sz sk pl).2.1 k = μ.2.1 k := fun k hk => by funext i; exact mGroup_2 (Or.inl hk)
  refine ⟨?_, ?_, ?_, ?_, ?_, ?_, ?_, ?_, ?_, ?_⟩
  · have := hI.c0
    unfold mC0 at this ⊢
    rw [e22, e1 2 (by decide), e1 7 (by decide), e1 9 (by decide), e1 14 (by decide), e1 26 (by decide), e1 27 (by decide), e1 28 (by decide), e1 20 (by decide)]
    omega
  · unfold mLi; rw [e1 7 (by decide), eA 3 (by decide), eA 4 (by decide)]; exact hI.li
  · unfold mSl; rw [e1 9 (by decide), e1 14 (by decide), eA 8 (by decide), eA 18 (by decide)]; exact hI.sl
  · unfold mSn; rw [e1 14 (by decide), eA 10 (by decide)]; exact hI.sn
  · unfold mGr; rw [e22, e1 9 (by decide), e1 7 (by decide)]
    intro g hg
    by_cases e : g = μ.1 22
    · subst e
      obtain ⟨g0, g1, g2, g3⟩ := mGroup_0 (μ := μ) (sz := sz) (sk := sk) (pl := pl)
      have z := hz.2.2.2.2 _ (Nat.le_refl (μ.1 22))
      rw [g0, g1, g2, g3, mGroup_2 (by omega), z.1]
      omega
    · rw [mGroup_2 (by omega), mGroup_2 (by omega), mGroup_2 (by omega), mGroup_2 (by omega), mGroup_2 (by omega)]
      exact hI.gr g (by omega)
  · unfold mQu
    rw [e1 7 (by decide), eA 6 (by decide), eA 5 (by decide), e22]
    intro l hl
    refine ⟨(hI.qu l hl).1, fun k hk => ?_⟩
    obtain ⟨a1, a2, a3, a4⟩ := (hI.qu l hl).2 k hk
    rw [mGroup_2 (by omega), mGroup_2 (by omega)]
    exact ⟨by omega, a2, a3, a4⟩
  · unfold mRu
    rw [e1 9 (by decide), e1 7 (by decide), eA 15 (by decide), eA 16 (by decide), eA 17 (by decide), eA 18 (by decide)]
    refine ⟨hI.ru.1, ?_⟩
    obtain ⟨r, hr⟩ := hI.ru.2
    exact ⟨r, fun s k hs hk e => hr s k hs hk (by rw [eN] at e; exact e)⟩
  · unfold mLk; rw [e1 26 (by decide), e1 14 (by decide), eA 23 (by decide), eA 24 (by decide), eA 25 (by decide)]; exact hI.lk
  · unfold mWt; rw [e1 14 (by decide), eA 12 (by decide)]; exact hI.wt
  · unfold mZe
    rw [e1 7 (by decide), e1 9 (by decide), e1 14 (by decide), e22, eA 4 (by decide), eA 6 (by decide), eA 18 (by decide), eA 10 (by decide), eA 12 (by decide)]
    refine ⟨hz.1, hz.2.1, hz.2.2.1, hz.2.2.2.1, fun g hg => ?_⟩
    rw [mGroup_2 (by omega), mGroup_2 (by omega), mGroup_2 (by omega)]
    exact hz.2.2.2.2 g (by omega)
end GRP
section LNK
variable {σ : CSt} {lab : Nat → Nat} {ad : Nat → Nat → Nat} {ρ : RSt} {μ : MSt} {j : Nat}
def mLink (μ : MSt) (a b ln : Nat) : MSt := m1 (m2 (m2 (m2 μ 23 (μ.1 26) a) 24 (μ.1 26) b) 25 (μ.1 26) ln) 26 (μ.1 26 + 1)
theorem mLink_2 {a b ln k i : Nat} (h : (k ≠ 23 ∧ k ≠ 24 ∧ k ≠ 25) ∨ i ≠ μ.1 26) : (mLink μ a b ln).2.1 k i = μ.2.1 k i := by
  unfold mLink
  show (m2 _ _ _ _).2.1 k i = _
  rw [m2_n (by omega), m2_n (by omega), m2_n (by omega)]
theorem mLink_1 {a b ln k : Nat} (h : k ≠ 26) : (mLink μ a b ln).1 k = μ.1 k := m1_n h
theorem mLink_0 {a b ln : Nat} : (mLink μ a b ln).2.1 23 (μ.1 26) = a ∧ (mLink μ a b ln).2.1 24 (μ.1 26) = b ∧ (mLink μ a b ln).2.1 25 (μ.1 26) = ln := by
  unfold mLink
  refine ⟨?_, ?_, ?_⟩
  · show (m2 _ _ _ _).2.1 23 _ = _; rw [m2_n (by omega), m2_n (by omega), m2_s]
  · show (m2 _ _ _ _).2.1 24 _ = _; rw [m2_n (by omega), m2_s]
  · show (m2 _ _ _ _).2.1 25 _ = _; rw [m2_s]
theorem link_rep {σ0 σ1 : CSt} {lab1 lab2 : Nat → Nat} {q a b ln : Nat} (h : CRep σ lab ad μ) (hI : MI μ j)
    (hk : keepS (atX 4 (μ.1 26)) σ lab σ0 lab1) (hq : cAt σ0 4 q ∧ lab1 q = μ.1 26)
    (hf : cR σ0 64 q = some (ad 1 a) ∧ cR σ0 65 q = some (ad 1 b) ∧ cI σ0 66 q = nI ln)
    (hk2 : keepS (addX 4) σ0 lab1 σ1 lab2) (hl : isL σ1 lab2 (ad 0 4) 4 (μ.1 26 + 1) (va_up (ad 4) (μ.1 26) q)) :
    CRep σ1 lab2 (cu2 ad 4 (μ.1 26) q) (mLink μ a b ln) := by
  have hc := hI.cs
  have hz := hI.ze
  have hkk : keepS (fun k l => (k = 4 ∧ l = μ.1 26) ∨ ((k = 0 ∨ k = 10) ∧ l = 4)) σ lab σ1 lab2 :=
    (hk.mono (fun k l hx => by unfold atX at hx; omega)).tr (hk2.mono (fun k l hx => by unfold addX at hx; omega))
  have ea : ∀ k l : Nat, (k = 4 → l ≠ μ.1 26) → cu2 ad 4 (μ.1 26) q k l = ad k l := fun k l a => adu_n a
  have e4 : cu2 ad 4 (μ.1 26) q 4 (μ.1 26) = q := adu_s
  have e26 : (mLink μ a b ln).1 26 = μ.1 26 + 1 := m1_s
  refine ⟨?_, ?_, fun i hi => ?_, fun i hi => ?_, fun i hi => ?_, fun i hi => ?_, fun i hi => ?_, fun i hi => ?_, fun i hi => ?_, fun i hi => ?_, fun i hi => ?_, ?_, ?_⟩
  · exact kX h hkk (by omega) (ea _ _ (by omega)) (fun i hi => ea _ _ (by omega)) (ea _ _ (by omega)) (ea _ _ (by omega)) (fun k hk => mLink_1 (by omega)) rfl
  · unfold cLs lsO
    rw [e26, mLink_1 (by decide), mLink_1 (by decide), mLink_1 (by decide), mLink_1 (by decide), ea 0 0 (by omega), ea 0 1 (by omega), ea 0 2 (by omega), ea 0 3 (by omega), ea 0 4 (by omega)]
    refine ⟨h.ls.1.kp hkk (by omega) (by omega) (fun i hi => ea _ _ (by omega)), h.ls.2.1.kp hkk (by omega) (by omega) (fun i hi => ea _ _ (by omega)), h.ls.2.2.1.kp hkk (by omega) (by omega) (fun i hi => ea _ _ (by omega)), h.ls.2.2.2.1.kp hkk (by omega) (by omega) (fun i hi => ea _ _ (by omega)), hl.re (fun i hi => ?_)⟩
    rw [up_ap]
    by_cases e : i = μ.1 26
    · rw [if_pos e, e, e4]
    · rw [if_neg e, ea _ _ (by omega)]
  · rw [mLink_1 (by decide)] at hi
    exact kLi h hkk (by omega) (by omega) (ea _ _ (by omega)) (ea _ _ (by omega)) (fun k hk => mLink_2 (by omega)) (mLink_2 (by omega)) (mWait_eq (mLink_2 (by omega)) (fun _ _ => mLink_2 (by omega)) (fun k hk => mLink_2 (by omega)))
  · rw [mLink_1 (by decide)] at hi
    exact kRo h hkk hi (by omega) (ea _ _ (by omega)) (mLink_2 (by omega)) (fun _ _ => mLink_2 (by omega)) (fun k hk => ea _ _ (by omega))
  · rw [mLink_1 (by decide)] at hi
    exact kSl h hkk hi (by omega) (ea _ _ (by omega)) (ea _ _ (by omega)) (ea _ _ (by omega)) (fun _ _ => mLink_2 (by omega)) (mLink_2 (by omega)) (mNm_eq (mLink_2 (by omega)) (fun _ => mLink_2 (by omega)) (fun _ _ _ => ⟨mLink_2 (by omega), mLink_2 (by omega)⟩))
  · rw [mLink_1 (by decide)] at hi
    exact kSc h hkk hi (by omega) (ea _ _ (by omega)) (fun _ _ => mLink_2 (by omega)) (fun _ _ => ea _ _ (by omega))
  · rw [mLink_1 (by decide)] at hi
    exact kCo h hkk hi (by omega) (ea _ _ (by omega)) (mLink_2 (by omega)) (fun _ => mLink_2 (by omega)) (fun _ _ _ => ⟨mLink_2 (by omega), mLink_2 (by omega)⟩)
  · rw [mLink_1 (by decide)] at hi
    exact kCe h hkk hi (by omega) (ea _ _ (by omega)) (ea _ _ (by omega)) (mLink_2 (by omega)) (mLink_2 (by omega)) rfl
  · rw [mLink_1 (by decide)] at hi
    exact kSn h hkk hi (by omega) (ea _ _ (by omega)) (fun _ _ => mLink_2 (by omega))
  · rw [mLink_1 (by decide)] at hi
    exact kGr h hkk hi (by omega) (ea _ _ (by omega)) (fun _ _ => mLink_2 (by omega)) (mEp_eq (fun _ _ => mLink_2 (by omega)) (fun e => mLink_2 (by omega)) (mLink_2 (by omega)))
  · rw [e26] at hi
    by_cases e : i = μ.1 26
    · subst e
      have hs := hk2.same hq.1 hq.2 (by unfold addX; omega)
      obtain ⟨g0, g1, g2⟩ := mLink_0 (μ := μ) (a := a) (b := b) (ln := ln)
      unfold cLk lkO obj
      rw [e4, g0, g1, g2, ea 1 a (by omega), ea 1 b (by omega), hs.2.1 64 (by decide), hs.2.1 65 (by decide), hs.1 66 (by unfold scrI; omega)]
      exact ⟨⟨hk2.at hq.1, (hk2.lb hq.1).trans hq.2⟩, hf⟩
    · exact kLk h hkk (by omega) (by omega) (ea _ _ (by omega)) (ea _ _ (by omega)) (ea _ _ (by omega)) (mLink_2 (by omega)) (mLink_2 (by omega)) (mLink_2 (by omega))
  · exact h.re.kp hkk (by omega) (ea _ _ (by omega)) (ea _ _ (by omega))
  · exact kTp h hkk (by omega) (ea _ _ (by omega)) (fun _ _ => rfl)
def inC (μ : MSt) (v : Int32) : Prop := ∃ i : Nat, i < μ.1 14 ∧ v = nI i
theorem inC_no {v : Int32} (hn : μ.1 14 < 2 ^ 31) (h : ¬ v < 0 → ¬ v < nI (μ.1 14)) : ¬ inC μ v := by
  rintro ⟨i, hi, rfl⟩
  exact h (nI_pos (by omega)) (nI_lt hi hn)
theorem cO_link {post : Int32 → CSt → Prop} {pX : String → CSt → Prop} {mc ms : Nat} {v1 v2 v3 : Int32} (h : CRep σ lab ad μ) (hI : MI μ j) (hm : 100 ≤ mc ∧ 400 ≤ ms)
    (h1 : ∀ a b ln : Nat, (1 ≤ ln ∧ ln ≤ 100) → a < μ.1 14 → b < μ.1 14 → v1 = nI a → v2 = nI b → ¬ v1 = v2 → nmb v3 1 100 → v3 = nI ln → μ.1 26 < 80 → ∀ σ' lab' ad', ad' 7 0 = ad 7 0 → CRep σ' lab' ad' (mLink μ a b ln) → post (nI (μ.1 26 + 1)) σ')
    (hi : ¬ (inC μ v1 ∧ inC μ v2) → pX "java/lang/IndexOutOfBoundsException" σ)
    (ha : inC μ v1 → inC μ v2 → ¬ (¬ v1 = v2 ∧ nmb v3 1 100) → pX "java/lang/IllegalArgumentException" σ)
    (hu : inC μ v1 → inC μ v2 → ¬ v1 = v2 → nmb v3 1 100 → ¬ μ.1 26 < 80 → pX "java/lang/UnsupportedOperationException" σ) : wpC_X7_link_0 mc ms post pX σ (ad 7 0) v1 v2 v3 := by
  have hc := hI.cs
  refine ⟨by omega, by omega, h.x7, sC_cellAt h (by omega) (fun a hal ea => ⟨by omega, by omega, h.x7, sC_cellAt h (by omega) (fun b hbl eb => ⟨fun hne => ⟨by omega, by omega, sC_numP (fun p3 => ⟨h.x7, _, h.x.2.1.2.2.2.2.1, h.ls.2.2.2.2.1, sC_size h.ls.2.2.2.2 ⟨by omega, by omega, sC_room (b := 80) rfl (by omega) (by omega) (fun h8 => ⟨h.x7, _, h.x.2.1.2.2.2.2.1, by omega, by omega, ?_⟩) (hu ⟨a, hal, ea⟩ ⟨b, hbl, eb⟩ hne p3)⟩⟩) (fun g => ha ⟨a, hal, ea⟩ ⟨b, hbl, eb⟩ (fun e => g e.2))⟩, fun e => ⟨by omega, by omega, ha ⟨a, hal, ea⟩ ⟨b, hbl, eb⟩ (fun g => g.1 e)⟩⟩) (fun g => hi (fun e => inC_no (by omega) g e.2))⟩) (fun g => hi (fun e => inC_no (by omega) g e.1))⟩
  obtain ⟨ln, w3, w3', e3⟩ := nmb_of (a := 1) (b := 100) rfl rfl (by omega) (by omega) p3
  have h1 := h1 a b ln ⟨w3, w3'⟩ hal hbl ea eb hne p3 e3 h8
  intro q hq
  rintro s17 rfl
  have a3 : cAt (csO σ q 4) 4 q := at_csOq
  refine ⟨_, rfl, _, rfl, a3, ?_⟩
  rintro s1 rfl
  refine ⟨a3, ?_⟩
  rintro s2 rfl
  refine ⟨a3, ?_⟩
  rintro s3 rfl
  generalize hσ0 : csI (csR (csR (csO σ q 4) 64 q (some (ad 1 a))) 65 q (some (ad 1 b))) 66 q v3 = σ0
  let lab1 := va_up lab q (μ.1 26)
  have l3 : lab1 q = μ.1 26 := va_up_self _ _ _
  have hk : keepS (atX 4 (μ.1 26)) σ lab σ0 lab1 := by
    subst hσ0
    have k0 := keep_csO (X := atX 4 (μ.1 26)) hq 4 (lab := lab) (μ.1 26)
    have k1 := k0.tr (keep_csR (lab := lab1) a3 l3 64 (some (ad 1 a)))
    have k2 := k1.tr (keep_csR (lab := lab1) (by exact a3) l3 65 (some (ad 1 b)))
    exact (k2.tr (keep_csI (lab := lab1) (by exact a3) l3 66 v3)).s
  have b3 : cAt σ0 4 q := by subst hσ0; exact a3
  have hf : cR σ0 64 q = some (ad 1 a) ∧ cR σ0 65 q = some (ad 1 b) ∧ cI σ0 66 q = nI ln := by
    subst hσ0
    rw [← e3]
    simp [csI, csR, csO, cmk, cI, cR, cu2]
  have hL := h.ls.2.2.2.2.kp hk (by unfold atX; omega) (by unfold atX; omega) (fun i hi => rfl)
  refine ⟨mc - 5, ms - 28, by omega, by omega, hL.1, ?_⟩
  refine sC_add hL (by omega) (fun i hi => hk.elm ((elm_L h).2.2.2.2 i hi)) (elm_of b3 (by omega)) (fun _ => by omega) (fun σ1 lab2 k1 k2 _ => ?_)
  have hr := link_rep h hI hk ⟨b3, l3⟩ hf k1.s k2
  have ex : cu2 ad 4 (μ.1 26) q 7 0 = ad 7 0 := adu_n (by omega)
  have hx := hr.x
  unfold cX xO obj at hx
  rw [ex, adu_n (by omega)] at hx
  refine ⟨hx.1.1, _, hx.2.1.2.2.2.2.1, k2.1, sC_size k2 ⟨by omega, by omega, ?_⟩⟩
  exact h1 σ1 lab2 _ ex hr
theorem rO_link {post : Int32 → RSt → Prop} {v1 v2 v3 : Int32} (hR : RR ρ μ) (hI : MI μ j)
    (h1 : ∀ a b ln : Nat, (1 ≤ ln ∧ ln ≤ 100) → a < μ.1 14 → b < μ.1 14 → v1 = nI a → v2 = nI b → ¬ v1 = v2 → nmb v3 1 100 → v3 = nI ln → μ.1 26 < 80 → ∀ ρ', RR ρ' (mLink μ a b ln) → ρ'.1 0 = 0 → post (nI (μ.1 26 + 1)) ρ')
    (hi : ¬ (inC μ v1 ∧ inC μ v2) → ∀ ρ', RR ρ' μ → ρ'.1 0 = 1 → post 0 ρ')
    (ha : inC μ v1 → inC μ v2 → ¬ (¬ v1 = v2 ∧ nmb v3 1 100) → ∀ ρ', RR ρ' μ → ρ'.1 0 = 2 → post 0 ρ')
    (hu : inC μ v1 → inC μ v2 → ¬ v1 = v2 → nmb v3 1 100 → ¬ μ.1 26 < 80 → ∀ ρ', RR ρ' μ → ρ'.1 0 = 3 → post 0 ρ') : wpR_link_0 post ρ v1 v2 v3 := by
  have hc := hI.cs
  rintro s1 rfl
  have hR' := hR.sI (k := 0) 0 (by unfold sc1; omega) (by decide)
  have e26 := hR'.s1 (k := 26) (by unfold sc1; omega)
  have hbad : ¬ (inC μ v1 ∧ inC μ v2) → wpR_link_22 post (rsI ρ 0 0) v1 v2 v3 := by
    intro g
    unfold wpR_link_22 wpR_link_27
    exact sR_t1 ⟨fun _ => hi g _ (hR'.sI 1 (by unfold sc1; omega) (by decide)) rfl, fun e => absurd e (by decide)⟩
  refine sR_noCell hR' (by omega) (fun a hal ea => ⟨fun e => absurd rfl e, fun _ => sR_noCell hR' (by omega) (fun b hbl eb => ⟨fun _ => sR_t0 ⟨fun e => absurd rfl e, fun _ => ?_⟩, fun e => absurd rfl e⟩) (fun g => ⟨fun e => absurd e (by decide), fun _ => hbad (fun e => inC_no (by omega) g e.2)⟩)⟩) (fun g => ⟨fun _ => hbad (fun e => inC_no (by omega) g e.1), fun e => absurd e (by decide)⟩)
  have ca : inC μ v1 := ⟨a, hal, ea⟩
  have cb : inC μ v2 := ⟨b, hbl, eb⟩
  have hbad2 : ¬ (¬ v1 = v2 ∧ nmb v3 1 100) → wpR_link_52 post (rsI ρ 0 0) v1 v2 v3 := by
    intro g
    unfold wpR_link_52 wpR_link_57
    exact sR_t1 ⟨fun _ => ha ca cb g _ (hR'.sI 2 (by unfold sc1; omega) (by decide)) rfl, fun e => absurd e (by decide)⟩
  refine ⟨fun e => hbad2 (fun g => g.1 e), fun hne => sR_inP (lo := 1) (hi := 100) rfl rfl (fun p3 => ⟨fun _ => ?_, fun e => absurd e (by decide)⟩) (fun g => ⟨fun e => absurd rfl e, fun _ => hbad2 (fun e => g e.2)⟩)⟩
  refine sR_t0 ⟨fun e => absurd rfl e, fun _ => ?_⟩
  rw [e26, show (80 : Int32) = nI 80 from rfl, nI_eq (by omega) (by omega)]
  refine ⟨fun g => sR_t0 ⟨fun _ => ?_, fun e => absurd rfl e⟩, fun g => sR_t1 ⟨fun e => absurd e (by decide), fun _ => hu ca cb hne p3 (by omega) _ (hR'.sI 3 (by unfold sc1; omega) (by decide)) rfl⟩⟩
  have h8 : μ.1 26 < 80 := by omega
  obtain ⟨ln, w3, w3', e3⟩ := nmb_of (a := 1) (b := 100) rfl rfl (by omega) (by omega) p3
  have hh := h1 a b ln ⟨w3, w3'⟩ hal hbl ea eb hne p3 e3 h8
  have s26 : ∀ k i v, (rsA (rsI ρ 0 0) k i v).1 26 = nI (μ.1 26) := fun k i v => e26
  have q1 := hR'.u2 (k := 23) (i := μ.1 26) ea (by decide) (by decide)
  have q2 := q1.u2 (k := 24) (i := μ.1 26) eb (by decide) (by decide)
  have q3 := q2.u2 (k := 25) (i := μ.1 26) e3 (by decide) (by decide)
  have q4 := q3.u1 (k := 26) (n := μ.1 26 + 1) (v := nI (μ.1 26) + 1) (by rw [nI_1]) (by decide) (by decide)
  have hcl := nI_clamp (n := μ.1 26) (by omega)
  rw [e26, hcl]
  refine ⟨vp_in_nI (by omega) (by omega), ?_⟩
  rintro s4 rfl
  rw [show (rsA (rsI ρ 0 0) 23 (μ.1 26) v1).1 26 = nI (μ.1 26) from e26, hcl]
  refine ⟨vp_in_nI (by omega) (by omega), ?_⟩
  rintro s5 rfl
  rw [show (rsA (rsA (rsI ρ 0 0) 23 (μ.1 26) v1) 24 (μ.1 26) v2).1 26 = nI (μ.1 26) from e26, hcl]
  refine ⟨vp_in_nI (by omega) (by omega), ?_⟩
  rintro s6 rfl
  rw [show (rsA (rsA (rsA (rsI ρ 0 0) 23 (μ.1 26) v1) 24 (μ.1 26) v2) 25 (μ.1 26) v3).1 26 = nI (μ.1 26) from e26]
  rintro s7 rfl
  have hh := hh _ q4 rfl
  rw [← nI_1] at hh
  exact hh
theorem link_MI {a b ln : Nat} (hI : MI μ j) (h8 : μ.1 26 < 80) (h1 : a < μ.1 14) (h2 : b < μ.1 14) (h3 : a ≠ b) (h5 : 1 ≤ ln ∧ ln ≤ 100) : MI (mLink μ a b ln) j := by
  have hz := hI.ze
  have e26 : (mLink μ a b ln).1 26 = μ.1 26 + 1 := m1_s
  have e1 : ∀ k, k ≠ 26 → (mLink μ a b ln).1 k = μ.1 k := fun k hk => mLink_1 hk
  have eN : ∀ s, mNm (mLink μ a b ln) s = mNm μ s := fun s => mNm_eq (mLink_2 (by omega)) (fun _ => mLink_2 (by omega)) (fun _ _ _ => ⟨mLink_2 (by omega), mLink_2 (by omega)⟩)
  have eA : ∀ k, k ≠ 23 ∧ k ≠ 24 ∧ k ≠ 25 → (mLink μ a b ln).2.1 k = μ.2.1 k := fun k hk => by funext i; exact mLink_2 (Or.inl hk)
  refine ⟨?_, ?_, ?_, ?_, ?_, ?_, ?_, ?_, ?_, ?_⟩
  · have := hI.c0
    unfold mC0 at this ⊢
    rw [e26, e1 2 (by decide), e1 7 (by decide), e1 9 (by decide), e1 14 (by decide), e1 22 (by decide), e1 27 (by decide), e1 28 (by decide), e1 20 (by decide)]
    omega
  · unfold mLi; rw [e1 7 (by decide), eA 3 (by decide), eA 4 (by decide)]; exact hI.li
  · unfold mSl; rw [e1 9 (by decide), e1 14 (by decide), eA 8 (by decide), eA 18 (by decide)]; exact hI.sl
  · unfold mSn; rw [e1 14 (by decide), eA 10 (by decide)]; exact hI.sn
  · unfold mGr; rw [e1 22 (by decide), e1 9 (by decide), e1 7 (by decide), eA 21 (by decide)]; exact hI.gr
  · unfold mQu; rw [e1 7 (by decide), eA 6 (by decide), eA 5 (by decide), e1 22 (by decide), eA 21 (by decide)]; exact hI.qu
  · unfold mRu
    rw [e1 9 (by decide), e1 7 (by decide), eA 15 (by decide), eA 16 (by decide), eA 17 (by decide), eA 18 (by decide)]
    refine ⟨hI.ru.1, ?_⟩
    obtain ⟨r, hr⟩ := hI.ru.2
    exact ⟨r, fun s k hs hk e => hr s k hs hk (by rw [eN] at e; exact e)⟩
  · unfold mLk; rw [e26, e1 14 (by decide)]
    intro k hk
    by_cases e : k = μ.1 26
    · subst e
      obtain ⟨g0, g1, g2⟩ := mLink_0 (μ := μ) (a := a) (b := b) (ln := ln)
      rw [g0, g1, g2]
      exact ⟨h1, h2, h3, h5⟩
    · rw [mLink_2 (by omega), mLink_2 (by omega), mLink_2 (by omega)]
      exact hI.lk k (by omega)
  · unfold mWt; rw [e1 14 (by decide), eA 12 (by decide)]; exact hI.wt
  · unfold mZe
    rw [e1 7 (by decide), e1 9 (by decide), e1 14 (by decide), e1 22 (by decide), eA 4 (by decide), eA 6 (by decide), eA 18 (by decide), eA 10 (by decide), eA 12 (by decide), eA 21 (by decide)]
    exact hz
end LNK
end
