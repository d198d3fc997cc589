section
/-! the reference: lift, group, link; the class: group, link; what holds afterwards -/
section RF
variable {ρ : RSt} {μ : MSt} {j : Nat}
theorem sR_noPlaceP {post : Int32 → Prop} {v : Int32} (h1 : plc v → post 0) (h0 : ¬ plc v → post 1) : wpR_noPlace_0 post v := by
  refine sR_inI (lo := 0) (hi := 9) rfl rfl (fun a b => ⟨fun _ => h1 ⟨a, ?_⟩, fun e => absurd e (by decide)⟩) (fun e => ⟨fun e => absurd rfl e, fun _ => h0 (fun g => e g.1 ?_)⟩)
  · rw [Int32.le_iff_toInt_le, show (9 : Int32).toInt = 9 from rfl] at b
    rw [Int32.lt_iff_toInt_lt, show (10 : Int32).toInt = 10 from rfl]
    omega
  · have b := g.2
    rw [Int32.lt_iff_toInt_lt, show (10 : Int32).toInt = 10 from rfl] at b
    rw [Int32.le_iff_toInt_le, show (9 : Int32).toInt = 9 from rfl]
    omega
theorem sR_inP {post : Int32 → Prop} {v lo hi : Int32} {l h : Int64} (hl : lo.toInt64 = l) (hh : hi.toInt64 = h) (h1 : nmb v lo hi → post 1) (h0 : ¬ nmb v lo hi → post 0) : wpR_in_0 post v.toInt64 l h :=
  sR_inI hl hh (fun a b => h1 ⟨a, b⟩) (fun e => h0 (fun g => e g.1 g.2))
theorem rO_lift {post : Int32 → RSt → Prop} {v1 v2 v3 v4 v5 : Int32} (hR : RR ρ μ) (hI : MI μ j)
    (h1 : plc v1 → plc v2 → nmb v3 1 20 → nmb v4 1 30 → nmb v5 0 200 → μ.1 7 < 8 → ∀ fr to st mi wi : Nat, (fr < 10 ∧ to < 10 ∧ (1 ≤ st ∧ st ≤ 20) ∧ (1 ≤ mi ∧ mi ≤ 30) ∧ wi ≤ 200) → v1 = nI fr → v2 = nI to → v3 = nI st → v4 = nI mi → v5 = nI wi → ∀ ρ', RR ρ' (mLift μ fr to st mi wi) → ρ'.1 0 = 0 → post (nI (μ.1 7)) ρ')
    (hi : ¬ (plc v1 ∧ plc v2) → ∀ ρ', RR ρ' μ → ρ'.1 0 = 1 → post 0 ρ')
    (ha : plc v1 → plc v2 → ¬ (nmb v3 1 20 ∧ nmb v4 1 30 ∧ nmb v5 0 200) → ∀ ρ', RR ρ' μ → ρ'.1 0 = 2 → post 0 ρ')
    (hu : plc v1 → plc v2 → nmb v3 1 20 → nmb v4 1 30 → nmb v5 0 200 → ¬ μ.1 7 < 8 → ∀ ρ', RR ρ' μ → ρ'.1 0 = 3 → post 0 ρ') : wpR_lift_0 post ρ v1 v2 v3 v4 v5 := by
  have hc := hI.cs
  rintro s1 rfl
  have hR' := hR.sI (k := 0) 0 (by unfold sc1; omega) (by decide)
  have e7 := hR'.s1 (k := 7) (by unfold sc1; omega)
  have hbad : ¬ (plc v1 ∧ plc v2) → wpR_lift_20 post (rsI ρ 0 0) v1 v2 v3 v4 v5 := by
    intro g
    unfold wpR_lift_20 wpR_lift_25
    exact sR_t1 ⟨fun _ => hi g _ (hR'.sI 1 (by unfold sc1; omega) (by decide)) rfl, fun e => absurd e (by decide)⟩
  refine sR_noPlaceP (fun p1 => ⟨fun e => absurd rfl e, fun _ => sR_noPlaceP (fun p2 => ⟨fun _ => sR_t0 ⟨fun e => absurd rfl e, fun _ => ?_⟩, fun e => absurd rfl e⟩) (fun p2 => ⟨fun e => absurd e (by decide), fun _ => hbad (fun g => p2 g.2)⟩)⟩) (fun p1 => ⟨fun _ => hbad (fun g => p1 g.1), fun e => absurd e (by decide)⟩)
  have hbad2 : ¬ (nmb v3 1 20 ∧ nmb v4 1 30 ∧ nmb v5 0 200) → wpR_lift_71 post (rsI ρ 0 0) v1 v2 v3 v4 v5 := by
    intro g
    unfold wpR_lift_71 wpR_lift_76
    exact sR_t1 ⟨fun _ => ha p1 p2 g _ (hR'.sI 2 (by unfold sc1; omega) (by decide)) rfl, fun e => absurd e (by decide)⟩
  refine sR_inP (lo := 1) (hi := 20) rfl rfl (fun p3 => ⟨fun e => absurd e (by decide), fun _ => sR_inP (lo := 1) (hi := 30) rfl rfl (fun p4 => ⟨fun e => absurd e (by decide), fun _ => sR_inP (lo := 0) (hi := 200) rfl rfl (fun p5 => ⟨fun _ => ?_, fun e => absurd e (by decide)⟩) (fun g => ⟨fun e => absurd rfl e, fun _ => hbad2 (fun e => g e.2.2)⟩)⟩) (fun g => ⟨fun _ => hbad2 (fun e => g e.2.1), fun e => absurd rfl e⟩)⟩) (fun g => ⟨fun _ => hbad2 (fun e => g e.1), fun e => absurd rfl e⟩)
  refine sR_t0 ⟨fun e => absurd rfl e, fun _ => ?_⟩
  rw [e7, show (8 : Int32) = nI 8 from rfl, nI_eq (by omega) (by omega)]
  refine ⟨fun g => sR_t0 ⟨fun _ => ?_, fun e => absurd rfl e⟩, fun g => sR_t1 ⟨fun e => absurd e (by decide), fun _ => hu p1 p2 p3 p4 p5 (by omega) _ (hR'.sI 3 (by unfold sc1; omega) (by decide)) rfl⟩⟩
  have h8 : μ.1 7 < 8 := by omega
  obtain ⟨fr, w1, e1⟩ := plc_of p1
  obtain ⟨to, w2, e2⟩ := plc_of p2
  obtain ⟨st, w3, w3', e3⟩ := nmb_of (a := 1) (b := 20) rfl rfl (by omega) (by omega) p3
  obtain ⟨mi, w4, w4', e4⟩ := nmb_of (a := 1) (b := 30) rfl rfl (by omega) (by omega) p4
  obtain ⟨wi, w5, w5', e5⟩ := nmb_of (a := 0) (b := 200) rfl rfl (by omega) (by omega) p5
  have hh := h1 p1 p2 p3 p4 p5 h8 fr to st mi wi ⟨w1, w2, ⟨w3, w3'⟩, ⟨w4, w4'⟩, w5'⟩ e1 e2 e3 e4 e5
  rw [e7, show (5 : Int32) * nI (μ.1 7) = nI (5 * μ.1 7) by rw [show (5 : Int32) = nI 5 from rfl, nI_mul], show nI (5 * μ.1 7) + 1 = nI (5 * μ.1 7 + 1) from nI_add _ 1, show nI (5 * μ.1 7) + 2 = nI (5 * μ.1 7 + 2) from nI_add _ 2, show nI (5 * μ.1 7) + 3 = nI (5 * μ.1 7 + 3) from nI_add _ 3, show nI (5 * μ.1 7) + 4 = nI (5 * μ.1 7 + 4) from nI_add _ 4, nI_clamp (by omega), nI_clamp (by omega), nI_clamp (by omega), nI_clamp (by omega), nI_clamp (by omega)]
  refine ⟨vp_in_nI (by omega) (by omega), ?_⟩
  rintro s4 rfl
  refine ⟨vp_in_nI (by omega) (by omega), ?_⟩
  rintro s5 rfl
  refine ⟨vp_in_nI (by omega) (by omega), ?_⟩
  rintro s6 rfl
  refine ⟨vp_in_nI (by omega) (by omega), ?_⟩
  rintro s7 rfl
  refine ⟨vp_in_nI (by omega) (by omega), ?_⟩
  rintro s8 rfl
  rintro s9 rfl
  have q5 := ((((hR'.u2 (k := 3) (i := 5 * μ.1 7) e1 (by decide) (by decide)).u2 (k := 3) (i := 5 * μ.1 7 + 1) e2 (by decide) (by decide)).u2 (k := 3) (i := 5 * μ.1 7 + 2) e3 (by decide) (by decide)).u2 (k := 3) (i := 5 * μ.1 7 + 3) e4 (by decide) (by decide)).u2 (k := 3) (i := 5 * μ.1 7 + 4) e5 (by decide) (by decide)
  have e7' := q5.s1 (k := 7) (by unfold sc1; omega)
  have q6 := q5.u1 (k := 7) (n := μ.1 7 + 1) (v := nI (μ.1 7) + 1) (by rw [nI_1]) (by decide) (by decide)
  rw [show (rsA (rsA (rsA (rsA (rsA (rsI ρ 0 0) 3 (5 * μ.1 7) v1) 3 (5 * μ.1 7 + 1) v2) 3 (5 * μ.1 7 + 2) v3) 3 (5 * μ.1 7 + 3) v4) 3 (5 * μ.1 7 + 4) v5).1 7 = nI (μ.1 7) from e7]
  have e8 : (rsI (rsA (rsA (rsA (rsA (rsA (rsI ρ 0 0) 3 (5 * μ.1 7) v1) 3 (5 * μ.1 7 + 1) v2) 3 (5 * μ.1 7 + 2) v3) 3 (5 * μ.1 7 + 3) v4) 3 (5 * μ.1 7 + 4) v5) 7 (nI (μ.1 7) + 1)).1 7 - 1 = nI (μ.1 7) := by
    show nI (μ.1 7) + 1 - 1 = _
    rw [nI_1, nI_pred]
  rw [e8]
  exact hh _ q6 rfl
end RF
section LI
variable {μ : MSt} {j : Nat}
theorem lift_MI {fr to st mi wi : Nat} (hI : MI μ j) (h8 : μ.1 7 < 8) (h1 : fr < 10) (h2 : to < 10) (h3 : 1 ≤ st ∧ st ≤ 20) (h4 : 1 ≤ mi ∧ mi ≤ 30) (h5 : wi ≤ 200) : MI (mLift μ fr to st mi wi) j := by
  have hz := hI.ze
  have e7 : (mLift μ fr to st mi wi).1 7 = μ.1 7 + 1 := m1_s
  have e1 : ∀ k, k ≠ 7 → (mLift μ fr to st mi wi).1 k = μ.1 k := fun k hk => mLift_1 hk
  have eN : ∀ s, mNm (mLift μ fr to st mi wi) s = mNm μ s := fun s => mNm_eq (mLift_2 (by omega)) (fun _ => mLift_2 (by omega)) (fun _ _ _ => ⟨mLift_2 (by omega), mLift_2 (by omega)⟩)
  have eA : ∀ k, k ≠ 3 → (mLift μ fr to st mi wi).2.1 k = μ.2.1 k := fun k hk => by funext i; exact mLift_2 (Or.inl hk)
  refine ⟨?_, ?_, ?_, ?_, ?_, ?_, ?_, ?_, ?_, ?_⟩
  · have := hI.c0
    unfold mC0 at this ⊢
    rw [e7, e1 2 (by decide), e1 9 (by decide), e1 14 (by decide), e1 22 (by decide), e1 26 (by decide), e1 27 (by decide), e1 28 (by decide), e1 20 (by decide)]
    omega
  · intro i hi
    rw [e7] at hi
    rw [eA 4 (by decide)]
    by_cases e : i = μ.1 7
    · subst e
      have g0 : (mLift μ fr to st mi wi).2.1 3 (5 * μ.1 7) = fr := by unfold mLift; show (m2 _ _ _ _).2.1 3 _ = _; rw [m2_n (by omega), m2_n (by omega), m2_n (by omega), m2_n (by omega), m2_s]
      have g1 : (mLift μ fr to st mi wi).2.1 3 (5 * μ.1 7 + 1) = to := by unfold mLift; show (m2 _ _ _ _).2.1 3 _ = _; rw [m2_n (by omega), m2_n (by omega), m2_n (by omega), m2_s]
      have g2 : (mLift μ fr to st mi wi).2.1 3 (5 * μ.1 7 + 2) = st := by unfold mLift; show (m2 _ _ _ _).2.1 3 _ = _; rw [m2_n (by omega), m2_n (by omega), m2_s]
      have g3 : (mLift μ fr to st mi wi).2.1 3 (5 * μ.1 7 + 3) = mi := by unfold mLift; show (m2 _ _ _ _).2.1 3 _ = _; rw [m2_n (by omega), m2_s]
      have g4 : (mLift μ fr to st mi wi).2.1 3 (5 * μ.1 7 + 4) = wi := by unfold mLift; show (m2 _ _ _ _).2.1 3 _ = _; rw [m2_s]
      rw [g0, g1, g2, g3, g4, (hz.1 _ (Nat.le_refl _)).1]
      omega
    · rw [mLift_2 (by omega), mLift_2 (by omega), mLift_2 (by omega), mLift_2 (by omega), mLift_2 (by omega)]
      exact hI.li i (by omega)
  · unfold mSl; rw [e1 9 (by decide), e1 14 (by decide), eA 8 (by decide), eA 18 (by decide)]; exact hI.sl
  · unfold mSn; rw [e1 14 (by decide), eA 10 (by decide)]; exact hI.sn
  · unfold mGr; rw [e1 22 (by decide), e1 9 (by decide), e7, eA 21 (by decide)]
    intro g hg
    have := hI.gr g hg
    omega
  · unfold mQu
    rw [e7, eA 6 (by decide), eA 5 (by decide), eA 21 (by decide), e1 22 (by decide)]
    intro l hl
    by_cases e : l = μ.1 7
    · subst e
      rw [(hz.1 _ (Nat.le_refl _)).2]
      exact ⟨by omega, fun k hk => absurd hk (Nat.not_lt_zero _)⟩
    · exact hI.qu l (by omega)
  · unfold mRu
    rw [e1 9 (by decide), e7, eA 15 (by decide), eA 16 (by decide), eA 17 (by decide), eA 18 (by decide)]
    refine ⟨fun s hs e => ?_, ?_⟩
    · obtain ⟨a1, a2, a3, a4⟩ := hI.ru.1 s hs e
      refine ⟨a1, a2, a3, fun k hk => ?_⟩
      obtain ⟨b1, b2, b3, b4, b5, b6⟩ := a4 k hk
      exact ⟨b1, b2, b3, fun e => by have := b4 e; omega, b5, b6⟩
    · obtain ⟨r, hr⟩ := hI.ru.2
      exact ⟨r, fun s k hs hk e => hr s k hs hk (by rw [eN] at e; exact e)⟩
  · unfold mLk; rw [e1 26 (by decide), e1 14 (by decide), eA 23 (by decide), eA 24 (by decide), eA 25 (by decide)]; exact hI.lk
  · unfold mWt; rw [e1 14 (by decide), eA 12 (by decide)]; exact hI.wt
  · unfold mZe
    rw [e7, e1 9 (by decide), e1 14 (by decide), e1 22 (by decide), eA 4 (by decide), eA 6 (by decide), eA 18 (by decide), eA 10 (by decide), eA 12 (by decide), eA 21 (by decide)]
    exact ⟨fun l hl => hz.1 l (by omega), hz.2⟩
end LI
end
