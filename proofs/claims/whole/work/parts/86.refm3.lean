section
/-! the reference's minute: boarding, a minute, step -/
section RB
variable {ρ ρ' : RSt} {μ : MSt} {j : Nat} {v : Int32}
/-- the row's first q moved up -/
def mBs (μ : MSt) (l k q : Nat) : MSt :=
  (μ.1, fun a i => if a = 6 ∧ i = l then μ.2.1 6 l - k else if a = 5 ∧ 60 * l ≤ i ∧ i < 60 * l + q then μ.2.1 5 (i + k) else (brd μ l k).2.1 a i, μ.2.2)
theorem mBs_6 {l k q : Nat} : (mBs μ l k q).2.1 6 l = μ.2.1 6 l - k := if_pos ⟨rfl, rfl⟩
theorem mBs_5 {l k q i : Nat} (h : ¬ (60 * l ≤ i ∧ i < 60 * l + q)) : (mBs μ l k q).2.1 5 i = μ.2.1 5 i := by
  unfold mBs
  dsimp only
  rw [if_neg (fun e => absurd e.1 (by decide)), if_neg (fun e => h e.2)]
  exact brd_2 (by decide) k
theorem mBs_s {l k q a i : Nat} (hk : ∀ ρ, RR ρ μ → True) : (m2 (mBs μ l k q) 5 (60 * l + q) (μ.2.1 5 (60 * l + q + k))).2.1 a i = (mBs μ l k (q + 1)).2.1 a i := by
  by_cases e : a = 5 ∧ i = 60 * l + q
  · obtain ⟨rfl, rfl⟩ := e
    rw [m2_s]
    unfold mBs
    dsimp only
    rw [if_neg (fun e => absurd e.1 (by decide)), if_pos ⟨rfl, by omega, by omega⟩]
  · rw [m2_n (by omega)]
    unfold mBs
    dsimp only
    by_cases e6 : a = 6 ∧ i = l
    · rw [if_pos e6, if_pos e6]
    · rw [if_neg e6, if_neg e6]
      by_cases e5 : a = 5 ∧ 60 * l ≤ i ∧ i < 60 * l + q
      · rw [if_pos e5, if_pos ⟨e5.1, e5.2.1, by omega⟩]
      · rw [if_neg e5, if_neg (by omega)]
theorem sR_boards {post : RSt → Prop} {l : Nat} (hR : RR ρ μ) (hI : MI μ j) (hl : l < μ.1 7) (hp : ∀ ρ', RR ρ' (mBo μ l (mB μ l)) → s40 ρ ρ' → post ρ') : wpR_boards_0 post ρ (nI l) := by
  have hc := hI.cs
  have hq := hI.qu l hl
  have hli := hI.li l hl
  have z2 : (5 : Int32) * nI l + 2 = nI (5 * l + 2) := ix rfl rfl
  have z3 : (5 : Int32) * nI l + 3 = nI (5 * l + 3) := ix rfl rfl
  unfold wpR_boards_0
  rw [z2, hR.g (k := 3) (i := 5 * l + 2) (by unfold sc2; omega) (by omega)]
  refine ⟨vp_in_nI (by omega) (by omega), ?_⟩
  refine gLP.up (μ.2.1 6 l) (fun k (x : RSt × Int32 × Int32 × Int32) => k ≤ μ.2.1 6 l ∧ (∀ i : Nat, i < k → ¬ stB μ l i) ∧ RR x.1 (brd μ l k) ∧ s40 ρ x.1 ∧ x.2 = (nI l, nI (mLf μ l k), nI k)) (fun k x h => h.1) ?_ (j := 0) ⟨Nat.zero_le _, fun i hi => absurd hi (Nat.not_lt_zero _), hR, s40.rf, rfl⟩
  rintro k ⟨s, y⟩ P ⟨hk, hns, hC, h40, e⟩ hP
  dsimp only at hC h40 e
  subst e
  dsimp only
  have e6 := hC.g (k := 6) (i := l) (by unfold sc2; omega) (by omega)
  rw [brd_2 (by decide)] at e6
  have hend : stB μ l k → wpR_boards_120 post s (nI l) (nI k) := by
    intro hst
    have hB := mB_eq (μ := μ) (l := l) ⟨hk, hst, hns⟩
    refine ⟨vp_in_nI (by omega) (by omega), vp_in_nI (by omega) (by omega), ?_⟩
    rw [e6, nI_sub hk]
    rintro s3 rfl
    have h1 := hC.w (k := 6) (i := l) (v := nI (μ.2.1 6 l - k)) rfl (by decide) (by decide) (by omega)
    have h2 : RR (rsA s 6 (nI l).toNatClampNeg (nI (μ.2.1 6 l - k))) (mBs μ l k 0) := by
      refine h1.congr (fun a _ => congrFun (brd_1 (μ := μ) (l := l) k).1.symm a) (fun a i _ => ?_) ?_
      · by_cases e : a = 6 ∧ i = l
        · obtain ⟨rfl, rfl⟩ := e; rw [m2_s]; exact mBs_6
        · rw [m2_n (by omega)]
          unfold mBs
          dsimp only
          rw [if_neg e, if_neg (by omega)]
      · have := (brd_1 (μ := μ) (l := l) k).2
        refine ⟨fun i => ?_, fun i => ?_, ?_⟩
        · exact (congrFun (congrFun this 1) i).symm
        · exact (congrFun (congrFun this 13) i).symm
        · exact (congrFun (congrFun this 19) 0).symm
    refine gLP.up (μ.2.1 6 l - k) (fun q (x : RSt × Int32 × Int32 × Int32) => q ≤ μ.2.1 6 l - k ∧ RR x.1 (mBs μ l k q) ∧ s40 ρ x.1 ∧ x.2 = (nI l, nI k, nI q)) (fun k x h => h.1) ?_ (j := 0) ⟨Nat.zero_le _, h2, h40.tr (s40.A (by decide)), rfl⟩
    rintro q ⟨t, y⟩ Q ⟨hq1, hD, h40', e⟩ hQ
    dsimp only at hD h40' e
    subst e
    dsimp only
    have e6q := hD.g (k := 6) (i := l) (by unfold sc2; omega) (by omega)
    rw [mBs_6] at e6q
    refine ⟨vp_in_nI (by omega) (by omega), fun e => ?_, fun e => ?_⟩
    · rw [e6q, nI_leI (by omega) (by omega)] at e
      obtain rfl : q = μ.2.1 6 l - k := by omega
      refine hp t ?_ h40'
      rw [hB]
      exact hD
    · rw [e6q, nI_leI (by omega) (by omega)] at e
      have y1 : (60 : Int32) * nI l + nI q = nI (60 * l + q) := ix rfl rfl
      rw [y1, nI_add]
      refine ⟨vp_in_nI (by omega) (by omega), vp_in_nI (by omega) (by omega), ?_⟩
      rw [hD.g (k := 5) (i := 60 * l + q + k) (by unfold sc2; omega) (by omega), mBs_5 (by omega)]
      rintro s2 rfl
      have h3 := hD.w (k := 5) (i := 60 * l + q) (v := nI (μ.2.1 5 (60 * l + q + k))) rfl (by decide) (by decide) (by omega)
      refine hQ _ ⟨by omega, h3.congr (fun _ _ => rfl) (fun a i _ => (mBs_s (fun _ _ => trivial)).symm) ⟨fun _ => rfl, fun _ => rfl, rfl⟩, h40'.tr (s40.A (by decide)), by rw [nI_1]⟩
  refine ⟨vp_in_nI (by omega) (by omega), fun e => ?_, fun e => ?_⟩
  · rw [e6, nI_leI (by omega) (by omega)] at e
    exact hend (Or.inl (by omega))
  rw [e6, nI_leI (by omega) (by omega)] at e
  have hkn : k < μ.2.1 6 l := by omega
  obtain ⟨g1, g2, g3, g4⟩ := hq.2 k hkn
  have y1 : (60 : Int32) * nI l + nI k = nI (60 * l + k) := ix rfl rfl
  have e5 := hC.g (k := 5) (i := 60 * l + k) (by unfold sc2; omega) (by omega)
  rw [brd_2 (by decide)] at e5
  have hb := hI.gr (qg μ l k) g1
  have g1' : qg μ l k < μ.1 22 := g1
  rw [y1, e5]
  have w0 : (7 : Int32) * nI (μ.2.1 5 (60 * l + k)) = nI (7 * qg μ l k) := ix0 rfl
  have w2 : nI (7 * qg μ l k) + 2 = nI (7 * qg μ l k + 2) := ixa rfl
  have w4 : nI (7 * qg μ l k) + 4 = nI (7 * qg μ l k + 4) := ixa rfl
  have w5 : nI (7 * qg μ l k) + 5 = nI (7 * qg μ l k + 5) := ixa rfl
  have b0 : (brd μ l k).2.1 21 (7 * qg μ l k) = μ.2.1 21 (7 * qg μ l k) := brd_n (g := qg μ l k) (f := 0) (by decide) k (Or.inl (by decide))
  have b5 : (brd μ l k).2.1 21 (7 * qg μ l k + 5) = μ.2.1 21 (7 * qg μ l k + 5) := brd_n (by decide) k (Or.inr (fun i hi => g4 i hi))
  rw [w0, w2, w4, w5, z3, hC.g (k := 21) (i := 7 * qg μ l k) (by unfold sc2; omega) (by omega), b0]
  have hlf := mLf_le (μ := μ) (l := l) k
  rw [nI_ltI (by omega) (by omega)]
  refine ⟨vp_in_nI (by omega) (by omega), vp_in_nI (by omega) (by omega), fun e5 => hend (Or.inr e5), fun e5 => ⟨vp_in_nI (by omega) (by omega), vp_in_nI (by omega) (by omega), ?_⟩⟩
  have hnst : ¬ stB μ l k := fun hst => hst.elim (by omega) e5
  rintro x6 rfl
  refine ⟨vp_in_nI (by omega) (by omega), ?_⟩
  rintro s7 rfl
  have h1 := hC.w (k := 21) (i := 7 * qg μ l k + 2) (n := 2) (v := 2) rfl (by decide) (by decide) (by omega)
  have e3 := h1.g (k := 3) (i := 5 * l + 3) (by unfold sc2; omega) (by omega)
  rw [m2_n (by omega), brd_2 (by decide)] at e3
  refine ⟨vp_in_nI (by omega) (by omega), vp_in_nI (by omega) (by omega), ?_⟩
  rw [e3]
  rintro s8 rfl
  have h2 := h1.w (k := 21) (i := 7 * qg μ l k + 4) (v := nI (μ.2.1 3 (5 * l + 3))) rfl (by decide) (by decide) (by omega)
  have e21 := h2.g (k := 21) (i := 7 * qg μ l k + 5) (by unfold sc2; omega) (by omega)
  rw [m2_n (by omega), m2_n (by omega), b5] at e21
  refine ⟨vp_in_nI (by omega) (by omega), vp_in_nI (by omega) (by omega), ?_⟩
  rw [e21, nI_1]
  rintro s9 rfl
  have h3 := h2.w (k := 21) (i := 7 * qg μ l k + 5) (v := nI (μ.2.1 21 (7 * qg μ l k + 5) + 1)) rfl (by decide) (by decide) (by omega)
  refine hP _ ⟨by omega, fun i hi => ?_, h3, ((h40.tr (s40.A (by decide))).tr (s40.A (by decide))).tr (s40.A (by decide)), ?_⟩
  · by_cases e : i = k
    · subst e; exact hnst
    · exact hns i (by omega)
  · rw [nI_sub (by omega), nI_1]
    rfl
theorem sR_lifts {post : RSt → Prop} (hR : RR ρ μ) (hI : MI μ j) (hp : ∀ ρ', RR ρ' (m1 (mFil μ (μ.1 7)) 28 (μ.1 28 + 1)) → s40 ρ ρ' → post ρ') : wpR_passes_182 post ρ 0 := by
  have hc := hI.cs
  refine gLP.up (μ.1 7) (fun i (x : RSt × Int32) => i ≤ μ.1 7 ∧ RR x.1 (mFil μ i) ∧ s40 ρ x.1 ∧ x.2 = nI i) (fun k x h => h.1) ?_ (j := 0) ⟨Nat.zero_le _, hR, s40.rf, rfl⟩
  rintro i ⟨s, y⟩ P ⟨hi, hC, h40, e⟩ hP
  dsimp only at hC h40 e
  subst e
  dsimp only
  obtain ⟨hIi, h1i⟩ := mFil_MI hI i hi
  have e7 := hC.s1 (k := 7) (by unfold sc1; omega)
  have e28 := hC.s1 (k := 28) (by unfold sc1; omega)
  rw [h1i] at e7 e28
  unfold wpR_passes_182_F
  rw [e7, nI_leI (by omega) (by omega)]
  refine ⟨fun e => ?_, fun e => sR_run hC hIi (by rw [h1i]; omega) ?_⟩
  · obtain rfl : i = μ.1 7 := by omega
    rw [e28, nI_1]
    rintro s2 rfl
    exact hp _ (hC.u1 rfl (by decide) (by decide)) ⟨h40.1, h40.2⟩
  · have hi7 : i < (mFil μ i).1 7 := by rw [h1i]; omega
    cases hr : mRun (mFil μ i) i with
    | false => exact ⟨fun _ => hP _ ⟨by omega, by rw [mFil_n (by rw [hr]; decide)]; exact hC, h40, by rw [nI_1]⟩, fun e => absurd rfl e⟩
    | true =>
      refine ⟨fun e => absurd e (by decide), fun _ => sR_boards hC hIi hi7 (fun ρ' h1 h2 => hP _ ⟨by omega, by rw [mFil_y hr]; exact h1, h40.tr h2, by rw [nI_1]⟩)⟩
theorem sR_free {post : RSt → Prop} {op : Nat → Bool} (hR : RR ρ μ) (hI : MI μ j) (hj : j ≤ 512) (hop : ∀ i : Nat, i < μ.1 9 → ρ.2.1 40 i = bI (op i)) (hp : ∀ ρ', RR ρ' (mChoN μ op (μ.1 22)) → s40 ρ ρ' → wpR_passes_182 post ρ' 0) : wpR_passes_147 post ρ 0 := by
  have hc := hI.cs
  refine gLP.up (μ.1 22) (fun i (x : RSt × Int32) => i ≤ μ.1 22 ∧ RR x.1 (mChoN μ op i) ∧ s40 ρ x.1 ∧ x.2 = nI i) (fun k x h => h.1) ?_ (j := 0) ⟨Nat.zero_le _, hR, s40.rf, rfl⟩
  rintro i ⟨s, y⟩ P ⟨hi, hC, h40, e⟩ hP
  dsimp only at hC h40 e
  subst e
  dsimp only
  obtain ⟨hIi, h1i⟩ := mChoN_MI (op := op) hI i hi
  have e22 := hC.s1 (k := 22) (by unfold sc1; omega)
  rw [h1i 22 (by decide)] at e22
  unfold wpR_passes_147_F
  rw [e22, nI_leI (by omega) (by omega)]
  refine ⟨fun e => ?_, fun e => ?_⟩
  · obtain rfl : i = μ.1 22 := by omega
    exact hp s hC h40
  · have y2 : (7 : Int32) * nI i + 2 = nI (7 * i + 2) := ix rfl rfl
    have hi22 : i < (mChoN μ op i).1 22 := by rw [h1i 22 (by decide)]; omega
    have hb := hIi.gr i hi22
    rw [y2, hC.g (k := 21) (i := 7 * i + 2) (by unfold sc2; omega) (by omega), show (0 : Int32) = nI 0 from rfl, nI_eq (by omega) (by omega)]
    refine ⟨vp_in_nI (by omega) (by omega), fun e0 => hP _ ⟨by omega, by rw [mChoN_x e0]; exact hC, h40, by rw [nI_1]⟩, fun e0 => ?_⟩
    refine sR_chooses hC hIi hj hi22 e0 (fun q hq => by rw [h40.2, hop q (by rw [← h1i 9 (by decide)]; exact hq)]) (fun ρ' h1 h2 => hP _ ⟨by omega, by rw [mChoN_y e0]; exact h1, h40.tr h2, by rw [nI_1]⟩)
theorem sR_pass {post : RSt → Prop} (hR : RR ρ μ) (hI : MI μ j) (hj : j ≤ 512) (hp : ∀ ρ', RR ρ' (mPass μ) → ρ'.1 0 = ρ.1 0 → post ρ') : wpR_passes_0 post ρ := by
  have hc := hI.cs
  refine rO_opens hR hI hj (fun ρ1 op hsm ho h40 => ?_)
  have hR1 := hR.sm hsm (fun k hk => by omega)
  have hop := mOp_eq hI ho
  have h40' : ∀ i : Nat, i < μ.1 9 → ρ1.2.1 40 i = bI (mOp μ i) := fun i hi => by rw [h40 i hi, hop i hi]
  have ht : ρ1.1 0 = ρ.1 0 := by rw [hsm.1]
  refine gLP.up (μ.1 22) (fun i (x : RSt × Int32) => i ≤ μ.1 22 ∧ RR x.1 (mGoN μ i) ∧ s40 ρ1 x.1 ∧ x.2 = nI i) (fun k x h => h.1) ?_ (j := 0) ⟨Nat.zero_le _, hR1, s40.rf, rfl⟩
  rintro i ⟨s, y⟩ P ⟨hi, hC, hk, e⟩ hP
  dsimp only at hC hk e
  subst e
  dsimp only
  have hIi := mGoN_MI hI i hi
  have h1i : (mGoN μ i).1 = μ.1 := mGoN_1 i
  have e22 := hC.s1 (k := 22) (by unfold sc1; omega)
  rw [h1i] at e22
  unfold wpR_passes_6_F
  rw [e22, nI_leI (by omega) (by omega)]
  refine ⟨fun e => ?_, fun e => ?_⟩
  · obtain rfl : i = μ.1 22 := by omega
    have hsent := mSent_MI hI
    refine sR_free (op := mOp μ) hC hIi hj (fun q hq => by rw [hk.2]; exact h40' q (by rw [← h1i]; exact hq)) (fun ρ2 h2 k2 => ?_)
    rw [h1i] at h2
    refine sR_lifts (μ := mSent μ) h2 hsent.1 (fun ρ3 h3 k3 => hp ρ3 ?_ (k3.1.trans (k2.1.trans (hk.1.trans ht))))
    rw [hsent.2 7 (by decide), hsent.2 28 (by decide)] at h3
    exact h3
  · have y2 : (7 : Int32) * nI i + 2 = nI (7 * i + 2) := ix rfl rfl
    have hi22 : i < (mGoN μ i).1 22 := by rw [h1i]; omega
    have hb := hIi.gr i hi22
    generalize hM : mGoN μ i = M at hC hIi hb hi22 h1i
    have e7' : M.1 7 = μ.1 7 := by rw [h1i]
    have e9' : M.1 9 = μ.1 9 := by rw [h1i]
    rw [e7', e9'] at hb
    have hP' : ∀ s', RR s' (mGo M i) → s40 s s' → P (s', nI i + 1) := fun s' h1 h2 => hP _ ⟨by omega, by show RR s' (mGo (mGoN μ i) i); rw [hM]; exact h1, hk.tr h2, by rw [nI_1]⟩
    obtain ⟨c1, c2, c3⟩ := mGo_g (μ := M) (g := i)
    have e2 : s.2.1 21 (nI (7 * i + 2)).toNatClampNeg = nI (M.2.1 21 (7 * i + 2)) := hC.g (k := 21) (i := 7 * i + 2) (by unfold sc2; omega) (by omega)
    have h46 : (M.2.1 21 (7 * i + 2) = 2 ∨ M.2.1 21 (7 * i + 2) = 3) → wpR_passes_46 post (fun s v1 => P (s, v1)) s (nI i) (7 * nI i) := by
      intro hs
      have hep := mEp_le hIi hi22 hs
      rw [show (7 : Int32) * nI i = nI (7 * i) from ix0 rfl]
      have z2 : nI (7 * i) + 2 = nI (7 * i + 2) := ixa rfl
      have z3 : nI (7 * i) + 3 = nI (7 * i + 3) := ixa rfl
      have z4 : nI (7 * i) + 4 = nI (7 * i + 4) := ixa rfl
      unfold wpR_passes_46
      rw [z2, z3, z4, hC.g (k := 21) (i := 7 * i + 4) (by unfold sc2; omega) (by omega), show (1 : Int32) = nI 1 from rfl, nI_sub (by omega)]
      refine ⟨vp_in_nI (by omega) (by omega), vp_in_nI (by omega) (by omega), ?_⟩
      rintro s12 rfl
      have h1 := hC.w (k := 21) (i := 7 * i + 4) (v := nI (M.2.1 21 (7 * i + 4) - 1)) rfl (by decide) (by decide) (by omega)
      have q4 := h1.g (k := 21) (i := 7 * i + 4) (by unfold sc2; omega) (by omega)
      rw [m2_s] at q4
      have q3 := h1.g (k := 21) (i := 7 * i + 3) (by unfold sc2; omega) (by omega)
      rw [m2_n (by omega)] at q3
      have q2 := h1.g (k := 21) (i := 7 * i + 2) (by unfold sc2; omega) (by omega)
      rw [m2_n (by omega)] at q2
      rw [q4, q3, q2, show (0 : Int32) = nI 0 from rfl, nI_leI (by omega) (by omega), show (2 : Int32) = nI 2 from rfl, nI_eq (by omega) (by omega)]
      refine ⟨vp_in_nI (by omega) (by omega), fun ez => ⟨vp_in_nI (by omega) (by omega), ?_⟩, fun ez => ?_⟩
      · have h129 : ∀ w : Int32, w = nI (mEp M i) → wpR_passes_129 post (fun s v1 => P (s, v1)) (rsA s 21 (nI (7 * i + 4)).toNatClampNeg (nI (M.2.1 21 (7 * i + 4) - 1))) (nI i) (nI (7 * i)) (nI (7 * i + 3)) w := by
          intro w hw
          subst hw
          unfold wpR_passes_129
          rw [z2]
          refine ⟨vp_in_nI (by omega) (by omega), ?_⟩
          rintro s10 rfl
          have h2 := h1.w (k := 21) (i := 7 * i + 3) (v := nI (mEp M i)) rfl (by decide) (by decide) (by omega)
          refine ⟨vp_in_nI (by omega) (by omega), ?_⟩
          rintro s11 rfl
          have h3 := h2.w (k := 21) (i := 7 * i + 2) (n := 0) (v := 0) rfl (by decide) (by decide) (by omega)
          refine hP' _ ?_ (((s40.A (by decide)).tr (s40.A (by decide))).tr (s40.A (by decide)))
          unfold mGo
          rw [if_pos hs, if_pos (by omega)]
          exact h3
        refine ⟨fun en => ?_, fun ee => ?_⟩
        · have w1 : (6 : Int32) * nI (M.2.1 21 (7 * i + 3)) + nI 1 = nI (6 * M.2.1 21 (7 * i + 3) + 1) := ix rfl rfl
          have q8 := h1.g (k := 8) (i := 6 * M.2.1 21 (7 * i + 3) + 1) (by unfold sc2; omega) (by omega)
          rw [m2_n (by omega)] at q8
          rw [w1]
          refine ⟨vp_in_nI (by omega) (by omega), vp_in_nI (by omega) (by omega), h129 _ ?_⟩
          rw [q8]
          unfold mEp
          rw [if_neg en]
        · have w1 : (5 : Int32) * nI (M.2.1 21 (7 * i + 3)) + nI 1 = nI (5 * M.2.1 21 (7 * i + 3) + 1) := ix rfl rfl
          have q8 := h1.g (k := 3) (i := 5 * M.2.1 21 (7 * i + 3) + 1) (by unfold sc2; omega) (by omega)
          rw [m2_n (by omega)] at q8
          rw [w1]
          refine ⟨vp_in_nI (by omega) (by omega), vp_in_nI (by omega) (by omega), h129 _ ?_⟩
          rw [q8]
          unfold mEp
          rw [if_pos ee]
      · refine hP' _ ?_ (s40.A (by decide))
        unfold mGo
        rw [if_pos hs, if_neg (by omega)]
        exact h1
    rw [y2, e2, show (2 : Int32) = nI 2 from rfl, show (3 : Int32) = nI 3 from rfl, nI_eq (by omega) (by omega), nI_eq (by omega) (by omega)]
    refine ⟨vp_in_nI (by omega) (by omega), fun e2 => h46 (Or.inl e2), fun e2 => ⟨vp_in_nI (by omega) (by omega), fun e3 => h46 (Or.inr e3), fun e3 => ?_⟩⟩
    refine hP' s ?_ s40.rf
    rw [c3 (fun h => h.elim e2 e3)]
    exact hC
theorem rO_step {post : Int32 → RSt → Prop} (hR : RR ρ μ) (hI : MI μ j) (hj : j < 512) (h1 : ∀ n : Nat, n ≤ 600 → v = nI n → ∀ ρ', RR ρ' (mStp μ n) → ρ'.1 0 = 0 → post (nI (μ.1 28 + n)) ρ') (h0 : (¬ v < 0 → ¬ v ≤ 600) → ∀ ρ', RR ρ' μ → ρ'.1 0 = 1 → post 0 ρ') : wpR_step_0 post ρ v := by
  rintro s1 rfl
  have hR' := hR.sI (k := 0) 0 (by unfold sc1; omega) (by decide)
  have hc := hI.cs
  refine sR_inI (lo := 0) (hi := 600) rfl rfl (fun a b => ⟨fun _ => sR_t0 ⟨fun _ => ?_, fun e => absurd rfl e⟩, fun e => absurd e (by decide)⟩) (fun a => ⟨fun e => absurd rfl e, fun _ => sR_t1 ⟨fun e => absurd e (by decide), fun _ => h0 a _ (hR'.sI 1 (by unfold sc1; omega) (by decide)) rfl⟩⟩)
  obtain ⟨N, hN, rfl⟩ := nI_of2 (M := 600) (n := 600) rfl a b
  have h1 := h1 N hN rfl
  refine gLP.up N (fun i (x : RSt × Int32 × Int32) => i ≤ N ∧ RR x.1 (mStp μ i) ∧ x.1.1 0 = 0 ∧ x.2 = (nI N, nI i)) (fun k x h => h.1) ?_ (j := 0) ⟨Nat.zero_le _, hR', rfl, rfl⟩
  rintro i ⟨s, y⟩ P ⟨hi, hC, ht, e⟩ hP
  dsimp only at hC ht e
  subst e
  dsimp only
  obtain ⟨hIi, e28, e7, e22⟩ := mStp_MI hI i (by omega)
  refine ⟨fun e => ?_, fun e => ?_⟩
  · rw [nI_leI (by omega) (by omega)] at e
    obtain rfl : i = N := by omega
    have := hC.s1 (k := 28) (by unfold sc1; omega)
    rw [e28] at this
    rw [this]
    exact h1 s hC ht
  · rw [nI_leI (by omega) (by omega)] at e
    exact sR_pass hC hIi (by omega) (fun ρ' h2 h3 => hP _ ⟨by omega, h2, h3.trans ht, by rw [nI_1]⟩)
end RB
end
