section
/-! the reference's minute: a free group chooses -/
section RC
variable {ρ ρ' : RSt} {μ : MSt} {j : Nat} {op : Nat → Bool}
def oI (b : Option Nat) : Int32 := match b with | none => -1 | some s => nI s
theorem oI_lt {b : Option Nat} (h : ∀ s, b = some s → s < 2 ^ 31) : oI b < 0 ↔ b = none := by
  cases b with
  | none => exact ⟨fun _ => rfl, fun _ => (by decide : (-1 : Int32) < 0)⟩
  | some s => exact ⟨fun e => absurd e (nI_nn (h s rfl)), fun e => by cases e⟩
theorem oI_le {b : Option Nat} (h : ∀ s, b = some s → s < 2 ^ 31) : 0 ≤ oI b ↔ ¬ b = none := by
  cases b with
  | none => exact ⟨fun e => absurd e (by decide : ¬ (0 : Int32) ≤ -1), fun e => absurd rfl e⟩
  | some s => exact ⟨fun _ e => (by cases e), fun _ => by show nI 0 ≤ nI s; rw [nI_leI (by decide) (h s rfl)]; omega⟩
theorem sR_chooseL {post : RSt → Prop} {g : Nat} (hR : RR ρ μ) (hI : MI μ j) (hg : g < μ.1 22) (h0 : μ.2.1 21 (7 * g + 2) = 0) (hl : ∀ l, bli μ g (μ.1 7) = some l → ∀ ρ', RR ρ' (mQue μ g l) → s40 ρ ρ' → post ρ') (hn : bli μ g (μ.1 7) = none → post ρ) : wpR_chooses_184 post ρ (nI g) (nI (7 * g)) (-1) 0 := by
  have hc := hI.cs
  have hb := hI.gr g hg
  refine gLP.up (μ.1 7) (fun k (x : RSt × Int32 × Int32 × Int32 × Int32) => k ≤ μ.1 7 ∧ x = (ρ, nI g, nI (7 * g), oI (bli μ g k), nI k)) (fun k x h => h.1) ?_ (j := 0) ⟨Nat.zero_le _, rfl⟩
  rintro k x P ⟨hk, rfl⟩ hP
  dsimp only
  have hlt : ∀ s, bli μ g k = some s → s < k := fun s e => bli_lt _ _ e
  have x2 : nI (7 * g) + 2 = nI (7 * g + 2) := ixa rfl
  have x3 : nI (7 * g) + 3 = nI (7 * g + 3) := ixa rfl
  unfold wpR_chooses_184_F
  rw [hR.s1 (k := 7) (by unfold sc1; omega), nI_leI (by omega) (by omega), x2, x3]
  refine ⟨fun e => ?_, fun e => sR_run hR hI (by omega) ?_⟩
  · obtain rfl : k = μ.1 7 := by omega
    rw [oI_le (fun s e => by have := hlt s e; omega)]
    refine ⟨fun hne => ?_, fun hne => hn (Classical.not_not.mp hne)⟩
    cases hx : bli μ g (μ.1 7) with
    | none => exact absurd hx hne
    | some l =>
      have hl7 := hlt l hx
      have hroom := qu_room hI hg hl7 h0
      show vp_in (nI (7 * g + 2)) 420 ∧ _
      refine ⟨vp_in_nI (by omega) (by omega), ?_⟩
      rintro s3 rfl
      have h1 := hR.w (k := 21) (i := 7 * g + 2) (n := 1) (v := 1) rfl (by decide) (by decide) (by omega)
      refine ⟨vp_in_nI (by omega) (by omega), ?_⟩
      rintro s4 rfl
      have h2 := h1.w (k := 21) (i := 7 * g + 3) (n := l) (v := nI l) rfl (by decide) (by decide) (by omega)
      have y1 : (60 : Int32) * nI l + nI (μ.2.1 6 l) = nI (60 * l + μ.2.1 6 l) := ix rfl rfl
      have e6 := h2.g (k := 6) (i := l) (by unfold sc2; omega) (by omega)
      rw [m2_n (by omega), m2_n (by omega)] at e6
      refine ⟨vp_in_nI (by omega) (by omega), ?_⟩
      show vp_in (60 * nI l + (rsA _ _ _ _).2.1 6 (nI l).toNatClampNeg) 480 ∧ _
      rw [show oI (some l) = nI l from rfl, e6, y1]
      refine ⟨vp_in_nI (by omega) (by omega), ?_⟩
      rintro s5 rfl
      have h3 := h2.w (k := 5) (i := 60 * l + μ.2.1 6 l) (n := g) (v := nI g) rfl (by decide) (by decide) (by omega)
      have e6' := h3.g (k := 6) (i := l) (by unfold sc2; omega) (by omega)
      rw [m2_n (by omega), m2_n (by omega), m2_n (by omega)] at e6'
      refine ⟨vp_in_nI (by omega) (by omega), vp_in_nI (by omega) (by omega), ?_⟩
      rw [e6', nI_1]
      rintro s6 rfl
      have h4 := h3.w (k := 6) (i := l) (n := μ.2.1 6 l + 1) (v := nI (μ.2.1 6 l + 1)) rfl (by decide) (by decide) (by omega)
      exact hl l hx _ h4 ((((s40.A (by decide)).tr (s40.A (by decide))).tr (s40.A (by decide))).tr (s40.A (by decide)))
  · have hk7 : k < μ.1 7 := by omega
    have hlk := hI.li k hk7
    have hP' : ∀ b : Option Nat, b = bli μ g (k + 1) → P (ρ, nI g, nI (7 * g), oI b, nI k + 1) := fun b eb => hP _ ⟨by omega, by rw [eb, nI_1]⟩
    have y5 : (5 : Int32) * nI k = nI (5 * k) := ix0 rfl
    cases hr : mRun μ k with
    | false =>
      refine ⟨fun _ => hP' _ (bli_n (fun hf => ?_)).symm, fun e => absurd rfl e⟩
      have := hf.2
      rw [hr] at this
      exact absurd this (by decide)
    | true =>
      refine ⟨fun e => absurd e (by decide), fun _ => ?_⟩
      rw [y5]
      refine ⟨vp_in_nI (by omega) (by omega), vp_in_nI (by omega) (by omega), ?_⟩
      rw [hR.g (k := 3) (i := 5 * k) (by unfold sc2; omega) (by omega), hR.g (k := 21) (i := 7 * g + 3) (by unfold sc2; omega) (by omega), nI_eq (by omega) (by omega)]
      refine ⟨fun e1 => hP' _ (bli_n (fun hf => e1 hf.1)).symm, fun e1 => ?_⟩
      have hy := bli_y (μ := μ) (g := g) (l := k) ⟨e1, hr⟩
      rw [oI_lt (fun s e => by have := hlt s e; omega)]
      refine ⟨fun e2 => ?_, fun e2 => ?_⟩
      · rw [e2] at hy
        exact hP' (some k) hy.symm
      · cases hx : bli μ g k with
        | none => exact absurd hx e2
        | some b =>
          have hb9 := hlt b hx
          rw [hx] at hy
          have hy' : bli μ g (k + 1) = if mWait μ k < mWait μ b then some k else some b := hy
          have w1 := mWait_le hI hk7
          have w2 := mWait_le hI (show b < μ.1 7 by omega)
          refine sR_waiting hR hI hk7 (sR_waiting hR hI (show b < μ.1 7 by omega) ?_)
          rw [nI_leI (by omega) (by omega)]
          refine ⟨fun e4 => ?_, fun e4 => ?_⟩
          · rw [if_neg (by omega)] at hy'
            exact hP' (some b) hy'.symm
          · rw [if_pos (by omega)] at hy'
            exact hP' (some k) hy'.symm
theorem sR_chooses {post : RSt → Prop} {g : Nat} (hR : RR ρ μ) (hI : MI μ j) (hj : j ≤ 512) (hg : g < μ.1 22) (h0 : μ.2.1 21 (7 * g + 2) = 0) (hop : ∀ i : Nat, i < μ.1 9 → ρ.2.1 40 i = bI (op i)) (hp : ∀ ρ', RR ρ' (mCho μ op g) → s40 ρ ρ' → post ρ') : wpR_chooses_0 post ρ (nI g) := by
  have hc := hI.cs
  have hb := hI.gr g hg
  unfold wpR_chooses_0
  rw [show (7 : Int32) * nI g = nI (7 * g) from ix0 rfl]
  refine gLP.up (μ.1 9) (fun k (x : RSt × Int32 × Int32 × Int32 × Int32) => k ≤ μ.1 9 ∧ x = (ρ, nI g, nI (7 * g), oI (bsl μ op g k), nI k)) (fun k x h => h.1) ?_ (j := 0) ⟨Nat.zero_le _, rfl⟩
  rintro k x P ⟨hk, rfl⟩ hP
  dsimp only
  have hlt : ∀ s, bsl μ op g k = some s → s < k := fun s e => bsl_lt _ _ e
  have x1 : nI (7 * g) + 1 = nI (7 * g + 1) := ixa rfl
  have x2 : nI (7 * g) + 2 = nI (7 * g + 2) := ixa rfl
  have x3 : nI (7 * g) + 3 = nI (7 * g + 3) := ixa rfl
  have x4 : nI (7 * g) + 4 = nI (7 * g + 4) := ixa rfl
  have x6 : nI (7 * g) + 6 = nI (7 * g + 6) := ixa rfl
  unfold wpR_chooses_10_F
  rw [hR.s1 (k := 9) (by unfold sc1; omega), nI_leI (by omega) (by omega), x1, x2, x3, x4, x6, oI_lt (fun s e => by have := hlt s e; omega)]
  refine ⟨fun e => ?_, fun e => ⟨vp_in_nI (by omega) (by omega), ?_⟩⟩
  · obtain rfl : k = μ.1 9 := by omega
    refine ⟨fun hs => ?_, fun hne => ?_⟩
    · rw [hs]
      refine sR_chooseL hR hI hg h0 (fun l hl ρ' h1 h2 => hp ρ' (by rw [mCho_l hs hl]; exact h1) h2) (fun hl => hp ρ (by rw [mCho_n hs hl]; exact hR) s40.rf)
    · cases hx : bsl μ op g (μ.1 9) with
      | none => exact absurd hx hne
      | some s =>
        have hs9 := hlt s hx
        have hsl := hI.sl s hs9
        have y2 : (6 : Int32) * nI s + 2 = nI (6 * s + 2) := ix rfl rfl
        refine ⟨vp_in_nI (by omega) (by omega), ?_⟩
        rintro s19 rfl
        have h1 := hR.w (k := 21) (i := 7 * g + 2) (n := 3) (v := 3) rfl (by decide) (by decide) (by omega)
        refine ⟨vp_in_nI (by omega) (by omega), ?_⟩
        rw [show oI (some s) = nI s from rfl]
        rintro s20 rfl
        have h2 := h1.w (k := 21) (i := 7 * g + 3) (n := s) (v := nI s) rfl (by decide) (by decide) (by omega)
        have e8 := h2.g (k := 8) (i := 6 * s + 2) (by unfold sc2; omega) (by omega)
        rw [m2_n (by omega), m2_n (by omega)] at e8
        rw [y2]
        refine ⟨vp_in_nI (by omega) (by omega), vp_in_nI (by omega) (by omega), ?_⟩
        rw [e8]
        rintro s21 rfl
        have h3 := h2.w (k := 21) (i := 7 * g + 4) (n := μ.2.1 8 (6 * s + 2)) (v := nI (μ.2.1 8 (6 * s + 2))) rfl (by decide) (by decide) (by omega)
        have e21 := h3.g (k := 21) (i := 7 * g + 6) (by unfold sc2; omega) (by omega)
        rw [m2_n (by omega), m2_n (by omega), m2_n (by omega)] at e21
        refine ⟨vp_in_nI (by omega) (by omega), vp_in_nI (by omega) (by omega), ?_⟩
        rw [e21, nI_1]
        rintro s22 rfl
        have h4 : RR _ (mDown μ g s) := h3.w (k := 21) (i := 7 * g + 6) (n := μ.2.1 21 (7 * g + 6) + 1) (v := nI (μ.2.1 21 (7 * g + 6) + 1)) rfl (by decide) (by decide) (by omega)
        have hI1 := mDown_MI hI hg hs9 h0
        have ez := h4.g (k := 21) (i := 7 * g) (by unfold sc2; omega) (by omega)
        rw [mDown_2 (by omega)] at ez
        have k4 : s40 ρ _ := (((s40.A (ρ := ρ) (k := 21) (i := (nI (7 * g + 2)).toNatClampNeg) (v := 3) (by decide)).tr (s40.A (k := 21) (i := (nI (7 * g + 3)).toNatClampNeg) (v := nI s) (by decide))).tr (s40.A (k := 21) (i := (nI (7 * g + 4)).toNatClampNeg) (v := nI (μ.2.1 8 (6 * s + 2))) (by decide))).tr (s40.A (k := 21) (i := (nI (7 * g + 6)).toNatClampNeg) (v := nI (μ.2.1 21 (7 * g + 6) + 1)) (by decide))
        refine ⟨vp_in_nI (by omega) (by omega), ?_⟩
        rw [ez]
        refine sR_wears h4 hI1 hj hs9 (by omega) (fun ρ' h5 h6 => hp ρ' ?_ (k4.tr h6))
        rw [mCho_s hx]
        rw [mDown_2 (by omega), mDown_2 (by omega)] at h5
        exact h5
  · have hk9 : k < μ.1 9 := by omega
    have hm := hI.sl k hk9
    have hP' : ∀ b : Option Nat, b = bsl μ op g (k + 1) → P (ρ, nI g, nI (7 * g), oI b, nI k + 1) := fun b eb => hP _ ⟨by omega, by rw [eb, nI_1]⟩
    have y6 : (6 : Int32) * nI k = nI (6 * k) := ix0 rfl
    have y3 : nI (6 * k) + 3 = nI (6 * k + 3) := ixa rfl
    rw [nI_clamp (by omega), hop k hk9, bI_0, y6, y3]
    refine ⟨fun e1 => hP' _ (bsl_n (fun hf => by have := hf.2.2; rw [e1] at this; exact absurd this (by decide))).symm, fun e1 => ⟨vp_in_nI (by omega) (by omega), vp_in_nI (by omega) (by omega), ?_⟩⟩
    have e1' : op k = true := by simpa using e1
    rw [hR.g (k := 8) (i := 6 * k) (by unfold sc2; omega) (by omega), hR.g (k := 21) (i := 7 * g + 3) (by unfold sc2; omega) (by omega), nI_eq (by omega) (by omega)]
    refine ⟨fun e2 => hP' _ (bsl_n (fun hf => e2 hf.1)).symm, fun e2 => ⟨vp_in_nI (by omega) (by omega), vp_in_nI (by omega) (by omega), ?_⟩⟩
    rw [hR.g (k := 8) (i := 6 * k + 3) (by unfold sc2; omega) (by omega), hR.g (k := 21) (i := 7 * g + 1) (by unfold sc2; omega) (by omega), nI_leI (by omega) (by omega)]
    refine ⟨fun e3 => ?_, fun e3 => hP' _ (bsl_n (fun hf => e3 hf.2.1)).symm⟩
    have hy := bsl_y (μ := μ) (op := op) (g := g) (s := k) ⟨e2, e3, e1'⟩
    refine ⟨fun e4 => ?_, fun e4 => ?_⟩
    · rw [e4] at hy
      exact hP' (some k) hy.symm
    · cases hx : bsl μ op g k with
      | none => exact absurd hx e4
      | some b =>
        have hb9 := hlt b hx
        have hmb := hI.sl b (by omega)
        rw [hx] at hy
        have hy' : bsl μ op g (k + 1) = if μ.2.1 8 (6 * b + 3) < μ.2.1 8 (6 * k + 3) then some k else some b := hy
        have z3 : (6 : Int32) * oI (some b) + 3 = nI (6 * b + 3) := ix rfl rfl
        rw [z3, hR.g (k := 8) (i := 6 * b + 3) (by unfold sc2; omega) (by omega), nI_leI (by omega) (by omega)]
        refine ⟨vp_in_nI (by omega) (by omega), vp_in_nI (by omega) (by omega), fun e5 => ?_, fun e5 => ?_⟩
        · rw [if_neg (by omega)] at hy'
          exact hP' (some b) hy'.symm
        · rw [if_pos (by omega)] at hy'
          exact hP' (some k) hy'.symm
end RC
end
