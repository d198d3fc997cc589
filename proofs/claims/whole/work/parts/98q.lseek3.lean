section
/-! least: the reference seeks, whole; the way found -/
section LR5
variable {ρ ρ' s s' : RSt} {μ : MSt} {j n : Nat} {w y : Nat → Nat → Int} {sp ms U V co : Nat → Int} {bf : Nat → Option Nat} {Tot : Int}
theorem lx_or (hI : MI μ j) (hj : j ≤ 512) (hQ : QJ (μ.1 14) (lMx μ) (lSx μ) Tot w y sp ms U V) {v : Nat} (hv : v < μ.1 14) : (0 ≤ sp v ∧ 0 ≤ ms v ∧ (sp v = 0 ∨ ms v = 0)) ∧ sp v ≤ 51200000 ∧ ms v ≤ 1000000 := by
  have h1 := lx_bd hI hj hv
  have h2 := hQ.2.2.2.1 v hv
  omega
theorem sR_seeks {post : Int32 → RSt → Prop} (hR : RR ρ μ) (hI : MI μ j) (hj : j ≤ 512) (hF : SF ρ μ w y sp ms) (hQ : QJ (μ.1 14) (lMx μ) (lSx μ) Tot w y sp ms U V) (hW : WOK (μ.1 14) (μ.1 26) (μ.2.1 23) (μ.2.1 24) (nLn μ) w)
    (h0 : ∀ s co bf, skK ρ s → SV s (μ.1 14) co bf → SI (μ.1 14) w y (lMx μ) (lSx μ) sp U V co bf → (∀ i j : Nat, i < μ.1 14 → j < μ.1 14 → AR w y (lMx μ) (lSx μ) co i j) → (∀ v : Nat, v < μ.1 14 → 0 < ms v → ¬ co (40 + v) < FAR) → post (-1) s)
    (h1 : ∀ s co bf t, skK ρ s → SV s (μ.1 14) co bf → SI (μ.1 14) w y (lMx μ) (lSx μ) sp U V co bf → (∀ i j : Nat, i < μ.1 14 → j < μ.1 14 → AR w y (lMx μ) (lSx μ) co i j) → t < μ.1 14 → 0 < ms t → co (40 + t) < FAR → post (nI t) s) : wpR_seeks_0 post ρ := by
  have hN := ntOk hI
  have hn := hN.1
  have hFR : FAR = 1000000000000 := rfl
  have hfar : (1000000000000 : Int64).toInt = FAR := rfl
  have hz : (0 : Int64).toInt = 0 := rfl
  have e14 : ∀ s, skK ρ s → s.1 14 = nI (μ.1 14) := fun s ks => (ks.ls.rr hR).s1 (by unfold sc1; omega)
  refine gLP.up (μ.1 14) (fun i (x : RSt × Int32) => i ≤ μ.1 14 ∧ skK ρ x.1 ∧ (∀ v : Nat, v < i → ((x.1.2.2 45 v).toInt = (if v < 40 ∧ 0 < sp v then 0 else FAR) ∧ (x.1.2.2 45 (40 + v)).toInt = FAR) ∧ x.1.2.1 46 v = -1 ∧ x.1.2.1 46 (40 + v) = -1) ∧ x.2 = nI i) (fun i x h => h.1) ?_ (j := 0) ⟨Nat.zero_le _, skK.rf, fun q hq => absurd hq (Nat.not_lt_zero _), rfl⟩
  rintro i ⟨s, y'⟩ P ⟨hi, k1, v1, e⟩ hP
  (try dsimp only at k1 v1 e)
  subst e
  (try dsimp only)
  unfold wpR_seeks_2_F
  rw [e14 s k1, nI_leI (by omega) (by omega)]
  refine ⟨fun e => ?_, fun e => ?_⟩
  rotate_left
  · have hi' : i < μ.1 14 := by omega
    have r44 := (hF.sk k1).2.2.1 i hi'
    have hxo := lx_or hI hj hQ hi'
    have hw : ∀ z : Int64, z.toInt = (if i < 40 ∧ 0 < sp i then 0 else FAR) → wpR_seeks_33 post (fun s v1 => P (s, v1)) s (nI i) (nI i) z := by
      intro z hz'
      unfold wpR_seeks_33
      rw [n40, nI_clamp (n := i) (by omega), nI_clamp (n := 40 + i) (by omega)]
      refine ⟨vp_in_nI (by omega) (by omega), ?_⟩
      intro s21 hs21
      have k21 : skK ρ s21 := by rw [hs21]; exact k1.tr skK.J
      have v21 : ∀ q, s21.2.2 45 q = if q = i then z else s.2.2 45 q := fun q => by rw [hs21, rJ_s]
      have b21 : ∀ q, s21.2.1 46 q = s.2.1 46 q := fun q => by rw [hs21]; rfl
      clear hs21
      refine ⟨vp_in_nI (by omega) (by omega), ?_⟩
      intro s22 hs22
      have k22 : skK ρ s22 := by rw [hs22]; exact k21.tr skK.J
      have v22 : ∀ q, s22.2.2 45 q = if q = 40 + i then (1000000000000 : Int64) else if q = i then z else s.2.2 45 q := fun q => by rw [hs22, rJ_s, v21]
      have b22 : ∀ q, s22.2.1 46 q = s.2.1 46 q := fun q => by rw [hs22]; exact b21 q
      clear hs22 v21 b21
      refine ⟨vp_in_nI (by omega) (by omega), ?_⟩
      intro s23 hs23
      have k23 : skK ρ s23 := by rw [hs23]; exact k22.tr skK.A
      have v23 : ∀ q, s23.2.2 45 q = s22.2.2 45 q := fun q => by rw [hs23]; rfl
      have b23 : ∀ q, s23.2.1 46 q = if q = i then -1 else s.2.1 46 q := fun q => by
        rw [hs23]
        by_cases eq : q = i
        · subst eq; rw [if_pos rfl, rA_s]
        · rw [if_neg eq, rA_n (fun _ => eq)]; exact b22 q
      clear hs23
      refine ⟨vp_in_nI (by omega) (by omega), ?_⟩
      intro s24 hs24
      have v24 : ∀ q, s24.2.2 45 q = s22.2.2 45 q := fun q => by rw [hs24]; exact v23 q
      have b24 : ∀ q, s24.2.1 46 q = if q = 40 + i then -1 else if q = i then -1 else s.2.1 46 q := fun q => by
        rw [hs24]
        by_cases eq : q = 40 + i
        · subst eq; rw [if_pos rfl, rA_s]
        · rw [if_neg eq, rA_n (fun _ => eq)]; exact b23 q
      refine hP _ ⟨by omega, by rw [hs24]; exact k23.tr skK.A, fun v hv => ?_, by rw [nI_1]⟩
      (try dsimp only)
      have old := fun h => v1 v h
      refine ⟨⟨?_, ?_⟩, ?_, ?_⟩
      · rw [v24, v22, if_neg (show ¬ v = 40 + i by omega)]
        by_cases ev : v = i
        · subst ev; rw [if_pos rfl]; exact hz'
        · rw [if_neg ev]; exact (old (by omega)).1.1
      · rw [v24, v22]
        by_cases ev : v = i
        · subst ev; rw [if_pos rfl]; exact hfar
        · rw [if_neg (show ¬ 40 + v = 40 + i by omega), if_neg (show ¬ 40 + v = i by omega)]; exact (old (by omega)).1.2
      · rw [b24, if_neg (show ¬ v = 40 + i by omega)]
        by_cases ev : v = i
        · rw [if_pos ev]
        · rw [if_neg ev]; exact (old (by omega)).2.1
      · rw [b24]
        by_cases ev : v = i
        · rw [if_pos (show 40 + v = 40 + i by omega)]
        · rw [if_neg (show ¬ 40 + v = 40 + i by omega), if_neg (show ¬ 40 + v = i by omega)]; exact (old (by omega)).2.2
    rw [nI_clamp (n := i) (by omega), lgz_le, r44, hz]
    refine ⟨vp_in_nI (by omega) (by omega), fun e2 => hw _ ?_, fun e2 => hw _ ?_⟩
    · rw [if_neg (by omega)]; exact hfar
    · rw [if_pos (by omega)]; exact hz
  have ei : i = μ.1 14 := by omega
  subst ei
  have hSV0 : SV s (μ.1 14) (fun x => if x < 40 ∧ 0 < sp x then 0 else FAR) (fun _ => none) := by
    intro x hx
    (try dsimp only)
    rcases hx with hx | ⟨hx1, hx2⟩
    · exact ⟨(v1 x hx).1.1, (v1 x hx).2.1⟩
    · obtain ⟨v, rfl⟩ : ∃ v, x = 40 + v := ⟨x - 40, by omega⟩
      rw [if_neg (by omega)]
      exact ⟨(v1 v (by omega)).1.2, (v1 v (by omega)).2.2⟩
  have hSI0 := SI.ini hQ hW hn
  have hmz : ∀ s co bf, SV s (μ.1 14) co bf → sumZ (fun v => (s.2.2 45 v).toInt + (s.2.2 45 (40 + v)).toInt) (μ.1 14) = Sg (μ.1 14) co := fun s co bf hV => sumZ_cg (fun v hv => by
    rw [(hV v (Or.inl hv)).1, (hV (40 + v) (Or.inr ⟨by omega, by omega⟩)).1])
  have hSg : ∀ co bf, SI (μ.1 14) w y (lMx μ) (lSx μ) sp U V co bf → 0 ≤ Sg (μ.1 14) co := fun co bf hS => sumZ_nn (fun v hv => by
    obtain ⟨a1, a2, a3, a4, a5⟩ := hS.1 v hv
    obtain ⟨b1, b2, b3⟩ := hQ.2.2.1 v hv
    have c1 : 0 ≤ co v := by
      by_cases c : co v < FAR
      · have := (a2 c).1; omega
      · omega
    have c2 : 0 ≤ co (40 + v) := by
      by_cases c : co (40 + v) < FAR
      · have := (a4 c).1; omega
      · omega
    omega)
  refine gLP.by (fun (x : RSt × Int32) => skK ρ x.1 ∧ ∃ co bf, SV x.1 (μ.1 14) co bf ∧ SI (μ.1 14) w y (lMx μ) (lSx μ) sp U V co bf ∧ ((x.2 = 0 ∧ ∀ i j : Nat, i < μ.1 14 → j < μ.1 14 → AR w y (lMx μ) (lSx μ) co i j) ∨ x.2 = 1)) (fun x => 2 * (sumZ (fun v => (x.1.2.2 45 v).toInt + (x.1.2.2 45 (40 + v)).toInt) (μ.1 14)).toNat + (if x.2 = 0 then 0 else 1)) ?_ _ ⟨k1, _, _, hSV0, hSI0, Or.inr rfl⟩
  clear hSI0 hSV0 hP v1 k1 s
  rintro P ⟨s, f⟩ ⟨k1, co, bf, hV, hS, hf⟩ hP
  (try dsimp only at k1 hV hf)
  (try dsimp only)
  refine ⟨fun e => ?_, fun e => ?_⟩
  · -- the choice
    have hAR : ∀ i j : Nat, i < μ.1 14 → j < μ.1 14 → AR w y (lMx μ) (lSx μ) co i j := by
      rcases hf with ⟨-, g⟩ | g
      · exact g
      · rw [g] at e; exact absurd e (by decide)
    refine gLP.up (μ.1 14) (fun i (x : RSt × Int32 × Int32) => i ≤ μ.1 14 ∧ ((x.2.1 = -1 ∧ ∀ v : Nat, v < i → 0 < ms v → ¬ co (40 + v) < FAR) ∨ ∃ t : Nat, t < i ∧ x.2.1 = nI t ∧ 0 < ms t ∧ co (40 + t) < FAR) ∧ (x.1, x.2.2) = (s, nI i)) (fun i x h => h.1) ?_ (j := 0) ⟨Nat.zero_le _, Or.inl ⟨rfl, fun v hv => absurd hv (Nat.not_lt_zero _)⟩, rfl⟩
    clear hP e
    rintro i ⟨s', b, y'⟩ P ⟨hi, hb, e⟩ hP
    (try dsimp only at hb e)
    obtain ⟨rfl, rfl⟩ := (show s' = s ∧ y' = nI i from ⟨congrArg Prod.fst e, congrArg (fun z => z.2) e⟩)
    clear e
    (try dsimp only)
    unfold wpR_seeks_321_F
    rw [e14 s' k1, nI_leI (by omega) (by omega)]
    refine ⟨fun e => ?_, fun e => ?_⟩
    · have ei : i = μ.1 14 := by omega
      subst ei
      rcases hb with ⟨g1, g2⟩ | ⟨t, g1, g2, g3, g4⟩
      · rw [g1]; exact h0 s' co bf k1 hV hS hAR g2
      · rw [g2]; exact h1 s' co bf t k1 hV hS hAR g1 g3 g4
    · have hi' : i < μ.1 14 := by omega
      have r44 := (hF.sk k1).2.2.1 i hi'
      have hxo := lx_or hI hj hQ hi'
      have r45 := (hV (40 + i) (Or.inr ⟨by omega, by omega⟩)).1
      have hskip : (0 < ms i → ¬ co (40 + i) < FAR) → P (s', b, nI i + 1) := by
        intro g
        refine hP _ ⟨by omega, ?_, by rw [nI_1]⟩
        (try dsimp only)
        rcases hb with ⟨g1, g2⟩ | ⟨t, g1, g2, g3, g4⟩
        · refine Or.inl ⟨g1, fun v hv hms => ?_⟩
          by_cases ev : v = i
          · subst ev; exact g hms
          · exact g2 v (by omega) hms
        · exact Or.inr ⟨t, by omega, g2, g3, g4⟩
      have htake : 0 < ms i → co (40 + i) < FAR → P (s', nI i, nI i + 1) := fun g1 g2 => hP _ ⟨by omega, Or.inr ⟨i, by omega, rfl, g1, g2⟩, by rw [nI_1]⟩
      rw [n40, nI_clamp (n := i) (by omega), nI_clamp (n := 40 + i) (by omega), lgz_ge, lgz_ge, r44, r45, hz, hfar]
      refine ⟨vp_in_nI (by omega) (by omega), fun e2 => hskip (fun g => absurd g (by omega)), fun e2 => ⟨vp_in_nI (by omega) (by omega), fun e3 => hskip (fun _ => by omega), fun e3 => ⟨fun _ => htake (by omega) (by omega), fun e4 => ⟨vp_in_nI (by omega) (by omega), ?_, fun e5 => ?_, fun _ => htake (by omega) (by omega)⟩⟩⟩⟩
      · rcases hb with ⟨g1, g2⟩ | ⟨t, g1, g2, g3, g4⟩
        · rw [g1] at e4; exact absurd (by decide) e4
        · rw [g2, n40]; exact vp_in_nI (by omega) (by omega)
      · rcases hb with ⟨g1, g2⟩ | ⟨t, g1, g2, g3, g4⟩
        · rw [g1] at e4; exact absurd (by decide) e4
        · exact hP _ ⟨by omega, Or.inr ⟨t, by omega, g2, g3, g4⟩, by rw [nI_1]⟩
  · -- a round
    have hS0 : sumZ (fun v => (s.2.2 45 v).toInt + (s.2.2 45 (40 + v)).toInt) (μ.1 14) = Sg (μ.1 14) co := hmz s co bf hV
    rw [hS0, if_neg e] at hP
    refine gLP.up (μ.1 14) (fun i (x : RSt × Int32 × Int32) => i ≤ μ.1 14 ∧ SKI ρ μ w y sp U V (Sg (μ.1 14) co) (40 * i) x.1 x.2.1 ∧ x.2.2 = nI i) (fun i x h => h.1) ?_ (j := 0) ⟨Nat.zero_le _, ⟨k1, co, bf, hV, hS, Or.inl ⟨rfl, fun i j _ _ hlt => absurd hlt (by omega), rfl⟩⟩, rfl⟩
    rintro i ⟨s1, f1, y'⟩ P' ⟨hi, hK, e'⟩ hP'
    (try dsimp only at hK e')
    subst e'
    (try dsimp only)
    unfold wpR_seeks_79_F
    rw [e14 s1 hK.1, nI_leI (by omega) (by omega)]
    refine ⟨fun e2 => ?_, fun e2 => ?_⟩
    · obtain ⟨k2, co2, bf2, hV2, hS2, hf2⟩ := hK
      have hb := hSg co2 bf2 hS2
      have hb0 := hSg co bf hS
      refine hP (s1, f1) ⟨k2, co2, bf2, hV2, hS2, ?_⟩ ?_
      · (try dsimp only)
        rcases hf2 with ⟨g1, g2, g3⟩ | ⟨g1, g2⟩
        · exact Or.inl ⟨g1, fun i' j' hi' hj' => g2 i' j' hi' hj' (by omega)⟩
        · exact Or.inr g1
      · (try dsimp only)
        rw [hmz s1 co2 bf2 hV2]
        rcases hf2 with ⟨g1, g2, g3⟩ | ⟨g1, g2⟩
        · rw [if_pos g1]; omega
        · rw [if_neg (by rw [g1]; decide)]; omega
    · have hi' : i < μ.1 14 := by omega
      refine gLP.up (μ.1 14) (fun j' (x : RSt × Int32 × Int32 × Int32) => j' ≤ μ.1 14 ∧ SKI ρ μ w y sp U V (Sg (μ.1 14) co) (40 * i + j') x.1 x.2.1 ∧ x.2.2 = (nI i, nI j')) (fun i x h => h.1) ?_ (j := 0) ⟨Nat.zero_le _, hK, rfl⟩
      rintro j' ⟨s3, f3, y3⟩ P3 ⟨hj', hK3, e3⟩ hP3
      (try dsimp only at hK3 e3)
      subst e3
      (try dsimp only)
      refine sR_seek1 hR hI hF hQ hW hi' hj' hK3 (fun ej => ?_) (fun s4 f4 hlt hK4 => hP3 _ ⟨by omega, hK4, by rw [nI_1]⟩)
      subst ej
      refine hP' _ ⟨by omega, ?_, by rw [nI_1]⟩
      obtain ⟨k2, co2, bf2, hV2, hS2, hf2⟩ := hK3
      refine ⟨k2, co2, bf2, hV2, hS2, ?_⟩
      rcases hf2 with ⟨g1, g2, g3⟩ | g
      · exact Or.inl ⟨g1, fun a b ha hb hlt => g2 a b ha hb (by omega), g3⟩
      · exact Or.inr g
theorem Rt_un : ∀ (a b x : Nat), Rt bf a x → Rt bf b x → a = b
  | 0, 0, _, _, _ => rfl
  | 0, b + 1, x, h1, ⟨p, h2, _⟩ => by
    have h1' : bf x = none := h1
    rw [h1'] at h2; exact absurd h2 (by simp)
  | a + 1, 0, x, ⟨p, h2, _⟩, h1 => by
    have h1' : bf x = none := h1
    rw [h1'] at h2; exact absurd h2 (by simp)
  | a + 1, b + 1, x, ⟨p, h1, h2⟩, ⟨p', h3, h4⟩ => by
    rw [h1] at h3
    obtain rfl : p = p' := Option.some.inj h3
    rw [Rt_un a b p h2 h4]
/-- the way found: it goes by I 0, C 1, I 1 .. from C 0 to I h -/
def Pth (n : Nat) (bf : Nat → Option Nat) (t h : Nat) (I C : Nat → Nat) : Prop := C 0 = t ∧ (∀ q : Nat, q ≤ h → (C q < n ∧ I q < n) ∧ bf (40 + C q) = some (I q) ∧ Rt bf (2 * (h - q)) (I q) ∧ Rt bf (2 * (h - q) + 1) (40 + C q)) ∧ (∀ q : Nat, q < h → bf (I q) = some (40 + C (q + 1))) ∧ bf (I h) = none
theorem SI.path {Mx Sx : Nat → Int} (hS : SI n w y Mx Sx sp U V co bf) : ∀ (m v : Nat), v < n → co (40 + v) < FAR → Rt bf m (40 + v) → ∃ h I C, Pth n bf v h I C := by
  intro m
  induction m using Nat.strongRecOn with
  | _ m ih =>
    intro v hv hc hr
    cases m with
    | zero => exact absurd hr ((hS.2.2.2.1 v hv).2 hc)
    | succ m1 =>
      obtain ⟨p, hp, hr1⟩ := hr
      obtain ⟨a1, a2, a3, a4, a5, a6⟩ := hS.2.2.1 v hv p hp
      cases m1 with
      | zero =>
        refine ⟨0, fun _ => p, fun _ => v, rfl, fun q hq => ⟨⟨hv, a1⟩, hp, ?_, ?_⟩, fun q hq => absurd hq (Nat.not_lt_zero _), hr1⟩
        · rw [show 2 * (0 - q) = 0 by omega]; exact hr1
        · rw [show 2 * (0 - q) = 0 by omega]; exact ⟨p, hp, hr1⟩
      | succ m2 =>
        obtain ⟨p2, hp2, hr2⟩ := hr1
        obtain ⟨j, b1, b2, b3, b4, b5, b6⟩ := hS.2.1 p a1 p2 hp2
        subst b2
        obtain ⟨h, I, C, c1, c2, c3, c4⟩ := ih m2 (by omega) j b1 b5 hr2
        have r0 : Rt bf (2 * h + 1) (40 + j) := by
          have := (c2 0 (Nat.zero_le _)).2.2.2
          rw [c1] at this
          exact this
        refine ⟨h + 1, fun q => if q = 0 then p else I (q - 1), fun q => if q = 0 then v else C (q - 1), rfl, fun q hq => ?_, fun q hq => ?_, ?_⟩
        · (try dsimp only)
          by_cases e : q = 0
          · subst e
            rw [if_pos rfl, if_pos rfl]
            refine ⟨⟨hv, a1⟩, hp, ⟨40 + j, hp2, r0⟩, ⟨p, hp, 40 + j, hp2, r0⟩⟩
          · rw [if_neg e, if_neg e]
            have := c2 (q - 1) (by omega)
            rw [show h + 1 - q = h - (q - 1) by omega]
            exact this
        · (try dsimp only)
          rw [if_neg (by omega : ¬ q + 1 = 0), show q + 1 - 1 = q by omega]
          by_cases e : q = 0
          · subst e
            rw [if_pos rfl, c1]; exact hp2
          · rw [if_neg e]
            have := c3 (q - 1) (by omega)
            rw [show q - 1 + 1 = q by omega] at this
            exact this
        · (try dsimp only)
          rw [if_neg (by omega), show h + 1 - 1 = h by omega]
          exact c4
theorem Pth.ne {t h : Nat} {I C : Nat → Nat} (hP : Pth n bf t h I C) {a b : Nat} (ha : a ≤ h) (hb : b ≤ h) (hab : a ≠ b) : I a ≠ I b ∧ C a ≠ C b := by
  have h1 := hP.2.1 a ha
  have h2 := hP.2.1 b hb
  refine ⟨fun e => ?_, fun e => ?_⟩
  · have h3 := h1.2.2.1
    rw [e] at h3
    have := Rt_un _ _ _ h3 h2.2.2.1
    omega
  · have h3 := h1.2.2.2
    rw [e] at h3
    have := Rt_un _ _ _ h3 h2.2.2.2
    omega
end LR5
end
