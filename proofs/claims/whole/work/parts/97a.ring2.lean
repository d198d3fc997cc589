section
/-! slopes that would lean on themselves: the class -/
section RG2
variable {σ σ' : CSt} {lab : Nat → Nat} {ad : Nat → Nat → Nat} {μ : MSt} {j : Nat}
theorem CRep.nox (h : CRep σ lab ad μ) (hk : keepS noX σ lab σ' lab) : CRep σ' lab ad μ := by
  have hx : ∀ a b, ¬ noX a b := fun a b g => g
  refine ⟨kX h hk (hx _ _) rfl (fun _ _ => rfl) rfl rfl (fun _ _ => rfl) rfl, kLs h hk (fun i _ => ⟨hx _ _, hx _ _⟩) (fun _ _ => rfl) (fun _ _ => rfl) (fun _ _ => rfl) (fun _ _ => rfl) (fun _ _ => rfl) (fun _ _ => rfl) (fun _ _ => rfl), fun i hi => ?_, fun i hi => ?_, fun i hi => ?_, fun i hi => ?_, fun i hi => ?_, fun i hi => ?_, fun i hi => ?_, fun i hi => ?_, fun i hi => ?_, ?_, ?_⟩
  · exact (h.li hi).kp hk (hx _ _) rfl rfl
  · exact (h.ro hi).kp hk (hx _ _) (hx _ _) (fun _ _ => rfl)
  · exact (h.sl hi).kp hk (hx _ _) rfl rfl rfl
  · exact (h.sc hi).kp hk (hx _ _) (hx _ _) (fun _ _ => rfl)
  · exact kCo h hk hi (hx _ _) rfl rfl (fun _ => rfl) (fun _ _ _ => ⟨rfl, rfl⟩)
  · exact (h.ce hi).kp hk (hx _ _) rfl rfl
  · exact (h.sn hi).kp hk (hx _ _) rfl (fun _ _ => rfl)
  · exact (h.gr hi).kp hk (hx _ _) rfl
  · exact (h.lk hi).kp hk (hx _ _) rfl rfl rfl
  · exact h.re.kp hk (fun g => g.elim) rfl rfl
  · exact h.tp.kp hk (hx _ _) rfl (fun _ _ => rfl)
/-- what each slope would lean on by itself -/
def lnR (μ : MSt) (s N : Nat) : Nat → Nat := fun k => if k = s then N else mNm μ k
theorem fwR_self {R : Nat → Nat} {t : Nat} : fwR R (t + 1) t = fwR R t t := by
  show (if (fwR R t t).testBit t = true then fwR R t t ||| fwR R t t else fwR R t t) = _
  split
  · exact Nat.or_self _
  · rfl
theorem sC_circle {post : Int32 → CSt → Prop} {s N : Nat} (h : CRep σ lab ad μ) (hI : MI μ j) (hs : s < μ.1 9) (hp : ∀ σ', keepS noX σ lab σ' lab → post (nI (rgB (lnR μ s N) (μ.1 9) (μ.1 9))) σ') : wpC_X7_circleWith_0 post σ (ad 7 0) (ad 6 s) (nI N) := by
  have hc := hI.cs
  generalize hR : lnR μ s N = R at hp
  refine gLP.up (μ.1 9) (fun k (x : CSt × Nat × Nat × Int32 × Int32) => k ≤ μ.1 9 ∧ keepS noX σ lab x.1 lab ∧ (∀ i : Nat, i < k → cI x.1 105 (ad 6 i) = nI (R i)) ∧ x.2 = (ad 7 0, ad 6 s, nI N, nI k)) (fun k x h => h.1) ?_ (j := 0) ⟨Nat.zero_le _, keepS.rf, fun i hi => absurd hi (Nat.not_lt_zero _), rfl⟩
  rintro k ⟨σ1, y⟩ P ⟨hk, hk1, hv, e⟩ hP
  dsimp only at hk1 hv e
  subst e
  dsimp only
  have hC := h.nox hk1
  refine ⟨hC.x7, _, hC.x.2.1.2.1, hC.ls.2.1.1, sC_size hC.ls.2.1 ⟨fun e => ?_, fun e => ?_⟩⟩
  rotate_left
  · rw [nI_leI (by omega) (by omega)] at e
    have hk9 : k < μ.1 9 := by omega
    have hl := hC.sl hk9
    refine ⟨hC.x7, _, hC.x.2.1.2.1, hC.ls.2.1.1, sC_get hC.ls.2.1 hk9 ⟨_, rfl, hl.1.1, ?_⟩⟩
    have hgo : ∀ w : Int32, w = nI (R k) → wpC_X7_circleWith_43 post (fun s v0 v1 v2 v3 => P (s, v0, v1, v2, v3)) σ1 (ad 7 0) (ad 6 s) (nI N) (nI k) (ad 6 k) w := by
      intro w hw
      refine ⟨hl.1.1, ?_⟩
      intro s32 hs32
      refine hP _ ⟨by omega, by rw [hs32]; exact hk1.tr (keep_scr (by unfold scrI; omega)), fun i hi => ?_, by rw [nI_1]⟩
      rw [hs32, pI_csI, cu2_ap, if_pos rfl]
      by_cases ei : i = k
      · subst ei; rw [if_pos rfl]; exact hw
      · rw [if_neg (fun g => ei (by have h1 := (hC.sl (i := i) (by omega)).1.2; rw [g] at h1; exact h1.symm.trans hl.1.2))]
        exact hv i (by omega)
    refine ⟨fun e1 => ⟨hl.1.1, hgo _ ?_⟩, fun e1 => hgo _ ?_⟩
    · rw [← hR]
      unfold lnR
      rw [if_neg (fun g => e1 (by rw [g]))]
      exact hl.2.2.2.2.2.2.2.2.2
    · have : k = s := hl.1.2.symm.trans ((congrArg lab e1).trans (hC.sl hs).1.2)
      rw [← hR]
      unfold lnR
      rw [if_pos this]
  · rw [nI_leI (by omega) (by omega)] at e
    obtain rfl : k = μ.1 9 := by omega
    refine gLP.up (μ.1 9) (fun t (x : CSt × Nat × Int32) => t ≤ μ.1 9 ∧ keepS noX σ lab x.1 lab ∧ (∀ i : Nat, i < μ.1 9 → cI x.1 105 (ad 6 i) = nI (fwR R t i)) ∧ x.2 = (ad 7 0, nI t)) (fun k x h => h.1) ?_ (j := 0) ⟨Nat.zero_le _, hk1, hv, rfl⟩
    rintro t ⟨σ2, y⟩ Q ⟨ht, hk2, hv2, e0⟩ hQ
    dsimp only at hk2 hv2 e0
    subst e0
    dsimp only
    have hC2 := h.nox hk2
    refine ⟨hC2.x7, _, hC2.x.2.1.2.1, hC2.ls.2.1.1, sC_size hC2.ls.2.1 ⟨fun e => ?_, fun e => ?_⟩⟩
    · rw [nI_leI (by omega) (by omega)] at e
      obtain rfl : t = μ.1 9 := by omega
      refine gLP.up (μ.1 9) (fun i (x : CSt × Nat × Int32 × Int32) => i ≤ μ.1 9 ∧ x = (σ2, ad 7 0, nI (rgB R (μ.1 9) i), nI i)) (fun k x h => h.1) ?_ (j := 0) ⟨Nat.zero_le _, rfl⟩
      rintro i x S ⟨hi, rfl⟩ hS
      dsimp only
      refine ⟨hC2.x7, _, hC2.x.2.1.2.1, hC2.ls.2.1.1, sC_size hC2.ls.2.1 ⟨fun e => ?_, fun e => ?_⟩⟩
      · rw [nI_leI (by omega) (by omega)] at e
        obtain rfl : i = μ.1 9 := by omega
        exact hp σ2 hk2
      · rw [nI_leI (by omega) (by omega)] at e
        have hi9 : i < μ.1 9 := by omega
        have hl := hC2.sl hi9
        refine ⟨hC2.x7, _, hC2.x.2.1.2.1, hC2.ls.2.1.1, sC_get hC2.ls.2.1 hi9 ⟨_, rfl, hl.1.1, hl.1.1, ?_⟩⟩
        unfold wpC_X7_hasBit_0
        rw [hv2 i hi9, hb_1 (by omega), bt_nI _ (by omega)]
        refine ⟨fun e1 => ⟨fun _ => hS _ ⟨by omega, ?_⟩, fun e2 => absurd rfl e2⟩, fun e1 => ⟨fun e2 => absurd e2 (by decide), fun _ => hS _ ⟨by omega, ?_⟩⟩⟩
        · rw [nI_1, show rgB R (μ.1 9) (i + 1) = rgB R (μ.1 9) i from if_neg e1]
        · rw [nI_1, nI_or1 _ _ (by omega), show rgB R (μ.1 9) (i + 1) = rgB R (μ.1 9) i ||| (1 <<< i) from if_pos e1]
    · rw [nI_leI (by omega) (by omega)] at e
      have ht9 : t < μ.1 9 := by omega
      refine gLP.up (μ.1 9) (fun i (x : CSt × Nat × Int32 × Int32) => i ≤ μ.1 9 ∧ keepS noX σ lab x.1 lab ∧ (∀ q : Nat, q < μ.1 9 → cI x.1 105 (ad 6 q) = nI (if q < i then fwR R (t + 1) q else fwR R t q)) ∧ x.2 = (ad 7 0, nI t, nI i)) (fun k x h => h.1) ?_ (j := 0) ⟨Nat.zero_le _, hk2, fun q hq => by rw [if_neg (Nat.not_lt_zero _)]; exact hv2 q hq, rfl⟩
      rintro i ⟨σ3, y⟩ S ⟨hi, hk3, hv3, e0⟩ hS
      dsimp only at hk3 hv3 e0
      subst e0
      dsimp only
      have hC3 := h.nox hk3
      refine ⟨hC3.x7, _, hC3.x.2.1.2.1, hC3.ls.2.1.1, sC_size hC3.ls.2.1 ⟨fun e => ?_, fun e => ?_⟩⟩
      · rw [nI_leI (by omega) (by omega)] at e
        obtain rfl : i = μ.1 9 := by omega
        exact hQ _ ⟨by omega, hk3, fun q hq => by have := hv3 q hq; rw [if_pos hq] at this; exact this, by rw [nI_1]⟩
      · rw [nI_leI (by omega) (by omega)] at e
        have hi9 : i < μ.1 9 := by omega
        have hl := hC3.sl hi9
        refine ⟨hC3.x7, _, hC3.x.2.1.2.1, hC3.ls.2.1.1, sC_get hC3.ls.2.1 hi9 ⟨_, rfl, hl.1.1, hl.1.1, ?_⟩⟩
        have e105 := hv3 i hi9
        rw [if_neg (Nat.lt_irrefl i)] at e105
        unfold wpC_X7_hasBit_0
        rw [e105, hb_1 (by omega), bt_nI _ (by omega)]
        refine ⟨fun e1 => ⟨fun _ => hS _ ⟨by omega, hk3, fun q hq => ?_, by rw [nI_1]⟩, fun e2 => absurd rfl e2⟩, fun e1 => ⟨fun e2 => absurd e2 (by decide), fun _ => ⟨hl.1.1, hC3.x7, _, hC3.x.2.1.2.1, hC3.ls.2.1.1, sC_get hC3.ls.2.1 ht9 ⟨_, rfl, (hC3.sl ht9).1.1, (hC3.sl ht9).1.1, hl.1.1, ?_⟩⟩⟩⟩
        · rw [hv3 q hq]
          by_cases eq : q = i
          · subst eq
            rw [if_neg (Nat.lt_irrefl q), if_pos (by omega), show fwR R (t + 1) q = fwR R t q from if_neg e1]
          · by_cases el : q < i
            · rw [if_pos el, if_pos (by omega)]
            · rw [if_neg el, if_neg (by omega)]
        · intro s27 hs27
          refine hS _ ⟨by omega, by rw [hs27]; exact hk3.tr (keep_scr (by unfold scrI; omega)), fun q hq => ?_, by rw [nI_1]⟩
          rw [hs27, pI_csI, cu2_ap, if_pos rfl]
          by_cases eq : q = i
          · subst eq
            rw [if_pos rfl, if_pos (by omega), hv3 t ht9]
            have et : (if t < q then fwR R (t + 1) t else fwR R t t) = fwR R t t := by
              split
              · exact fwR_self
              · rfl
            rw [et, e105, nI_or, show fwR R (t + 1) q = fwR R t q ||| fwR R t t from if_pos e1]
          · rw [if_neg (fun g => eq (by have h1 := (hC3.sl (i := q) hq).1.2; rw [g] at h1; exact h1.symm.trans hl.1.2)), hv3 q hq]
            by_cases el : q < i
            · rw [if_pos el, if_pos (by omega)]
            · rw [if_neg el, if_neg (by omega)]
end RG2
end
