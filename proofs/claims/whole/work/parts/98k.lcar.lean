section
/-! least: the class carries -/
section LC4
variable {σ σ' : CSt} {lab : Nat → Nat} {ad : Nat → Nat → Nat} {μ : MSt} {j t m : Nat} {cf dd sp ms far : Nat → Int} {via : Nat → Option Nat}
theorem pfl_s {A B : Nat → Nat} {am : Int} (q : Nat) : (fun k' => if k' = kk A B via t q then pfl A B via t am cf q k' + (if nd A B via t (q + 1) = A (kk A B via t q) then am else - am) else pfl A B via t am cf q k') = pfl A B via t am cf (q + 1) := by
  funext k'
  show _ = (if k' = kk A B via t q then pfl A B via t am cf q k' + (if nd A B via t (q + 1) = A k' then am else - am) else pfl A B via t am cf q k')
  by_cases c : k' = kk A B via t q
  · rw [if_pos c, if_pos c, c]
  · rw [if_neg c, if_neg c]
theorem sC_carryFrom {post : CSt → Prop} {k u : Nat} {w : Int32} (h : CRep σ lab ad μ) (hI : MI μ j) (ha : LCa σ ad μ cf sp ms) (hk : k < μ.1 26) (hu : inc (μ.2.1 23) (μ.2.1 24) k u) (hb : -1000000000 ≤ cf k ∧ cf k ≤ 1000000000) (hw : 0 ≤ w.toInt ∧ w.toInt ≤ 1000000000)
    (hp : ∀ σ', keepS noX σ lab σ' lab → (∀ a, cR σ' 23 a = cR σ 23 a) → LCa σ' ad μ (fun k' => if k' = k then cf k' + (if u = μ.2.1 23 k then w.toInt else - w.toInt) else cf k') sp ms → post σ') : wpC_X4_carryFrom_0 post σ (ad 4 k) (ad 1 u) w := by
  have hl := h.lk hk
  have hN := ntOk hI
  obtain ⟨n1, n2, n3, -⟩ := hN.2.2 k hk
  have h67 := ha.1 k hk
  have hrest : ∀ d : Int32, d.toInt = (if u = μ.2.1 23 k then w.toInt else - w.toInt) → wpC_X4_carryFrom_19 post σ (ad 4 k) (cI σ 67 (ad 4 k)) d := by
    intro d hd
    refine ⟨hl.1.1, ?_⟩
    intro s1 hs1
    have hd2 : -1000000000 ≤ d.toInt ∧ d.toInt ≤ 1000000000 := by rw [hd]; split <;> omega
    refine hp s1 (by rw [hs1]; exact keep_scr (by unfold scrI; omega)) (fun a => by rw [hs1]; rfl) ⟨fun i hi => ?_, fun v hv => ?_⟩
    · rw [hs1, pI_csI, cu2_ap, if_pos rfl]
      (try dsimp only)
      by_cases ei : i = k
      · subst ei
        rw [if_pos rfl, if_pos rfl, i32_add (by rw [h67]; omega) (by rw [h67]; omega), h67, hd]
      · rw [if_neg (fun g => ei (h.ad4 hi hk g)), if_neg ei]; exact ha.1 i hi
    · rw [hs1, pI_csI, cu2_ap, if_neg (by decide), cu2_ap, if_neg (by decide)]; exact ha.2 v hv
  refine ⟨hl.1.1, hl.1.1, _, hl.2.1, fun e => hrest _ ?_, fun e => hrest _ ?_⟩
  · rw [if_neg (fun g => e (by rw [g])), i32_neg (by omega)]
  · rw [if_pos (h.ad1 (hN.lt hk hu) n1 e)]
theorem sC_carryTo {post : CSt → Prop} (h : CRep σ lab ad μ) (hI : MI μ j) (ha : LCa σ ad μ cf sp ms) (hb : LCb σ ad μ far via) (hcf : cfOk μ cf) (ht : t < μ.1 14) (hW : Wy (μ.1 14) (μ.1 26) (μ.2.1 23) (μ.2.1 24) via t m) (hms : 0 < ms t ∧ ms t ≤ 1000000000) (hsp : 0 < sp (nd (μ.2.1 23) (μ.2.1 24) via t m)) (hne : nd (μ.2.1 23) (μ.2.1 24) via t m ≠ t) (hsm : ∀ v : Nat, v < μ.1 14 → 0 ≤ sp v ∧ sp v ≤ 1000000000)
    (hq : ∀ σ' am, keepS noX σ lab σ' lab → 0 < am → am ≤ ms t → am ≤ sp (nd (μ.2.1 23) (μ.2.1 24) via t m) → (∀ i : Nat, i < m → cfr (μ.2.1 23) cf (kk (μ.2.1 23) (μ.2.1 24) via t i) (nd (μ.2.1 23) (μ.2.1 24) via t (i + 1)) < 0 → am ≤ - cfr (μ.2.1 23) cf (kk (μ.2.1 23) (μ.2.1 24) via t i) (nd (μ.2.1 23) (μ.2.1 24) via t (i + 1))) → (am = ms t ∨ am = sp (nd (μ.2.1 23) (μ.2.1 24) via t m) ∨ ∃ i : Nat, i < m ∧ cfr (μ.2.1 23) cf (kk (μ.2.1 23) (μ.2.1 24) via t i) (nd (μ.2.1 23) (μ.2.1 24) via t (i + 1)) < 0 ∧ am = - cfr (μ.2.1 23) cf (kk (μ.2.1 23) (μ.2.1 24) via t i) (nd (μ.2.1 23) (μ.2.1 24) via t (i + 1))) →
      LCa σ' ad μ (pfl (μ.2.1 23) (μ.2.1 24) via t am cf m) (updZ sp (nd (μ.2.1 23) (μ.2.1 24) via t m) (sp (nd (μ.2.1 23) (μ.2.1 24) via t m) - am)) (updZ ms t (ms t - am)) → post σ') : wpC_X0_carryTo_0 post σ (ad 1 t) (nI (μ.1 14)) := by
  have hN := ntOk hI
  have hc := hI.cs
  have hc0 : (0 : Int32).toInt = 0 := rfl
  have hmn := hW.2.1
  have hnl := hW.2.2.1
  generalize hAe : μ.2.1 23 = A at *
  generalize hBe : μ.2.1 24 = B at *
  have hvia : ∀ i : Nat, i < m → cR σ 23 (ad 1 (nd A B via t i)) = some (ad 4 (kk A B via t i)) := fun i hi => by
    rw [(hb _ (hnl i (by omega))).2, hW.1.vk hi]; rfl
  have hvn : cR σ 23 (ad 1 (nd A B via t m)) = none := by rw [(hb _ (hnl m (Nat.le_refl _))).2, hW.1.2]; rfl
  have hmt := (ha.2 t ht).2
  refine ⟨(h.ce ht).1.1, ?_⟩
  refine gLP.up m (fun i (x : CSt × Nat × Int32 × Int32 × Option Nat × Int32) => i ≤ m ∧ ((0 < x.2.2.2.1.toInt ∧ x.2.2.2.1.toInt ≤ ms t) ∧ (∀ q : Nat, q < i → cfr A cf (kk A B via t q) (nd A B via t (q + 1)) < 0 → x.2.2.2.1.toInt ≤ - cfr A cf (kk A B via t q) (nd A B via t (q + 1))) ∧ (x.2.2.2.1.toInt = ms t ∨ ∃ q : Nat, q < i ∧ cfr A cf (kk A B via t q) (nd A B via t (q + 1)) < 0 ∧ x.2.2.2.1.toInt = - cfr A cf (kk A B via t q) (nd A B via t (q + 1)))) ∧ (x.1, x.2.1, x.2.2.1, x.2.2.2.2) = (σ, ad 1 t, nI (μ.1 14), some (ad 1 (nd A B via t i)), nI i)) (fun i x h => h.1) ?_ (j := 0) ⟨Nat.zero_le _, ⟨⟨by (try dsimp only); rw [hmt]; exact hms.1, by (try dsimp only); rw [hmt]; exact Int.le_refl _⟩, fun q hq => absurd hq (Nat.not_lt_zero _), Or.inl hmt⟩, rfl⟩
  rintro i ⟨s, w0, w1, w, w3, w4⟩ P ⟨hi, ⟨p1, p2, p3⟩, e⟩ hP
  (try dsimp only at p1 p2 p3 e)
  obtain ⟨rfl, rfl, rfl, rfl, rfl⟩ := (show s = σ ∧ w0 = ad 1 t ∧ w1 = nI (μ.1 14) ∧ w3 = some (ad 1 (nd A B via t i)) ∧ w4 = nI i from ⟨congrArg Prod.fst e, congrArg (fun z => z.2.1) e, congrArg (fun z => z.2.2.1) e, congrArg (fun z => z.2.2.2.1) e, congrArg (fun z => z.2.2.2.2) e⟩)
  clear e
  (try dsimp only)
  refine ⟨fun e => ?_, fun _ => ⟨_, rfl, (h.ce (hnl i hi)).1.1, fun e => ?_, fun a17 e => ?_⟩⟩
  · rw [nI_leI (by omega) (by omega)] at e; omega
  · -- the way's begin
    have him : i = m := by
      by_cases c : i < m
      · rw [hvia i c] at e; exact absurd e (by simp)
      · omega
    subst him
    have ho := h.ce (hnl i hi)
    have hspt := (ha.2 _ (hnl i hi)).1
    refine ⟨_, rfl, ho.1.1, ?_⟩
    intro x11 hx11
    have t11 : 0 < x11.toInt ∧ x11.toInt ≤ w.toInt ∧ x11.toInt ≤ sp (nd A B via t i) ∧ (x11.toInt = w.toInt ∨ x11.toInt = sp (nd A B via t i)) := by
      rw [hx11]
      by_cases c : cI s 20 (ad 1 (nd A B via t i)) < w
      · rw [if_pos c, hspt]
        rw [Int32.lt_iff_toInt_lt, hspt] at c
        exact ⟨hsp, by omega, Int.le_refl _, Or.inr rfl⟩
      · rw [if_neg c]
        rw [Int32.lt_iff_toInt_lt, hspt] at c
        exact ⟨p1.1, Int.le_refl _, by omega, Or.inl rfl⟩
    clear hx11
    have hsb := hsm _ (hnl i hi)
    refine ⟨ho.1.1, ho.1.1, ?_⟩
    intro s12 hs12
    have k12 : keepS noX s lab s12 lab := by rw [hs12]; exact keep_scr (by unfold scrI; omega)
    have r12 : ∀ a, cR s12 23 a = cR s 23 a := fun a => by rw [hs12]; rfl
    have a12 : LCa s12 ad μ cf (updZ sp (nd A B via t i) (sp (nd A B via t i) - x11.toInt)) ms := by
      refine ⟨fun k hk => by rw [hs12, pI_csI, cu2_ap, if_neg (by decide)]; exact ha.1 k hk, fun v hv => ?_⟩
      rw [hs12, pI_csI, cu2_ap, if_pos rfl, cu2_ap, if_neg (show ¬ ((21 : Nat) = 20) by decide)]
      refine ⟨?_, (ha.2 v hv).2⟩
      by_cases ev : v = nd A B via t i
      · subst ev
        rw [if_pos rfl, updZ_s, i32_sub (by rw [hspt]; omega) (by rw [hspt]; omega), hspt]
      · rw [if_neg (fun g => ev (h.ad1 hv (hnl i hi) g)), updZ_n ev]; exact (ha.2 v hv).1
    clear hs12
    have hC12 := h.nox k12
    refine ⟨(hC12.ce ht).1.1, (hC12.ce ht).1.1, ?_⟩
    intro s13 hs13
    have hm12 := (a12.2 t ht).2
    have k13 : keepS noX s lab s13 lab := by rw [hs13]; exact k12.tr (keep_scr (by unfold scrI; omega))
    have r13 : ∀ a, cR s13 23 a = cR s 23 a := fun a => by rw [hs13]; exact r12 a
    have a13 : LCa s13 ad μ cf (updZ sp (nd A B via t i) (sp (nd A B via t i) - x11.toInt)) (updZ ms t (ms t - x11.toInt)) := by
      refine ⟨fun k hk => by rw [hs13, pI_csI, cu2_ap, if_neg (by decide)]; exact a12.1 k hk, fun v hv => ?_⟩
      rw [hs13, pI_csI, cu2_ap, if_neg (by decide), cu2_ap, if_pos rfl]
      refine ⟨(a12.2 v hv).1, ?_⟩
      by_cases ev : v = t
      · subst ev
        rw [if_pos rfl, updZ_s, i32_sub (by rw [hm12]; omega) (by rw [hm12]; omega), hm12]
      · rw [if_neg (fun g => ev (h.ad1 hv ht g)), updZ_n ev]; exact (a12.2 v hv).2
    clear hs13 a12 hC12
    -- back again
    refine gLP.up i (fun q (x : CSt × Int32 × Int32 × Option Nat × Int32) => q ≤ i ∧ keepS noX s lab x.1 lab ∧ (∀ a, cR x.1 23 a = cR s 23 a) ∧ LCa x.1 ad μ (pfl A B via t x11.toInt cf q) (updZ sp (nd A B via t i) (sp (nd A B via t i) - x11.toInt)) (updZ ms t (ms t - x11.toInt)) ∧ x.2 = (nI (μ.1 14), x11, some (ad 1 (nd A B via t q)), nI q)) (fun i x h => h.1) ?_ (j := 0) ⟨Nat.zero_le _, k13, r13, a13, rfl⟩
    clear a13 r13 k13 hP r12 k12
    rintro q ⟨s2, y⟩ P ⟨hqi, k2, r2, a2, e⟩ hP
    (try dsimp only at k2 r2 a2 e)
    subst e
    (try dsimp only)
    have hC := h.nox k2
    refine ⟨fun e => ?_, fun _ => ⟨_, rfl, (hC.ce (hnl q (by omega))).1.1, fun e => ?_, fun a4 e4 => ?_⟩⟩
    · rw [nI_leI (by omega) (by omega)] at e; omega
    · have hqm : q = i := by
        by_cases c : q < i
        · rw [r2, hvia q c] at e; exact absurd e (by simp)
        · omega
      subst hqm
      refine hq s2 x11.toInt k2 t11.1 (by omega) t11.2.2.1 (fun u hu g => by have := p2 u hu g; omega) ?_ a2
      rcases t11.2.2.2 with g | g
      · rcases p3 with g2 | ⟨u, u1, u2, u3⟩
        · exact Or.inl (by omega)
        · exact Or.inr (Or.inr ⟨u, u1, u2, by omega⟩)
      · exact Or.inr (Or.inl g)
    · have hqm : q < i := by
        by_cases c : q < i
        · exact c
        · have : q = i := by omega
          subst this
          rw [r2, hvn] at e4; exact absurd e4 (by simp)
      rw [r2, hvia q hqm] at e4
      obtain rfl : ad 4 (kk A B via t q) = a4 := Option.some.inj e4
      obtain ⟨z1, z2⟩ := hW.2.2.2.1 q hqm
      have hl := hC.lk z1
      refine ⟨(hC.ce (hnl q (by omega))).1.1, _, (r2 _).trans (hvia q hqm), hl.1.1, ?_⟩
      subst hAe
      subst hBe
      refine sC_other hC hI z1 z2 ⟨_, rfl, hl.1.1, ?_⟩
      have z3 := hW.1.s hqm
      rw [← z3]
      obtain ⟨y1, y2⟩ := hW.inc2 hN hqm
      have hpf0 := hW.pf0 (am := x11.toInt) (cf := cf) hN q q (Nat.le_refl _) hqm
      refine sC_carryFrom hC hI a2 z1 y1 (by rw [hpf0]; exact hcf _ z1) (by omega) (fun s3 k3 r3 a3 => hP _ ⟨by omega, k2.tr k3, fun a => (r3 a).trans (r2 a), (pfl_s (t := t) (am := x11.toInt) (cf := cf) q) ▸ a3, by rw [nI_1]⟩)
  · have him : i < m := by
      by_cases c : i < m
      · exact c
      · have : i = m := by omega
        subst this
        rw [hvn] at e; exact absurd e (by simp)
    rw [hvia i him] at e
    obtain rfl : ad 4 (kk A B via t i) = a17 := Option.some.inj e
    obtain ⟨z1, z2⟩ := hW.2.2.2.1 i him
    have hl := h.lk z1
    refine ⟨(h.ce (hnl i hi)).1.1, _, hvia i him, hl.1.1, ?_⟩
    subst hAe
    subst hBe
    refine sC_other h hI z1 z2 ⟨_, rfl, hl.1.1, ?_⟩
    have z3 := hW.1.s him
    rw [← z3]
    obtain ⟨y1, y2⟩ := hW.inc2 hN him
    have hcb := hcf _ z1
    refine sC_cFrom h hI ha z1 y1 hcb (fun r hr => ?_)
    have hrb : -1000000000 ≤ r.toInt ∧ r.toInt ≤ 1000000000 := by
      rw [hr]; unfold cfr; split <;> omega
    have hrn := i32_neg (a := r) (by omega)
    refine ⟨fun e2 => hP _ ⟨by omega, ⟨p1, fun q hq g => ?_, ?_⟩, by rw [nI_1]⟩, fun e2 => ?_⟩
    · rw [Int32.le_iff_toInt_le, hrn, hc0, hr] at e2
      by_cases c : q = i
      · subst c; omega
      · exact p2 q (by omega) g
    · (try dsimp only)
      rcases p3 with g | ⟨u, u1, u2, u3⟩
      · exact Or.inl g
      · exact Or.inr ⟨u, by omega, u2, u3⟩
    · rw [Int32.le_iff_toInt_le, hrn, hc0, hr] at e2
      intro x25 hx25
      have t25 : (x25.toInt = - r.toInt ∧ x25.toInt ≤ w.toInt) ∨ (x25.toInt = w.toInt ∧ x25.toInt ≤ - r.toInt) := by
        rw [hx25]
        by_cases c : (-r) < w
        · rw [if_pos c, hrn]
          rw [Int32.lt_iff_toInt_lt, hrn] at c
          exact Or.inl ⟨rfl, by omega⟩
        · rw [if_neg c]
          rw [Int32.lt_iff_toInt_lt, hrn] at c
          exact Or.inr ⟨rfl, by omega⟩
      refine hP _ ⟨by omega, ⟨⟨?_, ?_⟩, fun q hq g => ?_, ?_⟩, by rw [nI_1]⟩
      · (try dsimp only); omega
      · (try dsimp only); omega
      · (try dsimp only)
        by_cases c : q = i
        · subst c; omega
        · have := p2 q (by omega) g; omega
      · (try dsimp only)
        rcases t25 with ⟨g1, g2⟩ | ⟨g1, g2⟩
        · exact Or.inr ⟨i, by omega, by omega, by omega⟩
        · rcases p3 with g | ⟨u, u1, u2, u3⟩
          · exact Or.inl (by omega)
          · exact Or.inr ⟨u, by omega, u2, by omega⟩
end LC4
end
