section
/-! least: the class measures -/
section LC2
variable {σ σ' : CSt} {lab : Nat → Nat} {ad : Nat → Nat → Nat} {μ : MSt} {j : Nat} {cf dd sp ms far : Nat → Int} {via : Nat → Option Nat} {tt : Nat → Nat}
theorem BFI.far_ok {n K : Nat} {A B : Nat → Nat} {ln : Nat → Int} {ρ pc : Nat} (h : BFI n K A B ln cf dd sp far via tt ρ pc) (hN : NetOk n K A B ln) (hd : ∀ v : Nat, v < n → 0 ≤ dd v ∧ dd v % 64 ≤ 39) {u : Nat} (hu : u < n) : far u = UN ∨ (-1000000000 ≤ far u ∧ far u ≤ 1000000000) := by
  by_cases e : far u = UN
  · exact Or.inl e
  · obtain ⟨a1, a2⟩ := (h.1 u hu).2.1 e
    have a3 := (hd u hu).1
    have a4 := nFin_le (n := n) (far := far)
    have := hN.1
    exact Or.inr ⟨by omega, by omega⟩
/-- the numbers are small -/
def cfOk (μ : MSt) (cf : Nat → Int) : Prop := ∀ k : Nat, k < μ.1 26 → -1000000000 ≤ cf k ∧ cf k ≤ 1000000000
theorem or01 {a b : Int32} (ha : a = 0 ∨ a = 1) (hb : b = 0 ∨ b = 1) : (a ||| b = 0 ∧ a = 0 ∧ b = 0) ∨ (a ||| b = 1 ∧ (a = 1 ∨ b = 1)) := by
  rcases ha with rfl | rfl <;> rcases hb with rfl | rfl
  · exact Or.inl ⟨rfl, rfl, rfl⟩
  · exact Or.inr ⟨rfl, Or.inr rfl⟩
  · exact Or.inr ⟨rfl, Or.inl rfl⟩
  · exact Or.inr ⟨rfl, Or.inl rfl⟩
/-- one arc -/
theorem sC_arc {post : Int32 → CSt → Prop} {k u ρ pc : Nat} (h : CRep σ lab ad μ) (hI : MI μ j) (ha : LCa σ ad μ cf sp ms) (hb : LCb σ ad μ far via) (hcf : cfOk μ cf) (hF : Fe (μ.1 26) (μ.2.1 23) (μ.2.1 24) (nLn μ) cf dd) (hd : ∀ v : Nat, v < μ.1 14 → 0 ≤ dd v ∧ dd v % 64 ≤ 39) (hk : k < μ.1 26) (hu : inc (μ.2.1 23) (μ.2.1 24) k u) (hp : arcN (μ.2.1 23) k u = pc) (hB : BFI (μ.1 14) (μ.1 26) (μ.2.1 23) (μ.2.1 24) (nLn μ) cf dd sp far via tt ρ pc)
    (hq : ∀ (r : Int32) σ' far' via' tt', keepS noX σ lab σ' lab → LCa σ' ad μ cf sp ms → LCb σ' ad μ far' via' → BFI (μ.1 14) (μ.1 26) (μ.2.1 23) (μ.2.1 24) (nLn μ) cf dd sp far' via' tt' ρ (pc + 1) → ((r = 0 ∧ tt' = tt) ∨ (r = 1 ∧ (∃ v : Nat, v < μ.1 14 ∧ tt' v = ρ) ∧ ∀ v : Nat, tt v = ρ → tt' v = ρ)) → post r σ') : wpC_X0_brings_0 post σ (ad 4 k) (ad 1 u) := by
  have hN := ntOk hI
  refine sC_brings h hI ha hb hk hu (hcf k hk) (hB.far_ok hN hd (hN.lt hk hu)) (fun hno => hq 0 σ far via tt keepS.rf ha hb (hB.no hN hk hu hp hno) (Or.inl ⟨rfl, rfl⟩)) (fun g1 g2 σ' k1 k2 k3 => hq 1 σ' _ _ _ k1 k2 k3 (hB.yes hN hF hd hk hu hp g1 g2) (Or.inr ⟨rfl, ⟨_, hN.ot_lt hk hu, if_pos rfl⟩, fun v hv => ?_⟩))
  (try dsimp only)
  split
  · rfl
  · exact hv
theorem sC_measure {post : CSt → Prop} (h : CRep σ lab ad μ) (hI : MI μ j) (ha : LCa σ ad μ cf sp ms) (hcf : cfOk μ cf) (hF : Fe (μ.1 26) (μ.2.1 23) (μ.2.1 24) (nLn μ) cf dd) (hd : ∀ v : Nat, v < μ.1 14 → 0 ≤ dd v ∧ dd v % 64 ≤ 39) (hs : ∀ v : Nat, v < μ.1 14 → 0 < sp v → dd v = 0)
    (hq : ∀ σ' far via, keepS noX σ lab σ' lab → LCa σ' ad μ cf sp ms → LCb σ' ad μ far via → MEAS (μ.1 14) (μ.1 26) (μ.2.1 23) (μ.2.1 24) (nLn μ) cf dd sp far via → post σ') : wpC_X0_measure_0 post σ (ad 0 2) (ad 0 4) := by
  have hN := ntOk hI
  have hc := hI.cs
  have hun : (1073741824 : Int32).toInt = UN := rfl
  have hc0 : (0 : Int32).toInt = 0 := rfl
  refine gLP.up (μ.1 14) (fun i (x : CSt × Nat × Nat × Int32) => i ≤ μ.1 14 ∧ keepS noX σ lab x.1 lab ∧ LCa x.1 ad μ cf sp ms ∧ (∀ v : Nat, v < i → (cI x.1 22 (ad 1 v)).toInt = (if 0 < sp v then 0 else UN) ∧ cR x.1 23 (ad 1 v) = none) ∧ x.2 = (ad 0 2, ad 0 4, nI i)) (fun i x h => h.1) ?_ (j := 0) ⟨Nat.zero_le _, keepS.rf, ha, fun v hv => absurd hv (Nat.not_lt_zero _), rfl⟩
  rintro i ⟨σ1, y⟩ P ⟨hi, k1, a1, v1, e⟩ hP
  (try dsimp only at k1 a1 v1 e)
  subst e
  (try dsimp only)
  have hC := h.nox k1
  refine ⟨hC.ls.2.2.1.1, sC_size hC.ls.2.2.1 ⟨fun e => ?_, fun e => ?_⟩⟩
  rotate_left
  · rw [nI_leI (by omega) (by omega)] at e
    have hi' : i < μ.1 14 := by omega
    have ho := hC.ce hi'
    have hw : ∀ w : Int32, w.toInt = (if 0 < sp i then 0 else UN) → wpC_X0_measure_33 post (fun s v0 v1 v2 => P (s, v0, v1, v2)) σ1 (ad 0 2) (ad 0 4) (nI i) (ad 1 i) (ad 1 i) w := by
      intro w hw
      refine ⟨ho.1.1, ?_⟩
      intro s17 hs17
      have k17 : keepS noX σ lab s17 lab := by rw [hs17]; exact k1.tr (keep_scr (by unfold scrI; omega))
      have a17 : LCa s17 ad μ cf sp ms := by rw [hs17]; exact a1.o (by decide)
      have v17 : ∀ v : Nat, v < i + 1 → (cI s17 22 (ad 1 v)).toInt = (if 0 < sp v then 0 else UN) := by
        intro v hv
        rw [hs17, pI_csI, cu2_ap, if_pos rfl]
        by_cases ev : v = i
        · subst ev; rw [if_pos rfl]; exact hw
        · rw [if_neg (fun g => ev (hC.ad1 (by omega) hi' g))]; exact (v1 v (by omega)).1
      have r17 : ∀ v : Nat, v < i → cR s17 23 (ad 1 v) = none := fun v hv => by rw [hs17]; exact (v1 v hv).2
      have o17 : cAt s17 1 (ad 1 i) := by rw [hs17]; exact ho.1.1
      clear hs17
      refine ⟨o17, ?_⟩
      intro s18 hs18
      refine hP _ ⟨by omega, by rw [hs18]; exact k17.tr keep_scrR, by rw [hs18]; exact a17.r, fun v hv => ?_, by rw [nI_1]⟩
      (try dsimp only)
      rw [hs18, pR_csR, cu2_ap, if_pos rfl]
      refine ⟨v17 v hv, ?_⟩
      by_cases ev : v = i
      · subst ev; rw [if_pos rfl]
      · rw [if_neg (fun g => ev (hC.ad1 (by omega) hi' g))]; exact r17 v (by omega)
    have hsp := (a1.2 i hi').1
    refine ⟨hC.ls.2.2.1.1, sC_get hC.ls.2.2.1 hi' ⟨_, rfl, ho.1.1, ho.1.1, fun e2 => hw _ ?_, fun e2 => hw _ ?_⟩⟩
    · rw [Int32.le_iff_toInt_le, hsp, hc0] at e2
      rw [hun, if_neg (by omega)]
    · rw [Int32.le_iff_toInt_le, hsp, hc0] at e2
      rw [hc0, if_pos (by omega)]
  rw [nI_leI (by omega) (by omega)] at e
  have ei : i = μ.1 14 := by omega
  subst ei
  -- the rounds
  have hB0 : ∀ pc, BFI (μ.1 14) (μ.1 26) (μ.2.1 23) (μ.2.1 24) (nLn μ) cf dd sp (fun v => if 0 < sp v then 0 else UN) (fun _ => none) (fun _ => 0) 0 pc := by
    intro pc
    refine ⟨fun v hv => ⟨?_, fun g => ?_, fun g => ⟨if_pos g, rfl⟩⟩, fun v hv k hk => absurd hk (by simp), fun v hv g _ => ?_, fun v hv => ⟨Nat.le_refl _, fun g => absurd g (Nat.lt_irrefl _)⟩, fun k hk u hu g => Or.inr (by split <;> exact Nat.le_refl _)⟩
    · (try dsimp only); split
      · unfold UN; decide
      · exact Int.le_refl _
    · (try dsimp only at g ⊢)
      by_cases c : 0 < sp v
      · rw [if_pos c, hs v hv c]
        exact ⟨by decide, by omega⟩
      · rw [if_neg c] at g; exact absurd rfl g
    · (try dsimp only at g)
      by_cases c : 0 < sp v
      · exact c
      · rw [if_neg c] at g; exact absurd rfl g
  refine gLP.up (μ.1 14) (fun r (x : CSt × Nat × Nat × Int32 × Int32) => r ≤ μ.1 14 ∧ ∃ far via tt, keepS noX σ lab x.1 lab ∧ LCa x.1 ad μ cf sp ms ∧ LCb x.1 ad μ far via ∧ BFI (μ.1 14) (μ.1 26) (μ.2.1 23) (μ.2.1 24) (nLn μ) cf dd sp far via tt r (2 * μ.1 26) ∧ ((x.2.2.2.1 = 0 ∧ ∀ v : Nat, v < μ.1 14 → tt v < r) ∨ (x.2.2.2.1 = 1 ∧ (r = 0 ∨ ∃ v : Nat, v < μ.1 14 ∧ tt v = r))) ∧ (x.2.1, x.2.2.1, x.2.2.2.2) = (ad 0 2, ad 0 4, nI r)) (fun i x h => h.1) ?_ (j := 0) ⟨Nat.zero_le _, (fun v => if 0 < sp v then 0 else UN), (fun _ => none), (fun _ => 0), k1, a1, fun v hv => ⟨(v1 v hv).1, (v1 v hv).2⟩, hB0 _, Or.inr ⟨rfl, Or.inl rfl⟩, rfl⟩
  clear v1 hC a1 k1 hP hB0
  rintro r ⟨σ2, w0, w1, w2, w3⟩ P ⟨hr, far, via, tt, k1, a1, b1, hB, hw, e⟩ hP
  (try dsimp only at k1 a1 b1 hw e)
  obtain ⟨rfl, rfl, rfl⟩ := (show w0 = ad 0 2 ∧ w1 = ad 0 4 ∧ w3 = nI r from ⟨congrArg Prod.fst e, congrArg (fun z => z.2.1) e, congrArg (fun z => z.2.2) e⟩)
  clear e
  (try dsimp only)
  have hC := h.nox k1
  refine ⟨hC.ls.2.2.1.1, sC_size hC.ls.2.2.1 ⟨fun e => ?_, fun e => ⟨fun e2 => ?_, fun e2 => ?_⟩⟩⟩
  · rw [nI_leI (by omega) (by omega)] at e
    rcases hw with ⟨-, g⟩ | ⟨-, g⟩
    · exact hq _ _ _ k1 a1 b1 (hB.done g hN)
    · rcases g with g | ⟨v, g1, g2⟩
      · exact hq _ _ _ k1 a1 b1 (hB.done (fun v hv => by omega) hN)
      · exact (hB.end hN hF hd e g1 g2).elim
  · rcases hw with ⟨-, g⟩ | ⟨g, -⟩
    · exact hq _ _ _ k1 a1 b1 (hB.done g hN)
    · rw [g] at e2; exact absurd e2 (by decide)
  · rw [nI_leI (by omega) (by omega)] at e
    have hrl : r < μ.1 14 := by omega
    have htt : ∀ v : Nat, v < μ.1 14 → tt v ≤ r := fun v hv => (hB.2.2.2.1 v hv).1
    have hB1 := hB.next hN
    refine gLP.up (μ.1 26) (fun i (x : CSt × Nat × Nat × Int32 × Int32 × Int32) => i ≤ μ.1 26 ∧ ∃ far via tt, keepS noX σ lab x.1 lab ∧ LCa x.1 ad μ cf sp ms ∧ LCb x.1 ad μ far via ∧ BFI (μ.1 14) (μ.1 26) (μ.2.1 23) (μ.2.1 24) (nLn μ) cf dd sp far via tt (r + 1) (2 * i) ∧ ((x.2.2.2.1 = 0 ∧ ∀ v : Nat, v < μ.1 14 → tt v < r + 1) ∨ (x.2.2.2.1 = 1 ∧ ∃ v : Nat, v < μ.1 14 ∧ tt v = r + 1)) ∧ (x.2.1, x.2.2.1, x.2.2.2.2) = (ad 0 2, ad 0 4, nI r, nI i)) (fun i x h => h.1) ?_ (j := 0) ⟨Nat.zero_le _, far, via, tt, k1, a1, b1, hB1, Or.inl ⟨rfl, fun v hv => by have := htt v hv; omega⟩, rfl⟩
    clear hw hC b1 a1 k1 hB hB1 htt e2 w2
    rintro i ⟨σ3, w0, w1, w2, w3, w4⟩ P' ⟨hi, far, via, tt, k1, a1, b1, hB, hw, e⟩ hP'
    (try dsimp only at k1 a1 b1 hw e)
    obtain ⟨rfl, rfl, rfl, rfl⟩ := (show w0 = ad 0 2 ∧ w1 = ad 0 4 ∧ w3 = nI r ∧ w4 = nI i from ⟨congrArg Prod.fst e, congrArg (fun z => z.2.1) e, congrArg (fun z => z.2.2.1) e, congrArg (fun z => z.2.2.2) e⟩)
    clear e
    (try dsimp only)
    have hC := h.nox k1
    refine ⟨hC.ls.2.2.2.2.1, sC_size hC.ls.2.2.2.2 ⟨fun e => ?_, fun e => ?_⟩⟩
    · rw [nI_leI (by omega) (by omega)] at e
      obtain rfl : i = μ.1 26 := by omega
      refine hP _ ⟨by omega, far, via, tt, k1, a1, b1, hB, ?_, by rw [nI_1]⟩
      rcases hw with g | ⟨g1, g2⟩
      · exact Or.inl g
      · exact Or.inr ⟨g1, Or.inr g2⟩
    · rw [nI_leI (by omega) (by omega)] at e
      have hi' : i < μ.1 26 := by omega
      have hl := hC.lk hi'
      have hne := (hN.2.2 i hi').2.2.1
      refine ⟨hC.ls.2.2.2.2.1, sC_get hC.ls.2.2.2.2 hi' ⟨_, rfl, hl.1.1, hl.1.1, _, hl.2.1, ?_⟩⟩
      refine sC_arc (tt := tt) hC hI a1 b1 hcf hF hd hi' (Or.inl rfl) (if_pos rfl) hB (fun r9 s8 far8 via8 tt8 k8 a8 b8 hB8 ht8 => ?_)
      have hC8 := hC.nox k8
      refine ⟨(hC8.lk hi').1.1, _, (hC8.lk hi').2.2.1, ?_⟩
      refine sC_arc (tt := tt8) hC8 hI a8 b8 hcf hF hd hi' (Or.inr rfl) (if_neg (fun g => hne g.symm)) hB8 (fun r12 s11 far11 via11 tt11 k11 a11 b11 hB11 ht11 => ?_)
      refine hP' _ ⟨by omega, far11, via11, tt11, (k1.tr k8).tr k11, a11, b11, by rw [show 2 * (i + 1) = 2 * i + 1 + 1 by omega]; exact hB11, ?_, by rw [nI_1]⟩
      (try dsimp only)
      have d2 : w2 = 0 ∨ w2 = 1 := hw.elim (fun g => Or.inl g.1) (fun g => Or.inr g.1)
      have d9 : r9 = 0 ∨ r9 = 1 := ht8.elim (fun g => Or.inl g.1) (fun g => Or.inr g.1)
      have d12 : r12 = 0 ∨ r12 = 1 := ht11.elim (fun g => Or.inl g.1) (fun g => Or.inr g.1)
      have d29 : (w2 ||| r9) = 0 ∨ (w2 ||| r9) = 1 := (or01 d2 d9).elim (fun g => Or.inl g.1) (fun g => Or.inr g.1)
      have up8 : ∀ v : Nat, tt v = r + 1 → tt8 v = r + 1 := fun v hv => by
        rcases ht8 with ⟨-, g⟩ | ⟨-, -, g⟩
        · rw [g]; exact hv
        · exact g v hv
      have up11 : ∀ v : Nat, tt8 v = r + 1 → tt11 v = r + 1 := fun v hv => by
        rcases ht11 with ⟨-, g⟩ | ⟨-, -, g⟩
        · rw [g]; exact hv
        · exact g v hv
      rcases or01 d29 d12 with ⟨g1, g2, g3⟩ | ⟨g1, g2⟩
      · rw [g1]
        refine Or.inl ⟨rfl, ?_⟩
        rcases or01 d2 d9 with ⟨y1, y2, y3⟩ | ⟨y1, -⟩
        · have e8 : tt8 = tt := by
            rcases ht8 with ⟨-, g⟩ | ⟨g, -⟩
            · exact g
            · rw [y3] at g; exact absurd g (by decide)
          have e11 : tt11 = tt8 := by
            rcases ht11 with ⟨-, g⟩ | ⟨g, -⟩
            · exact g
            · rw [g3] at g; exact absurd g (by decide)
          rw [e11, e8]
          rcases hw with ⟨-, g⟩ | ⟨g, -⟩
          · exact g
          · rw [y2] at g; exact absurd g (by decide)
        · rw [y1] at g2; exact absurd g2 (by decide)
      · rw [g1]
        refine Or.inr ⟨rfl, ?_⟩
        by_cases z12 : r12 = 1
        · rcases ht11 with ⟨g, -⟩ | ⟨-, g, -⟩
          · rw [z12] at g; exact absurd g (by decide)
          · exact g
        · have z29 : (w2 ||| r9) = 1 := g2.resolve_right z12
          rcases or01 d2 d9 with ⟨y1, -⟩ | ⟨-, y2⟩
          · rw [y1] at z29; exact absurd z29 (by decide)
          · by_cases z9 : r9 = 1
            · rcases ht8 with ⟨g, -⟩ | ⟨-, ⟨v, g3, g4⟩, -⟩
              · rw [z9] at g; exact absurd g (by decide)
              · exact ⟨v, g3, up11 v g4⟩
            · have z2 : w2 = 1 := y2.resolve_right z9
              rcases hw with ⟨g, -⟩ | ⟨-, v, g3, g4⟩
              · rw [z2] at g; exact absurd g (by decide)
              · exact ⟨v, g3, up11 v (up8 v g4)⟩
end LC2
end
