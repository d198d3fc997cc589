section
/-! rules' texts: the class's parser, whole -/
section CP2
variable {σ0 σ σ' : CSt} {lab : Nat → Nat} {ad : Nat → Nat → Nat} {b : Nat → Nat} {e nS nL : Nat} {τ : Tk} {L : List Cd} {N : Nat}
theorem CP.nm {N' : Nat} {v : Int32} (h : CP σ0 lab ad b e nS nL σ true τ L N) (hv : v = nI N') : CP σ0 lab ad b e nS nL (csI σ 81 (ad 5 0) v) true τ L N' := by
  obtain ⟨h1, h2, h3, h4⟩ := h
  obtain ⟨g1, g2, g3, g4, g5⟩ := h3 rfl
  exact ⟨h1.I (by decide), h2.I (by unfold adK; omega), fun _ => ⟨by rw [cI_n (by decide)]; exact g1, by rw [cI_n (by decide)]; exact g2, g3, g4, by rw [cI_s]; exact hv⟩, fun e => absurd e (by decide)⟩
theorem sC_cmpr {post : Int32 → CSt → Prop} (h : CP σ0 lab ad b e nS nL σ true τ L (bitsL L)) (hw : WfT e τ) (hk : τ.2.2.1 ≤ 3) (hl : L.length ≤ τ.1) (hp : ∀ σ', CP σ0 lab ad b e nS nL σ' (pCmp b e τ τ.2.2.1).1 (pCmp b e τ τ.2.2.1).2.1 (L ++ (pCmp b e τ τ.2.2.1).2.2) (bitsL (L ++ (pCmp b e τ τ.2.2.1).2.2)) → post (bI (pCmp b e τ τ.2.2.1).1) σ') : wpC_X5_readComparing_0 post σ (ad 5 0) (nI τ.2.2.1) := by
  obtain ⟨g1, g2⟩ := hw.nx (b := b)
  obtain ⟨k1, k2⟩ := g1.nx (b := b)
  have hen := h.1.le
  unfold pCmp at hp
  refine ⟨h.o, h.adv hw (fun σ1 h1 => ⟨h1.o, ?_⟩)⟩
  have hgo : (tok b e τ.2.1).2.2.1 = 9 ∨ (tok b e τ.2.1).2.2.1 = 10 ∨ (tok b e τ.2.1).2.2.1 = 11 → wpC_X5_readComparing_32 post σ1 (ad 5 0) (nI τ.2.2.1) (nI (tok b e τ.2.1).2.2.1) := by
    intro hs
    rw [if_pos hs] at hp
    have y0 := hw.2.2.2.1 (by omega)
    have y1 := g1.2.2.2.1 (by omega)
    refine ⟨h1.o, h1.adv g1 (fun σ2 h2 => ⟨h2.o, ?_⟩)⟩
    have hk16 := k1.2.2.1
    rw [h2.kd, show (14 : Int32) = nI 14 from rfl, nI_eq (by omega) (by omega)]
    refine ⟨fun e1 => ⟨h2.o, h2.o, ?_⟩, fun e1 => ⟨h2.o, h2.fail (L' := []) (N' := 0) (fun σ' h' => ⟨by decide, ?_⟩)⟩⟩
    · rw [if_pos e1] at hp
      have hnum := k1.2.2.2.2.2 e1
      rw [h2.2.1.2.2.2 e1]
      refine h2.wr (x := (3 * τ.2.2.1 + ((tok b e τ.2.1).2.2.1 - 9), (tok b e (tok b e τ.2.1).2.1).2.2.2)) (by have := k1.1; have := k1.2.1; omega) ?_ (fun σ3 h3 => ⟨h3.o, h3.adv k1 (fun σ4 h4 => hp σ4 ?_)⟩)
      · rw [cw_word (by omega) (by omega) hnum]
        congr 1
        unfold cw
        dsimp only
        rw [if_pos (by omega), show (3 * τ.2.2.1 + ((tok b e τ.2.1).2.2.1 - 9)) / 3 = τ.2.2.1 by omega, show 9 + (3 * τ.2.2.1 + ((tok b e τ.2.1).2.2.1 - 9)) % 3 = (tok b e τ.2.1).2.2.1 by omega]
      · rw [bitsL_ap, if_neg (by dsimp only; omega)]
        exact h4
    · rw [if_neg e1] at hp
      exact hp σ' (h'.no rfl)
  have hk16 := g1.2.2.1
  rw [h1.kd, show (9 : Int32) = nI 9 from rfl, show (10 : Int32) = nI 10 from rfl, show (11 : Int32) = nI 11 from rfl, nI_eq (by omega) (by omega), nI_eq (by omega) (by omega), nI_eq (by omega) (by omega)]
  refine ⟨fun e1 => hgo (Or.inl e1), fun e1 => ⟨fun e2 => hgo (Or.inr (Or.inl e2)), fun e2 => ⟨fun e3 => hgo (Or.inr (Or.inr e3)), fun e3 => ⟨h1.o, h1.fail (L' := []) (N' := 0) (fun σ' h' => ⟨by decide, ?_⟩)⟩⟩⟩⟩
  rw [if_neg (by omega)] at hp
  exact hp σ' (h'.no rfl)
theorem sC_nam {post : Int32 → CSt → Prop} (h : CP σ0 lab ad b e nS nL σ true τ L (bitsL L)) (hw : WfT e τ) (hk : τ.2.2.1 = 4 ∨ τ.2.2.1 = 5) (hl : L.length ≤ τ.1) (hp : ∀ σ', CP σ0 lab ad b e nS nL σ' (pNam b e nS nL τ τ.2.2.1).1 (pNam b e nS nL τ τ.2.2.1).2.1 (L ++ (pNam b e nS nL τ τ.2.2.1).2.2) (bitsL (L ++ (pNam b e nS nL τ τ.2.2.1).2.2)) → post (bI (pNam b e nS nL τ τ.2.2.1).1) σ') : wpC_X5_readNaming_0 post σ (ad 5 0) (nI τ.2.2.1) := by
  obtain ⟨g1, g2⟩ := hw.nx (b := b)
  have hen := h.1.le
  obtain ⟨-, -, -, -, hS, hL, -, hS10, hL8⟩ := h.1
  unfold pNam at hp
  have hk16 := g1.2.2.1
  have y0 := hw.2.2.2.1 (by omega)
  refine ⟨h.o, h.adv hw (fun σ1 h1 => ?_)⟩
  have key : ∀ (w0 : Int32) (there : Nat), w0 = nI there → there = (if τ.2.2.1 = 4 then nS else nL) → wpC_X5_readNaming_20 post σ1 (ad 5 0) (nI τ.2.2.1) w0 := by
    intro w0 there hw0 hth
    rw [← hth] at hp
    have hth2 : there ≤ 10 := by rw [hth]; split <;> omega
    have h38 : ¬ ((tok b e τ.2.1).2.2.1 = 14 ∧ (tok b e τ.2.1).2.2.2 < there) → wpC_X5_readNaming_38 post σ1 (ad 5 0) := by
      intro hn
      rw [if_neg hn] at hp
      exact ⟨h1.o, h1.fail (fun σ' h' => ⟨by decide, hp σ' h'⟩)⟩
    unfold wpC_X5_readNaming_20
    rw [h1.kd, show (14 : Int32) = nI 14 from rfl, nI_eq (by omega) (by omega)]
    refine ⟨h1.o, fun e1 => h38 (fun g => e1 g.1), fun e1 => ⟨h1.o, ?_⟩⟩
    have h91 : cI σ1 91 (ad 5 0) = nI (tok b e τ.2.1).2.2.2 := h1.2.1.2.2.2 e1
    have hnum := g1.2.2.2.2.2 e1
    have y1 := g1.2.2.2.1 (by omega)
    have hg := g1.1
    have hg2 := g1.2.1
    rw [h91, hw0, nI_ltI (by omega) (by omega)]
    refine ⟨fun e2 => ?_, fun e2 => h38 (fun g => e2 g.2)⟩
    rw [if_pos ⟨e1, e2⟩] at hp
    have h63 : ∀ (s : CSt) (x : Cd), x = ((if τ.2.2.1 = 4 then 12 else 13), (tok b e τ.2.1).2.2.2) → CP σ0 lab ad b e nS nL s true (tok b e τ.2.1) L (bitsL (L ++ [x])) → wpC_X5_readNaming_63 post s (ad 5 0) (nI τ.2.2.1) := by
      intro s x hx hs
      refine ⟨hs.o, hs.o, ?_⟩
      rw [hs.2.1.2.2.2 e1]
      refine hs.wr (x := x) (by omega) ?_ (fun σ3 h3 => ⟨h3.o, h3.adv g1 (fun σ4 h4 => hp σ4 ?_)⟩)
      · rw [show (0 : Int32) = nI 0 from rfl, cw_word (by omega) (by decide) hnum, hx]
        congr 1
        unfold cw
        dsimp only
        rcases hk with hk | hk
        · rw [hk]; rfl
        · rw [hk]; rfl
      · rw [← hx]; exact h4
    rw [show (4 : Int32) = nI 4 from rfl, nI_eq (by omega) (by omega)]
    refine ⟨fun e3 => h63 σ1 (13, (tok b e τ.2.1).2.2.2) (by rw [if_neg e3]) (by rw [bitsL_ap, if_neg (by dsimp only; omega)]; exact h1), fun e3 => ⟨h1.o, h1.o, h1.o, ?_⟩⟩
    rw [(h1.2.2.1 rfl).2.2.2.2, nI_or1 _ _ (by omega)]
    rintro s8 rfl
    exact h63 _ (12, (tok b e τ.2.1).2.2.2) (by rw [if_pos e3]) (h1.nm (by rw [bitsL_ap, if_pos rfl]))
  rw [show (4 : Int32) = nI 4 from rfl, nI_eq (by omega) (by omega)]
  obtain ⟨-, -, -, -, hS1, hL1, -⟩ := h1.1
  exact ⟨fun e1 => ⟨h1.o, key _ nL hL1 (by rw [if_neg e1])⟩, fun e1 => ⟨h1.o, key _ nS hS1 (by rw [if_pos e1])⟩⟩
theorem sC_nest {m : Nat} {Q : Tk → Rs} {WE WP : (Int32 → CSt → Prop) → CSt → Nat → Int32 → Prop} {v : Int32} {post : Int32 → CSt → Prop} (hm : 1 ≤ m) (hQ : GdP e nS nL m Q) (hE : SimC σ0 lab ad b e nS nL (pEith b e Q) WE v) (hP : SimC σ0 lab ad b e nS nL Q WP v) (h : CP σ0 lab ad b e nS nL σ true τ L (bitsL L)) (hw : WfT e τ) (hl : L.length ≤ τ.1) (hk : τ.2.2.1 = 6 ∨ τ.2.2.1 = 12) (hp : ∀ σ', CP σ0 lab ad b e nS nL σ' (pNest b e Q τ).1 (pNest b e Q τ).2.1 (L ++ (pNest b e Q τ).2.2) (bitsL (L ++ (pNest b e Q τ).2.2)) → post (bI (pNest b e Q τ).1) σ') : wpC_X5_readNested_0 WE WP post σ (ad 5 0) v := by
  obtain ⟨g1, g2⟩ := hw.nx (b := b)
  have hen := h.1.le
  have y0 := hw.2.2.2.1 (by omega)
  have hk16 := hw.2.2.1
  unfold pNest at hp
  unfold wpC_X5_readNested_0
  rw [h.kd, show (6 : Int32) = nI 6 from rfl, nI_eq (by omega) (by omega)]
  refine ⟨h.o, fun e1 => ⟨h.o, h.adv hw (fun σ1 h1 => ⟨fun _ => ⟨h1.o, ?_⟩, fun e2 => absurd rfl e2⟩)⟩, fun e1 => ⟨h.o, h.adv hw (fun σ1 h1 => ⟨fun e2 => absurd e2 (by decide), fun _ => ⟨h1.o, ?_⟩⟩)⟩⟩
  · rw [if_neg e1] at hp
    obtain ⟨p1, p2, p3⟩ := pEith_gd (b := b) hm hQ _ g1
    refine hE _ σ1 _ L h1 g1 (by omega) (fun σ2 h2 => ?_)
    have p16 := p1.2.2.1
    cases ho : (pEith b e Q (tok b e τ.2.1)).1 with
    | false =>
      rw [ho] at h2
      rw [if_neg (fun g => absurd (ho.symm.trans g.1) (by decide))] at hp
      exact ⟨fun e2 => absurd rfl e2, fun _ => hp σ2 h2⟩
    | true =>
      rw [ho] at h2
      refine ⟨fun _ => ⟨h2.o, ?_⟩, fun e2 => absurd e2 (by decide)⟩
      rw [h2.kd, show (13 : Int32) = nI 13 from rfl, nI_eq (by omega) (by omega)]
      refine ⟨fun e3 => ⟨h2.o, h2.adv p1 (fun σ3 h3 => ?_)⟩, fun e3 => ⟨h2.o, h2.fail (L' := []) (N' := 0) (fun σ3 h3 => ⟨by decide, ?_⟩)⟩⟩
      · rw [if_pos ⟨ho, e3⟩] at hp
        exact hp σ3 h3
      · rw [if_neg (fun g => e3 g.2)] at hp
        exact hp σ3 (h3.no rfl)
  · rw [if_pos e1] at hp
    obtain ⟨p1, p2, p3⟩ := hQ _ g1
    refine hP _ σ1 _ L h1 g1 (by omega) (fun σ2 h2 => ⟨h2.o, ?_⟩)
    cases ho : (Q (tok b e τ.2.1)).1 with
    | false =>
      rw [ho] at h2 hp
      exact h2.wf (fun σ3 h3 => ⟨by decide, hp σ3 (h3.no rfl)⟩)
    | true =>
      rw [ho] at h2 hp
      have q1 := (p3 ho).1
      have q2 := p1.1
      have q3 := p1.2.1
      refine h2.wr (x := (14, 0)) (by rw [List.length_append]; omega) (cw_word (w := 6) (s := 0) (n := 0) (by decide) (by decide) (by decide)) (fun σ3 h3 => ⟨by decide, hp σ3 ?_⟩)
      dsimp only
      rw [← List.append_assoc, bitsL_ap, if_neg (by decide)]
      exact h3
theorem sC_part {N : Tk → Rs} {WN : (Int32 → CSt → Prop) → CSt → Nat → Int32 → Prop} {v : Int32} (hN : ∀ (post : Int32 → CSt → Prop) (σ : CSt) (τ : Tk) (L : List Cd), CP σ0 lab ad b e nS nL σ true τ L (bitsL L) → WfT e τ → L.length ≤ τ.1 → (τ.2.2.1 = 6 ∨ τ.2.2.1 = 12) → (∀ σ', CP σ0 lab ad b e nS nL σ' (N τ).1 (N τ).2.1 (L ++ (N τ).2.2) (bitsL (L ++ (N τ).2.2)) → post (bI (N τ).1) σ') → wpC_X5_readPart_18 WN post σ (ad 5 0) v) : SimC σ0 lab ad b e nS nL (pStep b e nS nL N) (wpC_X5_readPart_0 WN) v := by
  intro post σ τ L h hw hl hp
  have hk16 := hw.2.2.1
  have hnest : (τ.2.2.1 = 6 ∨ τ.2.2.1 = 12) → wpC_X5_readPart_18 WN post σ (ad 5 0) v := by
    intro hk
    have ep : pStep b e nS nL N τ = N τ := if_pos hk
    rw [ep] at hp
    exact hN post σ τ L h hw hl hk hp
  have h55 : ¬ (τ.2.2.1 = 6 ∨ τ.2.2.1 = 12) → (τ.2.2.1 = 4 ∨ τ.2.2.1 = 5) → wpC_X5_readPart_55 WN post σ (ad 5 0) := by
    intro hn hk
    have ep : pStep b e nS nL N τ = pNam b e nS nL τ τ.2.2.1 := (if_neg hn).trans (if_pos hk)
    rw [ep] at hp
    refine ⟨h.o, h.o, ?_⟩
    rw [h.kd]
    exact sC_nam h hw hk hl (fun σ' h' => ⟨(bI_n _).2, hp σ' h'⟩)
  have h95 : ¬ (τ.2.2.1 = 6 ∨ τ.2.2.1 = 12) → ¬ (τ.2.2.1 = 4 ∨ τ.2.2.1 = 5) → τ.2.2.1 ≤ 3 → wpC_X5_readPart_95 WN post σ (ad 5 0) := by
    intro hn hk h3
    have ep : pStep b e nS nL N τ = pCmp b e τ τ.2.2.1 := (if_neg hn).trans ((if_neg hk).trans (if_pos h3))
    rw [ep] at hp
    refine ⟨fun e => absurd e (by decide), fun _ => ⟨h.o, h.o, ?_⟩⟩
    rw [h.kd]
    exact sC_cmpr h hw h3 hl (fun σ' h' => ⟨(bI_n _).2, hp σ' h'⟩)
  unfold wpC_X5_readPart_0
  rw [h.kd, show (6 : Int32) = nI 6 from rfl, show (12 : Int32) = nI 12 from rfl, show (4 : Int32) = nI 4 from rfl, show (5 : Int32) = nI 5 from rfl, show (0 : Int32) = nI 0 from rfl, show (1 : Int32) = nI 1 from rfl, show (2 : Int32) = nI 2 from rfl, show (3 : Int32) = nI 3 from rfl, nI_eq (by omega) (by omega), nI_eq (by omega) (by omega), nI_eq (by omega) (by omega), nI_eq (by omega) (by omega), nI_eq (by omega) (by omega), nI_eq (by omega) (by omega), nI_eq (by omega) (by omega), nI_eq (by omega) (by omega)]
  refine ⟨h.o, fun e6 => hnest (Or.inl e6), fun e6 => ⟨h.o, fun e12 => ⟨h.o, fun e4 => h55 (by omega) (Or.inl e4), fun e4 => ⟨h.o, fun e5 => ⟨h.o, fun e0 => h95 (by omega) (by omega) (by omega), fun e0 => ⟨h.o, fun e1 => h95 (by omega) (by omega) (by omega), fun e1 => ⟨h.o, fun e2 => h95 (by omega) (by omega) (by omega), fun e2 => ⟨h.o, fun e3 => ?_, fun e3 => h95 (by omega) (by omega) (by omega)⟩⟩⟩⟩, fun e5 => h55 (by omega) (Or.inr e5)⟩⟩, fun e12 => hnest (Or.inr e12)⟩⟩
  have ep : pStep b e nS nL N τ = (false, τ, []) := (if_neg (by omega)).trans ((if_neg (by omega)).trans (if_neg (by omega)))
  rw [ep] at hp
  exact ⟨fun _ => ⟨h.o, h.fail (fun σ' h' => ⟨by decide, hp σ' h'⟩)⟩, fun e => absurd rfl e⟩
theorem sC_base {W : (Int32 → CSt → Prop) → CSt → Nat → Int32 → Prop} : SimC σ0 lab ad b e nS nL (pP b e nS nL 0) (wpC_X5_readPart_0 W) (nI 20) :=
  sC_part (fun post σ τ L h hw hl hk hp => ⟨fun _ => ⟨h.o, h.fail (fun σ' h' => ⟨by decide, hp σ' h'⟩)⟩, fun e => absurd (by decide) e⟩)
theorem sC_pP : ∀ d D : Nat, d ≤ D → d ≤ 20 → SimC σ0 lab ad b e nS nL (pP b e nS nL d) (wRP D) (nI (20 - d))
  | 0, 0, _, _ => sC_base
  | 0, D + 1, _, _ => sC_base
  | d + 1, 0, h, _ => absurd h (by omega)
  | d + 1, D + 1, h, h20 => by
    have ih := sC_pP d D (by omega) (by omega)
    have hE := sC_eith (by omega) (pP_gd (b := b) (e := e) (nS := nS) (nL := nL) d) ih
    refine sC_part (fun post σ τ L h hw hl hk hp => ⟨fun e1 => ?_, fun e1 => ⟨h.o, ?_⟩⟩)
    · rw [show (20 : Int32) = nI 20 from rfl, nI_leI (by omega) (by omega)] at e1; omega
    · rw [nI_1, show 20 - (d + 1) + 1 = 20 - d by omega]
      exact sC_nest (by omega) (pP_gd (b := b) (e := e) (nS := nS) (nL := nL) d) hE ih h hw hl hk (fun σ' h' => ⟨(bI_n _).2, hp σ' h'⟩)
/-- the whole text: right or not, up to where, its steps -/
noncomputable def pFin (r : Rs) : Rs := if r.1 = true ∧ r.2.1.2.2.1 = 15 then r else (false, r.2.1, [])
noncomputable def pAll (b : Nat → Nat) (e nS nL : Nat) : Rs := pFin (pEith b e (pP b e nS nL 20) (tok b e 0))
theorem sC_eithD : SimC σ0 lab ad b e nS nL (pEith b e (pP b e nS nL 20)) wpC_X5_readEitherD_0 0 := by
  have hE := sC_eith (by omega) (pP_gd (b := b) (e := e) (nS := nS) (nL := nL) 20) (sC_pP (σ0 := σ0) (lab := lab) (ad := ad) (b := b) (e := e) (nS := nS) (nL := nL) 20 21 (by omega) (by omega))
  rw [show nI (20 - 20) = 0 from rfl] at hE
  unfold wpC_X5_readEitherD_0
  exact hE
theorem pEith_w : WfT e (pEith b e (pP b e nS nL 20) (tok b e 0)).2.1 := (pEith_gd (b := b) (by omega) (pP_gd (b := b) (e := e) (nS := nS) (nL := nL) 20) _ WfT.t0).1
theorem bitsL_nil : bitsL [] = 0 := rfl
theorem sC_takesG {post : Int32 → CSt → Prop} {PE : Tk → Rs} (hE : SimC σ lab ad b e nS nL PE wpC_X5_readEitherD_0 0) (p1 : WfT e (PE (tok b e 0)).2.1) (h5 : obj σ lab ad 5 0) (h82 : cR σ 82 (ad 5 0) = some (ad 9 0)) (h9 : obj σ lab ad 9 0) (hn9 : cN σ (ad 9 0) = 400) (h8 : cAt σ 8 (ad 8 0)) (hn8 : cN σ (ad 8 0) = 400) (hv8 : ∀ i : Nat, i < 400 → b i < 256 ∧ cV σ (ad 8 0) i = sB (b i)) (he : e ≤ 400) (hS : nS ≤ 10) (hL : nL ≤ 8) (hp : ∀ σ', CP σ lab ad b e nS nL σ' (pFin (PE (tok b e 0))).1 (pFin (PE (tok b e 0))).2.1 (pFin (PE (tok b e 0))).2.2 (bitsL (pFin (PE (tok b e 0))).2.2) → post (bI (pFin (PE (tok b e 0))).1) σ') : wpC_X5_takes_0 post σ (ad 5 0) (ad 8 0) (nI e) (nI nS) (nI nL) := by
  unfold pFin at hp
  refine ⟨h5.1, ?_⟩
  rintro s1 rfl
  refine ⟨h8, ?_⟩
  intro x2 hx2
  have hx3 : x2 = nI e := hx2.trans (if_neg (by rw [show cN (csR σ 84 (ad 5 0) (some (ad 8 0))) (ad 8 0) = 400 from hn8, nI_ltI (by decide) (by omega)]; omega))
  subst hx3
  refine ⟨h5.1, ?_⟩
  rintro s3 rfl
  refine ⟨h5.1, ?_⟩
  rintro s4 rfl
  refine ⟨h5.1, ?_⟩
  rintro s5 rfl
  have hR : RdC σ (csI (csI (csI (csR σ 84 (ad 5 0) (some (ad 8 0))) 85 (ad 5 0) (nI e)) 86 (ad 5 0) (nI nS)) 87 (ad 5 0) (nI nL)) lab ad b e nS nL := by
    refine ⟨?_, ⟨h5, h82, h9, hn9⟩, ⟨?_, h8, hn8, hv8⟩, ?_, ?_, ?_, he, hS, hL⟩
    · refine keepS.mono (X := atX 5 0) ?_ (fun a l hx => ⟨Or.inl hx.1, hx.2⟩)
      exact (((keep_csR h5.1 h5.2 84 _).s.tr (keep_csI (σ := csR σ 84 (ad 5 0) (some (ad 8 0))) (lab := lab) h5.1 h5.2 85 (nI e)).s).tr (keep_csI (σ := csI (csR σ 84 (ad 5 0) (some (ad 8 0))) 85 (ad 5 0) (nI e)) (lab := lab) h5.1 h5.2 86 (nI nS)).s).tr (keep_csI (σ := csI (csI (csR σ 84 (ad 5 0) (some (ad 8 0))) 85 (ad 5 0) (nI e)) 86 (ad 5 0) (nI nS)) (lab := lab) h5.1 h5.2 87 (nI nL)).s
    · show cR (csR σ 84 (ad 5 0) (some (ad 8 0))) 84 (ad 5 0) = _
      rw [pR_csR, cu2_ap, if_pos rfl, if_pos rfl]
    · rw [cI_n (by decide), cI_n (by decide), cI_s]
    · rw [cI_n (by decide), cI_s]
    · rw [cI_s]
  generalize csI (csI (csI (csR σ 84 (ad 5 0) (some (ad 8 0))) 85 (ad 5 0) (nI e)) 86 (ad 5 0) (nI nS)) 87 (ad 5 0) (nI nL) = t at hR
  refine ⟨hR.o, ?_⟩
  intro s6 hs6
  have q6 : RdC σ s6 lab ad b e nS nL := by rw [hs6]; exact hR.I (by decide)
  have y88 : cI s6 88 (ad 5 0) = 0 := by rw [hs6, cI_s]
  clear hs6
  refine ⟨q6.o, ?_⟩
  intro s7 hs7
  have q7 : RdC σ s7 lab ad b e nS nL := by rw [hs7]; exact q6.I (by decide)
  have z88 : cI s7 88 (ad 5 0) = 0 := by rw [hs7, cI_n (by decide)]; exact y88
  have z81 : cI s7 81 (ad 5 0) = 0 := by rw [hs7, cI_s]
  clear hs7
  refine ⟨q7.o, ?_⟩
  intro s8 hs8
  have q8 : RdC σ s8 lab ad b e nS nL := by rw [hs8]; exact q7.I (by decide)
  have x88 : cI s8 88 (ad 5 0) = 0 := by rw [hs8, cI_n (by decide)]; exact z88
  have x81 : cI s8 81 (ad 5 0) = 0 := by rw [hs8, cI_n (by decide)]; exact z81
  have x83 : cI s8 83 (ad 5 0) = 0 := by rw [hs8, cI_s]
  clear hs8
  refine ⟨q8.o, ?_⟩
  intro s9 hs9
  have q9 : RdC σ s9 lab ad b e nS nL := by rw [hs9]; exact q8.I (by decide)
  have w88 : cI s9 88 (ad 5 0) = nI 0 := by rw [hs9, cI_n (by decide)]; exact x88
  have w81 : cI s9 81 (ad 5 0) = nI 0 := by rw [hs9, cI_n (by decide)]; exact x81
  have w83 : cI s9 83 (ad 5 0) = nI 0 := by rw [hs9, cI_n (by decide)]; exact x83
  have w80 : cI s9 80 (ad 5 0) = -1 := by rw [hs9, cI_s]
  clear hs9
  refine ⟨q9.o, ?_⟩
  refine sC_advance (a := 0) q9 w88 (Nat.zero_le _) (fun σ1 k1 k2 k3 => ⟨k1.o, ?_⟩)
  have hC : CP σ lab ad b e nS nL σ1 true (tok b e 0) [] (bitsL []) := by
    refine ⟨k1, k2, fun _ => ⟨?_, ?_, Nat.zero_le _, fun i hi => absurd hi (Nat.not_lt_zero _), ?_⟩, fun e => absurd e (by decide)⟩
    · rw [k3.1 80 (by unfold adK; omega)]; exact w80
    · rw [k3.1 83 (by unfold adK; omega)]; exact w83
    · rw [k3.1 81 (by unfold adK; omega), bitsL_nil]; exact w81
  have p16 := p1.2.2.1
  refine hE _ σ1 _ [] hC WfT.t0 (Nat.zero_le _) (fun σ2 h2 => ?_)
  generalize PE (tok b e 0) = r at h2 hp p1 p16
  cases ho : r.1 with
  | false =>
    rw [ho] at h2
    rw [if_neg (fun g => absurd (ho.symm.trans g.1) (by decide))] at hp
    exact ⟨fun _ => hp σ2 (h2.no rfl), fun e1 => absurd rfl e1⟩
  | true =>
    rw [ho] at h2
    refine ⟨fun e1 => absurd e1 (by decide), fun _ => ⟨h2.o, ?_⟩⟩
    rw [h2.kd, show (15 : Int32) = nI 15 from rfl, nI_eq (by omega) (by omega)]
    refine ⟨fun e1 => ?_, fun e1 => ⟨h2.o, h2.fail (L' := []) (N' := 0) (fun σ3 h3 => ⟨fun _ => ?_, fun e2 => absurd rfl e2⟩)⟩⟩
    · rw [if_pos ⟨ho, e1⟩, ho] at hp
      exact hp σ2 h2
    · rw [if_neg (fun g => e1 g.2)] at hp
      exact hp σ3 (h3.no rfl)
theorem sC_takes {post : Int32 → CSt → Prop} (h5 : obj σ lab ad 5 0) (h82 : cR σ 82 (ad 5 0) = some (ad 9 0)) (h9 : obj σ lab ad 9 0) (hn9 : cN σ (ad 9 0) = 400) (h8 : cAt σ 8 (ad 8 0)) (hn8 : cN σ (ad 8 0) = 400) (hv8 : ∀ i : Nat, i < 400 → b i < 256 ∧ cV σ (ad 8 0) i = sB (b i)) (he : e ≤ 400) (hS : nS ≤ 10) (hL : nL ≤ 8) (hp : ∀ σ', CP σ lab ad b e nS nL σ' (pAll b e nS nL).1 (pAll b e nS nL).2.1 (pAll b e nS nL).2.2 (bitsL (pAll b e nS nL).2.2) → post (bI (pAll b e nS nL).1) σ') : wpC_X5_takes_0 post σ (ad 5 0) (ad 8 0) (nI e) (nI nS) (nI nL) :=
  sC_takesG sC_eithD pEith_w h5 h82 h9 hn9 h8 hn8 hv8 he hS hL hp
end CP2
end
