section
/-! rules' texts: the reference's parser -/
section RP1
variable {ρ0 ρ ρ' : RSt} {b : Nat → Nat} {e nS nL n : Nat} {τ : Tk} {L : List Cd}
def prK : Nat → Prop := fun k => k = 31 ∨ k = 33 ∨ k = 34 ∨ k = 35 ∨ k = 36 ∨ k = 37
/-- what the parser leaves alone -/
def frP (ρ ρ' : RSt) : Prop := (∀ k, ¬ prK k → ρ'.1 k = ρ.1 k) ∧ (∀ k i, ¬ ((k = 15 ∨ k = 16) ∧ 4000 ≤ i) → ¬ (k = 17 ∧ i = 10) → ρ'.2.1 k i = ρ.2.1 k i) ∧ ρ'.2.2 = ρ.2.2
theorem frP.rf : frP ρ ρ := ⟨fun _ _ => rfl, fun _ _ _ _ => rfl, rfl⟩
theorem frP.tr {ρ'' : RSt} (h : frP ρ ρ') (g : frP ρ' ρ'') : frP ρ ρ'' := ⟨fun k hk => (g.1 k hk).trans (h.1 k hk), fun k i h1 h2 => (g.2.1 k i h1 h2).trans (h.2.1 k i h1 h2), g.2.2.trans h.2.2⟩
theorem frI.p (h : frI nxK ρ ρ') : frP ρ ρ' := ⟨fun k hk => h.1 k (fun g => hk (by unfold nxK at g; unfold prK; omega)), fun k i _ _ => by rw [h.2], by rw [h.2]⟩
theorem frP.I {k : Nat} {v : Int32} (hk : prK k) : frP ρ (rsI ρ k v) := ⟨fun q hq => rI_n (fun e => hq (by rw [e]; exact hk)), fun _ _ _ _ => rfl, rfl⟩
theorem frP.A {k i : Nat} {v : Int32} (hk : ((k = 15 ∨ k = 16) ∧ 4000 ≤ i) ∨ (k = 17 ∧ i = 10)) : frP ρ (rsA ρ k i v) := ⟨fun _ _ => rfl, fun k' i' h1 h2 => rA_n (fun e1 e2 => by subst e1; subst e2; exact hk.elim h1 h2), rfl⟩
theorem frP.rr {μ : MSt} (h : frP ρ ρ') (g : RR ρ μ) : RR ρ' μ :=
  ⟨fun k hk => (h.1 k (fun g => by unfold prK at g; unfold sc1 at hk; omega)).trans (g.1 k hk), fun k i hk => (h.2.1 k i (fun g => by unfold sc2 at hk; omega) (fun g => by unfold sc2 at hk; omega)).trans (g.2.1 k i hk), ⟨fun i => (h.2.1 1 i (by omega) (by omega)).trans (g.2.2.1.1 i), fun i => (h.2.1 13 i (by omega) (by omega)).trans (g.2.2.1.2.1 i), (h.1 19 (by unfold prK; omega)).trans g.2.2.1.2.2⟩, fun i hi => by rw [h.2.2]; exact g.2.2.2 i hi⟩
/-- the reference's reader, in the midst of a text -/
def RP (ρ0 : RSt) (b : Nat → Nat) (e nS nL n : Nat) (ρ : RSt) (ok : Bool) (τ : Tk) (L : List Cd) : Prop :=
  TpR ρ b e ∧ frP ρ0 ρ ∧ (ρ.1 9 = nI nS ∧ ρ.1 7 = nI nL ∧ nS ≤ 10 ∧ nL ≤ 8) ∧ (ok = true → τ.2.2.1 ≠ 16 → ρ.1 37 = -1 ∧ RT ρ τ ∧ ρ.1 36 = nI n ∧ ρ.2.1 17 10 = nI L.length ∧ ∀ i : Nat, i < L.length → ρ.2.1 15 (4000 + i) = nI (L.getD i (0, 0)).1 ∧ ρ.2.1 16 (4000 + i) = nI (L.getD i (0, 0)).2) ∧ (ok = false ∨ τ.2.2.1 = 16 → ρ.1 37 = nI τ.1)
theorem RP.tp {ok : Bool} (h : RP ρ0 b e nS nL n ρ ok τ L) : TpR ρ b e := h.1
theorem RP.dd {ok ok' : Bool} {L' : List Cd} {n' : Nat} (h : RP ρ0 b e nS nL n ρ ok τ L) (hd : ok = false ∨ τ.2.2.1 = 16) (hd' : ok' = false ∨ τ.2.2.1 = 16) : RP ρ0 b e nS nL n' ρ ok' τ L' := ⟨h.1, h.2.1, h.2.2.1, fun h1 h2 => by rcases hd' with g | g; exact absurd (g.symm.trans h1) (by decide); exact absurd g h2, fun _ => h.2.2.2.2 hd⟩
theorem RP.next {post : RSt → Prop} (h : RP ρ0 b e nS nL n ρ true τ L) (hk : τ.2.2.1 ≠ 16) (hw : WfT e τ) (hp : ∀ ρ', RP ρ0 b e nS nL n ρ' true (tok b e τ.2.1) L → post ρ') : wpR_next_0 post ρ := by
  obtain ⟨h1, h2, h3, h4, h5⟩ := h
  obtain ⟨g1, g2, g3, g4, g5⟩ := h4 rfl hk
  refine sR_next h1 g2.2.1 hw.2.1 g1 (fun ρ' k1 k2 => hp ρ' ⟨k2.tp h1, h2.tr k2.p, ⟨(k2.1 9 (by unfold nxK; omega)).trans h3.1, (k2.1 7 (by unfold nxK; omega)).trans h3.2.1, h3.2.2⟩, fun _ hk' => ⟨(k1.1 hk').1, (k1.1 hk').2, (k2.1 36 (by unfold nxK; omega)).trans g3, by rw [k2.2]; exact g4, fun i hi => by rw [k2.2]; exact g5 i hi⟩, fun hd => k1.2 (hd.resolve_left (by decide))⟩)
theorem RP.fail {post : RSt → Prop} {L' : List Cd} {n' : Nat} (h : RP ρ0 b e nS nL n ρ true τ L) (hk : τ.2.2.1 ≠ 16) (hp : ∀ ρ', RP ρ0 b e nS nL n' ρ' false τ L' → post ρ') : wpR_fail_0 post ρ (ρ.1 34) := by
  obtain ⟨h1, h2, h3, h4, h5⟩ := h
  obtain ⟨g1, g2, g3, g4, g5⟩ := h4 rfl hk
  rw [g2.1]
  exact sR_fail g1 (hp _ ⟨h1.I (by decide), h2.tr (frP.I (by unfold prK; omega)), ⟨by rw [rI_n (by decide)]; exact h3.1, by rw [rI_n (by decide)]; exact h3.2.1, h3.2.2⟩, fun e => absurd e (by decide), fun _ => rI_s⟩)
theorem RP.emit {post : RSt → Prop} {x : Cd} {v1 v2 : Int32} (h : RP ρ0 b e nS nL n ρ true τ L) (hk : τ.2.2.1 ≠ 16) (hl : L.length < 400) (hv1 : v1 = nI x.1) (hv2 : v2 = nI x.2) (hp : ∀ ρ', RP ρ0 b e nS nL n ρ' true τ (L ++ [x]) → post ρ') : wpR_emit_0 post ρ v1 v2 := by
  obtain ⟨h1, h2, h3, h4, h5⟩ := h
  obtain ⟨g1, g2, g3, g4, g5⟩ := h4 rfl hk
  have e10 : (10 : Int32).toNatClampNeg = 10 := rfl
  unfold wpR_emit_0
  rw [e10, g4, show (4000 : Int32) + nI L.length = nI (4000 + L.length) by rw [show (4000 : Int32) = nI 4000 from rfl, nI_add], nI_clamp (by omega)]
  refine ⟨vp_in_nI (n := 10) (by omega) (by omega), vp_in_nI (by omega) (by omega), ?_⟩
  intro s1 hs1
  refine ⟨vp_in_nI (by omega) (by omega), ?_⟩
  intro s2 hs2
  refine ⟨vp_in_nI (n := 10) (by omega) (by omega), vp_in_nI (n := 10) (by omega) (by omega), ?_⟩
  intro s3 hs3
  have a17 : s2.2.1 17 10 = nI L.length := by rw [hs2, rA_n (fun e => absurd e (by decide)), hs1, rA_n (fun e => absurd e (by decide))]; exact g4
  rw [a17, nI_1] at hs3
  have fr : frP ρ s3 := by
    rw [hs3, hs2, hs1]
    exact ((frP.A (by omega)).tr (frP.A (by omega))).tr (frP.A (by omega))
  have hI : ∀ k, s3.1 k = ρ.1 k := fun k => by rw [hs3, hs2, hs1]; rfl
  have tp : TpR s3 b e := by
    rw [hs3, hs2, hs1]
    exact ((h1.A (by decide)).A (by decide)).A (by decide)
  refine hp s3 ⟨tp, h2.tr fr, ⟨by rw [hI]; exact h3.1, by rw [hI]; exact h3.2.1, h3.2.2⟩, fun _ _ => ⟨by rw [hI]; exact g1, ?_, by rw [hI]; exact g3, by rw [hs3, rA_s, List.length_append]; rfl, fun i hi => ?_⟩, fun hd => absurd (hd.resolve_left (by decide)) hk⟩
  · unfold RT
    rw [hI, hI, hI, hI]
    exact g2
  · rw [List.length_append] at hi
    have hi' : i < L.length + 1 := hi
    have b15 : s3.2.1 15 (4000 + i) = if i = L.length then v1 else ρ.2.1 15 (4000 + i) := by
      rw [hs3, rA_n (fun e => absurd e (by decide)), hs2, rA_n (fun e => absurd e (by decide)), hs1]
      by_cases ei : i = L.length
      · rw [if_pos ei, ei, rA_s]
      · rw [if_neg ei, rA_n (fun _ => by omega)]
    have b16 : s3.2.1 16 (4000 + i) = if i = L.length then v2 else ρ.2.1 16 (4000 + i) := by
      rw [hs3, rA_n (fun e => absurd e (by decide)), hs2]
      by_cases ei : i = L.length
      · rw [if_pos ei, ei, rA_s]
      · rw [if_neg ei, rA_n (fun _ => by omega), hs1, rA_n (fun e => absurd e (by decide))]
    rw [b15, b16]
    by_cases ei : i = L.length
    · rw [if_pos ei, if_pos ei, ei, getD_ap2]; exact ⟨hv1, hv2⟩
    · rw [if_neg ei, if_neg ei, getD_ap1 (by omega)]; exact g5 i (by omega)
theorem vkd_inj : ∀ i : Nat, i < 9 → ∀ j : Nat, j < 9 → vkd i = vkd j → i = j := by decide
theorem vkd_le : ∀ i : Nat, i < 9 → vkd i ≤ 9 := by decide
theorem sgc_inj : ∀ i : Nat, i < 14 → 9 ≤ i → ∀ j : Nat, j < 14 → 9 ≤ j → sgc i = sgc j → i = j := by decide
theorem sgc_le : ∀ i : Nat, i < 14 → sgc i ≤ 62 := by decide
theorem sR_is {post : Int32 → RSt → Prop} {k0 : Nat} {v1 v2 : Int32} {ok : Bool} (h : RP ρ0 b e nS nL n ρ ok τ L) (hw : WfT e τ) (hk : (k0 < 9 ∧ v1 = 1 ∧ v2 = nI (vkd k0)) ∨ (9 ≤ k0 ∧ k0 < 14 ∧ v1 = 3 ∧ v2 = nI (sgc k0))) (hle : e ≤ 400) (hy : ok = true → τ.2.2.1 = k0 → post 1 ρ) (hn : ¬ (ok = true ∧ τ.2.2.1 = k0) → post 0 ρ) : wpR_is_0 post ρ v1 v2 := by
  obtain ⟨h1, h2, h3, h4, h5⟩ := h
  have hk16 := hw.2.2.1
  by_cases hd : ok = false ∨ τ.2.2.1 = 16
  · have g := h5 hd
    refine ⟨fun _ => hn (fun q => ?_), fun e1 => absurd ?_ e1⟩
    · rcases hd with hd | hd
      · exact absurd (hd.symm.trans q.1) (by decide)
      · omega
    · rw [g, show (0 : Int32) = nI 0 from rfl, nI_leI (by omega) (by have := hw.1; have := hw.2.1; omega)]; omega
  · have hok : ok = true := by
      cases ok with
      | true => rfl
      | false => exact absurd (Or.inl rfl) hd
    have hne : τ.2.2.1 ≠ 16 := fun g => hd (Or.inr g)
    obtain ⟨g1, ⟨t1, t2, t3, t4, t5, t6⟩, -⟩ := h4 hok hne
    refine ⟨fun e1 => absurd (show (0 : Int32) ≤ -1 by rw [g1] at e1; exact e1) (by decide), fun _ => ?_⟩
    rcases (show τ.2.2.1 < 9 ∨ (9 ≤ τ.2.2.1 ∧ τ.2.2.1 ≤ 13) ∨ τ.2.2.1 = 14 ∨ τ.2.2.1 = 15 by omega) with c | c | c | c
    · obtain ⟨u1, u2⟩ := t4 c
      have b1 := vkd_le _ c
      rcases hk with ⟨k1, rfl, rfl⟩ | ⟨k1, k2, rfl, rfl⟩
      · have b2 := vkd_le _ k1
        rw [u1, u2, nI_eq (by omega) (by omega)]
        refine ⟨fun e1 => absurd rfl e1, fun _ => ⟨fun e2 => hn (fun q => e2 (by rw [q.2])), fun e2 => hy hok (vkd_inj _ c _ k1 e2)⟩⟩
      · rw [u1]
        exact ⟨fun _ => hn (fun q => by omega), fun e1 => absurd e1 (by decide)⟩
    · obtain ⟨u1, u2⟩ := t6 c.1 c.2
      have b1 := sgc_le τ.2.2.1 (by omega)
      rcases hk with ⟨k1, rfl, rfl⟩ | ⟨k1, k2, rfl, rfl⟩
      · rw [u1]
        exact ⟨fun _ => hn (fun q => by omega), fun e1 => absurd e1 (by decide)⟩
      · have b2 := sgc_le k0 k2
        rw [u1, u2, nI_eq (by omega) (by omega)]
        refine ⟨fun e1 => absurd rfl e1, fun _ => ⟨fun e2 => hn (fun q => e2 (by rw [q.2])), fun e2 => hy hok (sgc_inj _ (by omega) c.1 _ k2 k1 e2)⟩⟩
    · obtain ⟨u1, u2⟩ := t5 c
      rw [u1]
      refine ⟨fun _ => hn (fun q => by omega), fun e1 => ?_⟩
      rcases hk with ⟨k1, rfl, rfl⟩ | ⟨k1, k2, rfl, rfl⟩
      · exact absurd e1 (by decide)
      · exact absurd e1 (by decide)
    · have u1 := t3 c
      rw [u1]
      refine ⟨fun _ => hn (fun q => by omega), fun e1 => ?_⟩
      rcases hk with ⟨k1, rfl, rfl⟩ | ⟨k1, k2, rfl, rfl⟩
      · exact absurd e1 (by decide)
      · exact absurd e1 (by decide)
/-- a reader of the reference follows the model's -/
def SimR (ρ0 : RSt) (b : Nat → Nat) (e nS nL n : Nat) (P : Tk → Rs) (W : (RSt → Prop) → RSt → Prop) : Prop :=
  ∀ (post : RSt → Prop) (ρ : RSt) (τ : Tk) (L : List Cd), RP ρ0 b e nS nL n ρ true τ L → WfT e τ → L.length ≤ τ.1 → (∀ ρ', RP ρ0 b e nS nL n ρ' (P τ).1 (P τ).2.1 (L ++ (P τ).2.2) → post ρ') → W post ρ
theorem sR_both {m : Nat} {P : Tk → Rs} {WP : (RSt → Prop) → RSt → Prop} (hP : GdP e nS nL m P) (hS : SimR ρ0 b e nS nL n P WP) : SimR ρ0 b e nS nL n (fun τ => pLp b e P 7 15 400 (P τ)) (wpR_both_0 WP) := by
  intro post ρ τ L h hw hl hp
  have hen := h.1.2.1
  obtain ⟨p1, p2, p3⟩ := hP τ hw
  refine hS _ ρ τ L h hw hl (fun ρ1 h1 => ?_)
  have hfin : ∀ (s : RSt) (r : Rs), RP ρ0 b e nS nL n s r.1 r.2.1 (L ++ r.2.2) → r = pLp b e P 7 15 400 (P τ) → post s := by
    rintro s r hr rfl
    exact hp s hr
  refine gLP.up 400 (fun k (s : RSt) => k ≤ 400 ∧ ∃ r : Rs, RP ρ0 b e nS nL n s r.1 r.2.1 (L ++ r.2.2) ∧ WfT e r.2.1 ∧ (r.1 = true → (L ++ r.2.2).length ≤ r.2.1.1) ∧ k ≤ r.2.1.1 ∧ pLp b e P 7 15 (400 - k) r = pLp b e P 7 15 400 (P τ)) (fun k x h => h.1) ?_ (j := 0) ⟨Nat.zero_le _, P τ, h1, p1, fun hok => ?_, Nat.zero_le _, rfl⟩
  rotate_left
  · have := (p3 hok).1
    rw [List.length_append]
    omega
  rintro k s K ⟨hk, r, hC, hwr, hlr, hkr, hrun⟩ hK
  refine sR_is (k0 := 7) hC hwr (Or.inl ⟨by decide, rfl, rfl⟩) hen (fun hok hsep => ⟨fun e1 => absurd e1 (by decide), fun _ => ?_⟩) (fun hno => ⟨fun _ => hfin s r hC (by rw [← hrun, pLp_stop hno]), fun e1 => absurd rfl e1⟩)
  rw [hok] at hC
  obtain ⟨g1, g2⟩ := hwr.nx (b := b)
  have hl1 := hlr hok
  have hst := hwr.2.2.2.1 (by omega)
  have hwe := hwr.2.1
  obtain ⟨q1, q2, q3⟩ := hP _ g1
  refine hC.next (by omega) hwr (fun ρ2 h2 => hS _ ρ2 _ _ h2 g1 (by omega) (fun ρ3 h3 => ?_))
  have hgo : ∀ s', RP ρ0 b e nS nL n s' (P (tok b e r.2.1.2.1)).1 (P (tok b e r.2.1.2.1)).2.1 (L ++ (r.2.2 ++ (P (tok b e r.2.1.2.1)).2.2 ++ [(15, 0)])) → K s' := by
    intro s' hs'
    refine hK _ ⟨by omega, ((P (tok b e r.2.1.2.1)).1, (P (tok b e r.2.1.2.1)).2.1, r.2.2 ++ (P (tok b e r.2.1.2.1)).2.2 ++ [(15, 0)]), hs', q1, fun ho => ?_, by dsimp only; omega, ?_⟩
    · have := (q3 ho).1
      simp only [List.length_append, List.length_cons, List.length_nil] at hl1 ⊢
      omega
    · rw [← hrun]
      obtain ⟨m', hm'⟩ : ∃ m', 400 - k = m' + 1 := ⟨400 - k - 1, by omega⟩
      rw [hm', show 400 - (k + 1) = m' by omega]
      exact (if_pos ⟨hok, hsep⟩ : pLp b e P 7 15 (m' + 1) r = _).symm
  by_cases hd : (P (tok b e r.2.1.2.1)).1 = false ∨ (P (tok b e r.2.1.2.1)).2.1.2.2.1 = 16
  · refine ⟨fun _ => hgo ρ3 (h3.dd hd hd), fun e1 => absurd ?_ e1⟩
    rw [h3.2.2.2.2 hd, show (0 : Int32) = nI 0 from rfl, nI_leI (by omega) (by have := q1.1; have := q1.2.1; omega)]; omega
  · have ho : (P (tok b e r.2.1.2.1)).1 = true := by
      cases hx : (P (tok b e r.2.1.2.1)).1 with
      | true => rfl
      | false => exact absurd (Or.inl hx) hd
    have hne : (P (tok b e r.2.1.2.1)).2.1.2.2.1 ≠ 16 := fun g => hd (Or.inr g)
    have h3' := h3
    rw [ho] at h3' hgo
    refine ⟨fun e1 => absurd (show (0 : Int32) ≤ -1 by rw [(h3'.2.2.2.1 rfl hne).1] at e1; exact e1) (by decide), fun _ => ?_⟩
    have hl3 := (q3 ho).1
    have hl4 := q1.1
    have hl5 := q1.2.1
    have ea : L ++ (r.2.2 ++ (P (tok b e r.2.1.2.1)).2.2 ++ [(15, 0)]) = (L ++ r.2.2 ++ (P (tok b e r.2.1.2.1)).2.2) ++ [(15, 0)] := by simp only [List.append_assoc]
    refine h3'.emit (x := (15, 0)) hne (by simp only [List.length_append] at hl1 ⊢; omega) rfl rfl (fun s' hs' => hgo s' ?_)
    rw [ea]
    exact hs'
theorem sR_either {m : Nat} {P : Tk → Rs} {WP : (RSt → Prop) → RSt → Prop} (hP : GdP e nS nL m P) (hS : SimR ρ0 b e nS nL n P WP) : SimR ρ0 b e nS nL n (fun τ => pLp b e P 8 16 400 (P τ)) (wpR_either_0 WP) := by
  intro post ρ τ L h hw hl hp
  have hen := h.1.2.1
  obtain ⟨p1, p2, p3⟩ := hP τ hw
  refine hS _ ρ τ L h hw hl (fun ρ1 h1 => ?_)
  have hfin : ∀ (s : RSt) (r : Rs), RP ρ0 b e nS nL n s r.1 r.2.1 (L ++ r.2.2) → r = pLp b e P 8 16 400 (P τ) → post s := by
    rintro s r hr rfl
    exact hp s hr
  refine gLP.up 400 (fun k (s : RSt) => k ≤ 400 ∧ ∃ r : Rs, RP ρ0 b e nS nL n s r.1 r.2.1 (L ++ r.2.2) ∧ WfT e r.2.1 ∧ (r.1 = true → (L ++ r.2.2).length ≤ r.2.1.1) ∧ k ≤ r.2.1.1 ∧ pLp b e P 8 16 (400 - k) r = pLp b e P 8 16 400 (P τ)) (fun k x h => h.1) ?_ (j := 0) ⟨Nat.zero_le _, P τ, h1, p1, fun hok => ?_, Nat.zero_le _, rfl⟩
  rotate_left
  · have := (p3 hok).1
    rw [List.length_append]
    omega
  rintro k s K ⟨hk, r, hC, hwr, hlr, hkr, hrun⟩ hK
  refine sR_is (k0 := 8) hC hwr (Or.inl ⟨by decide, rfl, rfl⟩) hen (fun hok hsep => ⟨fun e1 => absurd e1 (by decide), fun _ => ?_⟩) (fun hno => ⟨fun _ => hfin s r hC (by rw [← hrun, pLp_stop hno]), fun e1 => absurd rfl e1⟩)
  rw [hok] at hC
  obtain ⟨g1, g2⟩ := hwr.nx (b := b)
  have hl1 := hlr hok
  have hst := hwr.2.2.2.1 (by omega)
  have hwe := hwr.2.1
  obtain ⟨q1, q2, q3⟩ := hP _ g1
  refine hC.next (by omega) hwr (fun ρ2 h2 => hS _ ρ2 _ _ h2 g1 (by omega) (fun ρ3 h3 => ?_))
  have hgo : ∀ s', RP ρ0 b e nS nL n s' (P (tok b e r.2.1.2.1)).1 (P (tok b e r.2.1.2.1)).2.1 (L ++ (r.2.2 ++ (P (tok b e r.2.1.2.1)).2.2 ++ [(16, 0)])) → K s' := by
    intro s' hs'
    refine hK _ ⟨by omega, ((P (tok b e r.2.1.2.1)).1, (P (tok b e r.2.1.2.1)).2.1, r.2.2 ++ (P (tok b e r.2.1.2.1)).2.2 ++ [(16, 0)]), hs', q1, fun ho => ?_, by dsimp only; omega, ?_⟩
    · have := (q3 ho).1
      simp only [List.length_append, List.length_cons, List.length_nil] at hl1 ⊢
      omega
    · rw [← hrun]
      obtain ⟨m', hm'⟩ : ∃ m', 400 - k = m' + 1 := ⟨400 - k - 1, by omega⟩
      rw [hm', show 400 - (k + 1) = m' by omega]
      exact (if_pos ⟨hok, hsep⟩ : pLp b e P 8 16 (m' + 1) r = _).symm
  by_cases hd : (P (tok b e r.2.1.2.1)).1 = false ∨ (P (tok b e r.2.1.2.1)).2.1.2.2.1 = 16
  · refine ⟨fun _ => hgo ρ3 (h3.dd hd hd), fun e1 => absurd ?_ e1⟩
    rw [h3.2.2.2.2 hd, show (0 : Int32) = nI 0 from rfl, nI_leI (by omega) (by have := q1.1; have := q1.2.1; omega)]; omega
  · have ho : (P (tok b e r.2.1.2.1)).1 = true := by
      cases hx : (P (tok b e r.2.1.2.1)).1 with
      | true => rfl
      | false => exact absurd (Or.inl hx) hd
    have hne : (P (tok b e r.2.1.2.1)).2.1.2.2.1 ≠ 16 := fun g => hd (Or.inr g)
    have h3' := h3
    rw [ho] at h3' hgo
    refine ⟨fun e1 => absurd (show (0 : Int32) ≤ -1 by rw [(h3'.2.2.2.1 rfl hne).1] at e1; exact e1) (by decide), fun _ => ?_⟩
    have hl3 := (q3 ho).1
    have hl4 := q1.1
    have hl5 := q1.2.1
    have ea : L ++ (r.2.2 ++ (P (tok b e r.2.1.2.1)).2.2 ++ [(16, 0)]) = (L ++ r.2.2 ++ (P (tok b e r.2.1.2.1)).2.2) ++ [(16, 0)] := by simp only [List.append_assoc]
    refine h3'.emit (x := (16, 0)) hne (by simp only [List.length_append] at hl1 ⊢; omega) rfl rfl (fun s' hs' => hgo s' ?_)
    rw [ea]
    exact hs'
theorem sR_eith {m : Nat} {P : Tk → Rs} {WP : (RSt → Prop) → RSt → Prop} (hm : 1 ≤ m) (hP : GdP e nS nL m P) (hS : SimR ρ0 b e nS nL n P WP) : SimR ρ0 b e nS nL n (pEith b e P) (wpR_either_0 (wpR_both_0 WP)) :=
  sR_either (m := m + 1) (pBoth_gd (b := b) hm hP) (sR_both hP hS)
end RP1
end
