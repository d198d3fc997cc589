section
/-! rules' texts: the reference's parser, whole -/
section RP2
variable {ρ0 ρ ρ' : RSt} {b : Nat → Nat} {e nS nL n : Nat} {τ : Tk} {L : List Cd}
theorem RP.op {n' : Nat} {v : Int32} (h : RP ρ0 b e nS nL n ρ true τ L) (hk : τ.2.2.1 ≠ 16) (hv : v = nI n') : RP ρ0 b e nS nL n' (rsI ρ 36 v) true τ L := by
  obtain ⟨h1, h2, h3, h4, h5⟩ := h
  obtain ⟨g1, g2, g3, g4, g5⟩ := h4 rfl hk
  refine ⟨h1.I (by decide), h2.tr (frP.I (by unfold prK; omega)), ⟨by rw [rI_n (by decide)]; exact h3.1, by rw [rI_n (by decide)]; exact h3.2.1, h3.2.2⟩, fun _ _ => ⟨by rw [rI_n (by decide)]; exact g1, ?_, by rw [rI_s]; exact hv, g4, g5⟩, fun hd => absurd (hd.resolve_left (by decide)) hk⟩
  unfold RT
  rw [rI_n (by decide), rI_n (by decide), rI_n (by decide), rI_n (by decide)]
  exact g2
theorem RP.lv (h : RP ρ0 b e nS nL n ρ true τ L) (hk : τ.2.2.1 ≠ 16) : ρ.1 37 = -1 ∧ ρ.1 37 < 0 ∧ ¬ 0 ≤ ρ.1 37 ∧ RT ρ τ ∧ ρ.1 36 = nI n := by
  obtain ⟨g1, g2, g3, -⟩ := h.2.2.2.1 rfl hk
  exact ⟨g1, by rw [g1]; decide, by rw [g1]; decide, g2, g3⟩
theorem RP.de {ok : Bool} (h : RP ρ0 b e nS nL n ρ ok τ L) (hd : ok = false ∨ τ.2.2.1 = 16) (hw : WfT e τ) : ¬ ρ.1 37 < 0 ∧ 0 ≤ ρ.1 37 := by
  have hen := h.1.2.1
  have := hw.1
  have := hw.2.1
  rw [h.2.2.2.2 hd]
  refine ⟨nI_nn (by omega), ?_⟩
  rw [show (0 : Int32) = nI 0 from rfl, nI_leI (by omega) (by omega)]
  omega
theorem sR_183 {post : RSt → Prop} {c num : Nat} {v : Int32} (h : RP ρ0 b e nS nL n ρ true τ L) (hw : WfT e τ) (hk : τ.2.2.1 = 14) (hl : L.length < 400) (hv : v = nI c) (hp : ∀ ρ', RP ρ0 b e nS nL n ρ' true (tok b e τ.2.1) (L ++ [(c, τ.2.2.2)]) → post ρ') : wpR_test_183 post ρ v := by
  obtain ⟨-, -, -, g, -⟩ := h.lv (by omega)
  exact h.emit (x := (c, τ.2.2.2)) (by omega) hl hv (g.2.2.2.2.1 hk).2 (fun ρ1 h1 => h1.next (by omega) hw hp)
theorem sR_tcmp {post : RSt → Prop} (h : RP ρ0 b e nS nL n ρ true τ L) (hw : WfT e τ) (hk : τ.2.2.1 ≤ 3) (hl : L.length ≤ τ.1) (hp : ∀ ρ', RP ρ0 b e nS nL n ρ' (pCmp b e τ τ.2.2.1).1 (pCmp b e τ τ.2.2.1).2.1 (L ++ (pCmp b e τ τ.2.2.1).2.2) → post ρ') : wpR_test_0 post ρ (nI (τ.2.2.1 + 4)) := by
  obtain ⟨g1, g2⟩ := hw.nx (b := b)
  obtain ⟨k1, k2⟩ := g1.nx (b := b)
  have hen := h.1.2.1
  have hk16 := g1.2.2.1
  have hk162 := k1.2.2.1
  have y0 := hw.2.2.2.1 (by omega)
  have e3 : (3 : Int32) * (nI (τ.2.2.1 + 4) - 4) = nI (3 * τ.2.2.1) := by rw [show (4 : Int32) = nI 4 from rfl, nI_sub (by omega), show τ.2.2.1 + 4 - 4 = τ.2.2.1 by omega, show (3 : Int32) = nI 3 from rfl, nI_mul]
  unfold pCmp at hp
  unfold wpR_test_0
  rw [e3, show (8 : Int32) = nI 8 from rfl, show (9 : Int32) = nI 9 from rfl, nI_eq (by omega) (by omega), nI_eq (by omega) (by omega)]
  refine ⟨fun _ => ⟨fun _ => ?_, fun e1 => absurd e1 (by omega)⟩, fun e1 => absurd e1 (by omega)⟩
  refine h.next (by omega) hw (fun ρ1 h1 => ?_)
  by_cases hd : (tok b e τ.2.1).2.2.1 = 16
  · rw [if_neg (by omega)] at hp
    have hde := h1.de (Or.inr hd) g1
    exact ⟨fun e1 => absurd e1 hde.1, fun _ => hp ρ1 (h1.dd (Or.inr hd) (Or.inl rfl))⟩
  obtain ⟨-, l2, l3, ⟨t1, t2, t3, t4, t5, t6⟩, -⟩ := h1.lv hd
  refine ⟨fun _ => ⟨fun e1 => ?_, fun _ => ?_⟩, fun e1 => absurd l2 e1⟩
  · rw [show (8 : Int32) = nI 8 from rfl, nI_leI (by omega) (by omega)] at e1; omega
  have h81 : ¬ ((tok b e τ.2.1).2.2.1 = 9 ∨ (tok b e τ.2.1).2.2.1 = 10 ∨ (tok b e τ.2.1).2.2.1 = 11) → wpR_test_81 post ρ1 := by
    intro hno
    rw [if_neg hno] at hp
    exact h1.fail (L' := []) (n' := n) hd (fun ρ2 h2 => hp ρ2 (h2.dd (Or.inl rfl) (Or.inl rfl)))
  have h118 : ∀ w1 : Int32, 9 ≤ (tok b e τ.2.1).2.2.1 → (tok b e τ.2.1).2.2.1 ≤ 11 → w1 = nI ((tok b e τ.2.1).2.2.1 - 9) → wpR_test_118 post ρ1 (nI (3 * τ.2.2.1)) w1 := by
    intro w1 c9 c11 hw1
    rw [if_pos (by omega)] at hp
    have y1 := g1.2.2.2.1 (by omega)
    refine h1.next hd g1 (fun ρ2 h2 => ?_)
    by_cases hd2 : (tok b e (tok b e τ.2.1).2.1).2.2.1 = 16
    · rw [if_neg (by omega)] at hp
      have hde := h2.de (Or.inr hd2) k1
      exact ⟨fun e1 => absurd e1 hde.1, fun _ => hp ρ2 (h2.dd (Or.inr hd2) (Or.inl rfl))⟩
    obtain ⟨-, m2, m3, ⟨u1, u2, u3, u4, u5, u6⟩, -⟩ := h2.lv hd2
    refine ⟨fun _ => ?_, fun e1 => absurd m2 e1⟩
    rw [hw1, nI_add]
    have hfail : ¬ (tok b e (tok b e τ.2.1).2.1).2.2.1 = 14 → wpR_test_174 post ρ2 := by
      intro hno
      rw [if_neg hno] at hp
      exact h2.fail (L' := []) (n' := n) hd2 (fun ρ3 h3 => hp ρ3 (h3.dd (Or.inl rfl) (Or.inl rfl)))
    refine ⟨fun e1 => hfail (fun c => e1 (u5 c).1), fun e1 => ?_⟩
    have hc14 : (tok b e (tok b e τ.2.1).2.1).2.2.1 = 14 := by
      rcases (show (tok b e (tok b e τ.2.1).2.1).2.2.1 < 9 ∨ (9 ≤ (tok b e (tok b e τ.2.1).2.1).2.2.1 ∧ (tok b e (tok b e τ.2.1).2.1).2.2.1 ≤ 13) ∨ (tok b e (tok b e τ.2.1).2.1).2.2.1 = 14 ∨ (tok b e (tok b e τ.2.1).2.1).2.2.1 = 15 by omega) with c | c | c | c
      · rw [(u4 c).1] at e1; exact absurd e1 (by decide)
      · rw [(u6 c.1 c.2).1] at e1; exact absurd e1 (by decide)
      · exact c
      · rw [u3 c] at e1; exact absurd e1 (by decide)
    rw [if_pos hc14] at hp
    rw [show (12 : Int32) = nI 12 from rfl, nI_eq (by omega) (by omega)]
    refine ⟨fun _ => ⟨fun _ => ?_, fun e2 => ?_⟩, fun e2 => absurd e2 (by omega)⟩
    · have z1 := k1.1
      have z2 := k1.2.1
      exact sR_183 (num := 0) (c := 3 * τ.2.2.1 + ((tok b e τ.2.1).2.2.1 - 9)) h2 k1 hc14 (by omega) rfl (fun ρ3 h3 => hp ρ3 h3)
    · rw [show (13 : Int32) = nI 13 from rfl, nI_eq (by omega) (by omega)] at e2; omega
  have h90 : 9 ≤ (tok b e τ.2.1).2.2.1 → (tok b e τ.2.1).2.2.1 ≤ 11 → wpR_test_90 post ρ1 (nI (3 * τ.2.2.1)) := by
    intro c9 c11
    have u2 := (t6 c9 (by omega)).2
    unfold wpR_test_90
    rw [u2]
    rcases (show (tok b e τ.2.1).2.2.1 = 9 ∨ (tok b e τ.2.1).2.2.1 = 10 ∨ (tok b e τ.2.1).2.2.1 = 11 by omega) with c | c | c
    · rw [c]
      exact ⟨fun e1 => absurd (by decide) e1, fun _ => h118 0 c9 c11 (by rw [c]; rfl)⟩
    · rw [c]
      exact ⟨fun _ => ⟨fun e1 => absurd (by decide) e1, fun _ => h118 1 c9 c11 (by rw [c]; rfl)⟩, fun e1 => absurd e1 (by decide)⟩
    · rw [c]
      exact ⟨fun _ => ⟨fun _ => h118 2 c9 c11 (by rw [c]; rfl), fun e1 => absurd e1 (by decide)⟩, fun e1 => absurd e1 (by decide)⟩
  rcases (show (tok b e τ.2.1).2.2.1 < 9 ∨ (9 ≤ (tok b e τ.2.1).2.2.1 ∧ (tok b e τ.2.1).2.2.1 ≤ 13) ∨ (tok b e τ.2.1).2.2.1 = 14 ∨ (tok b e τ.2.1).2.2.1 = 15 by omega) with c | c | c | c
  · rw [(t4 c).1]
    exact ⟨fun _ => h81 (by omega), fun e1 => absurd e1 (by decide)⟩
  · rw [(t6 c.1 c.2).1, (t6 c.1 c.2).2]
    refine ⟨fun e1 => absurd rfl e1, fun _ => ?_⟩
    rcases (show (tok b e τ.2.1).2.2.1 = 9 ∨ (tok b e τ.2.1).2.2.1 = 10 ∨ (tok b e τ.2.1).2.2.1 = 11 ∨ (tok b e τ.2.1).2.2.1 = 12 ∨ (tok b e τ.2.1).2.2.1 = 13 by omega) with d | d | d | d | d
    · rw [d]; exact ⟨fun _ => h90 (by omega) (by omega), fun e1 => absurd (by decide) e1⟩
    · rw [d]; exact ⟨fun e1 => absurd e1 (by decide), fun _ => ⟨fun _ => h90 (by omega) (by omega), fun e1 => absurd (by decide) e1⟩⟩
    · rw [d]; exact ⟨fun e1 => absurd e1 (by decide), fun _ => ⟨fun e1 => absurd e1 (by decide), fun _ => ⟨fun _ => h90 (by omega) (by omega), fun e1 => absurd (by decide) e1⟩⟩⟩
    · rw [d]; exact ⟨fun e1 => absurd e1 (by decide), fun _ => ⟨fun e1 => absurd e1 (by decide), fun _ => ⟨fun e1 => absurd e1 (by decide), fun _ => h81 (by omega)⟩⟩⟩
    · rw [d]; exact ⟨fun e1 => absurd e1 (by decide), fun _ => ⟨fun e1 => absurd e1 (by decide), fun _ => ⟨fun e1 => absurd e1 (by decide), fun _ => h81 (by omega)⟩⟩⟩
  · rw [(t5 c).1]
    exact ⟨fun _ => h81 (by omega), fun e1 => absurd e1 (by decide)⟩
  · rw [t3 c]
    exact ⟨fun _ => h81 (by omega), fun e1 => absurd e1 (by decide)⟩
theorem sR_tnam {post : RSt → Prop} (h : RP ρ0 b e nS nL n ρ true τ L) (hw : WfT e τ) (hk : τ.2.2.1 = 4 ∨ τ.2.2.1 = 5) (hl : L.length ≤ τ.1) (hp : ∀ ρ', RP ρ0 b e nS nL n ρ' (pNam b e nS nL τ τ.2.2.1).1 (pNam b e nS nL τ τ.2.2.1).2.1 (L ++ (pNam b e nS nL τ τ.2.2.1).2.2) → post ρ') : wpR_test_0 post ρ (nI (τ.2.2.1 + 4)) := by
  obtain ⟨g1, g2⟩ := hw.nx (b := b)
  have hen := h.1.2.1
  have hk16 := g1.2.2.1
  have y0 := hw.2.2.2.1 (by omega)
  unfold pNam at hp
  have h27 : ∀ w0 : Int32, w0 = nI (if τ.2.2.1 = 4 then 12 else 13) → wpR_test_27 post ρ (nI (τ.2.2.1 + 4)) w0 := by
    intro w0 hw0
    refine h.next (by omega) hw (fun ρ1 h1 => ?_)
    have h1c := h1.2.2.1
    obtain ⟨hS, hL, hS10, hL8⟩ := h1c
    by_cases hd : (tok b e τ.2.1).2.2.1 = 16
    · rw [if_neg (by omega)] at hp
      have hde := h1.de (Or.inr hd) g1
      exact ⟨fun e1 => absurd e1 hde.1, fun _ => hp ρ1 (h1.dd (Or.inr hd) (Or.inl rfl))⟩
    obtain ⟨-, l2, l3, ⟨t1, t2, t3, t4, t5, t6⟩, -⟩ := h1.lv hd
    refine ⟨fun _ => ⟨fun _ => ?_, fun e1 => ?_⟩, fun e1 => absurd l2 e1⟩
    rotate_left
    · rw [show (8 : Int32) = nI 8 from rfl, nI_leI (by omega) (by omega)] at e1; omega
    have hfail : ¬ ((tok b e τ.2.1).2.2.1 = 14 ∧ (tok b e τ.2.1).2.2.2 < (if τ.2.2.1 = 4 then nS else nL)) → wpR_test_174 post ρ1 := by
      intro hno
      rw [if_neg hno] at hp
      exact h1.fail (L' := []) (n' := n) hd (fun ρ3 h3 => hp ρ3 (h3.dd (Or.inl rfl) (Or.inl rfl)))
    refine ⟨fun e1 => hfail (fun c => e1 (t5 c.1).1), fun e1 => ?_⟩
    have hc14 : (tok b e τ.2.1).2.2.1 = 14 := by
      rcases (show (tok b e τ.2.1).2.2.1 < 9 ∨ (9 ≤ (tok b e τ.2.1).2.2.1 ∧ (tok b e τ.2.1).2.2.1 ≤ 13) ∨ (tok b e τ.2.1).2.2.1 = 14 ∨ (tok b e τ.2.1).2.2.1 = 15 by omega) with c | c | c | c
      · rw [(t4 c).1] at e1; exact absurd e1 (by decide)
      · rw [(t6 c.1 c.2).1] at e1; exact absurd e1 (by decide)
      · exact c
      · rw [t3 c] at e1; exact absurd e1 (by decide)
    have hnum := g1.2.2.2.2.2 hc14
    have z1 := g1.1
    have z2 := g1.2.1
    have e35 := (t5 hc14).2
    have h183 : (tok b e τ.2.1).2.2.2 < (if τ.2.2.1 = 4 then nS else nL) → wpR_test_183 post ρ1 w0 := by
      intro hlt
      rw [if_pos ⟨hc14, hlt⟩] at hp
      exact sR_183 (num := 0) (c := if τ.2.2.1 = 4 then 12 else 13) h1 g1 hc14 (by omega) hw0 (fun ρ3 h3 => hp ρ3 h3)
    rcases hk with hk | hk
    · rw [if_pos hk] at hw0 hfail h183
      refine ⟨fun e2 => absurd (by rw [hw0]; rfl) e2, fun _ => ?_⟩
      unfold wpR_noSlope_0
      rw [e35]
      refine sR_inN hS (by omega) (fun i hi ei => ⟨fun _ => ⟨fun e3 => absurd rfl e3, fun _ => ⟨fun _ => h183 ?_, fun e4 => ?_⟩⟩, fun e3 => absurd e3 (by decide)⟩) (fun hx => ⟨fun e3 => absurd rfl e3, fun _ => ⟨fun _ => hfail (fun c => ?_), fun e3 => absurd e3 (by decide)⟩⟩)
      · rw [nI_eq (by omega) (by omega)] at ei; omega
      · rw [hw0] at e4; exact absurd e4 (by decide)
      · have := hx (nI_nn (by omega))
        rw [nI_ltI (by omega) (by omega)] at this
        exact this c.2
    · rw [if_neg (by omega)] at hw0 hfail h183
      refine ⟨fun _ => ⟨fun e2 => absurd (by rw [hw0]; rfl) e2, fun _ => ?_⟩, fun e2 => absurd (hw0.symm.trans e2) (by decide)⟩
      unfold wpR_noLift_0
      rw [e35]
      refine sR_inN hL (by omega) (fun i hi ei => ⟨fun _ => ⟨fun _ => h183 ?_, fun e3 => absurd rfl e3⟩, fun e3 => absurd e3 (by decide)⟩) (fun hx => ⟨fun e3 => absurd rfl e3, fun _ => ⟨fun e3 => absurd e3 (by decide), fun _ => hfail (fun c => ?_)⟩⟩)
      · rw [nI_eq (by omega) (by omega)] at ei; omega
      · have := hx (nI_nn (by omega))
        rw [nI_ltI (by omega) (by omega)] at this
        exact this c.2
  unfold wpR_test_0
  rcases hk with hk | hk
  · rw [if_pos hk] at h27
    rw [hk] at h27 ⊢
    exact ⟨fun e1 => absurd (by decide) e1, fun _ => h27 12 rfl⟩
  · rw [if_neg (by omega)] at h27
    rw [hk] at h27 ⊢
    exact ⟨fun _ => ⟨fun e1 => absurd (by decide) e1, fun _ => h27 13 rfl⟩, fun e1 => absurd e1 (by decide)⟩
end RP2
end
