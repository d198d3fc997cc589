section
/-! rules' texts: the reference's parser, its parts and levels -/
section RP3
variable {ρ0 ρ ρ' : RSt} {b : Nat → Nat} {e nS nL n : Nat} {τ : Tk} {L : List Cd}
theorem sR_nest {m : Nat} {Q : Tk → Rs} {WE WP : (RSt → Prop) → RSt → Prop} {post : RSt → Prop} (hm : 1 ≤ m) (hn : n < 20) (hQ : GdP e nS nL m Q) (hE : SimR ρ0 b e nS nL (n + 1) (pEith b e Q) WE) (hP : SimR ρ0 b e nS nL (n + 1) Q WP) (h : RP ρ0 b e nS nL n ρ true τ L) (hw : WfT e τ) (hl : L.length ≤ τ.1) (hk : τ.2.2.1 = 6 ∨ τ.2.2.1 = 12) (hp : ∀ ρ', RP ρ0 b e nS nL n ρ' (pNest b e Q τ).1 (pNest b e Q τ).2.1 (L ++ (pNest b e Q τ).2.2) → post ρ') : wpR_part_27 WE WP post ρ := by
  obtain ⟨g1, g2⟩ := hw.nx (b := b)
  have hen := h.1.2.1
  have y0 := hw.2.2.2.1 (by omega)
  obtain ⟨-, -, -, ⟨t1, t2, t3, t4, t5, t6⟩, e36⟩ := h.lv (by omega)
  unfold pNest at hp
  have h58 : ∀ w0 : Int32, ((τ.2.2.1 = 6 ∧ w0 = 1) ∨ (τ.2.2.1 = 12 ∧ w0 = 0)) → wpR_part_58 WE WP post ρ w0 := by
    intro w0 hw0
    intro s10 hs10
    have h10 : RP ρ0 b e nS nL (n + 1) s10 true τ L := by rw [hs10]; exact h.op (by omega) (by rw [e36, nI_1])
    clear hs10
    refine h10.next (by omega) hw (fun ρ1 h1 => ?_)
    rcases hw0 with ⟨k6, rfl⟩ | ⟨k12, rfl⟩
    · rw [if_pos k6] at hp
      obtain ⟨p1, p2, p3⟩ := hQ _ g1
      refine ⟨fun e1 => absurd e1 (by decide), fun _ => hP _ ρ1 _ L h1 g1 (by omega) (fun ρ2 h2 => ?_)⟩
      by_cases hd : (Q (tok b e τ.2.1)).1 = false ∨ (Q (tok b e τ.2.1)).2.1.2.2.1 = 16
      · have hde := h2.de hd p1
        exact ⟨fun e1 => absurd e1 hde.1, fun _ => hp ρ2 (h2.dd hd hd)⟩
      · have ho : (Q (tok b e τ.2.1)).1 = true := by
          cases hx : (Q (tok b e τ.2.1)).1 with
          | true => rfl
          | false => exact absurd (Or.inl hx) hd
        have hne : (Q (tok b e τ.2.1)).2.1.2.2.1 ≠ 16 := fun g => hd (Or.inr g)
        rw [ho] at h2 hp
        obtain ⟨-, l2, -, -, f36⟩ := h2.lv hne
        refine ⟨fun _ => ?_, fun e1 => absurd l2 e1⟩
        intro s2 hs2
        have h2' : RP ρ0 b e nS nL n s2 true (Q (tok b e τ.2.1)).2.1 (L ++ (Q (tok b e τ.2.1)).2.2) := by rw [hs2]; exact h2.op hne (by rw [f36, show (1 : Int32) = nI 1 from rfl, nI_sub (by omega), Nat.add_sub_cancel])
        clear hs2
        have q1 := (p3 ho).1
        have q2 := p1.1
        have q3 := p1.2.1
        refine ⟨fun e1 => absurd e1 (by decide), fun _ => h2'.emit (x := (14, 0)) hne (by rw [List.length_append]; omega) rfl rfl (fun ρ3 h3 => hp ρ3 ?_)⟩
        dsimp only
        rw [← List.append_assoc]
        exact h3
    · rw [if_neg (by omega)] at hp
      obtain ⟨p1, p2, p3⟩ := pEith_gd (b := b) hm hQ _ g1
      refine ⟨fun _ => hE _ ρ1 _ L h1 g1 (by omega) (fun ρ2 h2 => ?_), fun e1 => absurd rfl e1⟩
      generalize pEith b e Q (tok b e τ.2.1) = r at h2 hp p1 p2 p3
      by_cases hd : r.1 = false ∨ r.2.1.2.2.1 = 16
      · have hde := h2.de hd p1
        rw [if_neg (fun g => by rcases hd with hd | hd; exact absurd (hd.symm.trans g.1) (by decide); omega)] at hp
        exact ⟨fun e1 => absurd e1 hde.1, fun _ => hp ρ2 (h2.dd hd (Or.inl rfl))⟩
      · have ho : r.1 = true := by
          cases hx : r.1 with
          | true => rfl
          | false => exact absurd (Or.inl hx) hd
        have hne : r.2.1.2.2.1 ≠ 16 := fun g => hd (Or.inr g)
        rw [ho] at h2
        obtain ⟨-, l2, -, -, f36⟩ := h2.lv hne
        refine ⟨fun _ => ?_, fun e1 => absurd l2 e1⟩
        intro s2 hs2
        have h2' : RP ρ0 b e nS nL n s2 true r.2.1 (L ++ r.2.2) := by rw [hs2]; exact h2.op hne (by rw [f36, show (1 : Int32) = nI 1 from rfl, nI_sub (by omega), Nat.add_sub_cancel])
        clear hs2
        refine ⟨fun _ => ?_, fun e1 => absurd rfl e1⟩
        refine sR_is (k0 := 13) h2' p1 (Or.inr ⟨by decide, by decide, rfl, rfl⟩) hen (fun _ hk13 => ⟨fun e1 => absurd e1 (by decide), fun _ => ?_⟩) (fun hno => ⟨fun _ => ?_, fun e1 => absurd rfl e1⟩)
        · rw [if_pos ⟨ho, hk13⟩] at hp
          exact h2'.next hne p1 (fun ρ3 h3 => hp ρ3 h3)
        · rw [if_neg (fun g => hno ⟨rfl, g.2⟩)] at hp
          exact h2'.fail hne (fun ρ3 h3 => hp ρ3 h3)
  unfold wpR_part_27
  rw [e36, show (20 : Int32) = nI 20 from rfl, nI_eq (by omega) (by omega)]
  refine ⟨fun _ => ?_, fun e1 => absurd e1 (by omega)⟩
  rcases hk with k6 | k12
  · rw [(t4 (by omega)).1]
    exact ⟨fun e1 => absurd rfl e1, fun _ => h58 1 (Or.inl ⟨k6, rfl⟩)⟩
  · rw [(t6 (by omega) (by omega)).1]
    exact ⟨fun _ => h58 0 (Or.inr ⟨k12, rfl⟩), fun e1 => absurd e1 (by decide)⟩
theorem sR_part {N : Tk → Rs} {WE WP : (RSt → Prop) → RSt → Prop} (hN : ∀ (post : RSt → Prop) (ρ : RSt) (τ : Tk) (L : List Cd), RP ρ0 b e nS nL n ρ true τ L → WfT e τ → L.length ≤ τ.1 → (τ.2.2.1 = 6 ∨ τ.2.2.1 = 12) → (∀ ρ', RP ρ0 b e nS nL n ρ' (N τ).1 (N τ).2.1 (L ++ (N τ).2.2) → post ρ') → wpR_part_27 WE WP post ρ) : SimR ρ0 b e nS nL n (pStep b e nS nL N) (wpR_part_0 WE WP) := by
  intro post ρ τ L h hw hl hp
  have hk16 := hw.2.2.1
  have hen := h.1.2.1
  by_cases hd : τ.2.2.1 = 16
  · have ep : pStep b e nS nL N τ = (false, τ, []) := (if_neg (by omega)).trans ((if_neg (by omega)).trans (if_neg (by omega)))
    rw [ep] at hp
    have hde := h.de (Or.inr hd) hw
    exact ⟨fun e1 => absurd e1 hde.1, fun _ => hp ρ (h.dd (Or.inr hd) (Or.inl rfl))⟩
  obtain ⟨-, l2, -, ⟨t1, t2, t3, t4, t5, t6⟩, -⟩ := h.lv hd
  refine ⟨fun _ => ?_, fun e1 => absurd l2 e1⟩
  have hnest : (τ.2.2.1 = 6 ∨ τ.2.2.1 = 12) → wpR_part_27 WE WP post ρ := by
    intro hk
    have ep : pStep b e nS nL N τ = N τ := if_pos hk
    rw [ep] at hp
    exact hN post ρ τ L h hw hl hk hp
  refine sR_is (k0 := 6) h hw (Or.inl ⟨by decide, rfl, rfl⟩) hen (fun _ hk => ⟨fun _ => hnest (Or.inl hk), fun e1 => absurd e1 (by decide)⟩) (fun hn6 => ⟨fun e1 => absurd rfl e1, fun _ => ?_⟩)
  refine sR_is (k0 := 12) h hw (Or.inr ⟨by decide, by decide, rfl, rfl⟩) hen (fun _ hk => ⟨fun e1 => absurd e1 (by decide), fun _ => hnest (Or.inr hk)⟩) (fun hn12 => ⟨fun _ => ?_, fun e1 => absurd rfl e1⟩)
  have n6 : τ.2.2.1 ≠ 6 := fun g => hn6 ⟨rfl, g⟩
  have n12 : τ.2.2.1 ≠ 12 := fun g => hn12 ⟨rfl, g⟩
  have h162 : ¬ τ.2.2.1 ≤ 5 → wpR_part_162 WE WP post ρ := by
    intro hno
    have ep : pStep b e nS nL N τ = (false, τ, []) := (if_neg (by omega)).trans ((if_neg (by omega)).trans (if_neg (by omega)))
    rw [ep] at hp
    exact h.fail (L' := []) (n' := n) hd (fun ρ3 h3 => hp ρ3 (h3.dd (Or.inl rfl) (Or.inl rfl)))
  rcases (show τ.2.2.1 < 9 ∨ (9 ≤ τ.2.2.1 ∧ τ.2.2.1 ≤ 13) ∨ τ.2.2.1 = 14 ∨ τ.2.2.1 = 15 by omega) with c | c | c | c
  · rw [(t4 c).1, (t4 c).2]
    refine ⟨fun e1 => absurd rfl e1, fun _ => ⟨fun e1 => ?_, fun e1 => h162 (fun g => e1 ?_)⟩⟩
    · have h5 : τ.2.2.1 ≤ 5 := by
        rw [show (4 : Int32) = nI 4 from rfl, nI_leI (by omega) (by have := vkd_le _ c; omega)] at e1
        unfold vkd at e1
        split at e1 <;> omega
      have hv : vkd τ.2.2.1 = τ.2.2.1 + 4 := if_pos h5
      rw [hv]
      by_cases h3 : τ.2.2.1 ≤ 3
      · have ep : pStep b e nS nL N τ = pCmp b e τ τ.2.2.1 := (if_neg (by omega)).trans ((if_neg (by omega)).trans (if_pos h3))
        rw [ep] at hp
        exact sR_tcmp h hw h3 hl hp
      · have ep : pStep b e nS nL N τ = pNam b e nS nL τ τ.2.2.1 := (if_neg (by omega)).trans (if_pos (by omega))
        rw [ep] at hp
        exact sR_tnam h hw (by omega) hl hp
    · rw [show (4 : Int32) = nI 4 from rfl, nI_leI (by omega) (by have := vkd_le _ c; omega)]
      unfold vkd
      rw [if_pos g]
      omega
  · rw [(t6 c.1 c.2).1]
    exact ⟨fun _ => h162 (by omega), fun e1 => absurd e1 (by decide)⟩
  · rw [(t5 c).1]
    exact ⟨fun _ => h162 (by omega), fun e1 => absurd e1 (by decide)⟩
  · rw [t3 c]
    exact ⟨fun _ => h162 (by omega), fun e1 => absurd e1 (by decide)⟩
theorem sR_base {WE WP : (RSt → Prop) → RSt → Prop} : SimR ρ0 b e nS nL 20 (pP b e nS nL 0) (wpR_part_0 WE WP) :=
  sR_part (fun post ρ τ L h hw hl hk hp => by
    obtain ⟨-, -, -, -, e36⟩ := h.lv (by omega)
    unfold wpR_part_27
    rw [e36, show (20 : Int32) = nI 20 from rfl]
    exact ⟨fun e1 => absurd rfl e1, fun _ => h.fail (by omega) (fun ρ3 h3 => hp ρ3 h3)⟩)
theorem sR_pP : ∀ d D : Nat, d ≤ D → d ≤ 20 → SimR ρ0 b e nS nL (20 - d) (pP b e nS nL d) (wPart D)
  | 0, 0, _, _ => sR_base
  | 0, D + 1, _, _ => sR_base
  | d + 1, 0, h, _ => absurd h (by omega)
  | d + 1, D + 1, h, h20 => by
    have ih := sR_pP d D (by omega) (by omega)
    have hE := sR_eith (by omega) (pP_gd (b := b) (e := e) (nS := nS) (nL := nL) d) ih
    rw [show 20 - d = 20 - (d + 1) + 1 by omega] at ih hE
    exact sR_part (fun post ρ τ L h hw hl hk hp => sR_nest (by omega) (by omega) (pP_gd (b := b) (e := e) (nS := nS) (nL := nL) d) hE ih h hw hl hk hp)
theorem sR_eithD : SimR ρ0 b e nS nL 0 (pEith b e (pP b e nS nL 20)) wpR_eitherD_0 := by
  have hE := sR_eith (by omega) (pP_gd (b := b) (e := e) (nS := nS) (nL := nL) 20) (sR_pP (ρ0 := ρ0) (b := b) (e := e) (nS := nS) (nL := nL) 20 21 (by omega) (by omega))
  rw [show 20 - 20 = 0 from rfl] at hE
  unfold wpR_eitherD_0
  exact hE
end RP3
end
