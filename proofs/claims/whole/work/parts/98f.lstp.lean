section
/-! least: the count goes on by one -/
section LS6
variable {n K : Nat} {A B : Nat → Nat} {ln : Nat → Int} {cf dd sp ms far rr Mx Sx : Nat → Int} {via : Nat → Option Nat} {t m : Nat} {am Tot N : Int}
theorem CN.step (h : CN n K A B ln cf sp ms dd rr N) (hL : LJ n K A B ln Mx Sx Tot cf sp ms dd) (hN : NetOk n K A B ln) (hM : MEAS n K A B ln cf dd sp far via) (ht : t < n) (hmt : 0 < ms t) (hft : far t ≠ UN) (hmin : ∀ v : Nat, v < n → 0 < ms v → far v ≠ UN → far t ≤ far v) (hx : ∀ v : Nat, v < n → Sx v = 0 ∨ Mx v = 0) (hW : Wy n K A B via t m)
    (hst : ∀ j : Nat, j < m → far (nd A B via t j) ≠ UN ∧ far (nd A B via t (j + 1)) ≠ UN ∧ far (nd A B via t j) = far (nd A B via t (j + 1)) + 64 * cst A ln cf (kk A B via t j) (nd A B via t (j + 1)) + 1) (hroot : 0 < sp (nd A B via t m)) (h64 : ∀ j : Nat, j ≤ m → ∃ C : Int, far (nd A B via t j) = 64 * C + ((m - j : Nat) : Int)) (h0 : 0 < am) (h1 : am ≤ ms t) (h2 : am ≤ sp (nd A B via t m)) (hb : ∀ j : Nat, j < m → cfr A cf (kk A B via t j) (nd A B via t (j + 1)) < 0 → am ≤ - cfr A cf (kk A B via t j) (nd A B via t (j + 1)))
    (hend : am = ms t ∨ am = sp (nd A B via t m) ∨ ∃ j : Nat, j < m ∧ cfr A cf (kk A B via t j) (nd A B via t (j + 1)) < 0 ∧ am = - cfr A cf (kk A B via t j) (nd A B via t (j + 1))) :
    CN n K A B ln (pfl A B via t am cf m) (updZ sp (nd A B via t m) (sp (nd A B via t m) - am)) (updZ ms t (ms t - am)) (dd2 far dd) (rr2 far rr (far t)) (N + 1) := by
  obtain ⟨l1, l2, l3, l4, l5, l6⟩ := hL
  have hs := hW.2.2.1 m (Nat.le_refl _)
  have hne : nd A B via t m ≠ t := by
    intro e
    have a1 := l4 _ hs
    have a2 := l4 _ ht
    rw [e] at a1 h2
    rcases hx t ht with g | g <;> omega
  obtain ⟨⟨r1, r2, r3⟩, c0, c, M, cnt, p, q, c1, c2, c3, c4, c5, c6, c7⟩ := h
  have hn40 := hN.1
  have hm39 : m ≤ 39 := by have := hW.2.1; omega
  have hm1 : 1 ≤ m := by
    by_cases e : m = 0
    · subst e; exact absurd rfl hne
    · omega
  have hup : ∀ v : Nat, v < n → dd v ≤ dd2 far dd v := fun v hv => dd2_up hM l1 l2 l3 hN hv
  have hru : ∀ v : Nat, rr v ≤ rr2 far rr (far t) v := fun v => rr2_le
  have hrs : far (nd A B via t m) = 0 := (hM.2.1 _ hs hroot).1
  -- along the way
  have hpath : ∀ j : Nat, j ≤ m → rr (nd A B via t j) ≤ far t - far (nd A B via t j) := by
    intro j
    induction j with
    | zero =>
      intro _
      have a1 := r3 t ht hmt
      show rr t ≤ far t - far t
      omega
    | succ j ih =>
      intro hj
      have h1 := ih (by omega)
      obtain ⟨b1, b2⟩ := hW.inc2 hN (j := j) (by omega)
      obtain ⟨a1, a2⟩ := hW.2.2.2.1 j (by omega)
      have h2 := r1 _ a1 _ b1
      (try dsimp only at h2)
      rw [b2] at h2
      have h3 := (hst j (by omega)).2.2
      omega
  have hfin : ∀ j : Nat, j ≤ m → far (nd A B via t j) ≠ UN := by
    intro j hj
    by_cases e : j = m
    · subst e; rw [hrs]; unfold UN; decide
    · exact (hst j (by omega)).1
  have hrp : ∀ j : Nat, j ≤ m → rr2 far rr (far t) (nd A B via t j) = far t - far (nd A B via t j) := by
    intro j hj
    unfold rr2
    rw [if_neg (hfin j hj), if_pos (hpath j hj)]
  have hdp : ∀ j : Nat, j ≤ m → dd2 far dd (nd A B via t j) = far (nd A B via t j) := fun j hj => if_neg (hfin j hj)
  have hc' : c ≤ far t / 64 := by
    have a1 := c3 _ hs hroot
    have a2 := hpath m (Nat.le_refl _)
    omega
  have hint : ∀ j : Nat, 0 < j → j < m → ¬ (0 < sp (nd A B via t j) ∨ 0 < ms (nd A B via t j)) := by
    intro j hj0 hj g
    have hv := hW.2.2.1 j (by omega)
    rcases g with g | g
    · have a1 := (hM.2.1 _ hv g).2
      rw [hW.1.vk hj] at a1
      exact absurd a1 (by simp)
    · have a1 := hmin _ hv g (hfin j (by omega))
      have a2 := hpath j (by omega)
      have a3 := r2 _ hv
      obtain ⟨C, hC⟩ := h64 j (by omega)
      obtain ⟨C', hC'⟩ := h64 0 (by omega)
      have hC0 : far t = 64 * C' + ((m - 0 : Nat) : Int) := hC'
      omega
  have hlen := hW.len (sp := sp) (ms := ms) hint
  have hQ2 : 2 ≤ Qn n sp ms := Qn_2 hs ht hne hroot hmt
  have hrS := hW.rS (S := Sf n sp) ⟨hs, hroot⟩
  have hrT := hW.rT hN (T := Sf n ms) ⟨ht, hmt⟩
  have hBm : Bh K A B (Sf n sp) (Sf n ms) ≤ m := lst_min (p := fun i => ∃ v : Nat, Sf n ms v ∧ rch K A B (Sf n sp) i v) (n := 40) (by omega) ⟨t, ⟨ht, hmt⟩, hrS m 0 (by omega)⟩
  have hcB : far t / 64 ≤ 100 * (Bh K A B (Sf n sp) (Sf n ms) : Int) := by
    obtain ⟨v, g1, g2⟩ := lst_p (p := fun i => ∃ v : Nat, Sf n ms v ∧ rch K A B (Sf n sp) i v) (n := 40) (show Bh K A B (Sf n sp) (Sf n ms) < 40 by omega)
    obtain ⟨a1, a2⟩ := hM.far_le hN (S := Sf n sp) (fun v hv => hv) _ v g2
    have a3 := hmin v g1.1 g1.2 a1
    have a4 : far v ≤ 6401 * (Bh K A B (Sf n sp) (Sf n ms) : Int) := a2
    omega
  -- what holds of those to which some must come, still
  have hFe : Fe K A B ln (pfl A B via t am cf m) (fun v => - rr2 far rr (far t) v) := hW.fe hN (rr2_fe r1 hM hN) (fun j hj => by
    (try dsimp only)
    rw [hrp j (by omega), hrp (j + 1) (by omega)]
    have := (hst j hj).2.2
    omega) (by omega) hb
  have hsp' : ∀ v : Nat, 0 < updZ sp (nd A B via t m) (sp (nd A B via t m) - am) v → 0 < sp v := by
    intro v g
    unfold updZ at g
    split at g
    · rename_i e; rw [e]; exact hroot
    · exact g
  have hms' : ∀ v : Nat, 0 < updZ ms t (ms t - am) v → 0 < ms v := by
    intro v g
    unfold updZ at g
    split at g
    · rename_i e; rw [e]; exact hmt
    · exact g
  have hRJ : RJ n K A B ln (pfl A B via t am cf m) (updZ ms t (ms t - am)) (rr2 far rr (far t)) := by
    refine ⟨hFe, fun v hv => Int.le_trans (r2 v hv) (hru v), fun v hv g => ?_⟩
    have g' := hms' v g
    have a1 := r3 v hv g'
    unfold rr2
    by_cases e : far v = UN
    · rw [if_pos e]; exact a1
    · rw [if_neg e]
      have := hmin v hv g' e
      split <;> omega
  have hc3' : ∀ v : Nat, v < n → 0 < updZ sp (nd A B via t m) (sp (nd A B via t m) - am) v → 64 * (far t / 64) ≤ rr2 far rr (far t) v := by
    intro v hv g
    have a1 := (hM.2.1 v hv (hsp' v g)).1
    have : far t - far v ≤ rr2 far rr (far t) v := by
      unfold rr2
      rw [if_neg (by rw [a1]; unfold UN; decide)]
      split <;> omega
    omega
  have hMM := CN_M hN c1 c2 c4 c5 c6
  refine ⟨hRJ, ?_⟩
  by_cases hcase : am = ms t ∨ am = sp (nd A B via t m)
  · -- those from which, or to which, are fewer
    have hQ : Qn n (updZ sp (nd A B via t m) (sp (nd A B via t m) - am)) (updZ ms t (ms t - am)) < Qn n sp ms := by
      rcases hcase with g | g
      · refine Qn_lt (i := t) (fun v _ => ⟨hsp' v, hms' v⟩) ht (Or.inr hmt) (fun g2 => ?_)
        rcases g2 with g2 | g2
        · have a1 := hsp' t g2
          have a2 := l4 t ht
          rcases hx t ht with y | y <;> omega
        · rw [updZ_s] at g2; omega
      · refine Qn_lt (i := nd A B via t m) (fun v _ => ⟨hsp' v, hms' v⟩) hs (Or.inl hroot) (fun g2 => ?_)
        rcases g2 with g2 | g2
        · rw [updZ_s] at g2; omega
        · have a1 := hms' _ g2
          have a2 := l4 _ hs
          rcases hx _ hs with y | y <;> omega
    refine ⟨far t / 64, far t / 64, 0, fun _ => 0, fun _ => -2, fun _ => -2, by omega, Int.le_refl _, hc3', Or.inl rfl, (sumZ_0 (fun _ _ => rfl)).symm, fun k hk => ⟨Int.le_refl _, ⟨fun v hv => ?_, fun v hv g => ?_⟩, Or.inl rfl⟩, ?_⟩
    · have hl := (hN.2.2 k hk).2.2.2
      have hvn := hN.lt hk hv
      have a1 := hup v hvn
      have a2 := hru v
      have a3 := (l2 v hvn).1
      have a4 := r2 v hvn
      (try dsimp only)
      omega
    · have hvn := hN.lt hk hv
      have hon := hN.ot_lt hk hv
      have a1 := hup v hvn
      have a2 := hru (ot A B k v)
      have a3 := (l2 v hvn).1
      have a4 := r2 _ hon
      (try dsimp only)
      omega
    · have hq : Qn n sp ms ≤ 40 := Nat.le_trans Qn_le hN.1
      have hw := WgT_lt hQ hq
      have hg := (gg_up hc').2
      omega
  · -- the same as before: a link is emptied
    have hk3 : ∃ j : Nat, j < m ∧ cfr A cf (kk A B via t j) (nd A B via t (j + 1)) < 0 ∧ am = - cfr A cf (kk A B via t j) (nd A B via t (j + 1)) := by
      rcases hend with g | g | g
      · exact absurd (Or.inl g) hcase
      · exact absurd (Or.inr g) hcase
      · exact g
    have hlt1 : am < ms t := by
      have : am ≠ ms t := fun g => hcase (Or.inl g)
      omega
    have hlt2 : am < sp (nd A B via t m) := by
      have : am ≠ sp (nd A B via t m) := fun g => hcase (Or.inr g)
      omega
    have hspE : ∀ v : Nat, (0 < updZ sp (nd A B via t m) (sp (nd A B via t m) - am) v ↔ 0 < sp v) := by
      intro v
      refine ⟨hsp' v, fun g => ?_⟩
      unfold updZ
      split
      · omega
      · exact g
    have hmsE : ∀ v : Nat, (0 < updZ ms t (ms t - am) v ↔ 0 < ms v) := by
      intro v
      refine ⟨hms' v, fun g => ?_⟩
      unfold updZ
      split
      · omega
      · exact g
    rw [Qn_cg (fun v _ => ⟨hspE v, hmsE v⟩), Sf_cg (fun v _ => hspE v), Sf_cg (fun v _ => hmsE v)]
    obtain ⟨j0, j1, j2, j3⟩ := hk3
    obtain ⟨y1, y2⟩ := hW.inc2 hN j1
    obtain ⟨x1, x2⟩ := hW.2.2.2.1 j0 j1
    -- the signs of a link on the way
    have hway : ∀ j : Nat, j < m → ∀ v : Nat, inc A B (kk A B via t j) v → cfr A (pfl A B via t am cf m) (kk A B via t j) v < 0 → cfr A cf (kk A B via t j) v < 0 ∨ (v = nd A B via t j ∧ cfr A cf (kk A B via t j) (nd A B via t (j + 1)) = 0) := by
      intro j hj v hv g
      obtain ⟨b1, b2⟩ := hW.inc2 hN hj
      obtain ⟨a1, a2⟩ := hW.2.2.2.1 j hj
      have e1 : cfr A (pfl A B via t am cf m) (kk A B via t j) (nd A B via t (j + 1)) = cfr A cf (kk A B via t j) (nd A B via t (j + 1)) + am := by
        rcases hW.pf (am := am) (cf := cf) hN m (Nat.le_refl _) (kk A B via t j) with ⟨-, g2⟩ | ⟨i, g1, g2, g3⟩
        · exact absurd rfl (g2 j hj)
        · have : i = j := by
            rcases Nat.lt_trichotomy i j with y | y | y
            · exact absurd g2.symm (hW.kne hN y hj)
            · exact y
            · exact absurd g2 (hW.kne hN y g1)
          subst this
          exact g3
      by_cases ev : v = nd A B via t (j + 1)
      · subst ev
        rw [e1] at g
        exact Or.inl (by omega)
      · have e2 := hN.ends a1 b1 hv ev
        rw [b2] at e2
        subst e2
        have e3 := hN.cfr_ot (cf := pfl A B via t am cf m) a1 b1
        have e4 := hN.cfr_ot (cf := cf) a1 b1
        rw [b2] at e3 e4
        have h5 := hb j hj
        rcases Int.lt_trichotomy (cfr A cf (kk A B via t j) (nd A B via t (j + 1))) 0 with y | y | y
        · have := h5 y; omega
        · exact Or.inr ⟨rfl, y⟩
        · exact Or.inl (by omega)
    -- links that keep their record
    have hkeep : ∀ k : Nat, k < K → LI A B ln cf dd rr k (p k) (q k) → LI A B ln (pfl A B via t am cf m) (dd2 far dd) (rr2 far rr (far t)) k (p k) (q k) := by
      intro k hk hI
      refine ⟨fun v hv => ?_, fun v hv g => ?_⟩
      · have a1 := hI.1 v hv
        have a2 := hup v (hN.lt hk hv)
        have a3 := hru v
        omega
      · have hold : cfr A cf k v < 0 → p k + 2 ≤ dd2 far dd v ∧ q k + 2 ≤ rr2 far rr (far t) (ot A B k v) := fun g => by
          have a1 := hI.2 v hv g
          have a2 := hup v (hN.lt hk hv)
          have a3 := hru (ot A B k v)
          omega
        rcases hW.pf (am := am) (cf := cf) hN m (Nat.le_refl _) k with ⟨g1, -⟩ | ⟨j, g1, g2, g3⟩
        · refine hold ?_
          unfold cfr at g ⊢
          rw [g1] at g
          exact g
        · subst g2
          rcases hway j g1 v hv g with y | ⟨y, z⟩
          · exact hold y
          · subst y
            obtain ⟨b1, b2⟩ := hW.inc2 hN g1
            have a1 := hI.1 _ b1
            have a1' := hI.1 _ hv
            have a2 := hup _ (hN.lt hk b1)
            have a3 := hru (nd A B via t j)
            have e5 : ot A B (kk A B via t j) (nd A B via t j) = nd A B via t (j + 1) := (hW.1.s g1).symm
            have e6 : cst A ln cf (kk A B via t j) (nd A B via t (j + 1)) = ln (kk A B via t j) := by unfold cst; rw [if_neg (by omega)]
            have e7 := (hst j g1).2.2
            rw [e6] at e7
            rw [e5, hrp (j + 1) (by omega), hdp j (by omega)]
            rw [hdp (j + 1) (by omega)] at a2
            rw [hrp j (by omega)] at a3
            omega
    have hl0 := (hN.2.2 _ x1).2.2.2
    have e8 : cst A ln cf (kk A B via t j0) (nd A B via t (j0 + 1)) = - ln (kk A B via t j0) := by unfold cst; rw [if_pos j2]
    have e9 := (hst j0 j1).2.2
    rw [e8] at e9
    have e5 : ot A B (kk A B via t j0) (nd A B via t j0) = nd A B via t (j0 + 1) := (hW.1.s j1).symm
    obtain ⟨C1, hC1⟩ := h64 j0 (by omega)
    obtain ⟨C2, hC2⟩ := h64 (j0 + 1) (by omega)
    obtain ⟨C3, hC3'⟩ := h64 0 (by omega)
    have hC3 : far t = 64 * C3 + ((m - 0 : Nat) : Int) := hC3'
    refine ⟨c0, far t / 64, M + 1, updZ cnt (kk A B via t j0) (cnt (kk A B via t j0) + 1), updZ p (kk A B via t j0) (far (nd A B via t (j0 + 1))), updZ q (kk A B via t j0) (far t - far (nd A B via t j0)), c1, by omega, hc3', Or.inr ⟨hcB, by omega, hQ2⟩, ?_, fun k hk => ?_, by omega⟩
    · rw [sumZ_ch (f := cnt) (p := kk A B via t j0) (d := 1) x1 (by rw [updZ_s]) (fun i _ hi => updZ_n hi), c5]
    · obtain ⟨d1, d2, d3⟩ := c6 k hk
      by_cases ek : k = kk A B via t j0
      · subst ek
        rw [updZ_s, updZ_s, updZ_s]
        obtain ⟨f1, f2⟩ := d2.2 _ y1 j2
        rw [y2] at f2
        have f3 := hup _ (hN.lt hk y1)
        rw [hdp (j0 + 1) (by omega)] at f3
        have f4 := hru (nd A B via t j0)
        rw [hrp j0 (by omega)] at f4
        have f5 := (l2 _ (hN.lt hk y1)).1
        have f6 := r2 _ (hW.2.2.1 j0 (by omega))
        refine ⟨by omega, ⟨fun v hv => ?_, fun v hv g => ?_⟩, ?_⟩
        · by_cases ev : v = nd A B via t (j0 + 1)
          · subst ev
            rw [hdp _ (by omega), hrp _ (by omega)]
            omega
          · have e2 := hN.ends hk y1 hv ev
            rw [y2] at e2
            subst e2
            rw [hdp _ (by omega), hrp _ (by omega)]
            omega
        · rcases hway j0 j1 v hv g with y | ⟨y, z⟩
          · by_cases ev : v = nd A B via t (j0 + 1)
            · subst ev
              have e1 : cfr A (pfl A B via t am cf m) (kk A B via t j0) (nd A B via t (j0 + 1)) = cfr A cf (kk A B via t j0) (nd A B via t (j0 + 1)) + am := by
                rcases hW.pf (am := am) (cf := cf) hN m (Nat.le_refl _) (kk A B via t j0) with ⟨-, g2⟩ | ⟨i, g1, g2, g3⟩
                · exact absurd rfl (g2 j0 j1)
                · have : i = j0 := by
                    rcases Nat.lt_trichotomy i j0 with y | y | y
                    · exact absurd g2.symm (hW.kne hN y j1)
                    · exact y
                    · exact absurd g2 (hW.kne hN y g1)
                  subst this
                  exact g3
              omega
            · have e2 := hN.ends hk y1 hv ev
              rw [y2] at e2
              subst e2
              have e4 := hN.cfr_ot (cf := cf) hk y1
              rw [y2] at e4
              omega
          · omega
        · have z1 := hp2_le (K := K) (Q := Sf n sp) y1
          have z2 := hp2_le (K := K) (Q := Sf n ms) x2
          have z3 : hop K A B (Sf n sp) (nd A B via t (j0 + 1)) ≤ m - (j0 + 1) := lst_min (p := fun i => rch K A B (Sf n sp) i (nd A B via t (j0 + 1))) (n := 40) (by omega) (hrS (m - (j0 + 1)) (j0 + 1) (by omega))
          have z4 : hop K A B (Sf n ms) (nd A B via t j0) ≤ j0 := lst_min (p := fun i => rch K A B (Sf n ms) i (nd A B via t j0)) (n := 40) (by omega) (hrT j0 (by omega))
          have z5 := hp2_bh (S := Sf n sp) (T := Sf n ms) hN hk
          refine d3.kill d1 hc' c2 (by omega) (by omega) (by omega) (by omega) (by omega) (by omega) (by omega) (by omega)
      · rw [updZ_n ek, updZ_n ek, updZ_n ek]
        exact ⟨d1, hkeep k hk d2, d3.up hc'⟩
end LS6
end
