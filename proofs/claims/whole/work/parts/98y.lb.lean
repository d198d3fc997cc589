section
/-! the law's loop: each call -/
section LB
variable {mc ms L j k n : Nat} {xs : Nat → Int32} {post : Int32 → lSt → Prop} {K23 : lSt → Nat → Nat → Nat → Int32 → Prop} {s : lSt} {v1 : Nat} {v4 : Int32} {μ : MSt} {lab : Nat → Nat} {ad : Nat → Nat → Nat}
theorem pk0 {v : Int32} {A B : Prop} (c : v = 0) (h : A) : (v = 0 → A) ∧ (¬ v = 0 → B) := ⟨fun _ => h, fun g => absurd c g⟩
theorem pk1 {v : Int32} {A B : Prop} (c : ¬ v = 0) (h : B) : (v = 0 → A) ∧ (¬ v = 0 → B) := ⟨fun g => absurd g c, fun _ => h⟩
theorem law_b0 (hC : CRep s.1 lab ad μ) (hx : ad 7 0 = v1) (hR : RR s.2.1 μ) (hI : MI μ j) (hT : TB μ) (hj : j < 512) (hV : VP L v4) (hk : k + 100 ≤ mc ∧ n + 6110 ≤ ms) (kk : LK K23 v1 j k n v4) : vp_in (v4 + 1) L ∧ vp_in (v4 + 2) L ∧ vp_in (v4 + 3) L ∧ vp_in (v4 + 4) L ∧ vp_in (v4 + 5) L ∧ cAt s.1 7 v1 ∧ wpC_X7_feed_0 (fun r29 t30 => vp_in (v4 + 1) L ∧ vp_in (v4 + 2) L ∧ vp_in (v4 + 3) L ∧ vp_in (v4 + 4) L ∧ vp_in (v4 + 5) L ∧ wpR_feed_0 (fun r31 t32 => (r29 = r31 → wpW_law_1707 mc ms L xs post K23 (t30, (t32, s.2.2)) k n v1 v4) ∧ (¬ r29 = r31 → k ≤ mc ∧ n ≤ ms ∧ post 0 (t30, (t32, s.2.2)))) s.2.1 (xs (v4 + 1).toNatClampNeg) (xs (v4 + 2).toNatClampNeg) (xs (v4 + 3).toNatClampNeg) (xs (v4 + 4).toNatClampNeg) (xs (v4 + 5).toNatClampNeg)) s.1 v1 (xs (v4 + 1).toNatClampNeg) (xs (v4 + 2).toNatClampNeg) (xs (v4 + 3).toNatClampNeg) (xs (v4 + 4).toNatClampNeg) (xs (v4 + 5).toNatClampNeg) := by
  subst hx
  obtain ⟨p1, p2, p3, p4, p5⟩ := hV
  have hc := hI.cs
  refine ⟨p1, p2, p3, p4, p5, hC.x7, cO_feed hC hI (fun g σ' hC' => ?_) (fun g => ?_)⟩
  · exact ⟨p1, p2, p3, p4, p5, rO_feed hR hI (fun _ ρ' hR' => lt_e rfl (kk.go0 hC' rfl hR' (MI_feed hI g).up ((hT.feed 20).o rfl))) (fun g' => absurd g g')⟩
  · exact ⟨p1, p2, p3, p4, p5, rO_feed hR hI (fun g' => absurd g' g) (fun _ ρ' hR' => lt_e rfl (kk.go0 hC rfl hR' hI.up hT))⟩
theorem law_b1 (hC : CRep s.1 lab ad μ) (hx : ad 7 0 = v1) (hR : RR s.2.1 μ) (hI : MI μ j) (hT : TB μ) (hj : j < 512) (hV : VP L v4) (hk : k + 100 ≤ mc ∧ n + 6110 ≤ ms) (kk : LK K23 v1 j k n v4) : vp_in (v4 + 1) L ∧ cAt s.1 7 v1 ∧ wpC_X7_end_0 (fun r34 t35 => vp_in (v4 + 1) L ∧ wpR_end_0 (fun r36 t37 => (r34 = r36 → wpW_law_1707 mc ms L xs post K23 (t35, (t37, s.2.2)) k n v1 v4) ∧ (¬ r34 = r36 → k ≤ mc ∧ n ≤ ms ∧ post 0 (t35, (t37, s.2.2)))) s.2.1 (xs (v4 + 1).toNatClampNeg)) s.1 v1 (xs (v4 + 1).toNatClampNeg) := by
  subst hx
  obtain ⟨p1, p2, p3, p4, p5⟩ := hV
  have hc := hI.cs
  refine ⟨p1, hC.x7, cO_end hC hI (fun a ha e σ' hC' => ?_) (fun g => ?_)⟩
  · exact ⟨p1, rO_end hR hI (fun a' ha' e' ρ' hR' => by
      obtain rfl : a' = a := nIi (N := μ.1 2) (by omega) ha' ha e' e
      exact lt_e rfl (kk.go0 hC' rfl hR' (MI_1 hI (Or.inl ⟨rfl, by omega⟩)).up (hT.o rfl))) (fun g => (no_le rfl (by omega) e ha g).elim)⟩
  · exact ⟨p1, rO_end hR hI (fun a' ha' e' _ _ => (no_le rfl (by omega) e' ha' g).elim) (fun _ ρ' hR' => lt_e rfl (kk.go0 hC rfl hR' hI.up hT))⟩
theorem law_b2 (hC : CRep s.1 lab ad μ) (hx : ad 7 0 = v1) (hR : RR s.2.1 μ) (hI : MI μ j) (hT : TB μ) (hj : j < 512) (hV : VP L v4) (hk : k + 100 ≤ mc ∧ n + 6110 ≤ ms) (kk : LK K23 v1 j k n v4) : vp_in (v4 + 1) L ∧ vp_in (v4 + 2) L ∧ vp_in (v4 + 3) L ∧ vp_in (v4 + 4) L ∧ vp_in (v4 + 5) L ∧ ∃ m42 m43 : Nat, k + m42 ≤ mc ∧ n + m43 ≤ ms ∧ 1 ≤ m42 ∧ 6 ≤ m43 ∧ wpL_lift_0 m42 m43 (fun r39 t40 => vp_in (v4 + 1) L ∧ vp_in (v4 + 2) L ∧ vp_in (v4 + 3) L ∧ vp_in (v4 + 4) L ∧ vp_in (v4 + 5) L ∧ wpR_lift_0 (fun r44 t45 => wpR_thrown_0 (fun r46 t47 => (r46 = r39 → (¬ r39 = 0 → wpW_law_359 mc ms L xs post K23 (t40.1, (t47, t40.2)) (k + m42) (n + m43) v1 v4) ∧ (r39 = 0 → ((lg_cmp (t40.2 0) r44.toInt64) = 0 → wpW_law_359 mc ms L xs post K23 (t40.1, (t47, t40.2)) (k + m42) (n + m43) v1 v4) ∧ (¬ (lg_cmp (t40.2 0) r44.toInt64) = 0 → k + m42 ≤ mc ∧ n + m43 ≤ ms ∧ post 0 (t40.1, (t47, t40.2))))) ∧ (¬ r46 = r39 → k + m42 ≤ mc ∧ n + m43 ≤ ms ∧ post 0 (t40.1, (t47, t40.2)))) t45) s.2.1 (xs (v4 + 1).toNatClampNeg) (xs (v4 + 2).toNatClampNeg) (xs (v4 + 3).toNatClampNeg) (xs (v4 + 4).toNatClampNeg) (xs (v4 + 5).toNatClampNeg)) (s.1, s.2.2) v1 (xs (v4 + 1).toNatClampNeg) (xs (v4 + 2).toNatClampNeg) (xs (v4 + 3).toNatClampNeg) (xs (v4 + 4).toNatClampNeg) (xs (v4 + 5).toNatClampNeg) := by
  subst hx
  obtain ⟨p1, p2, p3, p4, p5⟩ := hV
  have hc := hI.cs
  refine ⟨p1, p2, p3, p4, p5, 100, 400, by omega, by omega, by decide, by decide, And.intro hC.x7 (cO_lift hC hI (by omega) (fun ha1 ha2 hn1 hn2 hn3 hu fr to st mi wi hb efr eto est emi ewi σ' lab' ad' e7 hC' => ?_) (fun g => Or.inl ⟨rfl, ?_⟩) (fun ha1 ha2 g => Or.inr (Or.inl ⟨rfl, ?_⟩)) (fun ha1 ha2 hn1 hn2 hn3 g => Or.inr (Or.inr ⟨rfl, ?_⟩)))⟩
  · refine ⟨p1, p2, p3, p4, p5, rO_lift hR hI (fun _ _ _ _ _ _ fr' to' st' mi' wi' hb' efr' eto' est' emi' ewi' ρ' hR' hz => ?_) (fun g => (g ⟨ha1, ha2⟩).elim) (fun _ _ g => (g ⟨hn1, hn2, hn3⟩).elim) (fun _ _ _ _ _ g => (g hu).elim)⟩
    obtain rfl : fr' = fr := nIi (N := 1000) (by decide) (by omega) (by omega) efr' efr
    obtain rfl : to' = to := nIi (N := 1000) (by decide) (by omega) (by omega) eto' eto
    obtain rfl : st' = st := nIi (N := 1000) (by decide) (by omega) (by omega) est' est
    obtain rfl : mi' = mi := nIi (N := 1000) (by decide) (by omega) (by omega) emi' emi
    obtain rfl : wi' = wi := nIi (N := 1000) (by decide) (by omega) (by omega) ewi' ewi
    exact lt_o hz rfl (kk.go 100 400 (by decide) (by decide) hC' e7 hR' (lift_MI hI hu (by omega) (by omega) (by omega) (by omega) (by omega)).up (hT.o rfl))
  · exact ⟨p1, p2, p3, p4, p5, rO_lift hR hI (fun ha1 ha2 _ _ _ _ => (g ⟨ha1, ha2⟩).elim) (fun _ ρ' hR' hz => lt_x hz (by decide) (kk.go 100 400 (by decide) (by decide) hC rfl hR' hI.up hT)) (fun ha1 ha2 _ => (g ⟨ha1, ha2⟩).elim) (fun ha1 ha2 _ _ _ _ => (g ⟨ha1, ha2⟩).elim)⟩
  · exact ⟨p1, p2, p3, p4, p5, rO_lift hR hI (fun _ _ hn1 hn2 hn3 _ => (g ⟨hn1, hn2, hn3⟩).elim) (fun g => (g ⟨ha1, ha2⟩).elim) (fun _ _ _ ρ' hR' hz => lt_x hz (by decide) (kk.go 100 400 (by decide) (by decide) hC rfl hR' hI.up hT)) (fun _ _ hn1 hn2 hn3 _ => (g ⟨hn1, hn2, hn3⟩).elim)⟩
  · exact ⟨p1, p2, p3, p4, p5, rO_lift hR hI (fun _ _ _ _ _ hu => (g hu).elim) (fun g => (g ⟨ha1, ha2⟩).elim) (fun _ _ g => (g ⟨hn1, hn2, hn3⟩).elim) (fun _ _ _ _ _ _ ρ' hR' hz => lt_x hz (by decide) (kk.go 100 400 (by decide) (by decide) hC rfl hR' hI.up hT))⟩
theorem law_b3 (hC : CRep s.1 lab ad μ) (hx : ad 7 0 = v1) (hR : RR s.2.1 μ) (hI : MI μ j) (hT : TB μ) (hj : j < 512) (hV : VP L v4) (hk : k + 100 ≤ mc ∧ n + 6110 ≤ ms) (kk : LK K23 v1 j k n v4) : vp_in (v4 + 1) L ∧ vp_in (v4 + 2) L ∧ vp_in (v4 + 3) L ∧ vp_in (v4 + 4) L ∧ vp_in (v4 + 5) L ∧ ∃ m54 m55 : Nat, k + m54 ≤ mc ∧ n + m55 ≤ ms ∧ 1 ≤ m54 ∧ 6 ≤ m55 ∧ wpL_slope_0 m54 m55 (fun r51 t52 => vp_in (v4 + 1) L ∧ vp_in (v4 + 2) L ∧ vp_in (v4 + 3) L ∧ vp_in (v4 + 4) L ∧ vp_in (v4 + 5) L ∧ wpR_slope_0 (fun r56 t57 => wpR_thrown_0 (fun r58 t59 => (r58 = r51 → (¬ r51 = 0 → wpW_law_463 mc ms L xs post K23 (t52.1, (t59, t52.2)) (k + m54) (n + m55) v1 v4) ∧ (r51 = 0 → ((lg_cmp (t52.2 0) r56.toInt64) = 0 → wpW_law_463 mc ms L xs post K23 (t52.1, (t59, t52.2)) (k + m54) (n + m55) v1 v4) ∧ (¬ (lg_cmp (t52.2 0) r56.toInt64) = 0 → k + m54 ≤ mc ∧ n + m55 ≤ ms ∧ post 0 (t52.1, (t59, t52.2))))) ∧ (¬ r58 = r51 → k + m54 ≤ mc ∧ n + m55 ≤ ms ∧ post 0 (t52.1, (t59, t52.2)))) t57) s.2.1 (xs (v4 + 1).toNatClampNeg) (xs (v4 + 2).toNatClampNeg) (xs (v4 + 3).toNatClampNeg) (xs (v4 + 4).toNatClampNeg) (xs (v4 + 5).toNatClampNeg)) (s.1, s.2.2) v1 (xs (v4 + 1).toNatClampNeg) (xs (v4 + 2).toNatClampNeg) (xs (v4 + 3).toNatClampNeg) (xs (v4 + 4).toNatClampNeg) (xs (v4 + 5).toNatClampNeg) := by
  subst hx
  obtain ⟨p1, p2, p3, p4, p5⟩ := hV
  have hc := hI.cs
  refine ⟨p1, p2, p3, p4, p5, 100, 1200, by omega, by omega, by decide, by decide, And.intro hC.x7 (cO_slope hC hI (by omega) (fun ha1 ha2 hn1 hn2 hn3 hu fr to mi st q hb efr eto emi est eq σ' lab' ad' e7 hC' => ?_) (fun g => Or.inl ⟨rfl, ?_⟩) (fun ha1 ha2 g => Or.inr (Or.inl ⟨rfl, ?_⟩)) (fun ha1 ha2 hn1 hn2 hn3 g => Or.inr (Or.inr ⟨rfl, ?_⟩)))⟩
  · refine ⟨p1, p2, p3, p4, p5, rO_slope hR hI (fun _ _ _ _ _ _ fr' to' mi' st' q' hb' efr' eto' emi' est' eq' ρ' hR' hz => ?_) (fun g => (g ⟨ha1, ha2⟩).elim) (fun _ _ g => (g ⟨hn1, hn2, hn3⟩).elim) (fun _ _ _ _ _ g => (g hu).elim)⟩
    obtain rfl : fr' = fr := nIi (N := 1000) (by decide) (by omega) (by omega) efr' efr
    obtain rfl : to' = to := nIi (N := 1000) (by decide) (by omega) (by omega) eto' eto
    obtain rfl : mi' = mi := nIi (N := 1000) (by decide) (by omega) (by omega) emi' emi
    obtain rfl : st' = st := nIi (N := 1000) (by decide) (by omega) (by omega) est' est
    obtain rfl : q' = q := nIi (N := 1000) (by decide) (by omega) (by omega) eq' eq
    exact lt_o hz rfl (kk.go 100 1200 (by decide) (by decide) hC' e7 hR' (slope_MI hI hu (by omega) (by omega) (by omega) (by omega) (by omega)).up (hT.o rfl))
  · exact ⟨p1, p2, p3, p4, p5, rO_slope hR hI (fun ha1 ha2 _ _ _ _ => (g ⟨ha1, ha2⟩).elim) (fun _ ρ' hR' hz => lt_x hz (by decide) (kk.go 100 1200 (by decide) (by decide) hC rfl hR' hI.up hT)) (fun ha1 ha2 _ => (g ⟨ha1, ha2⟩).elim) (fun ha1 ha2 _ _ _ _ => (g ⟨ha1, ha2⟩).elim)⟩
  · exact ⟨p1, p2, p3, p4, p5, rO_slope hR hI (fun _ _ hn1 hn2 hn3 _ => (g ⟨hn1, hn2, hn3⟩).elim) (fun g => (g ⟨ha1, ha2⟩).elim) (fun _ _ _ ρ' hR' hz => lt_x hz (by decide) (kk.go 100 1200 (by decide) (by decide) hC rfl hR' hI.up hT)) (fun _ _ hn1 hn2 hn3 _ => (g ⟨hn1, hn2, hn3⟩).elim)⟩
  · exact ⟨p1, p2, p3, p4, p5, rO_slope hR hI (fun _ _ _ _ _ hu => (g hu).elim) (fun g => (g ⟨ha1, ha2⟩).elim) (fun _ _ g => (g ⟨hn1, hn2, hn3⟩).elim) (fun _ _ _ _ _ _ ρ' hR' hz => lt_x hz (by decide) (kk.go 100 1200 (by decide) (by decide) hC rfl hR' hI.up hT))⟩
theorem law_b4 (hC : CRep s.1 lab ad μ) (hx : ad 7 0 = v1) (hR : RR s.2.1 μ) (hI : MI μ j) (hT : TB μ) (hj : j < 512) (hV : VP L v4) (hk : k + 100 ≤ mc ∧ n + 6110 ≤ ms) (kk : LK K23 v1 j k n v4) : vp_in (v4 + 1) L ∧ k + 2 ≤ mc ∧ n + 406 ≤ ms ∧ wpL_rule_0 (fun r63 t64 => vp_in (v4 + 1) L ∧ wpR_rule_0 (fun r66 t67 => wpR_thrown_0 (fun r68 t69 => (r68 = r63 → (¬ r63 = 0 → wpW_law_519 mc ms L xs post K23 (t64.1, (t69, t64.2)) (k + 2) (n + 406) v1 v4) ∧ (r63 = 0 → ((lg_cmp (t64.2 0) r66.toInt64) = 0 → wpW_law_519 mc ms L xs post K23 (t64.1, (t69, t64.2)) (k + 2) (n + 406) v1 v4) ∧ (¬ (lg_cmp (t64.2 0) r66.toInt64) = 0 → k + 2 ≤ mc ∧ n + 406 ≤ ms ∧ post 0 (t64.1, (t69, t64.2))))) ∧ (¬ r68 = r63 → k + 2 ≤ mc ∧ n + 406 ≤ ms ∧ post 0 (t64.1, (t69, t64.2)))) t67) s.2.1 (xs (v4 + 1).toNatClampNeg)) (s.1, s.2.2) v1 (xs (v4 + 1).toNatClampNeg) := by
  subst hx
  obtain ⟨p1, p2, p3, p4, p5⟩ := hV
  have hc := hI.cs
  obtain ⟨b, hb⟩ := id hT
  have h2 : (2 : Nat) ^ μ.1 9 ≤ 2 ^ 10 := Nat.pow_le_pow_right (by decide) (by omega)
  have h1024 : ∀ R : Nat → Nat, rgB R (μ.1 9) (μ.1 9) < 1024 := fun R => Nat.lt_of_lt_of_le (rgB_lt _) h2
  refine ⟨p1, by omega, by omega, And.intro hC.x7 (cO_rule hC hI hb (fun g σ' hC' => Or.inl ⟨rfl, ?_⟩) (fun i hi e g2 σ' hC' => Or.inr (Or.inl ⟨rfl, ?_⟩)) (fun i hi e g2 g3 σ' hC' => Or.inr (Or.inr ⟨rfl, ?_⟩)) (fun i hi e g2 g3 σ' lab' ad' e7 hC' => ?_))⟩
  · exact ⟨p1, rO_rule hR hI hb (fun _ ρ' hR' hz => lt_x hz (by decide) (kk.go 2 406 (by decide) (by decide) hC' rfl hR' (MI_1 hI (Or.inl ⟨rfl, Nat.zero_le _⟩)).up (hT.o rfl))) (fun i' hi' e' => (no_lt (by omega) e' hi' g).elim) (fun i' hi' e' => (no_lt (by omega) e' hi' g).elim) (fun i' hi' e' => (no_lt (by omega) e' hi' g).elim)⟩
  · exact ⟨p1, rO_rule hR hI hb (fun g => (no_lt (by omega) e hi g).elim) (fun _ _ _ _ ρ' hR' hz => lt_x hz (by decide) (kk.go 2 406 (by decide) (by decide) hC' rfl hR' (mR0_MI hI (by decide)).up (hT.o (mR0_3 (by decide))))) (fun _ _ _ z => absurd (z.symm.trans g2) (by decide)) (fun _ _ _ z => absurd (z.symm.trans g2) (by decide))⟩
  · refine ⟨p1, rO_rule hR hI hb (fun g => (no_lt (by omega) e hi g).elim) (fun _ _ _ z => absurd (z.symm.trans g2) (by decide)) (fun i' hi' e' _ _ ρ' hR' hz => ?_) (fun i' hi' e' _ z => ?_)⟩
    · obtain rfl : i' = i := nIi (N := μ.1 9) (by omega) (by omega) (by omega) e' e
      exact lt_x hz (by decide) (kk.go 2 406 (by decide) (by decide) hC' rfl hR' (mR0_MI hI (h1024 _)).up (hT.o (mR0_3 (by decide))))
    · obtain rfl : i' = i := nIi (N := μ.1 9) (by omega) (by omega) (by omega) e' e
      exact absurd z g3
  · refine ⟨p1, rO_rule hR hI hb (fun g => (no_lt (by omega) e hi g).elim) (fun _ _ _ z => absurd (z.symm.trans g2) (by decide)) (fun i' hi' e' _ z => ?_) (fun i' hi' e' _ _ ρ' hR' hz => ?_)⟩
    · obtain rfl : i' = i := nIi (N := μ.1 9) (by omega) (by omega) (by omega) e' e
      exact absurd g3 z
    · obtain rfl : i' = i := nIi (N := μ.1 9) (by omega) (by omega) (by omega) e' e
      obtain ⟨o1, o2, o3⟩ := pAll_ok g2
      exact lt_o hz rfl (kk.go 2 406 (by decide) (by decide) hC' e7 hR' (mRul_MI hI hi (by omega) o2 o3 (rgB_0 _ g3)).up (hT.o (mR0_3 (μ := μ) (pl := -1) (rg := 0) (k := 1) (by decide))))
theorem law_b5 (hC : CRep s.1 lab ad μ) (hx : ad 7 0 = v1) (hR : RR s.2.1 μ) (hI : MI μ j) (hT : TB μ) (hj : j < 512) (hV : VP L v4) (hk : k + 100 ≤ mc ∧ n + 6110 ≤ ms) (kk : LK K23 v1 j k n v4) : vp_in (v4 + 1) L ∧ k + 1 ≤ mc ∧ n + 6 ≤ ms ∧ wpL_unrule_0 (fun r73 t74 => vp_in (v4 + 1) L ∧ wpR_unrule_0 (fun r76 t77 => wpR_thrown_0 (fun r78 t79 => (r78 = r73 → (¬ r73 = 0 → wpW_law_582 mc ms L xs post K23 (t74.1, (t79, t74.2)) (k + 1) (n + 6) v1 v4) ∧ (r73 = 0 → (r76 = 0 → wpW_law_576 mc ms L xs post K23 (t74.1, (t79, t74.2)) (k + 1) (n + 6) v1 v4 (t74.2 0) 0) ∧ (¬ r76 = 0 → wpW_law_576 mc ms L xs post K23 (t74.1, (t79, t74.2)) (k + 1) (n + 6) v1 v4 (t74.2 0) 1))) ∧ (¬ r78 = r73 → k + 1 ≤ mc ∧ n + 6 ≤ ms ∧ post 0 (t74.1, (t79, t74.2)))) t77) s.2.1 (xs (v4 + 1).toNatClampNeg)) (s.1, s.2.2) v1 (xs (v4 + 1).toNatClampNeg) := by
  subst hx
  obtain ⟨p1, p2, p3, p4, p5⟩ := hV
  have hc := hI.cs
  refine ⟨p1, by omega, by omega, And.intro hC.x7 (cO_unrule hC hI (fun i hi e σ' hC' => ?_) (fun g => ⟨rfl, ?_⟩))⟩
  · refine And.intro (fun z => And.intro vin0 ⟨p1, ?_⟩) (fun z => And.intro vin0 ⟨p1, ?_⟩)
    · refine rO_unrule hR hI (fun i' hi' e' ρ' hR' hz => ?_) (fun g => (no_lt (by omega) e hi g).elim)
      obtain rfl : i' = i := nIi (N := μ.1 9) (by omega) (by omega) (by omega) e' e
      exact ⟨fun _ => ⟨fun g => absurd rfl g, fun _ => ⟨fun _ => lt_q (up_0 (f := s.2.2)) (kk.go 1 6 (by decide) (by decide) hC' rfl hR' (MI_unrule hI hi).up (hT.o rfl)), fun z' => absurd z z'⟩⟩, fun g => absurd hz g⟩
    · refine rO_unrule hR hI (fun i' hi' e' ρ' hR' hz => ?_) (fun g => (no_lt (by omega) e hi g).elim)
      obtain rfl : i' = i := nIi (N := μ.1 9) (by omega) (by omega) (by omega) e' e
      exact ⟨fun _ => ⟨fun g => absurd rfl g, fun _ => ⟨fun z' => absurd z' z, fun _ => lt_q (up_0 (f := s.2.2)) (kk.go 1 6 (by decide) (by decide) hC' rfl hR' (MI_unrule hI hi).up (hT.o rfl))⟩⟩, fun g => absurd hz g⟩
  · refine ⟨p1, rO_unrule hR hI (fun i' hi' e' => (no_lt (by omega) e' hi' g).elim) (fun _ ρ' hR' hz => lt_x hz (by decide) (kk.go 1 6 (by decide) (by decide) hC rfl hR' hI.up hT))⟩
theorem law_b6 (hC : CRep s.1 lab ad μ) (hx : ad 7 0 = v1) (hR : RR s.2.1 μ) (hI : MI μ j) (hT : TB μ) (hj : j < 512) (hV : VP L v4) (hk : k + 100 ≤ mc ∧ n + 6110 ≤ ms) (kk : LK K23 v1 j k n v4) : vp_in (v4 + 1) L ∧ cAt s.1 7 v1 ∧ wpC_X7_fault_0 (fun r83 t84 => vp_in (v4 + 1) L ∧ wpR_fault_0 (fun r85 t86 => (r83 = r85 → wpW_law_1707 mc ms L xs post K23 (t84, (t86, s.2.2)) k n v1 v4) ∧ (¬ r83 = r85 → k ≤ mc ∧ n ≤ ms ∧ post 0 (t84, (t86, s.2.2)))) s.2.1 (xs (v4 + 1).toNatClampNeg)) s.1 v1 (xs (v4 + 1).toNatClampNeg) := by
  subst hx
  obtain ⟨p1, p2, p3, p4, p5⟩ := hV
  have hc := hI.cs
  refine ⟨p1, hC.x7, cO_fault hC ?_⟩
  exact ⟨p1, rO_fault hR (fun ρ' hR' => lt_e rfl (kk.go0 hC rfl hR' hI.up hT))⟩
theorem law_b7 (hC : CRep s.1 lab ad μ) (hx : ad 7 0 = v1) (hR : RR s.2.1 μ) (hI : MI μ j) (hT : TB μ) (hj : j < 512) (hV : VP L v4) (hk : k + 100 ≤ mc ∧ n + 6110 ≤ ms) (kk : LK K23 v1 j k n v4) : vp_in (v4 + 1) L ∧ k + 1 ≤ mc ∧ n + 6 ≤ ms ∧ wpL_open_0 (fun r88 t89 => vp_in (v4 + 1) L ∧ wpR_open_0 (fun r91 t92 => wpR_thrown_0 (fun r93 t94 => (r93 = r88 → (¬ r88 = 0 → wpW_law_670 mc ms L xs post K23 (t89.1, (t94, t89.2)) (k + 1) (n + 6) v1 v4) ∧ (r88 = 0 → (r91 = 0 → wpW_law_664 mc ms L xs post K23 (t89.1, (t94, t89.2)) (k + 1) (n + 6) v1 v4 (t89.2 0) 0) ∧ (¬ r91 = 0 → wpW_law_664 mc ms L xs post K23 (t89.1, (t94, t89.2)) (k + 1) (n + 6) v1 v4 (t89.2 0) 1))) ∧ (¬ r93 = r88 → k + 1 ≤ mc ∧ n + 6 ≤ ms ∧ post 0 (t89.1, (t94, t89.2)))) t92) s.2.1 (xs (v4 + 1).toNatClampNeg)) (s.1, s.2.2) v1 (xs (v4 + 1).toNatClampNeg) := by
  subst hx
  obtain ⟨p1, p2, p3, p4, p5⟩ := hV
  have hc := hI.cs
  refine ⟨p1, by omega, by omega, And.intro hC.x7 (cO_open hC hI (by omega) (fun i hi e => ?_) (fun g => ⟨rfl, ?_⟩))⟩
  · refine And.intro (fun z => And.intro vin0 ⟨p1, ?_⟩) (fun z => And.intro vin0 ⟨p1, ?_⟩)
    · refine rO_open hR hI (by omega) (fun i' hi' e' ρ' hR' hz => ?_) (fun g => (no_lt (by omega) e hi g).elim)
      obtain rfl : i' = i := nIi (N := μ.1 9) (by omega) (by omega) (by omega) e' e
      exact ⟨fun _ => ⟨fun g => absurd rfl g, fun _ => ⟨fun _ => lt_q (up_0 (f := s.2.2)) (kk.go 1 6 (by decide) (by decide) hC rfl hR' hI.up hT), fun z' => absurd z z'⟩⟩, fun g => absurd hz g⟩
    · refine rO_open hR hI (by omega) (fun i' hi' e' ρ' hR' hz => ?_) (fun g => (no_lt (by omega) e hi g).elim)
      obtain rfl : i' = i := nIi (N := μ.1 9) (by omega) (by omega) (by omega) e' e
      exact ⟨fun _ => ⟨fun g => absurd rfl g, fun _ => ⟨fun z' => absurd z' z, fun _ => lt_q (up_0 (f := s.2.2)) (kk.go 1 6 (by decide) (by decide) hC rfl hR' hI.up hT)⟩⟩, fun g => absurd hz g⟩
  · refine ⟨p1, rO_open hR hI (by omega) (fun i' hi' e' => (no_lt (by omega) e' hi' g).elim) (fun _ ρ' hR' hz => lt_x hz (by decide) (kk.go 1 6 (by decide) (by decide) hC rfl hR' hI.up hT))⟩
theorem law_b8 (hC : CRep s.1 lab ad μ) (hx : ad 7 0 = v1) (hR : RR s.2.1 μ) (hI : MI μ j) (hT : TB μ) (hj : j < 512) (hV : VP L v4) (hk : k + 100 ≤ mc ∧ n + 6110 ≤ ms) (kk : LK K23 v1 j k n v4) : vp_in (v4 + 1) L ∧ k + 1 ≤ mc ∧ n + 6 ≤ ms ∧ wpL_runs_0 (fun r98 t99 => vp_in (v4 + 1) L ∧ wpR_runs_0 (fun r101 t102 => wpR_thrown_0 (fun r103 t104 => (r103 = r98 → (¬ r98 = 0 → wpW_law_733 mc ms L xs post K23 (t99.1, (t104, t99.2)) (k + 1) (n + 6) v1 v4) ∧ (r98 = 0 → (r101 = 0 → wpW_law_727 mc ms L xs post K23 (t99.1, (t104, t99.2)) (k + 1) (n + 6) v1 v4 (t99.2 0) 0) ∧ (¬ r101 = 0 → wpW_law_727 mc ms L xs post K23 (t99.1, (t104, t99.2)) (k + 1) (n + 6) v1 v4 (t99.2 0) 1))) ∧ (¬ r103 = r98 → k + 1 ≤ mc ∧ n + 6 ≤ ms ∧ post 0 (t99.1, (t104, t99.2)))) t102) s.2.1 (xs (v4 + 1).toNatClampNeg)) (s.1, s.2.2) v1 (xs (v4 + 1).toNatClampNeg) := by
  subst hx
  obtain ⟨p1, p2, p3, p4, p5⟩ := hV
  have hc := hI.cs
  refine ⟨p1, by omega, by omega, And.intro hC.x7 (cO_runs hC hI (fun i hi e => ?_) (fun g => ⟨rfl, ?_⟩))⟩
  · refine And.intro (fun z => And.intro vin0 ⟨p1, ?_⟩) (fun z => And.intro vin0 ⟨p1, ?_⟩)
    · refine rO_runs hR hI (fun i' hi' e' ρ' hR' hz => ?_) (fun g => (no_lt (by omega) e hi g).elim)
      obtain rfl : i' = i := nIi (N := μ.1 7) (by omega) (by omega) (by omega) e' e
      exact ⟨fun _ => ⟨fun g => absurd rfl g, fun _ => ⟨fun _ => lt_q (up_0 (f := s.2.2)) (kk.go 1 6 (by decide) (by decide) hC rfl hR' hI.up hT), fun z' => absurd z z'⟩⟩, fun g => absurd hz g⟩
    · refine rO_runs hR hI (fun i' hi' e' ρ' hR' hz => ?_) (fun g => (no_lt (by omega) e hi g).elim)
      obtain rfl : i' = i := nIi (N := μ.1 7) (by omega) (by omega) (by omega) e' e
      exact ⟨fun _ => ⟨fun g => absurd rfl g, fun _ => ⟨fun z' => absurd z' z, fun _ => lt_q (up_0 (f := s.2.2)) (kk.go 1 6 (by decide) (by decide) hC rfl hR' hI.up hT)⟩⟩, fun g => absurd hz g⟩
  · refine ⟨p1, rO_runs hR hI (fun i' hi' e' => (no_lt (by omega) e' hi' g).elim) (fun _ ρ' hR' hz => lt_x hz (by decide) (kk.go 1 6 (by decide) (by decide) hC rfl hR' hI.up hT))⟩
theorem law_b9 (hC : CRep s.1 lab ad μ) (hx : ad 7 0 = v1) (hR : RR s.2.1 μ) (hI : MI μ j) (hT : TB μ) (hj : j < 512) (hV : VP L v4) (hk : k + 100 ≤ mc ∧ n + 6110 ≤ ms) (kk : LK K23 v1 j k n v4) : vp_in (v4 + 1) L ∧ k + 1 ≤ mc ∧ n + 6 ≤ ms ∧ wpL_wind_0 (fun r108 t109 => vp_in (v4 + 1) L ∧ wpR_wind_0 (fun t112 => wpR_thrown_0 (fun r113 t114 => (r113 = r108 → wpW_law_1707 mc ms L xs post K23 (t109.1, (t114, t109.2)) (k + 1) (n + 6) v1 v4) ∧ (¬ r113 = r108 → k + 1 ≤ mc ∧ n + 6 ≤ ms ∧ post 0 (t109.1, (t114, t109.2)))) t112) s.2.1 (xs (v4 + 1).toNatClampNeg)) (s.1, s.2.2) v1 (xs (v4 + 1).toNatClampNeg) := by
  subst hx
  obtain ⟨p1, p2, p3, p4, p5⟩ := hV
  have hc := hI.cs
  refine ⟨p1, by omega, by omega, And.intro hC.x7 (cO_wind hC (fun a ha e σ' hC' => ?_) (fun g => ⟨rfl, ?_⟩))⟩
  · refine ⟨p1, rO_wind hR (fun a' ha' e' ρ' hR' hz => ?_) (fun g => (no_le (N := 300) rfl (by decide) e ha g).elim)⟩
    obtain rfl : a' = a := nIi (N := 300) (by decide) ha' ha e' e
    exact lt_e hz (kk.go 1 6 (by decide) (by decide) hC' rfl hR' (MI_1 hI (Or.inr ⟨rfl, ha⟩)).up (hT.o rfl))
  · exact ⟨p1, rO_wind hR (fun a' ha' e' => (no_le (N := 300) rfl (by decide) e' ha' g).elim) (fun _ ρ' hR' hz => lt_e hz (kk.go 1 6 (by decide) (by decide) hC rfl hR' hI.up hT))⟩
theorem law_b10 (hC : CRep s.1 lab ad μ) (hx : ad 7 0 = v1) (hR : RR s.2.1 μ) (hI : MI μ j) (hT : TB μ) (hj : j < 512) (hV : VP L v4) (hk : k + 100 ≤ mc ∧ n + 6110 ≤ ms) (kk : LK K23 v1 j k n v4) : vp_in (v4 + 1) L ∧ vp_in (v4 + 2) L ∧ ((xs (v4 + 2).toNatClampNeg) = 0 → wpW_law_793 mc ms L xs post K23 s k n v1 v4 v1 (xs (v4 + 1).toNatClampNeg) 0) ∧ (¬ (xs (v4 + 2).toNatClampNeg) = 0 → wpW_law_793 mc ms L xs post K23 s k n v1 v4 v1 (xs (v4 + 1).toNatClampNeg) 1) := by
  subst hx
  obtain ⟨p1, p2, p3, p4, p5⟩ := hV
  have hc := hI.cs
  refine ⟨p1, p2, fun c => ?_, fun c => ?_⟩
  ·
    refine And.intro (by omega) (And.intro (by omega) (And.intro hC.x7 (cO_stop (w := 0) (by decide) hC hI (fun i hi e σ' hC' => ?_) (fun g => ⟨rfl, ?_⟩))))
    · refine And.intro (fun z => And.intro vin0 ⟨p1, p2, ?_⟩) (fun z => And.intro vin0 ⟨p1, p2, ?_⟩)
      · refine (pk0 c (rO_stop (w := 0) (by decide) hR hI (fun i' hi' e' ρ' hR' hz => ?_) (fun g => (no_lt (by omega) e hi g).elim)))
        obtain rfl : i' = i := nIi (N := μ.1 7) (by omega) (by omega) (by omega) e' e
        exact ⟨fun _ => ⟨fun g => absurd rfl g, fun _ => ⟨fun _ => lt_q (up_0 (f := s.2.2)) (kk.go 1 6 (by decide) (by decide) hC' rfl hR' (MI_stop hI hi (by decide)).up (hT.o rfl)), fun z' => absurd z z'⟩⟩, fun g => absurd hz g⟩
      · refine (pk0 c (rO_stop (w := 0) (by decide) hR hI (fun i' hi' e' ρ' hR' hz => ?_) (fun g => (no_lt (by omega) e hi g).elim)))
        obtain rfl : i' = i := nIi (N := μ.1 7) (by omega) (by omega) (by omega) e' e
        exact ⟨fun _ => ⟨fun g => absurd rfl g, fun _ => ⟨fun z' => absurd z' z, fun _ => lt_q (up_0 (f := s.2.2)) (kk.go 1 6 (by decide) (by decide) hC' rfl hR' (MI_stop hI hi (by decide)).up (hT.o rfl))⟩⟩, fun g => absurd hz g⟩
    · refine ⟨p1, p2, (pk0 c (rO_stop (w := 0) (by decide) hR hI (fun i' hi' e' => (no_lt (by omega) e' hi' g).elim) (fun _ ρ' hR' hz => lt_x hz (by decide) (kk.go 1 6 (by decide) (by decide) hC rfl hR' hI.up hT))))⟩
  ·
    refine And.intro (by omega) (And.intro (by omega) (And.intro hC.x7 (cO_stop (w := 1) (by decide) hC hI (fun i hi e σ' hC' => ?_) (fun g => ⟨rfl, ?_⟩))))
    · refine And.intro (fun z => And.intro vin0 ⟨p1, p2, ?_⟩) (fun z => And.intro vin0 ⟨p1, p2, ?_⟩)
      · refine (pk1 c (rO_stop (w := 1) (by decide) hR hI (fun i' hi' e' ρ' hR' hz => ?_) (fun g => (no_lt (by omega) e hi g).elim)))
        obtain rfl : i' = i := nIi (N := μ.1 7) (by omega) (by omega) (by omega) e' e
        exact ⟨fun _ => ⟨fun g => absurd rfl g, fun _ => ⟨fun _ => lt_q (up_0 (f := s.2.2)) (kk.go 1 6 (by decide) (by decide) hC' rfl hR' (MI_stop hI hi (by decide)).up (hT.o rfl)), fun z' => absurd z z'⟩⟩, fun g => absurd hz g⟩
      · refine (pk1 c (rO_stop (w := 1) (by decide) hR hI (fun i' hi' e' ρ' hR' hz => ?_) (fun g => (no_lt (by omega) e hi g).elim)))
        obtain rfl : i' = i := nIi (N := μ.1 7) (by omega) (by omega) (by omega) e' e
        exact ⟨fun _ => ⟨fun g => absurd rfl g, fun _ => ⟨fun z' => absurd z' z, fun _ => lt_q (up_0 (f := s.2.2)) (kk.go 1 6 (by decide) (by decide) hC' rfl hR' (MI_stop hI hi (by decide)).up (hT.o rfl))⟩⟩, fun g => absurd hz g⟩
    · refine ⟨p1, p2, (pk1 c (rO_stop (w := 1) (by decide) hR hI (fun i' hi' e' => (no_lt (by omega) e' hi' g).elim) (fun _ ρ' hR' hz => lt_x hz (by decide) (kk.go 1 6 (by decide) (by decide) hC rfl hR' hI.up hT))))⟩
theorem law_b11 (hC : CRep s.1 lab ad μ) (hx : ad 7 0 = v1) (hR : RR s.2.1 μ) (hI : MI μ j) (hT : TB μ) (hj : j < 512) (hV : VP L v4) (hk : k + 100 ≤ mc ∧ n + 6110 ≤ ms) (kk : LK K23 v1 j k n v4) : vp_in (v4 + 1) L ∧ vp_in (v4 + 2) L ∧ vp_in (v4 + 3) L ∧ ∃ m120 m121 : Nat, k + m120 ≤ mc ∧ n + m121 ≤ ms ∧ 1 ≤ m120 ∧ 6 ≤ m121 ∧ wpL_group_0 m120 m121 (fun r117 t118 => vp_in (v4 + 1) L ∧ vp_in (v4 + 2) L ∧ vp_in (v4 + 3) L ∧ wpR_group_0 (fun r122 t123 => wpR_thrown_0 (fun r124 t125 => (r124 = r117 → (¬ r117 = 0 → wpW_law_940 mc ms L xs post K23 (t118.1, (t125, t118.2)) (k + m120) (n + m121) v1 v4) ∧ (r117 = 0 → ((lg_cmp (t118.2 0) r122.toInt64) = 0 → wpW_law_940 mc ms L xs post K23 (t118.1, (t125, t118.2)) (k + m120) (n + m121) v1 v4) ∧ (¬ (lg_cmp (t118.2 0) r122.toInt64) = 0 → k + m120 ≤ mc ∧ n + m121 ≤ ms ∧ post 0 (t118.1, (t125, t118.2))))) ∧ (¬ r124 = r117 → k + m120 ≤ mc ∧ n + m121 ≤ ms ∧ post 0 (t118.1, (t125, t118.2)))) t123) s.2.1 (xs (v4 + 1).toNatClampNeg) (xs (v4 + 2).toNatClampNeg) (xs (v4 + 3).toNatClampNeg)) (s.1, s.2.2) v1 (xs (v4 + 1).toNatClampNeg) (xs (v4 + 2).toNatClampNeg) (xs (v4 + 3).toNatClampNeg) := by
  subst hx
  obtain ⟨p1, p2, p3, p4, p5⟩ := hV
  have hc := hI.cs
  refine ⟨p1, p2, p3, 100, 400, by omega, by omega, by decide, by decide, And.intro hC.x7 (cO_group hC hI (by omega) (fun ha1 hn1 hn2 hu sz sk pl hb esz esk epl σ' lab' ad' e7 hC' => ?_) (fun g => Or.inl ⟨rfl, ?_⟩) (fun ha1 g => Or.inr (Or.inl ⟨rfl, ?_⟩)) (fun ha1 hn1 hn2 g => Or.inr (Or.inr ⟨rfl, ?_⟩)))⟩
  · refine ⟨p1, p2, p3, rO_group hR hI (fun _ _ _ _ sz' sk' pl' hb' esz' esk' epl' ρ' hR' hz => ?_) (fun g => (g ha1).elim) (fun _ g => (g ⟨hn1, hn2⟩).elim) (fun _ _ _ g => (g hu).elim)⟩
    obtain rfl : sz' = sz := nIi (N := 1000) (by decide) (by omega) (by omega) esz' esz
    obtain rfl : sk' = sk := nIi (N := 1000) (by decide) (by omega) (by omega) esk' esk
    obtain rfl : pl' = pl := nIi (N := 1000) (by decide) (by omega) (by omega) epl' epl
    exact lt_o hz rfl (kk.go 100 400 (by decide) (by decide) hC' e7 hR' (group_MI hI hu (by omega) (by omega) (by omega)).up (hT.o rfl))
  · exact ⟨p1, p2, p3, rO_group hR hI (fun ha1 _ _ _ => (g ha1).elim) (fun _ ρ' hR' hz => lt_x hz (by decide) (kk.go 100 400 (by decide) (by decide) hC rfl hR' hI.up hT)) (fun ha1 _ => (g ha1).elim) (fun ha1 _ _ _ => (g ha1).elim)⟩
  · exact ⟨p1, p2, p3, rO_group hR hI (fun _ hn1 hn2 _ => (g ⟨hn1, hn2⟩).elim) (fun g => (g ha1).elim) (fun _ _ ρ' hR' hz => lt_x hz (by decide) (kk.go 100 400 (by decide) (by decide) hC rfl hR' hI.up hT)) (fun _ hn1 hn2 _ => (g ⟨hn1, hn2⟩).elim)⟩
  · exact ⟨p1, p2, p3, rO_group hR hI (fun _ _ _ hu => (g hu).elim) (fun g => (g ha1).elim) (fun _ g => (g ⟨hn1, hn2⟩).elim) (fun _ _ _ _ ρ' hR' hz => lt_x hz (by decide) (kk.go 100 400 (by decide) (by decide) hC rfl hR' hI.up hT))⟩
theorem law_b12 (hC : CRep s.1 lab ad μ) (hx : ad 7 0 = v1) (hR : RR s.2.1 μ) (hI : MI μ j) (hT : TB μ) (hj : j < 512) (hV : VP L v4) (hk : k + 100 ≤ mc ∧ n + 6110 ≤ ms) (kk : LK K23 v1 j k n v4) : vp_in (v4 + 1) L ∧ ∃ m132 m133 : Nat, k + m132 ≤ mc ∧ n + m133 ≤ ms ∧ 1 ≤ m132 ∧ 6 ≤ m133 ∧ wpL_step_0 m132 m133 (fun r129 t130 => vp_in (v4 + 1) L ∧ wpR_step_0 (fun r134 t135 => wpR_thrown_0 (fun r136 t137 => (r136 = r129 → (¬ r129 = 0 → wpW_law_996 mc ms L xs post K23 (t130.1, (t137, t130.2)) (k + m132) (n + m133) v1 v4) ∧ (r129 = 0 → ((lg_cmp (t130.2 0) r134.toInt64) = 0 → wpW_law_996 mc ms L xs post K23 (t130.1, (t137, t130.2)) (k + m132) (n + m133) v1 v4) ∧ (¬ (lg_cmp (t130.2 0) r134.toInt64) = 0 → k + m132 ≤ mc ∧ n + m133 ≤ ms ∧ post 0 (t130.1, (t137, t130.2))))) ∧ (¬ r136 = r129 → k + m132 ≤ mc ∧ n + m133 ≤ ms ∧ post 0 (t130.1, (t137, t130.2)))) t135) s.2.1 (xs (v4 + 1).toNatClampNeg)) (s.1, s.2.2) v1 (xs (v4 + 1).toNatClampNeg) := by
  subst hx
  obtain ⟨p1, p2, p3, p4, p5⟩ := hV
  have hc := hI.cs
  refine ⟨p1, 100, 6110, by omega, by omega, by decide, by decide, And.intro hC.x7 (cO_step hC hI hj (by decide) (by decide) (fun a ha e σ' lab' hC' => ?_) (fun g => ⟨rfl, ?_⟩))⟩
  · refine ⟨p1, rO_step hR hI hj (fun a' ha' e' ρ' hR' hz => ?_) (fun g => (no_le (N := 600) rfl (by decide) e ha g).elim)⟩
    obtain rfl : a' = a := nIi (N := 600) (by decide) ha' ha e' e
    exact lt_o hz rfl (kk.go 100 6110 (by decide) (by decide) hC' rfl hR' (mStp_MI hI _ ha).1 (hT.o (congrFun (mStp_3 _) 1)))
  · exact ⟨p1, rO_step hR hI hj (fun a' ha' e' => (no_le (N := 600) rfl (by decide) e' ha' g).elim) (fun _ ρ' hR' hz => lt_x hz (by decide) (kk.go 100 6110 (by decide) (by decide) hC rfl hR' hI.up hT))⟩
theorem law_b13 (hC : CRep s.1 lab ad μ) (hx : ad 7 0 = v1) (hR : RR s.2.1 μ) (hI : MI μ j) (hT : TB μ) (hj : j < 512) (hV : VP L v4) (hk : k + 100 ≤ mc ∧ n + 6110 ≤ ms) (kk : LK K23 v1 j k n v4) : vp_in (v4 + 1) L ∧ vp_in (v4 + 2) L ∧ k + 1 ≤ mc ∧ n + 6 ≤ ms ∧ wpL_look_0 (fun r141 t142 => vp_in (v4 + 1) L ∧ vp_in (v4 + 2) L ∧ wpR_look_0 (fun r144 t145 => wpR_thrown_0 (fun r146 t147 => (r146 = r141 → (¬ r141 = 0 → wpW_law_1064 mc ms L xs post K23 (t142.1, (t147, t142.2)) (k + 1) (n + 6) v1 v4) ∧ (r141 = 0 → ((lg_cmp (t142.2 0) r144.toInt64) = 0 → wpW_law_1064 mc ms L xs post K23 (t142.1, (t147, t142.2)) (k + 1) (n + 6) v1 v4) ∧ (¬ (lg_cmp (t142.2 0) r144.toInt64) = 0 → k + 1 ≤ mc ∧ n + 6 ≤ ms ∧ post 0 (t142.1, (t147, t142.2))))) ∧ (¬ r146 = r141 → k + 1 ≤ mc ∧ n + 6 ≤ ms ∧ post 0 (t142.1, (t147, t142.2)))) t145) s.2.1 (xs (v4 + 1).toNatClampNeg) (xs (v4 + 2).toNatClampNeg)) (s.1, s.2.2) v1 (xs (v4 + 1).toNatClampNeg) (xs (v4 + 2).toNatClampNeg) := by
  subst hx
  obtain ⟨p1, p2, p3, p4, p5⟩ := hV
  have hc := hI.cs
  refine ⟨p1, p2, by omega, by omega, And.intro hC.x7 (cO_look hC hI (fun c hc e q hq eq => ?_) (fun c hc e g => Or.inr ⟨rfl, ?_⟩) (fun g => Or.inl ⟨rfl, ?_⟩))⟩
  · refine ⟨p1, p2, rO_look hR hI (fun c' hc' e' q' hq' eq' ρ' hR' hz => ?_) (fun _ _ _ g => (no_rgl (N := 4) eq (by omega) (by decide) g).elim) (fun g => (no_lt (by omega) e hc g).elim)⟩
    obtain rfl : c' = c := nIi (N := μ.1 22) (by omega) (by omega) (by omega) e' e
    obtain rfl : q' = q := nIi (N := 5) (by omega) (by omega) (by omega) eq' eq
    exact lt_o hz rfl (kk.go 1 6 (by decide) (by decide) hC rfl hR' hI.up hT)
  · exact ⟨p1, p2, rO_look hR hI (fun _ _ _ q' hq' eq' => (no_rgl (N := 4) eq' (by omega) (by decide) g).elim) (fun _ _ _ _ ρ' hR' hz => lt_x hz (by decide) (kk.go 1 6 (by decide) (by decide) hC rfl hR' hI.up hT)) (fun g => (no_lt (by omega) e hc g).elim)⟩
  · exact ⟨p1, p2, rO_look hR hI (fun c' hc' e' => (no_lt (by omega) e' hc' g).elim) (fun c' hc' e' => (no_lt (by omega) e' hc' g).elim) (fun _ ρ' hR' hz => lt_x hz (by decide) (kk.go 1 6 (by decide) (by decide) hC rfl hR' hI.up hT))⟩
theorem law_b14 (hC : CRep s.1 lab ad μ) (hx : ad 7 0 = v1) (hR : RR s.2.1 μ) (hI : MI μ j) (hT : TB μ) (hj : j < 512) (hV : VP L v4) (hk : k + 100 ≤ mc ∧ n + 6110 ≤ ms) (kk : LK K23 v1 j k n v4) : vp_in (v4 + 1) L ∧ vp_in (v4 + 2) L ∧ k + 1 ≤ mc ∧ n + 6 ≤ ms ∧ wpL_row_0 (fun r151 t152 => vp_in (v4 + 1) L ∧ vp_in (v4 + 2) L ∧ wpR_row_0 (fun r154 t155 => wpR_thrown_0 (fun r156 t157 => (r156 = r151 → (¬ r151 = 0 → wpW_law_1132 mc ms L xs post K23 (t152.1, (t157, t152.2)) (k + 1) (n + 6) v1 v4) ∧ (r151 = 0 → ((lg_cmp (t152.2 0) r154.toInt64) = 0 → wpW_law_1132 mc ms L xs post K23 (t152.1, (t157, t152.2)) (k + 1) (n + 6) v1 v4) ∧ (¬ (lg_cmp (t152.2 0) r154.toInt64) = 0 → k + 1 ≤ mc ∧ n + 6 ≤ ms ∧ post 0 (t152.1, (t157, t152.2))))) ∧ (¬ r156 = r151 → k + 1 ≤ mc ∧ n + 6 ≤ ms ∧ post 0 (t152.1, (t157, t152.2)))) t155) s.2.1 (xs (v4 + 1).toNatClampNeg) (xs (v4 + 2).toNatClampNeg)) (s.1, s.2.2) v1 (xs (v4 + 1).toNatClampNeg) (xs (v4 + 2).toNatClampNeg) := by
  subst hx
  obtain ⟨p1, p2, p3, p4, p5⟩ := hV
  have hc := hI.cs
  have h60 : ∀ l : Nat, l < μ.1 7 → μ.2.1 6 l ≤ 60 := fun l hl => (hI.2.2.2.2.2.1 l hl).1
  refine ⟨p1, p2, by omega, by omega, And.intro hC.x7 (cO_row hC hI (fun c hc e q hq eq => ?_) (fun c hc e g => ?_) (fun g => ⟨rfl, ?_⟩))⟩
  · have hh := h60 c hc
    refine ⟨p1, p2, rO_row hR hI (fun c' hc' e' q' hq' eq' ρ' hR' hz => ?_) (fun c' hc' e' g => ?_) (fun g => (no_lt (by omega) e hc g).elim)⟩
    · obtain rfl : c' = c := nIi (N := μ.1 7) (by omega) (by omega) (by omega) e' e
      obtain rfl : q' = q := nIi (N := μ.2.1 6 c') (by omega) (by omega) (by omega) eq' eq
      exact lt_o hz rfl (kk.go 1 6 (by decide) (by decide) hC rfl hR' hI.up hT)
    · obtain rfl : c' = c := nIi (N := μ.1 7) (by omega) (by omega) (by omega) e' e
      exact (no_lt (by omega) eq hq g).elim
  · have hh := h60 c hc
    refine ⟨p1, p2, rO_row hR hI (fun c' hc' e' q' hq' eq' => ?_) (fun c' hc' e' g' ρ' hR' hz => ?_) (fun g => (no_lt (by omega) e hc g).elim)⟩
    · obtain rfl : c' = c := nIi (N := μ.1 7) (by omega) (by omega) (by omega) e' e
      exact (no_lt (by omega) eq' hq' g).elim
    · exact lt_o hz rfl (kk.go 1 6 (by decide) (by decide) hC rfl hR' hI.up hT)
  · exact ⟨p1, p2, rO_row hR hI (fun c' hc' e' => (no_lt (by omega) e' hc' g).elim) (fun c' hc' e' => (no_lt (by omega) e' hc' g).elim) (fun _ ρ' hR' hz => lt_x hz (by decide) (kk.go 1 6 (by decide) (by decide) hC rfl hR' hI.up hT))⟩
theorem law_b15 (hC : CRep s.1 lab ad μ) (hx : ad 7 0 = v1) (hR : RR s.2.1 μ) (hI : MI μ j) (hT : TB μ) (hj : j < 512) (hV : VP L v4) (hk : k + 100 ≤ mc ∧ n + 6110 ≤ ms) (kk : LK K23 v1 j k n v4) : vp_in (v4 + 1) L ∧ cAt s.1 7 v1 ∧ wpC_X7_people_0 (fun r161 t162 => vp_in (v4 + 1) L ∧ wpR_people_0 (fun r163 t164 => (r161 = r163 → wpW_law_1707 mc ms L xs post K23 (t162, (t164, s.2.2)) k n v1 v4) ∧ (¬ r161 = r163 → k ≤ mc ∧ n ≤ ms ∧ post 0 (t162, (t164, s.2.2)))) s.2.1 (xs (v4 + 1).toNatClampNeg)) s.1 v1 (xs (v4 + 1).toNatClampNeg) := by
  subst hx
  obtain ⟨p1, p2, p3, p4, p5⟩ := hV
  have hc := hI.cs
  refine ⟨p1, hC.x7, cO_people hC hI (fun w hw e => ?_) (fun g => ?_)⟩
  · exact ⟨p1, rO_people hR hI (fun w' hw' e' ρ' hR' => by
      obtain rfl : w' = w := nIi (N := 3) (by decide) hw' hw e' e
      exact lt_e rfl (kk.go0 hC rfl hR' hI.up hT)) (fun g => (no_le (N := 3) rfl (by decide) e hw g).elim)⟩
  · exact ⟨p1, rO_people hR hI (fun w' hw' e' _ _ => (no_le (N := 3) rfl (by decide) e' hw' g).elim) (fun _ ρ' hR' => lt_e rfl (kk.go0 hC rfl hR' hI.up hT))⟩
theorem law_b16 (hC : CRep s.1 lab ad μ) (hx : ad 7 0 = v1) (hR : RR s.2.1 μ) (hI : MI μ j) (hT : TB μ) (hj : j < 512) (hV : VP L v4) (hk : k + 100 ≤ mc ∧ n + 6110 ≤ ms) (kk : LK K23 v1 j k n v4) : vp_in (v4 + 1) L ∧ vp_in (v4 + 2) L ∧ ((xs (v4 + 2).toNatClampNeg) = 0 → wpW_law_1181 mc ms L xs post K23 s k n v1 v4 v1 (xs (v4 + 1).toNatClampNeg) 0) ∧ (¬ (xs (v4 + 2).toNatClampNeg) = 0 → wpW_law_1181 mc ms L xs post K23 s k n v1 v4 v1 (xs (v4 + 1).toNatClampNeg) 1) := by
  subst hx
  obtain ⟨p1, p2, p3, p4, p5⟩ := hV
  have hc := hI.cs
  refine ⟨p1, p2, fun cc => ?_, fun cc => ?_⟩
  ·
    refine And.intro p3 (And.intro (by omega) (And.intro (by omega) (And.intro hC.x7 (cO_snow hC hI (fun c hc e a ha ea q hq σ' μ' hμ hC' => ?_) (fun c hc e g => Or.inr ⟨rfl, ?_⟩) (fun g => Or.inl ⟨rfl, ?_⟩)))))
    · refine ⟨p1, p2, pk0 cc (And.intro p3 (rO_snow hR hI (fun c' hc' e' a' ha' ea' q' hq' ρ' μ'' hμ' hR' hz => ?_) (fun _ _ _ g => (no_le (N := 100000) rfl (by decide) ea ha g).elim) (fun g => (no_lt (by omega) e hc g).elim)))⟩
      obtain rfl : c' = c := nIi (N := μ.1 14) (by omega) (by omega) (by omega) e' e
      obtain rfl : a' = a := nIi (N := 100000) (by omega) (by omega) (by omega) ea' ea
      obtain rfl : q' = q := hq'.trans hq.symm
      obtain rfl : μ'' = μ' := hμ'.trans hμ.symm
      have hq1 : q' ≤ 1 := by rw [hq]; split <;> omega
      have hI' := MI_snow hI hc' hq1 ha'
      rw [← hμ] at hI'
      exact lt_o hz rfl (kk.go 2 12 (by decide) (by decide) hC' rfl hR' hI' (hT.o (by rw [hμ]; rfl)))
    · exact ⟨p1, p2, pk0 cc (And.intro p3 (rO_snow hR hI (fun _ _ _ a' ha' ea' => (no_le (N := 100000) rfl (by decide) ea' ha' g).elim) (fun _ _ _ _ ρ' hR' hz => lt_x hz (by decide) (kk.go 2 12 (by decide) (by decide) hC rfl hR' hI.up hT)) (fun g => (no_lt (by omega) e hc g).elim)))⟩
    · exact ⟨p1, p2, pk0 cc (And.intro p3 (rO_snow hR hI (fun c' hc' e' => (no_lt (by omega) e' hc' g).elim) (fun c' hc' e' => (no_lt (by omega) e' hc' g).elim) (fun _ ρ' hR' hz => lt_x hz (by decide) (kk.go 2 12 (by decide) (by decide) hC rfl hR' hI.up hT))))⟩
  ·
    refine And.intro p3 (And.intro (by omega) (And.intro (by omega) (And.intro hC.x7 (cO_snow hC hI (fun c hc e a ha ea q hq σ' μ' hμ hC' => ?_) (fun c hc e g => Or.inr ⟨rfl, ?_⟩) (fun g => Or.inl ⟨rfl, ?_⟩)))))
    · refine ⟨p1, p2, pk1 cc (And.intro p3 (rO_snow hR hI (fun c' hc' e' a' ha' ea' q' hq' ρ' μ'' hμ' hR' hz => ?_) (fun _ _ _ g => (no_le (N := 100000) rfl (by decide) ea ha g).elim) (fun g => (no_lt (by omega) e hc g).elim)))⟩
      obtain rfl : c' = c := nIi (N := μ.1 14) (by omega) (by omega) (by omega) e' e
      obtain rfl : a' = a := nIi (N := 100000) (by omega) (by omega) (by omega) ea' ea
      obtain rfl : q' = q := hq'.trans hq.symm
      obtain rfl : μ'' = μ' := hμ'.trans hμ.symm
      have hq1 : q' ≤ 1 := by rw [hq]; split <;> omega
      have hI' := MI_snow hI hc' hq1 ha'
      rw [← hμ] at hI'
      exact lt_o hz rfl (kk.go 2 12 (by decide) (by decide) hC' rfl hR' hI' (hT.o (by rw [hμ]; rfl)))
    · exact ⟨p1, p2, pk1 cc (And.intro p3 (rO_snow hR hI (fun _ _ _ a' ha' ea' => (no_le (N := 100000) rfl (by decide) ea' ha' g).elim) (fun _ _ _ _ ρ' hR' hz => lt_x hz (by decide) (kk.go 2 12 (by decide) (by decide) hC rfl hR' hI.up hT)) (fun g => (no_lt (by omega) e hc g).elim)))⟩
    · exact ⟨p1, p2, pk1 cc (And.intro p3 (rO_snow hR hI (fun c' hc' e' => (no_lt (by omega) e' hc' g).elim) (fun c' hc' e' => (no_lt (by omega) e' hc' g).elim) (fun _ ρ' hR' hz => lt_x hz (by decide) (kk.go 2 12 (by decide) (by decide) hC rfl hR' hI.up hT))))⟩
theorem law_b17 (hC : CRep s.1 lab ad μ) (hx : ad 7 0 = v1) (hR : RR s.2.1 μ) (hI : MI μ j) (hT : TB μ) (hj : j < 512) (hV : VP L v4) (hk : k + 100 ≤ mc ∧ n + 6110 ≤ ms) (kk : LK K23 v1 j k n v4) : vp_in (v4 + 1) L ∧ vp_in (v4 + 2) L ∧ k + 2 ≤ mc ∧ n + 12 ≤ ms ∧ wpL_melt_0 (fun r167 t168 => vp_in (v4 + 1) L ∧ vp_in (v4 + 2) L ∧ wpR_melt_0 (fun r170 t171 => wpR_thrown_0 (fun r172 t173 => (r172 = r167 → (¬ r167 = 0 → wpW_law_1321 mc ms L xs post K23 (t168.1, (t173, t168.2)) (k + 2) (n + 12) v1 v4) ∧ (r167 = 0 → ((lg_cmp (t168.2 0) r170.toInt64) = 0 → wpW_law_1321 mc ms L xs post K23 (t168.1, (t173, t168.2)) (k + 2) (n + 12) v1 v4) ∧ (¬ (lg_cmp (t168.2 0) r170.toInt64) = 0 → k + 2 ≤ mc ∧ n + 12 ≤ ms ∧ post 0 (t168.1, (t173, t168.2))))) ∧ (¬ r172 = r167 → k + 2 ≤ mc ∧ n + 12 ≤ ms ∧ post 0 (t168.1, (t173, t168.2)))) t171) s.2.1 (xs (v4 + 1).toNatClampNeg) (xs (v4 + 2).toNatClampNeg)) (s.1, s.2.2) v1 (xs (v4 + 1).toNatClampNeg) (xs (v4 + 2).toNatClampNeg) := by
  subst hx
  obtain ⟨p1, p2, p3, p4, p5⟩ := hV
  have hc := hI.cs
  refine ⟨p1, p2, by omega, by omega, And.intro hC.x7 (cO_melt hC hI (by omega) (fun c hc e a ha ea σ' hC' => ?_) (fun c hc e g => Or.inr ⟨rfl, ?_⟩) (fun g => Or.inl ⟨rfl, ?_⟩))⟩
  · refine ⟨p1, p2, rO_melt hR hI (by omega) (fun c' hc' e' a' ha' ea' ρ' hR' hz => ?_) (fun _ _ _ g => (no_le (N := 1000000) rfl (by decide) ea ha g).elim) (fun g => (no_lt (by omega) e hc g).elim)⟩
    obtain rfl : c' = c := nIi (N := μ.1 14) (by omega) (by omega) (by omega) e' e
    obtain rfl : a' = a := nIi (N := 1000000) (by omega) (by omega) (by omega) ea' ea
    exact lt_o hz rfl (kk.go 2 12 (by decide) (by decide) hC' rfl hR' (MI_melt hI hc').up (hT.o rfl))
  · exact ⟨p1, p2, rO_melt hR hI (by omega) (fun _ _ _ a' ha' ea' => (no_le (N := 1000000) rfl (by decide) ea' ha' g).elim) (fun _ _ _ _ ρ' hR' hz => lt_x hz (by decide) (kk.go 2 12 (by decide) (by decide) hC rfl hR' hI.up hT)) (fun g => (no_lt (by omega) e hc g).elim)⟩
  · exact ⟨p1, p2, rO_melt hR hI (by omega) (fun c' hc' e' => (no_lt (by omega) e' hc' g).elim) (fun c' hc' e' => (no_lt (by omega) e' hc' g).elim) (fun _ ρ' hR' hz => lt_x hz (by decide) (kk.go 2 12 (by decide) (by decide) hC rfl hR' hI.up hT))⟩
theorem law_b18 (hC : CRep s.1 lab ad μ) (hx : ad 7 0 = v1) (hR : RR s.2.1 μ) (hI : MI μ j) (hT : TB μ) (hj : j < 512) (hV : VP L v4) (hk : k + 100 ≤ mc ∧ n + 6110 ≤ ms) (kk : LK K23 v1 j k n v4) : vp_in (v4 + 1) L ∧ k + 1 ≤ mc ∧ n + 6 ≤ ms ∧ wpL_push_0 (fun r177 t178 => vp_in (v4 + 1) L ∧ wpR_push_0 (fun r180 t181 => wpR_thrown_0 (fun r182 t183 => (r182 = r177 → (¬ r177 = 0 → wpW_law_1377 mc ms L xs post K23 (t178.1, (t183, t178.2)) (k + 1) (n + 6) v1 v4) ∧ (r177 = 0 → ((lg_cmp (t178.2 0) r180.toInt64) = 0 → wpW_law_1377 mc ms L xs post K23 (t178.1, (t183, t178.2)) (k + 1) (n + 6) v1 v4) ∧ (¬ (lg_cmp (t178.2 0) r180.toInt64) = 0 → k + 1 ≤ mc ∧ n + 6 ≤ ms ∧ post 0 (t178.1, (t183, t178.2))))) ∧ (¬ r182 = r177 → k + 1 ≤ mc ∧ n + 6 ≤ ms ∧ post 0 (t178.1, (t183, t178.2)))) t181) s.2.1 (xs (v4 + 1).toNatClampNeg)) (s.1, s.2.2) v1 (xs (v4 + 1).toNatClampNeg) := by
  subst hx
  obtain ⟨p1, p2, p3, p4, p5⟩ := hV
  have hc := hI.cs
  refine ⟨p1, by omega, by omega, And.intro hC.x7 (cO_push hC hI (fun i hi e σ' hC' => ?_) (fun g => ⟨rfl, ?_⟩))⟩
  · refine ⟨p1, rO_push hR hI (fun i' hi' e' ρ' hR' hz => ?_) (fun g => (no_lt (by omega) e hi g).elim)⟩
    obtain rfl : i' = i := nIi (N := μ.1 14) (by omega) (by omega) (by omega) e' e
    exact lt_o hz rfl (kk.go 1 6 (by decide) (by decide) hC' rfl hR' (MI_push hI hi).up (hT.o rfl))
  · exact ⟨p1, rO_push hR hI (fun i' hi' e' => (no_lt (by omega) e' hi' g).elim) (fun _ ρ' hR' hz => lt_x hz (by decide) (kk.go 1 6 (by decide) (by decide) hC rfl hR' hI.up hT))⟩
theorem law_b19 (hC : CRep s.1 lab ad μ) (hx : ad 7 0 = v1) (hR : RR s.2.1 μ) (hI : MI μ j) (hT : TB μ) (hj : j < 512) (hV : VP L v4) (hk : k + 100 ≤ mc ∧ n + 6110 ≤ ms) (kk : LK K23 v1 j k n v4) : vp_in (v4 + 1) L ∧ vp_in (v4 + 2) L ∧ k + 2 ≤ mc ∧ n + 12 ≤ ms ∧ wpL_cell_0 (fun r187 t188 => vp_in (v4 + 1) L ∧ vp_in (v4 + 2) L ∧ wpR_cell_0 (fun r190 t191 => wpR_thrown_0 (fun r192 t193 => (r192 = r187 → (¬ r187 = 0 → wpW_law_1445 mc ms L xs post K23 (t188.1, (t193, t188.2)) (k + 2) (n + 12) v1 v4) ∧ (r187 = 0 → ((lg_cmp (t188.2 0) r190.toInt64) = 0 → wpW_law_1445 mc ms L xs post K23 (t188.1, (t193, t188.2)) (k + 2) (n + 12) v1 v4) ∧ (¬ (lg_cmp (t188.2 0) r190.toInt64) = 0 → k + 2 ≤ mc ∧ n + 12 ≤ ms ∧ post 0 (t188.1, (t193, t188.2))))) ∧ (¬ r192 = r187 → k + 2 ≤ mc ∧ n + 12 ≤ ms ∧ post 0 (t188.1, (t193, t188.2)))) t191) s.2.1 (xs (v4 + 1).toNatClampNeg) (xs (v4 + 2).toNatClampNeg)) (s.1, s.2.2) v1 (xs (v4 + 1).toNatClampNeg) (xs (v4 + 2).toNatClampNeg) := by
  subst hx
  obtain ⟨p1, p2, p3, p4, p5⟩ := hV
  have hc := hI.cs
  refine ⟨p1, p2, by omega, by omega, And.intro hC.x7 (cO_cell hC hI (fun c hc e => ⟨fun q hq eq => ?_, fun ei => ?_, fun ei => ?_, fun ei => ?_, fun ei => ?_, fun g => Or.inr ⟨rfl, ?_⟩⟩) (fun g => Or.inl ⟨rfl, ?_⟩))⟩
  · refine ⟨p1, p2, rO_cell hR hI (fun c' hc' e' ρ' hR' hz => ?_) (fun _ _ _ g => (no_rgl (a := q) (N := 7) eq (by omega) (by decide) g).elim) (fun g => (no_lt (by omega) e hc g).elim)⟩
    obtain rfl : c' = c := nIi (N := μ.1 14) (by omega) (by omega) (by omega) e' e
    exact ⟨fun q' hq' eq' => by
        obtain rfl : q' = q := nIi (N := 7) (by omega) (by omega) (by omega) eq' eq
        exact lt_o hz rfl (kk.go 2 12 (by decide) (by decide) hC rfl hR' hI.up hT), fun z => absurd (nIi (N := 7) (b := 4) (by omega) (by omega) (by omega) eq z) (by omega), fun z => absurd (nIi (N := 7) (b := 5) (by omega) (by omega) (by omega) eq z) (by omega), fun z => absurd (nIi (N := 7) (b := 6) (by omega) (by omega) (by omega) eq z) (by omega), fun z => absurd (nIi (N := 7) (b := 7) (by omega) (by omega) (by omega) eq z) (by omega)⟩
  · refine ⟨p1, p2, rO_cell hR hI (fun c' hc' e' ρ' hR' hz => ?_) (fun _ _ _ g => (no_rgl (a := 4) (N := 7) ei (by omega) (by decide) g).elim) (fun g => (no_lt (by omega) e hc g).elim)⟩
    obtain rfl : c' = c := nIi (N := μ.1 14) (by omega) (by omega) (by omega) e' e
    exact ⟨fun q' hq' eq' => absurd (nIi (N := 7) (b := 4) (by omega) (by omega) (by omega) eq' ei) (by omega), fun _ => lt_o hz rfl (kk.go 2 12 (by decide) (by decide) hC rfl hR' hI.up hT), fun z => absurd (nIi (N := 7) (a := 5) (b := 4) (by omega) (by omega) (by omega) z ei) (by omega), fun z => absurd (nIi (N := 7) (a := 6) (b := 4) (by omega) (by omega) (by omega) z ei) (by omega), fun z => absurd (nIi (N := 7) (a := 7) (b := 4) (by omega) (by omega) (by omega) z ei) (by omega)⟩
  · refine ⟨p1, p2, rO_cell hR hI (fun c' hc' e' ρ' hR' hz => ?_) (fun _ _ _ g => (no_rgl (a := 5) (N := 7) ei (by omega) (by decide) g).elim) (fun g => (no_lt (by omega) e hc g).elim)⟩
    obtain rfl : c' = c := nIi (N := μ.1 14) (by omega) (by omega) (by omega) e' e
    exact ⟨fun q' hq' eq' => absurd (nIi (N := 7) (b := 5) (by omega) (by omega) (by omega) eq' ei) (by omega), fun z => absurd (nIi (N := 7) (a := 4) (b := 5) (by omega) (by omega) (by omega) z ei) (by omega), fun _ => lt_o hz rfl (kk.go 2 12 (by decide) (by decide) hC rfl hR' hI.up hT), fun z => absurd (nIi (N := 7) (a := 6) (b := 5) (by omega) (by omega) (by omega) z ei) (by omega), fun z => absurd (nIi (N := 7) (a := 7) (b := 5) (by omega) (by omega) (by omega) z ei) (by omega)⟩
  · refine ⟨p1, p2, rO_cell hR hI (fun c' hc' e' ρ' hR' hz => ?_) (fun _ _ _ g => (no_rgl (a := 6) (N := 7) ei (by omega) (by decide) g).elim) (fun g => (no_lt (by omega) e hc g).elim)⟩
    obtain rfl : c' = c := nIi (N := μ.1 14) (by omega) (by omega) (by omega) e' e
    exact ⟨fun q' hq' eq' => absurd (nIi (N := 7) (b := 6) (by omega) (by omega) (by omega) eq' ei) (by omega), fun z => absurd (nIi (N := 7) (a := 4) (b := 6) (by omega) (by omega) (by omega) z ei) (by omega), fun z => absurd (nIi (N := 7) (a := 5) (b := 6) (by omega) (by omega) (by omega) z ei) (by omega), fun _ => lt_o hz rfl (kk.go 2 12 (by decide) (by decide) hC rfl hR' hI.up hT), fun z => absurd (nIi (N := 7) (a := 7) (b := 6) (by omega) (by omega) (by omega) z ei) (by omega)⟩
  · refine ⟨p1, p2, rO_cell hR hI (fun c' hc' e' ρ' hR' hz => ?_) (fun _ _ _ g => (no_rgl (a := 7) (N := 7) ei (by omega) (by decide) g).elim) (fun g => (no_lt (by omega) e hc g).elim)⟩
    obtain rfl : c' = c := nIi (N := μ.1 14) (by omega) (by omega) (by omega) e' e
    exact ⟨fun q' hq' eq' => absurd (nIi (N := 7) (b := 7) (by omega) (by omega) (by omega) eq' ei) (by omega), fun z => absurd (nIi (N := 7) (a := 4) (b := 7) (by omega) (by omega) (by omega) z ei) (by omega), fun z => absurd (nIi (N := 7) (a := 5) (b := 7) (by omega) (by omega) (by omega) z ei) (by omega), fun z => absurd (nIi (N := 7) (a := 6) (b := 7) (by omega) (by omega) (by omega) z ei) (by omega), fun _ => lt_o hz rfl (kk.go 2 12 (by decide) (by decide) hC rfl hR' hI.up hT)⟩
  · refine ⟨p1, p2, rO_cell hR hI (fun c' hc' e' ρ' hR' hz => ?_) (fun _ _ _ _ ρ' hR' hz => lt_x hz (by decide) (kk.go 2 12 (by decide) (by decide) hC rfl hR' hI.up hT)) (fun g => (no_lt (by omega) e hc g).elim)⟩
    exact ⟨fun q' hq' eq' => (no_rgl (N := 7) eq' (by omega) (by decide) g).elim, fun z => (no_rgl (a := 4) (N := 7) z (by omega) (by decide) g).elim, fun z => (no_rgl (a := 5) (N := 7) z (by omega) (by decide) g).elim, fun z => (no_rgl (a := 6) (N := 7) z (by omega) (by decide) g).elim, fun z => (no_rgl (a := 7) (N := 7) z (by omega) (by decide) g).elim⟩
  · exact ⟨p1, p2, rO_cell hR hI (fun c' hc' e' => (no_lt (by omega) e' hc' g).elim) (fun c' hc' e' => (no_lt (by omega) e' hc' g).elim) (fun _ ρ' hR' hz => lt_x hz (by decide) (kk.go 2 12 (by decide) (by decide) hC rfl hR' hI.up hT))⟩
theorem law_b20 (hC : CRep s.1 lab ad μ) (hx : ad 7 0 = v1) (hR : RR s.2.1 μ) (hI : MI μ j) (hT : TB μ) (hj : j < 512) (hV : VP L v4) (hk : k + 100 ≤ mc ∧ n + 6110 ≤ ms) (kk : LK K23 v1 j k n v4) : vp_in (v4 + 1) L ∧ vp_in (v4 + 2) L ∧ vp_in (v4 + 3) L ∧ ∃ m200 m201 : Nat, k + m200 ≤ mc ∧ n + m201 ≤ ms ∧ 1 ≤ m200 ∧ 6 ≤ m201 ∧ wpL_link_0 m200 m201 (fun r197 t198 => vp_in (v4 + 1) L ∧ vp_in (v4 + 2) L ∧ vp_in (v4 + 3) L ∧ wpR_link_0 (fun r202 t203 => wpR_thrown_0 (fun r204 t205 => (r204 = r197 → (¬ r197 = 0 → wpW_law_1525 mc ms L xs post K23 (t198.1, (t205, t198.2)) (k + m200) (n + m201) v1 v4) ∧ (r197 = 0 → ((lg_cmp (t198.2 0) r202.toInt64) = 0 → wpW_law_1525 mc ms L xs post K23 (t198.1, (t205, t198.2)) (k + m200) (n + m201) v1 v4) ∧ (¬ (lg_cmp (t198.2 0) r202.toInt64) = 0 → k + m200 ≤ mc ∧ n + m201 ≤ ms ∧ post 0 (t198.1, (t205, t198.2))))) ∧ (¬ r204 = r197 → k + m200 ≤ mc ∧ n + m201 ≤ ms ∧ post 0 (t198.1, (t205, t198.2)))) t203) s.2.1 (xs (v4 + 1).toNatClampNeg) (xs (v4 + 2).toNatClampNeg) (xs (v4 + 3).toNatClampNeg)) (s.1, s.2.2) v1 (xs (v4 + 1).toNatClampNeg) (xs (v4 + 2).toNatClampNeg) (xs (v4 + 3).toNatClampNeg) := by
  subst hx
  obtain ⟨p1, p2, p3, p4, p5⟩ := hV
  have hc := hI.cs
  refine ⟨p1, p2, p3, 100, 400, by omega, by omega, by decide, by decide, And.intro hC.x7 (cO_link hC hI (by omega) (fun a b ln hln ha hb ea eb hne hn en hu σ' lab' ad' e7 hC' => ?_) (fun g => Or.inl ⟨rfl, ?_⟩) (fun i1 i2 g => Or.inr (Or.inl ⟨rfl, ?_⟩)) (fun i1 i2 hne hn g => Or.inr (Or.inr ⟨rfl, ?_⟩)))⟩
  · refine ⟨p1, p2, p3, rO_link hR hI (fun a' b' ln' hln' ha' hb' ea' eb' _ _ en' _ ρ' hR' hz => ?_) (fun g => (g ⟨⟨a, ha, ea⟩, ⟨b, hb, eb⟩⟩).elim) (fun _ _ g => (g ⟨hne, hn⟩).elim) (fun _ _ _ _ g => (g hu).elim)⟩
    obtain rfl : a' = a := nIi (N := μ.1 14) (by omega) (by omega) (by omega) ea' ea
    obtain rfl : b' = b := nIi (N := μ.1 14) (by omega) (by omega) (by omega) eb' eb
    obtain rfl : ln' = ln := nIi (N := 1000) (by decide) (by omega) (by omega) en' en
    have hab : a' ≠ b' := fun z => hne (by rw [ea, eb, z])
    exact lt_o hz rfl (kk.go 100 400 (by decide) (by decide) hC' e7 hR' (link_MI hI hu ha' hb' hab hln').up (hT.o rfl))
  · exact ⟨p1, p2, p3, rO_link hR hI (fun a' b' _ _ ha' hb' ea' eb' => (g ⟨⟨a', ha', ea'⟩, ⟨b', hb', eb'⟩⟩).elim) (fun _ ρ' hR' hz => lt_x hz (by decide) (kk.go 100 400 (by decide) (by decide) hC rfl hR' hI.up hT)) (fun i1 i2 => (g ⟨i1, i2⟩).elim) (fun i1 i2 => (g ⟨i1, i2⟩).elim)⟩
  · exact ⟨p1, p2, p3, rO_link hR hI (fun _ _ _ _ _ _ _ _ hne hn => (g ⟨hne, hn⟩).elim) (fun g => (g ⟨i1, i2⟩).elim) (fun _ _ _ ρ' hR' hz => lt_x hz (by decide) (kk.go 100 400 (by decide) (by decide) hC rfl hR' hI.up hT)) (fun _ _ hne hn => (g ⟨hne, hn⟩).elim)⟩
  · exact ⟨p1, p2, p3, rO_link hR hI (fun _ _ _ _ _ _ _ _ _ _ _ hu => (g hu).elim) (fun g => (g ⟨i1, i2⟩).elim) (fun _ _ g => (g ⟨hne, hn⟩).elim) (fun _ _ _ _ _ ρ' hR' hz => lt_x hz (by decide) (kk.go 100 400 (by decide) (by decide) hC rfl hR' hI.up hT))⟩
theorem law_b21 (hC : CRep s.1 lab ad μ) (hx : ad 7 0 = v1) (hR : RR s.2.1 μ) (hI : MI μ j) (hT : TB μ) (hj : j < 512) (hV : VP L v4) (hk : k + 100 ≤ mc ∧ n + 6110 ≤ ms) (kk : LK K23 v1 j k n v4) : vp_in (v4 + 1) L ∧ vp_in (v4 + 2) L ∧ k + 2 ≤ mc ∧ n + 12 ≤ ms ∧ wpL_want_0 (fun r209 t210 => vp_in (v4 + 1) L ∧ vp_in (v4 + 2) L ∧ wpR_want_0 (fun t213 => wpR_thrown_0 (fun r214 t215 => (r214 = r209 → wpW_law_1707 mc ms L xs post K23 (t210.1, (t215, t210.2)) (k + 2) (n + 12) v1 v4) ∧ (¬ r214 = r209 → k + 2 ≤ mc ∧ n + 12 ≤ ms ∧ post 0 (t210.1, (t215, t210.2)))) t213) s.2.1 (xs (v4 + 1).toNatClampNeg) (xs (v4 + 2).toNatClampNeg)) (s.1, s.2.2) v1 (xs (v4 + 1).toNatClampNeg) (xs (v4 + 2).toNatClampNeg) := by
  subst hx
  obtain ⟨p1, p2, p3, p4, p5⟩ := hV
  have hc := hI.cs
  refine ⟨p1, p2, by omega, by omega, And.intro hC.x7 (cO_want hC hI (fun c hc e a ha ea σ' hC' => ?_) (fun c hc e g => Or.inr ⟨rfl, ?_⟩) (fun g => Or.inl ⟨rfl, ?_⟩))⟩
  · refine ⟨p1, p2, rO_want hR hI (fun c' hc' e' a' ha' ea' ρ' hR' hz => ?_) (fun _ _ _ g => (no_le (N := 1000000) rfl (by decide) ea ha g).elim) (fun g => (no_lt (by omega) e hc g).elim)⟩
    obtain rfl : c' = c := nIi (N := μ.1 14) (by omega) (by omega) (by omega) e' e
    obtain rfl : a' = a := nIi (N := 1000000) (by omega) (by omega) (by omega) ea' ea
    exact lt_e hz (kk.go 2 12 (by decide) (by decide) hC' rfl hR' (MI_want hI hc' ha').up (hT.o rfl))
  · exact ⟨p1, p2, rO_want hR hI (fun _ _ _ a' ha' ea' => (no_le (N := 1000000) rfl (by decide) ea' ha' g).elim) (fun _ _ _ _ ρ' hR' hz => lt_e hz (kk.go 2 12 (by decide) (by decide) hC rfl hR' hI.up hT)) (fun g => (no_lt (by omega) e hc g).elim)⟩
  · exact ⟨p1, p2, rO_want hR hI (fun c' hc' e' => (no_lt (by omega) e' hc' g).elim) (fun c' hc' e' => (no_lt (by omega) e' hc' g).elim) (fun _ ρ' hR' hz => lt_e hz (kk.go 2 12 (by decide) (by decide) hC rfl hR' hI.up hT))⟩
theorem law_b22 (hC : CRep s.1 lab ad μ) (hx : ad 7 0 = v1) (hR : RR s.2.1 μ) (hI : MI μ j) (hT : TB μ) (hj : j < 512) (hV : VP L v4) (hk : k + 100 ≤ mc ∧ n + 6110 ≤ ms) (kk : LK K23 v1 j k n v4) : cAt s.1 7 v1 ∧ wpC_X7_least_0 (fun r217 t218 => wpR_least_0 (fun r219 t220 => ((lg_cmp r217 r219) = 0 → wpW_law_1707 mc ms L xs post K23 (t218, (t220, s.2.2)) k n v1 v4) ∧ (¬ (lg_cmp r217 r219) = 0 → k ≤ mc ∧ n ≤ ms ∧ post 0 (t218, (t220, s.2.2)))) s.2.1) s.1 v1 := by
  subst hx
  obtain ⟨p1, p2, p3, p4, p5⟩ := hV
  have hc := hI.cs
  refine ⟨hC.x7, cO_least hC hI (by omega) (fun V σ' hC' hV' => ?_)⟩
  exact rO_least hR hI (by omega) (fun W ρ' hR' hW => lt_q (lp_eq hI (by omega) hV' hW) (kk.go0 hC' rfl hR' hI.up hT))
theorem law_b23 (hC : CRep s.1 lab ad μ) (hx : ad 7 0 = v1) (hR : RR s.2.1 μ) (hI : MI μ j) (hT : TB μ) (hj : j < 512) (hV : VP L v4) (hk : k + 100 ≤ mc ∧ n + 6110 ≤ ms) (kk : LK K23 v1 j k n v4) : vp_in (v4 + 1) L ∧ vp_in (v4 + 2) L ∧ k + 2 ≤ mc ∧ n + 12 ≤ ms ∧ wpL_price_0 (fun r222 t223 => vp_in (v4 + 1) L ∧ vp_in (v4 + 2) L ∧ wpR_price_0 (fun t226 => wpR_thrown_0 (fun r227 t228 => (r227 = r222 → wpW_law_1707 mc ms L xs post K23 (t223.1, (t228, t223.2)) (k + 2) (n + 12) v1 v4) ∧ (¬ r227 = r222 → k + 2 ≤ mc ∧ n + 12 ≤ ms ∧ post 0 (t223.1, (t228, t223.2)))) t226) s.2.1 (xs (v4 + 1).toNatClampNeg) (xs (v4 + 2).toNatClampNeg)) (s.1, s.2.2) v1 (xs (v4 + 1).toNatClampNeg) (xs (v4 + 2).toNatClampNeg) := by
  subst hx
  obtain ⟨p1, p2, p3, p4, p5⟩ := hV
  have hc := hI.cs
  refine ⟨p1, p2, by omega, by omega, And.intro hC.x7 (cO_price hC hI (fun c hc e a1 a2 σ' hC' => ?_) (fun c hc e g => Or.inr ⟨rfl, ?_⟩) (fun g => Or.inl ⟨rfl, ?_⟩))⟩
  · refine ⟨p1, p2, rO_price hR hI (fun c' hc' e' _ _ ρ' hR' hz => ?_) (fun _ _ _ g => (g a1 a2).elim) (fun g => (no_lt (by omega) e hc g).elim)⟩
    obtain rfl : c' = c := nIi (N := μ.1 14) (by omega) (by omega) (by omega) e' e
    have b1 : -10000 ≤ (xs (v4 + 2).toNatClampNeg).toInt ∧ (xs (v4 + 2).toNatClampNeg).toInt ≤ 10000 := by
      rw [Int32.lt_iff_toInt_lt, show (-10000 : Int32).toInt = -10000 by decide] at a1
      rw [Int32.le_iff_toInt_le, show (10000 : Int32).toInt = 10000 by decide] at a2
      omega
    exact lt_e hz (kk.go 2 12 (by decide) (by decide) hC' rfl hR' (MI_price hI hc' b1).up (hT.o rfl))
  · exact ⟨p1, p2, rO_price hR hI (fun _ _ _ a1 a2 => (g a1 a2).elim) (fun _ _ _ _ ρ' hR' hz => lt_e hz (kk.go 2 12 (by decide) (by decide) hC rfl hR' hI.up hT)) (fun g => (no_lt (by omega) e hc g).elim)⟩
  · exact ⟨p1, p2, rO_price hR hI (fun c' hc' e' => (no_lt (by omega) e' hc' g).elim) (fun c' hc' e' => (no_lt (by omega) e' hc' g).elim) (fun _ ρ' hR' hz => lt_e hz (kk.go 2 12 (by decide) (by decide) hC rfl hR' hI.up hT))⟩
theorem law_b24 (hC : CRep s.1 lab ad μ) (hx : ad 7 0 = v1) (hR : RR s.2.1 μ) (hI : MI μ j) (hT : TB μ) (hj : j < 512) (hV : VP L v4) (hk : k + 100 ≤ mc ∧ n + 6110 ≤ ms) (kk : LK K23 v1 j k n v4) : k + 1 ≤ mc ∧ n + 6 ≤ ms ∧ wpL_judge_0 (fun r230 t231 => wpR_judge_0 (fun r233 t234 => wpR_thrown_0 (fun r235 t236 => (r235 = r230 → (¬ r230 = 0 → wpW_law_1678 mc ms L xs post K23 (t231.1, (t236, t231.2)) (k + 1) (n + 6) v1 v4) ∧ (r230 = 0 → ((lg_cmp (t231.2 0) r233) = 0 → wpW_law_1678 mc ms L xs post K23 (t231.1, (t236, t231.2)) (k + 1) (n + 6) v1 v4) ∧ (¬ (lg_cmp (t231.2 0) r233) = 0 → k + 1 ≤ mc ∧ n + 6 ≤ ms ∧ post 0 (t231.1, (t236, t231.2))))) ∧ (¬ r235 = r230 → k + 1 ≤ mc ∧ n + 6 ≤ ms ∧ post 0 (t231.1, (t236, t231.2)))) t234) s.2.1) (s.1, s.2.2) v1 := by
  subst hx
  obtain ⟨p1, p2, p3, p4, p5⟩ := hV
  have hc := hI.cs
  refine ⟨by omega, by omega, And.intro hC.x7 (cO_judge hC hI (fun g => ?_) (fun g => ⟨rfl, ?_⟩))⟩
  · exact rO_judge hR hI (by omega) (fun _ ρ' hR' hz => lt_o hz rfl (kk.go 1 6 (by decide) (by decide) hC rfl hR' hI.up hT)) (fun g' => absurd g g')
  · exact rO_judge hR hI (by omega) (fun g' => absurd g' g) (fun _ ρ' hR' hz => lt_x hz (by decide) (kk.go 1 6 (by decide) (by decide) hC rfl hR' hI.up hT))
theorem law_b25 (hC : CRep s.1 lab ad μ) (hx : ad 7 0 = v1) (hR : RR s.2.1 μ) (hI : MI μ j) (hT : TB μ) (hj : j < 512) (hV : VP L v4) (hk : k + 100 ≤ mc ∧ n + 6110 ≤ ms) (kk : LK K23 v1 j k n v4) : vp_in (v4 + 1) L ∧ cAt s.1 7 v1 ∧ wpC_X7_count_0 (fun r240 t241 => vp_in (v4 + 1) L ∧ wpR_count_0 (fun r242 t243 => ((lg_cmp r240 r242) = 0 → wpW_law_1707 mc ms L xs post K23 (t241, (t243, s.2.2)) k n v1 v4) ∧ (¬ (lg_cmp r240 r242) = 0 → k ≤ mc ∧ n ≤ ms ∧ post 0 (t241, (t243, s.2.2)))) s.2.1 (xs (v4 + 1).toNatClampNeg)) s.1 v1 (xs (v4 + 1).toNatClampNeg) := by
  subst hx
  obtain ⟨p1, p2, p3, p4, p5⟩ := hV
  have hc := hI.cs
  refine ⟨p1, hC.x7, cO_count hC hI (by omega) ?_⟩
  exact ⟨p1, rO_count hR hI (by omega) (fun ρ' hR' => lt_q rfl (kk.go0 hC rfl hR' hI.up hT))⟩
end LB
end
