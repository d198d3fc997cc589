def wpW_law_1707 (mc ms L : Nat) (xs : Nat → Int32) (post : Int32 → lSt → Prop) (K23 : lSt → Nat → Nat → Nat → Int32 → Prop) (s : lSt) (k : Nat) (n : Nat) (v1 : Nat) (v4 : Int32) : Prop := K23 s k n v1 (v4 + 6)
def wpW_law_359 (mc ms L : Nat) (xs : Nat → Int32) (post : Int32 → lSt → Prop) (K23 : lSt → Nat → Nat → Nat → Int32 → Prop) (s : lSt) (k : Nat) (n : Nat) (v1 : Nat) (v4 : Int32) : Prop := wpW_law_1707 mc ms L xs post K23 s k n v1 v4
def wpW_law_463 (mc ms L : Nat) (xs : Nat → Int32) (post : Int32 → lSt → Prop) (K23 : lSt → Nat → Nat → Nat → Int32 → Prop) (s : lSt) (k : Nat) (n : Nat) (v1 : Nat) (v4 : Int32) : Prop := wpW_law_1707 mc ms L xs post K23 s k n v1 v4
def wpW_law_519 (mc ms L : Nat) (xs : Nat → Int32) (post : Int32 → lSt → Prop) (K23 : lSt → Nat → Nat → Nat → Int32 → Prop) (s : lSt) (k : Nat) (n : Nat) (v1 : Nat) (v4 : Int32) : Prop := wpW_law_1707 mc ms L xs post K23 s k n v1 v4
def wpW_law_582 (mc ms L : Nat) (xs : Nat → Int32) (post : Int32 → lSt → Prop) (K23 : lSt → Nat → Nat → Nat → Int32 → Prop) (s : lSt) (k : Nat) (n : Nat) (v1 : Nat) (v4 : Int32) : Prop := wpW_law_1707 mc ms L xs post K23 s k n v1 v4
def wpW_law_576 (mc ms L : Nat) (xs : Nat → Int32) (post : Int32 → lSt → Prop) (K23 : lSt → Nat → Nat → Nat → Int32 → Prop) (s : lSt) (k : Nat) (n : Nat) (v1 : Nat) (v4 : Int32) (w0 : Int64) (w1 : Int64) : Prop := ((lg_cmp w0 w1) = 0 → wpW_law_582 mc ms L xs post K23 s k n v1 v4) ∧ (¬ (lg_cmp w0 w1) = 0 → k ≤ mc ∧ n ≤ ms ∧ post 0 s)
def wpW_law_670 (mc ms L : Nat) (xs : Nat → Int32) (post : Int32 → lSt → Prop) (K23 : lSt → Nat → Nat → Nat → Int32 → Prop) (s : lSt) (k : Nat) (n : Nat) (v1 : Nat) (v4 : Int32) : Prop := wpW_law_1707 mc ms L xs post K23 s k n v1 v4
def wpW_law_664 (mc ms L : Nat) (xs : Nat → Int32) (post : Int32 → lSt → Prop) (K23 : lSt → Nat → Nat → Nat → Int32 → Prop) (s : lSt) (k : Nat) (n : Nat) (v1 : Nat) (v4 : Int32) (w0 : Int64) (w1 : Int64) : Prop := ((lg_cmp w0 w1) = 0 → wpW_law_670 mc ms L xs post K23 s k n v1 v4) ∧ (¬ (lg_cmp w0 w1) = 0 → k ≤ mc ∧ n ≤ ms ∧ post 0 s)
def wpW_law_733 (mc ms L : Nat) (xs : Nat → Int32) (post : Int32 → lSt → Prop) (K23 : lSt → Nat → Nat → Nat → Int32 → Prop) (s : lSt) (k : Nat) (n : Nat) (v1 : Nat) (v4 : Int32) : Prop := wpW_law_1707 mc ms L xs post K23 s k n v1 v4
def wpW_law_727 (mc ms L : Nat) (xs : Nat → Int32) (post : Int32 → lSt → Prop) (K23 : lSt → Nat → Nat → Nat → Int32 → Prop) (s : lSt) (k : Nat) (n : Nat) (v1 : Nat) (v4 : Int32) (w0 : Int64) (w1 : Int64) : Prop := ((lg_cmp w0 w1) = 0 → wpW_law_733 mc ms L xs post K23 s k n v1 v4) ∧ (¬ (lg_cmp w0 w1) = 0 → k ≤ mc ∧ n ≤ ms ∧ post 0 s)
def wpW_law_860 (mc ms L : Nat) (xs : Nat → Int32) (post : Int32 → lSt → Prop) (K23 : lSt → Nat → Nat → Nat → Int32 → Prop) (s : lSt) (k : Nat) (n : Nat) (v1 : Nat) (v4 : Int32) : Prop := wpW_law_1707 mc ms L xs post K23 s k n v1 v4
def wpW_law_854 (mc ms L : Nat) (xs : Nat → Int32) (post : Int32 → lSt → Prop) (K23 : lSt → Nat → Nat → Nat → Int32 → Prop) (s : lSt) (k : Nat) (n : Nat) (v1 : Nat) (v4 : Int32) (w0 : Int64) (w1 : Int64) : Prop := ((lg_cmp w0 w1) = 0 → wpW_law_860 mc ms L xs post K23 s k n v1 v4) ∧ (¬ (lg_cmp w0 w1) = 0 → k ≤ mc ∧ n ≤ ms ∧ post 0 s)
def wpW_law_820 (mc ms L : Nat) (xs : Nat → Int32) (post : Int32 → lSt → Prop) (K23 : lSt → Nat → Nat → Nat → Int32 → Prop) (s : lSt) (k : Nat) (n : Nat) (v1 : Nat) (v4 : Int32) (v5 : Int32) (w1 : Int32) (w2 : Int32) : Prop := wpR_stop_0 (fun r5 t6 => wpR_thrown_0 (fun r7 t8 => (r7 = v5 → (¬ v5 = 0 → wpW_law_860 mc ms L xs post K23 (s.1, (t8, s.2.2)) k n v1 v4) ∧ (v5 = 0 → (r5 = 0 → wpW_law_854 mc ms L xs post K23 (s.1, (t8, s.2.2)) k n v1 v4 (s.2.2 0) 0) ∧ (¬ r5 = 0 → wpW_law_854 mc ms L xs post K23 (s.1, (t8, s.2.2)) k n v1 v4 (s.2.2 0) 1))) ∧ (¬ r7 = v5 → k ≤ mc ∧ n ≤ ms ∧ post 0 (s.1, (t8, s.2.2)))) t6) s.2.1 w1 w2
def wpW_law_793 (mc ms L : Nat) (xs : Nat → Int32) (post : Int32 → lSt → Prop) (K23 : lSt → Nat → Nat → Nat → Int32 → Prop) (s : lSt) (k : Nat) (n : Nat) (v1 : Nat) (v4 : Int32) (w0 : Nat) (w1 : Int32) (w2 : Int32) : Prop := k + 1 ≤ mc ∧ n + 6 ≤ ms ∧ wpL_stop_0 (fun r12 t13 => vp_in (v4 + 1) L ∧ vp_in (v4 + 2) L ∧ ((xs (v4 + 2).toNatClampNeg) = 0 → wpW_law_820 mc ms L xs post K23 (t13.1, (s.2.1, t13.2)) (k + 1) (n + 6) v1 v4 r12 (xs (v4 + 1).toNatClampNeg) 0) ∧ (¬ (xs (v4 + 2).toNatClampNeg) = 0 → wpW_law_820 mc ms L xs post K23 (t13.1, (s.2.1, t13.2)) (k + 1) (n + 6) v1 v4 r12 (xs (v4 + 1).toNatClampNeg) 1)) (s.1, s.2.2) w0 w1 w2
def wpW_law_940 (mc ms L : Nat) (xs : Nat → Int32) (post : Int32 → lSt → Prop) (K23 : lSt → Nat → Nat → Nat → Int32 → Prop) (s : lSt) (k : Nat) (n : Nat) (v1 : Nat) (v4 : Int32) : Prop := wpW_law_1707 mc ms L xs post K23 s k n v1 v4
def wpW_law_996 (mc ms L : Nat) (xs : Nat → Int32) (post : Int32 → lSt → Prop) (K23 : lSt → Nat → Nat → Nat → Int32 → Prop) (s : lSt) (k : Nat) (n : Nat) (v1 : Nat) (v4 : Int32) : Prop := wpW_law_1707 mc ms L xs post K23 s k n v1 v4
def wpW_law_1064 (mc ms L : Nat) (xs : Nat → Int32) (post : Int32 → lSt → Prop) (K23 : lSt → Nat → Nat → Nat → Int32 → Prop) (s : lSt) (k : Nat) (n : Nat) (v1 : Nat) (v4 : Int32) : Prop := wpW_law_1707 mc ms L xs post K23 s k n v1 v4
def wpW_law_1132 (mc ms L : Nat) (xs : Nat → Int32) (post : Int32 → lSt → Prop) (K23 : lSt → Nat → Nat → Nat → Int32 → Prop) (s : lSt) (k : Nat) (n : Nat) (v1 : Nat) (v4 : Int32) : Prop := wpW_law_1707 mc ms L xs post K23 s k n v1 v4
def wpW_law_1253 (mc ms L : Nat) (xs : Nat → Int32) (post : Int32 → lSt → Prop) (K23 : lSt → Nat → Nat → Nat → Int32 → Prop) (s : lSt) (k : Nat) (n : Nat) (v1 : Nat) (v4 : Int32) : Prop := wpW_law_1707 mc ms L xs post K23 s k n v1 v4
def wpW_law_1214 (mc ms L : Nat) (xs : Nat → Int32) (post : Int32 → lSt → Prop) (K23 : lSt → Nat → Nat → Nat → Int32 → Prop) (s : lSt) (k : Nat) (n : Nat) (v1 : Nat) (v4 : Int32) (v5 : Int32) (w1 : Int32) (w2 : Int32) : Prop := vp_in (v4 + 3) L ∧ wpR_snow_0 (fun r16 t17 => wpR_thrown_0 (fun r18 t19 => (r18 = v5 → (¬ v5 = 0 → wpW_law_1253 mc ms L xs post K23 (s.1, (t19, s.2.2)) k n v1 v4) ∧ (v5 = 0 → ((lg_cmp (s.2.2 0) r16.toInt64) = 0 → wpW_law_1253 mc ms L xs post K23 (s.1, (t19, s.2.2)) k n v1 v4) ∧ (¬ (lg_cmp (s.2.2 0) r16.toInt64) = 0 → k ≤ mc ∧ n ≤ ms ∧ post 0 (s.1, (t19, s.2.2))))) ∧ (¬ r18 = v5 → k ≤ mc ∧ n ≤ ms ∧ post 0 (s.1, (t19, s.2.2)))) t17) s.2.1 w1 w2 (xs (v4 + 3).toNatClampNeg)
def wpW_law_1181 (mc ms L : Nat) (xs : Nat → Int32) (post : Int32 → lSt → Prop) (K23 : lSt → Nat → Nat → Nat → Int32 → Prop) (s : lSt) (k : Nat) (n : Nat) (v1 : Nat) (v4 : Int32) (w0 : Nat) (w1 : Int32) (w2 : Int32) : Prop := vp_in (v4 + 3) L ∧ k + 2 ≤ mc ∧ n + 12 ≤ ms ∧ wpL_snow_0 (fun r23 t24 => vp_in (v4 + 1) L ∧ vp_in (v4 + 2) L ∧ ((xs (v4 + 2).toNatClampNeg) = 0 → wpW_law_1214 mc ms L xs post K23 (t24.1, (s.2.1, t24.2)) (k + 2) (n + 12) v1 v4 r23 (xs (v4 + 1).toNatClampNeg) 0) ∧ (¬ (xs (v4 + 2).toNatClampNeg) = 0 → wpW_law_1214 mc ms L xs post K23 (t24.1, (s.2.1, t24.2)) (k + 2) (n + 12) v1 v4 r23 (xs (v4 + 1).toNatClampNeg) 1)) (s.1, s.2.2) w0 w1 w2 (xs (v4 + 3).toNatClampNeg)
def wpW_law_1321 (mc ms L : Nat) (xs : Nat → Int32) (post : Int32 → lSt → Prop) (K23 : lSt → Nat → Nat → Nat → Int32 → Prop) (s : lSt) (k : Nat) (n : Nat) (v1 : Nat) (v4 : Int32) : Prop := wpW_law_1707 mc ms L xs post K23 s k n v1 v4
def wpW_law_1377 (mc ms L : Nat) (xs : Nat → Int32) (post : Int32 → lSt → Prop) (K23 : lSt → Nat → Nat → Nat → Int32 → Prop) (s : lSt) (k : Nat) (n : Nat) (v1 : Nat) (v4 : Int32) : Prop := wpW_law_1707 mc ms L xs post K23 s k n v1 v4
def wpW_law_1445 (mc ms L : Nat) (xs : Nat → Int32) (post : Int32 → lSt → Prop) (K23 : lSt → Nat → Nat → Nat → Int32 → Prop) (s : lSt) (k : Nat) (n : Nat) (v1 : Nat) (v4 : Int32) : Prop := wpW_law_1707 mc ms L xs post K23 s k n v1 v4
def wpW_law_1525 (mc ms L : Nat) (xs : Nat → Int32) (post : Int32 → lSt → Prop) (K23 : lSt → Nat → Nat → Nat → Int32 → Prop) (s : lSt) (k : Nat) (n : Nat) (v1 : Nat) (v4 : Int32) : Prop := wpW_law_1707 mc ms L xs post K23 s k n v1 v4
def wpW_law_1678 (mc ms L : Nat) (xs : Nat → Int32) (post : Int32 → lSt → Prop) (K23 : lSt → Nat → Nat → Nat → Int32 → Prop) (s : lSt) (k : Nat) (n : Nat) (v1 : Nat) (v4 : Int32) : Prop := wpW_law_1707 mc ms L xs post K23 s k n v1 v4
def wpW_law_23_F (mc ms L : Nat) (xs : Nat → Int32) (post : Int32 → lSt → Prop) (K23 : lSt → Nat → Nat → Nat → Int32 → Prop) (s : lSt) (k : Nat) (n : Nat) (v1 : Nat) (v4 : Int32) : Prop := (((nI L) - 6) < v4 → k ≤ mc ∧ n ≤ ms ∧ post 1 s) ∧ (¬ ((nI L) - 6) < v4 → vp_in v4 L ∧ (((xs v4.toNatClampNeg) &&& 31) = 0 → vp_in (v4 + 1) L ∧ vp_in (v4 + 2) L ∧ vp_in (v4 + 3) L ∧ vp_in (v4 + 4) L ∧ vp_in (v4 + 5) L ∧ cAt s.1 7 v1 ∧ wpC_X7_feed_0 (fun r29 t30 => vp_in (v4 + 1) L ∧ vp_in (v4 + 2) L ∧ vp_in (v4 + 3) L ∧ vp_in (v4 + 4) L ∧ vp_in (v4 + 5) L ∧ wpR_feed_0 (fun r31 t32 => (r29 = r31 → wpW_law_1707 mc ms L xs post K23 (t30, (t32, s.2.2)) k n v1 v4) ∧ (¬ r29 = r31 → k ≤ mc ∧ n ≤ ms ∧ post 0 (t30, (t32, s.2.2)))) s.2.1 (xs (v4 + 1).toNatClampNeg) (xs (v4 + 2).toNatClampNeg) (xs (v4 + 3).toNatClampNeg) (xs (v4 + 4).toNatClampNeg) (xs (v4 + 5).toNatClampNeg)) s.1 v1 (xs (v4 + 1).toNatClampNeg) (xs (v4 + 2).toNatClampNeg) (xs (v4 + 3).toNatClampNeg) (xs (v4 + 4).toNatClampNeg) (xs (v4 + 5).toNatClampNeg)) ∧ (((xs v4.toNatClampNeg) &&& 31) = 1 → vp_in (v4 + 1) L ∧ cAt s.1 7 v1 ∧ wpC_X7_end_0 (fun r34 t35 => vp_in (v4 + 1) L ∧ wpR_end_0 (fun r36 t37 => (r34 = r36 → wpW_law_1707 mc ms L xs post K23 (t35, (t37, s.2.2)) k n v1 v4) ∧ (¬ r34 = r36 → k ≤ mc ∧ n ≤ ms ∧ post 0 (t35, (t37, s.2.2)))) s.2.1 (xs (v4 + 1).toNatClampNeg)) s.1 v1 (xs (v4 + 1).toNatClampNeg)) ∧ (((xs v4.toNatClampNeg) &&& 31) = 2 → vp_in (v4 + 1) L ∧ vp_in (v4 + 2) L ∧ vp_in (v4 + 3) L ∧ vp_in (v4 + 4) L ∧ vp_in (v4 + 5) L ∧ ∃ m42 m43 : Nat, k + m42 ≤ mc ∧ n + m43 ≤ ms ∧ 1 ≤ m42 ∧ 6 ≤ m43 ∧ wpL_lift_0 m42 m43 (fun r39 t40 => vp_in (v4 + 1) L ∧ vp_in (v4 + 2) L ∧ vp_in (v4 + 3) L ∧ vp_in (v4 + 4) L ∧ vp_in (v4 + 5) L ∧ wpR_lift_0 (fun r44 t45 => wpR_thrown_0 (fun r46 t47 => (r46 = r39 → (¬ r39 = 0 → wpW_law_359 mc ms L xs post K23 (t40.1, (t47, t40.2)) (k + m42) (n + m43) v1 v4) ∧ (r39 = 0 → ((lg_cmp (t40.2 0) r44.toInt64) = 0 → wpW_law_359 mc ms L xs post K23 (t40.1, (t47, t40.2)) (k + m42) (n + m43) v1 v4) ∧ (¬ (lg_cmp (t40.2 0) r44.toInt64) = 0 → k + m42 ≤ mc ∧ n + m43 ≤ ms ∧ post 0 (t40.1, (t47, t40.2))))) ∧ (¬ r46 = r39 → k + m42 ≤ mc ∧ n + m43 ≤ ms ∧ post 0 (t40.1, (t47, t40.2)))) t45) s.2.1 (xs (v4 + 1).toNatClampNeg) (xs (v4 + 2).toNatClampNeg) (xs (v4 + 3).toNatClampNeg) (xs (v4 + 4).toNatClampNeg) (xs (v4 + 5).toNatClampNeg)) (s.1, s.2.2) v1 (xs (v4 + 1).toNatClampNeg) (xs (v4 + 2).toNatClampNeg) (xs (v4 + 3).toNatClampNeg) (xs (v4 + 4).toNatClampNeg) (xs (v4 + 5).toNatClampNeg)) ∧ (((xs v4.toNatClampNeg) &&& 31) = 3 → vp_in (v4 + 1) L ∧ vp_in (v4 + 2) L ∧ vp_in (v4 + 3) L ∧ vp_in (v4 + 4) L ∧ vp_in (v4 + 5) L ∧ ∃ m54 m55 : Nat, k + m54 ≤ mc ∧ n + m55 ≤ ms ∧ 1 ≤ m54 ∧ 6 ≤ m55 ∧ wpL_slope_0 m54 m55 (fun r51 t52 => vp_in (v4 + 1) L ∧ vp_in (v4 + 2) L ∧ vp_in (v4 + 3) L ∧ vp_in (v4 + 4) L ∧ vp_in (v4 + 5) L ∧ wpR_slope_0 (fun r56 t57 => wpR_thrown_0 (fun r58 t59 => (r58 = r51 → (¬ r51 = 0 → wpW_law_463 mc ms L xs post K23 (t52.1, (t59, t52.2)) (k + m54) (n + m55) v1 v4) ∧ (r51 = 0 → ((lg_cmp (t52.2 0) r56.toInt64) = 0 → wpW_law_463 mc ms L xs post K23 (t52.1, (t59, t52.2)) (k + m54) (n + m55) v1 v4) ∧ (¬ (lg_cmp (t52.2 0) r56.toInt64) = 0 → k + m54 ≤ mc ∧ n + m55 ≤ ms ∧ post 0 (t52.1, (t59, t52.2))))) ∧ (¬ r58 = r51 → k + m54 ≤ mc ∧ n + m55 ≤ ms ∧ post 0 (t52.1, (t59, t52.2)))) t57) s.2.1 (xs (v4 + 1).toNatClampNeg) (xs (v4 + 2).toNatClampNeg) (xs (v4 + 3).toNatClampNeg) (xs (v4 + 4).toNatClampNeg) (xs (v4 + 5).toNatClampNeg)) (s.1, s.2.2) v1 (xs (v4 + 1).toNatClampNeg) (xs (v4 + 2).toNatClampNeg) (xs (v4 + 3).toNatClampNeg) (xs (v4 + 4).toNatClampNeg) (xs (v4 + 5).toNatClampNeg)) ∧ (((xs v4.toNatClampNeg) &&& 31) = 4 → vp_in (v4 + 1) L ∧ k + 2 ≤ mc ∧ n + 406 ≤ ms ∧ wpL_rule_0 (fun r63 t64 => vp_in (v4 + 1) L ∧ wpR_rule_0 (fun r66 t67 => wpR_thrown_0 (fun r68 t69 => (r68 = r63 → (¬ r63 = 0 → wpW_law_519 mc ms L xs post K23 (t64.1, (t69, t64.2)) (k + 2) (n + 406) v1 v4) ∧ (r63 = 0 → ((lg_cmp (t64.2 0) r66.toInt64) = 0 → wpW_law_519 mc ms L xs post K23 (t64.1, (t69, t64.2)) (k + 2) (n + 406) v1 v4) ∧ (¬ (lg_cmp (t64.2 0) r66.toInt64) = 0 → k + 2 ≤ mc ∧ n + 406 ≤ ms ∧ post 0 (t64.1, (t69, t64.2))))) ∧ (¬ r68 = r63 → k + 2 ≤ mc ∧ n + 406 ≤ ms ∧ post 0 (t64.1, (t69, t64.2)))) t67) s.2.1 (xs (v4 + 1).toNatClampNeg)) (s.1, s.2.2) v1 (xs (v4 + 1).toNatClampNeg)) ∧ (((xs v4.toNatClampNeg) &&& 31) = 5 → vp_in (v4 + 1) L ∧ k + 1 ≤ mc ∧ n + 6 ≤ ms ∧ wpL_unrule_0 (fun r73 t74 => vp_in (v4 + 1) L ∧ wpR_unrule_0 (fun r76 t77 => wpR_thrown_0 (fun r78 t79 => (r78 = r73 → (¬ r73 = 0 → wpW_law_582 mc ms L xs post K23 (t74.1, (t79, t74.2)) (k + 1) (n + 6) v1 v4) ∧ (r73 = 0 → (r76 = 0 → wpW_law_576 mc ms L xs post K23 (t74.1, (t79, t74.2)) (k + 1) (n + 6) v1 v4 (t74.2 0) 0) ∧ (¬ r76 = 0 → wpW_law_576 mc ms L xs post K23 (t74.1, (t79, t74.2)) (k + 1) (n + 6) v1 v4 (t74.2 0) 1))) ∧ (¬ r78 = r73 → k + 1 ≤ mc ∧ n + 6 ≤ ms ∧ post 0 (t74.1, (t79, t74.2)))) t77) s.2.1 (xs (v4 + 1).toNatClampNeg)) (s.1, s.2.2) v1 (xs (v4 + 1).toNatClampNeg)) ∧ (((xs v4.toNatClampNeg) &&& 31) = 6 → vp_in (v4 + 1) L ∧ cAt s.1 7 v1 ∧ wpC_X7_fault_0 (fun r83 t84 => vp_in (v4 + 1) L ∧ wpR_fault_0 (fun r85 t86 => (r83 = r85 → wpW_law_1707 mc ms L xs post K23 (t84, (t86, s.2.2)) k n v1 v4) ∧ (¬ r83 = r85 → k ≤ mc ∧ n ≤ ms ∧ post 0 (t84, (t86, s.2.2)))) s.2.1 (xs (v4 + 1).toNatClampNeg)) s.1 v1 (xs (v4 + 1).toNatClampNeg)) ∧ (((xs v4.toNatClampNeg) &&& 31) = 7 → vp_in (v4 + 1) L ∧ k + 1 ≤ mc ∧ n + 6 ≤ ms ∧ wpL_open_0 (fun r88 t89 => vp_in (v4 + 1) L ∧ wpR_open_0 (fun r91 t92 => wpR_thrown_0 (fun r93 t94 => (r93 = r88 → (¬ r88 = 0 → wpW_law_670 mc ms L xs post K23 (t89.1, (t94, t89.2)) (k + 1) (n + 6) v1 v4) ∧ (r88 = 0 → (r91 = 0 → wpW_law_664 mc ms L xs post K23 (t89.1, (t94, t89.2)) (k + 1) (n + 6) v1 v4 (t89.2 0) 0) ∧ (¬ r91 = 0 → wpW_law_664 mc ms L xs post K23 (t89.1, (t94, t89.2)) (k + 1) (n + 6) v1 v4 (t89.2 0) 1))) ∧ (¬ r93 = r88 → k + 1 ≤ mc ∧ n + 6 ≤ ms ∧ post 0 (t89.1, (t94, t89.2)))) t92) s.2.1 (xs (v4 + 1).toNatClampNeg)) (s.1, s.2.2) v1 (xs (v4 + 1).toNatClampNeg)) ∧ (((xs v4.toNatClampNeg) &&& 31) = 8 → vp_in (v4 + 1) L ∧ k + 1 ≤ mc ∧ n + 6 ≤ ms ∧ wpL_runs_0 (fun r98 t99 => vp_in (v4 + 1) L ∧ wpR_runs_0 (fun r101 t102 => wpR_thrown_0 (fun r103 t104 => (r103 = r98 → (¬ r98 = 0 → wpW_law_733 mc ms L xs post K23 (t99.1, (t104, t99.2)) (k + 1) (n + 6) v1 v4) ∧ (r98 = 0 → (r101 = 0 → wpW_law_727 mc ms L xs post K23 (t99.1, (t104, t99.2)) (k + 1) (n + 6) v1 v4 (t99.2 0) 0) ∧ (¬ r101 = 0 → wpW_law_727 mc ms L xs post K23 (t99.1, (t104, t99.2)) (k + 1) (n + 6) v1 v4 (t99.2 0) 1))) ∧ (¬ r103 = r98 → k + 1 ≤ mc ∧ n + 6 ≤ ms ∧ post 0 (t99.1, (t104, t99.2)))) t102) s.2.1 (xs (v4 + 1).toNatClampNeg)) (s.1, s.2.2) v1 (xs (v4 + 1).toNatClampNeg)) ∧ (((xs v4.toNatClampNeg) &&& 31) = 9 → vp_in (v4 + 1) L ∧ k + 1 ≤ mc ∧ n + 6 ≤ ms ∧ wpL_wind_0 (fun r108 t109 => vp_in (v4 + 1) L ∧ wpR_wind_0 (fun t112 => wpR_thrown_0 (fun r113 t114 => (r113 = r108 → wpW_law_1707 mc ms L xs post K23 (t109.1, (t114, t109.2)) (k + 1) (n + 6) v1 v4) ∧ (¬ r113 = r108 → k + 1 ≤ mc ∧ n + 6 ≤ ms ∧ post 0 (t109.1, (t114, t109.2)))) t112) s.2.1 (xs (v4 + 1).toNatClampNeg)) (s.1, s.2.2) v1 (xs (v4 + 1).toNatClampNeg)) ∧ (((xs v4.toNatClampNeg) &&& 31) = 10 → vp_in (v4 + 1) L ∧ vp_in (v4 + 2) L ∧ ((xs (v4 + 2).toNatClampNeg) = 0 → wpW_law_793 mc ms L xs post K23 s k n v1 v4 v1 (xs (v4 + 1).toNatClampNeg) 0) ∧ (¬ (xs (v4 + 2).toNatClampNeg) = 0 → wpW_law_793 mc ms L xs post K23 s k n v1 v4 v1 (xs (v4 + 1).toNatClampNeg) 1)) ∧ (((xs v4.toNatClampNeg) &&& 31) = 11 → vp_in (v4 + 1) L ∧ vp_in (v4 + 2) L ∧ vp_in (v4 + 3) L ∧ ∃ m120 m121 : Nat, k + m120 ≤ mc ∧ n + m121 ≤ ms ∧ 1 ≤ m120 ∧ 6 ≤ m121 ∧ wpL_group_0 m120 m121 (fun r117 t118 => vp_in (v4 + 1) L ∧ vp_in (v4 + 2) L ∧ vp_in (v4 + 3) L ∧ wpR_group_0 (fun r122 t123 => wpR_thrown_0 (fun r124 t125 => (r124 = r117 → (¬ r117 = 0 → wpW_law_940 mc ms L xs post K23 (t118.1, (t125, t118.2)) (k + m120) (n + m121) v1 v4) ∧ (r117 = 0 → ((lg_cmp (t118.2 0) r122.toInt64) = 0 → wpW_law_940 mc ms L xs post K23 (t118.1, (t125, t118.2)) (k + m120) (n + m121) v1 v4) ∧ (¬ (lg_cmp (t118.2 0) r122.toInt64) = 0 → k + m120 ≤ mc ∧ n + m121 ≤ ms ∧ post 0 (t118.1, (t125, t118.2))))) ∧ (¬ r124 = r117 → k + m120 ≤ mc ∧ n + m121 ≤ ms ∧ post 0 (t118.1, (t125, t118.2)))) t123) s.2.1 (xs (v4 + 1).toNatClampNeg) (xs (v4 + 2).toNatClampNeg) (xs (v4 + 3).toNatClampNeg)) (s.1, s.2.2) v1 (xs (v4 + 1).toNatClampNeg) (xs (v4 + 2).toNatClampNeg) (xs (v4 + 3).toNatClampNeg)) ∧ (((xs v4.toNatClampNeg) &&& 31) = 12 → vp_in (v4 + 1) L ∧ ∃ m132 m133 : Nat, k + m132 ≤ mc ∧ n + m133 ≤ ms ∧ 1 ≤ m132 ∧ 6 ≤ m133 ∧ wpL_step_0 m132 m133 (fun r129 t130 => vp_in (v4 + 1) L ∧ wpR_step_0 (fun r134 t135 => wpR_thrown_0 (fun r136 t137 => (r136 = r129 → (¬ r129 = 0 → wpW_law_996 mc ms L xs post K23 (t130.1, (t137, t130.2)) (k + m132) (n + m133) v1 v4) ∧ (r129 = 0 → ((lg_cmp (t130.2 0) r134.toInt64) = 0 → wpW_law_996 mc ms L xs post K23 (t130.1, (t137, t130.2)) (k + m132) (n + m133) v1 v4) ∧ (¬ (lg_cmp (t130.2 0) r134.toInt64) = 0 → k + m132 ≤ mc ∧ n + m133 ≤ ms ∧ post 0 (t130.1, (t137, t130.2))))) ∧ (¬ r136 = r129 → k + m132 ≤ mc ∧ n + m133 ≤ ms ∧ post 0 (t130.1, (t137, t130.2)))) t135) s.2.1 (xs (v4 + 1).toNatClampNeg)) (s.1, s.2.2) v1 (xs (v4 + 1).toNatClampNeg)) ∧ (((xs v4.toNatClampNeg) &&& 31) = 13 → vp_in (v4 + 1) L ∧ vp_in (v4 + 2) L ∧ k + 1 ≤ mc ∧ n + 6 ≤ ms ∧ wpL_look_0 (fun r141 t142 => vp_in (v4 + 1) L ∧ vp_in (v4 + 2) L ∧ wpR_look_0 (fun r144 t145 => wpR_thrown_0 (fun r146 t147 => (r146 = r141 → (¬ r141 = 0 → wpW_law_1064 mc ms L xs post K23 (t142.1, (t147, t142.2)) (k + 1) (n + 6) v1 v4) ∧ (r141 = 0 → ((lg_cmp (t142.2 0) r144.toInt64) = 0 → wpW_law_1064 mc ms L xs post K23 (t142.1, (t147, t142.2)) (k + 1) (n + 6) v1 v4) ∧ (¬ (lg_cmp (t142.2 0) r144.toInt64) = 0 → k + 1 ≤ mc ∧ n + 6 ≤ ms ∧ post 0 (t142.1, (t147, t142.2))))) ∧ (¬ r146 = r141 → k + 1 ≤ mc ∧ n + 6 ≤ ms ∧ post 0 (t142.1, (t147, t142.2)))) t145) s.2.1 (xs (v4 + 1).toNatClampNeg) (xs (v4 + 2).toNatClampNeg)) (s.1, s.2.2) v1 (xs (v4 + 1).toNatClampNeg) (xs (v4 + 2).toNatClampNeg)) ∧ (((xs v4.toNatClampNeg) &&& 31) = 14 → vp_in (v4 + 1) L ∧ vp_in (v4 + 2) L ∧ k + 1 ≤ mc ∧ n + 6 ≤ ms ∧ wpL_row_0 (fun r151 t152 => vp_in (v4 + 1) L ∧ vp_in (v4 + 2) L ∧ wpR_row_0 (fun r154 t155 => wpR_thrown_0 (fun r156 t157 => (r156 = r151 → (¬ r151 = 0 → wpW_law_1132 mc ms L xs post K23 (t152.1, (t157, t152.2)) (k + 1) (n + 6) v1 v4) ∧ (r151 = 0 → ((lg_cmp (t152.2 0) r154.toInt64) = 0 → wpW_law_1132 mc ms L xs post K23 (t152.1, (t157, t152.2)) (k + 1) (n + 6) v1 v4) ∧ (¬ (lg_cmp (t152.2 0) r154.toInt64) = 0 → k + 1 ≤ mc ∧ n + 6 ≤ ms ∧ post 0 (t152.1, (t157, t152.2))))) ∧ (¬ r156 = r151 → k + 1 ≤ mc ∧ n + 6 ≤ ms ∧ post 0 (t152.1, (t157, t152.2)))) t155) s.2.1 (xs (v4 + 1).toNatClampNeg) (xs (v4 + 2).toNatClampNeg)) (s.1, s.2.2) v1 (xs (v4 + 1).toNatClampNeg) (xs (v4 + 2).toNatClampNeg)) ∧ (((xs v4.toNatClampNeg) &&& 31) = 15 → vp_in (v4 + 1) L ∧ cAt s.1 7 v1 ∧ wpC_X7_people_0 (fun r161 t162 => vp_in (v4 + 1) L ∧ wpR_people_0 (fun r163 t164 => (r161 = r163 → wpW_law_1707 mc ms L xs post K23 (t162, (t164, s.2.2)) k n v1 v4) ∧ (¬ r161 = r163 → k ≤ mc ∧ n ≤ ms ∧ post 0 (t162, (t164, s.2.2)))) s.2.1 (xs (v4 + 1).toNatClampNeg)) s.1 v1 (xs (v4 + 1).toNatClampNeg)) ∧ (((xs v4.toNatClampNeg) &&& 31) = 16 → vp_in (v4 + 1) L ∧ vp_in (v4 + 2) L ∧ ((xs (v4 + 2).toNatClampNeg) = 0 → wpW_law_1181 mc ms L xs post K23 s k n v1 v4 v1 (xs (v4 + 1).toNatClampNeg) 0) ∧ (¬ (xs (v4 + 2).toNatClampNeg) = 0 → wpW_law_1181 mc ms L xs post K23 s k n v1 v4 v1 (xs (v4 + 1).toNatClampNeg) 1)) ∧ (((xs v4.toNatClampNeg) &&& 31) = 17 → vp_in (v4 + 1) L ∧ vp_in (v4 + 2) L ∧ k + 2 ≤ mc ∧ n + 12 ≤ ms ∧ wpL_melt_0 (fun r167 t168 => vp_in (v4 + 1) L ∧ vp_in (v4 + 2) L ∧ wpR_melt_0 (fun r170 t171 => wpR_thrown_0 (fun r172 t173 => (r172 = r167 → (¬ r167 = 0 → wpW_law_1321 mc ms L xs post K23 (t168.1, (t173, t168.2)) (k + 2) (n + 12) v1 v4) ∧ (r167 = 0 → ((lg_cmp (t168.2 0) r170.toInt64) = 0 → wpW_law_1321 mc ms L xs post K23 (t168.1, (t173, t168.2)) (k + 2) (n + 12) v1 v4) ∧ (¬ (lg_cmp (t168.2 0) r170.toInt64) = 0 → k + 2 ≤ mc ∧ n + 12 ≤ ms ∧ post 0 (t168.1, (t173, t168.2))))) ∧ (¬ r172 = r167 → k + 2 ≤ mc ∧ n + 12 ≤ ms ∧ post 0 (t168.1, (t173, t168.2)))) t171) s.2.1 (xs (v4 + 1).toNatClampNeg) (xs (v4 + 2).toNatClampNeg)) (s.1, s.2.2) v1 (xs (v4 + 1).toNatClampNeg) (xs (v4 + 2).toNatClampNeg)) ∧ (((xs v4.toNatClampNeg) &&& 31) = 18 → vp_in (v4 + 1) L ∧ k + 1 ≤ mc ∧ n + 6 ≤ ms ∧ wpL_push_0 (fun r177 t178 => vp_in (v4 + 1) L ∧ wpR_push_0 (fun r180 t181 => wpR_thrown_0 (fun r182 t183 => (r182 = r177 → (¬ r177 = 0 → wpW_law_1377 mc ms L xs post K23 (t178.1, (t183, t178.2)) (k + 1) (n + 6) v1 v4) ∧ (r177 = 0 → ((lg_cmp (t178.2 0) r180.toInt64) = 0 → wpW_law_1377 mc ms L xs post K23 (t178.1, (t183, t178.2)) (k + 1) (n + 6) v1 v4) ∧ (¬ (lg_cmp (t178.2 0) r180.toInt64) = 0 → k + 1 ≤ mc ∧ n + 6 ≤ ms ∧ post 0 (t178.1, (t183, t178.2))))) ∧ (¬ r182 = r177 → k + 1 ≤ mc ∧ n + 6 ≤ ms ∧ post 0 (t178.1, (t183, t178.2)))) t181) s.2.1 (xs (v4 + 1).toNatClampNeg)) (s.1, s.2.2) v1 (xs (v4 + 1).toNatClampNeg)) ∧ (((xs v4.toNatClampNeg) &&& 31) = 19 → vp_in (v4 + 1) L ∧ vp_in (v4 + 2) L ∧ k + 2 ≤ mc ∧ n + 12 ≤ ms ∧ wpL_cell_0 (fun r187 t188 => vp_in (v4 + 1) L ∧ vp_in (v4 + 2) L ∧ wpR_cell_0 (fun r190 t191 => wpR_thrown_0 (fun r192 t193 => (r192 = r187 → (¬ r187 = 0 → wpW_law_1445 mc ms L xs post K23 (t188.1, (t193, t188.2)) (k + 2) (n + 12) v1 v4) ∧ (r187 = 0 → ((lg_cmp (t188.2 0) r190.toInt64) = 0 → wpW_law_1445 mc ms L xs post K23 (t188.1, (t193, t188.2)) (k + 2) (n + 12) v1 v4) ∧ (¬ (lg_cmp (t188.2 0) r190.toInt64) = 0 → k + 2 ≤ mc ∧ n + 12 ≤ ms ∧ post 0 (t188.1, (t193, t188.2))))) ∧ (¬ r192 = r187 → k + 2 ≤ mc ∧ n + 12 ≤ ms ∧ post 0 (t188.1, (t193, t188.2)))) t191) s.2.1 (xs (v4 + 1).toNatClampNeg) (xs (v4 + 2).toNatClampNeg)) (s.1, s.2.2) v1 (xs (v4 + 1).toNatClampNeg) (xs (v4 + 2).toNatClampNeg)) ∧ (((xs v4.toNatClampNeg) &&& 31) = 20 → vp_in (v4 + 1) L ∧ vp_in (v4 + 2) L ∧ vp_in (v4 + 3) L ∧ ∃ m200 m201 : Nat, k + m200 ≤ mc ∧ n + m201 ≤ ms ∧ 1 ≤ m200 ∧ 6 ≤ m201 ∧ wpL_link_0 m200 m201 (fun r197 t198 => vp_in (v4 + 1) L ∧ vp_in (v4 + 2) L ∧ vp_in (v4 + 3) L ∧ wpR_link_0 (fun r202 t203 => wpR_thrown_0 (fun r204 t205 => (r204 = r197 → (¬ r197 = 0 → wpW_law_1525 mc ms L xs post K23 (t198.1, (t205, t198.2)) (k + m200) (n + m201) v1 v4) ∧ (r197 = 0 → ((lg_cmp (t198.2 0) r202.toInt64) = 0 → wpW_law_1525 mc ms L xs post K23 (t198.1, (t205, t198.2)) (k + m200) (n + m201) v1 v4) ∧ (¬ (lg_cmp (t198.2 0) r202.toInt64) = 0 → k + m200 ≤ mc ∧ n + m201 ≤ ms ∧ post 0 (t198.1, (t205, t198.2))))) ∧ (¬ r204 = r197 → k + m200 ≤ mc ∧ n + m201 ≤ ms ∧ post 0 (t198.1, (t205, t198.2)))) t203) s.2.1 (xs (v4 + 1).toNatClampNeg) (xs (v4 + 2).toNatClampNeg) (xs (v4 + 3).toNatClampNeg)) (s.1, s.2.2) v1 (xs (v4 + 1).toNatClampNeg) (xs (v4 + 2).toNatClampNeg) (xs (v4 + 3).toNatClampNeg)) ∧ (((xs v4.toNatClampNeg) &&& 31) = 21 → vp_in (v4 + 1) L ∧ vp_in (v4 + 2) L ∧ k + 2 ≤ mc ∧ n + 12 ≤ ms ∧ wpL_want_0 (fun r209 t210 => vp_in (v4 + 1) L ∧ vp_in (v4 + 2) L ∧ wpR_want_0 (fun t213 => wpR_thrown_0 (fun r214 t215 => (r214 = r209 → wpW_law_1707 mc ms L xs post K23 (t210.1, (t215, t210.2)) (k + 2) (n + 12) v1 v4) ∧ (¬ r214 = r209 → k + 2 ≤ mc ∧ n + 12 ≤ ms ∧ post 0 (t210.1, (t215, t210.2)))) t213) s.2.1 (xs (v4 + 1).toNatClampNeg) (xs (v4 + 2).toNatClampNeg)) (s.1, s.2.2) v1 (xs (v4 + 1).toNatClampNeg) (xs (v4 + 2).toNatClampNeg)) ∧ (((xs v4.toNatClampNeg) &&& 31) = 22 → cAt s.1 7 v1 ∧ wpC_X7_least_0 (fun r217 t218 => wpR_least_0 (fun r219 t220 => ((lg_cmp r217 r219) = 0 → wpW_law_1707 mc ms L xs post K23 (t218, (t220, s.2.2)) k n v1 v4) ∧ (¬ (lg_cmp r217 r219) = 0 → k ≤ mc ∧ n ≤ ms ∧ post 0 (t218, (t220, s.2.2)))) s.2.1) s.1 v1) ∧ (((xs v4.toNatClampNeg) &&& 31) = 23 → vp_in (v4 + 1) L ∧ vp_in (v4 + 2) L ∧ k + 2 ≤ mc ∧ n + 12 ≤ ms ∧ wpL_price_0 (fun r222 t223 => vp_in (v4 + 1) L ∧ vp_in (v4 + 2) L ∧ wpR_price_0 (fun t226 => wpR_thrown_0 (fun r227 t228 => (r227 = r222 → wpW_law_1707 mc ms L xs post K23 (t223.1, (t228, t223.2)) (k + 2) (n + 12) v1 v4) ∧ (¬ r227 = r222 → k + 2 ≤ mc ∧ n + 12 ≤ ms ∧ post 0 (t223.1, (t228, t223.2)))) t226) s.2.1 (xs (v4 + 1).toNatClampNeg) (xs (v4 + 2).toNatClampNeg)) (s.1, s.2.2) v1 (xs (v4 + 1).toNatClampNeg) (xs (v4 + 2).toNatClampNeg)) ∧ (((xs v4.toNatClampNeg) &&& 31) = 24 → k + 1 ≤ mc ∧ n + 6 ≤ ms ∧ wpL_judge_0 (fun r230 t231 => wpR_judge_0 (fun r233 t234 => wpR_thrown_0 (fun r235 t236 => (r235 = r230 → (¬ r230 = 0 → wpW_law_1678 mc ms L xs post K23 (t231.1, (t236, t231.2)) (k + 1) (n + 6) v1 v4) ∧ (r230 = 0 → ((lg_cmp (t231.2 0) r233) = 0 → wpW_law_1678 mc ms L xs post K23 (t231.1, (t236, t231.2)) (k + 1) (n + 6) v1 v4) ∧ (¬ (lg_cmp (t231.2 0) r233) = 0 → k + 1 ≤ mc ∧ n + 6 ≤ ms ∧ post 0 (t231.1, (t236, t231.2))))) ∧ (¬ r235 = r230 → k + 1 ≤ mc ∧ n + 6 ≤ ms ∧ post 0 (t231.1, (t236, t231.2)))) t234) s.2.1) (s.1, s.2.2) v1) ∧ (((xs v4.toNatClampNeg) &&& 31) = 25 → vp_in (v4 + 1) L ∧ cAt s.1 7 v1 ∧ wpC_X7_count_0 (fun r240 t241 => vp_in (v4 + 1) L ∧ wpR_count_0 (fun r242 t243 => ((lg_cmp r240 r242) = 0 → wpW_law_1707 mc ms L xs post K23 (t241, (t243, s.2.2)) k n v1 v4) ∧ (¬ (lg_cmp r240 r242) = 0 → k ≤ mc ∧ n ≤ ms ∧ post 0 (t241, (t243, s.2.2)))) s.2.1 (xs (v4 + 1).toNatClampNeg)) s.1 v1 (xs (v4 + 1).toNatClampNeg)) ∧ ((((xs v4.toNatClampNeg) &&& 31)).toInt < 0 ∨ 25 < (((xs v4.toNatClampNeg) &&& 31)).toInt → wpW_law_1707 mc ms L xs post K23 s k n v1 v4))
def wpW_law_23 (mc ms L : Nat) (xs : Nat → Int32) (post : Int32 → lSt → Prop) (s : lSt) (k : Nat) (n : Nat) (v1 : Nat) (v4 : Int32) : Prop := gLP (fun (K : lSt × Nat × Nat × Nat × Int32 → Prop) (x : lSt × Nat × Nat × Nat × Int32) => wpW_law_23_F mc ms L xs post (fun s k n v1 v4 => K (s, k, n, v1, v4)) x.1 x.2.1 x.2.2.1 x.2.2.2.1 x.2.2.2.2) (s, k, n, v1, v4)
theorem wkW_law_1707 {mc ms L sb oa : Nat} {xs : Nat → Int32} {X : gT} {G : cG} {gr : gG} {A : Nat → Prop} {H0 : Heap} {Q : State → Prop} (hfl : (g_l X).stackTraces = false) (C : lC X cL_law 8 G gr A sb L xs) (hsz : H0 = (g_s X).heap) (hR : 98 ≤ (g_R X).frames ∧ 2219 ≤ (g_R X).locals ∧ mc ≤ (g_R X).cells ∧ ms ≤ (g_R X).slots) {post : Int32 → lSt → Prop} (hret : ∀ (r : Int32) (τ : lSt) (lv : List (Nat × Value)) (pc : Nat), post r τ → narrow .boolean (.int r) = .int r → decode cL_law pc = .ok (.ireturn, 1) → gJ X (lWd G gr oa A H0) Q mc ms τ lv pc [.int r]) {K23 : lSt → Nat → Nat → Nat → Int32 → Prop} (hK23 : ∀ (s : lSt) (k : Nat) (n : Nat) (v1 : Nat) (v4 : Int32), K23 s k n v1 v4 → k ≤ mc ∧ n ≤ ms → gJ X (lWd G gr oa A H0) Q k n s [(0, .ref sb), (1, .ref v1), (2, .ref (gr.2.1 0)), (3, .ref oa), (4, .int v4)] 23 []) (s : lSt) (k : Nat) (n : Nat) (v1 : Nat) (v4 : Int32) (hk : k ≤ mc ∧ n ≤ ms) (hw : wpW_law_1707 mc ms L xs post K23 s k n v1 v4) : gJ X (lWd G gr oa A H0) Q k n s [(0, .ref sb), (1, .ref v1), (2, .ref (gr.2.1 0)), (3, .ref oa), (4, .int v4)] 1707 [] := by
  refine g_iinc (v := v4 + 6) (lv' := [(4, .int (v4 + 6)), (0, .ref sb), (1, .ref v1), (2, .ref (gr.2.1 0)), (3, .ref oa)]) C.1.1 4 dL_law_1707 rfl rfl (by decide) rfl ?_
  refine g_goto (tgt := 23) C.1.1 dL_law_1710 (by decide) ?_
  refine gJ.sub [1, 2, 3, 4, 0] rfl ?_
  exact hK23 _ _ _ _ _ hw hk
theorem wkW_law_359 {mc ms L sb oa : Nat} {xs : Nat → Int32} {X : gT} {G : cG} {gr : gG} {A : Nat → Prop} {H0 : Heap} {Q : State → Prop} (hfl : (g_l X).stackTraces = false) (C : lC X cL_law 8 G gr A sb L xs) (hsz : H0 = (g_s X).heap) (hR : 98 ≤ (g_R X).frames ∧ 2219 ≤ (g_R X).locals ∧ mc ≤ (g_R X).cells ∧ ms ≤ (g_R X).slots) {post : Int32 → lSt → Prop} (hret : ∀ (r : Int32) (τ : lSt) (lv : List (Nat × Value)) (pc : Nat), post r τ → narrow .boolean (.int r) = .int r → decode cL_law pc = .ok (.ireturn, 1) → gJ X (lWd G gr oa A H0) Q mc ms τ lv pc [.int r]) {K23 : lSt → Nat → Nat → Nat → Int32 → Prop} (hK23 : ∀ (s : lSt) (k : Nat) (n : Nat) (v1 : Nat) (v4 : Int32), K23 s k n v1 v4 → k ≤ mc ∧ n ≤ ms → gJ X (lWd G gr oa A H0) Q k n s [(0, .ref sb), (1, .ref v1), (2, .ref (gr.2.1 0)), (3, .ref oa), (4, .int v4)] 23 []) (s : lSt) (k : Nat) (n : Nat) (v1 : Nat) (v4 : Int32) (hk : k ≤ mc ∧ n ≤ ms) (hw : wpW_law_359 mc ms L xs post K23 s k n v1 v4) : gJ X (lWd G gr oa A H0) Q k n s [(0, .ref sb), (1, .ref v1), (2, .ref (gr.2.1 0)), (3, .ref oa), (4, .int v4)] 359 [] := by
  refine g_goto (tgt := 1707) C.1.1 dL_law_359 (by decide) ?_
  exact wkW_law_1707 hfl C hsz hR hret hK23 _ _ _ _ _ hk hw
theorem wkW_law_463 {mc ms L sb oa : Nat} {xs : Nat → Int32} {X : gT} {G : cG} {gr : gG} {A : Nat → Prop} {H0 : Heap} {Q : State → Prop} (hfl : (g_l X).stackTraces = false) (C : lC X cL_law 8 G gr A sb L xs) (hsz : H0 = (g_s X).heap) (hR : 98 ≤ (g_R X).frames ∧ 2219 ≤ (g_R X).locals ∧ mc ≤ (g_R X).cells ∧ ms ≤ (g_R X).slots) {post : Int32 → lSt → Prop} (hret : ∀ (r : Int32) (τ : lSt) (lv : List (Nat × Value)) (pc : Nat), post r τ → narrow .boolean (.int r) = .int r → decode cL_law pc = .ok (.ireturn, 1) → gJ X (lWd G gr oa A H0) Q mc ms τ lv pc [.int r]) {K23 : lSt → Nat → Nat → Nat → Int32 → Prop} (hK23 : ∀ (s : lSt) (k : Nat) (n : Nat) (v1 : Nat) (v4 : Int32), K23 s k n v1 v4 → k ≤ mc ∧ n ≤ ms → gJ X (lWd G gr oa A H0) Q k n s [(0, .ref sb), (1, .ref v1), (2, .ref (gr.2.1 0)), (3, .ref oa), (4, .int v4)] 23 []) (s : lSt) (k : Nat) (n : Nat) (v1 : Nat) (v4 : Int32) (hk : k ≤ mc ∧ n ≤ ms) (hw : wpW_law_463 mc ms L xs post K23 s k n v1 v4) : gJ X (lWd G gr oa A H0) Q k n s [(0, .ref sb), (1, .ref v1), (2, .ref (gr.2.1 0)), (3, .ref oa), (4, .int v4)] 463 [] := by
  refine g_goto (tgt := 1707) C.1.1 dL_law_463 (by decide) ?_
  exact wkW_law_1707 hfl C hsz hR hret hK23 _ _ _ _ _ hk hw
theorem wkW_law_519 {mc ms L sb oa : Nat} {xs : Nat → Int32} {X : gT} {G : cG} {gr : gG} {A : Nat → Prop} {H0 : Heap} {Q : State → Prop} (hfl : (g_l X).stackTraces = false) (C : lC X cL_law 8 G gr A sb L xs) (hsz : H0 = (g_s X).heap) (hR : 98 ≤ (g_R X).frames ∧ 2219 ≤ (g_R X).locals ∧ mc ≤ (g_R X).cells ∧ ms ≤ (g_R X).slots) {post : Int32 → lSt → Prop} (hret : ∀ (r : Int32) (τ : lSt) (lv : List (Nat × Value)) (pc : Nat), post r τ → narrow .boolean (.int r) = .int r → decode cL_law pc = .ok (.ireturn, 1) → gJ X (lWd G gr oa A H0) Q mc ms τ lv pc [.int r]) {K23 : lSt → Nat → Nat → Nat → Int32 → Prop} (hK23 : ∀ (s : lSt) (k : Nat) (n : Nat) (v1 : Nat) (v4 : Int32), K23 s k n v1 v4 → k ≤ mc ∧ n ≤ ms → gJ X (lWd G gr oa A H0) Q k n s [(0, .ref sb), (1, .ref v1), (2, .ref (gr.2.1 0)), (3, .ref oa), (4, .int v4)] 23 []) (s : lSt) (k : Nat) (n : Nat) (v1 : Nat) (v4 : Int32) (hk : k ≤ mc ∧ n ≤ ms) (hw : wpW_law_519 mc ms L xs post K23 s k n v1 v4) : gJ X (lWd G gr oa A H0) Q k n s [(0, .ref sb), (1, .ref v1), (2, .ref (gr.2.1 0)), (3, .ref oa), (4, .int v4)] 519 [] := by
  refine g_goto (tgt := 1707) C.1.1 dL_law_519 (by decide) ?_
  exact wkW_law_1707 hfl C hsz hR hret hK23 _ _ _ _ _ hk hw
theorem wkW_law_582 {mc ms L sb oa : Nat} {xs : Nat → Int32} {X : gT} {G : cG} {gr : gG} {A : Nat → Prop} {H0 : Heap} {Q : State → Prop} (hfl : (g_l X).stackTraces = false) (C : lC X cL_law 8 G gr A sb L xs) (hsz : H0 = (g_s X).heap) (hR : 98 ≤ (g_R X).frames ∧ 2219 ≤ (g_R X).locals ∧ mc ≤ (g_R X).cells ∧ ms ≤ (g_R X).slots) {post : Int32 → lSt → Prop} (hret : ∀ (r : Int32) (τ : lSt) (lv : List (Nat × Value)) (pc : Nat), post r τ → narrow .boolean (.int r) = .int r → decode cL_law pc = .ok (.ireturn, 1) → gJ X (lWd G gr oa A H0) Q mc ms τ lv pc [.int r]) {K23 : lSt → Nat → Nat → Nat → Int32 → Prop} (hK23 : ∀ (s : lSt) (k : Nat) (n : Nat) (v1 : Nat) (v4 : Int32), K23 s k n v1 v4 → k ≤ mc ∧ n ≤ ms → gJ X (lWd G gr oa A H0) Q k n s [(0, .ref sb), (1, .ref v1), (2, .ref (gr.2.1 0)), (3, .ref oa), (4, .int v4)] 23 []) (s : lSt) (k : Nat) (n : Nat) (v1 : Nat) (v4 : Int32) (hk : k ≤ mc ∧ n ≤ ms) (hw : wpW_law_582 mc ms L xs post K23 s k n v1 v4) : gJ X (lWd G gr oa A H0) Q k n s [(0, .ref sb), (1, .ref v1), (2, .ref (gr.2.1 0)), (3, .ref oa), (4, .int v4)] 582 [] := by
  refine g_goto (tgt := 1707) C.1.1 dL_law_582 (by decide) ?_
  exact wkW_law_1707 hfl C hsz hR hret hK23 _ _ _ _ _ hk hw
theorem wkW_law_576 {mc ms L sb oa : Nat} {xs : Nat → Int32} {X : gT} {G : cG} {gr : gG} {A : Nat → Prop} {H0 : Heap} {Q : State → Prop} (hfl : (g_l X).stackTraces = false) (C : lC X cL_law 8 G gr A sb L xs) (hsz : H0 = (g_s X).heap) (hR : 98 ≤ (g_R X).frames ∧ 2219 ≤ (g_R X).locals ∧ mc ≤ (g_R X).cells ∧ ms ≤ (g_R X).slots) {post : Int32 → lSt → Prop} (hret : ∀ (r : Int32) (τ : lSt) (lv : List (Nat × Value)) (pc : Nat), post r τ → narrow .boolean (.int r) = .int r → decode cL_law pc = .ok (.ireturn, 1) → gJ X (lWd G gr oa A H0) Q mc ms τ lv pc [.int r]) {K23 : lSt → Nat → Nat → Nat → Int32 → Prop} (hK23 : ∀ (s : lSt) (k : Nat) (n : Nat) (v1 : Nat) (v4 : Int32), K23 s k n v1 v4 → k ≤ mc ∧ n ≤ ms → gJ X (lWd G gr oa A H0) Q k n s [(0, .ref sb), (1, .ref v1), (2, .ref (gr.2.1 0)), (3, .ref oa), (4, .int v4)] 23 []) (s : lSt) (k : Nat) (n : Nat) (v1 : Nat) (v4 : Int32) (w0 : Int64) (w1 : Int64) (hk : k ≤ mc ∧ n ≤ ms) (hw : wpW_law_576 mc ms L xs post K23 s k n v1 v4 w0 w1) : gJ X (lWd G gr oa A H0) Q k n s [(0, .ref sb), (1, .ref v1), (2, .ref (gr.2.1 0)), (3, .ref oa), (4, .int v4)] 576 [.long w1, .long w0] := by
  refine g_lcmp C.1.1 dL_law_576 ?_
  refine g_if_eq (tgt := 582) C.1.1 dL_law_577 (by decide) (fun h1 => ?_) (fun h1 => ?_)
  · replace hw := hw.1 h1
    exact wkW_law_582 hfl C hsz hR hret hK23 _ _ _ _ _ hk hw
  · replace hw := hw.2 h1
    refine g_iconst (v := 0) C.1.1 dL_law_580 (by decide) ?_
    refine gJ.widen hw.1 hw.2.1 ?_
    replace hw := hw.2.2
    exact hret _ _ _ _ hw rfl dL_law_581
theorem wkW_law_670 {mc ms L sb oa : Nat} {xs : Nat → Int32} {X : gT} {G : cG} {gr : gG} {A : Nat → Prop} {H0 : Heap} {Q : State → Prop} (hfl : (g_l X).stackTraces = false) (C : lC X cL_law 8 G gr A sb L xs) (hsz : H0 = (g_s X).heap) (hR : 98 ≤ (g_R X).frames ∧ 2219 ≤ (g_R X).locals ∧ mc ≤ (g_R X).cells ∧ ms ≤ (g_R X).slots) {post : Int32 → lSt → Prop} (hret : ∀ (r : Int32) (τ : lSt) (lv : List (Nat × Value)) (pc : Nat), post r τ → narrow .boolean (.int r) = .int r → decode cL_law pc = .ok (.ireturn, 1) → gJ X (lWd G gr oa A H0) Q mc ms τ lv pc [.int r]) {K23 : lSt → Nat → Nat → Nat → Int32 → Prop} (hK23 : ∀ (s : lSt) (k : Nat) (n : Nat) (v1 : Nat) (v4 : Int32), K23 s k n v1 v4 → k ≤ mc ∧ n ≤ ms → gJ X (lWd G gr oa A H0) Q k n s [(0, .ref sb), (1, .ref v1), (2, .ref (gr.2.1 0)), (3, .ref oa), (4, .int v4)] 23 []) (s : lSt) (k : Nat) (n : Nat) (v1 : Nat) (v4 : Int32) (hk : k ≤ mc ∧ n ≤ ms) (hw : wpW_law_670 mc ms L xs post K23 s k n v1 v4) : gJ X (lWd G gr oa A H0) Q k n s [(0, .ref sb), (1, .ref v1), (2, .ref (gr.2.1 0)), (3, .ref oa), (4, .int v4)] 670 [] := by
  refine g_goto (tgt := 1707) C.1.1 dL_law_670 (by decide) ?_
  exact wkW_law_1707 hfl C hsz hR hret hK23 _ _ _ _ _ hk hw
theorem wkW_law_664 {mc ms L sb oa : Nat} {xs : Nat → Int32} {X : gT} {G : cG} {gr : gG} {A : Nat → Prop} {H0 : Heap} {Q : State → Prop} (hfl : (g_l X).stackTraces = false) (C : lC X cL_law 8 G gr A sb L xs) (hsz : H0 = (g_s X).heap) (hR : 98 ≤ (g_R X).frames ∧ 2219 ≤ (g_R X).locals ∧ mc ≤ (g_R X).cells ∧ ms ≤ (g_R X).slots) {post : Int32 → lSt → Prop} (hret : ∀ (r : Int32) (τ : lSt) (lv : List (Nat × Value)) (pc : Nat), post r τ → narrow .boolean (.int r) = .int r → decode cL_law pc = .ok (.ireturn, 1) → gJ X (lWd G gr oa A H0) Q mc ms τ lv pc [.int r]) {K23 : lSt → Nat → Nat → Nat → Int32 → Prop} (hK23 : ∀ (s : lSt) (k : Nat) (n : Nat) (v1 : Nat) (v4 : Int32), K23 s k n v1 v4 → k ≤ mc ∧ n ≤ ms → gJ X (lWd G gr oa A H0) Q k n s [(0, .ref sb), (1, .ref v1), (2, .ref (gr.2.1 0)), (3, .ref oa), (4, .int v4)] 23 []) (s : lSt) (k : Nat) (n : Nat) (v1 : Nat) (v4 : Int32) (w0 : Int64) (w1 : Int64) (hk : k ≤ mc ∧ n ≤ ms) (hw : wpW_law_664 mc ms L xs post K23 s k n v1 v4 w0 w1) : gJ X (lWd G gr oa A H0) Q k n s [(0, .ref sb), (1, .ref v1), (2, .ref (gr.2.1 0)), (3, .ref oa), (4, .int v4)] 664 [.long w1, .long w0] := by
  refine g_lcmp C.1.1 dL_law_664 ?_
  refine g_if_eq (tgt := 670) C.1.1 dL_law_665 (by decide) (fun h2 => ?_) (fun h2 => ?_)
  · replace hw := hw.1 h2
    exact wkW_law_670 hfl C hsz hR hret hK23 _ _ _ _ _ hk hw
  · replace hw := hw.2 h2
    refine g_iconst (v := 0) C.1.1 dL_law_668 (by decide) ?_
    refine gJ.widen hw.1 hw.2.1 ?_
    replace hw := hw.2.2
    exact hret _ _ _ _ hw rfl dL_law_669
theorem wkW_law_733 {mc ms L sb oa : Nat} {xs : Nat → Int32} {X : gT} {G : cG} {gr : gG} {A : Nat → Prop} {H0 : Heap} {Q : State → Prop} (hfl : (g_l X).stackTraces = false) (C : lC X cL_law 8 G gr A sb L xs) (hsz : H0 = (g_s X).heap) (hR : 98 ≤ (g_R X).frames ∧ 2219 ≤ (g_R X).locals ∧ mc ≤ (g_R X).cells ∧ ms ≤ (g_R X).slots) {post : Int32 → lSt → Prop} (hret : ∀ (r : Int32) (τ : lSt) (lv : List (Nat × Value)) (pc : Nat), post r τ → narrow .boolean (.int r) = .int r → decode cL_law pc = .ok (.ireturn, 1) → gJ X (lWd G gr oa A H0) Q mc ms τ lv pc [.int r]) {K23 : lSt → Nat → Nat → Nat → Int32 → Prop} (hK23 : ∀ (s : lSt) (k : Nat) (n : Nat) (v1 : Nat) (v4 : Int32), K23 s k n v1 v4 → k ≤ mc ∧ n ≤ ms → gJ X (lWd G gr oa A H0) Q k n s [(0, .ref sb), (1, .ref v1), (2, .ref (gr.2.1 0)), (3, .ref oa), (4, .int v4)] 23 []) (s : lSt) (k : Nat) (n : Nat) (v1 : Nat) (v4 : Int32) (hk : k ≤ mc ∧ n ≤ ms) (hw : wpW_law_733 mc ms L xs post K23 s k n v1 v4) : gJ X (lWd G gr oa A H0) Q k n s [(0, .ref sb), (1, .ref v1), (2, .ref (gr.2.1 0)), (3, .ref oa), (4, .int v4)] 733 [] := by
  refine g_goto (tgt := 1707) C.1.1 dL_law_733 (by decide) ?_
  exact wkW_law_1707 hfl C hsz hR hret hK23 _ _ _ _ _ hk hw
theorem wkW_law_727 {mc ms L sb oa : Nat} {xs : Nat → Int32} {X : gT} {G : cG} {gr : gG} {A : Nat → Prop} {H0 : Heap} {Q : State → Prop} (hfl : (g_l X).stackTraces = false) (C : lC X cL_law 8 G gr A sb L xs) (hsz : H0 = (g_s X).heap) (hR : 98 ≤ (g_R X).frames ∧ 2219 ≤ (g_R X).locals ∧ mc ≤ (g_R X).cells ∧ ms ≤ (g_R X).slots) {post : Int32 → lSt → Prop} (hret : ∀ (r : Int32) (τ : lSt) (lv : List (Nat × Value)) (pc : Nat), post r τ → narrow .boolean (.int r) = .int r → decode cL_law pc = .ok (.ireturn, 1) → gJ X (lWd G gr oa A H0) Q mc ms τ lv pc [.int r]) {K23 : lSt → Nat → Nat → Nat → Int32 → Prop} (hK23 : ∀ (s : lSt) (k : Nat) (n : Nat) (v1 : Nat) (v4 : Int32), K23 s k n v1 v4 → k ≤ mc ∧ n ≤ ms → gJ X (lWd G gr oa A H0) Q k n s [(0, .ref sb), (1, .ref v1), (2, .ref (gr.2.1 0)), (3, .ref oa), (4, .int v4)] 23 []) (s : lSt) (k : Nat) (n : Nat) (v1 : Nat) (v4 : Int32) (w0 : Int64) (w1 : Int64) (hk : k ≤ mc ∧ n ≤ ms) (hw : wpW_law_727 mc ms L xs post K23 s k n v1 v4 w0 w1) : gJ X (lWd G gr oa A H0) Q k n s [(0, .ref sb), (1, .ref v1), (2, .ref (gr.2.1 0)), (3, .ref oa), (4, .int v4)] 727 [.long w1, .long w0] := by
  refine g_lcmp C.1.1 dL_law_727 ?_
  refine g_if_eq (tgt := 733) C.1.1 dL_law_728 (by decide) (fun h3 => ?_) (fun h3 => ?_)
  · replace hw := hw.1 h3
    exact wkW_law_733 hfl C hsz hR hret hK23 _ _ _ _ _ hk hw
  · replace hw := hw.2 h3
    refine g_iconst (v := 0) C.1.1 dL_law_731 (by decide) ?_
    refine gJ.widen hw.1 hw.2.1 ?_
    replace hw := hw.2.2
    exact hret _ _ _ _ hw rfl dL_law_732
theorem wkW_law_860 {mc ms L sb oa : Nat} {xs : Nat → Int32} {X : gT} {G : cG} {gr : gG} {A : Nat → Prop} {H0 : Heap} {Q : State → Prop} (hfl : (g_l X).stackTraces = false) (C : lC X cL_law 8 G gr A sb L xs) (hsz : H0 = (g_s X).heap) (hR : 98 ≤ (g_R X).frames ∧ 2219 ≤ (g_R X).locals ∧ mc ≤ (g_R X).cells ∧ ms ≤ (g_R X).slots) {post : Int32 → lSt → Prop} (hret : ∀ (r : Int32) (τ : lSt) (lv : List (Nat × Value)) (pc : Nat), post r τ → narrow .boolean (.int r) = .int r → decode cL_law pc = .ok (.ireturn, 1) → gJ X (lWd G gr oa A H0) Q mc ms τ lv pc [.int r]) {K23 : lSt → Nat → Nat → Nat → Int32 → Prop} (hK23 : ∀ (s : lSt) (k : Nat) (n : Nat) (v1 : Nat) (v4 : Int32), K23 s k n v1 v4 → k ≤ mc ∧ n ≤ ms → gJ X (lWd G gr oa A H0) Q k n s [(0, .ref sb), (1, .ref v1), (2, .ref (gr.2.1 0)), (3, .ref oa), (4, .int v4)] 23 []) (s : lSt) (k : Nat) (n : Nat) (v1 : Nat) (v4 : Int32) (hk : k ≤ mc ∧ n ≤ ms) (hw : wpW_law_860 mc ms L xs post K23 s k n v1 v4) : gJ X (lWd G gr oa A H0) Q k n s [(0, .ref sb), (1, .ref v1), (2, .ref (gr.2.1 0)), (3, .ref oa), (4, .int v4)] 860 [] := by
  refine g_goto (tgt := 1707) C.1.1 dL_law_860 (by decide) ?_
  exact wkW_law_1707 hfl C hsz hR hret hK23 _ _ _ _ _ hk hw
theorem wkW_law_854 {mc ms L sb oa : Nat} {xs : Nat → Int32} {X : gT} {G : cG} {gr : gG} {A : Nat → Prop} {H0 : Heap} {Q : State → Prop} (hfl : (g_l X).stackTraces = false) (C : lC X cL_law 8 G gr A sb L xs) (hsz : H0 = (g_s X).heap) (hR : 98 ≤ (g_R X).frames ∧ 2219 ≤ (g_R X).locals ∧ mc ≤ (g_R X).cells ∧ ms ≤ (g_R X).slots) {post : Int32 → lSt → Prop} (hret : ∀ (r : Int32) (τ : lSt) (lv : List (Nat × Value)) (pc : Nat), post r τ → narrow .boolean (.int r) = .int r → decode cL_law pc = .ok (.ireturn, 1) → gJ X (lWd G gr oa A H0) Q mc ms τ lv pc [.int r]) {K23 : lSt → Nat → Nat → Nat → Int32 → Prop} (hK23 : ∀ (s : lSt) (k : Nat) (n : Nat) (v1 : Nat) (v4 : Int32), K23 s k n v1 v4 → k ≤ mc ∧ n ≤ ms → gJ X (lWd G gr oa A H0) Q k n s [(0, .ref sb), (1, .ref v1), (2, .ref (gr.2.1 0)), (3, .ref oa), (4, .int v4)] 23 []) (s : lSt) (k : Nat) (n : Nat) (v1 : Nat) (v4 : Int32) (w0 : Int64) (w1 : Int64) (hk : k ≤ mc ∧ n ≤ ms) (hw : wpW_law_854 mc ms L xs post K23 s k n v1 v4 w0 w1) : gJ X (lWd G gr oa A H0) Q k n s [(0, .ref sb), (1, .ref v1), (2, .ref (gr.2.1 0)), (3, .ref oa), (4, .int v4)] 854 [.long w1, .long w0] := by
  refine g_lcmp C.1.1 dL_law_854 ?_
  refine g_if_eq (tgt := 860) C.1.1 dL_law_855 (by decide) (fun h4 => ?_) (fun h4 => ?_)
  · replace hw := hw.1 h4
    exact wkW_law_860 hfl C hsz hR hret hK23 _ _ _ _ _ hk hw
  · replace hw := hw.2 h4
    refine g_iconst (v := 0) C.1.1 dL_law_858 (by decide) ?_
    refine gJ.widen hw.1 hw.2.1 ?_
    replace hw := hw.2.2
    exact hret _ _ _ _ hw rfl dL_law_859
theorem wkW_law_820 {mc ms L sb oa : Nat} {xs : Nat → Int32} {X : gT} {G : cG} {gr : gG} {A : Nat → Prop} {H0 : Heap} {Q : State → Prop} (hfl : (g_l X).stackTraces = false) (C : lC X cL_law 8 G gr A sb L xs) (hsz : H0 = (g_s X).heap) (hR : 98 ≤ (g_R X).frames ∧ 2219 ≤ (g_R X).locals ∧ mc ≤ (g_R X).cells ∧ ms ≤ (g_R X).slots) {post : Int32 → lSt → Prop} (hret : ∀ (r : Int32) (τ : lSt) (lv : List (Nat × Value)) (pc : Nat), post r τ → narrow .boolean (.int r) = .int r → decode cL_law pc = .ok (.ireturn, 1) → gJ X (lWd G gr oa A H0) Q mc ms τ lv pc [.int r]) {K23 : lSt → Nat → Nat → Nat → Int32 → Prop} (hK23 : ∀ (s : lSt) (k : Nat) (n : Nat) (v1 : Nat) (v4 : Int32), K23 s k n v1 v4 → k ≤ mc ∧ n ≤ ms → gJ X (lWd G gr oa A H0) Q k n s [(0, .ref sb), (1, .ref v1), (2, .ref (gr.2.1 0)), (3, .ref oa), (4, .int v4)] 23 []) (s : lSt) (k : Nat) (n : Nat) (v1 : Nat) (v4 : Int32) (v5 : Int32) (w1 : Int32) (w2 : Int32) (hk : k ≤ mc ∧ n ≤ ms) (hw : wpW_law_820 mc ms L xs post K23 s k n v1 v4 v5 w1 w2) : gJ X (lWd G gr oa A H0) Q k n s [(0, .ref sb), (1, .ref v1), (2, .ref (gr.2.1 0)), (3, .ref oa), (4, .int v4), (5, .int v5)] 820 [.int w2, .int w1, .ref (gr.2.1 0)] := by
  refine l_refi (vs := [.int w1, .int w2]) C hsz (cR_stop (g_l X) (G.1, gr) _ _ _ _ hw) kL_152 kL_153 kL_154 (kL_R _ kR_224) hdR_stop ⟨Nat.le_trans (Nat.le_of_ble_eq_true rfl) hR.1, Nat.le_trans (Nat.le_of_ble_eq_true rfl) hR.2.1⟩ ⟨Nat.le_trans hk.1 hR.2.2.1, Nat.le_trans hk.2 hR.2.2.2⟩ dL_law_820 rfl (Nat.le_of_ble_eq_true rfl) (fun r5 t6 hw => ?_)
  refine g_istore (lv' := [(6, .int r5), (0, .ref sb), (1, .ref v1), (2, .ref (gr.2.1 0)), (3, .ref oa), (4, .int v4), (5, .int v5)]) C.1.1 dL_law_823 (by decide) rfl ?_
  refine g_aload_n C.1.1 3 dL_law_825 rfl rfl ?_
  refine l_refi (vs := []) C hsz (cR_thrown (g_l X) (G.1, gr) _ _ hw) kL_111 kL_112 kL_113 (kL_R _ kR_41) hdR_thrown ⟨Nat.le_trans (Nat.le_of_ble_eq_true rfl) hR.1, Nat.le_trans (Nat.le_of_ble_eq_true rfl) hR.2.1⟩ ⟨Nat.le_trans hk.1 hR.2.2.1, Nat.le_trans hk.2 hR.2.2.2⟩ dL_law_826 rfl (Nat.le_of_ble_eq_true rfl) (fun r7 t8 hw => ?_)
  refine g_iload C.1.1 6 dL_law_829 rfl ?_
  refine g_icmp_eq (tgt := 836) C.1.1 dL_law_831 (by decide) (fun h9 => ?_) (fun h9 => ?_)
  · replace hw := hw.1 h9
    refine g_iload C.1.1 6 dL_law_836 rfl ?_
    refine g_if_ne (tgt := 860) C.1.1 dL_law_838 (by decide) (fun h10 => ?_) (fun h10 => ?_)
    · replace hw := hw.1 h10
      refine gJ.sub [1, 2, 3, 4, 5] rfl ?_
      exact wkW_law_860 hfl C hsz hR hret hK23 _ _ _ _ _ hk hw
    · replace hw := hw.2 h10
      refine g_aload_n C.1.1 4 dL_law_841 rfl rfl ?_
      refine g_iconst (v := 0) C.1.1 dL_law_842 (by decide) ?_
      refine l_lld C h_in0 dL_law_843 ?_
      refine g_iload C.1.1 0 dL_law_844 rfl ?_
      refine g_if_eq (tgt := 853) C.1.1 dL_law_846 (by decide) (fun h11 => ?_) (fun h11 => ?_)
      · replace hw := hw.1 h11
        refine g_lconst (v := 0) C.1.1 dL_law_853 (by decide) ?_
        refine gJ.sub [1, 2, 3, 4, 5] rfl ?_
        exact wkW_law_854 hfl C hsz hR hret hK23 _ _ _ _ _ _ _ hk hw
      · replace hw := hw.2 h11
        refine g_lconst (v := 1) C.1.1 dL_law_849 (by decide) ?_
        refine g_goto (tgt := 854) C.1.1 dL_law_850 (by decide) ?_
        refine gJ.sub [1, 2, 3, 4, 5] rfl ?_
        exact wkW_law_854 hfl C hsz hR hret hK23 _ _ _ _ _ _ _ hk hw
  · replace hw := hw.2 h9
    refine g_iconst (v := 0) C.1.1 dL_law_834 (by decide) ?_
    refine gJ.widen hw.1 hw.2.1 ?_
    replace hw := hw.2.2
    exact hret _ _ _ _ hw rfl dL_law_835
theorem wkW_law_793 {mc ms L sb oa : Nat} {xs : Nat → Int32} {X : gT} {G : cG} {gr : gG} {A : Nat → Prop} {H0 : Heap} {Q : State → Prop} (hfl : (g_l X).stackTraces = false) (C : lC X cL_law 8 G gr A sb L xs) (hsz : H0 = (g_s X).heap) (hR : 98 ≤ (g_R X).frames ∧ 2219 ≤ (g_R X).locals ∧ mc ≤ (g_R X).cells ∧ ms ≤ (g_R X).slots) {post : Int32 → lSt → Prop} (hret : ∀ (r : Int32) (τ : lSt) (lv : List (Nat × Value)) (pc : Nat), post r τ → narrow .boolean (.int r) = .int r → decode cL_law pc = .ok (.ireturn, 1) → gJ X (lWd G gr oa A H0) Q mc ms τ lv pc [.int r]) {K23 : lSt → Nat → Nat → Nat → Int32 → Prop} (hK23 : ∀ (s : lSt) (k : Nat) (n : Nat) (v1 : Nat) (v4 : Int32), K23 s k n v1 v4 → k ≤ mc ∧ n ≤ ms → gJ X (lWd G gr oa A H0) Q k n s [(0, .ref sb), (1, .ref v1), (2, .ref (gr.2.1 0)), (3, .ref oa), (4, .int v4)] 23 []) (s : lSt) (k : Nat) (n : Nat) (v1 : Nat) (v4 : Int32) (w0 : Nat) (w1 : Int32) (w2 : Int32) (hk : k ≤ mc ∧ n ≤ ms) (hw : wpW_law_793 mc ms L xs post K23 s k n v1 v4 w0 w1 w2) : gJ X (lWd G gr oa A H0) Q k n s [(0, .ref sb), (1, .ref v1), (2, .ref (gr.2.1 0)), (3, .ref oa), (4, .int v4)] 793 [.int w2, .int w1, .ref w0] := by
  refine g_aload_n C.1.1 3 dL_law_793 rfl rfl ?_
  have hk14 : k + 1 ≤ mc ∧ n + 6 ≤ ms := ⟨hw.1, hw.2.1⟩
  replace hw := hw.2.2
  refine l_help (vs := [.ref w0, .int w1, .int w2, .ref oa]) C hsz rfl (cL_stop_c (g_l X) hfl G gr.1.2.2.1 oa _ _ _ _ _ hw) kL_150 kL_151 kL_35 kL_107 hdL_stop ⟨Nat.le_trans (Nat.le_of_ble_eq_true rfl) hR.1, Nat.le_trans (Nat.le_of_ble_eq_true rfl) hR.2.1⟩ ⟨Nat.le_trans hk14.1 hR.2.2.1, Nat.le_trans hk14.2 hR.2.2.2⟩ dL_law_794 rfl (Nat.le_of_ble_eq_true rfl) (fun r12 t13 hw => ?_)
  refine g_istore (lv' := [(5, .int r12), (0, .ref sb), (1, .ref v1), (2, .ref (gr.2.1 0)), (3, .ref oa), (4, .int v4)]) C.1.1 dL_law_797 (by decide) rfl ?_
  refine g_aload_n C.1.1 3 dL_law_799 rfl rfl ?_
  refine g_aload_n C.1.1 1 dL_law_800 rfl rfl ?_
  refine g_iload C.1.1 5 dL_law_801 rfl ?_
  refine g_iconst (v := 1) C.1.1 dL_law_803 (by decide) ?_
  refine g_iadd C.1.1 dL_law_804 ?_
  refine l_sld C hsz hw.1 dL_law_805 ?_
  replace hw := hw.2
  refine g_aload_n C.1.1 1 dL_law_806 rfl rfl ?_
  refine g_iload C.1.1 5 dL_law_807 rfl ?_
  refine g_iconst (v := 2) C.1.1 dL_law_809 (by decide) ?_
  refine g_iadd C.1.1 dL_law_810 ?_
  refine l_sld C hsz hw.1 dL_law_811 ?_
  replace hw := hw.2
  refine g_if_eq (tgt := 819) C.1.1 dL_law_812 (by decide) (fun h15 => ?_) (fun h15 => ?_)
  · replace hw := hw.1 h15
    refine g_iconst (v := 0) C.1.1 dL_law_819 (by decide) ?_
    refine gJ.sub [1, 2, 3, 4, 5, 0] rfl ?_
    exact wkW_law_820 hfl C hsz hR hret hK23 _ _ _ _ _ _ _ _ hk14 hw
  · replace hw := hw.2 h15
    refine g_iconst (v := 1) C.1.1 dL_law_815 (by decide) ?_
    refine g_goto (tgt := 820) C.1.1 dL_law_816 (by decide) ?_
    refine gJ.sub [1, 2, 3, 4, 5, 0] rfl ?_
    exact wkW_law_820 hfl C hsz hR hret hK23 _ _ _ _ _ _ _ _ hk14 hw
theorem wkW_law_940 {mc ms L sb oa : Nat} {xs : Nat → Int32} {X : gT} {G : cG} {gr : gG} {A : Nat → Prop} {H0 : Heap} {Q : State → Prop} (hfl : (g_l X).stackTraces = false) (C : lC X cL_law 8 G gr A sb L xs) (hsz : H0 = (g_s X).heap) (hR : 98 ≤ (g_R X).frames ∧ 2219 ≤ (g_R X).locals ∧ mc ≤ (g_R X).cells ∧ ms ≤ (g_R X).slots) {post : Int32 → lSt → Prop} (hret : ∀ (r : Int32) (τ : lSt) (lv : List (Nat × Value)) (pc : Nat), post r τ → narrow .boolean (.int r) = .int r → decode cL_law pc = .ok (.ireturn, 1) → gJ X (lWd G gr oa A H0) Q mc ms τ lv pc [.int r]) {K23 : lSt → Nat → Nat → Nat → Int32 → Prop} (hK23 : ∀ (s : lSt) (k : Nat) (n : Nat) (v1 : Nat) (v4 : Int32), K23 s k n v1 v4 → k ≤ mc ∧ n ≤ ms → gJ X (lWd G gr oa A H0) Q k n s [(0, .ref sb), (1, .ref v1), (2, .ref (gr.2.1 0)), (3, .ref oa), (4, .int v4)] 23 []) (s : lSt) (k : Nat) (n : Nat) (v1 : Nat) (v4 : Int32) (hk : k ≤ mc ∧ n ≤ ms) (hw : wpW_law_940 mc ms L xs post K23 s k n v1 v4) : gJ X (lWd G gr oa A H0) Q k n s [(0, .ref sb), (1, .ref v1), (2, .ref (gr.2.1 0)), (3, .ref oa), (4, .int v4)] 940 [] := by
  refine g_goto (tgt := 1707) C.1.1 dL_law_940 (by decide) ?_
  exact wkW_law_1707 hfl C hsz hR hret hK23 _ _ _ _ _ hk hw
theorem wkW_law_996 {mc ms L sb oa : Nat} {xs : Nat → Int32} {X : gT} {G : cG} {gr : gG} {A : Nat → Prop} {H0 : Heap} {Q : State → Prop} (hfl : (g_l X).stackTraces = false) (C : lC X cL_law 8 G gr A sb L xs) (hsz : H0 = (g_s X).heap) (hR : 98 ≤ (g_R X).frames ∧ 2219 ≤ (g_R X).locals ∧ mc ≤ (g_R X).cells ∧ ms ≤ (g_R X).slots) {post : Int32 → lSt → Prop} (hret : ∀ (r : Int32) (τ : lSt) (lv : List (Nat × Value)) (pc : Nat), post r τ → narrow .boolean (.int r) = .int r → decode cL_law pc = .ok (.ireturn, 1) → gJ X (lWd G gr oa A H0) Q mc ms τ lv pc [.int r]) {K23 : lSt → Nat → Nat → Nat → Int32 → Prop} (hK23 : ∀ (s : lSt) (k : Nat) (n : Nat) (v1 : Nat) (v4 : Int32), K23 s k n v1 v4 → k ≤ mc ∧ n ≤ ms → gJ X (lWd G gr oa A H0) Q k n s [(0, .ref sb), (1, .ref v1), (2, .ref (gr.2.1 0)), (3, .ref oa), (4, .int v4)] 23 []) (s : lSt) (k : Nat) (n : Nat) (v1 : Nat) (v4 : Int32) (hk : k ≤ mc ∧ n ≤ ms) (hw : wpW_law_996 mc ms L xs post K23 s k n v1 v4) : gJ X (lWd G gr oa A H0) Q k n s [(0, .ref sb), (1, .ref v1), (2, .ref (gr.2.1 0)), (3, .ref oa), (4, .int v4)] 996 [] := by
  refine g_goto (tgt := 1707) C.1.1 dL_law_996 (by decide) ?_
  exact wkW_law_1707 hfl C hsz hR hret hK23 _ _ _ _ _ hk hw
theorem wkW_law_1064 {mc ms L sb oa : Nat} {xs : Nat → Int32} {X : gT} {G : cG} {gr : gG} {A : Nat → Prop} {H0 : Heap} {Q : State → Prop} (hfl : (g_l X).stackTraces = false) (C : lC X cL_law 8 G gr A sb L xs) (hsz : H0 = (g_s X).heap) (hR : 98 ≤ (g_R X).frames ∧ 2219 ≤ (g_R X).locals ∧ mc ≤ (g_R X).cells ∧ ms ≤ (g_R X).slots) {post : Int32 → lSt → Prop} (hret : ∀ (r : Int32) (τ : lSt) (lv : List (Nat × Value)) (pc : Nat), post r τ → narrow .boolean (.int r) = .int r → decode cL_law pc = .ok (.ireturn, 1) → gJ X (lWd G gr oa A H0) Q mc ms τ lv pc [.int r]) {K23 : lSt → Nat → Nat → Nat → Int32 → Prop} (hK23 : ∀ (s : lSt) (k : Nat) (n : Nat) (v1 : Nat) (v4 : Int32), K23 s k n v1 v4 → k ≤ mc ∧ n ≤ ms → gJ X (lWd G gr oa A H0) Q k n s [(0, .ref sb), (1, .ref v1), (2, .ref (gr.2.1 0)), (3, .ref oa), (4, .int v4)] 23 []) (s : lSt) (k : Nat) (n : Nat) (v1 : Nat) (v4 : Int32) (hk : k ≤ mc ∧ n ≤ ms) (hw : wpW_law_1064 mc ms L xs post K23 s k n v1 v4) : gJ X (lWd G gr oa A H0) Q k n s [(0, .ref sb), (1, .ref v1), (2, .ref (gr.2.1 0)), (3, .ref oa), (4, .int v4)] 1064 [] := by
  refine g_goto (tgt := 1707) C.1.1 dL_law_1064 (by decide) ?_
  exact wkW_law_1707 hfl C hsz hR hret hK23 _ _ _ _ _ hk hw
theorem wkW_law_1132 {mc ms L sb oa : Nat} {xs : Nat → Int32} {X : gT} {G : cG} {gr : gG} {A : Nat → Prop} {H0 : Heap} {Q : State → Prop} (hfl : (g_l X).stackTraces = false) (C : lC X cL_law 8 G gr A sb L xs) (hsz : H0 = (g_s X).heap) (hR : 98 ≤ (g_R X).frames ∧ 2219 ≤ (g_R X).locals ∧ mc ≤ (g_R X).cells ∧ ms ≤ (g_R X).slots) {post : Int32 → lSt → Prop} (hret : ∀ (r : Int32) (τ : lSt) (lv : List (Nat × Value)) (pc : Nat), post r τ → narrow .boolean (.int r) = .int r → decode cL_law pc = .ok (.ireturn, 1) → gJ X (lWd G gr oa A H0) Q mc ms τ lv pc [.int r]) {K23 : lSt → Nat → Nat → Nat → Int32 → Prop} (hK23 : ∀ (s : lSt) (k : Nat) (n : Nat) (v1 : Nat) (v4 : Int32), K23 s k n v1 v4 → k ≤ mc ∧ n ≤ ms → gJ X (lWd G gr oa A H0) Q k n s [(0, .ref sb), (1, .ref v1), (2, .ref (gr.2.1 0)), (3, .ref oa), (4, .int v4)] 23 []) (s : lSt) (k : Nat) (n : Nat) (v1 : Nat) (v4 : Int32) (hk : k ≤ mc ∧ n ≤ ms) (hw : wpW_law_1132 mc ms L xs post K23 s k n v1 v4) : gJ X (lWd G gr oa A H0) Q k n s [(0, .ref sb), (1, .ref v1), (2, .ref (gr.2.1 0)), (3, .ref oa), (4, .int v4)] 1132 [] := by
  refine g_goto (tgt := 1707) C.1.1 dL_law_1132 (by decide) ?_
  exact wkW_law_1707 hfl C hsz hR hret hK23 _ _ _ _ _ hk hw
theorem wkW_law_1253 {mc ms L sb oa : Nat} {xs : Nat → Int32} {X : gT} {G : cG} {gr : gG} {A : Nat → Prop} {H0 : Heap} {Q : State → Prop} (hfl : (g_l X).stackTraces = false) (C : lC X cL_law 8 G gr A sb L xs) (hsz : H0 = (g_s X).heap) (hR : 98 ≤ (g_R X).frames ∧ 2219 ≤ (g_R X).locals ∧ mc ≤ (g_R X).cells ∧ ms ≤ (g_R X).slots) {post : Int32 → lSt → Prop} (hret : ∀ (r : Int32) (τ : lSt) (lv : List (Nat × Value)) (pc : Nat), post r τ → narrow .boolean (.int r) = .int r → decode cL_law pc = .ok (.ireturn, 1) → gJ X (lWd G gr oa A H0) Q mc ms τ lv pc [.int r]) {K23 : lSt → Nat → Nat → Nat → Int32 → Prop} (hK23 : ∀ (s : lSt) (k : Nat) (n : Nat) (v1 : Nat) (v4 : Int32), K23 s k n v1 v4 → k ≤ mc ∧ n ≤ ms → gJ X (lWd G gr oa A H0) Q k n s [(0, .ref sb), (1, .ref v1), (2, .ref (gr.2.1 0)), (3, .ref oa), (4, .int v4)] 23 []) (s : lSt) (k : Nat) (n : Nat) (v1 : Nat) (v4 : Int32) (hk : k ≤ mc ∧ n ≤ ms) (hw : wpW_law_1253 mc ms L xs post K23 s k n v1 v4) : gJ X (lWd G gr oa A H0) Q k n s [(0, .ref sb), (1, .ref v1), (2, .ref (gr.2.1 0)), (3, .ref oa), (4, .int v4)] 1253 [] := by
  refine g_goto (tgt := 1707) C.1.1 dL_law_1253 (by decide) ?_
  exact wkW_law_1707 hfl C hsz hR hret hK23 _ _ _ _ _ hk hw
theorem wkW_law_1214 {mc ms L sb oa : Nat} {xs : Nat → Int32} {X : gT} {G : cG} {gr : gG} {A : Nat → Prop} {H0 : Heap} {Q : State → Prop} (hfl : (g_l X).stackTraces = false) (C : lC X cL_law 8 G gr A sb L xs) (hsz : H0 = (g_s X).heap) (hR : 98 ≤ (g_R X).frames ∧ 2219 ≤ (g_R X).locals ∧ mc ≤ (g_R X).cells ∧ ms ≤ (g_R X).slots) {post : Int32 → lSt → Prop} (hret : ∀ (r : Int32) (τ : lSt) (lv : List (Nat × Value)) (pc : Nat), post r τ → narrow .boolean (.int r) = .int r → decode cL_law pc = .ok (.ireturn, 1) → gJ X (lWd G gr oa A H0) Q mc ms τ lv pc [.int r]) {K23 : lSt → Nat → Nat → Nat → Int32 → Prop} (hK23 : ∀ (s : lSt) (k : Nat) (n : Nat) (v1 : Nat) (v4 : Int32), K23 s k n v1 v4 → k ≤ mc ∧ n ≤ ms → gJ X (lWd G gr oa A H0) Q k n s [(0, .ref sb), (1, .ref v1), (2, .ref (gr.2.1 0)), (3, .ref oa), (4, .int v4)] 23 []) (s : lSt) (k : Nat) (n : Nat) (v1 : Nat) (v4 : Int32) (v5 : Int32) (w1 : Int32) (w2 : Int32) (hk : k ≤ mc ∧ n ≤ ms) (hw : wpW_law_1214 mc ms L xs post K23 s k n v1 v4 v5 w1 w2) : gJ X (lWd G gr oa A H0) Q k n s [(0, .ref sb), (1, .ref v1), (2, .ref (gr.2.1 0)), (3, .ref oa), (4, .int v4), (5, .int v5)] 1214 [.int w2, .int w1, .ref (gr.2.1 0)] := by
  refine g_aload_n C.1.1 0 dL_law_1214 rfl rfl ?_
  refine g_iload C.1.1 4 dL_law_1215 rfl ?_
  refine g_iconst (v := 3) C.1.1 dL_law_1217 (by decide) ?_
  refine g_iadd C.1.1 dL_law_1218 ?_
  refine l_sld C hsz hw.1 dL_law_1219 ?_
  replace hw := hw.2
  refine l_refi (vs := [.int w1, .int w2, .int (xs (v4 + 3).toNatClampNeg)]) C hsz (cR_snow (g_l X) (G.1, gr) _ _ _ _ _ hw) kL_183 kL_184 kL_185 (kL_R _ kR_258) hdR_snow ⟨Nat.le_trans (Nat.le_of_ble_eq_true rfl) hR.1, Nat.le_trans (Nat.le_of_ble_eq_true rfl) hR.2.1⟩ ⟨Nat.le_trans hk.1 hR.2.2.1, Nat.le_trans hk.2 hR.2.2.2⟩ dL_law_1220 rfl (Nat.le_of_ble_eq_true rfl) (fun r16 t17 hw => ?_)
  refine g_istore (lv' := [(6, .int r16), (0, .ref sb), (1, .ref v1), (2, .ref (gr.2.1 0)), (3, .ref oa), (4, .int v4), (5, .int v5)]) C.1.1 dL_law_1223 (by decide) rfl ?_
  refine g_aload_n C.1.1 3 dL_law_1225 rfl rfl ?_
  refine l_refi (vs := []) C hsz (cR_thrown (g_l X) (G.1, gr) _ _ hw) kL_111 kL_112 kL_113 (kL_R _ kR_41) hdR_thrown ⟨Nat.le_trans (Nat.le_of_ble_eq_true rfl) hR.1, Nat.le_trans (Nat.le_of_ble_eq_true rfl) hR.2.1⟩ ⟨Nat.le_trans hk.1 hR.2.2.1, Nat.le_trans hk.2 hR.2.2.2⟩ dL_law_1226 rfl (Nat.le_of_ble_eq_true rfl) (fun r18 t19 hw => ?_)
  refine g_iload C.1.1 6 dL_law_1229 rfl ?_
  refine g_icmp_eq (tgt := 1236) C.1.1 dL_law_1231 (by decide) (fun h20 => ?_) (fun h20 => ?_)
  · replace hw := hw.1 h20
    refine g_iload C.1.1 6 dL_law_1236 rfl ?_
    refine g_if_ne (tgt := 1253) C.1.1 dL_law_1238 (by decide) (fun h21 => ?_) (fun h21 => ?_)
    · replace hw := hw.1 h21
      refine gJ.sub [1, 2, 3, 4, 5] rfl ?_
      exact wkW_law_1253 hfl C hsz hR hret hK23 _ _ _ _ _ hk hw
    · replace hw := hw.2 h21
      refine g_aload_n C.1.1 4 dL_law_1241 rfl rfl ?_
      refine g_iconst (v := 0) C.1.1 dL_law_1242 (by decide) ?_
      refine l_lld C h_in0 dL_law_1243 ?_
      refine g_iload C.1.1 0 dL_law_1244 rfl ?_
      refine g_i2l C.1.1 dL_law_1246 ?_
      refine g_lcmp C.1.1 dL_law_1247 ?_
      refine g_if_eq (tgt := 1253) C.1.1 dL_law_1248 (by decide) (fun h22 => ?_) (fun h22 => ?_)
      · replace hw := hw.1 h22
        refine gJ.sub [1, 2, 3, 4, 5] rfl ?_
        exact wkW_law_1253 hfl C hsz hR hret hK23 _ _ _ _ _ hk hw
      · replace hw := hw.2 h22
        refine g_iconst (v := 0) C.1.1 dL_law_1251 (by decide) ?_
        refine gJ.widen hw.1 hw.2.1 ?_
        replace hw := hw.2.2
        exact hret _ _ _ _ hw rfl dL_law_1252
  · replace hw := hw.2 h20
    refine g_iconst (v := 0) C.1.1 dL_law_1234 (by decide) ?_
    refine gJ.widen hw.1 hw.2.1 ?_
    replace hw := hw.2.2
    exact hret _ _ _ _ hw rfl dL_law_1235
theorem wkW_law_1181 {mc ms L sb oa : Nat} {xs : Nat → Int32} {X : gT} {G : cG} {gr : gG} {A : Nat → Prop} {H0 : Heap} {Q : State → Prop} (hfl : (g_l X).stackTraces = false) (C : lC X cL_law 8 G gr A sb L xs) (hsz : H0 = (g_s X).heap) (hR : 98 ≤ (g_R X).frames ∧ 2219 ≤ (g_R X).locals ∧ mc ≤ (g_R X).cells ∧ ms ≤ (g_R X).slots) {post : Int32 → lSt → Prop} (hret : ∀ (r : Int32) (τ : lSt) (lv : List (Nat × Value)) (pc : Nat), post r τ → narrow .boolean (.int r) = .int r → decode cL_law pc = .ok (.ireturn, 1) → gJ X (lWd G gr oa A H0) Q mc ms τ lv pc [.int r]) {K23 : lSt → Nat → Nat → Nat → Int32 → Prop} (hK23 : ∀ (s : lSt) (k : Nat) (n : Nat) (v1 : Nat) (v4 : Int32), K23 s k n v1 v4 → k ≤ mc ∧ n ≤ ms → gJ X (lWd G gr oa A H0) Q k n s [(0, .ref sb), (1, .ref v1), (2, .ref (gr.2.1 0)), (3, .ref oa), (4, .int v4)] 23 []) (s : lSt) (k : Nat) (n : Nat) (v1 : Nat) (v4 : Int32) (w0 : Nat) (w1 : Int32) (w2 : Int32) (hk : k ≤ mc ∧ n ≤ ms) (hw : wpW_law_1181 mc ms L xs post K23 s k n v1 v4 w0 w1 w2) : gJ X (lWd G gr oa A H0) Q k n s [(0, .ref sb), (1, .ref v1), (2, .ref (gr.2.1 0)), (3, .ref oa), (4, .int v4)] 1181 [.int w2, .int w1, .ref w0] := by
  refine g_aload_n C.1.1 0 dL_law_1181 rfl rfl ?_
  refine g_iload C.1.1 4 dL_law_1182 rfl ?_
  refine g_iconst (v := 3) C.1.1 dL_law_1184 (by decide) ?_
  refine g_iadd C.1.1 dL_law_1185 ?_
  refine l_sld C hsz hw.1 dL_law_1186 ?_
  replace hw := hw.2
  refine g_aload_n C.1.1 3 dL_law_1187 rfl rfl ?_
  have hk25 : k + 2 ≤ mc ∧ n + 12 ≤ ms := ⟨hw.1, hw.2.1⟩
  replace hw := hw.2.2
  refine l_help (vs := [.ref w0, .int w1, .int w2, .int (xs (v4 + 3).toNatClampNeg), .ref oa]) C hsz rfl (cL_snow_c (g_l X) hfl G gr.1.2.2.1 oa _ _ _ _ _ _ hw) kL_181 kL_182 kL_56 kL_107 hdL_snow ⟨Nat.le_trans (Nat.le_of_ble_eq_true rfl) hR.1, Nat.le_trans (Nat.le_of_ble_eq_true rfl) hR.2.1⟩ ⟨Nat.le_trans hk25.1 hR.2.2.1, Nat.le_trans hk25.2 hR.2.2.2⟩ dL_law_1188 rfl (Nat.le_of_ble_eq_true rfl) (fun r23 t24 hw => ?_)
  refine g_istore (lv' := [(5, .int r23), (0, .ref sb), (1, .ref v1), (2, .ref (gr.2.1 0)), (3, .ref oa), (4, .int v4)]) C.1.1 dL_law_1191 (by decide) rfl ?_
  refine g_aload_n C.1.1 3 dL_law_1193 rfl rfl ?_
  refine g_aload_n C.1.1 1 dL_law_1194 rfl rfl ?_
  refine g_iload C.1.1 5 dL_law_1195 rfl ?_
  refine g_iconst (v := 1) C.1.1 dL_law_1197 (by decide) ?_
  refine g_iadd C.1.1 dL_law_1198 ?_
  refine l_sld C hsz hw.1 dL_law_1199 ?_
  replace hw := hw.2
  refine g_aload_n C.1.1 1 dL_law_1200 rfl rfl ?_
  refine g_iload C.1.1 5 dL_law_1201 rfl ?_
  refine g_iconst (v := 2) C.1.1 dL_law_1203 (by decide) ?_
  refine g_iadd C.1.1 dL_law_1204 ?_
  refine l_sld C hsz hw.1 dL_law_1205 ?_
  replace hw := hw.2
  refine g_if_eq (tgt := 1213) C.1.1 dL_law_1206 (by decide) (fun h26 => ?_) (fun h26 => ?_)
  · replace hw := hw.1 h26
    refine g_iconst (v := 0) C.1.1 dL_law_1213 (by decide) ?_
    refine gJ.sub [1, 2, 3, 4, 5, 0] rfl ?_
    exact wkW_law_1214 hfl C hsz hR hret hK23 _ _ _ _ _ _ _ _ hk25 hw
  · replace hw := hw.2 h26
    refine g_iconst (v := 1) C.1.1 dL_law_1209 (by decide) ?_
    refine g_goto (tgt := 1214) C.1.1 dL_law_1210 (by decide) ?_
    refine gJ.sub [1, 2, 3, 4, 5, 0] rfl ?_
    exact wkW_law_1214 hfl C hsz hR hret hK23 _ _ _ _ _ _ _ _ hk25 hw
theorem wkW_law_1321 {mc ms L sb oa : Nat} {xs : Nat → Int32} {X : gT} {G : cG} {gr : gG} {A : Nat → Prop} {H0 : Heap} {Q : State → Prop} (hfl : (g_l X).stackTraces = false) (C : lC X cL_law 8 G gr A sb L xs) (hsz : H0 = (g_s X).heap) (hR : 98 ≤ (g_R X).frames ∧ 2219 ≤ (g_R X).locals ∧ mc ≤ (g_R X).cells ∧ ms ≤ (g_R X).slots) {post : Int32 → lSt → Prop} (hret : ∀ (r : Int32) (τ : lSt) (lv : List (Nat × Value)) (pc : Nat), post r τ → narrow .boolean (.int r) = .int r → decode cL_law pc = .ok (.ireturn, 1) → gJ X (lWd G gr oa A H0) Q mc ms τ lv pc [.int r]) {K23 : lSt → Nat → Nat → Nat → Int32 → Prop} (hK23 : ∀ (s : lSt) (k : Nat) (n : Nat) (v1 : Nat) (v4 : Int32), K23 s k n v1 v4 → k ≤ mc ∧ n ≤ ms → gJ X (lWd G gr oa A H0) Q k n s [(0, .ref sb), (1, .ref v1), (2, .ref (gr.2.1 0)), (3, .ref oa), (4, .int v4)] 23 []) (s : lSt) (k : Nat) (n : Nat) (v1 : Nat) (v4 : Int32) (hk : k ≤ mc ∧ n ≤ ms) (hw : wpW_law_1321 mc ms L xs post K23 s k n v1 v4) : gJ X (lWd G gr oa A H0) Q k n s [(0, .ref sb), (1, .ref v1), (2, .ref (gr.2.1 0)), (3, .ref oa), (4, .int v4)] 1321 [] := by
  refine g_goto (tgt := 1707) C.1.1 dL_law_1321 (by decide) ?_
  exact wkW_law_1707 hfl C hsz hR hret hK23 _ _ _ _ _ hk hw
theorem wkW_law_1377 {mc ms L sb oa : Nat} {xs : Nat → Int32} {X : gT} {G : cG} {gr : gG} {A : Nat → Prop} {H0 : Heap} {Q : State → Prop} (hfl : (g_l X).stackTraces = false) (C : lC X cL_law 8 G gr A sb L xs) (hsz : H0 = (g_s X).heap) (hR : 98 ≤ (g_R X).frames ∧ 2219 ≤ (g_R X).locals ∧ mc ≤ (g_R X).cells ∧ ms ≤ (g_R X).slots) {post : Int32 → lSt → Prop} (hret : ∀ (r : Int32) (τ : lSt) (lv : List (Nat × Value)) (pc : Nat), post r τ → narrow .boolean (.int r) = .int r → decode cL_law pc = .ok (.ireturn, 1) → gJ X (lWd G gr oa A H0) Q mc ms τ lv pc [.int r]) {K23 : lSt → Nat → Nat → Nat → Int32 → Prop} (hK23 : ∀ (s : lSt) (k : Nat) (n : Nat) (v1 : Nat) (v4 : Int32), K23 s k n v1 v4 → k ≤ mc ∧ n ≤ ms → gJ X (lWd G gr oa A H0) Q k n s [(0, .ref sb), (1, .ref v1), (2, .ref (gr.2.1 0)), (3, .ref oa), (4, .int v4)] 23 []) (s : lSt) (k : Nat) (n : Nat) (v1 : Nat) (v4 : Int32) (hk : k ≤ mc ∧ n ≤ ms) (hw : wpW_law_1377 mc ms L xs post K23 s k n v1 v4) : gJ X (lWd G gr oa A H0) Q k n s [(0, .ref sb), (1, .ref v1), (2, .ref (gr.2.1 0)), (3, .ref oa), (4, .int v4)] 1377 [] := by
  refine g_goto (tgt := 1707) C.1.1 dL_law_1377 (by decide) ?_
  exact wkW_law_1707 hfl C hsz hR hret hK23 _ _ _ _ _ hk hw
theorem wkW_law_1445 {mc ms L sb oa : Nat} {xs : Nat → Int32} {X : gT} {G : cG} {gr : gG} {A : Nat → Prop} {H0 : Heap} {Q : State → Prop} (hfl : (g_l X).stackTraces = false) (C : lC X cL_law 8 G gr A sb L xs) (hsz : H0 = (g_s X).heap) (hR : 98 ≤ (g_R X).frames ∧ 2219 ≤ (g_R X).locals ∧ mc ≤ (g_R X).cells ∧ ms ≤ (g_R X).slots) {post : Int32 → lSt → Prop} (hret : ∀ (r : Int32) (τ : lSt) (lv : List (Nat × Value)) (pc : Nat), post r τ → narrow .boolean (.int r) = .int r → decode cL_law pc = .ok (.ireturn, 1) → gJ X (lWd G gr oa A H0) Q mc ms τ lv pc [.int r]) {K23 : lSt → Nat → Nat → Nat → Int32 → Prop} (hK23 : ∀ (s : lSt) (k : Nat) (n : Nat) (v1 : Nat) (v4 : Int32), K23 s k n v1 v4 → k ≤ mc ∧ n ≤ ms → gJ X (lWd G gr oa A H0) Q k n s [(0, .ref sb), (1, .ref v1), (2, .ref (gr.2.1 0)), (3, .ref oa), (4, .int v4)] 23 []) (s : lSt) (k : Nat) (n : Nat) (v1 : Nat) (v4 : Int32) (hk : k ≤ mc ∧ n ≤ ms) (hw : wpW_law_1445 mc ms L xs post K23 s k n v1 v4) : gJ X (lWd G gr oa A H0) Q k n s [(0, .ref sb), (1, .ref v1), (2, .ref (gr.2.1 0)), (3, .ref oa), (4, .int v4)] 1445 [] := by
  refine g_goto (tgt := 1707) C.1.1 dL_law_1445 (by decide) ?_
  exact wkW_law_1707 hfl C hsz hR hret hK23 _ _ _ _ _ hk hw
theorem wkW_law_1525 {mc ms L sb oa : Nat} {xs : Nat → Int32} {X : gT} {G : cG} {gr : gG} {A : Nat → Prop} {H0 : Heap} {Q : State → Prop} (hfl : (g_l X).stackTraces = false) (C : lC X cL_law 8 G gr A sb L xs) (hsz : H0 = (g_s X).heap) (hR : 98 ≤ (g_R X).frames ∧ 2219 ≤ (g_R X).locals ∧ mc ≤ (g_R X).cells ∧ ms ≤ (g_R X).slots) {post : Int32 → lSt → Prop} (hret : ∀ (r : Int32) (τ : lSt) (lv : List (Nat × Value)) (pc : Nat), post r τ → narrow .boolean (.int r) = .int r → decode cL_law pc = .ok (.ireturn, 1) → gJ X (lWd G gr oa A H0) Q mc ms τ lv pc [.int r]) {K23 : lSt → Nat → Nat → Nat → Int32 → Prop} (hK23 : ∀ (s : lSt) (k : Nat) (n : Nat) (v1 : Nat) (v4 : Int32), K23 s k n v1 v4 → k ≤ mc ∧ n ≤ ms → gJ X (lWd G gr oa A H0) Q k n s [(0, .ref sb), (1, .ref v1), (2, .ref (gr.2.1 0)), (3, .ref oa), (4, .int v4)] 23 []) (s : lSt) (k : Nat) (n : Nat) (v1 : Nat) (v4 : Int32) (hk : k ≤ mc ∧ n ≤ ms) (hw : wpW_law_1525 mc ms L xs post K23 s k n v1 v4) : gJ X (lWd G gr oa A H0) Q k n s [(0, .ref sb), (1, .ref v1), (2, .ref (gr.2.1 0)), (3, .ref oa), (4, .int v4)] 1525 [] := by
  refine g_goto (tgt := 1707) C.1.1 dL_law_1525 (by decide) ?_
  exact wkW_law_1707 hfl C hsz hR hret hK23 _ _ _ _ _ hk hw
theorem wkW_law_1678 {mc ms L sb oa : Nat} {xs : Nat → Int32} {X : gT} {G : cG} {gr : gG} {A : Nat → Prop} {H0 : Heap} {Q : State → Prop} (hfl : (g_l X).stackTraces = false) (C : lC X cL_law 8 G gr A sb L xs) (hsz : H0 = (g_s X).heap) (hR : 98 ≤ (g_R X).frames ∧ 2219 ≤ (g_R X).locals ∧ mc ≤ (g_R X).cells ∧ ms ≤ (g_R X).slots) {post : Int32 → lSt → Prop} (hret : ∀ (r : Int32) (τ : lSt) (lv : List (Nat × Value)) (pc : Nat), post r τ → narrow .boolean (.int r) = .int r → decode cL_law pc = .ok (.ireturn, 1) → gJ X (lWd G gr oa A H0) Q mc ms τ lv pc [.int r]) {K23 : lSt → Nat → Nat → Nat → Int32 → Prop} (hK23 : ∀ (s : lSt) (k : Nat) (n : Nat) (v1 : Nat) (v4 : Int32), K23 s k n v1 v4 → k ≤ mc ∧ n ≤ ms → gJ X (lWd G gr oa A H0) Q k n s [(0, .ref sb), (1, .ref v1), (2, .ref (gr.2.1 0)), (3, .ref oa), (4, .int v4)] 23 []) (s : lSt) (k : Nat) (n : Nat) (v1 : Nat) (v4 : Int32) (hk : k ≤ mc ∧ n ≤ ms) (hw : wpW_law_1678 mc ms L xs post K23 s k n v1 v4) : gJ X (lWd G gr oa A H0) Q k n s [(0, .ref sb), (1, .ref v1), (2, .ref (gr.2.1 0)), (3, .ref oa), (4, .int v4)] 1678 [] := by
  refine g_goto (tgt := 1707) C.1.1 dL_law_1678 (by decide) ?_
  exact wkW_law_1707 hfl C hsz hR hret hK23 _ _ _ _ _ hk hw
theorem wkW_law_23_F {mc ms L sb oa : Nat} {xs : Nat → Int32} {X : gT} {G : cG} {gr : gG} {A : Nat → Prop} {H0 : Heap} {Q : State → Prop} (hfl : (g_l X).stackTraces = false) (C : lC X cL_law 8 G gr A sb L xs) (hsz : H0 = (g_s X).heap) (hR : 98 ≤ (g_R X).frames ∧ 2219 ≤ (g_R X).locals ∧ mc ≤ (g_R X).cells ∧ ms ≤ (g_R X).slots) {post : Int32 → lSt → Prop} (hret : ∀ (r : Int32) (τ : lSt) (lv : List (Nat × Value)) (pc : Nat), post r τ → narrow .boolean (.int r) = .int r → decode cL_law pc = .ok (.ireturn, 1) → gJ X (lWd G gr oa A H0) Q mc ms τ lv pc [.int r]) {K23 : lSt → Nat → Nat → Nat → Int32 → Prop} (hK23 : ∀ (s : lSt) (k : Nat) (n : Nat) (v1 : Nat) (v4 : Int32), K23 s k n v1 v4 → k ≤ mc ∧ n ≤ ms → gJ X (lWd G gr oa A H0) Q k n s [(0, .ref sb), (1, .ref v1), (2, .ref (gr.2.1 0)), (3, .ref oa), (4, .int v4)] 23 []) (s : lSt) (k : Nat) (n : Nat) (v1 : Nat) (v4 : Int32) (hk : k ≤ mc ∧ n ≤ ms) (hw : wpW_law_23_F mc ms L xs post K23 s k n v1 v4) : gJ X (lWd G gr oa A H0) Q k n s [(0, .ref sb), (1, .ref v1), (2, .ref (gr.2.1 0)), (3, .ref oa), (4, .int v4)] 23 [] := by
  refine g_iload C.1.1 4 dL_law_23 rfl ?_
  refine g_aload_n C.1.1 0 dL_law_25 rfl rfl ?_
  refine l_slen C hsz dL_law_26 ?_
  refine g_bipush (v := 6) C.1.1 dL_law_27 (by decide) ?_
  refine g_isub C.1.1 dL_law_29 ?_
  refine g_icmp_gt (tgt := 1713) C.1.1 dL_law_30 (by decide) (fun h27 => ?_) (fun h27 => ?_)
  · replace hw := hw.1 h27
    refine g_iconst (v := 1) C.1.1 dL_law_1713 (by decide) ?_
    refine gJ.widen hw.1 hw.2.1 ?_
    replace hw := hw.2.2
    exact hret _ _ _ _ hw rfl dL_law_1714
  · replace hw := hw.2 h27
    refine g_aload_n C.1.1 0 dL_law_33 rfl rfl ?_
    refine g_iload C.1.1 4 dL_law_34 rfl ?_
    refine l_sld C hsz hw.1 dL_law_36 ?_
    replace hw := hw.2
    refine g_bipush (v := 31) C.1.1 dL_law_37 (by decide) ?_
    refine g_iand C.1.1 dL_law_39 ?_
    by_cases h28a : (((xs v4.toNatClampNeg) &&& 31)).toInt < 0
    · replace hw := hw.2.2.2.2.2.2.2.2.2.2.2.2.2.2.2.2.2.2.2.2.2.2.2.2.2.2 (Or.inl h28a)
      refine g_tableOut (tgt := 1707) C.1.1 dL_law_40 (Or.inl h28a) (by decide) ?_
      exact wkW_law_1707 hfl C hsz hR hret hK23 _ _ _ _ _ hk hw
    by_cases h28b : 25 < (((xs v4.toNatClampNeg) &&& 31)).toInt
    · replace hw := hw.2.2.2.2.2.2.2.2.2.2.2.2.2.2.2.2.2.2.2.2.2.2.2.2.2.2 (Or.inr h28b)
      refine g_tableOut (tgt := 1707) C.1.1 dL_law_40 (Or.inr h28b) (by decide) ?_
      exact wkW_law_1707 hfl C hsz hR hret hK23 _ _ _ _ _ hk hw
    have h28c : (((xs v4.toNatClampNeg) &&& 31)).toInt = 0 ∨ (((xs v4.toNatClampNeg) &&& 31)).toInt = 1 ∨ (((xs v4.toNatClampNeg) &&& 31)).toInt = 2 ∨ (((xs v4.toNatClampNeg) &&& 31)).toInt = 3 ∨ (((xs v4.toNatClampNeg) &&& 31)).toInt = 4 ∨ (((xs v4.toNatClampNeg) &&& 31)).toInt = 5 ∨ (((xs v4.toNatClampNeg) &&& 31)).toInt = 6 ∨ (((xs v4.toNatClampNeg) &&& 31)).toInt = 7 ∨ (((xs v4.toNatClampNeg) &&& 31)).toInt = 8 ∨ (((xs v4.toNatClampNeg) &&& 31)).toInt = 9 ∨ (((xs v4.toNatClampNeg) &&& 31)).toInt = 10 ∨ (((xs v4.toNatClampNeg) &&& 31)).toInt = 11 ∨ (((xs v4.toNatClampNeg) &&& 31)).toInt = 12 ∨ (((xs v4.toNatClampNeg) &&& 31)).toInt = 13 ∨ (((xs v4.toNatClampNeg) &&& 31)).toInt = 14 ∨ (((xs v4.toNatClampNeg) &&& 31)).toInt = 15 ∨ (((xs v4.toNatClampNeg) &&& 31)).toInt = 16 ∨ (((xs v4.toNatClampNeg) &&& 31)).toInt = 17 ∨ (((xs v4.toNatClampNeg) &&& 31)).toInt = 18 ∨ (((xs v4.toNatClampNeg) &&& 31)).toInt = 19 ∨ (((xs v4.toNatClampNeg) &&& 31)).toInt = 20 ∨ (((xs v4.toNatClampNeg) &&& 31)).toInt = 21 ∨ (((xs v4.toNatClampNeg) &&& 31)).toInt = 22 ∨ (((xs v4.toNatClampNeg) &&& 31)).toInt = 23 ∨ (((xs v4.toNatClampNeg) &&& 31)).toInt = 24 ∨ (((xs v4.toNatClampNeg) &&& 31)).toInt = 25 := by omega
    rcases h28c with h28c | h28c | h28c | h28c | h28c | h28c | h28c | h28c | h28c | h28c | h28c | h28c | h28c | h28c | h28c | h28c | h28c | h28c | h28c | h28c | h28c | h28c | h28c | h28c | h28c | h28c
    · replace hw := hw.1 (i32_of h28c)
      refine g_tableIn (tgt := 160) (off := 120) C.1.1 dL_law_40 h28a h28b (by rw [h28c]; rfl) (by decide) ?_
      refine g_aload_n C.1.1 1 dL_law_160 rfl rfl ?_
      refine g_aload_n C.1.1 0 dL_law_161 rfl rfl ?_
      refine g_iload C.1.1 4 dL_law_162 rfl ?_
      refine g_iconst (v := 1) C.1.1 dL_law_164 (by decide) ?_
      refine g_iadd C.1.1 dL_law_165 ?_
      refine l_sld C hsz hw.1 dL_law_166 ?_
      replace hw := hw.2
      refine g_aload_n C.1.1 0 dL_law_167 rfl rfl ?_
      refine g_iload C.1.1 4 dL_law_168 rfl ?_
      refine g_iconst (v := 2) C.1.1 dL_law_170 (by decide) ?_
      refine g_iadd C.1.1 dL_law_171 ?_
      refine l_sld C hsz hw.1 dL_law_172 ?_
      replace hw := hw.2
      refine g_aload_n C.1.1 0 dL_law_173 rfl rfl ?_
      refine g_iload C.1.1 4 dL_law_174 rfl ?_
      refine g_iconst (v := 3) C.1.1 dL_law_176 (by decide) ?_
      refine g_iadd C.1.1 dL_law_177 ?_
      refine l_sld C hsz hw.1 dL_law_178 ?_
      replace hw := hw.2
      refine g_aload_n C.1.1 0 dL_law_179 rfl rfl ?_
      refine g_iload C.1.1 4 dL_law_180 rfl ?_
      refine g_iconst (v := 4) C.1.1 dL_law_182 (by decide) ?_
      refine g_iadd C.1.1 dL_law_183 ?_
      refine l_sld C hsz hw.1 dL_law_184 ?_
      replace hw := hw.2
      refine g_aload_n C.1.1 0 dL_law_185 rfl rfl ?_
      refine g_iload C.1.1 4 dL_law_186 rfl ?_
      refine g_iconst (v := 5) C.1.1 dL_law_188 (by decide) ?_
      refine g_iadd C.1.1 dL_law_189 ?_
      refine l_sld C hsz hw.1 dL_law_190 ?_
      replace hw := hw.2
      refine e_callVi (vs := [.int (xs (v4 + 1).toNatClampNeg), .int (xs (v4 + 2).toNatClampNeg), .int (xs (v4 + 3).toNatClampNeg), .int (xs (v4 + 4).toNatClampNeg), .int (xs (v4 + 5).toNatClampNeg)]) C.1 hsz (cC_X7_feed (g_l X) G _ _ _ _ _ _ _ _ hw.2) kL_93 kL_94 kL_95 (kL_C _ kC_413) hdC_X7_feed hw.1 ⟨Nat.le_trans (Nat.le_of_ble_eq_true rfl) hR.1, Nat.le_trans (Nat.le_of_ble_eq_true rfl) hR.2.1⟩ ⟨Nat.le_trans hk.1 hR.2.2.1, Nat.le_trans hk.2 hR.2.2.2⟩ dL_law_191 rfl (Nat.le_of_ble_eq_true rfl) (fun r29 t30 hw => ?_)
      refine g_aload_n C.1.1 2 dL_law_194 rfl rfl ?_
      refine g_aload_n C.1.1 0 dL_law_195 rfl rfl ?_
      refine g_iload C.1.1 4 dL_law_196 rfl ?_
      refine g_iconst (v := 1) C.1.1 dL_law_198 (by decide) ?_
      refine g_iadd C.1.1 dL_law_199 ?_
      refine l_sld C hsz hw.1 dL_law_200 ?_
      replace hw := hw.2
      refine g_aload_n C.1.1 0 dL_law_201 rfl rfl ?_
      refine g_iload C.1.1 4 dL_law_202 rfl ?_
      refine g_iconst (v := 2) C.1.1 dL_law_204 (by decide) ?_
      refine g_iadd C.1.1 dL_law_205 ?_
      refine l_sld C hsz hw.1 dL_law_206 ?_
      replace hw := hw.2
      refine g_aload_n C.1.1 0 dL_law_207 rfl rfl ?_
      refine g_iload C.1.1 4 dL_law_208 rfl ?_
      refine g_iconst (v := 3) C.1.1 dL_law_210 (by decide) ?_
      refine g_iadd C.1.1 dL_law_211 ?_
      refine l_sld C hsz hw.1 dL_law_212 ?_
      replace hw := hw.2
      refine g_aload_n C.1.1 0 dL_law_213 rfl rfl ?_
      refine g_iload C.1.1 4 dL_law_214 rfl ?_
      refine g_iconst (v := 4) C.1.1 dL_law_216 (by decide) ?_
      refine g_iadd C.1.1 dL_law_217 ?_
      refine l_sld C hsz hw.1 dL_law_218 ?_
      replace hw := hw.2
      refine g_aload_n C.1.1 0 dL_law_219 rfl rfl ?_
      refine g_iload C.1.1 4 dL_law_220 rfl ?_
      refine g_iconst (v := 5) C.1.1 dL_law_222 (by decide) ?_
      refine g_iadd C.1.1 dL_law_223 ?_
      refine l_sld C hsz hw.1 dL_law_224 ?_
      replace hw := hw.2
      refine l_refi (vs := [.int (xs (v4 + 1).toNatClampNeg), .int (xs (v4 + 2).toNatClampNeg), .int (xs (v4 + 3).toNatClampNeg), .int (xs (v4 + 4).toNatClampNeg), .int (xs (v4 + 5).toNatClampNeg)]) C hsz (cR_feed (g_l X) (G.1, gr) _ _ _ _ _ _ _ hw) kL_96 kL_97 kL_98 (kL_R _ kR_58) hdR_feed ⟨Nat.le_trans (Nat.le_of_ble_eq_true rfl) hR.1, Nat.le_trans (Nat.le_of_ble_eq_true rfl) hR.2.1⟩ ⟨Nat.le_trans hk.1 hR.2.2.1, Nat.le_trans hk.2 hR.2.2.2⟩ dL_law_225 rfl (Nat.le_of_ble_eq_true rfl) (fun r31 t32 hw => ?_)
      refine g_icmp_eq (tgt := 1707) C.1.1 dL_law_228 (by decide) (fun h33 => ?_) (fun h33 => ?_)
      · replace hw := hw.1 h33
        exact wkW_law_1707 hfl C hsz hR hret hK23 _ _ _ _ _ hk hw
      · replace hw := hw.2 h33
        refine g_iconst (v := 0) C.1.1 dL_law_231 (by decide) ?_
        refine gJ.widen hw.1 hw.2.1 ?_
        replace hw := hw.2.2
        exact hret _ _ _ _ hw rfl dL_law_232
    · replace hw := hw.2.1 (i32_of h28c)
      refine g_tableIn (tgt := 233) (off := 193) C.1.1 dL_law_40 h28a h28b (by rw [h28c]; rfl) (by decide) ?_
      refine g_aload_n C.1.1 1 dL_law_233 rfl rfl ?_
      refine g_aload_n C.1.1 0 dL_law_234 rfl rfl ?_
      refine g_iload C.1.1 4 dL_law_235 rfl ?_
      refine g_iconst (v := 1) C.1.1 dL_law_237 (by decide) ?_
      refine g_iadd C.1.1 dL_law_238 ?_
      refine l_sld C hsz hw.1 dL_law_239 ?_
      replace hw := hw.2
      refine e_callVi (vs := [.int (xs (v4 + 1).toNatClampNeg)]) C.1 hsz (cC_X7_end (g_l X) G _ _ _ _ hw.2) kL_99 kL_100 kL_101 (kL_C _ kC_414) hdC_X7_end hw.1 ⟨Nat.le_trans (Nat.le_of_ble_eq_true rfl) hR.1, Nat.le_trans (Nat.le_of_ble_eq_true rfl) hR.2.1⟩ ⟨Nat.le_trans hk.1 hR.2.2.1, Nat.le_trans hk.2 hR.2.2.2⟩ dL_law_240 rfl (Nat.le_of_ble_eq_true rfl) (fun r34 t35 hw => ?_)
      refine g_aload_n C.1.1 2 dL_law_243 rfl rfl ?_
      refine g_aload_n C.1.1 0 dL_law_244 rfl rfl ?_
      refine g_iload C.1.1 4 dL_law_245 rfl ?_
      refine g_iconst (v := 1) C.1.1 dL_law_247 (by decide) ?_
      refine g_iadd C.1.1 dL_law_248 ?_
      refine l_sld C hsz hw.1 dL_law_249 ?_
      replace hw := hw.2
      refine l_refi (vs := [.int (xs (v4 + 1).toNatClampNeg)]) C hsz (cR_end (g_l X) (G.1, gr) _ _ _ hw) kL_102 kL_103 kL_104 (kL_R _ kR_59) hdR_end ⟨Nat.le_trans (Nat.le_of_ble_eq_true rfl) hR.1, Nat.le_trans (Nat.le_of_ble_eq_true rfl) hR.2.1⟩ ⟨Nat.le_trans hk.1 hR.2.2.1, Nat.le_trans hk.2 hR.2.2.2⟩ dL_law_250 rfl (Nat.le_of_ble_eq_true rfl) (fun r36 t37 hw => ?_)
      refine g_icmp_eq (tgt := 1707) C.1.1 dL_law_253 (by decide) (fun h38 => ?_) (fun h38 => ?_)
      · replace hw := hw.1 h38
        exact wkW_law_1707 hfl C hsz hR hret hK23 _ _ _ _ _ hk hw
      · replace hw := hw.2 h38
        refine g_iconst (v := 0) C.1.1 dL_law_256 (by decide) ?_
        refine gJ.widen hw.1 hw.2.1 ?_
        replace hw := hw.2.2
        exact hret _ _ _ _ hw rfl dL_law_257
    · replace hw := hw.2.2.1 (i32_of h28c)
      refine g_tableIn (tgt := 258) (off := 218) C.1.1 dL_law_40 h28a h28b (by rw [h28c]; rfl) (by decide) ?_
      refine g_aload_n C.1.1 1 dL_law_258 rfl rfl ?_
      refine g_aload_n C.1.1 0 dL_law_259 rfl rfl ?_
      refine g_iload C.1.1 4 dL_law_260 rfl ?_
      refine g_iconst (v := 1) C.1.1 dL_law_262 (by decide) ?_
      refine g_iadd C.1.1 dL_law_263 ?_
      refine l_sld C hsz hw.1 dL_law_264 ?_
      replace hw := hw.2
      refine g_aload_n C.1.1 0 dL_law_265 rfl rfl ?_
      refine g_iload C.1.1 4 dL_law_266 rfl ?_
      refine g_iconst (v := 2) C.1.1 dL_law_268 (by decide) ?_
      refine g_iadd C.1.1 dL_law_269 ?_
      refine l_sld C hsz hw.1 dL_law_270 ?_
      replace hw := hw.2
      refine g_aload_n C.1.1 0 dL_law_271 rfl rfl ?_
      refine g_iload C.1.1 4 dL_law_272 rfl ?_
      refine g_iconst (v := 3) C.1.1 dL_law_274 (by decide) ?_
      refine g_iadd C.1.1 dL_law_275 ?_
      refine l_sld C hsz hw.1 dL_law_276 ?_
      replace hw := hw.2
      refine g_aload_n C.1.1 0 dL_law_277 rfl rfl ?_
      refine g_iload C.1.1 4 dL_law_278 rfl ?_
      refine g_iconst (v := 4) C.1.1 dL_law_280 (by decide) ?_
      refine g_iadd C.1.1 dL_law_281 ?_
      refine l_sld C hsz hw.1 dL_law_282 ?_
      replace hw := hw.2
      refine g_aload_n C.1.1 0 dL_law_283 rfl rfl ?_
      refine g_iload C.1.1 4 dL_law_284 rfl ?_
      refine g_iconst (v := 5) C.1.1 dL_law_286 (by decide) ?_
      refine g_iadd C.1.1 dL_law_287 ?_
      refine l_sld C hsz hw.1 dL_law_288 ?_
      replace hw := hw.2
      refine g_aload_n C.1.1 3 dL_law_289 rfl rfl ?_
      obtain ⟨m42, m43, gm42, gm43, hm42, hm43, hw⟩ := hw
      have hk41 : k + m42 ≤ mc ∧ n + m43 ≤ ms := ⟨gm42, gm43⟩
      refine l_help (vs := [.ref v1, .int (xs (v4 + 1).toNatClampNeg), .int (xs (v4 + 2).toNatClampNeg), .int (xs (v4 + 3).toNatClampNeg), .int (xs (v4 + 4).toNatClampNeg), .int (xs (v4 + 5).toNatClampNeg), .ref oa]) C hsz rfl (cL_lift_c m42 m43 (g_l X) hfl G gr.1.2.2.1 oa _ _ _ _ _ _ _ _ ⟨hm42, hm43⟩ hw) kL_105 kL_106 kL_6 kL_107 hdL_lift ⟨Nat.le_trans (Nat.le_of_ble_eq_true rfl) hR.1, Nat.le_trans (Nat.le_of_ble_eq_true rfl) hR.2.1⟩ ⟨Nat.le_trans hk41.1 hR.2.2.1, Nat.le_trans hk41.2 hR.2.2.2⟩ dL_law_290 rfl (Nat.le_of_ble_eq_true rfl) (fun r39 t40 hw => ?_)
      refine g_istore (lv' := [(5, .int r39), (0, .ref sb), (1, .ref v1), (2, .ref (gr.2.1 0)), (3, .ref oa), (4, .int v4)]) C.1.1 dL_law_293 (by decide) rfl ?_
      refine g_aload_n C.1.1 3 dL_law_295 rfl rfl ?_
      refine g_aload_n C.1.1 1 dL_law_296 rfl rfl ?_
      refine g_iload C.1.1 5 dL_law_297 rfl ?_
      refine g_iconst (v := 1) C.1.1 dL_law_299 (by decide) ?_
      refine g_iadd C.1.1 dL_law_300 ?_
      refine l_sld C hsz hw.1 dL_law_301 ?_
      replace hw := hw.2
      refine g_aload_n C.1.1 1 dL_law_302 rfl rfl ?_
      refine g_iload C.1.1 5 dL_law_303 rfl ?_
      refine g_iconst (v := 2) C.1.1 dL_law_305 (by decide) ?_
      refine g_iadd C.1.1 dL_law_306 ?_
      refine l_sld C hsz hw.1 dL_law_307 ?_
      replace hw := hw.2
      refine g_aload_n C.1.1 1 dL_law_308 rfl rfl ?_
      refine g_iload C.1.1 5 dL_law_309 rfl ?_
      refine g_iconst (v := 3) C.1.1 dL_law_311 (by decide) ?_
      refine g_iadd C.1.1 dL_law_312 ?_
      refine l_sld C hsz hw.1 dL_law_313 ?_
      replace hw := hw.2
      refine g_aload_n C.1.1 1 dL_law_314 rfl rfl ?_
      refine g_iload C.1.1 5 dL_law_315 rfl ?_
      refine g_iconst (v := 4) C.1.1 dL_law_317 (by decide) ?_
      refine g_iadd C.1.1 dL_law_318 ?_
      refine l_sld C hsz hw.1 dL_law_319 ?_
      replace hw := hw.2
      refine g_aload_n C.1.1 1 dL_law_320 rfl rfl ?_
      refine g_iload C.1.1 5 dL_law_321 rfl ?_
      refine g_iconst (v := 5) C.1.1 dL_law_323 (by decide) ?_
      refine g_iadd C.1.1 dL_law_324 ?_
      refine l_sld C hsz hw.1 dL_law_325 ?_
      replace hw := hw.2
      refine l_refi (vs := [.int (xs (v4 + 1).toNatClampNeg), .int (xs (v4 + 2).toNatClampNeg), .int (xs (v4 + 3).toNatClampNeg), .int (xs (v4 + 4).toNatClampNeg), .int (xs (v4 + 5).toNatClampNeg)]) C hsz (cR_lift (g_l X) (G.1, gr) _ _ _ _ _ _ _ hw) kL_108 kL_109 kL_110 (kL_R _ kR_68) hdR_lift ⟨Nat.le_trans (Nat.le_of_ble_eq_true rfl) hR.1, Nat.le_trans (Nat.le_of_ble_eq_true rfl) hR.2.1⟩ ⟨Nat.le_trans hk41.1 hR.2.2.1, Nat.le_trans hk41.2 hR.2.2.2⟩ dL_law_326 rfl (Nat.le_of_ble_eq_true rfl) (fun r44 t45 hw => ?_)
      refine g_istore (lv' := [(6, .int r44), (5, .int r39), (0, .ref sb), (1, .ref v1), (2, .ref (gr.2.1 0)), (3, .ref oa), (4, .int v4)]) C.1.1 dL_law_329 (by decide) rfl ?_
      refine g_aload_n C.1.1 4 dL_law_331 rfl rfl ?_
      refine l_refi (vs := []) C hsz (cR_thrown (g_l X) (G.1, gr) _ _ hw) kL_111 kL_112 kL_113 (kL_R _ kR_41) hdR_thrown ⟨Nat.le_trans (Nat.le_of_ble_eq_true rfl) hR.1, Nat.le_trans (Nat.le_of_ble_eq_true rfl) hR.2.1⟩ ⟨Nat.le_trans hk41.1 hR.2.2.1, Nat.le_trans hk41.2 hR.2.2.2⟩ dL_law_332 rfl (Nat.le_of_ble_eq_true rfl) (fun r46 t47 hw => ?_)
      refine g_iload C.1.1 1 dL_law_335 rfl ?_
      refine g_icmp_eq (tgt := 342) C.1.1 dL_law_337 (by decide) (fun h48 => ?_) (fun h48 => ?_)
      · replace hw := hw.1 h48
        refine g_iload C.1.1 1 dL_law_342 rfl ?_
        refine g_if_ne (tgt := 359) C.1.1 dL_law_344 (by decide) (fun h49 => ?_) (fun h49 => ?_)
        · replace hw := hw.1 h49
          refine gJ.sub [2, 3, 4, 5, 6] rfl ?_
          exact wkW_law_359 hfl C hsz hR hret hK23 _ _ _ _ _ hk41 hw
        · replace hw := hw.2 h49
          refine g_aload_n C.1.1 5 dL_law_347 rfl rfl ?_
          refine g_iconst (v := 0) C.1.1 dL_law_348 (by decide) ?_
          refine l_lld C h_in0 dL_law_349 ?_
          refine g_iload C.1.1 0 dL_law_350 rfl ?_
          refine g_i2l C.1.1 dL_law_352 ?_
          refine g_lcmp C.1.1 dL_law_353 ?_
          refine g_if_eq (tgt := 359) C.1.1 dL_law_354 (by decide) (fun h50 => ?_) (fun h50 => ?_)
          · replace hw := hw.1 h50
            refine gJ.sub [2, 3, 4, 5, 6] rfl ?_
            exact wkW_law_359 hfl C hsz hR hret hK23 _ _ _ _ _ hk41 hw
          · replace hw := hw.2 h50
            refine g_iconst (v := 0) C.1.1 dL_law_357 (by decide) ?_
            refine gJ.widen hw.1 hw.2.1 ?_
            replace hw := hw.2.2
            exact hret _ _ _ _ hw rfl dL_law_358
      · replace hw := hw.2 h48
        refine g_iconst (v := 0) C.1.1 dL_law_340 (by decide) ?_
        refine gJ.widen hw.1 hw.2.1 ?_
        replace hw := hw.2.2
        exact hret _ _ _ _ hw rfl dL_law_341
    · replace hw := hw.2.2.2.1 (i32_of h28c)
      refine g_tableIn (tgt := 362) (off := 322) C.1.1 dL_law_40 h28a h28b (by rw [h28c]; rfl) (by decide) ?_
      refine g_aload_n C.1.1 1 dL_law_362 rfl rfl ?_
      refine g_aload_n C.1.1 0 dL_law_363 rfl rfl ?_
      refine g_iload C.1.1 4 dL_law_364 rfl ?_
      refine g_iconst (v := 1) C.1.1 dL_law_366 (by decide) ?_
      refine g_iadd C.1.1 dL_law_367 ?_
      refine l_sld C hsz hw.1 dL_law_368 ?_
      replace hw := hw.2
      refine g_aload_n C.1.1 0 dL_law_369 rfl rfl ?_
      refine g_iload C.1.1 4 dL_law_370 rfl ?_
      refine g_iconst (v := 2) C.1.1 dL_law_372 (by decide) ?_
      refine g_iadd C.1.1 dL_law_373 ?_
      refine l_sld C hsz hw.1 dL_law_374 ?_
      replace hw := hw.2
      refine g_aload_n C.1.1 0 dL_law_375 rfl rfl ?_
      refine g_iload C.1.1 4 dL_law_376 rfl ?_
      refine g_iconst (v := 3) C.1.1 dL_law_378 (by decide) ?_
      refine g_iadd C.1.1 dL_law_379 ?_
      refine l_sld C hsz hw.1 dL_law_380 ?_
      replace hw := hw.2
      refine g_aload_n C.1.1 0 dL_law_381 rfl rfl ?_
      refine g_iload C.1.1 4 dL_law_382 rfl ?_
      refine g_iconst (v := 4) C.1.1 dL_law_384 (by decide) ?_
      refine g_iadd C.1.1 dL_law_385 ?_
      refine l_sld C hsz hw.1 dL_law_386 ?_
      replace hw := hw.2
      refine g_aload_n C.1.1 0 dL_law_387 rfl rfl ?_
      refine g_iload C.1.1 4 dL_law_388 rfl ?_
      refine g_iconst (v := 5) C.1.1 dL_law_390 (by decide) ?_
      refine g_iadd C.1.1 dL_law_391 ?_
      refine l_sld C hsz hw.1 dL_law_392 ?_
      replace hw := hw.2
      refine g_aload_n C.1.1 3 dL_law_393 rfl rfl ?_
      obtain ⟨m54, m55, gm54, gm55, hm54, hm55, hw⟩ := hw
      have hk53 : k + m54 ≤ mc ∧ n + m55 ≤ ms := ⟨gm54, gm55⟩
      refine l_help (vs := [.ref v1, .int (xs (v4 + 1).toNatClampNeg), .int (xs (v4 + 2).toNatClampNeg), .int (xs (v4 + 3).toNatClampNeg), .int (xs (v4 + 4).toNatClampNeg), .int (xs (v4 + 5).toNatClampNeg), .ref oa]) C hsz rfl (cL_slope_c m54 m55 (g_l X) hfl G gr.1.2.2.1 oa _ _ _ _ _ _ _ _ ⟨hm54, hm55⟩ hw) kL_114 kL_115 kL_10 kL_107 hdL_slope ⟨Nat.le_trans (Nat.le_of_ble_eq_true rfl) hR.1, Nat.le_trans (Nat.le_of_ble_eq_true rfl) hR.2.1⟩ ⟨Nat.le_trans hk53.1 hR.2.2.1, Nat.le_trans hk53.2 hR.2.2.2⟩ dL_law_394 rfl (Nat.le_of_ble_eq_true rfl) (fun r51 t52 hw => ?_)
      refine g_istore (lv' := [(5, .int r51), (0, .ref sb), (1, .ref v1), (2, .ref (gr.2.1 0)), (3, .ref oa), (4, .int v4)]) C.1.1 dL_law_397 (by decide) rfl ?_
      refine g_aload_n C.1.1 3 dL_law_399 rfl rfl ?_
      refine g_aload_n C.1.1 1 dL_law_400 rfl rfl ?_
      refine g_iload C.1.1 5 dL_law_401 rfl ?_
      refine g_iconst (v := 1) C.1.1 dL_law_403 (by decide) ?_
      refine g_iadd C.1.1 dL_law_404 ?_
      refine l_sld C hsz hw.1 dL_law_405 ?_
      replace hw := hw.2
      refine g_aload_n C.1.1 1 dL_law_406 rfl rfl ?_
      refine g_iload C.1.1 5 dL_law_407 rfl ?_
      refine g_iconst (v := 2) C.1.1 dL_law_409 (by decide) ?_
      refine g_iadd C.1.1 dL_law_410 ?_
      refine l_sld C hsz hw.1 dL_law_411 ?_
      replace hw := hw.2
      refine g_aload_n C.1.1 1 dL_law_412 rfl rfl ?_
      refine g_iload C.1.1 5 dL_law_413 rfl ?_
      refine g_iconst (v := 3) C.1.1 dL_law_415 (by decide) ?_
      refine g_iadd C.1.1 dL_law_416 ?_
      refine l_sld C hsz hw.1 dL_law_417 ?_
      replace hw := hw.2
      refine g_aload_n C.1.1 1 dL_law_418 rfl rfl ?_
      refine g_iload C.1.1 5 dL_law_419 rfl ?_
      refine g_iconst (v := 4) C.1.1 dL_law_421 (by decide) ?_
      refine g_iadd C.1.1 dL_law_422 ?_
      refine l_sld C hsz hw.1 dL_law_423 ?_
      replace hw := hw.2
      refine g_aload_n C.1.1 1 dL_law_424 rfl rfl ?_
      refine g_iload C.1.1 5 dL_law_425 rfl ?_
      refine g_iconst (v := 5) C.1.1 dL_law_427 (by decide) ?_
      refine g_iadd C.1.1 dL_law_428 ?_
      refine l_sld C hsz hw.1 dL_law_429 ?_
      replace hw := hw.2
      refine l_refi (vs := [.int (xs (v4 + 1).toNatClampNeg), .int (xs (v4 + 2).toNatClampNeg), .int (xs (v4 + 3).toNatClampNeg), .int (xs (v4 + 4).toNatClampNeg), .int (xs (v4 + 5).toNatClampNeg)]) C hsz (cR_slope (g_l X) (G.1, gr) _ _ _ _ _ _ _ hw) kL_116 kL_117 kL_118 (kL_R _ kR_70) hdR_slope ⟨Nat.le_trans (Nat.le_of_ble_eq_true rfl) hR.1, Nat.le_trans (Nat.le_of_ble_eq_true rfl) hR.2.1⟩ ⟨Nat.le_trans hk53.1 hR.2.2.1, Nat.le_trans hk53.2 hR.2.2.2⟩ dL_law_430 rfl (Nat.le_of_ble_eq_true rfl) (fun r56 t57 hw => ?_)
      refine g_istore (lv' := [(6, .int r56), (5, .int r51), (0, .ref sb), (1, .ref v1), (2, .ref (gr.2.1 0)), (3, .ref oa), (4, .int v4)]) C.1.1 dL_law_433 (by decide) rfl ?_
      refine g_aload_n C.1.1 4 dL_law_435 rfl rfl ?_
      refine l_refi (vs := []) C hsz (cR_thrown (g_l X) (G.1, gr) _ _ hw) kL_111 kL_112 kL_113 (kL_R _ kR_41) hdR_thrown ⟨Nat.le_trans (Nat.le_of_ble_eq_true rfl) hR.1, Nat.le_trans (Nat.le_of_ble_eq_true rfl) hR.2.1⟩ ⟨Nat.le_trans hk53.1 hR.2.2.1, Nat.le_trans hk53.2 hR.2.2.2⟩ dL_law_436 rfl (Nat.le_of_ble_eq_true rfl) (fun r58 t59 hw => ?_)
      refine g_iload C.1.1 1 dL_law_439 rfl ?_
      refine g_icmp_eq (tgt := 446) C.1.1 dL_law_441 (by decide) (fun h60 => ?_) (fun h60 => ?_)
      · replace hw := hw.1 h60
        refine g_iload C.1.1 1 dL_law_446 rfl ?_
        refine g_if_ne (tgt := 463) C.1.1 dL_law_448 (by decide) (fun h61 => ?_) (fun h61 => ?_)
        · replace hw := hw.1 h61
          refine gJ.sub [2, 3, 4, 5, 6] rfl ?_
          exact wkW_law_463 hfl C hsz hR hret hK23 _ _ _ _ _ hk53 hw
        · replace hw := hw.2 h61
          refine g_aload_n C.1.1 5 dL_law_451 rfl rfl ?_
          refine g_iconst (v := 0) C.1.1 dL_law_452 (by decide) ?_
          refine l_lld C h_in0 dL_law_453 ?_
          refine g_iload C.1.1 0 dL_law_454 rfl ?_
          refine g_i2l C.1.1 dL_law_456 ?_
          refine g_lcmp C.1.1 dL_law_457 ?_
          refine g_if_eq (tgt := 463) C.1.1 dL_law_458 (by decide) (fun h62 => ?_) (fun h62 => ?_)
          · replace hw := hw.1 h62
            refine gJ.sub [2, 3, 4, 5, 6] rfl ?_
            exact wkW_law_463 hfl C hsz hR hret hK23 _ _ _ _ _ hk53 hw
          · replace hw := hw.2 h62
            refine g_iconst (v := 0) C.1.1 dL_law_461 (by decide) ?_
            refine gJ.widen hw.1 hw.2.1 ?_
            replace hw := hw.2.2
            exact hret _ _ _ _ hw rfl dL_law_462
      · replace hw := hw.2 h60
        refine g_iconst (v := 0) C.1.1 dL_law_444 (by decide) ?_
        refine gJ.widen hw.1 hw.2.1 ?_
        replace hw := hw.2.2
        exact hret _ _ _ _ hw rfl dL_law_445
    · replace hw := hw.2.2.2.2.1 (i32_of h28c)
      refine g_tableIn (tgt := 466) (off := 426) C.1.1 dL_law_40 h28a h28b (by rw [h28c]; rfl) (by decide) ?_
      refine g_aload_n C.1.1 1 dL_law_466 rfl rfl ?_
      refine g_aload_n C.1.1 0 dL_law_467 rfl rfl ?_
      refine g_iload C.1.1 4 dL_law_468 rfl ?_
      refine g_iconst (v := 1) C.1.1 dL_law_470 (by decide) ?_
      refine g_iadd C.1.1 dL_law_471 ?_
      refine l_sld C hsz hw.1 dL_law_472 ?_
      replace hw := hw.2
      refine g_aload_n C.1.1 3 dL_law_473 rfl rfl ?_
      have hk65 : k + 2 ≤ mc ∧ n + 406 ≤ ms := ⟨hw.1, hw.2.1⟩
      replace hw := hw.2.2
      refine l_help (vs := [.ref v1, .int (xs (v4 + 1).toNatClampNeg), .ref oa]) C hsz rfl (cL_rule_c (g_l X) hfl G gr.1.2.2.1 oa _ _ _ _ hw) kL_119 kL_120 kL_15 kL_107 hdL_rule ⟨Nat.le_trans (Nat.le_of_ble_eq_true rfl) hR.1, Nat.le_trans (Nat.le_of_ble_eq_true rfl) hR.2.1⟩ ⟨Nat.le_trans hk65.1 hR.2.2.1, Nat.le_trans hk65.2 hR.2.2.2⟩ dL_law_474 rfl (Nat.le_of_ble_eq_true rfl) (fun r63 t64 hw => ?_)
      refine g_istore (lv' := [(5, .int r63), (0, .ref sb), (1, .ref v1), (2, .ref (gr.2.1 0)), (3, .ref oa), (4, .int v4)]) C.1.1 dL_law_477 (by decide) rfl ?_
      refine g_aload_n C.1.1 3 dL_law_479 rfl rfl ?_
      refine g_aload_n C.1.1 1 dL_law_480 rfl rfl ?_
      refine g_iload C.1.1 5 dL_law_481 rfl ?_
      refine g_iconst (v := 1) C.1.1 dL_law_483 (by decide) ?_
      refine g_iadd C.1.1 dL_law_484 ?_
      refine l_sld C hsz hw.1 dL_law_485 ?_
      replace hw := hw.2
      refine l_refi (vs := [.int (xs (v4 + 1).toNatClampNeg)]) C hsz (cR_rule (g_l X) (G.1, gr) _ _ _ hw) kL_121 kL_122 kL_123 (kL_R _ kR_190) hdR_rule ⟨Nat.le_trans (Nat.le_of_ble_eq_true rfl) hR.1, Nat.le_trans (Nat.le_of_ble_eq_true rfl) hR.2.1⟩ ⟨Nat.le_trans hk65.1 hR.2.2.1, Nat.le_trans hk65.2 hR.2.2.2⟩ dL_law_486 rfl (Nat.le_of_ble_eq_true rfl) (fun r66 t67 hw => ?_)
      refine g_istore (lv' := [(6, .int r66), (5, .int r63), (0, .ref sb), (1, .ref v1), (2, .ref (gr.2.1 0)), (3, .ref oa), (4, .int v4)]) C.1.1 dL_law_489 (by decide) rfl ?_
      refine g_aload_n C.1.1 4 dL_law_491 rfl rfl ?_
      refine l_refi (vs := []) C hsz (cR_thrown (g_l X) (G.1, gr) _ _ hw) kL_111 kL_112 kL_113 (kL_R _ kR_41) hdR_thrown ⟨Nat.le_trans (Nat.le_of_ble_eq_true rfl) hR.1, Nat.le_trans (Nat.le_of_ble_eq_true rfl) hR.2.1⟩ ⟨Nat.le_trans hk65.1 hR.2.2.1, Nat.le_trans hk65.2 hR.2.2.2⟩ dL_law_492 rfl (Nat.le_of_ble_eq_true rfl) (fun r68 t69 hw => ?_)
      refine g_iload C.1.1 1 dL_law_495 rfl ?_
      refine g_icmp_eq (tgt := 502) C.1.1 dL_law_497 (by decide) (fun h70 => ?_) (fun h70 => ?_)
      · replace hw := hw.1 h70
        refine g_iload C.1.1 1 dL_law_502 rfl ?_
        refine g_if_ne (tgt := 519) C.1.1 dL_law_504 (by decide) (fun h71 => ?_) (fun h71 => ?_)
        · replace hw := hw.1 h71
          refine gJ.sub [2, 3, 4, 5, 6] rfl ?_
          exact wkW_law_519 hfl C hsz hR hret hK23 _ _ _ _ _ hk65 hw
        · replace hw := hw.2 h71
          refine g_aload_n C.1.1 5 dL_law_507 rfl rfl ?_
          refine g_iconst (v := 0) C.1.1 dL_law_508 (by decide) ?_
          refine l_lld C h_in0 dL_law_509 ?_
          refine g_iload C.1.1 0 dL_law_510 rfl ?_
          refine g_i2l C.1.1 dL_law_512 ?_
          refine g_lcmp C.1.1 dL_law_513 ?_
          refine g_if_eq (tgt := 519) C.1.1 dL_law_514 (by decide) (fun h72 => ?_) (fun h72 => ?_)
          · replace hw := hw.1 h72
            refine gJ.sub [2, 3, 4, 5, 6] rfl ?_
            exact wkW_law_519 hfl C hsz hR hret hK23 _ _ _ _ _ hk65 hw
          · replace hw := hw.2 h72
            refine g_iconst (v := 0) C.1.1 dL_law_517 (by decide) ?_
            refine gJ.widen hw.1 hw.2.1 ?_
            replace hw := hw.2.2
            exact hret _ _ _ _ hw rfl dL_law_518
      · replace hw := hw.2 h70
        refine g_iconst (v := 0) C.1.1 dL_law_500 (by decide) ?_
        refine gJ.widen hw.1 hw.2.1 ?_
        replace hw := hw.2.2
        exact hret _ _ _ _ hw rfl dL_law_501
    · replace hw := hw.2.2.2.2.2.1 (i32_of h28c)
      refine g_tableIn (tgt := 522) (off := 482) C.1.1 dL_law_40 h28a h28b (by rw [h28c]; rfl) (by decide) ?_
      refine g_aload_n C.1.1 1 dL_law_522 rfl rfl ?_
      refine g_aload_n C.1.1 0 dL_law_523 rfl rfl ?_
      refine g_iload C.1.1 4 dL_law_524 rfl ?_
      refine g_iconst (v := 1) C.1.1 dL_law_526 (by decide) ?_
      refine g_iadd C.1.1 dL_law_527 ?_
      refine l_sld C hsz hw.1 dL_law_528 ?_
      replace hw := hw.2
      refine g_aload_n C.1.1 3 dL_law_529 rfl rfl ?_
      have hk75 : k + 1 ≤ mc ∧ n + 6 ≤ ms := ⟨hw.1, hw.2.1⟩
      replace hw := hw.2.2
      refine l_help (vs := [.ref v1, .int (xs (v4 + 1).toNatClampNeg), .ref oa]) C hsz rfl (cL_unrule_c (g_l X) hfl G gr.1.2.2.1 oa _ _ _ _ hw) kL_124 kL_125 kL_19 kL_107 hdL_unrule ⟨Nat.le_trans (Nat.le_of_ble_eq_true rfl) hR.1, Nat.le_trans (Nat.le_of_ble_eq_true rfl) hR.2.1⟩ ⟨Nat.le_trans hk75.1 hR.2.2.1, Nat.le_trans hk75.2 hR.2.2.2⟩ dL_law_530 rfl (Nat.le_of_ble_eq_true rfl) (fun r73 t74 hw => ?_)
      refine g_istore (lv' := [(5, .int r73), (0, .ref sb), (1, .ref v1), (2, .ref (gr.2.1 0)), (3, .ref oa), (4, .int v4)]) C.1.1 dL_law_533 (by decide) rfl ?_
      refine g_aload_n C.1.1 3 dL_law_535 rfl rfl ?_
      refine g_aload_n C.1.1 1 dL_law_536 rfl rfl ?_
      refine g_iload C.1.1 5 dL_law_537 rfl ?_
      refine g_iconst (v := 1) C.1.1 dL_law_539 (by decide) ?_
      refine g_iadd C.1.1 dL_law_540 ?_
      refine l_sld C hsz hw.1 dL_law_541 ?_
      replace hw := hw.2
      refine l_refi (vs := [.int (xs (v4 + 1).toNatClampNeg)]) C hsz (cR_unrule (g_l X) (G.1, gr) _ _ _ hw) kL_126 kL_127 kL_128 (kL_R _ kR_191) hdR_unrule ⟨Nat.le_trans (Nat.le_of_ble_eq_true rfl) hR.1, Nat.le_trans (Nat.le_of_ble_eq_true rfl) hR.2.1⟩ ⟨Nat.le_trans hk75.1 hR.2.2.1, Nat.le_trans hk75.2 hR.2.2.2⟩ dL_law_542 rfl (Nat.le_of_ble_eq_true rfl) (fun r76 t77 hw => ?_)
      refine g_istore (lv' := [(6, .int r76), (5, .int r73), (0, .ref sb), (1, .ref v1), (2, .ref (gr.2.1 0)), (3, .ref oa), (4, .int v4)]) C.1.1 dL_law_545 (by decide) rfl ?_
      refine g_aload_n C.1.1 4 dL_law_547 rfl rfl ?_
      refine l_refi (vs := []) C hsz (cR_thrown (g_l X) (G.1, gr) _ _ hw) kL_111 kL_112 kL_113 (kL_R _ kR_41) hdR_thrown ⟨Nat.le_trans (Nat.le_of_ble_eq_true rfl) hR.1, Nat.le_trans (Nat.le_of_ble_eq_true rfl) hR.2.1⟩ ⟨Nat.le_trans hk75.1 hR.2.2.1, Nat.le_trans hk75.2 hR.2.2.2⟩ dL_law_548 rfl (Nat.le_of_ble_eq_true rfl) (fun r78 t79 hw => ?_)
      refine g_iload C.1.1 1 dL_law_551 rfl ?_
      refine g_icmp_eq (tgt := 558) C.1.1 dL_law_553 (by decide) (fun h80 => ?_) (fun h80 => ?_)
      · replace hw := hw.1 h80
        refine g_iload C.1.1 1 dL_law_558 rfl ?_
        refine g_if_ne (tgt := 582) C.1.1 dL_law_560 (by decide) (fun h81 => ?_) (fun h81 => ?_)
        · replace hw := hw.1 h81
          refine gJ.sub [2, 3, 4, 5, 6] rfl ?_
          exact wkW_law_582 hfl C hsz hR hret hK23 _ _ _ _ _ hk75 hw
        · replace hw := hw.2 h81
          refine g_aload_n C.1.1 5 dL_law_563 rfl rfl ?_
          refine g_iconst (v := 0) C.1.1 dL_law_564 (by decide) ?_
          refine l_lld C h_in0 dL_law_565 ?_
          refine g_iload C.1.1 0 dL_law_566 rfl ?_
          refine g_if_eq (tgt := 575) C.1.1 dL_law_568 (by decide) (fun h82 => ?_) (fun h82 => ?_)
          · replace hw := hw.1 h82
            refine g_lconst (v := 0) C.1.1 dL_law_575 (by decide) ?_
            refine gJ.sub [2, 3, 4, 5, 6] rfl ?_
            exact wkW_law_576 hfl C hsz hR hret hK23 _ _ _ _ _ _ _ hk75 hw
          · replace hw := hw.2 h82
            refine g_lconst (v := 1) C.1.1 dL_law_571 (by decide) ?_
            refine g_goto (tgt := 576) C.1.1 dL_law_572 (by decide) ?_
            refine gJ.sub [2, 3, 4, 5, 6] rfl ?_
            exact wkW_law_576 hfl C hsz hR hret hK23 _ _ _ _ _ _ _ hk75 hw
      · replace hw := hw.2 h80
        refine g_iconst (v := 0) C.1.1 dL_law_556 (by decide) ?_
        refine gJ.widen hw.1 hw.2.1 ?_
        replace hw := hw.2.2
        exact hret _ _ _ _ hw rfl dL_law_557
    · replace hw := hw.2.2.2.2.2.2.1 (i32_of h28c)
      refine g_tableIn (tgt := 585) (off := 545) C.1.1 dL_law_40 h28a h28b (by rw [h28c]; rfl) (by decide) ?_
      refine g_aload_n C.1.1 1 dL_law_585 rfl rfl ?_
      refine g_aload_n C.1.1 0 dL_law_586 rfl rfl ?_
      refine g_iload C.1.1 4 dL_law_587 rfl ?_
      refine g_iconst (v := 1) C.1.1 dL_law_589 (by decide) ?_
      refine g_iadd C.1.1 dL_law_590 ?_
      refine l_sld C hsz hw.1 dL_law_591 ?_
      replace hw := hw.2
      refine e_callVi (vs := [.int (xs (v4 + 1).toNatClampNeg)]) C.1 hsz (cC_X7_fault (g_l X) G _ _ _ _ hw.2) kL_129 kL_130 kL_131 (kL_C _ kC_506) hdC_X7_fault hw.1 ⟨Nat.le_trans (Nat.le_of_ble_eq_true rfl) hR.1, Nat.le_trans (Nat.le_of_ble_eq_true rfl) hR.2.1⟩ ⟨Nat.le_trans hk.1 hR.2.2.1, Nat.le_trans hk.2 hR.2.2.2⟩ dL_law_592 rfl (Nat.le_of_ble_eq_true rfl) (fun r83 t84 hw => ?_)
      refine g_aload_n C.1.1 2 dL_law_595 rfl rfl ?_
      refine g_aload_n C.1.1 0 dL_law_596 rfl rfl ?_
      refine g_iload C.1.1 4 dL_law_597 rfl ?_
      refine g_iconst (v := 1) C.1.1 dL_law_599 (by decide) ?_
      refine g_iadd C.1.1 dL_law_600 ?_
      refine l_sld C hsz hw.1 dL_law_601 ?_
      replace hw := hw.2
      refine l_refi (vs := [.int (xs (v4 + 1).toNatClampNeg)]) C hsz (cR_fault (g_l X) (G.1, gr) _ _ _ hw) kL_132 kL_133 kL_134 (kL_R _ kR_192) hdR_fault ⟨Nat.le_trans (Nat.le_of_ble_eq_true rfl) hR.1, Nat.le_trans (Nat.le_of_ble_eq_true rfl) hR.2.1⟩ ⟨Nat.le_trans hk.1 hR.2.2.1, Nat.le_trans hk.2 hR.2.2.2⟩ dL_law_602 rfl (Nat.le_of_ble_eq_true rfl) (fun r85 t86 hw => ?_)
      refine g_icmp_eq (tgt := 1707) C.1.1 dL_law_605 (by decide) (fun h87 => ?_) (fun h87 => ?_)
      · replace hw := hw.1 h87
        exact wkW_law_1707 hfl C hsz hR hret hK23 _ _ _ _ _ hk hw
      · replace hw := hw.2 h87
        refine g_iconst (v := 0) C.1.1 dL_law_608 (by decide) ?_
        refine gJ.widen hw.1 hw.2.1 ?_
        replace hw := hw.2.2
        exact hret _ _ _ _ hw rfl dL_law_609
    · replace hw := hw.2.2.2.2.2.2.2.1 (i32_of h28c)
      refine g_tableIn (tgt := 610) (off := 570) C.1.1 dL_law_40 h28a h28b (by rw [h28c]; rfl) (by decide) ?_
      refine g_aload_n C.1.1 1 dL_law_610 rfl rfl ?_
      refine g_aload_n C.1.1 0 dL_law_611 rfl rfl ?_
      refine g_iload C.1.1 4 dL_law_612 rfl ?_
      refine g_iconst (v := 1) C.1.1 dL_law_614 (by decide) ?_
      refine g_iadd C.1.1 dL_law_615 ?_
      refine l_sld C hsz hw.1 dL_law_616 ?_
      replace hw := hw.2
      refine g_aload_n C.1.1 3 dL_law_617 rfl rfl ?_
      have hk90 : k + 1 ≤ mc ∧ n + 6 ≤ ms := ⟨hw.1, hw.2.1⟩
      replace hw := hw.2.2
      refine l_help (vs := [.ref v1, .int (xs (v4 + 1).toNatClampNeg), .ref oa]) C hsz rfl (cL_open_c (g_l X) hfl G gr.1.2.2.1 oa _ _ _ _ hw) kL_135 kL_136 kL_23 kL_107 hdL_open ⟨Nat.le_trans (Nat.le_of_ble_eq_true rfl) hR.1, Nat.le_trans (Nat.le_of_ble_eq_true rfl) hR.2.1⟩ ⟨Nat.le_trans hk90.1 hR.2.2.1, Nat.le_trans hk90.2 hR.2.2.2⟩ dL_law_618 rfl (Nat.le_of_ble_eq_true rfl) (fun r88 t89 hw => ?_)
      refine g_istore (lv' := [(5, .int r88), (0, .ref sb), (1, .ref v1), (2, .ref (gr.2.1 0)), (3, .ref oa), (4, .int v4)]) C.1.1 dL_law_621 (by decide) rfl ?_
      refine g_aload_n C.1.1 3 dL_law_623 rfl rfl ?_
      refine g_aload_n C.1.1 1 dL_law_624 rfl rfl ?_
      refine g_iload C.1.1 5 dL_law_625 rfl ?_
      refine g_iconst (v := 1) C.1.1 dL_law_627 (by decide) ?_
      refine g_iadd C.1.1 dL_law_628 ?_
      refine l_sld C hsz hw.1 dL_law_629 ?_
      replace hw := hw.2
      refine l_refi (vs := [.int (xs (v4 + 1).toNatClampNeg)]) C hsz (cR_open (g_l X) (G.1, gr) _ _ _ hw) kL_137 kL_138 kL_139 (kL_R _ kR_220) hdR_open ⟨Nat.le_trans (Nat.le_of_ble_eq_true rfl) hR.1, Nat.le_trans (Nat.le_of_ble_eq_true rfl) hR.2.1⟩ ⟨Nat.le_trans hk90.1 hR.2.2.1, Nat.le_trans hk90.2 hR.2.2.2⟩ dL_law_630 rfl (Nat.le_of_ble_eq_true rfl) (fun r91 t92 hw => ?_)
      refine g_istore (lv' := [(6, .int r91), (5, .int r88), (0, .ref sb), (1, .ref v1), (2, .ref (gr.2.1 0)), (3, .ref oa), (4, .int v4)]) C.1.1 dL_law_633 (by decide) rfl ?_
      refine g_aload_n C.1.1 4 dL_law_635 rfl rfl ?_
      refine l_refi (vs := []) C hsz (cR_thrown (g_l X) (G.1, gr) _ _ hw) kL_111 kL_112 kL_113 (kL_R _ kR_41) hdR_thrown ⟨Nat.le_trans (Nat.le_of_ble_eq_true rfl) hR.1, Nat.le_trans (Nat.le_of_ble_eq_true rfl) hR.2.1⟩ ⟨Nat.le_trans hk90.1 hR.2.2.1, Nat.le_trans hk90.2 hR.2.2.2⟩ dL_law_636 rfl (Nat.le_of_ble_eq_true rfl) (fun r93 t94 hw => ?_)
      refine g_iload C.1.1 1 dL_law_639 rfl ?_
      refine g_icmp_eq (tgt := 646) C.1.1 dL_law_641 (by decide) (fun h95 => ?_) (fun h95 => ?_)
      · replace hw := hw.1 h95
        refine g_iload C.1.1 1 dL_law_646 rfl ?_
        refine g_if_ne (tgt := 670) C.1.1 dL_law_648 (by decide) (fun h96 => ?_) (fun h96 => ?_)
        · replace hw := hw.1 h96
          refine gJ.sub [2, 3, 4, 5, 6] rfl ?_
          exact wkW_law_670 hfl C hsz hR hret hK23 _ _ _ _ _ hk90 hw
        · replace hw := hw.2 h96
          refine g_aload_n C.1.1 5 dL_law_651 rfl rfl ?_
          refine g_iconst (v := 0) C.1.1 dL_law_652 (by decide) ?_
          refine l_lld C h_in0 dL_law_653 ?_
          refine g_iload C.1.1 0 dL_law_654 rfl ?_
          refine g_if_eq (tgt := 663) C.1.1 dL_law_656 (by decide) (fun h97 => ?_) (fun h97 => ?_)
          · replace hw := hw.1 h97
            refine g_lconst (v := 0) C.1.1 dL_law_663 (by decide) ?_
            refine gJ.sub [2, 3, 4, 5, 6] rfl ?_
            exact wkW_law_664 hfl C hsz hR hret hK23 _ _ _ _ _ _ _ hk90 hw
          · replace hw := hw.2 h97
            refine g_lconst (v := 1) C.1.1 dL_law_659 (by decide) ?_
            refine g_goto (tgt := 664) C.1.1 dL_law_660 (by decide) ?_
            refine gJ.sub [2, 3, 4, 5, 6] rfl ?_
            exact wkW_law_664 hfl C hsz hR hret hK23 _ _ _ _ _ _ _ hk90 hw
      · replace hw := hw.2 h95
        refine g_iconst (v := 0) C.1.1 dL_law_644 (by decide) ?_
        refine gJ.widen hw.1 hw.2.1 ?_
        replace hw := hw.2.2
        exact hret _ _ _ _ hw rfl dL_law_645
    · replace hw := hw.2.2.2.2.2.2.2.2.1 (i32_of h28c)
      refine g_tableIn (tgt := 673) (off := 633) C.1.1 dL_law_40 h28a h28b (by rw [h28c]; rfl) (by decide) ?_
      refine g_aload_n C.1.1 1 dL_law_673 rfl rfl ?_
      refine g_aload_n C.1.1 0 dL_law_674 rfl rfl ?_
      refine g_iload C.1.1 4 dL_law_675 rfl ?_
      refine g_iconst (v := 1) C.1.1 dL_law_677 (by decide) ?_
      refine g_iadd C.1.1 dL_law_678 ?_
      refine l_sld C hsz hw.1 dL_law_679 ?_
      replace hw := hw.2
      refine g_aload_n C.1.1 3 dL_law_680 rfl rfl ?_
      have hk100 : k + 1 ≤ mc ∧ n + 6 ≤ ms := ⟨hw.1, hw.2.1⟩
      replace hw := hw.2.2
      refine l_help (vs := [.ref v1, .int (xs (v4 + 1).toNatClampNeg), .ref oa]) C hsz rfl (cL_runs_c (g_l X) hfl G gr.1.2.2.1 oa _ _ _ _ hw) kL_140 kL_141 kL_27 kL_107 hdL_runs ⟨Nat.le_trans (Nat.le_of_ble_eq_true rfl) hR.1, Nat.le_trans (Nat.le_of_ble_eq_true rfl) hR.2.1⟩ ⟨Nat.le_trans hk100.1 hR.2.2.1, Nat.le_trans hk100.2 hR.2.2.2⟩ dL_law_681 rfl (Nat.le_of_ble_eq_true rfl) (fun r98 t99 hw => ?_)
      refine g_istore (lv' := [(5, .int r98), (0, .ref sb), (1, .ref v1), (2, .ref (gr.2.1 0)), (3, .ref oa), (4, .int v4)]) C.1.1 dL_law_684 (by decide) rfl ?_
      refine g_aload_n C.1.1 3 dL_law_686 rfl rfl ?_
      refine g_aload_n C.1.1 1 dL_law_687 rfl rfl ?_
      refine g_iload C.1.1 5 dL_law_688 rfl ?_
      refine g_iconst (v := 1) C.1.1 dL_law_690 (by decide) ?_
      refine g_iadd C.1.1 dL_law_691 ?_
      refine l_sld C hsz hw.1 dL_law_692 ?_
      replace hw := hw.2
      refine l_refi (vs := [.int (xs (v4 + 1).toNatClampNeg)]) C hsz (cR_runs (g_l X) (G.1, gr) _ _ _ hw) kL_142 kL_143 kL_144 (kL_R _ kR_221) hdR_runs ⟨Nat.le_trans (Nat.le_of_ble_eq_true rfl) hR.1, Nat.le_trans (Nat.le_of_ble_eq_true rfl) hR.2.1⟩ ⟨Nat.le_trans hk100.1 hR.2.2.1, Nat.le_trans hk100.2 hR.2.2.2⟩ dL_law_693 rfl (Nat.le_of_ble_eq_true rfl) (fun r101 t102 hw => ?_)
      refine g_istore (lv' := [(6, .int r101), (5, .int r98), (0, .ref sb), (1, .ref v1), (2, .ref (gr.2.1 0)), (3, .ref oa), (4, .int v4)]) C.1.1 dL_law_696 (by decide) rfl ?_
      refine g_aload_n C.1.1 4 dL_law_698 rfl rfl ?_
      refine l_refi (vs := []) C hsz (cR_thrown (g_l X) (G.1, gr) _ _ hw) kL_111 kL_112 kL_113 (kL_R _ kR_41) hdR_thrown ⟨Nat.le_trans (Nat.le_of_ble_eq_true rfl) hR.1, Nat.le_trans (Nat.le_of_ble_eq_true rfl) hR.2.1⟩ ⟨Nat.le_trans hk100.1 hR.2.2.1, Nat.le_trans hk100.2 hR.2.2.2⟩ dL_law_699 rfl (Nat.le_of_ble_eq_true rfl) (fun r103 t104 hw => ?_)
      refine g_iload C.1.1 1 dL_law_702 rfl ?_
      refine g_icmp_eq (tgt := 709) C.1.1 dL_law_704 (by decide) (fun h105 => ?_) (fun h105 => ?_)
      · replace hw := hw.1 h105
        refine g_iload C.1.1 1 dL_law_709 rfl ?_
        refine g_if_ne (tgt := 733) C.1.1 dL_law_711 (by decide) (fun h106 => ?_) (fun h106 => ?_)
        · replace hw := hw.1 h106
          refine gJ.sub [2, 3, 4, 5, 6] rfl ?_
          exact wkW_law_733 hfl C hsz hR hret hK23 _ _ _ _ _ hk100 hw
        · replace hw := hw.2 h106
          refine g_aload_n C.1.1 5 dL_law_714 rfl rfl ?_
          refine g_iconst (v := 0) C.1.1 dL_law_715 (by decide) ?_
          refine l_lld C h_in0 dL_law_716 ?_
          refine g_iload C.1.1 0 dL_law_717 rfl ?_
          refine g_if_eq (tgt := 726) C.1.1 dL_law_719 (by decide) (fun h107 => ?_) (fun h107 => ?_)
          · replace hw := hw.1 h107
            refine g_lconst (v := 0) C.1.1 dL_law_726 (by decide) ?_
            refine gJ.sub [2, 3, 4, 5, 6] rfl ?_
            exact wkW_law_727 hfl C hsz hR hret hK23 _ _ _ _ _ _ _ hk100 hw
          · replace hw := hw.2 h107
            refine g_lconst (v := 1) C.1.1 dL_law_722 (by decide) ?_
            refine g_goto (tgt := 727) C.1.1 dL_law_723 (by decide) ?_
            refine gJ.sub [2, 3, 4, 5, 6] rfl ?_
            exact wkW_law_727 hfl C hsz hR hret hK23 _ _ _ _ _ _ _ hk100 hw
      · replace hw := hw.2 h105
        refine g_iconst (v := 0) C.1.1 dL_law_707 (by decide) ?_
        refine gJ.widen hw.1 hw.2.1 ?_
        replace hw := hw.2.2
        exact hret _ _ _ _ hw rfl dL_law_708
    · replace hw := hw.2.2.2.2.2.2.2.2.2.1 (i32_of h28c)
      refine g_tableIn (tgt := 736) (off := 696) C.1.1 dL_law_40 h28a h28b (by rw [h28c]; rfl) (by decide) ?_
      refine g_aload_n C.1.1 1 dL_law_736 rfl rfl ?_
      refine g_aload_n C.1.1 0 dL_law_737 rfl rfl ?_
      refine g_iload C.1.1 4 dL_law_738 rfl ?_
      refine g_iconst (v := 1) C.1.1 dL_law_740 (by decide) ?_
      refine g_iadd C.1.1 dL_law_741 ?_
      refine l_sld C hsz hw.1 dL_law_742 ?_
      replace hw := hw.2
      have hk110 : k + 1 ≤ mc ∧ n + 6 ≤ ms := ⟨hw.1, hw.2.1⟩
      replace hw := hw.2.2
      refine l_help (vs := [.ref v1, .int (xs (v4 + 1).toNatClampNeg)]) C hsz rfl (cL_wind_c (g_l X) hfl G gr.1.2.2.1 oa _ _ _ _ hw) kL_145 kL_146 kL_31 kL_107 hdL_wind ⟨Nat.le_trans (Nat.le_of_ble_eq_true rfl) hR.1, Nat.le_trans (Nat.le_of_ble_eq_true rfl) hR.2.1⟩ ⟨Nat.le_trans hk110.1 hR.2.2.1, Nat.le_trans hk110.2 hR.2.2.2⟩ dL_law_743 rfl (Nat.le_of_ble_eq_true rfl) (fun r108 t109 hw => ?_)
      refine g_istore (lv' := [(5, .int r108), (0, .ref sb), (1, .ref v1), (2, .ref (gr.2.1 0)), (3, .ref oa), (4, .int v4)]) C.1.1 dL_law_746 (by decide) rfl ?_
      refine g_aload_n C.1.1 3 dL_law_748 rfl rfl ?_
      refine g_aload_n C.1.1 1 dL_law_749 rfl rfl ?_
      refine g_iload C.1.1 5 dL_law_750 rfl ?_
      refine g_iconst (v := 1) C.1.1 dL_law_752 (by decide) ?_
      refine g_iadd C.1.1 dL_law_753 ?_
      refine l_sld C hsz hw.1 dL_law_754 ?_
      replace hw := hw.2
      refine l_refv (vs := [.int (xs (v4 + 1).toNatClampNeg)]) C hsz (cR_wind (g_l X) (G.1, gr) _ _ _ hw) kL_147 kL_148 kL_149 (kL_R _ kR_223) hdR_wind ⟨Nat.le_trans (Nat.le_of_ble_eq_true rfl) hR.1, Nat.le_trans (Nat.le_of_ble_eq_true rfl) hR.2.1⟩ ⟨Nat.le_trans hk110.1 hR.2.2.1, Nat.le_trans hk110.2 hR.2.2.2⟩ dL_law_755 rfl (Nat.le_of_ble_eq_true rfl) (fun t112 hw => ?_)
      refine g_aload_n C.1.1 3 dL_law_758 rfl rfl ?_
      refine l_refi (vs := []) C hsz (cR_thrown (g_l X) (G.1, gr) _ _ hw) kL_111 kL_112 kL_113 (kL_R _ kR_41) hdR_thrown ⟨Nat.le_trans (Nat.le_of_ble_eq_true rfl) hR.1, Nat.le_trans (Nat.le_of_ble_eq_true rfl) hR.2.1⟩ ⟨Nat.le_trans hk110.1 hR.2.2.1, Nat.le_trans hk110.2 hR.2.2.2⟩ dL_law_759 rfl (Nat.le_of_ble_eq_true rfl) (fun r113 t114 hw => ?_)
      refine g_iload C.1.1 0 dL_law_762 rfl ?_
      refine g_icmp_eq (tgt := 769) C.1.1 dL_law_764 (by decide) (fun h115 => ?_) (fun h115 => ?_)
      · replace hw := hw.1 h115
        refine g_goto (tgt := 1707) C.1.1 dL_law_769 (by decide) ?_
        refine gJ.sub [1, 2, 3, 4, 5] rfl ?_
        exact wkW_law_1707 hfl C hsz hR hret hK23 _ _ _ _ _ hk110 hw
      · replace hw := hw.2 h115
        refine g_iconst (v := 0) C.1.1 dL_law_767 (by decide) ?_
        refine gJ.widen hw.1 hw.2.1 ?_
        replace hw := hw.2.2
        exact hret _ _ _ _ hw rfl dL_law_768
    · replace hw := hw.2.2.2.2.2.2.2.2.2.2.1 (i32_of h28c)
      refine g_tableIn (tgt := 772) (off := 732) C.1.1 dL_law_40 h28a h28b (by rw [h28c]; rfl) (by decide) ?_
      refine g_aload_n C.1.1 1 dL_law_772 rfl rfl ?_
      refine g_aload_n C.1.1 0 dL_law_773 rfl rfl ?_
      refine g_iload C.1.1 4 dL_law_774 rfl ?_
      refine g_iconst (v := 1) C.1.1 dL_law_776 (by decide) ?_
      refine g_iadd C.1.1 dL_law_777 ?_
      refine l_sld C hsz hw.1 dL_law_778 ?_
      replace hw := hw.2
      refine g_aload_n C.1.1 0 dL_law_779 rfl rfl ?_
      refine g_iload C.1.1 4 dL_law_780 rfl ?_
      refine g_iconst (v := 2) C.1.1 dL_law_782 (by decide) ?_
      refine g_iadd C.1.1 dL_law_783 ?_
      refine l_sld C hsz hw.1 dL_law_784 ?_
      replace hw := hw.2
      refine g_if_eq (tgt := 792) C.1.1 dL_law_785 (by decide) (fun h116 => ?_) (fun h116 => ?_)
      · replace hw := hw.1 h116
        refine g_iconst (v := 0) C.1.1 dL_law_792 (by decide) ?_
        exact wkW_law_793 hfl C hsz hR hret hK23 _ _ _ _ _ _ _ _ hk hw
      · replace hw := hw.2 h116
        refine g_iconst (v := 1) C.1.1 dL_law_788 (by decide) ?_
        refine g_goto (tgt := 793) C.1.1 dL_law_789 (by decide) ?_
        exact wkW_law_793 hfl C hsz hR hret hK23 _ _ _ _ _ _ _ _ hk hw
    · replace hw := hw.2.2.2.2.2.2.2.2.2.2.2.1 (i32_of h28c)
      refine g_tableIn (tgt := 863) (off := 823) C.1.1 dL_law_40 h28a h28b (by rw [h28c]; rfl) (by decide) ?_
      refine g_aload_n C.1.1 1 dL_law_863 rfl rfl ?_
      refine g_aload_n C.1.1 0 dL_law_864 rfl rfl ?_
      refine g_iload C.1.1 4 dL_law_865 rfl ?_
      refine g_iconst (v := 1) C.1.1 dL_law_867 (by decide) ?_
      refine g_iadd C.1.1 dL_law_868 ?_
      refine l_sld C hsz hw.1 dL_law_869 ?_
      replace hw := hw.2
      refine g_aload_n C.1.1 0 dL_law_870 rfl rfl ?_
      refine g_iload C.1.1 4 dL_law_871 rfl ?_
      refine g_iconst (v := 2) C.1.1 dL_law_873 (by decide) ?_
      refine g_iadd C.1.1 dL_law_874 ?_
      refine l_sld C hsz hw.1 dL_law_875 ?_
      replace hw := hw.2
      refine g_aload_n C.1.1 0 dL_law_876 rfl rfl ?_
      refine g_iload C.1.1 4 dL_law_877 rfl ?_
      refine g_iconst (v := 3) C.1.1 dL_law_879 (by decide) ?_
      refine g_iadd C.1.1 dL_law_880 ?_
      refine l_sld C hsz hw.1 dL_law_881 ?_
      replace hw := hw.2
      refine g_aload_n C.1.1 3 dL_law_882 rfl rfl ?_
      obtain ⟨m120, m121, gm120, gm121, hm120, hm121, hw⟩ := hw
      have hk119 : k + m120 ≤ mc ∧ n + m121 ≤ ms := ⟨gm120, gm121⟩
      refine l_help (vs := [.ref v1, .int (xs (v4 + 1).toNatClampNeg), .int (xs (v4 + 2).toNatClampNeg), .int (xs (v4 + 3).toNatClampNeg), .ref oa]) C hsz rfl (cL_group_c m120 m121 (g_l X) hfl G gr.1.2.2.1 oa _ _ _ _ _ _ ⟨hm120, hm121⟩ hw) kL_155 kL_156 kL_39 kL_107 hdL_group ⟨Nat.le_trans (Nat.le_of_ble_eq_true rfl) hR.1, Nat.le_trans (Nat.le_of_ble_eq_true rfl) hR.2.1⟩ ⟨Nat.le_trans hk119.1 hR.2.2.1, Nat.le_trans hk119.2 hR.2.2.2⟩ dL_law_883 rfl (Nat.le_of_ble_eq_true rfl) (fun r117 t118 hw => ?_)
      refine g_istore (lv' := [(5, .int r117), (0, .ref sb), (1, .ref v1), (2, .ref (gr.2.1 0)), (3, .ref oa), (4, .int v4)]) C.1.1 dL_law_886 (by decide) rfl ?_
      refine g_aload_n C.1.1 3 dL_law_888 rfl rfl ?_
      refine g_aload_n C.1.1 1 dL_law_889 rfl rfl ?_
      refine g_iload C.1.1 5 dL_law_890 rfl ?_
      refine g_iconst (v := 1) C.1.1 dL_law_892 (by decide) ?_
      refine g_iadd C.1.1 dL_law_893 ?_
      refine l_sld C hsz hw.1 dL_law_894 ?_
      replace hw := hw.2
      refine g_aload_n C.1.1 1 dL_law_895 rfl rfl ?_
      refine g_iload C.1.1 5 dL_law_896 rfl ?_
      refine g_iconst (v := 2) C.1.1 dL_law_898 (by decide) ?_
      refine g_iadd C.1.1 dL_law_899 ?_
      refine l_sld C hsz hw.1 dL_law_900 ?_
      replace hw := hw.2
      refine g_aload_n C.1.1 1 dL_law_901 rfl rfl ?_
      refine g_iload C.1.1 5 dL_law_902 rfl ?_
      refine g_iconst (v := 3) C.1.1 dL_law_904 (by decide) ?_
      refine g_iadd C.1.1 dL_law_905 ?_
      refine l_sld C hsz hw.1 dL_law_906 ?_
      replace hw := hw.2
      refine l_refi (vs := [.int (xs (v4 + 1).toNatClampNeg), .int (xs (v4 + 2).toNatClampNeg), .int (xs (v4 + 3).toNatClampNeg)]) C hsz (cR_group (g_l X) (G.1, gr) _ _ _ _ _ hw) kL_157 kL_158 kL_159 (kL_R _ kR_225) hdR_group ⟨Nat.le_trans (Nat.le_of_ble_eq_true rfl) hR.1, Nat.le_trans (Nat.le_of_ble_eq_true rfl) hR.2.1⟩ ⟨Nat.le_trans hk119.1 hR.2.2.1, Nat.le_trans hk119.2 hR.2.2.2⟩ dL_law_907 rfl (Nat.le_of_ble_eq_true rfl) (fun r122 t123 hw => ?_)
      refine g_istore (lv' := [(6, .int r122), (5, .int r117), (0, .ref sb), (1, .ref v1), (2, .ref (gr.2.1 0)), (3, .ref oa), (4, .int v4)]) C.1.1 dL_law_910 (by decide) rfl ?_
      refine g_aload_n C.1.1 4 dL_law_912 rfl rfl ?_
      refine l_refi (vs := []) C hsz (cR_thrown (g_l X) (G.1, gr) _ _ hw) kL_111 kL_112 kL_113 (kL_R _ kR_41) hdR_thrown ⟨Nat.le_trans (Nat.le_of_ble_eq_true rfl) hR.1, Nat.le_trans (Nat.le_of_ble_eq_true rfl) hR.2.1⟩ ⟨Nat.le_trans hk119.1 hR.2.2.1, Nat.le_trans hk119.2 hR.2.2.2⟩ dL_law_913 rfl (Nat.le_of_ble_eq_true rfl) (fun r124 t125 hw => ?_)
      refine g_iload C.1.1 1 dL_law_916 rfl ?_
      refine g_icmp_eq (tgt := 923) C.1.1 dL_law_918 (by decide) (fun h126 => ?_) (fun h126 => ?_)
      · replace hw := hw.1 h126
        refine g_iload C.1.1 1 dL_law_923 rfl ?_
        refine g_if_ne (tgt := 940) C.1.1 dL_law_925 (by decide) (fun h127 => ?_) (fun h127 => ?_)
        · replace hw := hw.1 h127
          refine gJ.sub [2, 3, 4, 5, 6] rfl ?_
          exact wkW_law_940 hfl C hsz hR hret hK23 _ _ _ _ _ hk119 hw
        · replace hw := hw.2 h127
          refine g_aload_n C.1.1 5 dL_law_928 rfl rfl ?_
          refine g_iconst (v := 0) C.1.1 dL_law_929 (by decide) ?_
          refine l_lld C h_in0 dL_law_930 ?_
          refine g_iload C.1.1 0 dL_law_931 rfl ?_
          refine g_i2l C.1.1 dL_law_933 ?_
          refine g_lcmp C.1.1 dL_law_934 ?_
          refine g_if_eq (tgt := 940) C.1.1 dL_law_935 (by decide) (fun h128 => ?_) (fun h128 => ?_)
          · replace hw := hw.1 h128
            refine gJ.sub [2, 3, 4, 5, 6] rfl ?_
            exact wkW_law_940 hfl C hsz hR hret hK23 _ _ _ _ _ hk119 hw
          · replace hw := hw.2 h128
            refine g_iconst (v := 0) C.1.1 dL_law_938 (by decide) ?_
            refine gJ.widen hw.1 hw.2.1 ?_
            replace hw := hw.2.2
            exact hret _ _ _ _ hw rfl dL_law_939
      · replace hw := hw.2 h126
        refine g_iconst (v := 0) C.1.1 dL_law_921 (by decide) ?_
        refine gJ.widen hw.1 hw.2.1 ?_
        replace hw := hw.2.2
        exact hret _ _ _ _ hw rfl dL_law_922
    · replace hw := hw.2.2.2.2.2.2.2.2.2.2.2.2.1 (i32_of h28c)
      refine g_tableIn (tgt := 943) (off := 903) C.1.1 dL_law_40 h28a h28b (by rw [h28c]; rfl) (by decide) ?_
      refine g_aload_n C.1.1 1 dL_law_943 rfl rfl ?_
      refine g_aload_n C.1.1 0 dL_law_944 rfl rfl ?_
      refine g_iload C.1.1 4 dL_law_945 rfl ?_
      refine g_iconst (v := 1) C.1.1 dL_law_947 (by decide) ?_
      refine g_iadd C.1.1 dL_law_948 ?_
      refine l_sld C hsz hw.1 dL_law_949 ?_
      replace hw := hw.2
      refine g_aload_n C.1.1 3 dL_law_950 rfl rfl ?_
      obtain ⟨m132, m133, gm132, gm133, hm132, hm133, hw⟩ := hw
      have hk131 : k + m132 ≤ mc ∧ n + m133 ≤ ms := ⟨gm132, gm133⟩
      refine l_help (vs := [.ref v1, .int (xs (v4 + 1).toNatClampNeg), .ref oa]) C hsz rfl (cL_step_c m132 m133 (g_l X) hfl G gr.1.2.2.1 oa _ _ _ _ ⟨hm132, hm133⟩ hw) kL_160 kL_161 kL_43 kL_107 hdL_step ⟨Nat.le_trans (Nat.le_of_ble_eq_true rfl) hR.1, Nat.le_trans (Nat.le_of_ble_eq_true rfl) hR.2.1⟩ ⟨Nat.le_trans hk131.1 hR.2.2.1, Nat.le_trans hk131.2 hR.2.2.2⟩ dL_law_951 rfl (Nat.le_of_ble_eq_true rfl) (fun r129 t130 hw => ?_)
      refine g_istore (lv' := [(5, .int r129), (0, .ref sb), (1, .ref v1), (2, .ref (gr.2.1 0)), (3, .ref oa), (4, .int v4)]) C.1.1 dL_law_954 (by decide) rfl ?_
      refine g_aload_n C.1.1 3 dL_law_956 rfl rfl ?_
      refine g_aload_n C.1.1 1 dL_law_957 rfl rfl ?_
      refine g_iload C.1.1 5 dL_law_958 rfl ?_
      refine g_iconst (v := 1) C.1.1 dL_law_960 (by decide) ?_
      refine g_iadd C.1.1 dL_law_961 ?_
      refine l_sld C hsz hw.1 dL_law_962 ?_
      replace hw := hw.2
      refine l_refi (vs := [.int (xs (v4 + 1).toNatClampNeg)]) C hsz (cR_step (g_l X) (G.1, gr) _ _ _ hw) kL_162 kL_163 kL_164 (kL_R _ kR_247) hdR_step ⟨Nat.le_trans (Nat.le_of_ble_eq_true rfl) hR.1, Nat.le_trans (Nat.le_of_ble_eq_true rfl) hR.2.1⟩ ⟨Nat.le_trans hk131.1 hR.2.2.1, Nat.le_trans hk131.2 hR.2.2.2⟩ dL_law_963 rfl (Nat.le_of_ble_eq_true rfl) (fun r134 t135 hw => ?_)
      refine g_istore (lv' := [(6, .int r134), (5, .int r129), (0, .ref sb), (1, .ref v1), (2, .ref (gr.2.1 0)), (3, .ref oa), (4, .int v4)]) C.1.1 dL_law_966 (by decide) rfl ?_
      refine g_aload_n C.1.1 4 dL_law_968 rfl rfl ?_
      refine l_refi (vs := []) C hsz (cR_thrown (g_l X) (G.1, gr) _ _ hw) kL_111 kL_112 kL_113 (kL_R _ kR_41) hdR_thrown ⟨Nat.le_trans (Nat.le_of_ble_eq_true rfl) hR.1, Nat.le_trans (Nat.le_of_ble_eq_true rfl) hR.2.1⟩ ⟨Nat.le_trans hk131.1 hR.2.2.1, Nat.le_trans hk131.2 hR.2.2.2⟩ dL_law_969 rfl (Nat.le_of_ble_eq_true rfl) (fun r136 t137 hw => ?_)
      refine g_iload C.1.1 1 dL_law_972 rfl ?_
      refine g_icmp_eq (tgt := 979) C.1.1 dL_law_974 (by decide) (fun h138 => ?_) (fun h138 => ?_)
      · replace hw := hw.1 h138
        refine g_iload C.1.1 1 dL_law_979 rfl ?_
        refine g_if_ne (tgt := 996) C.1.1 dL_law_981 (by decide) (fun h139 => ?_) (fun h139 => ?_)
        · replace hw := hw.1 h139
          refine gJ.sub [2, 3, 4, 5, 6] rfl ?_
          exact wkW_law_996 hfl C hsz hR hret hK23 _ _ _ _ _ hk131 hw
        · replace hw := hw.2 h139
          refine g_aload_n C.1.1 5 dL_law_984 rfl rfl ?_
          refine g_iconst (v := 0) C.1.1 dL_law_985 (by decide) ?_
          refine l_lld C h_in0 dL_law_986 ?_
          refine g_iload C.1.1 0 dL_law_987 rfl ?_
          refine g_i2l C.1.1 dL_law_989 ?_
          refine g_lcmp C.1.1 dL_law_990 ?_
          refine g_if_eq (tgt := 996) C.1.1 dL_law_991 (by decide) (fun h140 => ?_) (fun h140 => ?_)
          · replace hw := hw.1 h140
            refine gJ.sub [2, 3, 4, 5, 6] rfl ?_
            exact wkW_law_996 hfl C hsz hR hret hK23 _ _ _ _ _ hk131 hw
          · replace hw := hw.2 h140
            refine g_iconst (v := 0) C.1.1 dL_law_994 (by decide) ?_
            refine gJ.widen hw.1 hw.2.1 ?_
            replace hw := hw.2.2
            exact hret _ _ _ _ hw rfl dL_law_995
      · replace hw := hw.2 h138
        refine g_iconst (v := 0) C.1.1 dL_law_977 (by decide) ?_
        refine gJ.widen hw.1 hw.2.1 ?_
        replace hw := hw.2.2
        exact hret _ _ _ _ hw rfl dL_law_978
    · replace hw := hw.2.2.2.2.2.2.2.2.2.2.2.2.2.1 (i32_of h28c)
      refine g_tableIn (tgt := 999) (off := 959) C.1.1 dL_law_40 h28a h28b (by rw [h28c]; rfl) (by decide) ?_
      refine g_aload_n C.1.1 1 dL_law_999 rfl rfl ?_
      refine g_aload_n C.1.1 0 dL_law_1000 rfl rfl ?_
      refine g_iload C.1.1 4 dL_law_1001 rfl ?_
      refine g_iconst (v := 1) C.1.1 dL_law_1003 (by decide) ?_
      refine g_iadd C.1.1 dL_law_1004 ?_
      refine l_sld C hsz hw.1 dL_law_1005 ?_
      replace hw := hw.2
      refine g_aload_n C.1.1 0 dL_law_1006 rfl rfl ?_
      refine g_iload C.1.1 4 dL_law_1007 rfl ?_
      refine g_iconst (v := 2) C.1.1 dL_law_1009 (by decide) ?_
      refine g_iadd C.1.1 dL_law_1010 ?_
      refine l_sld C hsz hw.1 dL_law_1011 ?_
      replace hw := hw.2
      refine g_aload_n C.1.1 3 dL_law_1012 rfl rfl ?_
      have hk143 : k + 1 ≤ mc ∧ n + 6 ≤ ms := ⟨hw.1, hw.2.1⟩
      replace hw := hw.2.2
      refine l_help (vs := [.ref v1, .int (xs (v4 + 1).toNatClampNeg), .int (xs (v4 + 2).toNatClampNeg), .ref oa]) C hsz rfl (cL_look_c (g_l X) hfl G gr.1.2.2.1 oa _ _ _ _ _ hw) kL_165 kL_166 kL_48 kL_107 hdL_look ⟨Nat.le_trans (Nat.le_of_ble_eq_true rfl) hR.1, Nat.le_trans (Nat.le_of_ble_eq_true rfl) hR.2.1⟩ ⟨Nat.le_trans hk143.1 hR.2.2.1, Nat.le_trans hk143.2 hR.2.2.2⟩ dL_law_1013 rfl (Nat.le_of_ble_eq_true rfl) (fun r141 t142 hw => ?_)
      refine g_istore (lv' := [(5, .int r141), (0, .ref sb), (1, .ref v1), (2, .ref (gr.2.1 0)), (3, .ref oa), (4, .int v4)]) C.1.1 dL_law_1016 (by decide) rfl ?_
      refine g_aload_n C.1.1 3 dL_law_1018 rfl rfl ?_
      refine g_aload_n C.1.1 1 dL_law_1019 rfl rfl ?_
      refine g_iload C.1.1 5 dL_law_1020 rfl ?_
      refine g_iconst (v := 1) C.1.1 dL_law_1022 (by decide) ?_
      refine g_iadd C.1.1 dL_law_1023 ?_
      refine l_sld C hsz hw.1 dL_law_1024 ?_
      replace hw := hw.2
      refine g_aload_n C.1.1 1 dL_law_1025 rfl rfl ?_
      refine g_iload C.1.1 5 dL_law_1026 rfl ?_
      refine g_iconst (v := 2) C.1.1 dL_law_1028 (by decide) ?_
      refine g_iadd C.1.1 dL_law_1029 ?_
      refine l_sld C hsz hw.1 dL_law_1030 ?_
      replace hw := hw.2
      refine l_refi (vs := [.int (xs (v4 + 1).toNatClampNeg), .int (xs (v4 + 2).toNatClampNeg)]) C hsz (cR_look (g_l X) (G.1, gr) _ _ _ _ hw) kL_167 kL_168 kL_169 (kL_R _ kR_251) hdR_look ⟨Nat.le_trans (Nat.le_of_ble_eq_true rfl) hR.1, Nat.le_trans (Nat.le_of_ble_eq_true rfl) hR.2.1⟩ ⟨Nat.le_trans hk143.1 hR.2.2.1, Nat.le_trans hk143.2 hR.2.2.2⟩ dL_law_1031 rfl (Nat.le_of_ble_eq_true rfl) (fun r144 t145 hw => ?_)
      refine g_istore (lv' := [(6, .int r144), (5, .int r141), (0, .ref sb), (1, .ref v1), (2, .ref (gr.2.1 0)), (3, .ref oa), (4, .int v4)]) C.1.1 dL_law_1034 (by decide) rfl ?_
      refine g_aload_n C.1.1 4 dL_law_1036 rfl rfl ?_
      refine l_refi (vs := []) C hsz (cR_thrown (g_l X) (G.1, gr) _ _ hw) kL_111 kL_112 kL_113 (kL_R _ kR_41) hdR_thrown ⟨Nat.le_trans (Nat.le_of_ble_eq_true rfl) hR.1, Nat.le_trans (Nat.le_of_ble_eq_true rfl) hR.2.1⟩ ⟨Nat.le_trans hk143.1 hR.2.2.1, Nat.le_trans hk143.2 hR.2.2.2⟩ dL_law_1037 rfl (Nat.le_of_ble_eq_true rfl) (fun r146 t147 hw => ?_)
      refine g_iload C.1.1 1 dL_law_1040 rfl ?_
      refine g_icmp_eq (tgt := 1047) C.1.1 dL_law_1042 (by decide) (fun h148 => ?_) (fun h148 => ?_)
      · replace hw := hw.1 h148
        refine g_iload C.1.1 1 dL_law_1047 rfl ?_
        refine g_if_ne (tgt := 1064) C.1.1 dL_law_1049 (by decide) (fun h149 => ?_) (fun h149 => ?_)
        · replace hw := hw.1 h149
          refine gJ.sub [2, 3, 4, 5, 6] rfl ?_
          exact wkW_law_1064 hfl C hsz hR hret hK23 _ _ _ _ _ hk143 hw
        · replace hw := hw.2 h149
          refine g_aload_n C.1.1 5 dL_law_1052 rfl rfl ?_
          refine g_iconst (v := 0) C.1.1 dL_law_1053 (by decide) ?_
          refine l_lld C h_in0 dL_law_1054 ?_
          refine g_iload C.1.1 0 dL_law_1055 rfl ?_
          refine g_i2l C.1.1 dL_law_1057 ?_
          refine g_lcmp C.1.1 dL_law_1058 ?_
          refine g_if_eq (tgt := 1064) C.1.1 dL_law_1059 (by decide) (fun h150 => ?_) (fun h150 => ?_)
          · replace hw := hw.1 h150
            refine gJ.sub [2, 3, 4, 5, 6] rfl ?_
            exact wkW_law_1064 hfl C hsz hR hret hK23 _ _ _ _ _ hk143 hw
          · replace hw := hw.2 h150
            refine g_iconst (v := 0) C.1.1 dL_law_1062 (by decide) ?_
            refine gJ.widen hw.1 hw.2.1 ?_
            replace hw := hw.2.2
            exact hret _ _ _ _ hw rfl dL_law_1063
      · replace hw := hw.2 h148
        refine g_iconst (v := 0) C.1.1 dL_law_1045 (by decide) ?_
        refine gJ.widen hw.1 hw.2.1 ?_
        replace hw := hw.2.2
        exact hret _ _ _ _ hw rfl dL_law_1046
    · replace hw := hw.2.2.2.2.2.2.2.2.2.2.2.2.2.2.1 (i32_of h28c)
      refine g_tableIn (tgt := 1067) (off := 1027) C.1.1 dL_law_40 h28a h28b (by rw [h28c]; rfl) (by decide) ?_
      refine g_aload_n C.1.1 1 dL_law_1067 rfl rfl ?_
      refine g_aload_n C.1.1 0 dL_law_1068 rfl rfl ?_
      refine g_iload C.1.1 4 dL_law_1069 rfl ?_
      refine g_iconst (v := 1) C.1.1 dL_law_1071 (by decide) ?_
      refine g_iadd C.1.1 dL_law_1072 ?_
      refine l_sld C hsz hw.1 dL_law_1073 ?_
      replace hw := hw.2
      refine g_aload_n C.1.1 0 dL_law_1074 rfl rfl ?_
      refine g_iload C.1.1 4 dL_law_1075 rfl ?_
      refine g_iconst (v := 2) C.1.1 dL_law_1077 (by decide) ?_
      refine g_iadd C.1.1 dL_law_1078 ?_
      refine l_sld C hsz hw.1 dL_law_1079 ?_
      replace hw := hw.2
      refine g_aload_n C.1.1 3 dL_law_1080 rfl rfl ?_
      have hk153 : k + 1 ≤ mc ∧ n + 6 ≤ ms := ⟨hw.1, hw.2.1⟩
      replace hw := hw.2.2
      refine l_help (vs := [.ref v1, .int (xs (v4 + 1).toNatClampNeg), .int (xs (v4 + 2).toNatClampNeg), .ref oa]) C hsz rfl (cL_row_c (g_l X) hfl G gr.1.2.2.1 oa _ _ _ _ _ hw) kL_170 kL_171 kL_52 kL_107 hdL_row ⟨Nat.le_trans (Nat.le_of_ble_eq_true rfl) hR.1, Nat.le_trans (Nat.le_of_ble_eq_true rfl) hR.2.1⟩ ⟨Nat.le_trans hk153.1 hR.2.2.1, Nat.le_trans hk153.2 hR.2.2.2⟩ dL_law_1081 rfl (Nat.le_of_ble_eq_true rfl) (fun r151 t152 hw => ?_)
      refine g_istore (lv' := [(5, .int r151), (0, .ref sb), (1, .ref v1), (2, .ref (gr.2.1 0)), (3, .ref oa), (4, .int v4)]) C.1.1 dL_law_1084 (by decide) rfl ?_
      refine g_aload_n C.1.1 3 dL_law_1086 rfl rfl ?_
      refine g_aload_n C.1.1 1 dL_law_1087 rfl rfl ?_
      refine g_iload C.1.1 5 dL_law_1088 rfl ?_
      refine g_iconst (v := 1) C.1.1 dL_law_1090 (by decide) ?_
      refine g_iadd C.1.1 dL_law_1091 ?_
      refine l_sld C hsz hw.1 dL_law_1092 ?_
      replace hw := hw.2
      refine g_aload_n C.1.1 1 dL_law_1093 rfl rfl ?_
      refine g_iload C.1.1 5 dL_law_1094 rfl ?_
      refine g_iconst (v := 2) C.1.1 dL_law_1096 (by decide) ?_
      refine g_iadd C.1.1 dL_law_1097 ?_
      refine l_sld C hsz hw.1 dL_law_1098 ?_
      replace hw := hw.2
      refine l_refi (vs := [.int (xs (v4 + 1).toNatClampNeg), .int (xs (v4 + 2).toNatClampNeg)]) C hsz (cR_row (g_l X) (G.1, gr) _ _ _ _ hw) kL_172 kL_173 kL_174 (kL_R _ kR_252) hdR_row ⟨Nat.le_trans (Nat.le_of_ble_eq_true rfl) hR.1, Nat.le_trans (Nat.le_of_ble_eq_true rfl) hR.2.1⟩ ⟨Nat.le_trans hk153.1 hR.2.2.1, Nat.le_trans hk153.2 hR.2.2.2⟩ dL_law_1099 rfl (Nat.le_of_ble_eq_true rfl) (fun r154 t155 hw => ?_)
      refine g_istore (lv' := [(6, .int r154), (5, .int r151), (0, .ref sb), (1, .ref v1), (2, .ref (gr.2.1 0)), (3, .ref oa), (4, .int v4)]) C.1.1 dL_law_1102 (by decide) rfl ?_
      refine g_aload_n C.1.1 4 dL_law_1104 rfl rfl ?_
      refine l_refi (vs := []) C hsz (cR_thrown (g_l X) (G.1, gr) _ _ hw) kL_111 kL_112 kL_113 (kL_R _ kR_41) hdR_thrown ⟨Nat.le_trans (Nat.le_of_ble_eq_true rfl) hR.1, Nat.le_trans (Nat.le_of_ble_eq_true rfl) hR.2.1⟩ ⟨Nat.le_trans hk153.1 hR.2.2.1, Nat.le_trans hk153.2 hR.2.2.2⟩ dL_law_1105 rfl (Nat.le_of_ble_eq_true rfl) (fun r156 t157 hw => ?_)
      refine g_iload C.1.1 1 dL_law_1108 rfl ?_
      refine g_icmp_eq (tgt := 1115) C.1.1 dL_law_1110 (by decide) (fun h158 => ?_) (fun h158 => ?_)
      · replace hw := hw.1 h158
        refine g_iload C.1.1 1 dL_law_1115 rfl ?_
        refine g_if_ne (tgt := 1132) C.1.1 dL_law_1117 (by decide) (fun h159 => ?_) (fun h159 => ?_)
        · replace hw := hw.1 h159
          refine gJ.sub [2, 3, 4, 5, 6] rfl ?_
          exact wkW_law_1132 hfl C hsz hR hret hK23 _ _ _ _ _ hk153 hw
        · replace hw := hw.2 h159
          refine g_aload_n C.1.1 5 dL_law_1120 rfl rfl ?_
          refine g_iconst (v := 0) C.1.1 dL_law_1121 (by decide) ?_
          refine l_lld C h_in0 dL_law_1122 ?_
          refine g_iload C.1.1 0 dL_law_1123 rfl ?_
          refine g_i2l C.1.1 dL_law_1125 ?_
          refine g_lcmp C.1.1 dL_law_1126 ?_
          refine g_if_eq (tgt := 1132) C.1.1 dL_law_1127 (by decide) (fun h160 => ?_) (fun h160 => ?_)
          · replace hw := hw.1 h160
            refine gJ.sub [2, 3, 4, 5, 6] rfl ?_
            exact wkW_law_1132 hfl C hsz hR hret hK23 _ _ _ _ _ hk153 hw
          · replace hw := hw.2 h160
            refine g_iconst (v := 0) C.1.1 dL_law_1130 (by decide) ?_
            refine gJ.widen hw.1 hw.2.1 ?_
            replace hw := hw.2.2
            exact hret _ _ _ _ hw rfl dL_law_1131
      · replace hw := hw.2 h158
        refine g_iconst (v := 0) C.1.1 dL_law_1113 (by decide) ?_
        refine gJ.widen hw.1 hw.2.1 ?_
        replace hw := hw.2.2
        exact hret _ _ _ _ hw rfl dL_law_1114
    · replace hw := hw.2.2.2.2.2.2.2.2.2.2.2.2.2.2.2.1 (i32_of h28c)
      refine g_tableIn (tgt := 1135) (off := 1095) C.1.1 dL_law_40 h28a h28b (by rw [h28c]; rfl) (by decide) ?_
      refine g_aload_n C.1.1 1 dL_law_1135 rfl rfl ?_
      refine g_aload_n C.1.1 0 dL_law_1136 rfl rfl ?_
      refine g_iload C.1.1 4 dL_law_1137 rfl ?_
      refine g_iconst (v := 1) C.1.1 dL_law_1139 (by decide) ?_
      refine g_iadd C.1.1 dL_law_1140 ?_
      refine l_sld C hsz hw.1 dL_law_1141 ?_
      replace hw := hw.2
      refine e_callVi (vs := [.int (xs (v4 + 1).toNatClampNeg)]) C.1 hsz (cC_X7_people (g_l X) G _ _ _ _ hw.2) kL_175 kL_176 kL_177 (kL_C _ kC_594) hdC_X7_people hw.1 ⟨Nat.le_trans (Nat.le_of_ble_eq_true rfl) hR.1, Nat.le_trans (Nat.le_of_ble_eq_true rfl) hR.2.1⟩ ⟨Nat.le_trans hk.1 hR.2.2.1, Nat.le_trans hk.2 hR.2.2.2⟩ dL_law_1142 rfl (Nat.le_of_ble_eq_true rfl) (fun r161 t162 hw => ?_)
      refine g_aload_n C.1.1 2 dL_law_1145 rfl rfl ?_
      refine g_aload_n C.1.1 0 dL_law_1146 rfl rfl ?_
      refine g_iload C.1.1 4 dL_law_1147 rfl ?_
      refine g_iconst (v := 1) C.1.1 dL_law_1149 (by decide) ?_
      refine g_iadd C.1.1 dL_law_1150 ?_
      refine l_sld C hsz hw.1 dL_law_1151 ?_
      replace hw := hw.2
      refine l_refi (vs := [.int (xs (v4 + 1).toNatClampNeg)]) C hsz (cR_people (g_l X) (G.1, gr) _ _ _ hw) kL_178 kL_179 kL_180 (kL_R _ kR_253) hdR_people ⟨Nat.le_trans (Nat.le_of_ble_eq_true rfl) hR.1, Nat.le_trans (Nat.le_of_ble_eq_true rfl) hR.2.1⟩ ⟨Nat.le_trans hk.1 hR.2.2.1, Nat.le_trans hk.2 hR.2.2.2⟩ dL_law_1152 rfl (Nat.le_of_ble_eq_true rfl) (fun r163 t164 hw => ?_)
      refine g_icmp_eq (tgt := 1707) C.1.1 dL_law_1155 (by decide) (fun h165 => ?_) (fun h165 => ?_)
      · replace hw := hw.1 h165
        exact wkW_law_1707 hfl C hsz hR hret hK23 _ _ _ _ _ hk hw
      · replace hw := hw.2 h165
        refine g_iconst (v := 0) C.1.1 dL_law_1158 (by decide) ?_
        refine gJ.widen hw.1 hw.2.1 ?_
        replace hw := hw.2.2
        exact hret _ _ _ _ hw rfl dL_law_1159
    · replace hw := hw.2.2.2.2.2.2.2.2.2.2.2.2.2.2.2.2.1 (i32_of h28c)
      refine g_tableIn (tgt := 1160) (off := 1120) C.1.1 dL_law_40 h28a h28b (by rw [h28c]; rfl) (by decide) ?_
      refine g_aload_n C.1.1 1 dL_law_1160 rfl rfl ?_
      refine g_aload_n C.1.1 0 dL_law_1161 rfl rfl ?_
      refine g_iload C.1.1 4 dL_law_1162 rfl ?_
      refine g_iconst (v := 1) C.1.1 dL_law_1164 (by decide) ?_
      refine g_iadd C.1.1 dL_law_1165 ?_
      refine l_sld C hsz hw.1 dL_law_1166 ?_
      replace hw := hw.2
      refine g_aload_n C.1.1 0 dL_law_1167 rfl rfl ?_
      refine g_iload C.1.1 4 dL_law_1168 rfl ?_
      refine g_iconst (v := 2) C.1.1 dL_law_1170 (by decide) ?_
      refine g_iadd C.1.1 dL_law_1171 ?_
      refine l_sld C hsz hw.1 dL_law_1172 ?_
      replace hw := hw.2
      refine g_if_eq (tgt := 1180) C.1.1 dL_law_1173 (by decide) (fun h166 => ?_) (fun h166 => ?_)
      · replace hw := hw.1 h166
        refine g_iconst (v := 0) C.1.1 dL_law_1180 (by decide) ?_
        exact wkW_law_1181 hfl C hsz hR hret hK23 _ _ _ _ _ _ _ _ hk hw
      · replace hw := hw.2 h166
        refine g_iconst (v := 1) C.1.1 dL_law_1176 (by decide) ?_
        refine g_goto (tgt := 1181) C.1.1 dL_law_1177 (by decide) ?_
        exact wkW_law_1181 hfl C hsz hR hret hK23 _ _ _ _ _ _ _ _ hk hw
    · replace hw := hw.2.2.2.2.2.2.2.2.2.2.2.2.2.2.2.2.2.1 (i32_of h28c)
      refine g_tableIn (tgt := 1256) (off := 1216) C.1.1 dL_law_40 h28a h28b (by rw [h28c]; rfl) (by decide) ?_
      refine g_aload_n C.1.1 1 dL_law_1256 rfl rfl ?_
      refine g_aload_n C.1.1 0 dL_law_1257 rfl rfl ?_
      refine g_iload C.1.1 4 dL_law_1258 rfl ?_
      refine g_iconst (v := 1) C.1.1 dL_law_1260 (by decide) ?_
      refine g_iadd C.1.1 dL_law_1261 ?_
      refine l_sld C hsz hw.1 dL_law_1262 ?_
      replace hw := hw.2
      refine g_aload_n C.1.1 0 dL_law_1263 rfl rfl ?_
      refine g_iload C.1.1 4 dL_law_1264 rfl ?_
      refine g_iconst (v := 2) C.1.1 dL_law_1266 (by decide) ?_
      refine g_iadd C.1.1 dL_law_1267 ?_
      refine l_sld C hsz hw.1 dL_law_1268 ?_
      replace hw := hw.2
      refine g_aload_n C.1.1 3 dL_law_1269 rfl rfl ?_
      have hk169 : k + 2 ≤ mc ∧ n + 12 ≤ ms := ⟨hw.1, hw.2.1⟩
      replace hw := hw.2.2
      refine l_help (vs := [.ref v1, .int (xs (v4 + 1).toNatClampNeg), .int (xs (v4 + 2).toNatClampNeg), .ref oa]) C hsz rfl (cL_melt_c (g_l X) hfl G gr.1.2.2.1 oa _ _ _ _ _ hw) kL_186 kL_187 kL_60 kL_107 hdL_melt ⟨Nat.le_trans (Nat.le_of_ble_eq_true rfl) hR.1, Nat.le_trans (Nat.le_of_ble_eq_true rfl) hR.2.1⟩ ⟨Nat.le_trans hk169.1 hR.2.2.1, Nat.le_trans hk169.2 hR.2.2.2⟩ dL_law_1270 rfl (Nat.le_of_ble_eq_true rfl) (fun r167 t168 hw => ?_)
      refine g_istore (lv' := [(5, .int r167), (0, .ref sb), (1, .ref v1), (2, .ref (gr.2.1 0)), (3, .ref oa), (4, .int v4)]) C.1.1 dL_law_1273 (by decide) rfl ?_
      refine g_aload_n C.1.1 3 dL_law_1275 rfl rfl ?_
      refine g_aload_n C.1.1 1 dL_law_1276 rfl rfl ?_
      refine g_iload C.1.1 5 dL_law_1277 rfl ?_
      refine g_iconst (v := 1) C.1.1 dL_law_1279 (by decide) ?_
      refine g_iadd C.1.1 dL_law_1280 ?_
      refine l_sld C hsz hw.1 dL_law_1281 ?_
      replace hw := hw.2
      refine g_aload_n C.1.1 1 dL_law_1282 rfl rfl ?_
      refine g_iload C.1.1 5 dL_law_1283 rfl ?_
      refine g_iconst (v := 2) C.1.1 dL_law_1285 (by decide) ?_
      refine g_iadd C.1.1 dL_law_1286 ?_
      refine l_sld C hsz hw.1 dL_law_1287 ?_
      replace hw := hw.2
      refine l_refi (vs := [.int (xs (v4 + 1).toNatClampNeg), .int (xs (v4 + 2).toNatClampNeg)]) C hsz (cR_melt (g_l X) (G.1, gr) _ _ _ _ hw) kL_188 kL_189 kL_190 (kL_R _ kR_260) hdR_melt ⟨Nat.le_trans (Nat.le_of_ble_eq_true rfl) hR.1, Nat.le_trans (Nat.le_of_ble_eq_true rfl) hR.2.1⟩ ⟨Nat.le_trans hk169.1 hR.2.2.1, Nat.le_trans hk169.2 hR.2.2.2⟩ dL_law_1288 rfl (Nat.le_of_ble_eq_true rfl) (fun r170 t171 hw => ?_)
      refine g_istore (lv' := [(6, .int r170), (5, .int r167), (0, .ref sb), (1, .ref v1), (2, .ref (gr.2.1 0)), (3, .ref oa), (4, .int v4)]) C.1.1 dL_law_1291 (by decide) rfl ?_
      refine g_aload_n C.1.1 4 dL_law_1293 rfl rfl ?_
      refine l_refi (vs := []) C hsz (cR_thrown (g_l X) (G.1, gr) _ _ hw) kL_111 kL_112 kL_113 (kL_R _ kR_41) hdR_thrown ⟨Nat.le_trans (Nat.le_of_ble_eq_true rfl) hR.1, Nat.le_trans (Nat.le_of_ble_eq_true rfl) hR.2.1⟩ ⟨Nat.le_trans hk169.1 hR.2.2.1, Nat.le_trans hk169.2 hR.2.2.2⟩ dL_law_1294 rfl (Nat.le_of_ble_eq_true rfl) (fun r172 t173 hw => ?_)
      refine g_iload C.1.1 1 dL_law_1297 rfl ?_
      refine g_icmp_eq (tgt := 1304) C.1.1 dL_law_1299 (by decide) (fun h174 => ?_) (fun h174 => ?_)
      · replace hw := hw.1 h174
        refine g_iload C.1.1 1 dL_law_1304 rfl ?_
        refine g_if_ne (tgt := 1321) C.1.1 dL_law_1306 (by decide) (fun h175 => ?_) (fun h175 => ?_)
        · replace hw := hw.1 h175
          refine gJ.sub [2, 3, 4, 5, 6] rfl ?_
          exact wkW_law_1321 hfl C hsz hR hret hK23 _ _ _ _ _ hk169 hw
        · replace hw := hw.2 h175
          refine g_aload_n C.1.1 5 dL_law_1309 rfl rfl ?_
          refine g_iconst (v := 0) C.1.1 dL_law_1310 (by decide) ?_
          refine l_lld C h_in0 dL_law_1311 ?_
          refine g_iload C.1.1 0 dL_law_1312 rfl ?_
          refine g_i2l C.1.1 dL_law_1314 ?_
          refine g_lcmp C.1.1 dL_law_1315 ?_
          refine g_if_eq (tgt := 1321) C.1.1 dL_law_1316 (by decide) (fun h176 => ?_) (fun h176 => ?_)
          · replace hw := hw.1 h176
            refine gJ.sub [2, 3, 4, 5, 6] rfl ?_
            exact wkW_law_1321 hfl C hsz hR hret hK23 _ _ _ _ _ hk169 hw
          · replace hw := hw.2 h176
            refine g_iconst (v := 0) C.1.1 dL_law_1319 (by decide) ?_
            refine gJ.widen hw.1 hw.2.1 ?_
            replace hw := hw.2.2
            exact hret _ _ _ _ hw rfl dL_law_1320
      · replace hw := hw.2 h174
        refine g_iconst (v := 0) C.1.1 dL_law_1302 (by decide) ?_
        refine gJ.widen hw.1 hw.2.1 ?_
        replace hw := hw.2.2
        exact hret _ _ _ _ hw rfl dL_law_1303
    · replace hw := hw.2.2.2.2.2.2.2.2.2.2.2.2.2.2.2.2.2.2.1 (i32_of h28c)
      refine g_tableIn (tgt := 1324) (off := 1284) C.1.1 dL_law_40 h28a h28b (by rw [h28c]; rfl) (by decide) ?_
      refine g_aload_n C.1.1 1 dL_law_1324 rfl rfl ?_
      refine g_aload_n C.1.1 0 dL_law_1325 rfl rfl ?_
      refine g_iload C.1.1 4 dL_law_1326 rfl ?_
      refine g_iconst (v := 1) C.1.1 dL_law_1328 (by decide) ?_
      refine g_iadd C.1.1 dL_law_1329 ?_
      refine l_sld C hsz hw.1 dL_law_1330 ?_
      replace hw := hw.2
      refine g_aload_n C.1.1 3 dL_law_1331 rfl rfl ?_
      have hk179 : k + 1 ≤ mc ∧ n + 6 ≤ ms := ⟨hw.1, hw.2.1⟩
      replace hw := hw.2.2
      refine l_help (vs := [.ref v1, .int (xs (v4 + 1).toNatClampNeg), .ref oa]) C hsz rfl (cL_push_c (g_l X) hfl G gr.1.2.2.1 oa _ _ _ _ hw) kL_191 kL_192 kL_64 kL_107 hdL_push ⟨Nat.le_trans (Nat.le_of_ble_eq_true rfl) hR.1, Nat.le_trans (Nat.le_of_ble_eq_true rfl) hR.2.1⟩ ⟨Nat.le_trans hk179.1 hR.2.2.1, Nat.le_trans hk179.2 hR.2.2.2⟩ dL_law_1332 rfl (Nat.le_of_ble_eq_true rfl) (fun r177 t178 hw => ?_)
      refine g_istore (lv' := [(5, .int r177), (0, .ref sb), (1, .ref v1), (2, .ref (gr.2.1 0)), (3, .ref oa), (4, .int v4)]) C.1.1 dL_law_1335 (by decide) rfl ?_
      refine g_aload_n C.1.1 3 dL_law_1337 rfl rfl ?_
      refine g_aload_n C.1.1 1 dL_law_1338 rfl rfl ?_
      refine g_iload C.1.1 5 dL_law_1339 rfl ?_
      refine g_iconst (v := 1) C.1.1 dL_law_1341 (by decide) ?_
      refine g_iadd C.1.1 dL_law_1342 ?_
      refine l_sld C hsz hw.1 dL_law_1343 ?_
      replace hw := hw.2
      refine l_refi (vs := [.int (xs (v4 + 1).toNatClampNeg)]) C hsz (cR_push (g_l X) (G.1, gr) _ _ _ hw) kL_193 kL_194 kL_195 (kL_R _ kR_261) hdR_push ⟨Nat.le_trans (Nat.le_of_ble_eq_true rfl) hR.1, Nat.le_trans (Nat.le_of_ble_eq_true rfl) hR.2.1⟩ ⟨Nat.le_trans hk179.1 hR.2.2.1, Nat.le_trans hk179.2 hR.2.2.2⟩ dL_law_1344 rfl (Nat.le_of_ble_eq_true rfl) (fun r180 t181 hw => ?_)
      refine g_istore (lv' := [(6, .int r180), (5, .int r177), (0, .ref sb), (1, .ref v1), (2, .ref (gr.2.1 0)), (3, .ref oa), (4, .int v4)]) C.1.1 dL_law_1347 (by decide) rfl ?_
      refine g_aload_n C.1.1 4 dL_law_1349 rfl rfl ?_
      refine l_refi (vs := []) C hsz (cR_thrown (g_l X) (G.1, gr) _ _ hw) kL_111 kL_112 kL_113 (kL_R _ kR_41) hdR_thrown ⟨Nat.le_trans (Nat.le_of_ble_eq_true rfl) hR.1, Nat.le_trans (Nat.le_of_ble_eq_true rfl) hR.2.1⟩ ⟨Nat.le_trans hk179.1 hR.2.2.1, Nat.le_trans hk179.2 hR.2.2.2⟩ dL_law_1350 rfl (Nat.le_of_ble_eq_true rfl) (fun r182 t183 hw => ?_)
      refine g_iload C.1.1 1 dL_law_1353 rfl ?_
      refine g_icmp_eq (tgt := 1360) C.1.1 dL_law_1355 (by decide) (fun h184 => ?_) (fun h184 => ?_)
      · replace hw := hw.1 h184
        refine g_iload C.1.1 1 dL_law_1360 rfl ?_
        refine g_if_ne (tgt := 1377) C.1.1 dL_law_1362 (by decide) (fun h185 => ?_) (fun h185 => ?_)
        · replace hw := hw.1 h185
          refine gJ.sub [2, 3, 4, 5, 6] rfl ?_
          exact wkW_law_1377 hfl C hsz hR hret hK23 _ _ _ _ _ hk179 hw
        · replace hw := hw.2 h185
          refine g_aload_n C.1.1 5 dL_law_1365 rfl rfl ?_
          refine g_iconst (v := 0) C.1.1 dL_law_1366 (by decide) ?_
          refine l_lld C h_in0 dL_law_1367 ?_
          refine g_iload C.1.1 0 dL_law_1368 rfl ?_
          refine g_i2l C.1.1 dL_law_1370 ?_
          refine g_lcmp C.1.1 dL_law_1371 ?_
          refine g_if_eq (tgt := 1377) C.1.1 dL_law_1372 (by decide) (fun h186 => ?_) (fun h186 => ?_)
          · replace hw := hw.1 h186
            refine gJ.sub [2, 3, 4, 5, 6] rfl ?_
            exact wkW_law_1377 hfl C hsz hR hret hK23 _ _ _ _ _ hk179 hw
          · replace hw := hw.2 h186
            refine g_iconst (v := 0) C.1.1 dL_law_1375 (by decide) ?_
            refine gJ.widen hw.1 hw.2.1 ?_
            replace hw := hw.2.2
            exact hret _ _ _ _ hw rfl dL_law_1376
      · replace hw := hw.2 h184
        refine g_iconst (v := 0) C.1.1 dL_law_1358 (by decide) ?_
        refine gJ.widen hw.1 hw.2.1 ?_
        replace hw := hw.2.2
        exact hret _ _ _ _ hw rfl dL_law_1359
    · replace hw := hw.2.2.2.2.2.2.2.2.2.2.2.2.2.2.2.2.2.2.2.1 (i32_of h28c)
      refine g_tableIn (tgt := 1380) (off := 1340) C.1.1 dL_law_40 h28a h28b (by rw [h28c]; rfl) (by decide) ?_
      refine g_aload_n C.1.1 1 dL_law_1380 rfl rfl ?_
      refine g_aload_n C.1.1 0 dL_law_1381 rfl rfl ?_
      refine g_iload C.1.1 4 dL_law_1382 rfl ?_
      refine g_iconst (v := 1) C.1.1 dL_law_1384 (by decide) ?_
      refine g_iadd C.1.1 dL_law_1385 ?_
      refine l_sld C hsz hw.1 dL_law_1386 ?_
      replace hw := hw.2
      refine g_aload_n C.1.1 0 dL_law_1387 rfl rfl ?_
      refine g_iload C.1.1 4 dL_law_1388 rfl ?_
      refine g_iconst (v := 2) C.1.1 dL_law_1390 (by decide) ?_
      refine g_iadd C.1.1 dL_law_1391 ?_
      refine l_sld C hsz hw.1 dL_law_1392 ?_
      replace hw := hw.2
      refine g_aload_n C.1.1 3 dL_law_1393 rfl rfl ?_
      have hk189 : k + 2 ≤ mc ∧ n + 12 ≤ ms := ⟨hw.1, hw.2.1⟩
      replace hw := hw.2.2
      refine l_help (vs := [.ref v1, .int (xs (v4 + 1).toNatClampNeg), .int (xs (v4 + 2).toNatClampNeg), .ref oa]) C hsz rfl (cL_cell_c (g_l X) hfl G gr.1.2.2.1 oa _ _ _ _ _ hw) kL_196 kL_197 kL_68 kL_107 hdL_cell ⟨Nat.le_trans (Nat.le_of_ble_eq_true rfl) hR.1, Nat.le_trans (Nat.le_of_ble_eq_true rfl) hR.2.1⟩ ⟨Nat.le_trans hk189.1 hR.2.2.1, Nat.le_trans hk189.2 hR.2.2.2⟩ dL_law_1394 rfl (Nat.le_of_ble_eq_true rfl) (fun r187 t188 hw => ?_)
      refine g_istore (lv' := [(5, .int r187), (0, .ref sb), (1, .ref v1), (2, .ref (gr.2.1 0)), (3, .ref oa), (4, .int v4)]) C.1.1 dL_law_1397 (by decide) rfl ?_
      refine g_aload_n C.1.1 3 dL_law_1399 rfl rfl ?_
      refine g_aload_n C.1.1 1 dL_law_1400 rfl rfl ?_
      refine g_iload C.1.1 5 dL_law_1401 rfl ?_
      refine g_iconst (v := 1) C.1.1 dL_law_1403 (by decide) ?_
      refine g_iadd C.1.1 dL_law_1404 ?_
      refine l_sld C hsz hw.1 dL_law_1405 ?_
      replace hw := hw.2
      refine g_aload_n C.1.1 1 dL_law_1406 rfl rfl ?_
      refine g_iload C.1.1 5 dL_law_1407 rfl ?_
      refine g_iconst (v := 2) C.1.1 dL_law_1409 (by decide) ?_
      refine g_iadd C.1.1 dL_law_1410 ?_
      refine l_sld C hsz hw.1 dL_law_1411 ?_
      replace hw := hw.2
      refine l_refi (vs := [.int (xs (v4 + 1).toNatClampNeg), .int (xs (v4 + 2).toNatClampNeg)]) C hsz (cR_cell (g_l X) (G.1, gr) _ _ _ _ hw) kL_198 kL_199 kL_200 (kL_R _ kR_262) hdR_cell ⟨Nat.le_trans (Nat.le_of_ble_eq_true rfl) hR.1, Nat.le_trans (Nat.le_of_ble_eq_true rfl) hR.2.1⟩ ⟨Nat.le_trans hk189.1 hR.2.2.1, Nat.le_trans hk189.2 hR.2.2.2⟩ dL_law_1412 rfl (Nat.le_of_ble_eq_true rfl) (fun r190 t191 hw => ?_)
      refine g_istore (lv' := [(6, .int r190), (5, .int r187), (0, .ref sb), (1, .ref v1), (2, .ref (gr.2.1 0)), (3, .ref oa), (4, .int v4)]) C.1.1 dL_law_1415 (by decide) rfl ?_
      refine g_aload_n C.1.1 4 dL_law_1417 rfl rfl ?_
      refine l_refi (vs := []) C hsz (cR_thrown (g_l X) (G.1, gr) _ _ hw) kL_111 kL_112 kL_113 (kL_R _ kR_41) hdR_thrown ⟨Nat.le_trans (Nat.le_of_ble_eq_true rfl) hR.1, Nat.le_trans (Nat.le_of_ble_eq_true rfl) hR.2.1⟩ ⟨Nat.le_trans hk189.1 hR.2.2.1, Nat.le_trans hk189.2 hR.2.2.2⟩ dL_law_1418 rfl (Nat.le_of_ble_eq_true rfl) (fun r192 t193 hw => ?_)
      refine g_iload C.1.1 1 dL_law_1421 rfl ?_
      refine g_icmp_eq (tgt := 1428) C.1.1 dL_law_1423 (by decide) (fun h194 => ?_) (fun h194 => ?_)
      · replace hw := hw.1 h194
        refine g_iload C.1.1 1 dL_law_1428 rfl ?_
        refine g_if_ne (tgt := 1445) C.1.1 dL_law_1430 (by decide) (fun h195 => ?_) (fun h195 => ?_)
        · replace hw := hw.1 h195
          refine gJ.sub [2, 3, 4, 5, 6] rfl ?_
          exact wkW_law_1445 hfl C hsz hR hret hK23 _ _ _ _ _ hk189 hw
        · replace hw := hw.2 h195
          refine g_aload_n C.1.1 5 dL_law_1433 rfl rfl ?_
          refine g_iconst (v := 0) C.1.1 dL_law_1434 (by decide) ?_
          refine l_lld C h_in0 dL_law_1435 ?_
          refine g_iload C.1.1 0 dL_law_1436 rfl ?_
          refine g_i2l C.1.1 dL_law_1438 ?_
          refine g_lcmp C.1.1 dL_law_1439 ?_
          refine g_if_eq (tgt := 1445) C.1.1 dL_law_1440 (by decide) (fun h196 => ?_) (fun h196 => ?_)
          · replace hw := hw.1 h196
            refine gJ.sub [2, 3, 4, 5, 6] rfl ?_
            exact wkW_law_1445 hfl C hsz hR hret hK23 _ _ _ _ _ hk189 hw
          · replace hw := hw.2 h196
            refine g_iconst (v := 0) C.1.1 dL_law_1443 (by decide) ?_
            refine gJ.widen hw.1 hw.2.1 ?_
            replace hw := hw.2.2
            exact hret _ _ _ _ hw rfl dL_law_1444
      · replace hw := hw.2 h194
        refine g_iconst (v := 0) C.1.1 dL_law_1426 (by decide) ?_
        refine gJ.widen hw.1 hw.2.1 ?_
        replace hw := hw.2.2
        exact hret _ _ _ _ hw rfl dL_law_1427
    · replace hw := hw.2.2.2.2.2.2.2.2.2.2.2.2.2.2.2.2.2.2.2.2.1 (i32_of h28c)
      refine g_tableIn (tgt := 1448) (off := 1408) C.1.1 dL_law_40 h28a h28b (by rw [h28c]; rfl) (by decide) ?_
      refine g_aload_n C.1.1 1 dL_law_1448 rfl rfl ?_
      refine g_aload_n C.1.1 0 dL_law_1449 rfl rfl ?_
      refine g_iload C.1.1 4 dL_law_1450 rfl ?_
      refine g_iconst (v := 1) C.1.1 dL_law_1452 (by decide) ?_
      refine g_iadd C.1.1 dL_law_1453 ?_
      refine l_sld C hsz hw.1 dL_law_1454 ?_
      replace hw := hw.2
      refine g_aload_n C.1.1 0 dL_law_1455 rfl rfl ?_
      refine g_iload C.1.1 4 dL_law_1456 rfl ?_
      refine g_iconst (v := 2) C.1.1 dL_law_1458 (by decide) ?_
      refine g_iadd C.1.1 dL_law_1459 ?_
      refine l_sld C hsz hw.1 dL_law_1460 ?_
      replace hw := hw.2
      refine g_aload_n C.1.1 0 dL_law_1461 rfl rfl ?_
      refine g_iload C.1.1 4 dL_law_1462 rfl ?_
      refine g_iconst (v := 3) C.1.1 dL_law_1464 (by decide) ?_
      refine g_iadd C.1.1 dL_law_1465 ?_
      refine l_sld C hsz hw.1 dL_law_1466 ?_
      replace hw := hw.2
      refine g_aload_n C.1.1 3 dL_law_1467 rfl rfl ?_
      obtain ⟨m200, m201, gm200, gm201, hm200, hm201, hw⟩ := hw
      have hk199 : k + m200 ≤ mc ∧ n + m201 ≤ ms := ⟨gm200, gm201⟩
      refine l_help (vs := [.ref v1, .int (xs (v4 + 1).toNatClampNeg), .int (xs (v4 + 2).toNatClampNeg), .int (xs (v4 + 3).toNatClampNeg), .ref oa]) C hsz rfl (cL_link_c m200 m201 (g_l X) hfl G gr.1.2.2.1 oa _ _ _ _ _ _ ⟨hm200, hm201⟩ hw) kL_201 kL_202 kL_72 kL_107 hdL_link ⟨Nat.le_trans (Nat.le_of_ble_eq_true rfl) hR.1, Nat.le_trans (Nat.le_of_ble_eq_true rfl) hR.2.1⟩ ⟨Nat.le_trans hk199.1 hR.2.2.1, Nat.le_trans hk199.2 hR.2.2.2⟩ dL_law_1468 rfl (Nat.le_of_ble_eq_true rfl) (fun r197 t198 hw => ?_)
      refine g_istore (lv' := [(5, .int r197), (0, .ref sb), (1, .ref v1), (2, .ref (gr.2.1 0)), (3, .ref oa), (4, .int v4)]) C.1.1 dL_law_1471 (by decide) rfl ?_
      refine g_aload_n C.1.1 3 dL_law_1473 rfl rfl ?_
      refine g_aload_n C.1.1 1 dL_law_1474 rfl rfl ?_
      refine g_iload C.1.1 5 dL_law_1475 rfl ?_
      refine g_iconst (v := 1) C.1.1 dL_law_1477 (by decide) ?_
      refine g_iadd C.1.1 dL_law_1478 ?_
      refine l_sld C hsz hw.1 dL_law_1479 ?_
      replace hw := hw.2
      refine g_aload_n C.1.1 1 dL_law_1480 rfl rfl ?_
      refine g_iload C.1.1 5 dL_law_1481 rfl ?_
      refine g_iconst (v := 2) C.1.1 dL_law_1483 (by decide) ?_
      refine g_iadd C.1.1 dL_law_1484 ?_
      refine l_sld C hsz hw.1 dL_law_1485 ?_
      replace hw := hw.2
      refine g_aload_n C.1.1 1 dL_law_1486 rfl rfl ?_
      refine g_iload C.1.1 5 dL_law_1487 rfl ?_
      refine g_iconst (v := 3) C.1.1 dL_law_1489 (by decide) ?_
      refine g_iadd C.1.1 dL_law_1490 ?_
      refine l_sld C hsz hw.1 dL_law_1491 ?_
      replace hw := hw.2
      refine l_refi (vs := [.int (xs (v4 + 1).toNatClampNeg), .int (xs (v4 + 2).toNatClampNeg), .int (xs (v4 + 3).toNatClampNeg)]) C hsz (cR_link (g_l X) (G.1, gr) _ _ _ _ _ hw) kL_203 kL_204 kL_205 (kL_R _ kR_265) hdR_link ⟨Nat.le_trans (Nat.le_of_ble_eq_true rfl) hR.1, Nat.le_trans (Nat.le_of_ble_eq_true rfl) hR.2.1⟩ ⟨Nat.le_trans hk199.1 hR.2.2.1, Nat.le_trans hk199.2 hR.2.2.2⟩ dL_law_1492 rfl (Nat.le_of_ble_eq_true rfl) (fun r202 t203 hw => ?_)
      refine g_istore (lv' := [(6, .int r202), (5, .int r197), (0, .ref sb), (1, .ref v1), (2, .ref (gr.2.1 0)), (3, .ref oa), (4, .int v4)]) C.1.1 dL_law_1495 (by decide) rfl ?_
      refine g_aload_n C.1.1 4 dL_law_1497 rfl rfl ?_
      refine l_refi (vs := []) C hsz (cR_thrown (g_l X) (G.1, gr) _ _ hw) kL_111 kL_112 kL_113 (kL_R _ kR_41) hdR_thrown ⟨Nat.le_trans (Nat.le_of_ble_eq_true rfl) hR.1, Nat.le_trans (Nat.le_of_ble_eq_true rfl) hR.2.1⟩ ⟨Nat.le_trans hk199.1 hR.2.2.1, Nat.le_trans hk199.2 hR.2.2.2⟩ dL_law_1498 rfl (Nat.le_of_ble_eq_true rfl) (fun r204 t205 hw => ?_)
      refine g_iload C.1.1 1 dL_law_1501 rfl ?_
      refine g_icmp_eq (tgt := 1508) C.1.1 dL_law_1503 (by decide) (fun h206 => ?_) (fun h206 => ?_)
      · replace hw := hw.1 h206
        refine g_iload C.1.1 1 dL_law_1508 rfl ?_
        refine g_if_ne (tgt := 1525) C.1.1 dL_law_1510 (by decide) (fun h207 => ?_) (fun h207 => ?_)
        · replace hw := hw.1 h207
          refine gJ.sub [2, 3, 4, 5, 6] rfl ?_
          exact wkW_law_1525 hfl C hsz hR hret hK23 _ _ _ _ _ hk199 hw
        · replace hw := hw.2 h207
          refine g_aload_n C.1.1 5 dL_law_1513 rfl rfl ?_
          refine g_iconst (v := 0) C.1.1 dL_law_1514 (by decide) ?_
          refine l_lld C h_in0 dL_law_1515 ?_
          refine g_iload C.1.1 0 dL_law_1516 rfl ?_
          refine g_i2l C.1.1 dL_law_1518 ?_
          refine g_lcmp C.1.1 dL_law_1519 ?_
          refine g_if_eq (tgt := 1525) C.1.1 dL_law_1520 (by decide) (fun h208 => ?_) (fun h208 => ?_)
          · replace hw := hw.1 h208
            refine gJ.sub [2, 3, 4, 5, 6] rfl ?_
            exact wkW_law_1525 hfl C hsz hR hret hK23 _ _ _ _ _ hk199 hw
          · replace hw := hw.2 h208
            refine g_iconst (v := 0) C.1.1 dL_law_1523 (by decide) ?_
            refine gJ.widen hw.1 hw.2.1 ?_
            replace hw := hw.2.2
            exact hret _ _ _ _ hw rfl dL_law_1524
      · replace hw := hw.2 h206
        refine g_iconst (v := 0) C.1.1 dL_law_1506 (by decide) ?_
        refine gJ.widen hw.1 hw.2.1 ?_
        replace hw := hw.2.2
        exact hret _ _ _ _ hw rfl dL_law_1507
    · replace hw := hw.2.2.2.2.2.2.2.2.2.2.2.2.2.2.2.2.2.2.2.2.2.1 (i32_of h28c)
      refine g_tableIn (tgt := 1528) (off := 1488) C.1.1 dL_law_40 h28a h28b (by rw [h28c]; rfl) (by decide) ?_
      refine g_aload_n C.1.1 1 dL_law_1528 rfl rfl ?_
      refine g_aload_n C.1.1 0 dL_law_1529 rfl rfl ?_
      refine g_iload C.1.1 4 dL_law_1530 rfl ?_
      refine g_iconst (v := 1) C.1.1 dL_law_1532 (by decide) ?_
      refine g_iadd C.1.1 dL_law_1533 ?_
      refine l_sld C hsz hw.1 dL_law_1534 ?_
      replace hw := hw.2
      refine g_aload_n C.1.1 0 dL_law_1535 rfl rfl ?_
      refine g_iload C.1.1 4 dL_law_1536 rfl ?_
      refine g_iconst (v := 2) C.1.1 dL_law_1538 (by decide) ?_
      refine g_iadd C.1.1 dL_law_1539 ?_
      refine l_sld C hsz hw.1 dL_law_1540 ?_
      replace hw := hw.2
      have hk211 : k + 2 ≤ mc ∧ n + 12 ≤ ms := ⟨hw.1, hw.2.1⟩
      replace hw := hw.2.2
      refine l_help (vs := [.ref v1, .int (xs (v4 + 1).toNatClampNeg), .int (xs (v4 + 2).toNatClampNeg)]) C hsz rfl (cL_want_c (g_l X) hfl G gr.1.2.2.1 oa _ _ _ _ _ hw) kL_206 kL_207 kL_76 kL_107 hdL_want ⟨Nat.le_trans (Nat.le_of_ble_eq_true rfl) hR.1, Nat.le_trans (Nat.le_of_ble_eq_true rfl) hR.2.1⟩ ⟨Nat.le_trans hk211.1 hR.2.2.1, Nat.le_trans hk211.2 hR.2.2.2⟩ dL_law_1541 rfl (Nat.le_of_ble_eq_true rfl) (fun r209 t210 hw => ?_)
      refine g_istore (lv' := [(5, .int r209), (0, .ref sb), (1, .ref v1), (2, .ref (gr.2.1 0)), (3, .ref oa), (4, .int v4)]) C.1.1 dL_law_1544 (by decide) rfl ?_
      refine g_aload_n C.1.1 3 dL_law_1546 rfl rfl ?_
      refine g_aload_n C.1.1 1 dL_law_1547 rfl rfl ?_
      refine g_iload C.1.1 5 dL_law_1548 rfl ?_
      refine g_iconst (v := 1) C.1.1 dL_law_1550 (by decide) ?_
      refine g_iadd C.1.1 dL_law_1551 ?_
      refine l_sld C hsz hw.1 dL_law_1552 ?_
      replace hw := hw.2
      refine g_aload_n C.1.1 1 dL_law_1553 rfl rfl ?_
      refine g_iload C.1.1 5 dL_law_1554 rfl ?_
      refine g_iconst (v := 2) C.1.1 dL_law_1556 (by decide) ?_
      refine g_iadd C.1.1 dL_law_1557 ?_
      refine l_sld C hsz hw.1 dL_law_1558 ?_
      replace hw := hw.2
      refine l_refv (vs := [.int (xs (v4 + 1).toNatClampNeg), .int (xs (v4 + 2).toNatClampNeg)]) C hsz (cR_want (g_l X) (G.1, gr) _ _ _ _ hw) kL_208 kL_209 kL_210 (kL_R _ kR_266) hdR_want ⟨Nat.le_trans (Nat.le_of_ble_eq_true rfl) hR.1, Nat.le_trans (Nat.le_of_ble_eq_true rfl) hR.2.1⟩ ⟨Nat.le_trans hk211.1 hR.2.2.1, Nat.le_trans hk211.2 hR.2.2.2⟩ dL_law_1559 rfl (Nat.le_of_ble_eq_true rfl) (fun t213 hw => ?_)
      refine g_aload_n C.1.1 3 dL_law_1562 rfl rfl ?_
      refine l_refi (vs := []) C hsz (cR_thrown (g_l X) (G.1, gr) _ _ hw) kL_111 kL_112 kL_113 (kL_R _ kR_41) hdR_thrown ⟨Nat.le_trans (Nat.le_of_ble_eq_true rfl) hR.1, Nat.le_trans (Nat.le_of_ble_eq_true rfl) hR.2.1⟩ ⟨Nat.le_trans hk211.1 hR.2.2.1, Nat.le_trans hk211.2 hR.2.2.2⟩ dL_law_1563 rfl (Nat.le_of_ble_eq_true rfl) (fun r214 t215 hw => ?_)
      refine g_iload C.1.1 0 dL_law_1566 rfl ?_
      refine g_icmp_eq (tgt := 1573) C.1.1 dL_law_1568 (by decide) (fun h216 => ?_) (fun h216 => ?_)
      · replace hw := hw.1 h216
        refine g_goto (tgt := 1707) C.1.1 dL_law_1573 (by decide) ?_
        refine gJ.sub [1, 2, 3, 4, 5] rfl ?_
        exact wkW_law_1707 hfl C hsz hR hret hK23 _ _ _ _ _ hk211 hw
      · replace hw := hw.2 h216
        refine g_iconst (v := 0) C.1.1 dL_law_1571 (by decide) ?_
        refine gJ.widen hw.1 hw.2.1 ?_
        replace hw := hw.2.2
        exact hret _ _ _ _ hw rfl dL_law_1572
    · replace hw := hw.2.2.2.2.2.2.2.2.2.2.2.2.2.2.2.2.2.2.2.2.2.2.1 (i32_of h28c)
      refine g_tableIn (tgt := 1576) (off := 1536) C.1.1 dL_law_40 h28a h28b (by rw [h28c]; rfl) (by decide) ?_
      refine g_aload_n C.1.1 1 dL_law_1576 rfl rfl ?_
      refine e_callVl (vs := []) C.1 hsz (cC_X7_least (g_l X) G _ _ _ hw.2) kL_211 kL_212 kL_213 (kL_C _ kC_628) hdC_X7_least hw.1 ⟨Nat.le_trans (Nat.le_of_ble_eq_true rfl) hR.1, Nat.le_trans (Nat.le_of_ble_eq_true rfl) hR.2.1⟩ ⟨Nat.le_trans hk.1 hR.2.2.1, Nat.le_trans hk.2 hR.2.2.2⟩ dL_law_1577 rfl (Nat.le_of_ble_eq_true rfl) (fun r217 t218 hw => ?_)
      refine g_aload_n C.1.1 2 dL_law_1580 rfl rfl ?_
      refine l_refl (vs := []) C hsz (cR_least (g_l X) (G.1, gr) _ _ hw) kL_214 kL_215 kL_216 (kL_R _ kR_285) hdR_least ⟨Nat.le_trans (Nat.le_of_ble_eq_true rfl) hR.1, Nat.le_trans (Nat.le_of_ble_eq_true rfl) hR.2.1⟩ ⟨Nat.le_trans hk.1 hR.2.2.1, Nat.le_trans hk.2 hR.2.2.2⟩ dL_law_1581 rfl (Nat.le_of_ble_eq_true rfl) (fun r219 t220 hw => ?_)
      refine g_lcmp C.1.1 dL_law_1584 ?_
      refine g_if_eq (tgt := 1707) C.1.1 dL_law_1585 (by decide) (fun h221 => ?_) (fun h221 => ?_)
      · replace hw := hw.1 h221
        exact wkW_law_1707 hfl C hsz hR hret hK23 _ _ _ _ _ hk hw
      · replace hw := hw.2 h221
        refine g_iconst (v := 0) C.1.1 dL_law_1588 (by decide) ?_
        refine gJ.widen hw.1 hw.2.1 ?_
        replace hw := hw.2.2
        exact hret _ _ _ _ hw rfl dL_law_1589
    · replace hw := hw.2.2.2.2.2.2.2.2.2.2.2.2.2.2.2.2.2.2.2.2.2.2.2.1 (i32_of h28c)
      refine g_tableIn (tgt := 1590) (off := 1550) C.1.1 dL_law_40 h28a h28b (by rw [h28c]; rfl) (by decide) ?_
      refine g_aload_n C.1.1 1 dL_law_1590 rfl rfl ?_
      refine g_aload_n C.1.1 0 dL_law_1591 rfl rfl ?_
      refine g_iload C.1.1 4 dL_law_1592 rfl ?_
      refine g_iconst (v := 1) C.1.1 dL_law_1594 (by decide) ?_
      refine g_iadd C.1.1 dL_law_1595 ?_
      refine l_sld C hsz hw.1 dL_law_1596 ?_
      replace hw := hw.2
      refine g_aload_n C.1.1 0 dL_law_1597 rfl rfl ?_
      refine g_iload C.1.1 4 dL_law_1598 rfl ?_
      refine g_iconst (v := 2) C.1.1 dL_law_1600 (by decide) ?_
      refine g_iadd C.1.1 dL_law_1601 ?_
      refine l_sld C hsz hw.1 dL_law_1602 ?_
      replace hw := hw.2
      have hk224 : k + 2 ≤ mc ∧ n + 12 ≤ ms := ⟨hw.1, hw.2.1⟩
      replace hw := hw.2.2
      refine l_help (vs := [.ref v1, .int (xs (v4 + 1).toNatClampNeg), .int (xs (v4 + 2).toNatClampNeg)]) C hsz rfl (cL_price_c (g_l X) hfl G gr.1.2.2.1 oa _ _ _ _ _ hw) kL_217 kL_218 kL_80 kL_107 hdL_price ⟨Nat.le_trans (Nat.le_of_ble_eq_true rfl) hR.1, Nat.le_trans (Nat.le_of_ble_eq_true rfl) hR.2.1⟩ ⟨Nat.le_trans hk224.1 hR.2.2.1, Nat.le_trans hk224.2 hR.2.2.2⟩ dL_law_1603 rfl (Nat.le_of_ble_eq_true rfl) (fun r222 t223 hw => ?_)
      refine g_istore (lv' := [(5, .int r222), (0, .ref sb), (1, .ref v1), (2, .ref (gr.2.1 0)), (3, .ref oa), (4, .int v4)]) C.1.1 dL_law_1606 (by decide) rfl ?_
      refine g_aload_n C.1.1 3 dL_law_1608 rfl rfl ?_
      refine g_aload_n C.1.1 1 dL_law_1609 rfl rfl ?_
      refine g_iload C.1.1 5 dL_law_1610 rfl ?_
      refine g_iconst (v := 1) C.1.1 dL_law_1612 (by decide) ?_
      refine g_iadd C.1.1 dL_law_1613 ?_
      refine l_sld C hsz hw.1 dL_law_1614 ?_
      replace hw := hw.2
      refine g_aload_n C.1.1 1 dL_law_1615 rfl rfl ?_
      refine g_iload C.1.1 5 dL_law_1616 rfl ?_
      refine g_iconst (v := 2) C.1.1 dL_law_1618 (by decide) ?_
      refine g_iadd C.1.1 dL_law_1619 ?_
      refine l_sld C hsz hw.1 dL_law_1620 ?_
      replace hw := hw.2
      refine l_refv (vs := [.int (xs (v4 + 1).toNatClampNeg), .int (xs (v4 + 2).toNatClampNeg)]) C hsz (cR_price (g_l X) (G.1, gr) _ _ _ _ hw) kL_219 kL_220 kL_221 (kL_R _ kR_288) hdR_price ⟨Nat.le_trans (Nat.le_of_ble_eq_true rfl) hR.1, Nat.le_trans (Nat.le_of_ble_eq_true rfl) hR.2.1⟩ ⟨Nat.le_trans hk224.1 hR.2.2.1, Nat.le_trans hk224.2 hR.2.2.2⟩ dL_law_1621 rfl (Nat.le_of_ble_eq_true rfl) (fun t226 hw => ?_)
      refine g_aload_n C.1.1 3 dL_law_1624 rfl rfl ?_
      refine l_refi (vs := []) C hsz (cR_thrown (g_l X) (G.1, gr) _ _ hw) kL_111 kL_112 kL_113 (kL_R _ kR_41) hdR_thrown ⟨Nat.le_trans (Nat.le_of_ble_eq_true rfl) hR.1, Nat.le_trans (Nat.le_of_ble_eq_true rfl) hR.2.1⟩ ⟨Nat.le_trans hk224.1 hR.2.2.1, Nat.le_trans hk224.2 hR.2.2.2⟩ dL_law_1625 rfl (Nat.le_of_ble_eq_true rfl) (fun r227 t228 hw => ?_)
      refine g_iload C.1.1 0 dL_law_1628 rfl ?_
      refine g_icmp_eq (tgt := 1635) C.1.1 dL_law_1630 (by decide) (fun h229 => ?_) (fun h229 => ?_)
      · replace hw := hw.1 h229
        refine g_goto (tgt := 1707) C.1.1 dL_law_1635 (by decide) ?_
        refine gJ.sub [1, 2, 3, 4, 5] rfl ?_
        exact wkW_law_1707 hfl C hsz hR hret hK23 _ _ _ _ _ hk224 hw
      · replace hw := hw.2 h229
        refine g_iconst (v := 0) C.1.1 dL_law_1633 (by decide) ?_
        refine gJ.widen hw.1 hw.2.1 ?_
        replace hw := hw.2.2
        exact hret _ _ _ _ hw rfl dL_law_1634
    · replace hw := hw.2.2.2.2.2.2.2.2.2.2.2.2.2.2.2.2.2.2.2.2.2.2.2.2.1 (i32_of h28c)
      refine g_tableIn (tgt := 1638) (off := 1598) C.1.1 dL_law_40 h28a h28b (by rw [h28c]; rfl) (by decide) ?_
      refine g_aload_n C.1.1 1 dL_law_1638 rfl rfl ?_
      refine g_aload_n C.1.1 3 dL_law_1639 rfl rfl ?_
      have hk232 : k + 1 ≤ mc ∧ n + 6 ≤ ms := ⟨hw.1, hw.2.1⟩
      replace hw := hw.2.2
      refine l_help (vs := [.ref v1, .ref oa]) C hsz rfl (cL_judge_c (g_l X) hfl G gr.1.2.2.1 oa _ _ _ hw) kL_222 kL_223 kL_84 kL_107 hdL_judge ⟨Nat.le_trans (Nat.le_of_ble_eq_true rfl) hR.1, Nat.le_trans (Nat.le_of_ble_eq_true rfl) hR.2.1⟩ ⟨Nat.le_trans hk232.1 hR.2.2.1, Nat.le_trans hk232.2 hR.2.2.2⟩ dL_law_1640 rfl (Nat.le_of_ble_eq_true rfl) (fun r230 t231 hw => ?_)
      refine g_istore (lv' := [(5, .int r230), (0, .ref sb), (1, .ref v1), (2, .ref (gr.2.1 0)), (3, .ref oa), (4, .int v4)]) C.1.1 dL_law_1643 (by decide) rfl ?_
      refine g_aload_n C.1.1 3 dL_law_1645 rfl rfl ?_
      refine l_refl (vs := []) C hsz (cR_judge (g_l X) (G.1, gr) _ _ hw) kL_224 kL_225 kL_226 (kL_R _ kR_292) hdR_judge ⟨Nat.le_trans (Nat.le_of_ble_eq_true rfl) hR.1, Nat.le_trans (Nat.le_of_ble_eq_true rfl) hR.2.1⟩ ⟨Nat.le_trans hk232.1 hR.2.2.1, Nat.le_trans hk232.2 hR.2.2.2⟩ dL_law_1646 rfl (Nat.le_of_ble_eq_true rfl) (fun r233 t234 hw => ?_)
      refine g_lstore (lv' := [(6, .long r233), (5, .int r230), (0, .ref sb), (1, .ref v1), (2, .ref (gr.2.1 0)), (3, .ref oa), (4, .int v4)]) C.1.1 dL_law_1649 (by decide) rfl ?_
      refine g_aload_n C.1.1 4 dL_law_1651 rfl rfl ?_
      refine l_refi (vs := []) C hsz (cR_thrown (g_l X) (G.1, gr) _ _ hw) kL_111 kL_112 kL_113 (kL_R _ kR_41) hdR_thrown ⟨Nat.le_trans (Nat.le_of_ble_eq_true rfl) hR.1, Nat.le_trans (Nat.le_of_ble_eq_true rfl) hR.2.1⟩ ⟨Nat.le_trans hk232.1 hR.2.2.1, Nat.le_trans hk232.2 hR.2.2.2⟩ dL_law_1652 rfl (Nat.le_of_ble_eq_true rfl) (fun r235 t236 hw => ?_)
      refine g_iload C.1.1 1 dL_law_1655 rfl ?_
      refine g_icmp_eq (tgt := 1662) C.1.1 dL_law_1657 (by decide) (fun h237 => ?_) (fun h237 => ?_)
      · replace hw := hw.1 h237
        refine g_iload C.1.1 1 dL_law_1662 rfl ?_
        refine g_if_ne (tgt := 1678) C.1.1 dL_law_1664 (by decide) (fun h238 => ?_) (fun h238 => ?_)
        · replace hw := hw.1 h238
          refine gJ.sub [2, 3, 4, 5, 6] rfl ?_
          exact wkW_law_1678 hfl C hsz hR hret hK23 _ _ _ _ _ hk232 hw
        · replace hw := hw.2 h238
          refine g_aload_n C.1.1 5 dL_law_1667 rfl rfl ?_
          refine g_iconst (v := 0) C.1.1 dL_law_1668 (by decide) ?_
          refine l_lld C h_in0 dL_law_1669 ?_
          refine g_lload C.1.1 0 dL_law_1670 rfl ?_
          refine g_lcmp C.1.1 dL_law_1672 ?_
          refine g_if_eq (tgt := 1678) C.1.1 dL_law_1673 (by decide) (fun h239 => ?_) (fun h239 => ?_)
          · replace hw := hw.1 h239
            refine gJ.sub [2, 3, 4, 5, 6] rfl ?_
            exact wkW_law_1678 hfl C hsz hR hret hK23 _ _ _ _ _ hk232 hw
          · replace hw := hw.2 h239
            refine g_iconst (v := 0) C.1.1 dL_law_1676 (by decide) ?_
            refine gJ.widen hw.1 hw.2.1 ?_
            replace hw := hw.2.2
            exact hret _ _ _ _ hw rfl dL_law_1677
      · replace hw := hw.2 h237
        refine g_iconst (v := 0) C.1.1 dL_law_1660 (by decide) ?_
        refine gJ.widen hw.1 hw.2.1 ?_
        replace hw := hw.2.2
        exact hret _ _ _ _ hw rfl dL_law_1661
    · replace hw := hw.2.2.2.2.2.2.2.2.2.2.2.2.2.2.2.2.2.2.2.2.2.2.2.2.2.1 (i32_of h28c)
      refine g_tableIn (tgt := 1681) (off := 1641) C.1.1 dL_law_40 h28a h28b (by rw [h28c]; rfl) (by decide) ?_
      refine g_aload_n C.1.1 1 dL_law_1681 rfl rfl ?_
      refine g_aload_n C.1.1 0 dL_law_1682 rfl rfl ?_
      refine g_iload C.1.1 4 dL_law_1683 rfl ?_
      refine g_iconst (v := 1) C.1.1 dL_law_1685 (by decide) ?_
      refine g_iadd C.1.1 dL_law_1686 ?_
      refine l_sld C hsz hw.1 dL_law_1687 ?_
      replace hw := hw.2
      refine e_callVl (vs := [.int (xs (v4 + 1).toNatClampNeg)]) C.1 hsz (cC_X7_count (g_l X) G _ _ _ _ hw.2) kL_227 kL_228 kL_229 (kL_C _ kC_643) hdC_X7_count hw.1 ⟨Nat.le_trans (Nat.le_of_ble_eq_true rfl) hR.1, Nat.le_trans (Nat.le_of_ble_eq_true rfl) hR.2.1⟩ ⟨Nat.le_trans hk.1 hR.2.2.1, Nat.le_trans hk.2 hR.2.2.2⟩ dL_law_1688 rfl (Nat.le_of_ble_eq_true rfl) (fun r240 t241 hw => ?_)
      refine g_aload_n C.1.1 2 dL_law_1691 rfl rfl ?_
      refine g_aload_n C.1.1 0 dL_law_1692 rfl rfl ?_
      refine g_iload C.1.1 4 dL_law_1693 rfl ?_
      refine g_iconst (v := 1) C.1.1 dL_law_1695 (by decide) ?_
      refine g_iadd C.1.1 dL_law_1696 ?_
      refine l_sld C hsz hw.1 dL_law_1697 ?_
      replace hw := hw.2
      refine l_refl (vs := [.int (xs (v4 + 1).toNatClampNeg)]) C hsz (cR_count (g_l X) (G.1, gr) _ _ _ hw) kL_230 kL_231 kL_232 (kL_R _ kR_293) hdR_count ⟨Nat.le_trans (Nat.le_of_ble_eq_true rfl) hR.1, Nat.le_trans (Nat.le_of_ble_eq_true rfl) hR.2.1⟩ ⟨Nat.le_trans hk.1 hR.2.2.1, Nat.le_trans hk.2 hR.2.2.2⟩ dL_law_1698 rfl (Nat.le_of_ble_eq_true rfl) (fun r242 t243 hw => ?_)
      refine g_lcmp C.1.1 dL_law_1701 ?_
      refine g_if_eq (tgt := 1707) C.1.1 dL_law_1702 (by decide) (fun h244 => ?_) (fun h244 => ?_)
      · replace hw := hw.1 h244
        exact wkW_law_1707 hfl C hsz hR hret hK23 _ _ _ _ _ hk hw
      · replace hw := hw.2 h244
        refine g_iconst (v := 0) C.1.1 dL_law_1705 (by decide) ?_
        refine gJ.widen hw.1 hw.2.1 ?_
        replace hw := hw.2.2
        exact hret _ _ _ _ hw rfl dL_law_1706
theorem wkW_law_23 {mc ms L sb oa : Nat} {xs : Nat → Int32} {X : gT} {G : cG} {gr : gG} {A : Nat → Prop} {H0 : Heap} {Q : State → Prop} (hfl : (g_l X).stackTraces = false) (C : lC X cL_law 8 G gr A sb L xs) (hsz : H0 = (g_s X).heap) (hR : 98 ≤ (g_R X).frames ∧ 2219 ≤ (g_R X).locals ∧ mc ≤ (g_R X).cells ∧ ms ≤ (g_R X).slots) {post : Int32 → lSt → Prop} (hret : ∀ (r : Int32) (τ : lSt) (lv : List (Nat × Value)) (pc : Nat), post r τ → narrow .boolean (.int r) = .int r → decode cL_law pc = .ok (.ireturn, 1) → gJ X (lWd G gr oa A H0) Q mc ms τ lv pc [.int r]) (s : lSt) (k : Nat) (n : Nat) (v1 : Nat) (v4 : Int32) (hk : k ≤ mc ∧ n ≤ ms) (hw : wpW_law_23 mc ms L xs post s k n v1 v4) : gJ X (lWd G gr oa A H0) Q k n s [(0, .ref sb), (1, .ref v1), (2, .ref (gr.2.1 0)), (3, .ref oa), (4, .int v4)] 23 [] := 
  hw (fun (x : lSt × Nat × Nat × Nat × Int32) => (fun s k n v1 v4 => (k ≤ mc ∧ n ≤ ms → gJ X (lWd G gr oa A H0) Q k n s [(0, .ref sb), (1, .ref v1), (2, .ref (gr.2.1 0)), (3, .ref oa), (4, .int v4)] 23 [])) x.1 x.2.1 x.2.2.1 x.2.2.2.1 x.2.2.2.2) (fun x hx hk => wkW_law_23_F hfl C hsz hR hret (K23 := (fun s k n v1 v4 => (k ≤ mc ∧ n ≤ ms → gJ X (lWd G gr oa A H0) Q k n s [(0, .ref sb), (1, .ref v1), (2, .ref (gr.2.1 0)), (3, .ref oa), (4, .int v4)] 23 []))) (fun _ _ _ _ _ h => h) x.1 x.2.1 x.2.2.1 x.2.2.2.1 x.2.2.2.2 hk hx) hk
