def wpL_lift_0 (mc ms : Nat) (post : Int32 → hSt → Prop) (s : hSt) (v0 : Nat) (v1 : Int32) (v2 : Int32) (v3 : Int32) (v4 : Int32) (v5 : Int32) : Prop := cAt s.1 7 v0 ∧ wpC_X7_lift_0 mc ms (fun r2 t1 => post 0 (t1, vp_updL s.2 0 r2.toInt64)) (fun E t1 => (E = "java/lang/IndexOutOfBoundsException" ∧ post 1 (t1, s.2)) ∨ (E = "java/lang/IllegalArgumentException" ∧ post 2 (t1, s.2)) ∨ (E = "java/lang/UnsupportedOperationException" ∧ post 3 (t1, s.2))) s.1 v0 v1 v2 v3 v4 v5
theorem wkL_lift_0 {mc ms : Nat} {X : gT} {G : cG} {lc : ClassId} {oa : Nat} {A : Nat → Prop} {H0 : Heap} {Q : State → Prop} (hfl : (g_l X).stackTraces = false) (C : hC X cL_lift 8 [(0, 16, 19, 13), (0, 16, 23, 15), (0, 16, 27, 17)] G lc A) (hsz : H0 = (g_s X).heap) (hR : 8 ≤ (g_R X).frames ∧ 217 ≤ (g_R X).locals ∧ mc ≤ (g_R X).cells ∧ ms ≤ (g_R X).slots) (hm : 1 ≤ mc ∧ 6 ≤ ms) {post : Int32 → hSt → Prop} (hret : ∀ (r : Int32) (τ : hSt) (lv : List (Nat × Value)) (pc : Nat), post r τ → narrow .int (.int r) = .int r → decode cL_lift pc = .ok (.ireturn, 1) → gJ X (hWd G lc oa A H0) Q mc ms τ lv pc [.int r]) (s : hSt) (v0 : Nat) (v1 : Int32) (v2 : Int32) (v3 : Int32) (v4 : Int32) (v5 : Int32) (hw : wpL_lift_0 mc ms post s v0 v1 v2 v3 v4 v5) : gJ X (hWd G lc oa A H0) Q 0 0 s [(0, .ref v0), (1, .int v1), (2, .int v2), (3, .int v3), (4, .int v4), (5, .int v5), (6, .ref oa)] 0 [] := by
  refine g_aload C.1.1 6 dL_lift_0 rfl ?_
  refine g_iconst (v := 0) C.1.1 dL_lift_2 (by decide) ?_
  refine g_aload_n C.1.1 0 dL_lift_3 rfl rfl ?_
  refine g_iload_n C.1.1 1 dL_lift_4 rfl rfl ?_
  refine g_iload_n C.1.1 2 dL_lift_5 rfl rfl ?_
  refine g_iload_n C.1.1 3 dL_lift_6 rfl rfl ?_
  refine g_iload C.1.1 4 dL_lift_7 rfl ?_
  refine g_iload C.1.1 5 dL_lift_9 rfl ?_
  refine e_throwVi (vs := [.int v1, .int v2, .int v3, .int v4, .int v5]) C.1 hsz (cC_X7_lift mc ms (g_l X) hfl G _ _ _ _ _ _ _ _ _ hm hw.2) kL_3 kL_4 kL_5 (kL_C _ kC_437) hdC_X7_lift hw.1 ⟨Nat.le_trans (Nat.le_of_ble_eq_true rfl) hR.1, Nat.le_trans (Nat.le_of_ble_eq_true rfl) hR.2.1⟩ ⟨Nat.le_trans (Nat.le_of_eq (Nat.zero_add _)) hR.2.2.1, Nat.le_trans (Nat.le_of_eq (Nat.zero_add _)) hR.2.2.2⟩ dL_lift_11 rfl (Nat.le_of_ble_eq_true rfl) (fun E t1 hw => ?_) (fun r2 t1 hw => ?_)
  · rcases hw with ⟨rfl, hw⟩ | ⟨rfl, hw⟩ | ⟨rfl, hw⟩
    · refine e_catch (pre := []) (x := (0, 16, 19, 13)) (suf := [(0, 16, 23, 15), (0, 16, 27, 17)]) C.1 C.2 rfl ⟨by decide, by decide⟩ (by decide) kL_0 (C.1.2.2.2.2.2.2.2.1 0 (by decide)) (fun _ h => absurd h List.not_mem_nil) (fun q3 => ?_)
      refine g_astore (lv' := [(7, .ref q3), (0, .ref v0), (1, .int v1), (2, .int v2), (3, .int v3), (4, .int v4), (5, .int v5), (6, .ref oa)]) C.1.1 dL_lift_19 (by decide) rfl ?_
      refine g_iconst (v := 1) C.1.1 dL_lift_21 (by decide) ?_
      refine gJ.widen (Nat.le_of_eq (Nat.zero_add _)) (Nat.le_of_eq (Nat.zero_add _)) ?_
      exact hret _ _ _ _ hw rfl dL_lift_22
    · refine e_catch (pre := [(0, 16, 19, 13)]) (x := (0, 16, 23, 15)) (suf := [(0, 16, 27, 17)]) C.1 C.2 rfl ⟨by decide, by decide⟩ (by decide) kL_1 (C.1.2.2.2.2.2.2.2.1 1 (by decide)) (List.forall_mem_cons.mpr ⟨⟨by decide, _, kL_0, C.1.2.2.2.2.2.2.2.2 1 0 (by decide) (by decide) (by decide)⟩, fun _ h => absurd h List.not_mem_nil⟩) (fun q4 => ?_)
      refine g_astore (lv' := [(7, .ref q4), (0, .ref v0), (1, .int v1), (2, .int v2), (3, .int v3), (4, .int v4), (5, .int v5), (6, .ref oa)]) C.1.1 dL_lift_23 (by decide) rfl ?_
      refine g_iconst (v := 2) C.1.1 dL_lift_25 (by decide) ?_
      refine gJ.widen (Nat.le_of_eq (Nat.zero_add _)) (Nat.le_of_eq (Nat.zero_add _)) ?_
      exact hret _ _ _ _ hw rfl dL_lift_26
    · refine e_catch (pre := [(0, 16, 19, 13), (0, 16, 23, 15)]) (x := (0, 16, 27, 17)) (suf := []) C.1 C.2 rfl ⟨by decide, by decide⟩ (by decide) kL_2 (C.1.2.2.2.2.2.2.2.1 2 (by decide)) (List.forall_mem_cons.mpr ⟨⟨by decide, _, kL_0, C.1.2.2.2.2.2.2.2.2 2 0 (by decide) (by decide) (by decide)⟩, List.forall_mem_cons.mpr ⟨⟨by decide, _, kL_1, C.1.2.2.2.2.2.2.2.2 2 1 (by decide) (by decide) (by decide)⟩, fun _ h => absurd h List.not_mem_nil⟩⟩) (fun q5 => ?_)
      refine g_astore (lv' := [(7, .ref q5), (0, .ref v0), (1, .int v1), (2, .int v2), (3, .int v3), (4, .int v4), (5, .int v5), (6, .ref oa)]) C.1.1 dL_lift_27 (by decide) rfl ?_
      refine g_iconst (v := 3) C.1.1 dL_lift_29 (by decide) ?_
      refine gJ.widen (Nat.le_of_eq (Nat.zero_add _)) (Nat.le_of_eq (Nat.zero_add _)) ?_
      exact hret _ _ _ _ hw rfl dL_lift_30
  refine g_i2l C.1.1 dL_lift_14 ?_
  refine h_put C.1 h_in0 dL_lift_15 ?_
  refine g_goto (tgt := 31) C.1.1 dL_lift_16 (by decide) ?_
  refine g_iconst (v := 0) C.1.1 dL_lift_31 (by decide) ?_
  refine gJ.widen (Nat.le_of_eq (Nat.zero_add _)) (Nat.le_of_eq (Nat.zero_add _)) ?_
  exact hret _ _ _ _ hw rfl dL_lift_32
theorem hdL_lift : yL_lift.cls ≠ "java/lang/invoke/MethodHandle" ∧ yL_lift.cls ≠ "java/lang/invoke/VarHandle" ∧ (parseMethodDescriptor yL_lift.desc).map (fun d => d.parameters.length) = some 7 := by decide +kernel
theorem cL_lift_c (mc ms : Nat) (l : Launch) (hfl : l.stackTraces = false) (G : cG) (lc : ClassId) (oa : Nat) (s : hSt) (v0 : Nat) (v1 : Int32) (v2 : Int32) (v3 : Int32) (v4 : Int32) (v5 : Int32) (post : Int32 → hSt → Prop) (hm : 1 ≤ mc ∧ 6 ≤ ms) (hw : wpL_lift_0 mc ms post s v0 v1 v2 v3 v4 v5) : hM l yL_lift cL_lift 8 [(0, 16, 19, 13), (0, 16, 23, 15), (0, 16, 27, 17)] 8 217 mc ms G lc oa s [.ref v0, .int v1, .int v2, .int v3, .int v4, .int v5, .ref oa] post := hM_of (by decide +kernel) rfl (Nat.le_of_ble_eq_true rfl) (fun X A H0 Q hl hR hsz C hret => wkL_lift_0 (by rw [hl]; exact hfl) C hsz hR hm hret s v0 v1 v2 v3 v4 v5 hw)
def wpL_slope_0 (mc ms : Nat) (post : Int32 → hSt → Prop) (s : hSt) (v0 : Nat) (v1 : Int32) (v2 : Int32) (v3 : Int32) (v4 : Int32) (v5 : Int32) : Prop := cAt s.1 7 v0 ∧ wpC_X7_slope_0 mc ms (fun r2 t1 => post 0 (t1, vp_updL s.2 0 r2.toInt64)) (fun E t1 => (E = "java/lang/IndexOutOfBoundsException" ∧ post 1 (t1, s.2)) ∨ (E = "java/lang/IllegalArgumentException" ∧ post 2 (t1, s.2)) ∨ (E = "java/lang/UnsupportedOperationException" ∧ post 3 (t1, s.2))) s.1 v0 v1 v2 v3 v4 v5
theorem wkL_slope_0 {mc ms : Nat} {X : gT} {G : cG} {lc : ClassId} {oa : Nat} {A : Nat → Prop} {H0 : Heap} {Q : State → Prop} (hfl : (g_l X).stackTraces = false) (C : hC X cL_slope 8 [(0, 16, 19, 13), (0, 16, 23, 15), (0, 16, 27, 17)] G lc A) (hsz : H0 = (g_s X).heap) (hR : 9 ≤ (g_R X).frames ∧ 241 ≤ (g_R X).locals ∧ mc ≤ (g_R X).cells ∧ ms ≤ (g_R X).slots) (hm : 1 ≤ mc ∧ 6 ≤ ms) {post : Int32 → hSt → Prop} (hret : ∀ (r : Int32) (τ : hSt) (lv : List (Nat × Value)) (pc : Nat), post r τ → narrow .int (.int r) = .int r → decode cL_slope pc = .ok (.ireturn, 1) → gJ X (hWd G lc oa A H0) Q mc ms τ lv pc [.int r]) (s : hSt) (v0 : Nat) (v1 : Int32) (v2 : Int32) (v3 : Int32) (v4 : Int32) (v5 : Int32) (hw : wpL_slope_0 mc ms post s v0 v1 v2 v3 v4 v5) : gJ X (hWd G lc oa A H0) Q 0 0 s [(0, .ref v0), (1, .int v1), (2, .int v2), (3, .int v3), (4, .int v4), (5, .int v5), (6, .ref oa)] 0 [] := by
  refine g_aload C.1.1 6 dL_slope_0 rfl ?_
  refine g_iconst (v := 0) C.1.1 dL_slope_2 (by decide) ?_
  refine g_aload_n C.1.1 0 dL_slope_3 rfl rfl ?_
  refine g_iload_n C.1.1 1 dL_slope_4 rfl rfl ?_
  refine g_iload_n C.1.1 2 dL_slope_5 rfl rfl ?_
  refine g_iload_n C.1.1 3 dL_slope_6 rfl rfl ?_
  refine g_iload C.1.1 4 dL_slope_7 rfl ?_
  refine g_iload C.1.1 5 dL_slope_9 rfl ?_
  refine e_throwVi (vs := [.int v1, .int v2, .int v3, .int v4, .int v5]) C.1 hsz (cC_X7_slope mc ms (g_l X) hfl G _ _ _ _ _ _ _ _ _ hm hw.2) kL_7 kL_8 kL_9 (kL_C _ kC_453) hdC_X7_slope hw.1 ⟨Nat.le_trans (Nat.le_of_ble_eq_true rfl) hR.1, Nat.le_trans (Nat.le_of_ble_eq_true rfl) hR.2.1⟩ ⟨Nat.le_trans (Nat.le_of_eq (Nat.zero_add _)) hR.2.2.1, Nat.le_trans (Nat.le_of_eq (Nat.zero_add _)) hR.2.2.2⟩ dL_slope_11 rfl (Nat.le_of_ble_eq_true rfl) (fun E t1 hw => ?_) (fun r2 t1 hw => ?_)
  · rcases hw with ⟨rfl, hw⟩ | ⟨rfl, hw⟩ | ⟨rfl, hw⟩
    · refine e_catch (pre := []) (x := (0, 16, 19, 13)) (suf := [(0, 16, 23, 15), (0, 16, 27, 17)]) C.1 C.2 rfl ⟨by decide, by decide⟩ (by decide) kL_0 (C.1.2.2.2.2.2.2.2.1 0 (by decide)) (fun _ h => absurd h List.not_mem_nil) (fun q3 => ?_)
      refine g_astore (lv' := [(7, .ref q3), (0, .ref v0), (1, .int v1), (2, .int v2), (3, .int v3), (4, .int v4), (5, .int v5), (6, .ref oa)]) C.1.1 dL_slope_19 (by decide) rfl ?_
      refine g_iconst (v := 1) C.1.1 dL_slope_21 (by decide) ?_
      refine gJ.widen (Nat.le_of_eq (Nat.zero_add _)) (Nat.le_of_eq (Nat.zero_add _)) ?_
      exact hret _ _ _ _ hw rfl dL_slope_22
    · refine e_catch (pre := [(0, 16, 19, 13)]) (x := (0, 16, 23, 15)) (suf := [(0, 16, 27, 17)]) C.1 C.2 rfl ⟨by decide, by decide⟩ (by decide) kL_1 (C.1.2.2.2.2.2.2.2.1 1 (by decide)) (List.forall_mem_cons.mpr ⟨⟨by decide, _, kL_0, C.1.2.2.2.2.2.2.2.2 1 0 (by decide) (by decide) (by decide)⟩, fun _ h => absurd h List.not_mem_nil⟩) (fun q4 => ?_)
      refine g_astore (lv' := [(7, .ref q4), (0, .ref v0), (1, .int v1), (2, .int v2), (3, .int v3), (4, .int v4), (5, .int v5), (6, .ref oa)]) C.1.1 dL_slope_23 (by decide) rfl ?_
      refine g_iconst (v := 2) C.1.1 dL_slope_25 (by decide) ?_
      refine gJ.widen (Nat.le_of_eq (Nat.zero_add _)) (Nat.le_of_eq (Nat.zero_add _)) ?_
      exact hret _ _ _ _ hw rfl dL_slope_26
    · refine e_catch (pre := [(0, 16, 19, 13), (0, 16, 23, 15)]) (x := (0, 16, 27, 17)) (suf := []) C.1 C.2 rfl ⟨by decide, by decide⟩ (by decide) kL_2 (C.1.2.2.2.2.2.2.2.1 2 (by decide)) (List.forall_mem_cons.mpr ⟨⟨by decide, _, kL_0, C.1.2.2.2.2.2.2.2.2 2 0 (by decide) (by decide) (by decide)⟩, List.forall_mem_cons.mpr ⟨⟨by decide, _, kL_1, C.1.2.2.2.2.2.2.2.2 2 1 (by decide) (by decide) (by decide)⟩, fun _ h => absurd h List.not_mem_nil⟩⟩) (fun q5 => ?_)
      refine g_astore (lv' := [(7, .ref q5), (0, .ref v0), (1, .int v1), (2, .int v2), (3, .int v3), (4, .int v4), (5, .int v5), (6, .ref oa)]) C.1.1 dL_slope_27 (by decide) rfl ?_
      refine g_iconst (v := 3) C.1.1 dL_slope_29 (by decide) ?_
      refine gJ.widen (Nat.le_of_eq (Nat.zero_add _)) (Nat.le_of_eq (Nat.zero_add _)) ?_
      exact hret _ _ _ _ hw rfl dL_slope_30
  refine g_i2l C.1.1 dL_slope_14 ?_
  refine h_put C.1 h_in0 dL_slope_15 ?_
  refine g_goto (tgt := 31) C.1.1 dL_slope_16 (by decide) ?_
  refine g_iconst (v := 0) C.1.1 dL_slope_31 (by decide) ?_
  refine gJ.widen (Nat.le_of_eq (Nat.zero_add _)) (Nat.le_of_eq (Nat.zero_add _)) ?_
  exact hret _ _ _ _ hw rfl dL_slope_32
theorem hdL_slope : yL_slope.cls ≠ "java/lang/invoke/MethodHandle" ∧ yL_slope.cls ≠ "java/lang/invoke/VarHandle" ∧ (parseMethodDescriptor yL_slope.desc).map (fun d => d.parameters.length) = some 7 := by decide +kernel
theorem cL_slope_c (mc ms : Nat) (l : Launch) (hfl : l.stackTraces = false) (G : cG) (lc : ClassId) (oa : Nat) (s : hSt) (v0 : Nat) (v1 : Int32) (v2 : Int32) (v3 : Int32) (v4 : Int32) (v5 : Int32) (post : Int32 → hSt → Prop) (hm : 1 ≤ mc ∧ 6 ≤ ms) (hw : wpL_slope_0 mc ms post s v0 v1 v2 v3 v4 v5) : hM l yL_slope cL_slope 8 [(0, 16, 19, 13), (0, 16, 23, 15), (0, 16, 27, 17)] 9 241 mc ms G lc oa s [.ref v0, .int v1, .int v2, .int v3, .int v4, .int v5, .ref oa] post := hM_of (by decide +kernel) rfl (Nat.le_of_ble_eq_true rfl) (fun X A H0 Q hl hR hsz C hret => wkL_slope_0 (by rw [hl]; exact hfl) C hsz hR hm hret s v0 v1 v2 v3 v4 v5 hw)
def wpL_rule_0 (post : Int32 → hSt → Prop) (s : hSt) (v0 : Nat) (v1 : Int32) : Prop := cAt s.1 7 v0 ∧ wpC_X7_rule_0 (fun r2 t1 => post 0 (t1, vp_updL s.2 0 r2.toInt64)) (fun E t1 => (E = "java/lang/IndexOutOfBoundsException" ∧ post 1 (t1, s.2)) ∨ (E = "java/lang/IllegalArgumentException" ∧ post 2 (t1, s.2)) ∨ (E = "java/lang/IllegalStateException" ∧ post 3 (t1, s.2))) s.1 v0 v1
theorem wkL_rule_0 {X : gT} {G : cG} {lc : ClassId} {oa : Nat} {A : Nat → Prop} {H0 : Heap} {Q : State → Prop} (hfl : (g_l X).stackTraces = false) (C : hC X cL_rule 4 [(0, 9, 12, 13), (0, 9, 15, 15), (0, 9, 18, 26)] G lc A) (hsz : H0 = (g_s X).heap) (hR : 97 ≤ (g_R X).frames ∧ 2196 ≤ (g_R X).locals ∧ 2 ≤ (g_R X).cells ∧ 406 ≤ (g_R X).slots) {post : Int32 → hSt → Prop} (hret : ∀ (r : Int32) (τ : hSt) (lv : List (Nat × Value)) (pc : Nat), post r τ → narrow .int (.int r) = .int r → decode cL_rule pc = .ok (.ireturn, 1) → gJ X (hWd G lc oa A H0) Q 2 406 τ lv pc [.int r]) (s : hSt) (v0 : Nat) (v1 : Int32) (hw : wpL_rule_0 post s v0 v1) : gJ X (hWd G lc oa A H0) Q 0 0 s [(0, .ref v0), (1, .int v1), (2, .ref oa)] 0 [] := by
  refine g_aload_n C.1.1 2 dL_rule_0 rfl rfl ?_
  refine g_iconst (v := 0) C.1.1 dL_rule_1 (by decide) ?_
  refine g_aload_n C.1.1 0 dL_rule_2 rfl rfl ?_
  refine g_iload_n C.1.1 1 dL_rule_3 rfl rfl ?_
  refine e_throwVi (vs := [.int v1]) C.1 hsz (cC_X7_rule (g_l X) hfl G _ _ _ _ _ hw.2) kL_12 kL_13 kL_14 (kL_C _ kC_504) hdC_X7_rule hw.1 ⟨Nat.le_trans (Nat.le_of_ble_eq_true rfl) hR.1, Nat.le_trans (Nat.le_of_ble_eq_true rfl) hR.2.1⟩ ⟨Nat.le_trans (Nat.le_of_eq (Nat.zero_add _)) hR.2.2.1, Nat.le_trans (Nat.le_of_eq (Nat.zero_add _)) hR.2.2.2⟩ dL_rule_4 rfl (Nat.le_of_ble_eq_true rfl) (fun E t1 hw => ?_) (fun r2 t1 hw => ?_)
  · rcases hw with ⟨rfl, hw⟩ | ⟨rfl, hw⟩ | ⟨rfl, hw⟩
    · refine e_catch (pre := []) (x := (0, 9, 12, 13)) (suf := [(0, 9, 15, 15), (0, 9, 18, 26)]) C.1 C.2 rfl ⟨by decide, by decide⟩ (by decide) kL_0 (C.1.2.2.2.2.2.2.2.1 0 (by decide)) (fun _ h => absurd h List.not_mem_nil) (fun q3 => ?_)
      refine g_astore_n (lv' := [(3, .ref q3), (0, .ref v0), (1, .int v1), (2, .ref oa)]) C.1.1 dL_rule_12 rfl (by decide) rfl ?_
      refine g_iconst (v := 1) C.1.1 dL_rule_13 (by decide) ?_
      refine gJ.widen (Nat.le_of_eq (Nat.zero_add _)) (Nat.le_of_eq (Nat.zero_add _)) ?_
      exact hret _ _ _ _ hw rfl dL_rule_14
    · refine e_catch (pre := [(0, 9, 12, 13)]) (x := (0, 9, 15, 15)) (suf := [(0, 9, 18, 26)]) C.1 C.2 rfl ⟨by decide, by decide⟩ (by decide) kL_1 (C.1.2.2.2.2.2.2.2.1 1 (by decide)) (List.forall_mem_cons.mpr ⟨⟨by decide, _, kL_0, C.1.2.2.2.2.2.2.2.2 1 0 (by decide) (by decide) (by decide)⟩, fun _ h => absurd h List.not_mem_nil⟩) (fun q4 => ?_)
      refine g_astore_n (lv' := [(3, .ref q4), (0, .ref v0), (1, .int v1), (2, .ref oa)]) C.1.1 dL_rule_15 rfl (by decide) rfl ?_
      refine g_iconst (v := 2) C.1.1 dL_rule_16 (by decide) ?_
      refine gJ.widen (Nat.le_of_eq (Nat.zero_add _)) (Nat.le_of_eq (Nat.zero_add _)) ?_
      exact hret _ _ _ _ hw rfl dL_rule_17
    · refine e_catch (pre := [(0, 9, 12, 13), (0, 9, 15, 15)]) (x := (0, 9, 18, 26)) (suf := []) C.1 C.2 rfl ⟨by decide, by decide⟩ (by decide) kL_11 (C.1.2.2.2.2.2.2.2.1 3 (by decide)) (List.forall_mem_cons.mpr ⟨⟨by decide, _, kL_0, C.1.2.2.2.2.2.2.2.2 3 0 (by decide) (by decide) (by decide)⟩, List.forall_mem_cons.mpr ⟨⟨by decide, _, kL_1, C.1.2.2.2.2.2.2.2.2 3 1 (by decide) (by decide) (by decide)⟩, fun _ h => absurd h List.not_mem_nil⟩⟩) (fun q5 => ?_)
      refine g_astore_n (lv' := [(3, .ref q5), (0, .ref v0), (1, .int v1), (2, .ref oa)]) C.1.1 dL_rule_18 rfl (by decide) rfl ?_
      refine g_iconst (v := 3) C.1.1 dL_rule_19 (by decide) ?_
      refine gJ.widen (Nat.le_of_eq (Nat.zero_add _)) (Nat.le_of_eq (Nat.zero_add _)) ?_
      exact hret _ _ _ _ hw rfl dL_rule_20
  refine g_i2l C.1.1 dL_rule_7 ?_
  refine h_put C.1 h_in0 dL_rule_8 ?_
  refine g_goto (tgt := 21) C.1.1 dL_rule_9 (by decide) ?_
  refine g_iconst (v := 0) C.1.1 dL_rule_21 (by decide) ?_
  refine gJ.widen (Nat.le_of_eq (Nat.zero_add _)) (Nat.le_of_eq (Nat.zero_add _)) ?_
  exact hret _ _ _ _ hw rfl dL_rule_22
theorem hdL_rule : yL_rule.cls ≠ "java/lang/invoke/MethodHandle" ∧ yL_rule.cls ≠ "java/lang/invoke/VarHandle" ∧ (parseMethodDescriptor yL_rule.desc).map (fun d => d.parameters.length) = some 3 := by decide +kernel
theorem cL_rule_c (l : Launch) (hfl : l.stackTraces = false) (G : cG) (lc : ClassId) (oa : Nat) (s : hSt) (v0 : Nat) (v1 : Int32) (post : Int32 → hSt → Prop) (hw : wpL_rule_0 post s v0 v1) : hM l yL_rule cL_rule 4 [(0, 9, 12, 13), (0, 9, 15, 15), (0, 9, 18, 26)] 97 2196 2 406 G lc oa s [.ref v0, .int v1, .ref oa] post := hM_of (by decide +kernel) rfl (Nat.le_of_ble_eq_true rfl) (fun X A H0 Q hl hR hsz C hret => wkL_rule_0 (by rw [hl]; exact hfl) C hsz hR hret s v0 v1 hw)
def wpL_unrule_15 (post : Int32 → hSt → Prop) (s : hSt) (w1 : Int32) (w2 : Int64) : Prop := vp_in w1 1 ∧ post 0 (s.1, vp_updL s.2 w1.toNatClampNeg w2)
def wpL_unrule_0 (post : Int32 → hSt → Prop) (s : hSt) (v0 : Nat) (v1 : Int32) : Prop := cAt s.1 7 v0 ∧ wpC_X7_unrule_0 (fun r2 t1 => (r2 = 0 → wpL_unrule_15 post (t1, s.2) 0 0) ∧ (¬ r2 = 0 → wpL_unrule_15 post (t1, s.2) 0 1)) (fun E t1 => (E = "java/lang/IndexOutOfBoundsException" ∧ post 1 (t1, s.2))) s.1 v0 v1
theorem wkL_unrule_15 {X : gT} {G : cG} {lc : ClassId} {oa : Nat} {A : Nat → Prop} {H0 : Heap} {Q : State → Prop} (hfl : (g_l X).stackTraces = false) (C : hC X cL_unrule 4 [(0, 16, 19, 13)] G lc A) (hsz : H0 = (g_s X).heap) (hR : 8 ≤ (g_R X).frames ∧ 133 ≤ (g_R X).locals ∧ 1 ≤ (g_R X).cells ∧ 6 ≤ (g_R X).slots) {post : Int32 → hSt → Prop} (hret : ∀ (r : Int32) (τ : hSt) (lv : List (Nat × Value)) (pc : Nat), post r τ → narrow .int (.int r) = .int r → decode cL_unrule pc = .ok (.ireturn, 1) → gJ X (hWd G lc oa A H0) Q 1 6 τ lv pc [.int r]) (s : hSt) (w1 : Int32) (w2 : Int64) (hw : wpL_unrule_15 post s w1 w2) : gJ X (hWd G lc oa A H0) Q (0 + 1) (0 + 6) s [] 15 [.long w2, .int w1, .ref oa] := by
  refine h_put C.1 hw.1 dL_unrule_15 ?_
  replace hw := hw.2
  refine g_goto (tgt := 22) C.1.1 dL_unrule_16 (by decide) ?_
  refine g_iconst (v := 0) C.1.1 dL_unrule_22 (by decide) ?_
  refine gJ.widen (Nat.le_of_eq (Nat.zero_add _)) (Nat.le_of_eq (Nat.zero_add _)) ?_
  exact hret _ _ _ _ hw rfl dL_unrule_23
theorem wkL_unrule_0 {X : gT} {G : cG} {lc : ClassId} {oa : Nat} {A : Nat → Prop} {H0 : Heap} {Q : State → Prop} (hfl : (g_l X).stackTraces = false) (C : hC X cL_unrule 4 [(0, 16, 19, 13)] G lc A) (hsz : H0 = (g_s X).heap) (hR : 8 ≤ (g_R X).frames ∧ 133 ≤ (g_R X).locals ∧ 1 ≤ (g_R X).cells ∧ 6 ≤ (g_R X).slots) {post : Int32 → hSt → Prop} (hret : ∀ (r : Int32) (τ : hSt) (lv : List (Nat × Value)) (pc : Nat), post r τ → narrow .int (.int r) = .int r → decode cL_unrule pc = .ok (.ireturn, 1) → gJ X (hWd G lc oa A H0) Q 1 6 τ lv pc [.int r]) (s : hSt) (v0 : Nat) (v1 : Int32) (hw : wpL_unrule_0 post s v0 v1) : gJ X (hWd G lc oa A H0) Q 0 0 s [(0, .ref v0), (1, .int v1), (2, .ref oa)] 0 [] := by
  refine g_aload_n C.1.1 2 dL_unrule_0 rfl rfl ?_
  refine g_iconst (v := 0) C.1.1 dL_unrule_1 (by decide) ?_
  refine g_aload_n C.1.1 0 dL_unrule_2 rfl rfl ?_
  refine g_iload_n C.1.1 1 dL_unrule_3 rfl rfl ?_
  refine e_throwVi (vs := [.int v1]) C.1 hsz (cC_X7_unrule (g_l X) hfl G _ _ _ _ _ hw.2) kL_16 kL_17 kL_18 (kL_C _ kC_505) hdC_X7_unrule hw.1 ⟨Nat.le_trans (Nat.le_of_ble_eq_true rfl) hR.1, Nat.le_trans (Nat.le_of_ble_eq_true rfl) hR.2.1⟩ ⟨Nat.le_trans (Nat.le_of_eq (Nat.zero_add _)) hR.2.2.1, Nat.le_trans (Nat.le_of_eq (Nat.zero_add _)) hR.2.2.2⟩ dL_unrule_4 rfl (Nat.le_of_ble_eq_true rfl) (fun E t1 hw => ?_) (fun r2 t1 hw => ?_)
  · rcases hw with ⟨rfl, hw⟩
    refine e_catch (pre := []) (x := (0, 16, 19, 13)) (suf := []) C.1 C.2 rfl ⟨by decide, by decide⟩ (by decide) kL_0 (C.1.2.2.2.2.2.2.2.1 0 (by decide)) (fun _ h => absurd h List.not_mem_nil) (fun q4 => ?_)
    refine g_astore_n (lv' := [(3, .ref q4), (0, .ref v0), (1, .int v1), (2, .ref oa)]) C.1.1 dL_unrule_19 rfl (by decide) rfl ?_
    refine g_iconst (v := 1) C.1.1 dL_unrule_20 (by decide) ?_
    refine gJ.widen (Nat.le_of_eq (Nat.zero_add _)) (Nat.le_of_eq (Nat.zero_add _)) ?_
    exact hret _ _ _ _ hw rfl dL_unrule_21
  refine g_if_eq (tgt := 14) C.1.1 dL_unrule_7 (by decide) (fun h3 => ?_) (fun h3 => ?_)
  · replace hw := hw.1 h3
    refine g_lconst (v := 0) C.1.1 dL_unrule_14 (by decide) ?_
    refine gJ.sub [] rfl ?_
    exact wkL_unrule_15 hfl C hsz hR hret _ _ _ hw
  · replace hw := hw.2 h3
    refine g_lconst (v := 1) C.1.1 dL_unrule_10 (by decide) ?_
    refine g_goto (tgt := 15) C.1.1 dL_unrule_11 (by decide) ?_
    refine gJ.sub [] rfl ?_
    exact wkL_unrule_15 hfl C hsz hR hret _ _ _ hw
theorem hdL_unrule : yL_unrule.cls ≠ "java/lang/invoke/MethodHandle" ∧ yL_unrule.cls ≠ "java/lang/invoke/VarHandle" ∧ (parseMethodDescriptor yL_unrule.desc).map (fun d => d.parameters.length) = some 3 := by decide +kernel
theorem cL_unrule_c (l : Launch) (hfl : l.stackTraces = false) (G : cG) (lc : ClassId) (oa : Nat) (s : hSt) (v0 : Nat) (v1 : Int32) (post : Int32 → hSt → Prop) (hw : wpL_unrule_0 post s v0 v1) : hM l yL_unrule cL_unrule 4 [(0, 16, 19, 13)] 8 133 1 6 G lc oa s [.ref v0, .int v1, .ref oa] post := hM_of (by decide +kernel) rfl (Nat.le_of_ble_eq_true rfl) (fun X A H0 Q hl hR hsz C hret => wkL_unrule_0 (by rw [hl]; exact hfl) C hsz hR hret s v0 v1 hw)
def wpL_open_15 (post : Int32 → hSt → Prop) (s : hSt) (w1 : Int32) (w2 : Int64) : Prop := vp_in w1 1 ∧ post 0 (s.1, vp_updL s.2 w1.toNatClampNeg w2)
def wpL_open_0 (post : Int32 → hSt → Prop) (s : hSt) (v0 : Nat) (v1 : Int32) : Prop := cAt s.1 7 v0 ∧ wpC_X7_open_0 (fun r2 t1 => (r2 = 0 → wpL_open_15 post (t1, s.2) 0 0) ∧ (¬ r2 = 0 → wpL_open_15 post (t1, s.2) 0 1)) (fun E t1 => (E = "java/lang/IndexOutOfBoundsException" ∧ post 1 (t1, s.2))) s.1 v0 v1
theorem wkL_open_15 {X : gT} {G : cG} {lc : ClassId} {oa : Nat} {A : Nat → Prop} {H0 : Heap} {Q : State → Prop} (hfl : (g_l X).stackTraces = false) (C : hC X cL_open 4 [(0, 16, 19, 13)] G lc A) (hsz : H0 = (g_s X).heap) (hR : 8 ≤ (g_R X).frames ∧ 188 ≤ (g_R X).locals ∧ 1 ≤ (g_R X).cells ∧ 6 ≤ (g_R X).slots) {post : Int32 → hSt → Prop} (hret : ∀ (r : Int32) (τ : hSt) (lv : List (Nat × Value)) (pc : Nat), post r τ → narrow .int (.int r) = .int r → decode cL_open pc = .ok (.ireturn, 1) → gJ X (hWd G lc oa A H0) Q 1 6 τ lv pc [.int r]) (s : hSt) (w1 : Int32) (w2 : Int64) (hw : wpL_open_15 post s w1 w2) : gJ X (hWd G lc oa A H0) Q (0 + 1) (0 + 6) s [] 15 [.long w2, .int w1, .ref oa] := by
  refine h_put C.1 hw.1 dL_open_15 ?_
  replace hw := hw.2
  refine g_goto (tgt := 22) C.1.1 dL_open_16 (by decide) ?_
  refine g_iconst (v := 0) C.1.1 dL_open_22 (by decide) ?_
  refine gJ.widen (Nat.le_of_eq (Nat.zero_add _)) (Nat.le_of_eq (Nat.zero_add _)) ?_
  exact hret _ _ _ _ hw rfl dL_open_23
theorem wkL_open_0 {X : gT} {G : cG} {lc : ClassId} {oa : Nat} {A : Nat → Prop} {H0 : Heap} {Q : State → Prop} (hfl : (g_l X).stackTraces = false) (C : hC X cL_open 4 [(0, 16, 19, 13)] G lc A) (hsz : H0 = (g_s X).heap) (hR : 8 ≤ (g_R X).frames ∧ 188 ≤ (g_R X).locals ∧ 1 ≤ (g_R X).cells ∧ 6 ≤ (g_R X).slots) {post : Int32 → hSt → Prop} (hret : ∀ (r : Int32) (τ : hSt) (lv : List (Nat × Value)) (pc : Nat), post r τ → narrow .int (.int r) = .int r → decode cL_open pc = .ok (.ireturn, 1) → gJ X (hWd G lc oa A H0) Q 1 6 τ lv pc [.int r]) (s : hSt) (v0 : Nat) (v1 : Int32) (hw : wpL_open_0 post s v0 v1) : gJ X (hWd G lc oa A H0) Q 0 0 s [(0, .ref v0), (1, .int v1), (2, .ref oa)] 0 [] := by
  refine g_aload_n C.1.1 2 dL_open_0 rfl rfl ?_
  refine g_iconst (v := 0) C.1.1 dL_open_1 (by decide) ?_
  refine g_aload_n C.1.1 0 dL_open_2 rfl rfl ?_
  refine g_iload_n C.1.1 1 dL_open_3 rfl rfl ?_
  refine e_throwVi (vs := [.int v1]) C.1 hsz (cC_X7_open (g_l X) hfl G _ _ _ _ _ hw.2) kL_20 kL_21 kL_22 (kL_C _ kC_530) hdC_X7_open hw.1 ⟨Nat.le_trans (Nat.le_of_ble_eq_true rfl) hR.1, Nat.le_trans (Nat.le_of_ble_eq_true rfl) hR.2.1⟩ ⟨Nat.le_trans (Nat.le_of_eq (Nat.zero_add _)) hR.2.2.1, Nat.le_trans (Nat.le_of_eq (Nat.zero_add _)) hR.2.2.2⟩ dL_open_4 rfl (Nat.le_of_ble_eq_true rfl) (fun E t1 hw => ?_) (fun r2 t1 hw => ?_)
  · rcases hw with ⟨rfl, hw⟩
    refine e_catch (pre := []) (x := (0, 16, 19, 13)) (suf := []) C.1 C.2 rfl ⟨by decide, by decide⟩ (by decide) kL_0 (C.1.2.2.2.2.2.2.2.1 0 (by decide)) (fun _ h => absurd h List.not_mem_nil) (fun q4 => ?_)
    refine g_astore_n (lv' := [(3, .ref q4), (0, .ref v0), (1, .int v1), (2, .ref oa)]) C.1.1 dL_open_19 rfl (by decide) rfl ?_
    refine g_iconst (v := 1) C.1.1 dL_open_20 (by decide) ?_
    refine gJ.widen (Nat.le_of_eq (Nat.zero_add _)) (Nat.le_of_eq (Nat.zero_add _)) ?_
    exact hret _ _ _ _ hw rfl dL_open_21
  refine g_if_eq (tgt := 14) C.1.1 dL_open_7 (by decide) (fun h3 => ?_) (fun h3 => ?_)
  · replace hw := hw.1 h3
    refine g_lconst (v := 0) C.1.1 dL_open_14 (by decide) ?_
    refine gJ.sub [] rfl ?_
    exact wkL_open_15 hfl C hsz hR hret _ _ _ hw
  · replace hw := hw.2 h3
    refine g_lconst (v := 1) C.1.1 dL_open_10 (by decide) ?_
    refine g_goto (tgt := 15) C.1.1 dL_open_11 (by decide) ?_
    refine gJ.sub [] rfl ?_
    exact wkL_open_15 hfl C hsz hR hret _ _ _ hw
theorem hdL_open : yL_open.cls ≠ "java/lang/invoke/MethodHandle" ∧ yL_open.cls ≠ "java/lang/invoke/VarHandle" ∧ (parseMethodDescriptor yL_open.desc).map (fun d => d.parameters.length) = some 3 := by decide +kernel
theorem cL_open_c (l : Launch) (hfl : l.stackTraces = false) (G : cG) (lc : ClassId) (oa : Nat) (s : hSt) (v0 : Nat) (v1 : Int32) (post : Int32 → hSt → Prop) (hw : wpL_open_0 post s v0 v1) : hM l yL_open cL_open 4 [(0, 16, 19, 13)] 8 188 1 6 G lc oa s [.ref v0, .int v1, .ref oa] post := hM_of (by decide +kernel) rfl (Nat.le_of_ble_eq_true rfl) (fun X A H0 Q hl hR hsz C hret => wkL_open_0 (by rw [hl]; exact hfl) C hsz hR hret s v0 v1 hw)
def wpL_runs_15 (post : Int32 → hSt → Prop) (s : hSt) (w1 : Int32) (w2 : Int64) : Prop := vp_in w1 1 ∧ post 0 (s.1, vp_updL s.2 w1.toNatClampNeg w2)
def wpL_runs_0 (post : Int32 → hSt → Prop) (s : hSt) (v0 : Nat) (v1 : Int32) : Prop := cAt s.1 7 v0 ∧ wpC_X7_runs_0 (fun r2 t1 => (r2 = 0 → wpL_runs_15 post (t1, s.2) 0 0) ∧ (¬ r2 = 0 → wpL_runs_15 post (t1, s.2) 0 1)) (fun E t1 => (E = "java/lang/IndexOutOfBoundsException" ∧ post 1 (t1, s.2))) s.1 v0 v1
theorem wkL_runs_15 {X : gT} {G : cG} {lc : ClassId} {oa : Nat} {A : Nat → Prop} {H0 : Heap} {Q : State → Prop} (hfl : (g_l X).stackTraces = false) (C : hC X cL_runs 4 [(0, 16, 19, 13)] G lc A) (hsz : H0 = (g_s X).heap) (hR : 8 ≤ (g_R X).frames ∧ 131 ≤ (g_R X).locals ∧ 1 ≤ (g_R X).cells ∧ 6 ≤ (g_R X).slots) {post : Int32 → hSt → Prop} (hret : ∀ (r : Int32) (τ : hSt) (lv : List (Nat × Value)) (pc : Nat), post r τ → narrow .int (.int r) = .int r → decode cL_runs pc = .ok (.ireturn, 1) → gJ X (hWd G lc oa A H0) Q 1 6 τ lv pc [.int r]) (s : hSt) (w1 : Int32) (w2 : Int64) (hw : wpL_runs_15 post s w1 w2) : gJ X (hWd G lc oa A H0) Q (0 + 1) (0 + 6) s [] 15 [.long w2, .int w1, .ref oa] := by
  refine h_put C.1 hw.1 dL_runs_15 ?_
  replace hw := hw.2
  refine g_goto (tgt := 22) C.1.1 dL_runs_16 (by decide) ?_
  refine g_iconst (v := 0) C.1.1 dL_runs_22 (by decide) ?_
  refine gJ.widen (Nat.le_of_eq (Nat.zero_add _)) (Nat.le_of_eq (Nat.zero_add _)) ?_
  exact hret _ _ _ _ hw rfl dL_runs_23
theorem wkL_runs_0 {X : gT} {G : cG} {lc : ClassId} {oa : Nat} {A : Nat → Prop} {H0 : Heap} {Q : State → Prop} (hfl : (g_l X).stackTraces = false) (C : hC X cL_runs 4 [(0, 16, 19, 13)] G lc A) (hsz : H0 = (g_s X).heap) (hR : 8 ≤ (g_R X).frames ∧ 131 ≤ (g_R X).locals ∧ 1 ≤ (g_R X).cells ∧ 6 ≤ (g_R X).slots) {post : Int32 → hSt → Prop} (hret : ∀ (r : Int32) (τ : hSt) (lv : List (Nat × Value)) (pc : Nat), post r τ → narrow .int (.int r) = .int r → decode cL_runs pc = .ok (.ireturn, 1) → gJ X (hWd G lc oa A H0) Q 1 6 τ lv pc [.int r]) (s : hSt) (v0 : Nat) (v1 : Int32) (hw : wpL_runs_0 post s v0 v1) : gJ X (hWd G lc oa A H0) Q 0 0 s [(0, .ref v0), (1, .int v1), (2, .ref oa)] 0 [] := by
  refine g_aload_n C.1.1 2 dL_runs_0 rfl rfl ?_
  refine g_iconst (v := 0) C.1.1 dL_runs_1 (by decide) ?_
  refine g_aload_n C.1.1 0 dL_runs_2 rfl rfl ?_
  refine g_iload_n C.1.1 1 dL_runs_3 rfl rfl ?_
  refine e_throwVi (vs := [.int v1]) C.1 hsz (cC_X7_runs (g_l X) hfl G _ _ _ _ _ hw.2) kL_24 kL_25 kL_26 (kL_C _ kC_467) hdC_X7_runs hw.1 ⟨Nat.le_trans (Nat.le_of_ble_eq_true rfl) hR.1, Nat.le_trans (Nat.le_of_ble_eq_true rfl) hR.2.1⟩ ⟨Nat.le_trans (Nat.le_of_eq (Nat.zero_add _)) hR.2.2.1, Nat.le_trans (Nat.le_of_eq (Nat.zero_add _)) hR.2.2.2⟩ dL_runs_4 rfl (Nat.le_of_ble_eq_true rfl) (fun E t1 hw => ?_) (fun r2 t1 hw => ?_)
  · rcases hw with ⟨rfl, hw⟩
    refine e_catch (pre := []) (x := (0, 16, 19, 13)) (suf := []) C.1 C.2 rfl ⟨by decide, by decide⟩ (by decide) kL_0 (C.1.2.2.2.2.2.2.2.1 0 (by decide)) (fun _ h => absurd h List.not_mem_nil) (fun q4 => ?_)
    refine g_astore_n (lv' := [(3, .ref q4), (0, .ref v0), (1, .int v1), (2, .ref oa)]) C.1.1 dL_runs_19 rfl (by decide) rfl ?_
    refine g_iconst (v := 1) C.1.1 dL_runs_20 (by decide) ?_
    refine gJ.widen (Nat.le_of_eq (Nat.zero_add _)) (Nat.le_of_eq (Nat.zero_add _)) ?_
    exact hret _ _ _ _ hw rfl dL_runs_21
  refine g_if_eq (tgt := 14) C.1.1 dL_runs_7 (by decide) (fun h3 => ?_) (fun h3 => ?_)
  · replace hw := hw.1 h3
    refine g_lconst (v := 0) C.1.1 dL_runs_14 (by decide) ?_
    refine gJ.sub [] rfl ?_
    exact wkL_runs_15 hfl C hsz hR hret _ _ _ hw
  · replace hw := hw.2 h3
    refine g_lconst (v := 1) C.1.1 dL_runs_10 (by decide) ?_
    refine g_goto (tgt := 15) C.1.1 dL_runs_11 (by decide) ?_
    refine gJ.sub [] rfl ?_
    exact wkL_runs_15 hfl C hsz hR hret _ _ _ hw
theorem hdL_runs : yL_runs.cls ≠ "java/lang/invoke/MethodHandle" ∧ yL_runs.cls ≠ "java/lang/invoke/VarHandle" ∧ (parseMethodDescriptor yL_runs.desc).map (fun d => d.parameters.length) = some 3 := by decide +kernel
theorem cL_runs_c (l : Launch) (hfl : l.stackTraces = false) (G : cG) (lc : ClassId) (oa : Nat) (s : hSt) (v0 : Nat) (v1 : Int32) (post : Int32 → hSt → Prop) (hw : wpL_runs_0 post s v0 v1) : hM l yL_runs cL_runs 4 [(0, 16, 19, 13)] 8 131 1 6 G lc oa s [.ref v0, .int v1, .ref oa] post := hM_of (by decide +kernel) rfl (Nat.le_of_ble_eq_true rfl) (fun X A H0 Q hl hR hsz C hret => wkL_runs_0 (by rw [hl]; exact hfl) C hsz hR hret s v0 v1 hw)
def wpL_wind_0 (post : Int32 → hSt → Prop) (s : hSt) (v0 : Nat) (v1 : Int32) : Prop := cAt s.1 7 v0 ∧ wpC_X7_wind_0 (fun t1 => post 0 (t1, s.2)) (fun E t1 => (E = "java/lang/IllegalArgumentException" ∧ post 1 (t1, s.2))) s.1 v0 v1
theorem wkL_wind_0 {X : gT} {G : cG} {lc : ClassId} {oa : Nat} {A : Nat → Prop} {H0 : Heap} {Q : State → Prop} (hfl : (g_l X).stackTraces = false) (C : hC X cL_wind 3 [(0, 5, 8, 15)] G lc A) (hsz : H0 = (g_s X).heap) (hR : 8 ≤ (g_R X).frames ∧ 132 ≤ (g_R X).locals ∧ 1 ≤ (g_R X).cells ∧ 6 ≤ (g_R X).slots) {post : Int32 → hSt → Prop} (hret : ∀ (r : Int32) (τ : hSt) (lv : List (Nat × Value)) (pc : Nat), post r τ → narrow .int (.int r) = .int r → decode cL_wind pc = .ok (.ireturn, 1) → gJ X (hWd G lc oa A H0) Q 1 6 τ lv pc [.int r]) (s : hSt) (v0 : Nat) (v1 : Int32) (hw : wpL_wind_0 post s v0 v1) : gJ X (hWd G lc oa A H0) Q 0 0 s [(0, .ref v0), (1, .int v1)] 0 [] := by
  refine g_aload_n C.1.1 0 dL_wind_0 rfl rfl ?_
  refine g_iload_n C.1.1 1 dL_wind_1 rfl rfl ?_
  refine e_throwVv (vs := [.int v1]) C.1 hsz (cC_X7_wind (g_l X) hfl G _ _ _ _ _ hw.2) kL_28 kL_29 kL_30 (kL_C _ kC_468) hdC_X7_wind hw.1 ⟨Nat.le_trans (Nat.le_of_ble_eq_true rfl) hR.1, Nat.le_trans (Nat.le_of_ble_eq_true rfl) hR.2.1⟩ ⟨Nat.le_trans (Nat.le_of_eq (Nat.zero_add _)) hR.2.2.1, Nat.le_trans (Nat.le_of_eq (Nat.zero_add _)) hR.2.2.2⟩ dL_wind_2 rfl (Nat.le_of_ble_eq_true rfl) (fun E t1 hw => ?_) (fun t1 hw => ?_)
  · rcases hw with ⟨rfl, hw⟩
    refine e_catch (pre := []) (x := (0, 5, 8, 15)) (suf := []) C.1 C.2 rfl ⟨by decide, by decide⟩ (by decide) kL_1 (C.1.2.2.2.2.2.2.2.1 1 (by decide)) (fun _ h => absurd h List.not_mem_nil) (fun q3 => ?_)
    refine g_astore_n (lv' := [(2, .ref q3), (0, .ref v0), (1, .int v1)]) C.1.1 dL_wind_8 rfl (by decide) rfl ?_
    refine g_iconst (v := 1) C.1.1 dL_wind_9 (by decide) ?_
    refine gJ.widen (Nat.le_of_eq (Nat.zero_add _)) (Nat.le_of_eq (Nat.zero_add _)) ?_
    exact hret _ _ _ _ hw rfl dL_wind_10
  refine g_goto (tgt := 11) C.1.1 dL_wind_5 (by decide) ?_
  refine g_iconst (v := 0) C.1.1 dL_wind_11 (by decide) ?_
  refine gJ.widen (Nat.le_of_eq (Nat.zero_add _)) (Nat.le_of_eq (Nat.zero_add _)) ?_
  exact hret _ _ _ _ hw rfl dL_wind_12
theorem hdL_wind : yL_wind.cls ≠ "java/lang/invoke/MethodHandle" ∧ yL_wind.cls ≠ "java/lang/invoke/VarHandle" ∧ (parseMethodDescriptor yL_wind.desc).map (fun d => d.parameters.length) = some 2 := by decide +kernel
theorem cL_wind_c (l : Launch) (hfl : l.stackTraces = false) (G : cG) (lc : ClassId) (oa : Nat) (s : hSt) (v0 : Nat) (v1 : Int32) (post : Int32 → hSt → Prop) (hw : wpL_wind_0 post s v0 v1) : hM l yL_wind cL_wind 3 [(0, 5, 8, 15)] 8 132 1 6 G lc oa s [.ref v0, .int v1] post := hM_of (by decide +kernel) rfl (Nat.le_of_ble_eq_true rfl) (fun X A H0 Q hl hR hsz C hret => wkL_wind_0 (by rw [hl]; exact hfl) C hsz hR hret s v0 v1 hw)
def wpL_stop_16 (post : Int32 → hSt → Prop) (s : hSt) (w1 : Int32) (w2 : Int64) : Prop := vp_in w1 1 ∧ post 0 (s.1, vp_updL s.2 w1.toNatClampNeg w2)
def wpL_stop_0 (post : Int32 → hSt → Prop) (s : hSt) (v0 : Nat) (v1 : Int32) (v2 : Int32) : Prop := cAt s.1 7 v0 ∧ wpC_X7_stop_0 (fun r2 t1 => (r2 = 0 → wpL_stop_16 post (t1, s.2) 0 0) ∧ (¬ r2 = 0 → wpL_stop_16 post (t1, s.2) 0 1)) (fun E t1 => (E = "java/lang/IndexOutOfBoundsException" ∧ post 1 (t1, s.2))) s.1 v0 v1 v2
theorem wkL_stop_16 {X : gT} {G : cG} {lc : ClassId} {oa : Nat} {A : Nat → Prop} {H0 : Heap} {Q : State → Prop} (hfl : (g_l X).stackTraces = false) (C : hC X cL_stop 5 [(0, 17, 20, 13)] G lc A) (hsz : H0 = (g_s X).heap) (hR : 8 ≤ (g_R X).frames ∧ 134 ≤ (g_R X).locals ∧ 1 ≤ (g_R X).cells ∧ 6 ≤ (g_R X).slots) {post : Int32 → hSt → Prop} (hret : ∀ (r : Int32) (τ : hSt) (lv : List (Nat × Value)) (pc : Nat), post r τ → narrow .int (.int r) = .int r → decode cL_stop pc = .ok (.ireturn, 1) → gJ X (hWd G lc oa A H0) Q 1 6 τ lv pc [.int r]) (s : hSt) (w1 : Int32) (w2 : Int64) (hw : wpL_stop_16 post s w1 w2) : gJ X (hWd G lc oa A H0) Q (0 + 1) (0 + 6) s [] 16 [.long w2, .int w1, .ref oa] := by
  refine h_put C.1 hw.1 dL_stop_16 ?_
  replace hw := hw.2
  refine g_goto (tgt := 24) C.1.1 dL_stop_17 (by decide) ?_
  refine g_iconst (v := 0) C.1.1 dL_stop_24 (by decide) ?_
  refine gJ.widen (Nat.le_of_eq (Nat.zero_add _)) (Nat.le_of_eq (Nat.zero_add _)) ?_
  exact hret _ _ _ _ hw rfl dL_stop_25
theorem wkL_stop_0 {X : gT} {G : cG} {lc : ClassId} {oa : Nat} {A : Nat → Prop} {H0 : Heap} {Q : State → Prop} (hfl : (g_l X).stackTraces = false) (C : hC X cL_stop 5 [(0, 17, 20, 13)] G lc A) (hsz : H0 = (g_s X).heap) (hR : 8 ≤ (g_R X).frames ∧ 134 ≤ (g_R X).locals ∧ 1 ≤ (g_R X).cells ∧ 6 ≤ (g_R X).slots) {post : Int32 → hSt → Prop} (hret : ∀ (r : Int32) (τ : hSt) (lv : List (Nat × Value)) (pc : Nat), post r τ → narrow .int (.int r) = .int r → decode cL_stop pc = .ok (.ireturn, 1) → gJ X (hWd G lc oa A H0) Q 1 6 τ lv pc [.int r]) (s : hSt) (v0 : Nat) (v1 : Int32) (v2 : Int32) (hw : wpL_stop_0 post s v0 v1 v2) : gJ X (hWd G lc oa A H0) Q 0 0 s [(0, .ref v0), (1, .int v1), (2, .int v2), (3, .ref oa)] 0 [] := by
  refine g_aload_n C.1.1 3 dL_stop_0 rfl rfl ?_
  refine g_iconst (v := 0) C.1.1 dL_stop_1 (by decide) ?_
  refine g_aload_n C.1.1 0 dL_stop_2 rfl rfl ?_
  refine g_iload_n C.1.1 1 dL_stop_3 rfl rfl ?_
  refine g_iload_n C.1.1 2 dL_stop_4 rfl rfl ?_
  refine e_throwVi (vs := [.int v1, .int v2]) C.1 hsz (cC_X7_stop (g_l X) hfl G _ _ _ _ _ _ hw.2) kL_32 kL_33 kL_34 (kL_C _ kC_469) hdC_X7_stop hw.1 ⟨Nat.le_trans (Nat.le_of_ble_eq_true rfl) hR.1, Nat.le_trans (Nat.le_of_ble_eq_true rfl) hR.2.1⟩ ⟨Nat.le_trans (Nat.le_of_eq (Nat.zero_add _)) hR.2.2.1, Nat.le_trans (Nat.le_of_eq (Nat.zero_add _)) hR.2.2.2⟩ dL_stop_5 rfl (Nat.le_of_ble_eq_true rfl) (fun E t1 hw => ?_) (fun r2 t1 hw => ?_)
  · rcases hw with ⟨rfl, hw⟩
    refine e_catch (pre := []) (x := (0, 17, 20, 13)) (suf := []) C.1 C.2 rfl ⟨by decide, by decide⟩ (by decide) kL_0 (C.1.2.2.2.2.2.2.2.1 0 (by decide)) (fun _ h => absurd h List.not_mem_nil) (fun q4 => ?_)
    refine g_astore (lv' := [(4, .ref q4), (0, .ref v0), (1, .int v1), (2, .int v2), (3, .ref oa)]) C.1.1 dL_stop_20 (by decide) rfl ?_
    refine g_iconst (v := 1) C.1.1 dL_stop_22 (by decide) ?_
    refine gJ.widen (Nat.le_of_eq (Nat.zero_add _)) (Nat.le_of_eq (Nat.zero_add _)) ?_
    exact hret _ _ _ _ hw rfl dL_stop_23
  refine g_if_eq (tgt := 15) C.1.1 dL_stop_8 (by decide) (fun h3 => ?_) (fun h3 => ?_)
  · replace hw := hw.1 h3
    refine g_lconst (v := 0) C.1.1 dL_stop_15 (by decide) ?_
    refine gJ.sub [] rfl ?_
    exact wkL_stop_16 hfl C hsz hR hret _ _ _ hw
  · replace hw := hw.2 h3
    refine g_lconst (v := 1) C.1.1 dL_stop_11 (by decide) ?_
    refine g_goto (tgt := 16) C.1.1 dL_stop_12 (by decide) ?_
    refine gJ.sub [] rfl ?_
    exact wkL_stop_16 hfl C hsz hR hret _ _ _ hw
theorem hdL_stop : yL_stop.cls ≠ "java/lang/invoke/MethodHandle" ∧ yL_stop.cls ≠ "java/lang/invoke/VarHandle" ∧ (parseMethodDescriptor yL_stop.desc).map (fun d => d.parameters.length) = some 4 := by decide +kernel
theorem cL_stop_c (l : Launch) (hfl : l.stackTraces = false) (G : cG) (lc : ClassId) (oa : Nat) (s : hSt) (v0 : Nat) (v1 : Int32) (v2 : Int32) (post : Int32 → hSt → Prop) (hw : wpL_stop_0 post s v0 v1 v2) : hM l yL_stop cL_stop 5 [(0, 17, 20, 13)] 8 134 1 6 G lc oa s [.ref v0, .int v1, .int v2, .ref oa] post := hM_of (by decide +kernel) rfl (Nat.le_of_ble_eq_true rfl) (fun X A H0 Q hl hR hsz C hret => wkL_stop_0 (by rw [hl]; exact hfl) C hsz hR hret s v0 v1 v2 hw)
def wpL_group_0 (mc ms : Nat) (post : Int32 → hSt → Prop) (s : hSt) (v0 : Nat) (v1 : Int32) (v2 : Int32) (v3 : Int32) : Prop := cAt s.1 7 v0 ∧ wpC_X7_group_0 mc ms (fun r2 t1 => post 0 (t1, vp_updL s.2 0 r2.toInt64)) (fun E t1 => (E = "java/lang/IndexOutOfBoundsException" ∧ post 1 (t1, s.2)) ∨ (E = "java/lang/IllegalArgumentException" ∧ post 2 (t1, s.2)) ∨ (E = "java/lang/UnsupportedOperationException" ∧ post 3 (t1, s.2))) s.1 v0 v1 v2 v3
theorem wkL_group_0 {mc ms : Nat} {X : gT} {G : cG} {lc : ClassId} {oa : Nat} {A : Nat → Prop} {H0 : Heap} {Q : State → Prop} (hfl : (g_l X).stackTraces = false) (C : hC X cL_group 6 [(0, 12, 15, 13), (0, 12, 19, 15), (0, 12, 23, 17)] G lc A) (hsz : H0 = (g_s X).heap) (hR : 8 ≤ (g_R X).frames ∧ 215 ≤ (g_R X).locals ∧ mc ≤ (g_R X).cells ∧ ms ≤ (g_R X).slots) (hm : 1 ≤ mc ∧ 6 ≤ ms) {post : Int32 → hSt → Prop} (hret : ∀ (r : Int32) (τ : hSt) (lv : List (Nat × Value)) (pc : Nat), post r τ → narrow .int (.int r) = .int r → decode cL_group pc = .ok (.ireturn, 1) → gJ X (hWd G lc oa A H0) Q mc ms τ lv pc [.int r]) (s : hSt) (v0 : Nat) (v1 : Int32) (v2 : Int32) (v3 : Int32) (hw : wpL_group_0 mc ms post s v0 v1 v2 v3) : gJ X (hWd G lc oa A H0) Q 0 0 s [(0, .ref v0), (1, .int v1), (2, .int v2), (3, .int v3), (4, .ref oa)] 0 [] := by
  refine g_aload C.1.1 4 dL_group_0 rfl ?_
  refine g_iconst (v := 0) C.1.1 dL_group_2 (by decide) ?_
  refine g_aload_n C.1.1 0 dL_group_3 rfl rfl ?_
  refine g_iload_n C.1.1 1 dL_group_4 rfl rfl ?_
  refine g_iload_n C.1.1 2 dL_group_5 rfl rfl ?_
  refine g_iload_n C.1.1 3 dL_group_6 rfl rfl ?_
  refine e_throwVi (vs := [.int v1, .int v2, .int v3]) C.1 hsz (cC_X7_group mc ms (g_l X) hfl G _ _ _ _ _ _ _ hm hw.2) kL_36 kL_37 kL_38 (kL_C _ kC_535) hdC_X7_group hw.1 ⟨Nat.le_trans (Nat.le_of_ble_eq_true rfl) hR.1, Nat.le_trans (Nat.le_of_ble_eq_true rfl) hR.2.1⟩ ⟨Nat.le_trans (Nat.le_of_eq (Nat.zero_add _)) hR.2.2.1, Nat.le_trans (Nat.le_of_eq (Nat.zero_add _)) hR.2.2.2⟩ dL_group_7 rfl (Nat.le_of_ble_eq_true rfl) (fun E t1 hw => ?_) (fun r2 t1 hw => ?_)
  · rcases hw with ⟨rfl, hw⟩ | ⟨rfl, hw⟩ | ⟨rfl, hw⟩
    · refine e_catch (pre := []) (x := (0, 12, 15, 13)) (suf := [(0, 12, 19, 15), (0, 12, 23, 17)]) C.1 C.2 rfl ⟨by decide, by decide⟩ (by decide) kL_0 (C.1.2.2.2.2.2.2.2.1 0 (by decide)) (fun _ h => absurd h List.not_mem_nil) (fun q3 => ?_)
      refine g_astore (lv' := [(5, .ref q3), (0, .ref v0), (1, .int v1), (2, .int v2), (3, .int v3), (4, .ref oa)]) C.1.1 dL_group_15 (by decide) rfl ?_
      refine g_iconst (v := 1) C.1.1 dL_group_17 (by decide) ?_
      refine gJ.widen (Nat.le_of_eq (Nat.zero_add _)) (Nat.le_of_eq (Nat.zero_add _)) ?_
      exact hret _ _ _ _ hw rfl dL_group_18
    · refine e_catch (pre := [(0, 12, 15, 13)]) (x := (0, 12, 19, 15)) (suf := [(0, 12, 23, 17)]) C.1 C.2 rfl ⟨by decide, by decide⟩ (by decide) kL_1 (C.1.2.2.2.2.2.2.2.1 1 (by decide)) (List.forall_mem_cons.mpr ⟨⟨by decide, _, kL_0, C.1.2.2.2.2.2.2.2.2 1 0 (by decide) (by decide) (by decide)⟩, fun _ h => absurd h List.not_mem_nil⟩) (fun q4 => ?_)
      refine g_astore (lv' := [(5, .ref q4), (0, .ref v0), (1, .int v1), (2, .int v2), (3, .int v3), (4, .ref oa)]) C.1.1 dL_group_19 (by decide) rfl ?_
      refine g_iconst (v := 2) C.1.1 dL_group_21 (by decide) ?_
      refine gJ.widen (Nat.le_of_eq (Nat.zero_add _)) (Nat.le_of_eq (Nat.zero_add _)) ?_
      exact hret _ _ _ _ hw rfl dL_group_22
    · refine e_catch (pre := [(0, 12, 15, 13), (0, 12, 19, 15)]) (x := (0, 12, 23, 17)) (suf := []) C.1 C.2 rfl ⟨by decide, by decide⟩ (by decide) kL_2 (C.1.2.2.2.2.2.2.2.1 2 (by decide)) (List.forall_mem_cons.mpr ⟨⟨by decide, _, kL_0, C.1.2.2.2.2.2.2.2.2 2 0 (by decide) (by decide) (by decide)⟩, List.forall_mem_cons.mpr ⟨⟨by decide, _, kL_1, C.1.2.2.2.2.2.2.2.2 2 1 (by decide) (by decide) (by decide)⟩, fun _ h => absurd h List.not_mem_nil⟩⟩) (fun q5 => ?_)
      refine g_astore (lv' := [(5, .ref q5), (0, .ref v0), (1, .int v1), (2, .int v2), (3, .int v3), (4, .ref oa)]) C.1.1 dL_group_23 (by decide) rfl ?_
      refine g_iconst (v := 3) C.1.1 dL_group_25 (by decide) ?_
      refine gJ.widen (Nat.le_of_eq (Nat.zero_add _)) (Nat.le_of_eq (Nat.zero_add _)) ?_
      exact hret _ _ _ _ hw rfl dL_group_26
  refine g_i2l C.1.1 dL_group_10 ?_
  refine h_put C.1 h_in0 dL_group_11 ?_
  refine g_goto (tgt := 27) C.1.1 dL_group_12 (by decide) ?_
  refine g_iconst (v := 0) C.1.1 dL_group_27 (by decide) ?_
  refine gJ.widen (Nat.le_of_eq (Nat.zero_add _)) (Nat.le_of_eq (Nat.zero_add _)) ?_
  exact hret _ _ _ _ hw rfl dL_group_28
theorem hdL_group : yL_group.cls ≠ "java/lang/invoke/MethodHandle" ∧ yL_group.cls ≠ "java/lang/invoke/VarHandle" ∧ (parseMethodDescriptor yL_group.desc).map (fun d => d.parameters.length) = some 5 := by decide +kernel
theorem cL_group_c (mc ms : Nat) (l : Launch) (hfl : l.stackTraces = false) (G : cG) (lc : ClassId) (oa : Nat) (s : hSt) (v0 : Nat) (v1 : Int32) (v2 : Int32) (v3 : Int32) (post : Int32 → hSt → Prop) (hm : 1 ≤ mc ∧ 6 ≤ ms) (hw : wpL_group_0 mc ms post s v0 v1 v2 v3) : hM l yL_group cL_group 6 [(0, 12, 15, 13), (0, 12, 19, 15), (0, 12, 23, 17)] 8 215 mc ms G lc oa s [.ref v0, .int v1, .int v2, .int v3, .ref oa] post := hM_of (by decide +kernel) rfl (Nat.le_of_ble_eq_true rfl) (fun X A H0 Q hl hR hsz C hret => wkL_group_0 (by rw [hl]; exact hfl) C hsz hR hm hret s v0 v1 v2 v3 hw)
def wpL_step_0 (mc ms : Nat) (post : Int32 → hSt → Prop) (s : hSt) (v0 : Nat) (v1 : Int32) : Prop := cAt s.1 7 v0 ∧ wpC_X7_step_0 mc ms (fun r2 t1 => post 0 (t1, vp_updL s.2 0 r2.toInt64)) (fun E t1 => (E = "java/lang/IllegalArgumentException" ∧ post 1 (t1, s.2))) s.1 v0 v1
theorem wkL_step_0 {mc ms : Nat} {X : gT} {G : cG} {lc : ClassId} {oa : Nat} {A : Nat → Prop} {H0 : Heap} {Q : State → Prop} (hfl : (g_l X).stackTraces = false) (C : hC X cL_step 4 [(0, 9, 12, 15)] G lc A) (hsz : H0 = (g_s X).heap) (hR : 12 ≤ (g_R X).frames ∧ 303 ≤ (g_R X).locals ∧ mc ≤ (g_R X).cells ∧ ms ≤ (g_R X).slots) (hm : 1 ≤ mc ∧ 6 ≤ ms) {post : Int32 → hSt → Prop} (hret : ∀ (r : Int32) (τ : hSt) (lv : List (Nat × Value)) (pc : Nat), post r τ → narrow .int (.int r) = .int r → decode cL_step pc = .ok (.ireturn, 1) → gJ X (hWd G lc oa A H0) Q mc ms τ lv pc [.int r]) (s : hSt) (v0 : Nat) (v1 : Int32) (hw : wpL_step_0 mc ms post s v0 v1) : gJ X (hWd G lc oa A H0) Q 0 0 s [(0, .ref v0), (1, .int v1), (2, .ref oa)] 0 [] := by
  refine g_aload_n C.1.1 2 dL_step_0 rfl rfl ?_
  refine g_iconst (v := 0) C.1.1 dL_step_1 (by decide) ?_
  refine g_aload_n C.1.1 0 dL_step_2 rfl rfl ?_
  refine g_iload_n C.1.1 1 dL_step_3 rfl rfl ?_
  refine e_throwVi (vs := [.int v1]) C.1 hsz (cC_X7_step mc ms (g_l X) hfl G _ _ _ _ _ hm hw.2) kL_40 kL_41 kL_42 (kL_C _ kC_584) hdC_X7_step hw.1 ⟨Nat.le_trans (Nat.le_of_ble_eq_true rfl) hR.1, Nat.le_trans (Nat.le_of_ble_eq_true rfl) hR.2.1⟩ ⟨Nat.le_trans (Nat.le_of_eq (Nat.zero_add _)) hR.2.2.1, Nat.le_trans (Nat.le_of_eq (Nat.zero_add _)) hR.2.2.2⟩ dL_step_4 rfl (Nat.le_of_ble_eq_true rfl) (fun E t1 hw => ?_) (fun r2 t1 hw => ?_)
  · rcases hw with ⟨rfl, hw⟩
    refine e_catch (pre := []) (x := (0, 9, 12, 15)) (suf := []) C.1 C.2 rfl ⟨by decide, by decide⟩ (by decide) kL_1 (C.1.2.2.2.2.2.2.2.1 1 (by decide)) (fun _ h => absurd h List.not_mem_nil) (fun q3 => ?_)
    refine g_astore_n (lv' := [(3, .ref q3), (0, .ref v0), (1, .int v1), (2, .ref oa)]) C.1.1 dL_step_12 rfl (by decide) rfl ?_
    refine g_iconst (v := 1) C.1.1 dL_step_13 (by decide) ?_
    refine gJ.widen (Nat.le_of_eq (Nat.zero_add _)) (Nat.le_of_eq (Nat.zero_add _)) ?_
    exact hret _ _ _ _ hw rfl dL_step_14
  refine g_i2l C.1.1 dL_step_7 ?_
  refine h_put C.1 h_in0 dL_step_8 ?_
  refine g_goto (tgt := 15) C.1.1 dL_step_9 (by decide) ?_
  refine g_iconst (v := 0) C.1.1 dL_step_15 (by decide) ?_
  refine gJ.widen (Nat.le_of_eq (Nat.zero_add _)) (Nat.le_of_eq (Nat.zero_add _)) ?_
  exact hret _ _ _ _ hw rfl dL_step_16
theorem hdL_step : yL_step.cls ≠ "java/lang/invoke/MethodHandle" ∧ yL_step.cls ≠ "java/lang/invoke/VarHandle" ∧ (parseMethodDescriptor yL_step.desc).map (fun d => d.parameters.length) = some 3 := by decide +kernel
theorem cL_step_c (mc ms : Nat) (l : Launch) (hfl : l.stackTraces = false) (G : cG) (lc : ClassId) (oa : Nat) (s : hSt) (v0 : Nat) (v1 : Int32) (post : Int32 → hSt → Prop) (hm : 1 ≤ mc ∧ 6 ≤ ms) (hw : wpL_step_0 mc ms post s v0 v1) : hM l yL_step cL_step 4 [(0, 9, 12, 15)] 12 303 mc ms G lc oa s [.ref v0, .int v1, .ref oa] post := hM_of (by decide +kernel) rfl (Nat.le_of_ble_eq_true rfl) (fun X A H0 Q hl hR hsz C hret => wkL_step_0 (by rw [hl]; exact hfl) C hsz hR hm hret s v0 v1 hw)
def wpL_look_0 (post : Int32 → hSt → Prop) (s : hSt) (v0 : Nat) (v1 : Int32) (v2 : Int32) : Prop := cAt s.1 7 v0 ∧ wpC_X7_look_0 (fun r2 t1 => post 0 (t1, vp_updL s.2 0 r2.toInt64)) (fun E t1 => (E = "java/lang/IndexOutOfBoundsException" ∧ post 1 (t1, s.2)) ∨ (E = "java/util/NoSuchElementException" ∧ post 2 (t1, s.2))) s.1 v0 v1 v2
theorem wkL_look_0 {X : gT} {G : cG} {lc : ClassId} {oa : Nat} {A : Nat → Prop} {H0 : Heap} {Q : State → Prop} (hfl : (g_l X).stackTraces = false) (C : hC X cL_look 5 [(0, 10, 13, 13), (0, 10, 17, 57)] G lc A) (hsz : H0 = (g_s X).heap) (hR : 7 ≤ (g_R X).frames ∧ 112 ≤ (g_R X).locals ∧ 1 ≤ (g_R X).cells ∧ 6 ≤ (g_R X).slots) {post : Int32 → hSt → Prop} (hret : ∀ (r : Int32) (τ : hSt) (lv : List (Nat × Value)) (pc : Nat), post r τ → narrow .int (.int r) = .int r → decode cL_look pc = .ok (.ireturn, 1) → gJ X (hWd G lc oa A H0) Q 1 6 τ lv pc [.int r]) (s : hSt) (v0 : Nat) (v1 : Int32) (v2 : Int32) (hw : wpL_look_0 post s v0 v1 v2) : gJ X (hWd G lc oa A H0) Q 0 0 s [(0, .ref v0), (1, .int v1), (2, .int v2), (3, .ref oa)] 0 [] := by
  refine g_aload_n C.1.1 3 dL_look_0 rfl rfl ?_
  refine g_iconst (v := 0) C.1.1 dL_look_1 (by decide) ?_
  refine g_aload_n C.1.1 0 dL_look_2 rfl rfl ?_
  refine g_iload_n C.1.1 1 dL_look_3 rfl rfl ?_
  refine g_iload_n C.1.1 2 dL_look_4 rfl rfl ?_
  refine e_throwVi (vs := [.int v1, .int v2]) C.1 hsz (cC_X7_look (g_l X) hfl G _ _ _ _ _ _ hw.2) kL_45 kL_46 kL_47 (kL_C _ kC_590) hdC_X7_look hw.1 ⟨Nat.le_trans (Nat.le_of_ble_eq_true rfl) hR.1, Nat.le_trans (Nat.le_of_ble_eq_true rfl) hR.2.1⟩ ⟨Nat.le_trans (Nat.le_of_eq (Nat.zero_add _)) hR.2.2.1, Nat.le_trans (Nat.le_of_eq (Nat.zero_add _)) hR.2.2.2⟩ dL_look_5 rfl (Nat.le_of_ble_eq_true rfl) (fun E t1 hw => ?_) (fun r2 t1 hw => ?_)
  · rcases hw with ⟨rfl, hw⟩ | ⟨rfl, hw⟩
    · refine e_catch (pre := []) (x := (0, 10, 13, 13)) (suf := [(0, 10, 17, 57)]) C.1 C.2 rfl ⟨by decide, by decide⟩ (by decide) kL_0 (C.1.2.2.2.2.2.2.2.1 0 (by decide)) (fun _ h => absurd h List.not_mem_nil) (fun q3 => ?_)
      refine g_astore (lv' := [(4, .ref q3), (0, .ref v0), (1, .int v1), (2, .int v2), (3, .ref oa)]) C.1.1 dL_look_13 (by decide) rfl ?_
      refine g_iconst (v := 1) C.1.1 dL_look_15 (by decide) ?_
      refine gJ.widen (Nat.le_of_eq (Nat.zero_add _)) (Nat.le_of_eq (Nat.zero_add _)) ?_
      exact hret _ _ _ _ hw rfl dL_look_16
    · refine e_catch (pre := [(0, 10, 13, 13)]) (x := (0, 10, 17, 57)) (suf := []) C.1 C.2 rfl ⟨by decide, by decide⟩ (by decide) kL_44 (C.1.2.2.2.2.2.2.2.1 4 (by decide)) (List.forall_mem_cons.mpr ⟨⟨by decide, _, kL_0, C.1.2.2.2.2.2.2.2.2 4 0 (by decide) (by decide) (by decide)⟩, fun _ h => absurd h List.not_mem_nil⟩) (fun q4 => ?_)
      refine g_astore (lv' := [(4, .ref q4), (0, .ref v0), (1, .int v1), (2, .int v2), (3, .ref oa)]) C.1.1 dL_look_17 (by decide) rfl ?_
      refine g_iconst (v := 2) C.1.1 dL_look_19 (by decide) ?_
      refine gJ.widen (Nat.le_of_eq (Nat.zero_add _)) (Nat.le_of_eq (Nat.zero_add _)) ?_
      exact hret _ _ _ _ hw rfl dL_look_20
  refine g_i2l C.1.1 dL_look_8 ?_
  refine h_put C.1 h_in0 dL_look_9 ?_
  refine g_goto (tgt := 21) C.1.1 dL_look_10 (by decide) ?_
  refine g_iconst (v := 0) C.1.1 dL_look_21 (by decide) ?_
  refine gJ.widen (Nat.le_of_eq (Nat.zero_add _)) (Nat.le_of_eq (Nat.zero_add _)) ?_
  exact hret _ _ _ _ hw rfl dL_look_22
theorem hdL_look : yL_look.cls ≠ "java/lang/invoke/MethodHandle" ∧ yL_look.cls ≠ "java/lang/invoke/VarHandle" ∧ (parseMethodDescriptor yL_look.desc).map (fun d => d.parameters.length) = some 4 := by decide +kernel
theorem cL_look_c (l : Launch) (hfl : l.stackTraces = false) (G : cG) (lc : ClassId) (oa : Nat) (s : hSt) (v0 : Nat) (v1 : Int32) (v2 : Int32) (post : Int32 → hSt → Prop) (hw : wpL_look_0 post s v0 v1 v2) : hM l yL_look cL_look 5 [(0, 10, 13, 13), (0, 10, 17, 57)] 7 112 1 6 G lc oa s [.ref v0, .int v1, .int v2, .ref oa] post := hM_of (by decide +kernel) rfl (Nat.le_of_ble_eq_true rfl) (fun X A H0 Q hl hR hsz C hret => wkL_look_0 (by rw [hl]; exact hfl) C hsz hR hret s v0 v1 v2 hw)
def wpL_row_0 (post : Int32 → hSt → Prop) (s : hSt) (v0 : Nat) (v1 : Int32) (v2 : Int32) : Prop := cAt s.1 7 v0 ∧ wpC_X7_row_0 (fun r2 t1 => post 0 (t1, vp_updL s.2 0 r2.toInt64)) (fun E t1 => (E = "java/lang/IndexOutOfBoundsException" ∧ post 1 (t1, s.2))) s.1 v0 v1 v2
theorem wkL_row_0 {X : gT} {G : cG} {lc : ClassId} {oa : Nat} {A : Nat → Prop} {H0 : Heap} {Q : State → Prop} (hfl : (g_l X).stackTraces = false) (C : hC X cL_row 5 [(0, 10, 13, 13)] G lc A) (hsz : H0 = (g_s X).heap) (hR : 8 ≤ (g_R X).frames ∧ 133 ≤ (g_R X).locals ∧ 1 ≤ (g_R X).cells ∧ 6 ≤ (g_R X).slots) {post : Int32 → hSt → Prop} (hret : ∀ (r : Int32) (τ : hSt) (lv : List (Nat × Value)) (pc : Nat), post r τ → narrow .int (.int r) = .int r → decode cL_row pc = .ok (.ireturn, 1) → gJ X (hWd G lc oa A H0) Q 1 6 τ lv pc [.int r]) (s : hSt) (v0 : Nat) (v1 : Int32) (v2 : Int32) (hw : wpL_row_0 post s v0 v1 v2) : gJ X (hWd G lc oa A H0) Q 0 0 s [(0, .ref v0), (1, .int v1), (2, .int v2), (3, .ref oa)] 0 [] := by
  refine g_aload_n C.1.1 3 dL_row_0 rfl rfl ?_
  refine g_iconst (v := 0) C.1.1 dL_row_1 (by decide) ?_
  refine g_aload_n C.1.1 0 dL_row_2 rfl rfl ?_
  refine g_iload_n C.1.1 1 dL_row_3 rfl rfl ?_
  refine g_iload_n C.1.1 2 dL_row_4 rfl rfl ?_
  refine e_throwVi (vs := [.int v1, .int v2]) C.1 hsz (cC_X7_row (g_l X) hfl G _ _ _ _ _ _ hw.2) kL_49 kL_50 kL_51 (kL_C _ kC_593) hdC_X7_row hw.1 ⟨Nat.le_trans (Nat.le_of_ble_eq_true rfl) hR.1, Nat.le_trans (Nat.le_of_ble_eq_true rfl) hR.2.1⟩ ⟨Nat.le_trans (Nat.le_of_eq (Nat.zero_add _)) hR.2.2.1, Nat.le_trans (Nat.le_of_eq (Nat.zero_add _)) hR.2.2.2⟩ dL_row_5 rfl (Nat.le_of_ble_eq_true rfl) (fun E t1 hw => ?_) (fun r2 t1 hw => ?_)
  · rcases hw with ⟨rfl, hw⟩
    refine e_catch (pre := []) (x := (0, 10, 13, 13)) (suf := []) C.1 C.2 rfl ⟨by decide, by decide⟩ (by decide) kL_0 (C.1.2.2.2.2.2.2.2.1 0 (by decide)) (fun _ h => absurd h List.not_mem_nil) (fun q3 => ?_)
    refine g_astore (lv' := [(4, .ref q3), (0, .ref v0), (1, .int v1), (2, .int v2), (3, .ref oa)]) C.1.1 dL_row_13 (by decide) rfl ?_
    refine g_iconst (v := 1) C.1.1 dL_row_15 (by decide) ?_
    refine gJ.widen (Nat.le_of_eq (Nat.zero_add _)) (Nat.le_of_eq (Nat.zero_add _)) ?_
    exact hret _ _ _ _ hw rfl dL_row_16
  refine g_i2l C.1.1 dL_row_8 ?_
  refine h_put C.1 h_in0 dL_row_9 ?_
  refine g_goto (tgt := 17) C.1.1 dL_row_10 (by decide) ?_
  refine g_iconst (v := 0) C.1.1 dL_row_17 (by decide) ?_
  refine gJ.widen (Nat.le_of_eq (Nat.zero_add _)) (Nat.le_of_eq (Nat.zero_add _)) ?_
  exact hret _ _ _ _ hw rfl dL_row_18
theorem hdL_row : yL_row.cls ≠ "java/lang/invoke/MethodHandle" ∧ yL_row.cls ≠ "java/lang/invoke/VarHandle" ∧ (parseMethodDescriptor yL_row.desc).map (fun d => d.parameters.length) = some 4 := by decide +kernel
theorem cL_row_c (l : Launch) (hfl : l.stackTraces = false) (G : cG) (lc : ClassId) (oa : Nat) (s : hSt) (v0 : Nat) (v1 : Int32) (v2 : Int32) (post : Int32 → hSt → Prop) (hw : wpL_row_0 post s v0 v1 v2) : hM l yL_row cL_row 5 [(0, 10, 13, 13)] 8 133 1 6 G lc oa s [.ref v0, .int v1, .int v2, .ref oa] post := hM_of (by decide +kernel) rfl (Nat.le_of_ble_eq_true rfl) (fun X A H0 Q hl hR hsz C hret => wkL_row_0 (by rw [hl]; exact hfl) C hsz hR hret s v0 v1 v2 hw)
def wpL_snow_0 (post : Int32 → hSt → Prop) (s : hSt) (v0 : Nat) (v1 : Int32) (v2 : Int32) (v3 : Int32) : Prop := cAt s.1 7 v0 ∧ wpC_X7_snow_0 (fun r2 t1 => post 0 (t1, vp_updL s.2 0 r2.toInt64)) (fun E t1 => (E = "java/lang/IndexOutOfBoundsException" ∧ post 1 (t1, s.2)) ∨ (E = "java/lang/IllegalArgumentException" ∧ post 2 (t1, s.2))) s.1 v0 v1 v2 v3
theorem wkL_snow_0 {X : gT} {G : cG} {lc : ClassId} {oa : Nat} {A : Nat → Prop} {H0 : Heap} {Q : State → Prop} (hfl : (g_l X).stackTraces = false) (C : hC X cL_snow 6 [(0, 12, 15, 13), (0, 12, 19, 15)] G lc A) (hsz : H0 = (g_s X).heap) (hR : 8 ≤ (g_R X).frames ∧ 135 ≤ (g_R X).locals ∧ 2 ≤ (g_R X).cells ∧ 12 ≤ (g_R X).slots) {post : Int32 → hSt → Prop} (hret : ∀ (r : Int32) (τ : hSt) (lv : List (Nat × Value)) (pc : Nat), post r τ → narrow .int (.int r) = .int r → decode cL_snow pc = .ok (.ireturn, 1) → gJ X (hWd G lc oa A H0) Q 2 12 τ lv pc [.int r]) (s : hSt) (v0 : Nat) (v1 : Int32) (v2 : Int32) (v3 : Int32) (hw : wpL_snow_0 post s v0 v1 v2 v3) : gJ X (hWd G lc oa A H0) Q 0 0 s [(0, .ref v0), (1, .int v1), (2, .int v2), (3, .int v3), (4, .ref oa)] 0 [] := by
  refine g_aload C.1.1 4 dL_snow_0 rfl ?_
  refine g_iconst (v := 0) C.1.1 dL_snow_2 (by decide) ?_
  refine g_aload_n C.1.1 0 dL_snow_3 rfl rfl ?_
  refine g_iload_n C.1.1 1 dL_snow_4 rfl rfl ?_
  refine g_iload_n C.1.1 2 dL_snow_5 rfl rfl ?_
  refine g_iload_n C.1.1 3 dL_snow_6 rfl rfl ?_
  refine e_throwVi (vs := [.int v1, .int v2, .int v3]) C.1 hsz (cC_X7_snow (g_l X) hfl G _ _ _ _ _ _ _ hw.2) kL_53 kL_54 kL_55 (kL_C _ kC_605) hdC_X7_snow hw.1 ⟨Nat.le_trans (Nat.le_of_ble_eq_true rfl) hR.1, Nat.le_trans (Nat.le_of_ble_eq_true rfl) hR.2.1⟩ ⟨Nat.le_trans (Nat.le_of_eq (Nat.zero_add _)) hR.2.2.1, Nat.le_trans (Nat.le_of_eq (Nat.zero_add _)) hR.2.2.2⟩ dL_snow_7 rfl (Nat.le_of_ble_eq_true rfl) (fun E t1 hw => ?_) (fun r2 t1 hw => ?_)
  · rcases hw with ⟨rfl, hw⟩ | ⟨rfl, hw⟩
    · refine e_catch (pre := []) (x := (0, 12, 15, 13)) (suf := [(0, 12, 19, 15)]) C.1 C.2 rfl ⟨by decide, by decide⟩ (by decide) kL_0 (C.1.2.2.2.2.2.2.2.1 0 (by decide)) (fun _ h => absurd h List.not_mem_nil) (fun q3 => ?_)
      refine g_astore (lv' := [(5, .ref q3), (0, .ref v0), (1, .int v1), (2, .int v2), (3, .int v3), (4, .ref oa)]) C.1.1 dL_snow_15 (by decide) rfl ?_
      refine g_iconst (v := 1) C.1.1 dL_snow_17 (by decide) ?_
      refine gJ.widen (Nat.le_of_eq (Nat.zero_add _)) (Nat.le_of_eq (Nat.zero_add _)) ?_
      exact hret _ _ _ _ hw rfl dL_snow_18
    · refine e_catch (pre := [(0, 12, 15, 13)]) (x := (0, 12, 19, 15)) (suf := []) C.1 C.2 rfl ⟨by decide, by decide⟩ (by decide) kL_1 (C.1.2.2.2.2.2.2.2.1 1 (by decide)) (List.forall_mem_cons.mpr ⟨⟨by decide, _, kL_0, C.1.2.2.2.2.2.2.2.2 1 0 (by decide) (by decide) (by decide)⟩, fun _ h => absurd h List.not_mem_nil⟩) (fun q4 => ?_)
      refine g_astore (lv' := [(5, .ref q4), (0, .ref v0), (1, .int v1), (2, .int v2), (3, .int v3), (4, .ref oa)]) C.1.1 dL_snow_19 (by decide) rfl ?_
      refine g_iconst (v := 2) C.1.1 dL_snow_21 (by decide) ?_
      refine gJ.widen (Nat.le_of_eq (Nat.zero_add _)) (Nat.le_of_eq (Nat.zero_add _)) ?_
      exact hret _ _ _ _ hw rfl dL_snow_22
  refine g_i2l C.1.1 dL_snow_10 ?_
  refine h_put C.1 h_in0 dL_snow_11 ?_
  refine g_goto (tgt := 23) C.1.1 dL_snow_12 (by decide) ?_
  refine g_iconst (v := 0) C.1.1 dL_snow_23 (by decide) ?_
  refine gJ.widen (Nat.le_of_eq (Nat.zero_add _)) (Nat.le_of_eq (Nat.zero_add _)) ?_
  exact hret _ _ _ _ hw rfl dL_snow_24
theorem hdL_snow : yL_snow.cls ≠ "java/lang/invoke/MethodHandle" ∧ yL_snow.cls ≠ "java/lang/invoke/VarHandle" ∧ (parseMethodDescriptor yL_snow.desc).map (fun d => d.parameters.length) = some 5 := by decide +kernel
theorem cL_snow_c (l : Launch) (hfl : l.stackTraces = false) (G : cG) (lc : ClassId) (oa : Nat) (s : hSt) (v0 : Nat) (v1 : Int32) (v2 : Int32) (v3 : Int32) (post : Int32 → hSt → Prop) (hw : wpL_snow_0 post s v0 v1 v2 v3) : hM l yL_snow cL_snow 6 [(0, 12, 15, 13), (0, 12, 19, 15)] 8 135 2 12 G lc oa s [.ref v0, .int v1, .int v2, .int v3, .ref oa] post := hM_of (by decide +kernel) rfl (Nat.le_of_ble_eq_true rfl) (fun X A H0 Q hl hR hsz C hret => wkL_snow_0 (by rw [hl]; exact hfl) C hsz hR hret s v0 v1 v2 v3 hw)
def wpL_melt_0 (post : Int32 → hSt → Prop) (s : hSt) (v0 : Nat) (v1 : Int32) (v2 : Int32) : Prop := cAt s.1 7 v0 ∧ wpC_X7_melt_0 (fun r2 t1 => post 0 (t1, vp_updL s.2 0 r2.toInt64)) (fun E t1 => (E = "java/lang/IndexOutOfBoundsException" ∧ post 1 (t1, s.2)) ∨ (E = "java/lang/IllegalArgumentException" ∧ post 2 (t1, s.2))) s.1 v0 v1 v2
theorem wkL_melt_0 {X : gT} {G : cG} {lc : ClassId} {oa : Nat} {A : Nat → Prop} {H0 : Heap} {Q : State → Prop} (hfl : (g_l X).stackTraces = false) (C : hC X cL_melt 5 [(0, 10, 13, 13), (0, 10, 17, 15)] G lc A) (hsz : H0 = (g_s X).heap) (hR : 8 ≤ (g_R X).frames ∧ 135 ≤ (g_R X).locals ∧ 2 ≤ (g_R X).cells ∧ 12 ≤ (g_R X).slots) {post : Int32 → hSt → Prop} (hret : ∀ (r : Int32) (τ : hSt) (lv : List (Nat × Value)) (pc : Nat), post r τ → narrow .int (.int r) = .int r → decode cL_melt pc = .ok (.ireturn, 1) → gJ X (hWd G lc oa A H0) Q 2 12 τ lv pc [.int r]) (s : hSt) (v0 : Nat) (v1 : Int32) (v2 : Int32) (hw : wpL_melt_0 post s v0 v1 v2) : gJ X (hWd G lc oa A H0) Q 0 0 s [(0, .ref v0), (1, .int v1), (2, .int v2), (3, .ref oa)] 0 [] := by
  refine g_aload_n C.1.1 3 dL_melt_0 rfl rfl ?_
  refine g_iconst (v := 0) C.1.1 dL_melt_1 (by decide) ?_
  refine g_aload_n C.1.1 0 dL_melt_2 rfl rfl ?_
  refine g_iload_n C.1.1 1 dL_melt_3 rfl rfl ?_
  refine g_iload_n C.1.1 2 dL_melt_4 rfl rfl ?_
  refine e_throwVi (vs := [.int v1, .int v2]) C.1 hsz (cC_X7_melt (g_l X) hfl G _ _ _ _ _ _ hw.2) kL_57 kL_58 kL_59 (kL_C _ kC_611) hdC_X7_melt hw.1 ⟨Nat.le_trans (Nat.le_of_ble_eq_true rfl) hR.1, Nat.le_trans (Nat.le_of_ble_eq_true rfl) hR.2.1⟩ ⟨Nat.le_trans (Nat.le_of_eq (Nat.zero_add _)) hR.2.2.1, Nat.le_trans (Nat.le_of_eq (Nat.zero_add _)) hR.2.2.2⟩ dL_melt_5 rfl (Nat.le_of_ble_eq_true rfl) (fun E t1 hw => ?_) (fun r2 t1 hw => ?_)
  · rcases hw with ⟨rfl, hw⟩ | ⟨rfl, hw⟩
    · refine e_catch (pre := []) (x := (0, 10, 13, 13)) (suf := [(0, 10, 17, 15)]) C.1 C.2 rfl ⟨by decide, by decide⟩ (by decide) kL_0 (C.1.2.2.2.2.2.2.2.1 0 (by decide)) (fun _ h => absurd h List.not_mem_nil) (fun q3 => ?_)
      refine g_astore (lv' := [(4, .ref q3), (0, .ref v0), (1, .int v1), (2, .int v2), (3, .ref oa)]) C.1.1 dL_melt_13 (by decide) rfl ?_
      refine g_iconst (v := 1) C.1.1 dL_melt_15 (by decide) ?_
      refine gJ.widen (Nat.le_of_eq (Nat.zero_add _)) (Nat.le_of_eq (Nat.zero_add _)) ?_
      exact hret _ _ _ _ hw rfl dL_melt_16
    · refine e_catch (pre := [(0, 10, 13, 13)]) (x := (0, 10, 17, 15)) (suf := []) C.1 C.2 rfl ⟨by decide, by decide⟩ (by decide) kL_1 (C.1.2.2.2.2.2.2.2.1 1 (by decide)) (List.forall_mem_cons.mpr ⟨⟨by decide, _, kL_0, C.1.2.2.2.2.2.2.2.2 1 0 (by decide) (by decide) (by decide)⟩, fun _ h => absurd h List.not_mem_nil⟩) (fun q4 => ?_)
      refine g_astore (lv' := [(4, .ref q4), (0, .ref v0), (1, .int v1), (2, .int v2), (3, .ref oa)]) C.1.1 dL_melt_17 (by decide) rfl ?_
      refine g_iconst (v := 2) C.1.1 dL_melt_19 (by decide) ?_
      refine gJ.widen (Nat.le_of_eq (Nat.zero_add _)) (Nat.le_of_eq (Nat.zero_add _)) ?_
      exact hret _ _ _ _ hw rfl dL_melt_20
  refine g_i2l C.1.1 dL_melt_8 ?_
  refine h_put C.1 h_in0 dL_melt_9 ?_
  refine g_goto (tgt := 21) C.1.1 dL_melt_10 (by decide) ?_
  refine g_iconst (v := 0) C.1.1 dL_melt_21 (by decide) ?_
  refine gJ.widen (Nat.le_of_eq (Nat.zero_add _)) (Nat.le_of_eq (Nat.zero_add _)) ?_
  exact hret _ _ _ _ hw rfl dL_melt_22
theorem hdL_melt : yL_melt.cls ≠ "java/lang/invoke/MethodHandle" ∧ yL_melt.cls ≠ "java/lang/invoke/VarHandle" ∧ (parseMethodDescriptor yL_melt.desc).map (fun d => d.parameters.length) = some 4 := by decide +kernel
theorem cL_melt_c (l : Launch) (hfl : l.stackTraces = false) (G : cG) (lc : ClassId) (oa : Nat) (s : hSt) (v0 : Nat) (v1 : Int32) (v2 : Int32) (post : Int32 → hSt → Prop) (hw : wpL_melt_0 post s v0 v1 v2) : hM l yL_melt cL_melt 5 [(0, 10, 13, 13), (0, 10, 17, 15)] 8 135 2 12 G lc oa s [.ref v0, .int v1, .int v2, .ref oa] post := hM_of (by decide +kernel) rfl (Nat.le_of_ble_eq_true rfl) (fun X A H0 Q hl hR hsz C hret => wkL_melt_0 (by rw [hl]; exact hfl) C hsz hR hret s v0 v1 v2 hw)
def wpL_push_0 (post : Int32 → hSt → Prop) (s : hSt) (v0 : Nat) (v1 : Int32) : Prop := cAt s.1 7 v0 ∧ wpC_X7_push_0 (fun r2 t1 => post 0 (t1, vp_updL s.2 0 r2.toInt64)) (fun E t1 => (E = "java/lang/IndexOutOfBoundsException" ∧ post 1 (t1, s.2))) s.1 v0 v1
theorem wkL_push_0 {X : gT} {G : cG} {lc : ClassId} {oa : Nat} {A : Nat → Prop} {H0 : Heap} {Q : State → Prop} (hfl : (g_l X).stackTraces = false) (C : hC X cL_push 4 [(0, 9, 12, 13)] G lc A) (hsz : H0 = (g_s X).heap) (hR : 8 ≤ (g_R X).frames ∧ 131 ≤ (g_R X).locals ∧ 1 ≤ (g_R X).cells ∧ 6 ≤ (g_R X).slots) {post : Int32 → hSt → Prop} (hret : ∀ (r : Int32) (τ : hSt) (lv : List (Nat × Value)) (pc : Nat), post r τ → narrow .int (.int r) = .int r → decode cL_push pc = .ok (.ireturn, 1) → gJ X (hWd G lc oa A H0) Q 1 6 τ lv pc [.int r]) (s : hSt) (v0 : Nat) (v1 : Int32) (hw : wpL_push_0 post s v0 v1) : gJ X (hWd G lc oa A H0) Q 0 0 s [(0, .ref v0), (1, .int v1), (2, .ref oa)] 0 [] := by
  refine g_aload_n C.1.1 2 dL_push_0 rfl rfl ?_
  refine g_iconst (v := 0) C.1.1 dL_push_1 (by decide) ?_
  refine g_aload_n C.1.1 0 dL_push_2 rfl rfl ?_
  refine g_iload_n C.1.1 1 dL_push_3 rfl rfl ?_
  refine e_throwVi (vs := [.int v1]) C.1 hsz (cC_X7_push (g_l X) hfl G _ _ _ _ _ hw.2) kL_61 kL_62 kL_63 (kL_C _ kC_615) hdC_X7_push hw.1 ⟨Nat.le_trans (Nat.le_of_ble_eq_true rfl) hR.1, Nat.le_trans (Nat.le_of_ble_eq_true rfl) hR.2.1⟩ ⟨Nat.le_trans (Nat.le_of_eq (Nat.zero_add _)) hR.2.2.1, Nat.le_trans (Nat.le_of_eq (Nat.zero_add _)) hR.2.2.2⟩ dL_push_4 rfl (Nat.le_of_ble_eq_true rfl) (fun E t1 hw => ?_) (fun r2 t1 hw => ?_)
  · rcases hw with ⟨rfl, hw⟩
    refine e_catch (pre := []) (x := (0, 9, 12, 13)) (suf := []) C.1 C.2 rfl ⟨by decide, by decide⟩ (by decide) kL_0 (C.1.2.2.2.2.2.2.2.1 0 (by decide)) (fun _ h => absurd h List.not_mem_nil) (fun q3 => ?_)
    refine g_astore_n (lv' := [(3, .ref q3), (0, .ref v0), (1, .int v1), (2, .ref oa)]) C.1.1 dL_push_12 rfl (by decide) rfl ?_
    refine g_iconst (v := 1) C.1.1 dL_push_13 (by decide) ?_
    refine gJ.widen (Nat.le_of_eq (Nat.zero_add _)) (Nat.le_of_eq (Nat.zero_add _)) ?_
    exact hret _ _ _ _ hw rfl dL_push_14
  refine g_i2l C.1.1 dL_push_7 ?_
  refine h_put C.1 h_in0 dL_push_8 ?_
  refine g_goto (tgt := 15) C.1.1 dL_push_9 (by decide) ?_
  refine g_iconst (v := 0) C.1.1 dL_push_15 (by decide) ?_
  refine gJ.widen (Nat.le_of_eq (Nat.zero_add _)) (Nat.le_of_eq (Nat.zero_add _)) ?_
  exact hret _ _ _ _ hw rfl dL_push_16
theorem hdL_push : yL_push.cls ≠ "java/lang/invoke/MethodHandle" ∧ yL_push.cls ≠ "java/lang/invoke/VarHandle" ∧ (parseMethodDescriptor yL_push.desc).map (fun d => d.parameters.length) = some 3 := by decide +kernel
theorem cL_push_c (l : Launch) (hfl : l.stackTraces = false) (G : cG) (lc : ClassId) (oa : Nat) (s : hSt) (v0 : Nat) (v1 : Int32) (post : Int32 → hSt → Prop) (hw : wpL_push_0 post s v0 v1) : hM l yL_push cL_push 4 [(0, 9, 12, 13)] 8 131 1 6 G lc oa s [.ref v0, .int v1, .ref oa] post := hM_of (by decide +kernel) rfl (Nat.le_of_ble_eq_true rfl) (fun X A H0 Q hl hR hsz C hret => wkL_push_0 (by rw [hl]; exact hfl) C hsz hR hret s v0 v1 hw)
def wpL_cell_0 (post : Int32 → hSt → Prop) (s : hSt) (v0 : Nat) (v1 : Int32) (v2 : Int32) : Prop := cAt s.1 7 v0 ∧ wpC_X7_cell_0 (fun r2 t1 => post 0 (t1, vp_updL s.2 0 r2.toInt64)) (fun E t1 => (E = "java/lang/IndexOutOfBoundsException" ∧ post 1 (t1, s.2)) ∨ (E = "java/util/NoSuchElementException" ∧ post 2 (t1, s.2))) s.1 v0 v1 v2
theorem wkL_cell_0 {X : gT} {G : cG} {lc : ClassId} {oa : Nat} {A : Nat → Prop} {H0 : Heap} {Q : State → Prop} (hfl : (g_l X).stackTraces = false) (C : hC X cL_cell 5 [(0, 10, 13, 13), (0, 10, 17, 57)] G lc A) (hsz : H0 = (g_s X).heap) (hR : 8 ≤ (g_R X).frames ∧ 133 ≤ (g_R X).locals ∧ 2 ≤ (g_R X).cells ∧ 12 ≤ (g_R X).slots) {post : Int32 → hSt → Prop} (hret : ∀ (r : Int32) (τ : hSt) (lv : List (Nat × Value)) (pc : Nat), post r τ → narrow .int (.int r) = .int r → decode cL_cell pc = .ok (.ireturn, 1) → gJ X (hWd G lc oa A H0) Q 2 12 τ lv pc [.int r]) (s : hSt) (v0 : Nat) (v1 : Int32) (v2 : Int32) (hw : wpL_cell_0 post s v0 v1 v2) : gJ X (hWd G lc oa A H0) Q 0 0 s [(0, .ref v0), (1, .int v1), (2, .int v2), (3, .ref oa)] 0 [] := by
  refine g_aload_n C.1.1 3 dL_cell_0 rfl rfl ?_
  refine g_iconst (v := 0) C.1.1 dL_cell_1 (by decide) ?_
  refine g_aload_n C.1.1 0 dL_cell_2 rfl rfl ?_
  refine g_iload_n C.1.1 1 dL_cell_3 rfl rfl ?_
  refine g_iload_n C.1.1 2 dL_cell_4 rfl rfl ?_
  refine e_throwVi (vs := [.int v1, .int v2]) C.1 hsz (cC_X7_cell (g_l X) hfl G _ _ _ _ _ _ hw.2) kL_65 kL_66 kL_67 (kL_C _ kC_619) hdC_X7_cell hw.1 ⟨Nat.le_trans (Nat.le_of_ble_eq_true rfl) hR.1, Nat.le_trans (Nat.le_of_ble_eq_true rfl) hR.2.1⟩ ⟨Nat.le_trans (Nat.le_of_eq (Nat.zero_add _)) hR.2.2.1, Nat.le_trans (Nat.le_of_eq (Nat.zero_add _)) hR.2.2.2⟩ dL_cell_5 rfl (Nat.le_of_ble_eq_true rfl) (fun E t1 hw => ?_) (fun r2 t1 hw => ?_)
  · rcases hw with ⟨rfl, hw⟩ | ⟨rfl, hw⟩
    · refine e_catch (pre := []) (x := (0, 10, 13, 13)) (suf := [(0, 10, 17, 57)]) C.1 C.2 rfl ⟨by decide, by decide⟩ (by decide) kL_0 (C.1.2.2.2.2.2.2.2.1 0 (by decide)) (fun _ h => absurd h List.not_mem_nil) (fun q3 => ?_)
      refine g_astore (lv' := [(4, .ref q3), (0, .ref v0), (1, .int v1), (2, .int v2), (3, .ref oa)]) C.1.1 dL_cell_13 (by decide) rfl ?_
      refine g_iconst (v := 1) C.1.1 dL_cell_15 (by decide) ?_
      refine gJ.widen (Nat.le_of_eq (Nat.zero_add _)) (Nat.le_of_eq (Nat.zero_add _)) ?_
      exact hret _ _ _ _ hw rfl dL_cell_16
    · refine e_catch (pre := [(0, 10, 13, 13)]) (x := (0, 10, 17, 57)) (suf := []) C.1 C.2 rfl ⟨by decide, by decide⟩ (by decide) kL_44 (C.1.2.2.2.2.2.2.2.1 4 (by decide)) (List.forall_mem_cons.mpr ⟨⟨by decide, _, kL_0, C.1.2.2.2.2.2.2.2.2 4 0 (by decide) (by decide) (by decide)⟩, fun _ h => absurd h List.not_mem_nil⟩) (fun q4 => ?_)
      refine g_astore (lv' := [(4, .ref q4), (0, .ref v0), (1, .int v1), (2, .int v2), (3, .ref oa)]) C.1.1 dL_cell_17 (by decide) rfl ?_
      refine g_iconst (v := 2) C.1.1 dL_cell_19 (by decide) ?_
      refine gJ.widen (Nat.le_of_eq (Nat.zero_add _)) (Nat.le_of_eq (Nat.zero_add _)) ?_
      exact hret _ _ _ _ hw rfl dL_cell_20
  refine g_i2l C.1.1 dL_cell_8 ?_
  refine h_put C.1 h_in0 dL_cell_9 ?_
  refine g_goto (tgt := 21) C.1.1 dL_cell_10 (by decide) ?_
  refine g_iconst (v := 0) C.1.1 dL_cell_21 (by decide) ?_
  refine gJ.widen (Nat.le_of_eq (Nat.zero_add _)) (Nat.le_of_eq (Nat.zero_add _)) ?_
  exact hret _ _ _ _ hw rfl dL_cell_22
theorem hdL_cell : yL_cell.cls ≠ "java/lang/invoke/MethodHandle" ∧ yL_cell.cls ≠ "java/lang/invoke/VarHandle" ∧ (parseMethodDescriptor yL_cell.desc).map (fun d => d.parameters.length) = some 4 := by decide +kernel
theorem cL_cell_c (l : Launch) (hfl : l.stackTraces = false) (G : cG) (lc : ClassId) (oa : Nat) (s : hSt) (v0 : Nat) (v1 : Int32) (v2 : Int32) (post : Int32 → hSt → Prop) (hw : wpL_cell_0 post s v0 v1 v2) : hM l yL_cell cL_cell 5 [(0, 10, 13, 13), (0, 10, 17, 57)] 8 133 2 12 G lc oa s [.ref v0, .int v1, .int v2, .ref oa] post := hM_of (by decide +kernel) rfl (Nat.le_of_ble_eq_true rfl) (fun X A H0 Q hl hR hsz C hret => wkL_cell_0 (by rw [hl]; exact hfl) C hsz hR hret s v0 v1 v2 hw)
def wpL_link_0 (mc ms : Nat) (post : Int32 → hSt → Prop) (s : hSt) (v0 : Nat) (v1 : Int32) (v2 : Int32) (v3 : Int32) : Prop := cAt s.1 7 v0 ∧ wpC_X7_link_0 mc ms (fun r2 t1 => post 0 (t1, vp_updL s.2 0 r2.toInt64)) (fun E t1 => (E = "java/lang/IndexOutOfBoundsException" ∧ post 1 (t1, s.2)) ∨ (E = "java/lang/IllegalArgumentException" ∧ post 2 (t1, s.2)) ∨ (E = "java/lang/UnsupportedOperationException" ∧ post 3 (t1, s.2))) s.1 v0 v1 v2 v3
theorem wkL_link_0 {mc ms : Nat} {X : gT} {G : cG} {lc : ClassId} {oa : Nat} {A : Nat → Prop} {H0 : Heap} {Q : State → Prop} (hfl : (g_l X).stackTraces = false) (C : hC X cL_link 6 [(0, 12, 15, 13), (0, 12, 19, 15), (0, 12, 23, 17)] G lc A) (hsz : H0 = (g_s X).heap) (hR : 8 ≤ (g_R X).frames ∧ 216 ≤ (g_R X).locals ∧ mc ≤ (g_R X).cells ∧ ms ≤ (g_R X).slots) (hm : 1 ≤ mc ∧ 6 ≤ ms) {post : Int32 → hSt → Prop} (hret : ∀ (r : Int32) (τ : hSt) (lv : List (Nat × Value)) (pc : Nat), post r τ → narrow .int (.int r) = .int r → decode cL_link pc = .ok (.ireturn, 1) → gJ X (hWd G lc oa A H0) Q mc ms τ lv pc [.int r]) (s : hSt) (v0 : Nat) (v1 : Int32) (v2 : Int32) (v3 : Int32) (hw : wpL_link_0 mc ms post s v0 v1 v2 v3) : gJ X (hWd G lc oa A H0) Q 0 0 s [(0, .ref v0), (1, .int v1), (2, .int v2), (3, .int v3), (4, .ref oa)] 0 [] := by
  refine g_aload C.1.1 4 dL_link_0 rfl ?_
  refine g_iconst (v := 0) C.1.1 dL_link_2 (by decide) ?_
  refine g_aload_n C.1.1 0 dL_link_3 rfl rfl ?_
  refine g_iload_n C.1.1 1 dL_link_4 rfl rfl ?_
  refine g_iload_n C.1.1 2 dL_link_5 rfl rfl ?_
  refine g_iload_n C.1.1 3 dL_link_6 rfl rfl ?_
  refine e_throwVi (vs := [.int v1, .int v2, .int v3]) C.1 hsz (cC_X7_link mc ms (g_l X) hfl G _ _ _ _ _ _ _ hm hw.2) kL_69 kL_70 kL_71 (kL_C _ kC_624) hdC_X7_link hw.1 ⟨Nat.le_trans (Nat.le_of_ble_eq_true rfl) hR.1, Nat.le_trans (Nat.le_of_ble_eq_true rfl) hR.2.1⟩ ⟨Nat.le_trans (Nat.le_of_eq (Nat.zero_add _)) hR.2.2.1, Nat.le_trans (Nat.le_of_eq (Nat.zero_add _)) hR.2.2.2⟩ dL_link_7 rfl (Nat.le_of_ble_eq_true rfl) (fun E t1 hw => ?_) (fun r2 t1 hw => ?_)
  · rcases hw with ⟨rfl, hw⟩ | ⟨rfl, hw⟩ | ⟨rfl, hw⟩
    · refine e_catch (pre := []) (x := (0, 12, 15, 13)) (suf := [(0, 12, 19, 15), (0, 12, 23, 17)]) C.1 C.2 rfl ⟨by decide, by decide⟩ (by decide) kL_0 (C.1.2.2.2.2.2.2.2.1 0 (by decide)) (fun _ h => absurd h List.not_mem_nil) (fun q3 => ?_)
      refine g_astore (lv' := [(5, .ref q3), (0, .ref v0), (1, .int v1), (2, .int v2), (3, .int v3), (4, .ref oa)]) C.1.1 dL_link_15 (by decide) rfl ?_
      refine g_iconst (v := 1) C.1.1 dL_link_17 (by decide) ?_
      refine gJ.widen (Nat.le_of_eq (Nat.zero_add _)) (Nat.le_of_eq (Nat.zero_add _)) ?_
      exact hret _ _ _ _ hw rfl dL_link_18
    · refine e_catch (pre := [(0, 12, 15, 13)]) (x := (0, 12, 19, 15)) (suf := [(0, 12, 23, 17)]) C.1 C.2 rfl ⟨by decide, by decide⟩ (by decide) kL_1 (C.1.2.2.2.2.2.2.2.1 1 (by decide)) (List.forall_mem_cons.mpr ⟨⟨by decide, _, kL_0, C.1.2.2.2.2.2.2.2.2 1 0 (by decide) (by decide) (by decide)⟩, fun _ h => absurd h List.not_mem_nil⟩) (fun q4 => ?_)
      refine g_astore (lv' := [(5, .ref q4), (0, .ref v0), (1, .int v1), (2, .int v2), (3, .int v3), (4, .ref oa)]) C.1.1 dL_link_19 (by decide) rfl ?_
      refine g_iconst (v := 2) C.1.1 dL_link_21 (by decide) ?_
      refine gJ.widen (Nat.le_of_eq (Nat.zero_add _)) (Nat.le_of_eq (Nat.zero_add _)) ?_
      exact hret _ _ _ _ hw rfl dL_link_22
    · refine e_catch (pre := [(0, 12, 15, 13), (0, 12, 19, 15)]) (x := (0, 12, 23, 17)) (suf := []) C.1 C.2 rfl ⟨by decide, by decide⟩ (by decide) kL_2 (C.1.2.2.2.2.2.2.2.1 2 (by decide)) (List.forall_mem_cons.mpr ⟨⟨by decide, _, kL_0, C.1.2.2.2.2.2.2.2.2 2 0 (by decide) (by decide) (by decide)⟩, List.forall_mem_cons.mpr ⟨⟨by decide, _, kL_1, C.1.2.2.2.2.2.2.2.2 2 1 (by decide) (by decide) (by decide)⟩, fun _ h => absurd h List.not_mem_nil⟩⟩) (fun q5 => ?_)
      refine g_astore (lv' := [(5, .ref q5), (0, .ref v0), (1, .int v1), (2, .int v2), (3, .int v3), (4, .ref oa)]) C.1.1 dL_link_23 (by decide) rfl ?_
      refine g_iconst (v := 3) C.1.1 dL_link_25 (by decide) ?_
      refine gJ.widen (Nat.le_of_eq (Nat.zero_add _)) (Nat.le_of_eq (Nat.zero_add _)) ?_
      exact hret _ _ _ _ hw rfl dL_link_26
  refine g_i2l C.1.1 dL_link_10 ?_
  refine h_put C.1 h_in0 dL_link_11 ?_
  refine g_goto (tgt := 27) C.1.1 dL_link_12 (by decide) ?_
  refine g_iconst (v := 0) C.1.1 dL_link_27 (by decide) ?_
  refine gJ.widen (Nat.le_of_eq (Nat.zero_add _)) (Nat.le_of_eq (Nat.zero_add _)) ?_
  exact hret _ _ _ _ hw rfl dL_link_28
theorem hdL_link : yL_link.cls ≠ "java/lang/invoke/MethodHandle" ∧ yL_link.cls ≠ "java/lang/invoke/VarHandle" ∧ (parseMethodDescriptor yL_link.desc).map (fun d => d.parameters.length) = some 5 := by decide +kernel
theorem cL_link_c (mc ms : Nat) (l : Launch) (hfl : l.stackTraces = false) (G : cG) (lc : ClassId) (oa : Nat) (s : hSt) (v0 : Nat) (v1 : Int32) (v2 : Int32) (v3 : Int32) (post : Int32 → hSt → Prop) (hm : 1 ≤ mc ∧ 6 ≤ ms) (hw : wpL_link_0 mc ms post s v0 v1 v2 v3) : hM l yL_link cL_link 6 [(0, 12, 15, 13), (0, 12, 19, 15), (0, 12, 23, 17)] 8 216 mc ms G lc oa s [.ref v0, .int v1, .int v2, .int v3, .ref oa] post := hM_of (by decide +kernel) rfl (Nat.le_of_ble_eq_true rfl) (fun X A H0 Q hl hR hsz C hret => wkL_link_0 (by rw [hl]; exact hfl) C hsz hR hm hret s v0 v1 v2 v3 hw)
def wpL_want_0 (post : Int32 → hSt → Prop) (s : hSt) (v0 : Nat) (v1 : Int32) (v2 : Int32) : Prop := cAt s.1 7 v0 ∧ wpC_X7_want_0 (fun t1 => post 0 (t1, s.2)) (fun E t1 => (E = "java/lang/IndexOutOfBoundsException" ∧ post 1 (t1, s.2)) ∨ (E = "java/lang/IllegalArgumentException" ∧ post 2 (t1, s.2))) s.1 v0 v1 v2
theorem wkL_want_0 {X : gT} {G : cG} {lc : ClassId} {oa : Nat} {A : Nat → Prop} {H0 : Heap} {Q : State → Prop} (hfl : (g_l X).stackTraces = false) (C : hC X cL_want 4 [(0, 6, 9, 13), (0, 6, 12, 15)] G lc A) (hsz : H0 = (g_s X).heap) (hR : 8 ≤ (g_R X).frames ∧ 134 ≤ (g_R X).locals ∧ 2 ≤ (g_R X).cells ∧ 12 ≤ (g_R X).slots) {post : Int32 → hSt → Prop} (hret : ∀ (r : Int32) (τ : hSt) (lv : List (Nat × Value)) (pc : Nat), post r τ → narrow .int (.int r) = .int r → decode cL_want pc = .ok (.ireturn, 1) → gJ X (hWd G lc oa A H0) Q 2 12 τ lv pc [.int r]) (s : hSt) (v0 : Nat) (v1 : Int32) (v2 : Int32) (hw : wpL_want_0 post s v0 v1 v2) : gJ X (hWd G lc oa A H0) Q 0 0 s [(0, .ref v0), (1, .int v1), (2, .int v2)] 0 [] := by
  refine g_aload_n C.1.1 0 dL_want_0 rfl rfl ?_
  refine g_iload_n C.1.1 1 dL_want_1 rfl rfl ?_
  refine g_iload_n C.1.1 2 dL_want_2 rfl rfl ?_
  refine e_throwVv (vs := [.int v1, .int v2]) C.1 hsz (cC_X7_want (g_l X) hfl G _ _ _ _ _ _ hw.2) kL_73 kL_74 kL_75 (kL_C _ kC_625) hdC_X7_want hw.1 ⟨Nat.le_trans (Nat.le_of_ble_eq_true rfl) hR.1, Nat.le_trans (Nat.le_of_ble_eq_true rfl) hR.2.1⟩ ⟨Nat.le_trans (Nat.le_of_eq (Nat.zero_add _)) hR.2.2.1, Nat.le_trans (Nat.le_of_eq (Nat.zero_add _)) hR.2.2.2⟩ dL_want_3 rfl (Nat.le_of_ble_eq_true rfl) (fun E t1 hw => ?_) (fun t1 hw => ?_)
  · rcases hw with ⟨rfl, hw⟩ | ⟨rfl, hw⟩
    · refine e_catch (pre := []) (x := (0, 6, 9, 13)) (suf := [(0, 6, 12, 15)]) C.1 C.2 rfl ⟨by decide, by decide⟩ (by decide) kL_0 (C.1.2.2.2.2.2.2.2.1 0 (by decide)) (fun _ h => absurd h List.not_mem_nil) (fun q3 => ?_)
      refine g_astore_n (lv' := [(3, .ref q3), (0, .ref v0), (1, .int v1), (2, .int v2)]) C.1.1 dL_want_9 rfl (by decide) rfl ?_
      refine g_iconst (v := 1) C.1.1 dL_want_10 (by decide) ?_
      refine gJ.widen (Nat.le_of_eq (Nat.zero_add _)) (Nat.le_of_eq (Nat.zero_add _)) ?_
      exact hret _ _ _ _ hw rfl dL_want_11
    · refine e_catch (pre := [(0, 6, 9, 13)]) (x := (0, 6, 12, 15)) (suf := []) C.1 C.2 rfl ⟨by decide, by decide⟩ (by decide) kL_1 (C.1.2.2.2.2.2.2.2.1 1 (by decide)) (List.forall_mem_cons.mpr ⟨⟨by decide, _, kL_0, C.1.2.2.2.2.2.2.2.2 1 0 (by decide) (by decide) (by decide)⟩, fun _ h => absurd h List.not_mem_nil⟩) (fun q4 => ?_)
      refine g_astore_n (lv' := [(3, .ref q4), (0, .ref v0), (1, .int v1), (2, .int v2)]) C.1.1 dL_want_12 rfl (by decide) rfl ?_
      refine g_iconst (v := 2) C.1.1 dL_want_13 (by decide) ?_
      refine gJ.widen (Nat.le_of_eq (Nat.zero_add _)) (Nat.le_of_eq (Nat.zero_add _)) ?_
      exact hret _ _ _ _ hw rfl dL_want_14
  refine g_goto (tgt := 15) C.1.1 dL_want_6 (by decide) ?_
  refine g_iconst (v := 0) C.1.1 dL_want_15 (by decide) ?_
  refine gJ.widen (Nat.le_of_eq (Nat.zero_add _)) (Nat.le_of_eq (Nat.zero_add _)) ?_
  exact hret _ _ _ _ hw rfl dL_want_16
theorem hdL_want : yL_want.cls ≠ "java/lang/invoke/MethodHandle" ∧ yL_want.cls ≠ "java/lang/invoke/VarHandle" ∧ (parseMethodDescriptor yL_want.desc).map (fun d => d.parameters.length) = some 3 := by decide +kernel
theorem cL_want_c (l : Launch) (hfl : l.stackTraces = false) (G : cG) (lc : ClassId) (oa : Nat) (s : hSt) (v0 : Nat) (v1 : Int32) (v2 : Int32) (post : Int32 → hSt → Prop) (hw : wpL_want_0 post s v0 v1 v2) : hM l yL_want cL_want 4 [(0, 6, 9, 13), (0, 6, 12, 15)] 8 134 2 12 G lc oa s [.ref v0, .int v1, .int v2] post := hM_of (by decide +kernel) rfl (Nat.le_of_ble_eq_true rfl) (fun X A H0 Q hl hR hsz C hret => wkL_want_0 (by rw [hl]; exact hfl) C hsz hR hret s v0 v1 v2 hw)
def wpL_price_0 (post : Int32 → hSt → Prop) (s : hSt) (v0 : Nat) (v1 : Int32) (v2 : Int32) : Prop := cAt s.1 7 v0 ∧ wpC_X7_price_0 (fun t1 => post 0 (t1, s.2)) (fun E t1 => (E = "java/lang/IndexOutOfBoundsException" ∧ post 1 (t1, s.2)) ∨ (E = "java/lang/IllegalArgumentException" ∧ post 2 (t1, s.2))) s.1 v0 v1 v2
theorem wkL_price_0 {X : gT} {G : cG} {lc : ClassId} {oa : Nat} {A : Nat → Prop} {H0 : Heap} {Q : State → Prop} (hfl : (g_l X).stackTraces = false) (C : hC X cL_price 4 [(0, 6, 9, 13), (0, 6, 12, 15)] G lc A) (hsz : H0 = (g_s X).heap) (hR : 8 ≤ (g_R X).frames ∧ 134 ≤ (g_R X).locals ∧ 2 ≤ (g_R X).cells ∧ 12 ≤ (g_R X).slots) {post : Int32 → hSt → Prop} (hret : ∀ (r : Int32) (τ : hSt) (lv : List (Nat × Value)) (pc : Nat), post r τ → narrow .int (.int r) = .int r → decode cL_price pc = .ok (.ireturn, 1) → gJ X (hWd G lc oa A H0) Q 2 12 τ lv pc [.int r]) (s : hSt) (v0 : Nat) (v1 : Int32) (v2 : Int32) (hw : wpL_price_0 post s v0 v1 v2) : gJ X (hWd G lc oa A H0) Q 0 0 s [(0, .ref v0), (1, .int v1), (2, .int v2)] 0 [] := by
  refine g_aload_n C.1.1 0 dL_price_0 rfl rfl ?_
  refine g_iload_n C.1.1 1 dL_price_1 rfl rfl ?_
  refine g_iload_n C.1.1 2 dL_price_2 rfl rfl ?_
  refine e_throwVv (vs := [.int v1, .int v2]) C.1 hsz (cC_X7_price (g_l X) hfl G _ _ _ _ _ _ hw.2) kL_77 kL_78 kL_79 (kL_C _ kC_629) hdC_X7_price hw.1 ⟨Nat.le_trans (Nat.le_of_ble_eq_true rfl) hR.1, Nat.le_trans (Nat.le_of_ble_eq_true rfl) hR.2.1⟩ ⟨Nat.le_trans (Nat.le_of_eq (Nat.zero_add _)) hR.2.2.1, Nat.le_trans (Nat.le_of_eq (Nat.zero_add _)) hR.2.2.2⟩ dL_price_3 rfl (Nat.le_of_ble_eq_true rfl) (fun E t1 hw => ?_) (fun t1 hw => ?_)
  · rcases hw with ⟨rfl, hw⟩ | ⟨rfl, hw⟩
    · refine e_catch (pre := []) (x := (0, 6, 9, 13)) (suf := [(0, 6, 12, 15)]) C.1 C.2 rfl ⟨by decide, by decide⟩ (by decide) kL_0 (C.1.2.2.2.2.2.2.2.1 0 (by decide)) (fun _ h => absurd h List.not_mem_nil) (fun q3 => ?_)
      refine g_astore_n (lv' := [(3, .ref q3), (0, .ref v0), (1, .int v1), (2, .int v2)]) C.1.1 dL_price_9 rfl (by decide) rfl ?_
      refine g_iconst (v := 1) C.1.1 dL_price_10 (by decide) ?_
      refine gJ.widen (Nat.le_of_eq (Nat.zero_add _)) (Nat.le_of_eq (Nat.zero_add _)) ?_
      exact hret _ _ _ _ hw rfl dL_price_11
    · refine e_catch (pre := [(0, 6, 9, 13)]) (x := (0, 6, 12, 15)) (suf := []) C.1 C.2 rfl ⟨by decide, by decide⟩ (by decide) kL_1 (C.1.2.2.2.2.2.2.2.1 1 (by decide)) (List.forall_mem_cons.mpr ⟨⟨by decide, _, kL_0, C.1.2.2.2.2.2.2.2.2 1 0 (by decide) (by decide) (by decide)⟩, fun _ h => absurd h List.not_mem_nil⟩) (fun q4 => ?_)
      refine g_astore_n (lv' := [(3, .ref q4), (0, .ref v0), (1, .int v1), (2, .int v2)]) C.1.1 dL_price_12 rfl (by decide) rfl ?_
      refine g_iconst (v := 2) C.1.1 dL_price_13 (by decide) ?_
      refine gJ.widen (Nat.le_of_eq (Nat.zero_add _)) (Nat.le_of_eq (Nat.zero_add _)) ?_
      exact hret _ _ _ _ hw rfl dL_price_14
  refine g_goto (tgt := 15) C.1.1 dL_price_6 (by decide) ?_
  refine g_iconst (v := 0) C.1.1 dL_price_15 (by decide) ?_
  refine gJ.widen (Nat.le_of_eq (Nat.zero_add _)) (Nat.le_of_eq (Nat.zero_add _)) ?_
  exact hret _ _ _ _ hw rfl dL_price_16
theorem hdL_price : yL_price.cls ≠ "java/lang/invoke/MethodHandle" ∧ yL_price.cls ≠ "java/lang/invoke/VarHandle" ∧ (parseMethodDescriptor yL_price.desc).map (fun d => d.parameters.length) = some 3 := by decide +kernel
theorem cL_price_c (l : Launch) (hfl : l.stackTraces = false) (G : cG) (lc : ClassId) (oa : Nat) (s : hSt) (v0 : Nat) (v1 : Int32) (v2 : Int32) (post : Int32 → hSt → Prop) (hw : wpL_price_0 post s v0 v1 v2) : hM l yL_price cL_price 4 [(0, 6, 9, 13), (0, 6, 12, 15)] 8 134 2 12 G lc oa s [.ref v0, .int v1, .int v2] post := hM_of (by decide +kernel) rfl (Nat.le_of_ble_eq_true rfl) (fun X A H0 Q hl hR hsz C hret => wkL_price_0 (by rw [hl]; exact hfl) C hsz hR hret s v0 v1 v2 hw)
def wpL_judge_0 (post : Int32 → hSt → Prop) (s : hSt) (v0 : Nat) : Prop := cAt s.1 7 v0 ∧ wpC_X7_judge_0 (fun r2 t1 => post 0 (t1, vp_updL s.2 0 r2)) (fun E t1 => (E = "java/lang/IllegalStateException" ∧ post 1 (t1, s.2))) s.1 v0
theorem wkL_judge_0 {X : gT} {G : cG} {lc : ClassId} {oa : Nat} {A : Nat → Prop} {H0 : Heap} {Q : State → Prop} (hfl : (g_l X).stackTraces = false) (C : hC X cL_judge 3 [(0, 7, 10, 26)] G lc A) (hsz : H0 = (g_s X).heap) (hR : 7 ≤ (g_R X).frames ∧ 112 ≤ (g_R X).locals ∧ 1 ≤ (g_R X).cells ∧ 6 ≤ (g_R X).slots) {post : Int32 → hSt → Prop} (hret : ∀ (r : Int32) (τ : hSt) (lv : List (Nat × Value)) (pc : Nat), post r τ → narrow .int (.int r) = .int r → decode cL_judge pc = .ok (.ireturn, 1) → gJ X (hWd G lc oa A H0) Q 1 6 τ lv pc [.int r]) (s : hSt) (v0 : Nat) (hw : wpL_judge_0 post s v0) : gJ X (hWd G lc oa A H0) Q 0 0 s [(0, .ref v0), (1, .ref oa)] 0 [] := by
  refine g_aload_n C.1.1 1 dL_judge_0 rfl rfl ?_
  refine g_iconst (v := 0) C.1.1 dL_judge_1 (by decide) ?_
  refine g_aload_n C.1.1 0 dL_judge_2 rfl rfl ?_
  refine e_throwVl (vs := []) C.1 hsz (cC_X7_judge (g_l X) hfl G _ _ _ _ hw.2) kL_81 kL_82 kL_83 (kL_C _ kC_637) hdC_X7_judge hw.1 ⟨Nat.le_trans (Nat.le_of_ble_eq_true rfl) hR.1, Nat.le_trans (Nat.le_of_ble_eq_true rfl) hR.2.1⟩ ⟨Nat.le_trans (Nat.le_of_eq (Nat.zero_add _)) hR.2.2.1, Nat.le_trans (Nat.le_of_eq (Nat.zero_add _)) hR.2.2.2⟩ dL_judge_3 rfl (Nat.le_of_ble_eq_true rfl) (fun E t1 hw => ?_) (fun r2 t1 hw => ?_)
  · rcases hw with ⟨rfl, hw⟩
    refine e_catch (pre := []) (x := (0, 7, 10, 26)) (suf := []) C.1 C.2 rfl ⟨by decide, by decide⟩ (by decide) kL_11 (C.1.2.2.2.2.2.2.2.1 3 (by decide)) (fun _ h => absurd h List.not_mem_nil) (fun q3 => ?_)
    refine g_astore_n (lv' := [(2, .ref q3), (0, .ref v0), (1, .ref oa)]) C.1.1 dL_judge_10 rfl (by decide) rfl ?_
    refine g_iconst (v := 1) C.1.1 dL_judge_11 (by decide) ?_
    refine gJ.widen (Nat.le_of_eq (Nat.zero_add _)) (Nat.le_of_eq (Nat.zero_add _)) ?_
    exact hret _ _ _ _ hw rfl dL_judge_12
  refine h_put C.1 h_in0 dL_judge_6 ?_
  refine g_goto (tgt := 13) C.1.1 dL_judge_7 (by decide) ?_
  refine g_iconst (v := 0) C.1.1 dL_judge_13 (by decide) ?_
  refine gJ.widen (Nat.le_of_eq (Nat.zero_add _)) (Nat.le_of_eq (Nat.zero_add _)) ?_
  exact hret _ _ _ _ hw rfl dL_judge_14
theorem hdL_judge : yL_judge.cls ≠ "java/lang/invoke/MethodHandle" ∧ yL_judge.cls ≠ "java/lang/invoke/VarHandle" ∧ (parseMethodDescriptor yL_judge.desc).map (fun d => d.parameters.length) = some 2 := by decide +kernel
theorem cL_judge_c (l : Launch) (hfl : l.stackTraces = false) (G : cG) (lc : ClassId) (oa : Nat) (s : hSt) (v0 : Nat) (post : Int32 → hSt → Prop) (hw : wpL_judge_0 post s v0) : hM l yL_judge cL_judge 3 [(0, 7, 10, 26)] 7 112 1 6 G lc oa s [.ref v0, .ref oa] post := hM_of (by decide +kernel) rfl (Nat.le_of_ble_eq_true rfl) (fun X A H0 Q hl hR hsz C hret => wkL_judge_0 (by rw [hl]; exact hfl) C hsz hR hret s v0 hw)
