def wpR_in_0 (post : Int32 → Prop) (v0 : Int64) (v2 : Int64) (v4 : Int64) : Prop := ((lg_cmp v0 v2) < 0 → post 0) ∧ (¬ (lg_cmp v0 v2) < 0 → (0 < (lg_cmp v0 v4) → post 0) ∧ (¬ 0 < (lg_cmp v0 v4) → post 1))
theorem wkR_in_0 {X : gT} {H0 : Heap} {Q : State → Prop} (C : sC X cX8_in 6 RX8) (hR : g_R X = rRm 0 0) {post : Int32 → Prop} (hret : ∀ (r : Int32) (lv : List (Nat × Value)) (pc : Nat), post r → narrow .boolean (.int r) = .int r → decode cX8_in pc = .ok (.ireturn, 1) → gJ X (gU H0) Q 0 0 () lv pc [.int r]) (v0 : Int64) (v2 : Int64) (v4 : Int64) (hw : wpR_in_0 post v0 v2 v4) : gJ X (gU H0) Q 0 0 () [(0, .long v0), (2, .long v2), (4, .long v4)] 0 [] := by
  refine g_lload_n C.1 0 dX8_in_0 rfl rfl ?_
  refine g_lload_n C.1 1 dX8_in_1 rfl rfl ?_
  refine g_lcmp C.1 dX8_in_2 ?_
  refine g_if_lt (tgt := 17) C.1 dX8_in_3 (by decide) (fun h1 => ?_) (fun h1 => ?_)
  · replace hw := hw.1 h1
    refine g_iconst (v := 0) C.1 dX8_in_17 (by decide) ?_
    exact hret _ _ _ hw rfl dX8_in_18
  · replace hw := hw.2 h1
    refine g_lload_n C.1 0 dX8_in_6 rfl rfl ?_
    refine g_lload C.1 2 dX8_in_7 rfl ?_
    refine g_lcmp C.1 dX8_in_9 ?_
    refine g_if_gt (tgt := 17) C.1 dX8_in_10 (by decide) (fun h2 => ?_) (fun h2 => ?_)
    · replace hw := hw.1 h2
      refine g_iconst (v := 0) C.1 dX8_in_17 (by decide) ?_
      exact hret _ _ _ hw rfl dX8_in_18
    · replace hw := hw.2 h2
      refine g_iconst (v := 1) C.1 dX8_in_13 (by decide) ?_
      refine g_goto (tgt := 18) C.1 dX8_in_14 (by decide) ?_
      exact hret _ _ _ hw rfl dX8_in_18
theorem hdR_in : yX8_in.cls = RX8 ∧ yX8_in.cls ≠ "java/lang/invoke/MethodHandle" ∧ yX8_in.cls ≠ "java/lang/invoke/VarHandle" ∧ (parseMethodDescriptor yX8_in.desc).map (fun d => d.parameters.length) = some 3 := by decide +kernel
theorem cR_in (l : Launch) (v0 : Int64) (v2 : Int64) (v4 : Int64) (post : Int32 → Prop) (hw : wpR_in_0 post v0 v2 v4) : rSi l yX8_in cX8_in 6 .boolean 0 0 [.long v0, .long v2, .long v4] post := rSi_of (own := RX8) (by decide +kernel) rfl (Nat.le_of_ble_eq_true rfl) (fun X H0 Q hR C hret => wkR_in_0 C hR hret v0 v2 v4 hw)
def wpR_noPlace_0 (post : Int32 → Prop) (v0 : Int32) : Prop := wpR_in_0 (fun r1 => (¬ r1 = 0 → post 0) ∧ (r1 = 0 → post 1)) v0.toInt64 0 9
theorem wkR_noPlace_0 {X : gT} {H0 : Heap} {Q : State → Prop} (C : sC X cX8_noPlace 1 RX8) (hR : g_R X = rRm 1 25) {post : Int32 → Prop} (hret : ∀ (r : Int32) (lv : List (Nat × Value)) (pc : Nat), post r → narrow .boolean (.int r) = .int r → decode cX8_noPlace pc = .ok (.ireturn, 1) → gJ X (gU H0) Q 0 0 () lv pc [.int r]) (v0 : Int32) (hw : wpR_noPlace_0 post v0) : gJ X (gU H0) Q 0 0 () [(0, .int v0)] 0 [] := by
  refine g_iload_n C.1 0 dX8_noPlace_0 rfl rfl ?_
  refine g_i2l C.1 dX8_noPlace_1 ?_
  refine g_lconst (v := 0) C.1 dX8_noPlace_2 (by decide) ?_
  refine g_ldc2 (v := 9) C.1 C.2.1 (C.2.2.1 _ kR_55) dX8_noPlace_3 ?_
  refine g_callSi C (cR_in (g_l X) _ _ _ _ hw) kR_45 kR_46 kR_43 hdR_in (by rw [hR]; exact ⟨Nat.le_of_ble_eq_true rfl, Nat.le_of_ble_eq_true rfl⟩) dX8_noPlace_6 rfl (Nat.le_of_ble_eq_true rfl) (fun r1 hw => ?_)
  refine g_if_ne (tgt := 16) C.1 dX8_noPlace_9 (by decide) (fun h2 => ?_) (fun h2 => ?_)
  · replace hw := hw.1 h2
    refine g_iconst (v := 0) C.1 dX8_noPlace_16 (by decide) ?_
    exact hret _ _ _ hw rfl dX8_noPlace_17
  · replace hw := hw.2 h2
    refine g_iconst (v := 1) C.1 dX8_noPlace_12 (by decide) ?_
    refine g_goto (tgt := 17) C.1 dX8_noPlace_13 (by decide) ?_
    exact hret _ _ _ hw rfl dX8_noPlace_17
theorem hdR_noPlace : yX8_noPlace.cls = RX8 ∧ yX8_noPlace.cls ≠ "java/lang/invoke/MethodHandle" ∧ yX8_noPlace.cls ≠ "java/lang/invoke/VarHandle" ∧ (parseMethodDescriptor yX8_noPlace.desc).map (fun d => d.parameters.length) = some 1 := by decide +kernel
theorem cR_noPlace (l : Launch) (v0 : Int32) (post : Int32 → Prop) (hw : wpR_noPlace_0 post v0) : rSi l yX8_noPlace cX8_noPlace 1 .boolean 1 25 [.int v0] post := rSi_of (own := RX8) (by decide +kernel) rfl (Nat.le_of_ble_eq_true rfl) (fun X H0 Q hR C hret => wkR_noPlace_0 C hR hret v0 hw)
def wpR_throwsIf_0 (post : Int32 → RSt → Prop) (s : RSt) (v1 : Int32) (v2 : Int32) : Prop := (v1 = 0 → narrow .boolean (.int v1) = .int v1 ∧ post v1 s) ∧ (¬ v1 = 0 → ∀ s2 : RSt, s2 = rsI s 0 v2 → narrow .boolean (.int v1) = .int v1 ∧ post v1 s2)
theorem wkR_throwsIf_0 {X : gT} {G : rG} {A : Nat → Prop} {H0 : Heap} {Q : State → Prop} (C : rC X cX8_throwsIf 3 G A) (hsz : H0 = (g_s X).heap) (hR : g_R X = rRm 0 0) {post : Int32 → RSt → Prop} (hret : ∀ (r : Int32) (τ : RSt) (lv : List (Nat × Value)) (pc : Nat), post r τ → narrow .boolean (.int r) = .int r → decode cX8_throwsIf pc = .ok (.ireturn, 1) → gJ X (rWd G A H0) Q 0 0 τ lv pc [.int r]) (s : RSt) (v1 : Int32) (v2 : Int32) (hw : wpR_throwsIf_0 post s v1 v2) : gJ X (rWd G A H0) Q 0 0 s [(0, .ref (G.2.2.1 0)), (1, .int v1), (2, .int v2)] 0 [] := by
  refine g_iload_n C.1 1 dX8_throwsIf_0 rfl rfl ?_
  refine g_if_eq (tgt := 9) C.1 dX8_throwsIf_1 (by decide) (fun h1 => ?_) (fun h1 => ?_)
  · replace hw := hw.1 h1
    refine g_iload_n C.1 1 dX8_throwsIf_9 rfl rfl ?_
    exact hret _ _ _ _ hw.2 hw.1 dX8_throwsIf_10
  · replace hw := hw.2 h1
    refine g_aload_n C.1 0 dX8_throwsIf_4 rfl rfl ?_
    refine g_iload_n C.1 2 dX8_throwsIf_5 rfl rfl ?_
    refine r_p0 C dX8_throwsIf_6 ?_
    refine gJ.nm (fun s2 es2 => ?_)
    replace hw := hw s2 es2
    refine g_iload_n C.1 1 dX8_throwsIf_9 rfl rfl ?_
    exact hret _ _ _ _ hw.2 hw.1 dX8_throwsIf_10
theorem hdR_throwsIf : yX8_throwsIf.cls = RX8 ∧ yX8_throwsIf.cls ≠ "java/lang/invoke/MethodHandle" ∧ yX8_throwsIf.cls ≠ "java/lang/invoke/VarHandle" ∧ (parseMethodDescriptor yX8_throwsIf.desc).map (fun d => d.parameters.length) = some 2 := by decide +kernel
theorem cR_throwsIf (l : Launch) (G : rG) (s : RSt) (v1 : Int32) (v2 : Int32) (post : Int32 → RSt → Prop) (hw : wpR_throwsIf_0 post s v1 v2) : rMi l yX8_throwsIf cX8_throwsIf 3 .boolean 0 0 G s [.int v1, .int v2] post := rMi_of (by decide +kernel) rfl (Nat.le_of_ble_eq_true rfl) (fun X A H0 Q hl hR hsz C hret => wkR_throwsIf_0 C hsz hR hret s v1 v2 hw)
def wpR_noLift_0 (post : Int32 → RSt → Prop) (s : RSt) (v1 : Int32) : Prop := wpR_in_0 (fun r1 => (¬ r1 = 0 → post 0 s) ∧ (r1 = 0 → post 1 s)) v1.toInt64 0 (((s.1 7) - 1).toInt64)
theorem wkR_noLift_0 {X : gT} {G : rG} {A : Nat → Prop} {H0 : Heap} {Q : State → Prop} (C : rC X cX8_noLift 2 G A) (hsz : H0 = (g_s X).heap) (hR : g_R X = rRm 1 25) {post : Int32 → RSt → Prop} (hret : ∀ (r : Int32) (τ : RSt) (lv : List (Nat × Value)) (pc : Nat), post r τ → narrow .boolean (.int r) = .int r → decode cX8_noLift pc = .ok (.ireturn, 1) → gJ X (rWd G A H0) Q 0 0 τ lv pc [.int r]) (s : RSt) (v1 : Int32) (hw : wpR_noLift_0 post s v1) : gJ X (rWd G A H0) Q 0 0 s [(0, .ref (G.2.2.1 0)), (1, .int v1)] 0 [] := by
  refine g_iload_n C.1 1 dX8_noLift_0 rfl rfl ?_
  refine g_i2l C.1 dX8_noLift_1 ?_
  refine g_lconst (v := 0) C.1 dX8_noLift_2 (by decide) ?_
  refine g_aload_n C.1 0 dX8_noLift_3 rfl rfl ?_
  refine r_g7 C dX8_noLift_4 ?_
  refine g_iconst (v := 1) C.1 dX8_noLift_7 (by decide) ?_
  refine g_isub C.1 dX8_noLift_8 ?_
  refine g_i2l C.1 dX8_noLift_9 ?_
  refine g_callSi (rC.s C) (cR_in (g_l X) _ _ _ _ hw) kR_45 kR_46 kR_43 hdR_in (by rw [hR]; exact ⟨Nat.le_of_ble_eq_true rfl, Nat.le_of_ble_eq_true rfl⟩) dX8_noLift_10 rfl (Nat.le_of_ble_eq_true rfl) (fun r1 hw => ?_)
  refine g_if_ne (tgt := 20) C.1 dX8_noLift_13 (by decide) (fun h2 => ?_) (fun h2 => ?_)
  · replace hw := hw.1 h2
    refine g_iconst (v := 0) C.1 dX8_noLift_20 (by decide) ?_
    exact hret _ _ _ _ hw rfl dX8_noLift_21
  · replace hw := hw.2 h2
    refine g_iconst (v := 1) C.1 dX8_noLift_16 (by decide) ?_
    refine g_goto (tgt := 21) C.1 dX8_noLift_17 (by decide) ?_
    exact hret _ _ _ _ hw rfl dX8_noLift_21
theorem hdR_noLift : yX8_noLift.cls = RX8 ∧ yX8_noLift.cls ≠ "java/lang/invoke/MethodHandle" ∧ yX8_noLift.cls ≠ "java/lang/invoke/VarHandle" ∧ (parseMethodDescriptor yX8_noLift.desc).map (fun d => d.parameters.length) = some 1 := by decide +kernel
theorem cR_noLift (l : Launch) (G : rG) (s : RSt) (v1 : Int32) (post : Int32 → RSt → Prop) (hw : wpR_noLift_0 post s v1) : rMi l yX8_noLift cX8_noLift 2 .boolean 1 25 G s [.int v1] post := rMi_of (by decide +kernel) rfl (Nat.le_of_ble_eq_true rfl) (fun X A H0 Q hl hR hsz C hret => wkR_noLift_0 C hsz hR hret s v1 hw)
def wpR_noSlope_0 (post : Int32 → RSt → Prop) (s : RSt) (v1 : Int32) : Prop := wpR_in_0 (fun r1 => (¬ r1 = 0 → post 0 s) ∧ (r1 = 0 → post 1 s)) v1.toInt64 0 (((s.1 9) - 1).toInt64)
theorem wkR_noSlope_0 {X : gT} {G : rG} {A : Nat → Prop} {H0 : Heap} {Q : State → Prop} (C : rC X cX8_noSlope 2 G A) (hsz : H0 = (g_s X).heap) (hR : g_R X = rRm 1 25) {post : Int32 → RSt → Prop} (hret : ∀ (r : Int32) (τ : RSt) (lv : List (Nat × Value)) (pc : Nat), post r τ → narrow .boolean (.int r) = .int r → decode cX8_noSlope pc = .ok (.ireturn, 1) → gJ X (rWd G A H0) Q 0 0 τ lv pc [.int r]) (s : RSt) (v1 : Int32) (hw : wpR_noSlope_0 post s v1) : gJ X (rWd G A H0) Q 0 0 s [(0, .ref (G.2.2.1 0)), (1, .int v1)] 0 [] := by
  refine g_iload_n C.1 1 dX8_noSlope_0 rfl rfl ?_
  refine g_i2l C.1 dX8_noSlope_1 ?_
  refine g_lconst (v := 0) C.1 dX8_noSlope_2 (by decide) ?_
  refine g_aload_n C.1 0 dX8_noSlope_3 rfl rfl ?_
  refine r_g9 C dX8_noSlope_4 ?_
  refine g_iconst (v := 1) C.1 dX8_noSlope_7 (by decide) ?_
  refine g_isub C.1 dX8_noSlope_8 ?_
  refine g_i2l C.1 dX8_noSlope_9 ?_
  refine g_callSi (rC.s C) (cR_in (g_l X) _ _ _ _ hw) kR_45 kR_46 kR_43 hdR_in (by rw [hR]; exact ⟨Nat.le_of_ble_eq_true rfl, Nat.le_of_ble_eq_true rfl⟩) dX8_noSlope_10 rfl (Nat.le_of_ble_eq_true rfl) (fun r1 hw => ?_)
  refine g_if_ne (tgt := 20) C.1 dX8_noSlope_13 (by decide) (fun h2 => ?_) (fun h2 => ?_)
  · replace hw := hw.1 h2
    refine g_iconst (v := 0) C.1 dX8_noSlope_20 (by decide) ?_
    exact hret _ _ _ _ hw rfl dX8_noSlope_21
  · replace hw := hw.2 h2
    refine g_iconst (v := 1) C.1 dX8_noSlope_16 (by decide) ?_
    refine g_goto (tgt := 21) C.1 dX8_noSlope_17 (by decide) ?_
    exact hret _ _ _ _ hw rfl dX8_noSlope_21
theorem hdR_noSlope : yX8_noSlope.cls = RX8 ∧ yX8_noSlope.cls ≠ "java/lang/invoke/MethodHandle" ∧ yX8_noSlope.cls ≠ "java/lang/invoke/VarHandle" ∧ (parseMethodDescriptor yX8_noSlope.desc).map (fun d => d.parameters.length) = some 1 := by decide +kernel
theorem cR_noSlope (l : Launch) (G : rG) (s : RSt) (v1 : Int32) (post : Int32 → RSt → Prop) (hw : wpR_noSlope_0 post s v1) : rMi l yX8_noSlope cX8_noSlope 2 .boolean 1 25 G s [.int v1] post := rMi_of (by decide +kernel) rfl (Nat.le_of_ble_eq_true rfl) (fun X A H0 Q hl hR hsz C hret => wkR_noSlope_0 C hsz hR hret s v1 hw)
def wpR_noCell_0 (post : Int32 → RSt → Prop) (s : RSt) (v1 : Int32) : Prop := wpR_in_0 (fun r1 => (¬ r1 = 0 → post 0 s) ∧ (r1 = 0 → post 1 s)) v1.toInt64 0 (((s.1 14) - 1).toInt64)
theorem wkR_noCell_0 {X : gT} {G : rG} {A : Nat → Prop} {H0 : Heap} {Q : State → Prop} (C : rC X cX8_noCell 2 G A) (hsz : H0 = (g_s X).heap) (hR : g_R X = rRm 1 25) {post : Int32 → RSt → Prop} (hret : ∀ (r : Int32) (τ : RSt) (lv : List (Nat × Value)) (pc : Nat), post r τ → narrow .boolean (.int r) = .int r → decode cX8_noCell pc = .ok (.ireturn, 1) → gJ X (rWd G A H0) Q 0 0 τ lv pc [.int r]) (s : RSt) (v1 : Int32) (hw : wpR_noCell_0 post s v1) : gJ X (rWd G A H0) Q 0 0 s [(0, .ref (G.2.2.1 0)), (1, .int v1)] 0 [] := by
  refine g_iload_n C.1 1 dX8_noCell_0 rfl rfl ?_
  refine g_i2l C.1 dX8_noCell_1 ?_
  refine g_lconst (v := 0) C.1 dX8_noCell_2 (by decide) ?_
  refine g_aload_n C.1 0 dX8_noCell_3 rfl rfl ?_
  refine r_g14 C dX8_noCell_4 ?_
  refine g_iconst (v := 1) C.1 dX8_noCell_7 (by decide) ?_
  refine g_isub C.1 dX8_noCell_8 ?_
  refine g_i2l C.1 dX8_noCell_9 ?_
  refine g_callSi (rC.s C) (cR_in (g_l X) _ _ _ _ hw) kR_45 kR_46 kR_43 hdR_in (by rw [hR]; exact ⟨Nat.le_of_ble_eq_true rfl, Nat.le_of_ble_eq_true rfl⟩) dX8_noCell_10 rfl (Nat.le_of_ble_eq_true rfl) (fun r1 hw => ?_)
  refine g_if_ne (tgt := 20) C.1 dX8_noCell_13 (by decide) (fun h2 => ?_) (fun h2 => ?_)
  · replace hw := hw.1 h2
    refine g_iconst (v := 0) C.1 dX8_noCell_20 (by decide) ?_
    exact hret _ _ _ _ hw rfl dX8_noCell_21
  · replace hw := hw.2 h2
    refine g_iconst (v := 1) C.1 dX8_noCell_16 (by decide) ?_
    refine g_goto (tgt := 21) C.1 dX8_noCell_17 (by decide) ?_
    exact hret _ _ _ _ hw rfl dX8_noCell_21
theorem hdR_noCell : yX8_noCell.cls = RX8 ∧ yX8_noCell.cls ≠ "java/lang/invoke/MethodHandle" ∧ yX8_noCell.cls ≠ "java/lang/invoke/VarHandle" ∧ (parseMethodDescriptor yX8_noCell.desc).map (fun d => d.parameters.length) = some 1 := by decide +kernel
theorem cR_noCell (l : Launch) (G : rG) (s : RSt) (v1 : Int32) (post : Int32 → RSt → Prop) (hw : wpR_noCell_0 post s v1) : rMi l yX8_noCell cX8_noCell 2 .boolean 1 25 G s [.int v1] post := rMi_of (by decide +kernel) rfl (Nat.le_of_ble_eq_true rfl) (fun X A H0 Q hl hR hsz C hret => wkR_noCell_0 C hsz hR hret s v1 hw)
def wpR_noGroup_0 (post : Int32 → RSt → Prop) (s : RSt) (v1 : Int32) : Prop := wpR_in_0 (fun r1 => (¬ r1 = 0 → post 0 s) ∧ (r1 = 0 → post 1 s)) v1.toInt64 0 (((s.1 22) - 1).toInt64)
theorem wkR_noGroup_0 {X : gT} {G : rG} {A : Nat → Prop} {H0 : Heap} {Q : State → Prop} (C : rC X cX8_noGroup 2 G A) (hsz : H0 = (g_s X).heap) (hR : g_R X = rRm 1 25) {post : Int32 → RSt → Prop} (hret : ∀ (r : Int32) (τ : RSt) (lv : List (Nat × Value)) (pc : Nat), post r τ → narrow .boolean (.int r) = .int r → decode cX8_noGroup pc = .ok (.ireturn, 1) → gJ X (rWd G A H0) Q 0 0 τ lv pc [.int r]) (s : RSt) (v1 : Int32) (hw : wpR_noGroup_0 post s v1) : gJ X (rWd G A H0) Q 0 0 s [(0, .ref (G.2.2.1 0)), (1, .int v1)] 0 [] := by
  refine g_iload_n C.1 1 dX8_noGroup_0 rfl rfl ?_
  refine g_i2l C.1 dX8_noGroup_1 ?_
  refine g_lconst (v := 0) C.1 dX8_noGroup_2 (by decide) ?_
  refine g_aload_n C.1 0 dX8_noGroup_3 rfl rfl ?_
  refine r_g22 C dX8_noGroup_4 ?_
  refine g_iconst (v := 1) C.1 dX8_noGroup_7 (by decide) ?_
  refine g_isub C.1 dX8_noGroup_8 ?_
  refine g_i2l C.1 dX8_noGroup_9 ?_
  refine g_callSi (rC.s C) (cR_in (g_l X) _ _ _ _ hw) kR_45 kR_46 kR_43 hdR_in (by rw [hR]; exact ⟨Nat.le_of_ble_eq_true rfl, Nat.le_of_ble_eq_true rfl⟩) dX8_noGroup_10 rfl (Nat.le_of_ble_eq_true rfl) (fun r1 hw => ?_)
  refine g_if_ne (tgt := 20) C.1 dX8_noGroup_13 (by decide) (fun h2 => ?_) (fun h2 => ?_)
  · replace hw := hw.1 h2
    refine g_iconst (v := 0) C.1 dX8_noGroup_20 (by decide) ?_
    exact hret _ _ _ _ hw rfl dX8_noGroup_21
  · replace hw := hw.2 h2
    refine g_iconst (v := 1) C.1 dX8_noGroup_16 (by decide) ?_
    refine g_goto (tgt := 21) C.1 dX8_noGroup_17 (by decide) ?_
    exact hret _ _ _ _ hw rfl dX8_noGroup_21
theorem hdR_noGroup : yX8_noGroup.cls = RX8 ∧ yX8_noGroup.cls ≠ "java/lang/invoke/MethodHandle" ∧ yX8_noGroup.cls ≠ "java/lang/invoke/VarHandle" ∧ (parseMethodDescriptor yX8_noGroup.desc).map (fun d => d.parameters.length) = some 1 := by decide +kernel
theorem cR_noGroup (l : Launch) (G : rG) (s : RSt) (v1 : Int32) (post : Int32 → RSt → Prop) (hw : wpR_noGroup_0 post s v1) : rMi l yX8_noGroup cX8_noGroup 2 .boolean 1 25 G s [.int v1] post := rMi_of (by decide +kernel) rfl (Nat.le_of_ble_eq_true rfl) (fun X A H0 Q hl hR hsz C hret => wkR_noGroup_0 C hsz hR hret s v1 hw)
def wpR_depth_0 (post : Int32 → RSt → Prop) (s : RSt) (v1 : Int32) : Prop := vp_in (4 * v1) 160 ∧ vp_in ((4 * v1) + 1) 160 ∧ vp_in ((4 * v1) + 2) 160 ∧ vp_in ((4 * v1) + 3) 160 ∧ post ((((s.2.1 10 (4 * v1).toNatClampNeg) + (s.2.1 10 ((4 * v1) + 1).toNatClampNeg)) + (s.2.1 10 ((4 * v1) + 2).toNatClampNeg)) + (s.2.1 10 ((4 * v1) + 3).toNatClampNeg)) s
theorem wkR_depth_0 {X : gT} {G : rG} {A : Nat → Prop} {H0 : Heap} {Q : State → Prop} (C : rC X cX8_depth 2 G A) (hsz : H0 = (g_s X).heap) (hR : g_R X = rRm 0 0) {post : Int32 → RSt → Prop} (hret : ∀ (r : Int32) (τ : RSt) (lv : List (Nat × Value)) (pc : Nat), post r τ → narrow .int (.int r) = .int r → decode cX8_depth pc = .ok (.ireturn, 1) → gJ X (rWd G A H0) Q 0 0 τ lv pc [.int r]) (s : RSt) (v1 : Int32) (hw : wpR_depth_0 post s v1) : gJ X (rWd G A H0) Q 0 0 s [(0, .ref (G.2.2.1 0)), (1, .int v1)] 0 [] := by
  refine g_aload_n C.1 0 dX8_depth_0 rfl rfl ?_
  refine r_g10 C dX8_depth_1 ?_
  refine g_iconst (v := 4) C.1 dX8_depth_4 (by decide) ?_
  refine g_iload_n C.1 1 dX8_depth_5 rfl rfl ?_
  refine g_imul C.1 dX8_depth_6 ?_
  refine r_ld10 C hw.1 dX8_depth_7 ?_
  replace hw := hw.2
  refine g_aload_n C.1 0 dX8_depth_8 rfl rfl ?_
  refine r_g10 C dX8_depth_9 ?_
  refine g_iconst (v := 4) C.1 dX8_depth_12 (by decide) ?_
  refine g_iload_n C.1 1 dX8_depth_13 rfl rfl ?_
  refine g_imul C.1 dX8_depth_14 ?_
  refine g_iconst (v := 1) C.1 dX8_depth_15 (by decide) ?_
  refine g_iadd C.1 dX8_depth_16 ?_
  refine r_ld10 C hw.1 dX8_depth_17 ?_
  replace hw := hw.2
  refine g_iadd C.1 dX8_depth_18 ?_
  refine g_aload_n C.1 0 dX8_depth_19 rfl rfl ?_
  refine r_g10 C dX8_depth_20 ?_
  refine g_iconst (v := 4) C.1 dX8_depth_23 (by decide) ?_
  refine g_iload_n C.1 1 dX8_depth_24 rfl rfl ?_
  refine g_imul C.1 dX8_depth_25 ?_
  refine g_iconst (v := 2) C.1 dX8_depth_26 (by decide) ?_
  refine g_iadd C.1 dX8_depth_27 ?_
  refine r_ld10 C hw.1 dX8_depth_28 ?_
  replace hw := hw.2
  refine g_iadd C.1 dX8_depth_29 ?_
  refine g_aload_n C.1 0 dX8_depth_30 rfl rfl ?_
  refine r_g10 C dX8_depth_31 ?_
  refine g_iconst (v := 4) C.1 dX8_depth_34 (by decide) ?_
  refine g_iload_n C.1 1 dX8_depth_35 rfl rfl ?_
  refine g_imul C.1 dX8_depth_36 ?_
  refine g_iconst (v := 3) C.1 dX8_depth_37 (by decide) ?_
  refine g_iadd C.1 dX8_depth_38 ?_
  refine r_ld10 C hw.1 dX8_depth_39 ?_
  replace hw := hw.2
  refine g_iadd C.1 dX8_depth_40 ?_
  exact hret _ _ _ _ hw rfl dX8_depth_41
theorem hdR_depth : yX8_depth.cls = RX8 ∧ yX8_depth.cls ≠ "java/lang/invoke/MethodHandle" ∧ yX8_depth.cls ≠ "java/lang/invoke/VarHandle" ∧ (parseMethodDescriptor yX8_depth.desc).map (fun d => d.parameters.length) = some 1 := by decide +kernel
theorem cR_depth (l : Launch) (G : rG) (s : RSt) (v1 : Int32) (post : Int32 → RSt → Prop) (hw : wpR_depth_0 post s v1) : rMi l yX8_depth cX8_depth 2 .int 0 0 G s [.int v1] post := rMi_of (by decide +kernel) rfl (Nat.le_of_ble_eq_true rfl) (fun X A H0 Q hl hR hsz C hret => wkR_depth_0 C hsz hR hret s v1 hw)
def wpR_isRunning_0 (post : Int32 → RSt → Prop) (s : RSt) (v1 : Int32) : Prop := vp_in v1 8 ∧ (¬ (s.2.1 4 v1.toNatClampNeg) = 0 → post 0 s) ∧ ((s.2.1 4 v1.toNatClampNeg) = 0 → vp_in ((5 * v1) + 4) 40 ∧ ((s.2.1 3 ((5 * v1) + 4).toNatClampNeg) < (s.1 27) → post 0 s) ∧ (¬ (s.2.1 3 ((5 * v1) + 4).toNatClampNeg) < (s.1 27) → post 1 s))
theorem wkR_isRunning_0 {X : gT} {G : rG} {A : Nat → Prop} {H0 : Heap} {Q : State → Prop} (C : rC X cX8_isRunning 2 G A) (hsz : H0 = (g_s X).heap) (hR : g_R X = rRm 0 0) {post : Int32 → RSt → Prop} (hret : ∀ (r : Int32) (τ : RSt) (lv : List (Nat × Value)) (pc : Nat), post r τ → narrow .boolean (.int r) = .int r → decode cX8_isRunning pc = .ok (.ireturn, 1) → gJ X (rWd G A H0) Q 0 0 τ lv pc [.int r]) (s : RSt) (v1 : Int32) (hw : wpR_isRunning_0 post s v1) : gJ X (rWd G A H0) Q 0 0 s [(0, .ref (G.2.2.1 0)), (1, .int v1)] 0 [] := by
  refine g_aload_n C.1 0 dX8_isRunning_0 rfl rfl ?_
  refine r_g4 C dX8_isRunning_1 ?_
  refine g_iload_n C.1 1 dX8_isRunning_4 rfl rfl ?_
  refine r_ld4 C hw.1 dX8_isRunning_5 ?_
  replace hw := hw.2
  refine g_if_ne (tgt := 30) C.1 dX8_isRunning_6 (by decide) (fun h1 => ?_) (fun h1 => ?_)
  · replace hw := hw.1 h1
    refine g_iconst (v := 0) C.1 dX8_isRunning_30 (by decide) ?_
    exact hret _ _ _ _ hw rfl dX8_isRunning_31
  · replace hw := hw.2 h1
    refine g_aload_n C.1 0 dX8_isRunning_9 rfl rfl ?_
    refine r_g27 C dX8_isRunning_10 ?_
    refine g_aload_n C.1 0 dX8_isRunning_13 rfl rfl ?_
    refine r_g3 C dX8_isRunning_14 ?_
    refine g_iconst (v := 5) C.1 dX8_isRunning_17 (by decide) ?_
    refine g_iload_n C.1 1 dX8_isRunning_18 rfl rfl ?_
    refine g_imul C.1 dX8_isRunning_19 ?_
    refine g_iconst (v := 4) C.1 dX8_isRunning_20 (by decide) ?_
    refine g_iadd C.1 dX8_isRunning_21 ?_
    refine r_ld3 C hw.1 dX8_isRunning_22 ?_
    replace hw := hw.2
    refine g_icmp_gt (tgt := 30) C.1 dX8_isRunning_23 (by decide) (fun h2 => ?_) (fun h2 => ?_)
    · replace hw := hw.1 h2
      refine g_iconst (v := 0) C.1 dX8_isRunning_30 (by decide) ?_
      exact hret _ _ _ _ hw rfl dX8_isRunning_31
    · replace hw := hw.2 h2
      refine g_iconst (v := 1) C.1 dX8_isRunning_26 (by decide) ?_
      refine g_goto (tgt := 31) C.1 dX8_isRunning_27 (by decide) ?_
      exact hret _ _ _ _ hw rfl dX8_isRunning_31
theorem hdR_isRunning : yX8_isRunning.cls = RX8 ∧ yX8_isRunning.cls ≠ "java/lang/invoke/MethodHandle" ∧ yX8_isRunning.cls ≠ "java/lang/invoke/VarHandle" ∧ (parseMethodDescriptor yX8_isRunning.desc).map (fun d => d.parameters.length) = some 1 := by decide +kernel
theorem cR_isRunning (l : Launch) (G : rG) (s : RSt) (v1 : Int32) (post : Int32 → RSt → Prop) (hw : wpR_isRunning_0 post s v1) : rMi l yX8_isRunning cX8_isRunning 2 .boolean 0 0 G s [.int v1] post := rMi_of (by decide +kernel) rfl (Nat.le_of_ble_eq_true rfl) (fun X A H0 Q hl hR hsz C hret => wkR_isRunning_0 C hsz hR hret s v1 hw)
def wpR_fail_0 (post : RSt → Prop) (s : RSt) (v1 : Int32) : Prop := (0 ≤ (s.1 37) → post s) ∧ (¬ 0 ≤ (s.1 37) → ∀ s2 : RSt, s2 = rsI s 37 v1 → post s2)
theorem wkR_fail_0 {X : gT} {G : rG} {A : Nat → Prop} {H0 : Heap} {Q : State → Prop} (C : rC X cX8_fail 2 G A) (hsz : H0 = (g_s X).heap) (hR : g_R X = rRm 0 0) {post : RSt → Prop} (hret : ∀ (τ : RSt) (lv : List (Nat × Value)) (pc : Nat), post τ → decode cX8_fail pc = .ok (.return_, 1) → gJ X (rWd G A H0) Q 0 0 τ lv pc []) (s : RSt) (v1 : Int32) (hw : wpR_fail_0 post s v1) : gJ X (rWd G A H0) Q 0 0 s [(0, .ref (G.2.2.1 0)), (1, .int v1)] 0 [] := by
  refine g_aload_n C.1 0 dX8_fail_0 rfl rfl ?_
  refine r_g37 C dX8_fail_1 ?_
  refine g_if_ge (tgt := 12) C.1 dX8_fail_4 (by decide) (fun h1 => ?_) (fun h1 => ?_)
  · replace hw := hw.1 h1
    exact hret _ _ _ hw dX8_fail_12
  · replace hw := hw.2 h1
    refine g_aload_n C.1 0 dX8_fail_7 rfl rfl ?_
    refine g_iload_n C.1 1 dX8_fail_8 rfl rfl ?_
    refine r_p37 C dX8_fail_9 ?_
    refine gJ.nm (fun s2 es2 => ?_)
    replace hw := hw s2 es2
    exact hret _ _ _ hw dX8_fail_12
theorem hdR_fail : yX8_fail.cls = RX8 ∧ yX8_fail.cls ≠ "java/lang/invoke/MethodHandle" ∧ yX8_fail.cls ≠ "java/lang/invoke/VarHandle" ∧ (parseMethodDescriptor yX8_fail.desc).map (fun d => d.parameters.length) = some 1 := by decide +kernel
theorem cR_fail (l : Launch) (G : rG) (s : RSt) (v1 : Int32) (post : RSt → Prop) (hw : wpR_fail_0 post s v1) : rMv l yX8_fail cX8_fail 2 0 0 G s [.int v1] post := rMv_of (by decide +kernel) rfl (Nat.le_of_ble_eq_true rfl) (fun X A H0 Q hl hR hsz C hret => wkR_fail_0 C hsz hR hret s v1 hw)
def wpR_emit_0 (post : RSt → Prop) (s : RSt) (v1 : Int32) (v2 : Int32) : Prop := vp_in 10 11 ∧ vp_in (4000 + (s.2.1 17 (10 : Int32).toNatClampNeg)) 4400 ∧ ∀ s1 : RSt, s1 = rsA s 15 (4000 + (s.2.1 17 (10 : Int32).toNatClampNeg)).toNatClampNeg v1 → vp_in (4000 + (s.2.1 17 (10 : Int32).toNatClampNeg)) 4400 ∧ ∀ s2 : RSt, s2 = rsA s1 16 (4000 + (s.2.1 17 (10 : Int32).toNatClampNeg)).toNatClampNeg v2 → vp_in 10 11 ∧ vp_in 10 11 ∧ ∀ s3 : RSt, s3 = rsA s2 17 (10 : Int32).toNatClampNeg ((s2.2.1 17 (10 : Int32).toNatClampNeg) + 1) → post s3
theorem wkR_emit_0 {X : gT} {G : rG} {A : Nat → Prop} {H0 : Heap} {Q : State → Prop} (C : rC X cX8_emit 4 G A) (hsz : H0 = (g_s X).heap) (hR : g_R X = rRm 0 0) {post : RSt → Prop} (hret : ∀ (τ : RSt) (lv : List (Nat × Value)) (pc : Nat), post τ → decode cX8_emit pc = .ok (.return_, 1) → gJ X (rWd G A H0) Q 0 0 τ lv pc []) (s : RSt) (v1 : Int32) (v2 : Int32) (hw : wpR_emit_0 post s v1 v2) : gJ X (rWd G A H0) Q 0 0 s [(0, .ref (G.2.2.1 0)), (1, .int v1), (2, .int v2)] 0 [] := by
  refine g_sipush (v := 4000) C.1 dX8_emit_0 (by decide) ?_
  refine g_aload_n C.1 0 dX8_emit_3 rfl rfl ?_
  refine r_g17 C dX8_emit_4 ?_
  refine g_bipush (v := 10) C.1 dX8_emit_7 (by decide) ?_
  refine r_ld17 C hw.1 dX8_emit_9 ?_
  replace hw := hw.2
  refine g_iadd C.1 dX8_emit_10 ?_
  refine g_istore_n (lv' := [(3, .int (4000 + (s.2.1 17 (10 : Int32).toNatClampNeg))), (0, .ref (G.2.2.1 0)), (1, .int v1), (2, .int v2)]) C.1 dX8_emit_11 rfl (by decide) rfl ?_
  refine g_aload_n C.1 1 dX8_emit_12 rfl rfl ?_
  refine r_g15 C dX8_emit_13 ?_
  refine g_iload_n C.1 0 dX8_emit_16 rfl rfl ?_
  refine g_iload_n C.1 2 dX8_emit_17 rfl rfl ?_
  refine r_st15 C hw.1 dX8_emit_18 ?_
  replace hw := hw.2
  refine gJ.nm (fun s1 es1 => ?_)
  replace hw := hw s1 es1
  refine g_aload_n C.1 1 dX8_emit_19 rfl rfl ?_
  refine r_g16 C dX8_emit_20 ?_
  refine g_iload_n C.1 0 dX8_emit_23 rfl rfl ?_
  refine g_iload_n C.1 3 dX8_emit_24 rfl rfl ?_
  refine r_st16 C hw.1 dX8_emit_25 ?_
  replace hw := hw.2
  refine gJ.nm (fun s2 es2 => ?_)
  replace hw := hw s2 es2
  refine g_aload_n C.1 1 dX8_emit_26 rfl rfl ?_
  refine r_g17 C dX8_emit_27 ?_
  refine g_bipush (v := 10) C.1 dX8_emit_30 (by decide) ?_
  refine g_dup2 C.1 dX8_emit_32 rfl rfl ?_
  refine r_ld17 C hw.1 dX8_emit_33 ?_
  replace hw := hw.2
  refine g_iconst (v := 1) C.1 dX8_emit_34 (by decide) ?_
  refine g_iadd C.1 dX8_emit_35 ?_
  refine r_st17 C hw.1 dX8_emit_36 ?_
  replace hw := hw.2
  refine gJ.nm (fun s3 es3 => ?_)
  replace hw := hw s3 es3
  exact hret _ _ _ hw dX8_emit_37
theorem hdR_emit : yX8_emit.cls = RX8 ∧ yX8_emit.cls ≠ "java/lang/invoke/MethodHandle" ∧ yX8_emit.cls ≠ "java/lang/invoke/VarHandle" ∧ (parseMethodDescriptor yX8_emit.desc).map (fun d => d.parameters.length) = some 2 := by decide +kernel
theorem cR_emit (l : Launch) (G : rG) (s : RSt) (v1 : Int32) (v2 : Int32) (post : RSt → Prop) (hw : wpR_emit_0 post s v1 v2) : rMv l yX8_emit cX8_emit 4 0 0 G s [.int v1, .int v2] post := rMv_of (by decide +kernel) rfl (Nat.le_of_ble_eq_true rfl) (fun X A H0 Q hl hR hsz C hret => wkR_emit_0 C hsz hR hret s v1 v2 hw)
def wpR_is_0 (post : Int32 → RSt → Prop) (s : RSt) (v1 : Int32) (v2 : Int32) : Prop := (0 ≤ (s.1 37) → post 0 s) ∧ (¬ 0 ≤ (s.1 37) → (¬ (s.1 33) = v1 → post 0 s) ∧ ((s.1 33) = v1 → (¬ (s.1 35) = v2 → post 0 s) ∧ ((s.1 35) = v2 → post 1 s)))
theorem wkR_is_0 {X : gT} {G : rG} {A : Nat → Prop} {H0 : Heap} {Q : State → Prop} (C : rC X cX8_is 3 G A) (hsz : H0 = (g_s X).heap) (hR : g_R X = rRm 0 0) {post : Int32 → RSt → Prop} (hret : ∀ (r : Int32) (τ : RSt) (lv : List (Nat × Value)) (pc : Nat), post r τ → narrow .boolean (.int r) = .int r → decode cX8_is pc = .ok (.ireturn, 1) → gJ X (rWd G A H0) Q 0 0 τ lv pc [.int r]) (s : RSt) (v1 : Int32) (v2 : Int32) (hw : wpR_is_0 post s v1 v2) : gJ X (rWd G A H0) Q 0 0 s [(0, .ref (G.2.2.1 0)), (1, .int v1), (2, .int v2)] 0 [] := by
  refine g_aload_n C.1 0 dX8_is_0 rfl rfl ?_
  refine r_g37 C dX8_is_1 ?_
  refine g_if_ge (tgt := 27) C.1 dX8_is_4 (by decide) (fun h1 => ?_) (fun h1 => ?_)
  · replace hw := hw.1 h1
    refine g_iconst (v := 0) C.1 dX8_is_27 (by decide) ?_
    exact hret _ _ _ _ hw rfl dX8_is_28
  · replace hw := hw.2 h1
    refine g_aload_n C.1 0 dX8_is_7 rfl rfl ?_
    refine r_g33 C dX8_is_8 ?_
    refine g_iload_n C.1 1 dX8_is_11 rfl rfl ?_
    refine g_icmp_ne (tgt := 27) C.1 dX8_is_12 (by decide) (fun h2 => ?_) (fun h2 => ?_)
    · replace hw := hw.1 h2
      refine g_iconst (v := 0) C.1 dX8_is_27 (by decide) ?_
      exact hret _ _ _ _ hw rfl dX8_is_28
    · replace hw := hw.2 h2
      refine g_aload_n C.1 0 dX8_is_15 rfl rfl ?_
      refine r_g35 C dX8_is_16 ?_
      refine g_iload_n C.1 2 dX8_is_19 rfl rfl ?_
      refine g_icmp_ne (tgt := 27) C.1 dX8_is_20 (by decide) (fun h3 => ?_) (fun h3 => ?_)
      · replace hw := hw.1 h3
        refine g_iconst (v := 0) C.1 dX8_is_27 (by decide) ?_
        exact hret _ _ _ _ hw rfl dX8_is_28
      · replace hw := hw.2 h3
        refine g_iconst (v := 1) C.1 dX8_is_23 (by decide) ?_
        refine g_goto (tgt := 28) C.1 dX8_is_24 (by decide) ?_
        exact hret _ _ _ _ hw rfl dX8_is_28
theorem hdR_is : yX8_is.cls = RX8 ∧ yX8_is.cls ≠ "java/lang/invoke/MethodHandle" ∧ yX8_is.cls ≠ "java/lang/invoke/VarHandle" ∧ (parseMethodDescriptor yX8_is.desc).map (fun d => d.parameters.length) = some 2 := by decide +kernel
theorem cR_is (l : Launch) (G : rG) (s : RSt) (v1 : Int32) (v2 : Int32) (post : Int32 → RSt → Prop) (hw : wpR_is_0 post s v1 v2) : rMi l yX8_is cX8_is 3 .boolean 0 0 G s [.int v1, .int v2] post := rMi_of (by decide +kernel) rfl (Nat.le_of_ble_eq_true rfl) (fun X A H0 Q hl hR hsz C hret => wkR_is_0 C hsz hR hret s v1 v2 hw)
def wpR_compares_0 (post : Int32 → Prop) (v0 : Int32) (v1 : Int32) (v2 : Int32) : Prop := (¬ v1 = 0 → (¬ v1 = 1 → (¬ v0 = v2 → post 0) ∧ (v0 = v2 → post 1)) ∧ (v1 = 1 → (v0 ≤ v2 → post 0) ∧ (¬ v0 ≤ v2 → post 1))) ∧ (v1 = 0 → (v2 ≤ v0 → post 0) ∧ (¬ v2 ≤ v0 → post 1))
theorem wkR_compares_0 {X : gT} {H0 : Heap} {Q : State → Prop} (C : sC X cX8_compares 3 RX8) (hR : g_R X = rRm 0 0) {post : Int32 → Prop} (hret : ∀ (r : Int32) (lv : List (Nat × Value)) (pc : Nat), post r → narrow .boolean (.int r) = .int r → decode cX8_compares pc = .ok (.ireturn, 1) → gJ X (gU H0) Q 0 0 () lv pc [.int r]) (v0 : Int32) (v1 : Int32) (v2 : Int32) (hw : wpR_compares_0 post v0 v1 v2) : gJ X (gU H0) Q 0 0 () [(0, .int v0), (1, .int v1), (2, .int v2)] 0 [] := by
  refine g_iload_n C.1 1 dX8_compares_0 rfl rfl ?_
  refine g_if_ne (tgt := 17) C.1 dX8_compares_1 (by decide) (fun h1 => ?_) (fun h1 => ?_)
  · replace hw := hw.1 h1
    refine g_iload_n C.1 1 dX8_compares_17 rfl rfl ?_
    refine g_iconst (v := 1) C.1 dX8_compares_18 (by decide) ?_
    refine g_icmp_ne (tgt := 35) C.1 dX8_compares_19 (by decide) (fun h2 => ?_) (fun h2 => ?_)
    · replace hw := hw.1 h2
      refine g_iload_n C.1 0 dX8_compares_35 rfl rfl ?_
      refine g_iload_n C.1 2 dX8_compares_36 rfl rfl ?_
      refine g_icmp_ne (tgt := 44) C.1 dX8_compares_37 (by decide) (fun h3 => ?_) (fun h3 => ?_)
      · replace hw := hw.1 h3
        refine g_iconst (v := 0) C.1 dX8_compares_44 (by decide) ?_
        exact hret _ _ _ hw rfl dX8_compares_45
      · replace hw := hw.2 h3
        refine g_iconst (v := 1) C.1 dX8_compares_40 (by decide) ?_
        refine g_goto (tgt := 45) C.1 dX8_compares_41 (by decide) ?_
        exact hret _ _ _ hw rfl dX8_compares_45
    · replace hw := hw.2 h2
      refine g_iload_n C.1 0 dX8_compares_22 rfl rfl ?_
      refine g_iload_n C.1 2 dX8_compares_23 rfl rfl ?_
      refine g_icmp_le (tgt := 31) C.1 dX8_compares_24 (by decide) (fun h4 => ?_) (fun h4 => ?_)
      · replace hw := hw.1 h4
        refine g_iconst (v := 0) C.1 dX8_compares_31 (by decide) ?_
        refine g_goto (tgt := 45) C.1 dX8_compares_32 (by decide) ?_
        exact hret _ _ _ hw rfl dX8_compares_45
      · replace hw := hw.2 h4
        refine g_iconst (v := 1) C.1 dX8_compares_27 (by decide) ?_
        refine g_goto (tgt := 45) C.1 dX8_compares_28 (by decide) ?_
        exact hret _ _ _ hw rfl dX8_compares_45
  · replace hw := hw.2 h1
    refine g_iload_n C.1 0 dX8_compares_4 rfl rfl ?_
    refine g_iload_n C.1 2 dX8_compares_5 rfl rfl ?_
    refine g_icmp_ge (tgt := 13) C.1 dX8_compares_6 (by decide) (fun h5 => ?_) (fun h5 => ?_)
    · replace hw := hw.1 h5
      refine g_iconst (v := 0) C.1 dX8_compares_13 (by decide) ?_
      refine g_goto (tgt := 45) C.1 dX8_compares_14 (by decide) ?_
      exact hret _ _ _ hw rfl dX8_compares_45
    · replace hw := hw.2 h5
      refine g_iconst (v := 1) C.1 dX8_compares_9 (by decide) ?_
      refine g_goto (tgt := 45) C.1 dX8_compares_10 (by decide) ?_
      exact hret _ _ _ hw rfl dX8_compares_45
theorem hdR_compares : yX8_compares.cls = RX8 ∧ yX8_compares.cls ≠ "java/lang/invoke/MethodHandle" ∧ yX8_compares.cls ≠ "java/lang/invoke/VarHandle" ∧ (parseMethodDescriptor yX8_compares.desc).map (fun d => d.parameters.length) = some 3 := by decide +kernel
theorem cR_compares (l : Launch) (v0 : Int32) (v1 : Int32) (v2 : Int32) (post : Int32 → Prop) (hw : wpR_compares_0 post v0 v1 v2) : rSi l yX8_compares cX8_compares 3 .boolean 0 0 [.int v0, .int v1, .int v2] post := rSi_of (own := RX8) (by decide +kernel) rfl (Nat.le_of_ble_eq_true rfl) (fun X H0 Q hR C hret => wkR_compares_0 C hR hret v0 v1 v2 hw)
def wpR_measure_133 (post : Int32 → RSt → Prop) (K64 : RSt → Int32 → Int32 → Int32 → Int32 → Int32 → Prop) (s : RSt) (v1 : Int32) (v2 : Int32) (v3 : Int32) (v4 : Int32) (v5 : Int32) : Prop := K64 s v1 v2 v3 v4 (v5 + 1)
def wpR_measure_129 (post : Int32 → RSt → Prop) (K64 : RSt → Int32 → Int32 → Int32 → Int32 → Int32 → Prop) (s : RSt) (v1 : Int32) (v2 : Int32) (v3 : Int32) (v5 : Int32) (v6 : Int32) : Prop := wpR_measure_133 post K64 s v1 v2 v3 v6 v5
def wpR_measure_106 (post : Int32 → RSt → Prop) (K64 : RSt → Int32 → Int32 → Int32 → Int32 → Int32 → Prop) (s : RSt) (v1 : Int32) (v2 : Int32) (v3 : Int32) (v4 : Int32) (v5 : Int32) (w0 : Int32) : Prop := (¬ v2 = 0 → (w0 ≤ v4 → wpR_measure_133 post K64 s v1 v2 v3 v4 v5) ∧ (¬ w0 ≤ v4 → wpR_measure_129 post K64 s v1 v2 v3 v5 w0)) ∧ (v2 = 0 → (v4 ≤ w0 → wpR_measure_133 post K64 s v1 v2 v3 v4 v5) ∧ (¬ v4 ≤ w0 → wpR_measure_129 post K64 s v1 v2 v3 v5 w0))
def wpR_measure_64_F (post : Int32 → RSt → Prop) (K64 : RSt → Int32 → Int32 → Int32 → Int32 → Int32 → Prop) (s : RSt) (v1 : Int32) (v2 : Int32) (v3 : Int32) (v4 : Int32) (v5 : Int32) : Prop := vp_in ((6 * v1) + 5) 60 ∧ ((v3 + (s.2.1 8 ((6 * v1) + 5).toNatClampNeg)) ≤ v5 → post (v4 / 100) s) ∧ (¬ (v3 + (s.2.1 8 ((6 * v1) + 5).toNatClampNeg)) ≤ v5 → (¬ v2 = 0 → vp_in ((4 * v5) + 3) 160 ∧ wpR_measure_106 post K64 s v1 v2 v3 v4 v5 (s.2.1 10 ((4 * v5) + 3).toNatClampNeg)) ∧ (v2 = 0 → wpR_depth_0 (fun r7 s6 => wpR_measure_106 post K64 s6 v1 v2 v3 v4 v5 r7) s v5))
def wpR_measure_64 (post : Int32 → RSt → Prop) (s : RSt) (v1 : Int32) (v2 : Int32) (v3 : Int32) (v4 : Int32) (v5 : Int32) : Prop := gLP (fun (K : RSt × Int32 × Int32 × Int32 × Int32 × Int32 → Prop) (x : RSt × Int32 × Int32 × Int32 × Int32 × Int32) => wpR_measure_64_F post (fun s v1 v2 v3 v4 v5 => K (s, v1, v2, v3, v4, v5)) x.1 x.2.1 x.2.2.1 x.2.2.2.1 x.2.2.2.2.1 x.2.2.2.2.2) (s, v1, v2, v3, v4, v5)
def wpR_measure_57 (post : Int32 → RSt → Prop) (s : RSt) (v1 : Int32) (v2 : Int32) (v3 : Int32) (w0 : Int32) : Prop := wpR_measure_64 post s v1 v2 v3 w0 (v3 + 1)
def wpR_measure_0 (post : Int32 → RSt → Prop) (s : RSt) (v1 : Int32) (v2 : Int32) : Prop := (¬ v2 = 1 → (¬ v2 = 2 → vp_in ((6 * v1) + 4) 60 ∧ (¬ v2 = 0 → vp_in ((4 * (s.2.1 8 ((6 * v1) + 4).toNatClampNeg)) + 3) 160 ∧ wpR_measure_57 post s v1 v2 (s.2.1 8 ((6 * v1) + 4).toNatClampNeg) (s.2.1 10 ((4 * (s.2.1 8 ((6 * v1) + 4).toNatClampNeg)) + 3).toNatClampNeg)) ∧ (v2 = 0 → wpR_depth_0 (fun r12 s11 => wpR_measure_57 post s11 v1 v2 (s.2.1 8 ((6 * v1) + 4).toNatClampNeg) r12) s (s.2.1 8 ((6 * v1) + 4).toNatClampNeg))) ∧ (v2 = 2 → post ((s.1 28) / 60) s)) ∧ (v2 = 1 → post (s.1 27) s)
theorem wkR_measure_133 {X : gT} {G : rG} {A : Nat → Prop} {H0 : Heap} {Q : State → Prop} (C : rC X cX8_measure 7 G A) (hsz : H0 = (g_s X).heap) (hR : g_R X = rRm 1 21) {post : Int32 → RSt → Prop} (hret : ∀ (r : Int32) (τ : RSt) (lv : List (Nat × Value)) (pc : Nat), post r τ → narrow .int (.int r) = .int r → decode cX8_measure pc = .ok (.ireturn, 1) → gJ X (rWd G A H0) Q 0 0 τ lv pc [.int r]) {K64 : RSt → Int32 → Int32 → Int32 → Int32 → Int32 → Prop} (hK64 : ∀ (s : RSt) (v1 : Int32) (v2 : Int32) (v3 : Int32) (v4 : Int32) (v5 : Int32), K64 s v1 v2 v3 v4 v5 → gJ X (rWd G A H0) Q 0 0 s [(0, .ref (G.2.2.1 0)), (1, .int v1), (2, .int v2), (3, .int v3), (4, .int v4), (5, .int v5)] 64 []) (s : RSt) (v1 : Int32) (v2 : Int32) (v3 : Int32) (v4 : Int32) (v5 : Int32) (hw : wpR_measure_133 post K64 s v1 v2 v3 v4 v5) : gJ X (rWd G A H0) Q 0 0 s [(0, .ref (G.2.2.1 0)), (1, .int v1), (2, .int v2), (3, .int v3), (4, .int v4), (5, .int v5)] 133 [] := by
  refine g_iinc (v := v5 + 1) (lv' := [(5, .int (v5 + 1)), (0, .ref (G.2.2.1 0)), (1, .int v1), (2, .int v2), (3, .int v3), (4, .int v4)]) C.1 5 dX8_measure_133 rfl rfl (by decide) rfl ?_
  refine g_goto (tgt := 64) C.1 dX8_measure_136 (by decide) ?_
  refine gJ.sub [1, 2, 3, 4, 5, 0] rfl ?_
  exact hK64 _ _ _ _ _ _ hw
theorem wkR_measure_129 {X : gT} {G : rG} {A : Nat → Prop} {H0 : Heap} {Q : State → Prop} (C : rC X cX8_measure 7 G A) (hsz : H0 = (g_s X).heap) (hR : g_R X = rRm 1 21) {post : Int32 → RSt → Prop} (hret : ∀ (r : Int32) (τ : RSt) (lv : List (Nat × Value)) (pc : Nat), post r τ → narrow .int (.int r) = .int r → decode cX8_measure pc = .ok (.ireturn, 1) → gJ X (rWd G A H0) Q 0 0 τ lv pc [.int r]) {K64 : RSt → Int32 → Int32 → Int32 → Int32 → Int32 → Prop} (hK64 : ∀ (s : RSt) (v1 : Int32) (v2 : Int32) (v3 : Int32) (v4 : Int32) (v5 : Int32), K64 s v1 v2 v3 v4 v5 → gJ X (rWd G A H0) Q 0 0 s [(0, .ref (G.2.2.1 0)), (1, .int v1), (2, .int v2), (3, .int v3), (4, .int v4), (5, .int v5)] 64 []) (s : RSt) (v1 : Int32) (v2 : Int32) (v3 : Int32) (v5 : Int32) (v6 : Int32) (hw : wpR_measure_129 post K64 s v1 v2 v3 v5 v6) : gJ X (rWd G A H0) Q 0 0 s [(0, .ref (G.2.2.1 0)), (1, .int v1), (2, .int v2), (3, .int v3), (5, .int v5), (6, .int v6)] 129 [] := by
  refine g_iload C.1 5 dX8_measure_129 rfl ?_
  refine g_istore (lv' := [(4, .int v6), (0, .ref (G.2.2.1 0)), (1, .int v1), (2, .int v2), (3, .int v3), (5, .int v5), (6, .int v6)]) C.1 dX8_measure_131 (by decide) rfl ?_
  refine gJ.sub [1, 2, 3, 4, 0, 5] rfl ?_
  exact wkR_measure_133 C hsz hR hret hK64 _ _ _ _ _ _ hw
theorem wkR_measure_106 {X : gT} {G : rG} {A : Nat → Prop} {H0 : Heap} {Q : State → Prop} (C : rC X cX8_measure 7 G A) (hsz : H0 = (g_s X).heap) (hR : g_R X = rRm 1 21) {post : Int32 → RSt → Prop} (hret : ∀ (r : Int32) (τ : RSt) (lv : List (Nat × Value)) (pc : Nat), post r τ → narrow .int (.int r) = .int r → decode cX8_measure pc = .ok (.ireturn, 1) → gJ X (rWd G A H0) Q 0 0 τ lv pc [.int r]) {K64 : RSt → Int32 → Int32 → Int32 → Int32 → Int32 → Prop} (hK64 : ∀ (s : RSt) (v1 : Int32) (v2 : Int32) (v3 : Int32) (v4 : Int32) (v5 : Int32), K64 s v1 v2 v3 v4 v5 → gJ X (rWd G A H0) Q 0 0 s [(0, .ref (G.2.2.1 0)), (1, .int v1), (2, .int v2), (3, .int v3), (4, .int v4), (5, .int v5)] 64 []) (s : RSt) (v1 : Int32) (v2 : Int32) (v3 : Int32) (v4 : Int32) (v5 : Int32) (w0 : Int32) (hw : wpR_measure_106 post K64 s v1 v2 v3 v4 v5 w0) : gJ X (rWd G A H0) Q 0 0 s [(0, .ref (G.2.2.1 0)), (1, .int v1), (2, .int v2), (3, .int v3), (4, .int v4), (5, .int v5)] 106 [.int w0] := by
  refine g_istore (lv' := [(6, .int w0), (0, .ref (G.2.2.1 0)), (1, .int v1), (2, .int v2), (3, .int v3), (4, .int v4), (5, .int v5)]) C.1 dX8_measure_106 (by decide) rfl ?_
  refine g_iload_n C.1 3 dX8_measure_108 rfl rfl ?_
  refine g_if_ne (tgt := 122) C.1 dX8_measure_109 (by decide) (fun h1 => ?_) (fun h1 => ?_)
  · replace hw := hw.1 h1
    refine g_iload C.1 0 dX8_measure_122 rfl ?_
    refine g_iload C.1 5 dX8_measure_124 rfl ?_
    refine g_icmp_le (tgt := 133) C.1 dX8_measure_126 (by decide) (fun h2 => ?_) (fun h2 => ?_)
    · replace hw := hw.1 h2
      refine gJ.sub [1, 2, 3, 4, 5, 6] rfl ?_
      exact wkR_measure_133 C hsz hR hret hK64 _ _ _ _ _ _ hw
    · replace hw := hw.2 h2
      refine gJ.sub [1, 2, 3, 4, 6, 0] rfl ?_
      exact wkR_measure_129 C hsz hR hret hK64 _ _ _ _ _ _ hw
  · replace hw := hw.2 h1
    refine g_iload C.1 0 dX8_measure_112 rfl ?_
    refine g_iload C.1 5 dX8_measure_114 rfl ?_
    refine g_icmp_ge (tgt := 133) C.1 dX8_measure_116 (by decide) (fun h3 => ?_) (fun h3 => ?_)
    · replace hw := hw.1 h3
      refine gJ.sub [1, 2, 3, 4, 5, 6] rfl ?_
      exact wkR_measure_133 C hsz hR hret hK64 _ _ _ _ _ _ hw
    · replace hw := hw.2 h3
      refine g_goto (tgt := 129) C.1 dX8_measure_119 (by decide) ?_
      refine gJ.sub [1, 2, 3, 4, 6, 0] rfl ?_
      exact wkR_measure_129 C hsz hR hret hK64 _ _ _ _ _ _ hw
theorem wkR_measure_64_F {X : gT} {G : rG} {A : Nat → Prop} {H0 : Heap} {Q : State → Prop} (C : rC X cX8_measure 7 G A) (hsz : H0 = (g_s X).heap) (hR : g_R X = rRm 1 21) {post : Int32 → RSt → Prop} (hret : ∀ (r : Int32) (τ : RSt) (lv : List (Nat × Value)) (pc : Nat), post r τ → narrow .int (.int r) = .int r → decode cX8_measure pc = .ok (.ireturn, 1) → gJ X (rWd G A H0) Q 0 0 τ lv pc [.int r]) {K64 : RSt → Int32 → Int32 → Int32 → Int32 → Int32 → Prop} (hK64 : ∀ (s : RSt) (v1 : Int32) (v2 : Int32) (v3 : Int32) (v4 : Int32) (v5 : Int32), K64 s v1 v2 v3 v4 v5 → gJ X (rWd G A H0) Q 0 0 s [(0, .ref (G.2.2.1 0)), (1, .int v1), (2, .int v2), (3, .int v3), (4, .int v4), (5, .int v5)] 64 []) (s : RSt) (v1 : Int32) (v2 : Int32) (v3 : Int32) (v4 : Int32) (v5 : Int32) (hw : wpR_measure_64_F post K64 s v1 v2 v3 v4 v5) : gJ X (rWd G A H0) Q 0 0 s [(0, .ref (G.2.2.1 0)), (1, .int v1), (2, .int v2), (3, .int v3), (4, .int v4), (5, .int v5)] 64 [] := by
  refine g_iload C.1 5 dX8_measure_64 rfl ?_
  refine g_iload_n C.1 3 dX8_measure_66 rfl rfl ?_
  refine g_aload_n C.1 0 dX8_measure_67 rfl rfl ?_
  refine r_g8 C dX8_measure_68 ?_
  refine g_bipush (v := 6) C.1 dX8_measure_71 (by decide) ?_
  refine g_iload_n C.1 1 dX8_measure_73 rfl rfl ?_
  refine g_imul C.1 dX8_measure_74 ?_
  refine g_iconst (v := 5) C.1 dX8_measure_75 (by decide) ?_
  refine g_iadd C.1 dX8_measure_76 ?_
  refine r_ld8 C hw.1 dX8_measure_77 ?_
  replace hw := hw.2
  refine g_iadd C.1 dX8_measure_78 ?_
  refine g_icmp_ge (tgt := 139) C.1 dX8_measure_79 (by decide) (fun h4 => ?_) (fun h4 => ?_)
  · replace hw := hw.1 h4
    refine g_iload C.1 4 dX8_measure_139 rfl ?_
    refine g_bipush (v := 100) C.1 dX8_measure_141 (by decide) ?_
    refine g_idiv C.1 dX8_measure_143 (by decide) ?_
    exact hret _ _ _ _ hw rfl dX8_measure_144
  · replace hw := hw.2 h4
    refine g_iload_n C.1 2 dX8_measure_82 rfl rfl ?_
    refine g_if_ne (tgt := 95) C.1 dX8_measure_83 (by decide) (fun h5 => ?_) (fun h5 => ?_)
    · replace hw := hw.1 h5
      refine g_aload_n C.1 0 dX8_measure_95 rfl rfl ?_
      refine r_g10 C dX8_measure_96 ?_
      refine g_iconst (v := 4) C.1 dX8_measure_99 (by decide) ?_
      refine g_iload C.1 5 dX8_measure_100 rfl ?_
      refine g_imul C.1 dX8_measure_102 ?_
      refine g_iconst (v := 3) C.1 dX8_measure_103 (by decide) ?_
      refine g_iadd C.1 dX8_measure_104 ?_
      refine r_ld10 C hw.1 dX8_measure_105 ?_
      replace hw := hw.2
      exact wkR_measure_106 C hsz hR hret hK64 _ _ _ _ _ _ _ hw
    · replace hw := hw.2 h5
      refine g_aload_n C.1 0 dX8_measure_86 rfl rfl ?_
      refine g_iload C.1 5 dX8_measure_87 rfl ?_
      refine r_calli C hsz (cR_depth (g_l X) G s _ _ hw) kR_195 kR_196 kR_197 kR_193 hdR_depth (by rw [hR]; exact ⟨Nat.le_of_ble_eq_true rfl, Nat.le_of_ble_eq_true rfl⟩) dX8_measure_89 rfl (Nat.le_of_ble_eq_true rfl) (fun r7 s6 hw => ?_)
      refine g_goto (tgt := 106) C.1 dX8_measure_92 (by decide) ?_
      exact wkR_measure_106 C hsz hR hret hK64 _ _ _ _ _ _ _ hw
theorem wkR_measure_64 {X : gT} {G : rG} {A : Nat → Prop} {H0 : Heap} {Q : State → Prop} (C : rC X cX8_measure 7 G A) (hsz : H0 = (g_s X).heap) (hR : g_R X = rRm 1 21) {post : Int32 → RSt → Prop} (hret : ∀ (r : Int32) (τ : RSt) (lv : List (Nat × Value)) (pc : Nat), post r τ → narrow .int (.int r) = .int r → decode cX8_measure pc = .ok (.ireturn, 1) → gJ X (rWd G A H0) Q 0 0 τ lv pc [.int r]) (s : RSt) (v1 : Int32) (v2 : Int32) (v3 : Int32) (v4 : Int32) (v5 : Int32) (hw : wpR_measure_64 post s v1 v2 v3 v4 v5) : gJ X (rWd G A H0) Q 0 0 s [(0, .ref (G.2.2.1 0)), (1, .int v1), (2, .int v2), (3, .int v3), (4, .int v4), (5, .int v5)] 64 [] := 
  hw (fun (x : RSt × Int32 × Int32 × Int32 × Int32 × Int32) => (fun s v1 v2 v3 v4 v5 => gJ X (rWd G A H0) Q 0 0 s [(0, .ref (G.2.2.1 0)), (1, .int v1), (2, .int v2), (3, .int v3), (4, .int v4), (5, .int v5)] 64 []) x.1 x.2.1 x.2.2.1 x.2.2.2.1 x.2.2.2.2.1 x.2.2.2.2.2) (fun x hx => wkR_measure_64_F C hsz hR hret (K64 := (fun s v1 v2 v3 v4 v5 => gJ X (rWd G A H0) Q 0 0 s [(0, .ref (G.2.2.1 0)), (1, .int v1), (2, .int v2), (3, .int v3), (4, .int v4), (5, .int v5)] 64 [])) (fun _ _ _ _ _ _ h => h) x.1 x.2.1 x.2.2.1 x.2.2.2.1 x.2.2.2.2.1 x.2.2.2.2.2 hx)
theorem wkR_measure_57 {X : gT} {G : rG} {A : Nat → Prop} {H0 : Heap} {Q : State → Prop} (C : rC X cX8_measure 7 G A) (hsz : H0 = (g_s X).heap) (hR : g_R X = rRm 1 21) {post : Int32 → RSt → Prop} (hret : ∀ (r : Int32) (τ : RSt) (lv : List (Nat × Value)) (pc : Nat), post r τ → narrow .int (.int r) = .int r → decode cX8_measure pc = .ok (.ireturn, 1) → gJ X (rWd G A H0) Q 0 0 τ lv pc [.int r]) (s : RSt) (v1 : Int32) (v2 : Int32) (v3 : Int32) (w0 : Int32) (hw : wpR_measure_57 post s v1 v2 v3 w0) : gJ X (rWd G A H0) Q 0 0 s [(0, .ref (G.2.2.1 0)), (1, .int v1), (2, .int v2), (3, .int v3)] 57 [.int w0] := by
  refine g_istore (lv' := [(4, .int w0), (0, .ref (G.2.2.1 0)), (1, .int v1), (2, .int v2), (3, .int v3)]) C.1 dX8_measure_57 (by decide) rfl ?_
  refine g_iload_n C.1 4 dX8_measure_59 rfl rfl ?_
  refine g_iconst (v := 1) C.1 dX8_measure_60 (by decide) ?_
  refine g_iadd C.1 dX8_measure_61 ?_
  refine g_istore (lv' := [(5, .int (v3 + 1)), (4, .int w0), (0, .ref (G.2.2.1 0)), (1, .int v1), (2, .int v2), (3, .int v3)]) C.1 dX8_measure_62 (by decide) rfl ?_
  refine gJ.sub [2, 3, 4, 5, 1, 0] rfl ?_
  exact wkR_measure_64 C hsz hR hret _ _ _ _ _ _ hw
theorem wkR_measure_0 {X : gT} {G : rG} {A : Nat → Prop} {H0 : Heap} {Q : State → Prop} (C : rC X cX8_measure 7 G A) (hsz : H0 = (g_s X).heap) (hR : g_R X = rRm 1 21) {post : Int32 → RSt → Prop} (hret : ∀ (r : Int32) (τ : RSt) (lv : List (Nat × Value)) (pc : Nat), post r τ → narrow .int (.int r) = .int r → decode cX8_measure pc = .ok (.ireturn, 1) → gJ X (rWd G A H0) Q 0 0 τ lv pc [.int r]) (s : RSt) (v1 : Int32) (v2 : Int32) (hw : wpR_measure_0 post s v1 v2) : gJ X (rWd G A H0) Q 0 0 s [(0, .ref (G.2.2.1 0)), (1, .int v1), (2, .int v2)] 0 [] := by
  refine g_iload_n C.1 2 dX8_measure_0 rfl rfl ?_
  refine g_iconst (v := 1) C.1 dX8_measure_1 (by decide) ?_
  refine g_icmp_ne (tgt := 10) C.1 dX8_measure_2 (by decide) (fun h8 => ?_) (fun h8 => ?_)
  · replace hw := hw.1 h8
    refine g_iload_n C.1 2 dX8_measure_10 rfl rfl ?_
    refine g_iconst (v := 2) C.1 dX8_measure_11 (by decide) ?_
    refine g_icmp_ne (tgt := 23) C.1 dX8_measure_12 (by decide) (fun h9 => ?_) (fun h9 => ?_)
    · replace hw := hw.1 h9
      refine g_aload_n C.1 0 dX8_measure_23 rfl rfl ?_
      refine r_g8 C dX8_measure_24 ?_
      refine g_bipush (v := 6) C.1 dX8_measure_27 (by decide) ?_
      refine g_iload_n C.1 1 dX8_measure_29 rfl rfl ?_
      refine g_imul C.1 dX8_measure_30 ?_
      refine g_iconst (v := 4) C.1 dX8_measure_31 (by decide) ?_
      refine g_iadd C.1 dX8_measure_32 ?_
      refine r_ld8 C hw.1 dX8_measure_33 ?_
      replace hw := hw.2
      refine g_istore_n (lv' := [(3, .int (s.2.1 8 ((6 * v1) + 4).toNatClampNeg)), (0, .ref (G.2.2.1 0)), (1, .int v1), (2, .int v2)]) C.1 dX8_measure_34 rfl (by decide) rfl ?_
      refine g_iload_n C.1 3 dX8_measure_35 rfl rfl ?_
      refine g_if_ne (tgt := 47) C.1 dX8_measure_36 (by decide) (fun h10 => ?_) (fun h10 => ?_)
      · replace hw := hw.1 h10
        refine g_aload_n C.1 1 dX8_measure_47 rfl rfl ?_
        refine r_g10 C dX8_measure_48 ?_
        refine g_iconst (v := 4) C.1 dX8_measure_51 (by decide) ?_
        refine g_iload_n C.1 0 dX8_measure_52 rfl rfl ?_
        refine g_imul C.1 dX8_measure_53 ?_
        refine g_iconst (v := 3) C.1 dX8_measure_54 (by decide) ?_
        refine g_iadd C.1 dX8_measure_55 ?_
        refine r_ld10 C hw.1 dX8_measure_56 ?_
        replace hw := hw.2
        refine gJ.sub [1, 2, 3, 0] rfl ?_
        exact wkR_measure_57 C hsz hR hret _ _ _ _ _ hw
      · replace hw := hw.2 h10
        refine g_aload_n C.1 1 dX8_measure_39 rfl rfl ?_
        refine g_iload_n C.1 0 dX8_measure_40 rfl rfl ?_
        refine r_calli C hsz (cR_depth (g_l X) G s _ _ hw) kR_195 kR_196 kR_197 kR_193 hdR_depth (by rw [hR]; exact ⟨Nat.le_of_ble_eq_true rfl, Nat.le_of_ble_eq_true rfl⟩) dX8_measure_41 rfl (Nat.le_of_ble_eq_true rfl) (fun r12 s11 hw => ?_)
        refine g_goto (tgt := 57) C.1 dX8_measure_44 (by decide) ?_
        refine gJ.sub [1, 2, 3, 0] rfl ?_
        exact wkR_measure_57 C hsz hR hret _ _ _ _ _ hw
    · replace hw := hw.2 h9
      refine g_aload_n C.1 0 dX8_measure_15 rfl rfl ?_
      refine r_g28 C dX8_measure_16 ?_
      refine g_bipush (v := 60) C.1 dX8_measure_19 (by decide) ?_
      refine g_idiv C.1 dX8_measure_21 (by decide) ?_
      exact hret _ _ _ _ hw rfl dX8_measure_22
  · replace hw := hw.2 h8
    refine g_aload_n C.1 0 dX8_measure_5 rfl rfl ?_
    refine r_g27 C dX8_measure_6 ?_
    exact hret _ _ _ _ hw rfl dX8_measure_9
theorem hdR_measure : yX8_measure.cls = RX8 ∧ yX8_measure.cls ≠ "java/lang/invoke/MethodHandle" ∧ yX8_measure.cls ≠ "java/lang/invoke/VarHandle" ∧ (parseMethodDescriptor yX8_measure.desc).map (fun d => d.parameters.length) = some 2 := by decide +kernel
theorem cR_measure (l : Launch) (G : rG) (s : RSt) (v1 : Int32) (v2 : Int32) (post : Int32 → RSt → Prop) (hw : wpR_measure_0 post s v1 v2) : rMi l yX8_measure cX8_measure 7 .int 1 21 G s [.int v1, .int v2] post := rMi_of (by decide +kernel) rfl (Nat.le_of_ble_eq_true rfl) (fun X A H0 Q hl hR hsz C hret => wkR_measure_0 C hsz hR hret s v1 v2 hw)
def wpR_names_48 (post : Int32 → RSt → Prop) (K4 : RSt → Int32 → Int32 → Int32 → Prop) (s : RSt) (v1 : Int32) (v2 : Int32) (v3 : Int32) : Prop := K4 s v1 v2 (v3 + 1)
def wpR_names_4_F (post : Int32 → RSt → Prop) (K4 : RSt → Int32 → Int32 → Int32 → Prop) (s : RSt) (v1 : Int32) (v2 : Int32) (v3 : Int32) : Prop := vp_in v1 11 ∧ ((s.2.1 17 v1.toNatClampNeg) ≤ v3 → post v2 s) ∧ (¬ (s.2.1 17 v1.toNatClampNeg) ≤ v3 → vp_in ((400 * v1) + v3) 4400 ∧ (¬ (s.2.1 15 ((400 * v1) + v3).toNatClampNeg) = 12 → wpR_names_48 post K4 s v1 v2 v3) ∧ ((s.2.1 15 ((400 * v1) + v3).toNatClampNeg) = 12 → vp_in ((400 * v1) + v3) 4400 ∧ ∀ x3 : Int32, x3 = v2 ||| (1 <<< ((s.2.1 16 ((400 * v1) + v3).toNatClampNeg) &&& 31)) → wpR_names_48 post K4 s v1 x3 v3))
def wpR_names_4 (post : Int32 → RSt → Prop) (s : RSt) (v1 : Int32) (v2 : Int32) (v3 : Int32) : Prop := gLP (fun (K : RSt × Int32 × Int32 × Int32 → Prop) (x : RSt × Int32 × Int32 × Int32) => wpR_names_4_F post (fun s v1 v2 v3 => K (s, v1, v2, v3)) x.1 x.2.1 x.2.2.1 x.2.2.2) (s, v1, v2, v3)
def wpR_names_0 (post : Int32 → RSt → Prop) (s : RSt) (v1 : Int32) : Prop := wpR_names_4 post s v1 0 0
theorem wkR_names_48 {X : gT} {G : rG} {A : Nat → Prop} {H0 : Heap} {Q : State → Prop} (C : rC X cX8_names 4 G A) (hsz : H0 = (g_s X).heap) (hR : g_R X = rRm 0 0) {post : Int32 → RSt → Prop} (hret : ∀ (r : Int32) (τ : RSt) (lv : List (Nat × Value)) (pc : Nat), post r τ → narrow .int (.int r) = .int r → decode cX8_names pc = .ok (.ireturn, 1) → gJ X (rWd G A H0) Q 0 0 τ lv pc [.int r]) {K4 : RSt → Int32 → Int32 → Int32 → Prop} (hK4 : ∀ (s : RSt) (v1 : Int32) (v2 : Int32) (v3 : Int32), K4 s v1 v2 v3 → gJ X (rWd G A H0) Q 0 0 s [(0, .ref (G.2.2.1 0)), (1, .int v1), (2, .int v2), (3, .int v3)] 4 []) (s : RSt) (v1 : Int32) (v2 : Int32) (v3 : Int32) (hw : wpR_names_48 post K4 s v1 v2 v3) : gJ X (rWd G A H0) Q 0 0 s [(0, .ref (G.2.2.1 0)), (1, .int v1), (2, .int v2), (3, .int v3)] 48 [] := by
  refine g_iinc (v := v3 + 1) (lv' := [(3, .int (v3 + 1)), (0, .ref (G.2.2.1 0)), (1, .int v1), (2, .int v2)]) C.1 3 dX8_names_48 rfl rfl (by decide) rfl ?_
  refine g_goto (tgt := 4) C.1 dX8_names_51 (by decide) ?_
  refine gJ.sub [1, 2, 3, 0] rfl ?_
  exact hK4 _ _ _ _ hw
theorem wkR_names_4_F {X : gT} {G : rG} {A : Nat → Prop} {H0 : Heap} {Q : State → Prop} (C : rC X cX8_names 4 G A) (hsz : H0 = (g_s X).heap) (hR : g_R X = rRm 0 0) {post : Int32 → RSt → Prop} (hret : ∀ (r : Int32) (τ : RSt) (lv : List (Nat × Value)) (pc : Nat), post r τ → narrow .int (.int r) = .int r → decode cX8_names pc = .ok (.ireturn, 1) → gJ X (rWd G A H0) Q 0 0 τ lv pc [.int r]) {K4 : RSt → Int32 → Int32 → Int32 → Prop} (hK4 : ∀ (s : RSt) (v1 : Int32) (v2 : Int32) (v3 : Int32), K4 s v1 v2 v3 → gJ X (rWd G A H0) Q 0 0 s [(0, .ref (G.2.2.1 0)), (1, .int v1), (2, .int v2), (3, .int v3)] 4 []) (s : RSt) (v1 : Int32) (v2 : Int32) (v3 : Int32) (hw : wpR_names_4_F post K4 s v1 v2 v3) : gJ X (rWd G A H0) Q 0 0 s [(0, .ref (G.2.2.1 0)), (1, .int v1), (2, .int v2), (3, .int v3)] 4 [] := by
  refine g_iload_n C.1 3 dX8_names_4 rfl rfl ?_
  refine g_aload_n C.1 0 dX8_names_5 rfl rfl ?_
  refine r_g17 C dX8_names_6 ?_
  refine g_iload_n C.1 1 dX8_names_9 rfl rfl ?_
  refine r_ld17 C hw.1 dX8_names_10 ?_
  replace hw := hw.2
  refine g_icmp_ge (tgt := 54) C.1 dX8_names_11 (by decide) (fun h1 => ?_) (fun h1 => ?_)
  · replace hw := hw.1 h1
    refine g_iload_n C.1 2 dX8_names_54 rfl rfl ?_
    exact hret _ _ _ _ hw rfl dX8_names_55
  · replace hw := hw.2 h1
    refine g_aload_n C.1 0 dX8_names_14 rfl rfl ?_
    refine r_g15 C dX8_names_15 ?_
    refine g_sipush (v := 400) C.1 dX8_names_18 (by decide) ?_
    refine g_iload_n C.1 1 dX8_names_21 rfl rfl ?_
    refine g_imul C.1 dX8_names_22 ?_
    refine g_iload_n C.1 3 dX8_names_23 rfl rfl ?_
    refine g_iadd C.1 dX8_names_24 ?_
    refine r_ld15 C hw.1 dX8_names_25 ?_
    replace hw := hw.2
    refine g_bipush (v := 12) C.1 dX8_names_26 (by decide) ?_
    refine g_icmp_ne (tgt := 48) C.1 dX8_names_28 (by decide) (fun h2 => ?_) (fun h2 => ?_)
    · replace hw := hw.1 h2
      exact wkR_names_48 C hsz hR hret hK4 _ _ _ _ hw
    · replace hw := hw.2 h2
      refine g_iload_n C.1 2 dX8_names_31 rfl rfl ?_
      refine g_iconst (v := 1) C.1 dX8_names_32 (by decide) ?_
      refine g_aload_n C.1 0 dX8_names_33 rfl rfl ?_
      refine r_g16 C dX8_names_34 ?_
      refine g_sipush (v := 400) C.1 dX8_names_37 (by decide) ?_
      refine g_iload_n C.1 1 dX8_names_40 rfl rfl ?_
      refine g_imul C.1 dX8_names_41 ?_
      refine g_iload_n C.1 3 dX8_names_42 rfl rfl ?_
      refine g_iadd C.1 dX8_names_43 ?_
      refine r_ld16 C hw.1 dX8_names_44 ?_
      replace hw := hw.2
      refine g_ishl C.1 dX8_names_45 ?_
      refine g_ior C.1 dX8_names_46 ?_
      refine g_topi (fun x3 ex3 => ?_)
      replace hw := hw x3 ex3
      refine g_istore_n (lv' := [(2, .int x3), (0, .ref (G.2.2.1 0)), (1, .int v1), (3, .int v3)]) C.1 dX8_names_47 rfl (by decide) rfl ?_
      refine gJ.sub [1, 2, 0, 3] rfl ?_
      exact wkR_names_48 C hsz hR hret hK4 _ _ _ _ hw
theorem wkR_names_4 {X : gT} {G : rG} {A : Nat → Prop} {H0 : Heap} {Q : State → Prop} (C : rC X cX8_names 4 G A) (hsz : H0 = (g_s X).heap) (hR : g_R X = rRm 0 0) {post : Int32 → RSt → Prop} (hret : ∀ (r : Int32) (τ : RSt) (lv : List (Nat × Value)) (pc : Nat), post r τ → narrow .int (.int r) = .int r → decode cX8_names pc = .ok (.ireturn, 1) → gJ X (rWd G A H0) Q 0 0 τ lv pc [.int r]) (s : RSt) (v1 : Int32) (v2 : Int32) (v3 : Int32) (hw : wpR_names_4 post s v1 v2 v3) : gJ X (rWd G A H0) Q 0 0 s [(0, .ref (G.2.2.1 0)), (1, .int v1), (2, .int v2), (3, .int v3)] 4 [] := 
  hw (fun (x : RSt × Int32 × Int32 × Int32) => (fun s v1 v2 v3 => gJ X (rWd G A H0) Q 0 0 s [(0, .ref (G.2.2.1 0)), (1, .int v1), (2, .int v2), (3, .int v3)] 4 []) x.1 x.2.1 x.2.2.1 x.2.2.2) (fun x hx => wkR_names_4_F C hsz hR hret (K4 := (fun s v1 v2 v3 => gJ X (rWd G A H0) Q 0 0 s [(0, .ref (G.2.2.1 0)), (1, .int v1), (2, .int v2), (3, .int v3)] 4 [])) (fun _ _ _ _ h => h) x.1 x.2.1 x.2.2.1 x.2.2.2 hx)
theorem wkR_names_0 {X : gT} {G : rG} {A : Nat → Prop} {H0 : Heap} {Q : State → Prop} (C : rC X cX8_names 4 G A) (hsz : H0 = (g_s X).heap) (hR : g_R X = rRm 0 0) {post : Int32 → RSt → Prop} (hret : ∀ (r : Int32) (τ : RSt) (lv : List (Nat × Value)) (pc : Nat), post r τ → narrow .int (.int r) = .int r → decode cX8_names pc = .ok (.ireturn, 1) → gJ X (rWd G A H0) Q 0 0 τ lv pc [.int r]) (s : RSt) (v1 : Int32) (hw : wpR_names_0 post s v1) : gJ X (rWd G A H0) Q 0 0 s [(0, .ref (G.2.2.1 0)), (1, .int v1)] 0 [] := by
  refine g_iconst (v := 0) C.1 dX8_names_0 (by decide) ?_
  refine g_istore_n (lv' := [(2, .int 0), (0, .ref (G.2.2.1 0)), (1, .int v1)]) C.1 dX8_names_1 rfl (by decide) rfl ?_
  refine g_iconst (v := 0) C.1 dX8_names_2 (by decide) ?_
  refine g_istore_n (lv' := [(3, .int 0), (2, .int 0), (0, .ref (G.2.2.1 0)), (1, .int v1)]) C.1 dX8_names_3 rfl (by decide) rfl ?_
  refine gJ.sub [2, 3, 1, 0] rfl ?_
  exact wkR_names_4 C hsz hR hret _ _ _ _ hw
theorem hdR_names : yX8_names.cls = RX8 ∧ yX8_names.cls ≠ "java/lang/invoke/MethodHandle" ∧ yX8_names.cls ≠ "java/lang/invoke/VarHandle" ∧ (parseMethodDescriptor yX8_names.desc).map (fun d => d.parameters.length) = some 1 := by decide +kernel
theorem cR_names (l : Launch) (G : rG) (s : RSt) (v1 : Int32) (post : Int32 → RSt → Prop) (hw : wpR_names_0 post s v1) : rMi l yX8_names cX8_names 4 .int 0 0 G s [.int v1] post := rMi_of (by decide +kernel) rfl (Nat.le_of_ble_eq_true rfl) (fun X A H0 Q hl hR hsz C hret => wkR_names_0 C hsz hR hret s v1 hw)
def wpR_ring_137_F (post : Int32 → RSt → Prop) (K137 : RSt → Int32 → Int32 → Prop) (s : RSt) (v2 : Int32) (v3 : Int32) : Prop := ((s.1 9) ≤ v3 → post v2 s) ∧ (¬ (s.1 9) ≤ v3 → vp_in v3 10 ∧ K137 s (v2 ||| ((s.2.1 38 v3.toNatClampNeg) &&& (1 <<< (v3 &&& 31)))) (v3 + 1))
def wpR_ring_137 (post : Int32 → RSt → Prop) (s : RSt) (v2 : Int32) (v3 : Int32) : Prop := gLP (fun (K : RSt × Int32 × Int32 → Prop) (x : RSt × Int32 × Int32) => wpR_ring_137_F post (fun s v2 v3 => K (s, v2, v3)) x.1 x.2.1 x.2.2) (s, v2, v3)
def wpR_ring_115 (post : Int32 → RSt → Prop) (K56 : RSt → Int32 → Prop) (K64 : RSt → Int32 → Int32 → Prop) (K75 : RSt → Int32 → Int32 → Int32 → Prop) (s : RSt) (v2 : Int32) (v3 : Int32) (v4 : Int32) : Prop := K75 s v2 v3 (v4 + 1)
def wpR_ring_75_F (post : Int32 → RSt → Prop) (K56 : RSt → Int32 → Prop) (K64 : RSt → Int32 → Int32 → Prop) (K75 : RSt → Int32 → Int32 → Int32 → Prop) (s : RSt) (v2 : Int32) (v3 : Int32) (v4 : Int32) : Prop := ((s.1 9) ≤ v4 → K64 s v2 (v3 + 1)) ∧ (¬ (s.1 9) ≤ v4 → vp_in v3 10 ∧ (¬ (((s.2.1 38 v3.toNatClampNeg) >>> (v4 &&& 31)) &&& 1) = 1 → wpR_ring_115 post K56 K64 K75 s v2 v3 v4) ∧ ((((s.2.1 38 v3.toNatClampNeg) >>> (v4 &&& 31)) &&& 1) = 1 → vp_in v3 10 ∧ vp_in v4 10 ∧ vp_in v3 10 ∧ ∀ s4 : RSt, s4 = rsA s 38 v3.toNatClampNeg ((s.2.1 38 v3.toNatClampNeg) ||| (s.2.1 38 v4.toNatClampNeg)) → wpR_ring_115 post K56 K64 K75 s4 v2 v3 v4))
def wpR_ring_75 (post : Int32 → RSt → Prop) (K56 : RSt → Int32 → Prop) (K64 : RSt → Int32 → Int32 → Prop) (s : RSt) (v2 : Int32) (v3 : Int32) (v4 : Int32) : Prop := gLP (fun (K : RSt × Int32 × Int32 × Int32 → Prop) (x : RSt × Int32 × Int32 × Int32) => wpR_ring_75_F post K56 K64 (fun s v2 v3 v4 => K (s, v2, v3, v4)) x.1 x.2.1 x.2.2.1 x.2.2.2) (s, v2, v3, v4)
def wpR_ring_64_F (post : Int32 → RSt → Prop) (K56 : RSt → Int32 → Prop) (K64 : RSt → Int32 → Int32 → Prop) (s : RSt) (v2 : Int32) (v3 : Int32) : Prop := ((s.1 9) ≤ v3 → K56 s (v2 + 1)) ∧ (¬ (s.1 9) ≤ v3 → wpR_ring_75 post K56 K64 s v2 v3 0)
def wpR_ring_64 (post : Int32 → RSt → Prop) (K56 : RSt → Int32 → Prop) (s : RSt) (v2 : Int32) (v3 : Int32) : Prop := gLP (fun (K : RSt × Int32 × Int32 → Prop) (x : RSt × Int32 × Int32) => wpR_ring_64_F post K56 (fun s v2 v3 => K (s, v2, v3)) x.1 x.2.1 x.2.2) (s, v2, v3)
def wpR_ring_56_F (post : Int32 → RSt → Prop) (K56 : RSt → Int32 → Prop) (s : RSt) (v2 : Int32) : Prop := (10 ≤ v2 → wpR_ring_137 post s 0 0) ∧ (¬ 10 ≤ v2 → wpR_ring_64 post K56 s v2 0)
def wpR_ring_56 (post : Int32 → RSt → Prop) (s : RSt) (v2 : Int32) : Prop := gLP (fun (K : RSt × Int32 → Prop) (x : RSt × Int32) => wpR_ring_56_F post (fun s v2 => K (s, v2)) x.1 x.2) (s, v2)
def wpR_ring_47 (post : Int32 → RSt → Prop) (K2 : RSt → Int32 → Int32 → Prop) (s : RSt) (v1 : Int32) (v2 : Int32) (w1 : Int32) (w2 : Int32) : Prop := vp_in w1 10 ∧ ∀ s7 : RSt, s7 = rsA s 38 w1.toNatClampNeg w2 → K2 s7 v1 (v2 + 1)
def wpR_ring_2_F (post : Int32 → RSt → Prop) (K2 : RSt → Int32 → Int32 → Prop) (s : RSt) (v1 : Int32) (v2 : Int32) : Prop := ((s.1 9) ≤ v2 → wpR_ring_56 post s 0) ∧ (¬ (s.1 9) ≤ v2 → (¬ v2 = v1 → vp_in v2 10 ∧ ((s.2.1 18 v2.toNatClampNeg) = 0 → wpR_ring_47 post K2 s v1 v2 v2 0) ∧ (¬ (s.2.1 18 v2.toNatClampNeg) = 0 → wpR_names_0 (fun r12 s11 => wpR_ring_47 post K2 s11 v1 v2 v2 r12) s v2)) ∧ (v2 = v1 → wpR_names_0 (fun r14 s13 => wpR_ring_47 post K2 s13 v1 v2 v2 r14) s 10))
def wpR_ring_2 (post : Int32 → RSt → Prop) (s : RSt) (v1 : Int32) (v2 : Int32) : Prop := gLP (fun (K : RSt × Int32 × Int32 → Prop) (x : RSt × Int32 × Int32) => wpR_ring_2_F post (fun s v1 v2 => K (s, v1, v2)) x.1 x.2.1 x.2.2) (s, v1, v2)
def wpR_ring_0 (post : Int32 → RSt → Prop) (s : RSt) (v1 : Int32) : Prop := wpR_ring_2 post s v1 0
theorem wkR_ring_137_F {X : gT} {G : rG} {A : Nat → Prop} {H0 : Heap} {Q : State → Prop} (C : rC X cX8_ring 5 G A) (hsz : H0 = (g_s X).heap) (hR : g_R X = rRm 1 23) {post : Int32 → RSt → Prop} (hret : ∀ (r : Int32) (τ : RSt) (lv : List (Nat × Value)) (pc : Nat), post r τ → narrow .int (.int r) = .int r → decode cX8_ring pc = .ok (.ireturn, 1) → gJ X (rWd G A H0) Q 0 0 τ lv pc [.int r]) {K137 : RSt → Int32 → Int32 → Prop} (hK137 : ∀ (s : RSt) (v2 : Int32) (v3 : Int32), K137 s v2 v3 → gJ X (rWd G A H0) Q 0 0 s [(0, .ref (G.2.2.1 0)), (2, .int v2), (3, .int v3)] 137 []) (s : RSt) (v2 : Int32) (v3 : Int32) (hw : wpR_ring_137_F post K137 s v2 v3) : gJ X (rWd G A H0) Q 0 0 s [(0, .ref (G.2.2.1 0)), (2, .int v2), (3, .int v3)] 137 [] := by
  refine g_iload_n C.1 2 dX8_ring_137 rfl rfl ?_
  refine g_aload_n C.1 0 dX8_ring_138 rfl rfl ?_
  refine r_g9 C dX8_ring_139 ?_
  refine g_icmp_ge (tgt := 164) C.1 dX8_ring_142 (by decide) (fun h1 => ?_) (fun h1 => ?_)
  · replace hw := hw.1 h1
    refine g_iload_n C.1 1 dX8_ring_164 rfl rfl ?_
    exact hret _ _ _ _ hw rfl dX8_ring_165
  · replace hw := hw.2 h1
    refine g_iload_n C.1 1 dX8_ring_145 rfl rfl ?_
    refine g_aload_n C.1 0 dX8_ring_146 rfl rfl ?_
    refine r_g38 C dX8_ring_147 ?_
    refine g_iload_n C.1 2 dX8_ring_150 rfl rfl ?_
    refine r_ld38 C hw.1 dX8_ring_151 ?_
    replace hw := hw.2
    refine g_iconst (v := 1) C.1 dX8_ring_152 (by decide) ?_
    refine g_iload_n C.1 2 dX8_ring_153 rfl rfl ?_
    refine g_ishl C.1 dX8_ring_154 ?_
    refine g_iand C.1 dX8_ring_155 ?_
    refine g_ior C.1 dX8_ring_156 ?_
    refine g_istore_n (lv' := [(2, .int (v2 ||| ((s.2.1 38 v3.toNatClampNeg) &&& (1 <<< (v3 &&& 31))))), (0, .ref (G.2.2.1 0)), (3, .int v3)]) C.1 dX8_ring_157 rfl (by decide) rfl ?_
    refine g_iinc (v := v3 + 1) (lv' := [(3, .int (v3 + 1)), (2, .int (v2 ||| ((s.2.1 38 v3.toNatClampNeg) &&& (1 <<< (v3 &&& 31))))), (0, .ref (G.2.2.1 0))]) C.1 2 dX8_ring_158 rfl rfl (by decide) rfl ?_
    refine g_goto (tgt := 137) C.1 dX8_ring_161 (by decide) ?_
    refine gJ.sub [2, 1, 0] rfl ?_
    exact hK137 _ _ _ hw
theorem wkR_ring_137 {X : gT} {G : rG} {A : Nat → Prop} {H0 : Heap} {Q : State → Prop} (C : rC X cX8_ring 5 G A) (hsz : H0 = (g_s X).heap) (hR : g_R X = rRm 1 23) {post : Int32 → RSt → Prop} (hret : ∀ (r : Int32) (τ : RSt) (lv : List (Nat × Value)) (pc : Nat), post r τ → narrow .int (.int r) = .int r → decode cX8_ring pc = .ok (.ireturn, 1) → gJ X (rWd G A H0) Q 0 0 τ lv pc [.int r]) (s : RSt) (v2 : Int32) (v3 : Int32) (hw : wpR_ring_137 post s v2 v3) : gJ X (rWd G A H0) Q 0 0 s [(0, .ref (G.2.2.1 0)), (2, .int v2), (3, .int v3)] 137 [] := 
  hw (fun (x : RSt × Int32 × Int32) => (fun s v2 v3 => gJ X (rWd G A H0) Q 0 0 s [(0, .ref (G.2.2.1 0)), (2, .int v2), (3, .int v3)] 137 []) x.1 x.2.1 x.2.2) (fun x hx => wkR_ring_137_F C hsz hR hret (K137 := (fun s v2 v3 => gJ X (rWd G A H0) Q 0 0 s [(0, .ref (G.2.2.1 0)), (2, .int v2), (3, .int v3)] 137 [])) (fun _ _ _ h => h) x.1 x.2.1 x.2.2 hx)
theorem wkR_ring_115 {X : gT} {G : rG} {A : Nat → Prop} {H0 : Heap} {Q : State → Prop} (C : rC X cX8_ring 5 G A) (hsz : H0 = (g_s X).heap) (hR : g_R X = rRm 1 23) {post : Int32 → RSt → Prop} (hret : ∀ (r : Int32) (τ : RSt) (lv : List (Nat × Value)) (pc : Nat), post r τ → narrow .int (.int r) = .int r → decode cX8_ring pc = .ok (.ireturn, 1) → gJ X (rWd G A H0) Q 0 0 τ lv pc [.int r]) {K56 : RSt → Int32 → Prop} {K64 : RSt → Int32 → Int32 → Prop} {K75 : RSt → Int32 → Int32 → Int32 → Prop} (hK56 : ∀ (s : RSt) (v2 : Int32), K56 s v2 → gJ X (rWd G A H0) Q 0 0 s [(0, .ref (G.2.2.1 0)), (2, .int v2)] 56 []) (hK64 : ∀ (s : RSt) (v2 : Int32) (v3 : Int32), K64 s v2 v3 → gJ X (rWd G A H0) Q 0 0 s [(0, .ref (G.2.2.1 0)), (2, .int v2), (3, .int v3)] 64 []) (hK75 : ∀ (s : RSt) (v2 : Int32) (v3 : Int32) (v4 : Int32), K75 s v2 v3 v4 → gJ X (rWd G A H0) Q 0 0 s [(0, .ref (G.2.2.1 0)), (2, .int v2), (3, .int v3), (4, .int v4)] 75 []) (s : RSt) (v2 : Int32) (v3 : Int32) (v4 : Int32) (hw : wpR_ring_115 post K56 K64 K75 s v2 v3 v4) : gJ X (rWd G A H0) Q 0 0 s [(0, .ref (G.2.2.1 0)), (2, .int v2), (3, .int v3), (4, .int v4)] 115 [] := by
  refine g_iinc (v := v4 + 1) (lv' := [(4, .int (v4 + 1)), (0, .ref (G.2.2.1 0)), (2, .int v2), (3, .int v3)]) C.1 3 dX8_ring_115 rfl rfl (by decide) rfl ?_
  refine g_goto (tgt := 75) C.1 dX8_ring_118 (by decide) ?_
  refine gJ.sub [1, 2, 3, 0] rfl ?_
  exact hK75 _ _ _ _ hw
theorem wkR_ring_75_F {X : gT} {G : rG} {A : Nat → Prop} {H0 : Heap} {Q : State → Prop} (C : rC X cX8_ring 5 G A) (hsz : H0 = (g_s X).heap) (hR : g_R X = rRm 1 23) {post : Int32 → RSt → Prop} (hret : ∀ (r : Int32) (τ : RSt) (lv : List (Nat × Value)) (pc : Nat), post r τ → narrow .int (.int r) = .int r → decode cX8_ring pc = .ok (.ireturn, 1) → gJ X (rWd G A H0) Q 0 0 τ lv pc [.int r]) {K56 : RSt → Int32 → Prop} {K64 : RSt → Int32 → Int32 → Prop} {K75 : RSt → Int32 → Int32 → Int32 → Prop} (hK56 : ∀ (s : RSt) (v2 : Int32), K56 s v2 → gJ X (rWd G A H0) Q 0 0 s [(0, .ref (G.2.2.1 0)), (2, .int v2)] 56 []) (hK64 : ∀ (s : RSt) (v2 : Int32) (v3 : Int32), K64 s v2 v3 → gJ X (rWd G A H0) Q 0 0 s [(0, .ref (G.2.2.1 0)), (2, .int v2), (3, .int v3)] 64 []) (hK75 : ∀ (s : RSt) (v2 : Int32) (v3 : Int32) (v4 : Int32), K75 s v2 v3 v4 → gJ X (rWd G A H0) Q 0 0 s [(0, .ref (G.2.2.1 0)), (2, .int v2), (3, .int v3), (4, .int v4)] 75 []) (s : RSt) (v2 : Int32) (v3 : Int32) (v4 : Int32) (hw : wpR_ring_75_F post K56 K64 K75 s v2 v3 v4) : gJ X (rWd G A H0) Q 0 0 s [(0, .ref (G.2.2.1 0)), (2, .int v2), (3, .int v3), (4, .int v4)] 75 [] := by
  refine g_iload C.1 3 dX8_ring_75 rfl ?_
  refine g_aload_n C.1 0 dX8_ring_77 rfl rfl ?_
  refine r_g9 C dX8_ring_78 ?_
  refine g_icmp_ge (tgt := 121) C.1 dX8_ring_81 (by decide) (fun h2 => ?_) (fun h2 => ?_)
  · replace hw := hw.1 h2
    refine g_iinc (v := v3 + 1) (lv' := [(3, .int (v3 + 1)), (0, .ref (G.2.2.1 0)), (2, .int v2), (4, .int v4)]) C.1 2 dX8_ring_121 rfl rfl (by decide) rfl ?_
    refine g_goto (tgt := 64) C.1 dX8_ring_124 (by decide) ?_
    refine gJ.sub [1, 2, 0] rfl ?_
    exact hK64 _ _ _ hw
  · replace hw := hw.2 h2
    refine g_aload_n C.1 0 dX8_ring_84 rfl rfl ?_
    refine r_g38 C dX8_ring_85 ?_
    refine g_iload_n C.1 2 dX8_ring_88 rfl rfl ?_
    refine r_ld38 C hw.1 dX8_ring_89 ?_
    replace hw := hw.2
    refine g_iload C.1 3 dX8_ring_90 rfl ?_
    refine g_ishr C.1 dX8_ring_92 ?_
    refine g_iconst (v := 1) C.1 dX8_ring_93 (by decide) ?_
    refine g_iand C.1 dX8_ring_94 ?_
    refine g_iconst (v := 1) C.1 dX8_ring_95 (by decide) ?_
    refine g_icmp_ne (tgt := 115) C.1 dX8_ring_96 (by decide) (fun h3 => ?_) (fun h3 => ?_)
    · replace hw := hw.1 h3
      exact wkR_ring_115 C hsz hR hret hK56 hK64 hK75 _ _ _ _ hw
    · replace hw := hw.2 h3
      refine g_aload_n C.1 0 dX8_ring_99 rfl rfl ?_
      refine r_g38 C dX8_ring_100 ?_
      refine g_iload_n C.1 2 dX8_ring_103 rfl rfl ?_
      refine g_dup2 C.1 dX8_ring_104 rfl rfl ?_
      refine r_ld38 C hw.1 dX8_ring_105 ?_
      replace hw := hw.2
      refine g_aload_n C.1 0 dX8_ring_106 rfl rfl ?_
      refine r_g38 C dX8_ring_107 ?_
      refine g_iload C.1 3 dX8_ring_110 rfl ?_
      refine r_ld38 C hw.1 dX8_ring_112 ?_
      replace hw := hw.2
      refine g_ior C.1 dX8_ring_113 ?_
      refine r_st38 C hw.1 dX8_ring_114 ?_
      replace hw := hw.2
      refine gJ.nm (fun s4 es4 => ?_)
      replace hw := hw s4 es4
      exact wkR_ring_115 C hsz hR hret hK56 hK64 hK75 _ _ _ _ hw
theorem wkR_ring_75 {X : gT} {G : rG} {A : Nat → Prop} {H0 : Heap} {Q : State → Prop} (C : rC X cX8_ring 5 G A) (hsz : H0 = (g_s X).heap) (hR : g_R X = rRm 1 23) {post : Int32 → RSt → Prop} (hret : ∀ (r : Int32) (τ : RSt) (lv : List (Nat × Value)) (pc : Nat), post r τ → narrow .int (.int r) = .int r → decode cX8_ring pc = .ok (.ireturn, 1) → gJ X (rWd G A H0) Q 0 0 τ lv pc [.int r]) {K56 : RSt → Int32 → Prop} {K64 : RSt → Int32 → Int32 → Prop} (hK56 : ∀ (s : RSt) (v2 : Int32), K56 s v2 → gJ X (rWd G A H0) Q 0 0 s [(0, .ref (G.2.2.1 0)), (2, .int v2)] 56 []) (hK64 : ∀ (s : RSt) (v2 : Int32) (v3 : Int32), K64 s v2 v3 → gJ X (rWd G A H0) Q 0 0 s [(0, .ref (G.2.2.1 0)), (2, .int v2), (3, .int v3)] 64 []) (s : RSt) (v2 : Int32) (v3 : Int32) (v4 : Int32) (hw : wpR_ring_75 post K56 K64 s v2 v3 v4) : gJ X (rWd G A H0) Q 0 0 s [(0, .ref (G.2.2.1 0)), (2, .int v2), (3, .int v3), (4, .int v4)] 75 [] := 
  hw (fun (x : RSt × Int32 × Int32 × Int32) => (fun s v2 v3 v4 => gJ X (rWd G A H0) Q 0 0 s [(0, .ref (G.2.2.1 0)), (2, .int v2), (3, .int v3), (4, .int v4)] 75 []) x.1 x.2.1 x.2.2.1 x.2.2.2) (fun x hx => wkR_ring_75_F C hsz hR hret hK56 hK64 (K75 := (fun s v2 v3 v4 => gJ X (rWd G A H0) Q 0 0 s [(0, .ref (G.2.2.1 0)), (2, .int v2), (3, .int v3), (4, .int v4)] 75 [])) (fun _ _ _ _ h => h) x.1 x.2.1 x.2.2.1 x.2.2.2 hx)
theorem wkR_ring_64_F {X : gT} {G : rG} {A : Nat → Prop} {H0 : Heap} {Q : State → Prop} (C : rC X cX8_ring 5 G A) (hsz : H0 = (g_s X).heap) (hR : g_R X = rRm 1 23) {post : Int32 → RSt → Prop} (hret : ∀ (r : Int32) (τ : RSt) (lv : List (Nat × Value)) (pc : Nat), post r τ → narrow .int (.int r) = .int r → decode cX8_ring pc = .ok (.ireturn, 1) → gJ X (rWd G A H0) Q 0 0 τ lv pc [.int r]) {K56 : RSt → Int32 → Prop} {K64 : RSt → Int32 → Int32 → Prop} (hK56 : ∀ (s : RSt) (v2 : Int32), K56 s v2 → gJ X (rWd G A H0) Q 0 0 s [(0, .ref (G.2.2.1 0)), (2, .int v2)] 56 []) (hK64 : ∀ (s : RSt) (v2 : Int32) (v3 : Int32), K64 s v2 v3 → gJ X (rWd G A H0) Q 0 0 s [(0, .ref (G.2.2.1 0)), (2, .int v2), (3, .int v3)] 64 []) (s : RSt) (v2 : Int32) (v3 : Int32) (hw : wpR_ring_64_F post K56 K64 s v2 v3) : gJ X (rWd G A H0) Q 0 0 s [(0, .ref (G.2.2.1 0)), (2, .int v2), (3, .int v3)] 64 [] := by
  refine g_iload_n C.1 2 dX8_ring_64 rfl rfl ?_
  refine g_aload_n C.1 0 dX8_ring_65 rfl rfl ?_
  refine r_g9 C dX8_ring_66 ?_
  refine g_icmp_ge (tgt := 127) C.1 dX8_ring_69 (by decide) (fun h5 => ?_) (fun h5 => ?_)
  · replace hw := hw.1 h5
    refine g_iinc (v := v2 + 1) (lv' := [(2, .int (v2 + 1)), (0, .ref (G.2.2.1 0)), (3, .int v3)]) C.1 1 dX8_ring_127 rfl rfl (by decide) rfl ?_
    refine g_goto (tgt := 56) C.1 dX8_ring_130 (by decide) ?_
    refine gJ.sub [1, 0] rfl ?_
    exact hK56 _ _ hw
  · replace hw := hw.2 h5
    refine g_iconst (v := 0) C.1 dX8_ring_72 (by decide) ?_
    refine g_istore (lv' := [(4, .int 0), (0, .ref (G.2.2.1 0)), (2, .int v2), (3, .int v3)]) C.1 dX8_ring_73 (by decide) rfl ?_
    refine gJ.sub [1, 2, 3, 0] rfl ?_
    exact wkR_ring_75 C hsz hR hret hK56 hK64 _ _ _ _ hw
theorem wkR_ring_64 {X : gT} {G : rG} {A : Nat → Prop} {H0 : Heap} {Q : State → Prop} (C : rC X cX8_ring 5 G A) (hsz : H0 = (g_s X).heap) (hR : g_R X = rRm 1 23) {post : Int32 → RSt → Prop} (hret : ∀ (r : Int32) (τ : RSt) (lv : List (Nat × Value)) (pc : Nat), post r τ → narrow .int (.int r) = .int r → decode cX8_ring pc = .ok (.ireturn, 1) → gJ X (rWd G A H0) Q 0 0 τ lv pc [.int r]) {K56 : RSt → Int32 → Prop} (hK56 : ∀ (s : RSt) (v2 : Int32), K56 s v2 → gJ X (rWd G A H0) Q 0 0 s [(0, .ref (G.2.2.1 0)), (2, .int v2)] 56 []) (s : RSt) (v2 : Int32) (v3 : Int32) (hw : wpR_ring_64 post K56 s v2 v3) : gJ X (rWd G A H0) Q 0 0 s [(0, .ref (G.2.2.1 0)), (2, .int v2), (3, .int v3)] 64 [] := 
  hw (fun (x : RSt × Int32 × Int32) => (fun s v2 v3 => gJ X (rWd G A H0) Q 0 0 s [(0, .ref (G.2.2.1 0)), (2, .int v2), (3, .int v3)] 64 []) x.1 x.2.1 x.2.2) (fun x hx => wkR_ring_64_F C hsz hR hret hK56 (K64 := (fun s v2 v3 => gJ X (rWd G A H0) Q 0 0 s [(0, .ref (G.2.2.1 0)), (2, .int v2), (3, .int v3)] 64 [])) (fun _ _ _ h => h) x.1 x.2.1 x.2.2 hx)
theorem wkR_ring_56_F {X : gT} {G : rG} {A : Nat → Prop} {H0 : Heap} {Q : State → Prop} (C : rC X cX8_ring 5 G A) (hsz : H0 = (g_s X).heap) (hR : g_R X = rRm 1 23) {post : Int32 → RSt → Prop} (hret : ∀ (r : Int32) (τ : RSt) (lv : List (Nat × Value)) (pc : Nat), post r τ → narrow .int (.int r) = .int r → decode cX8_ring pc = .ok (.ireturn, 1) → gJ X (rWd G A H0) Q 0 0 τ lv pc [.int r]) {K56 : RSt → Int32 → Prop} (hK56 : ∀ (s : RSt) (v2 : Int32), K56 s v2 → gJ X (rWd G A H0) Q 0 0 s [(0, .ref (G.2.2.1 0)), (2, .int v2)] 56 []) (s : RSt) (v2 : Int32) (hw : wpR_ring_56_F post K56 s v2) : gJ X (rWd G A H0) Q 0 0 s [(0, .ref (G.2.2.1 0)), (2, .int v2)] 56 [] := by
  refine g_iload_n C.1 1 dX8_ring_56 rfl rfl ?_
  refine g_bipush (v := 10) C.1 dX8_ring_57 (by decide) ?_
  refine g_icmp_ge (tgt := 133) C.1 dX8_ring_59 (by decide) (fun h6 => ?_) (fun h6 => ?_)
  · replace hw := hw.1 h6
    refine g_iconst (v := 0) C.1 dX8_ring_133 (by decide) ?_
    refine g_istore_n (lv' := [(2, .int 0), (0, .ref (G.2.2.1 0))]) C.1 dX8_ring_134 rfl (by decide) rfl ?_
    refine g_iconst (v := 0) C.1 dX8_ring_135 (by decide) ?_
    refine g_istore_n (lv' := [(3, .int 0), (2, .int 0), (0, .ref (G.2.2.1 0))]) C.1 dX8_ring_136 rfl (by decide) rfl ?_
    refine gJ.sub [2, 1, 0] rfl ?_
    exact wkR_ring_137 C hsz hR hret _ _ _ hw
  · replace hw := hw.2 h6
    refine g_iconst (v := 0) C.1 dX8_ring_62 (by decide) ?_
    refine g_istore_n (lv' := [(3, .int 0), (0, .ref (G.2.2.1 0)), (2, .int v2)]) C.1 dX8_ring_63 rfl (by decide) rfl ?_
    refine gJ.sub [1, 2, 0] rfl ?_
    exact wkR_ring_64 C hsz hR hret hK56 _ _ _ hw
theorem wkR_ring_56 {X : gT} {G : rG} {A : Nat → Prop} {H0 : Heap} {Q : State → Prop} (C : rC X cX8_ring 5 G A) (hsz : H0 = (g_s X).heap) (hR : g_R X = rRm 1 23) {post : Int32 → RSt → Prop} (hret : ∀ (r : Int32) (τ : RSt) (lv : List (Nat × Value)) (pc : Nat), post r τ → narrow .int (.int r) = .int r → decode cX8_ring pc = .ok (.ireturn, 1) → gJ X (rWd G A H0) Q 0 0 τ lv pc [.int r]) (s : RSt) (v2 : Int32) (hw : wpR_ring_56 post s v2) : gJ X (rWd G A H0) Q 0 0 s [(0, .ref (G.2.2.1 0)), (2, .int v2)] 56 [] := 
  hw (fun (x : RSt × Int32) => (fun s v2 => gJ X (rWd G A H0) Q 0 0 s [(0, .ref (G.2.2.1 0)), (2, .int v2)] 56 []) x.1 x.2) (fun x hx => wkR_ring_56_F C hsz hR hret (K56 := (fun s v2 => gJ X (rWd G A H0) Q 0 0 s [(0, .ref (G.2.2.1 0)), (2, .int v2)] 56 [])) (fun _ _ h => h) x.1 x.2 hx)
theorem wkR_ring_47 {X : gT} {G : rG} {A : Nat → Prop} {H0 : Heap} {Q : State → Prop} (C : rC X cX8_ring 5 G A) (hsz : H0 = (g_s X).heap) (hR : g_R X = rRm 1 23) {post : Int32 → RSt → Prop} (hret : ∀ (r : Int32) (τ : RSt) (lv : List (Nat × Value)) (pc : Nat), post r τ → narrow .int (.int r) = .int r → decode cX8_ring pc = .ok (.ireturn, 1) → gJ X (rWd G A H0) Q 0 0 τ lv pc [.int r]) {K2 : RSt → Int32 → Int32 → Prop} (hK2 : ∀ (s : RSt) (v1 : Int32) (v2 : Int32), K2 s v1 v2 → gJ X (rWd G A H0) Q 0 0 s [(0, .ref (G.2.2.1 0)), (1, .int v1), (2, .int v2)] 2 []) (s : RSt) (v1 : Int32) (v2 : Int32) (w1 : Int32) (w2 : Int32) (hw : wpR_ring_47 post K2 s v1 v2 w1 w2) : gJ X (rWd G A H0) Q 0 0 s [(0, .ref (G.2.2.1 0)), (1, .int v1), (2, .int v2)] 47 [.int w2, .int w1, .ref (G.2.2.1 38)] := by
  refine r_st38 C hw.1 dX8_ring_47 ?_
  replace hw := hw.2
  refine gJ.nm (fun s7 es7 => ?_)
  replace hw := hw s7 es7
  refine g_iinc (v := v2 + 1) (lv' := [(2, .int (v2 + 1)), (0, .ref (G.2.2.1 0)), (1, .int v1)]) C.1 2 dX8_ring_48 rfl rfl (by decide) rfl ?_
  refine g_goto (tgt := 2) C.1 dX8_ring_51 (by decide) ?_
  refine gJ.sub [1, 2, 0] rfl ?_
  exact hK2 _ _ _ hw
theorem wkR_ring_2_F {X : gT} {G : rG} {A : Nat → Prop} {H0 : Heap} {Q : State → Prop} (C : rC X cX8_ring 5 G A) (hsz : H0 = (g_s X).heap) (hR : g_R X = rRm 1 23) {post : Int32 → RSt → Prop} (hret : ∀ (r : Int32) (τ : RSt) (lv : List (Nat × Value)) (pc : Nat), post r τ → narrow .int (.int r) = .int r → decode cX8_ring pc = .ok (.ireturn, 1) → gJ X (rWd G A H0) Q 0 0 τ lv pc [.int r]) {K2 : RSt → Int32 → Int32 → Prop} (hK2 : ∀ (s : RSt) (v1 : Int32) (v2 : Int32), K2 s v1 v2 → gJ X (rWd G A H0) Q 0 0 s [(0, .ref (G.2.2.1 0)), (1, .int v1), (2, .int v2)] 2 []) (s : RSt) (v1 : Int32) (v2 : Int32) (hw : wpR_ring_2_F post K2 s v1 v2) : gJ X (rWd G A H0) Q 0 0 s [(0, .ref (G.2.2.1 0)), (1, .int v1), (2, .int v2)] 2 [] := by
  refine g_iload_n C.1 2 dX8_ring_2 rfl rfl ?_
  refine g_aload_n C.1 0 dX8_ring_3 rfl rfl ?_
  refine r_g9 C dX8_ring_4 ?_
  refine g_icmp_ge (tgt := 54) C.1 dX8_ring_7 (by decide) (fun h8 => ?_) (fun h8 => ?_)
  · replace hw := hw.1 h8
    refine g_iconst (v := 0) C.1 dX8_ring_54 (by decide) ?_
    refine g_istore_n (lv' := [(2, .int 0), (0, .ref (G.2.2.1 0)), (1, .int v1)]) C.1 dX8_ring_55 rfl (by decide) rfl ?_
    refine gJ.sub [1, 0] rfl ?_
    exact wkR_ring_56 C hsz hR hret _ _ hw
  · replace hw := hw.2 h8
    refine g_aload_n C.1 0 dX8_ring_10 rfl rfl ?_
    refine r_g38 C dX8_ring_11 ?_
    refine g_iload_n C.1 2 dX8_ring_14 rfl rfl ?_
    refine g_iload_n C.1 2 dX8_ring_15 rfl rfl ?_
    refine g_iload_n C.1 1 dX8_ring_16 rfl rfl ?_
    refine g_icmp_ne (tgt := 29) C.1 dX8_ring_17 (by decide) (fun h9 => ?_) (fun h9 => ?_)
    · replace hw := hw.1 h9
      refine g_aload_n C.1 0 dX8_ring_29 rfl rfl ?_
      refine r_g18 C dX8_ring_30 ?_
      refine g_iload_n C.1 2 dX8_ring_33 rfl rfl ?_
      refine r_ld18 C hw.1 dX8_ring_34 ?_
      replace hw := hw.2
      refine g_if_eq (tgt := 46) C.1 dX8_ring_35 (by decide) (fun h10 => ?_) (fun h10 => ?_)
      · replace hw := hw.1 h10
        refine g_iconst (v := 0) C.1 dX8_ring_46 (by decide) ?_
        exact wkR_ring_47 C hsz hR hret hK2 _ _ _ _ _ hw
      · replace hw := hw.2 h10
        refine g_aload_n C.1 0 dX8_ring_38 rfl rfl ?_
        refine g_iload_n C.1 2 dX8_ring_39 rfl rfl ?_
        refine r_calli C hsz (cR_names (g_l X) G s _ _ hw) kR_175 kR_176 kR_177 kR_174 hdR_names (by rw [hR]; exact ⟨Nat.le_of_ble_eq_true rfl, Nat.le_of_ble_eq_true rfl⟩) dX8_ring_40 rfl (Nat.le_of_ble_eq_true rfl) (fun r12 s11 hw => ?_)
        refine g_goto (tgt := 47) C.1 dX8_ring_43 (by decide) ?_
        exact wkR_ring_47 C hsz hR hret hK2 _ _ _ _ _ hw
    · replace hw := hw.2 h9
      refine g_aload_n C.1 0 dX8_ring_20 rfl rfl ?_
      refine g_bipush (v := 10) C.1 dX8_ring_21 (by decide) ?_
      refine r_calli C hsz (cR_names (g_l X) G s _ _ hw) kR_175 kR_176 kR_177 kR_174 hdR_names (by rw [hR]; exact ⟨Nat.le_of_ble_eq_true rfl, Nat.le_of_ble_eq_true rfl⟩) dX8_ring_23 rfl (Nat.le_of_ble_eq_true rfl) (fun r14 s13 hw => ?_)
      refine g_goto (tgt := 47) C.1 dX8_ring_26 (by decide) ?_
      exact wkR_ring_47 C hsz hR hret hK2 _ _ _ _ _ hw
theorem wkR_ring_2 {X : gT} {G : rG} {A : Nat → Prop} {H0 : Heap} {Q : State → Prop} (C : rC X cX8_ring 5 G A) (hsz : H0 = (g_s X).heap) (hR : g_R X = rRm 1 23) {post : Int32 → RSt → Prop} (hret : ∀ (r : Int32) (τ : RSt) (lv : List (Nat × Value)) (pc : Nat), post r τ → narrow .int (.int r) = .int r → decode cX8_ring pc = .ok (.ireturn, 1) → gJ X (rWd G A H0) Q 0 0 τ lv pc [.int r]) (s : RSt) (v1 : Int32) (v2 : Int32) (hw : wpR_ring_2 post s v1 v2) : gJ X (rWd G A H0) Q 0 0 s [(0, .ref (G.2.2.1 0)), (1, .int v1), (2, .int v2)] 2 [] := 
  hw (fun (x : RSt × Int32 × Int32) => (fun s v1 v2 => gJ X (rWd G A H0) Q 0 0 s [(0, .ref (G.2.2.1 0)), (1, .int v1), (2, .int v2)] 2 []) x.1 x.2.1 x.2.2) (fun x hx => wkR_ring_2_F C hsz hR hret (K2 := (fun s v1 v2 => gJ X (rWd G A H0) Q 0 0 s [(0, .ref (G.2.2.1 0)), (1, .int v1), (2, .int v2)] 2 [])) (fun _ _ _ h => h) x.1 x.2.1 x.2.2 hx)
theorem wkR_ring_0 {X : gT} {G : rG} {A : Nat → Prop} {H0 : Heap} {Q : State → Prop} (C : rC X cX8_ring 5 G A) (hsz : H0 = (g_s X).heap) (hR : g_R X = rRm 1 23) {post : Int32 → RSt → Prop} (hret : ∀ (r : Int32) (τ : RSt) (lv : List (Nat × Value)) (pc : Nat), post r τ → narrow .int (.int r) = .int r → decode cX8_ring pc = .ok (.ireturn, 1) → gJ X (rWd G A H0) Q 0 0 τ lv pc [.int r]) (s : RSt) (v1 : Int32) (hw : wpR_ring_0 post s v1) : gJ X (rWd G A H0) Q 0 0 s [(0, .ref (G.2.2.1 0)), (1, .int v1)] 0 [] := by
  refine g_iconst (v := 0) C.1 dX8_ring_0 (by decide) ?_
  refine g_istore_n (lv' := [(2, .int 0), (0, .ref (G.2.2.1 0)), (1, .int v1)]) C.1 dX8_ring_1 rfl (by decide) rfl ?_
  refine gJ.sub [1, 2, 0] rfl ?_
  exact wkR_ring_2 C hsz hR hret _ _ _ hw
theorem hdR_ring : yX8_ring.cls = RX8 ∧ yX8_ring.cls ≠ "java/lang/invoke/MethodHandle" ∧ yX8_ring.cls ≠ "java/lang/invoke/VarHandle" ∧ (parseMethodDescriptor yX8_ring.desc).map (fun d => d.parameters.length) = some 1 := by decide +kernel
theorem cR_ring (l : Launch) (G : rG) (s : RSt) (v1 : Int32) (post : Int32 → RSt → Prop) (hw : wpR_ring_0 post s v1) : rMi l yX8_ring cX8_ring 5 .int 1 23 G s [.int v1] post := rMi_of (by decide +kernel) rfl (Nat.le_of_ble_eq_true rfl) (fun X A H0 Q hl hR hsz C hret => wkR_ring_0 C hsz hR hret s v1 hw)
def wpR_areKnown_38 (post : Int32 → RSt → Prop) (K4 : RSt → Int32 → Int32 → Int32 → Prop) (s : RSt) (v1 : Int32) (v3 : Int32) (w0 : Int32) : Prop := K4 s v1 w0 (v3 + 1)
def wpR_areKnown_37 (post : Int32 → RSt → Prop) (K4 : RSt → Int32 → Int32 → Int32 → Prop) (s : RSt) (v1 : Int32) (v3 : Int32) : Prop := wpR_areKnown_38 post K4 s v1 v3 0
def wpR_areKnown_33 (post : Int32 → RSt → Prop) (K4 : RSt → Int32 → Int32 → Int32 → Prop) (s : RSt) (v1 : Int32) (v3 : Int32) : Prop := wpR_areKnown_38 post K4 s v1 v3 1
def wpR_areKnown_4_F (post : Int32 → RSt → Prop) (K4 : RSt → Int32 → Int32 → Int32 → Prop) (s : RSt) (v1 : Int32) (v2 : Int32) (v3 : Int32) : Prop := ((s.1 9) ≤ v3 → narrow .boolean (.int v2) = .int v2 ∧ post v2 s) ∧ (¬ (s.1 9) ≤ v3 → (v2 = 0 → wpR_areKnown_37 post K4 s v1 v3) ∧ (¬ v2 = 0 → (((v1 >>> (v3 &&& 31)) &&& 1) = 0 → wpR_areKnown_33 post K4 s v1 v3) ∧ (¬ ((v1 >>> (v3 &&& 31)) &&& 1) = 0 → vp_in v3 10 ∧ ((s.2.1 39 v3.toNatClampNeg) = 0 → wpR_areKnown_37 post K4 s v1 v3) ∧ (¬ (s.2.1 39 v3.toNatClampNeg) = 0 → wpR_areKnown_33 post K4 s v1 v3))))
def wpR_areKnown_4 (post : Int32 → RSt → Prop) (s : RSt) (v1 : Int32) (v2 : Int32) (v3 : Int32) : Prop := gLP (fun (K : RSt × Int32 × Int32 × Int32 → Prop) (x : RSt × Int32 × Int32 × Int32) => wpR_areKnown_4_F post (fun s v1 v2 v3 => K (s, v1, v2, v3)) x.1 x.2.1 x.2.2.1 x.2.2.2) (s, v1, v2, v3)
def wpR_areKnown_0 (post : Int32 → RSt → Prop) (s : RSt) (v1 : Int32) : Prop := wpR_areKnown_4 post s v1 1 0
theorem wkR_areKnown_38 {X : gT} {G : rG} {A : Nat → Prop} {H0 : Heap} {Q : State → Prop} (C : rC X cX8_areKnown 4 G A) (hsz : H0 = (g_s X).heap) (hR : g_R X = rRm 0 0) {post : Int32 → RSt → Prop} (hret : ∀ (r : Int32) (τ : RSt) (lv : List (Nat × Value)) (pc : Nat), post r τ → narrow .boolean (.int r) = .int r → decode cX8_areKnown pc = .ok (.ireturn, 1) → gJ X (rWd G A H0) Q 0 0 τ lv pc [.int r]) {K4 : RSt → Int32 → Int32 → Int32 → Prop} (hK4 : ∀ (s : RSt) (v1 : Int32) (v2 : Int32) (v3 : Int32), K4 s v1 v2 v3 → gJ X (rWd G A H0) Q 0 0 s [(0, .ref (G.2.2.1 0)), (1, .int v1), (2, .int v2), (3, .int v3)] 4 []) (s : RSt) (v1 : Int32) (v3 : Int32) (w0 : Int32) (hw : wpR_areKnown_38 post K4 s v1 v3 w0) : gJ X (rWd G A H0) Q 0 0 s [(0, .ref (G.2.2.1 0)), (1, .int v1), (3, .int v3)] 38 [.int w0] := by
  refine g_istore_n (lv' := [(2, .int w0), (0, .ref (G.2.2.1 0)), (1, .int v1), (3, .int v3)]) C.1 dX8_areKnown_38 rfl (by decide) rfl ?_
  refine g_iinc (v := v3 + 1) (lv' := [(3, .int (v3 + 1)), (2, .int w0), (0, .ref (G.2.2.1 0)), (1, .int v1)]) C.1 3 dX8_areKnown_39 rfl rfl (by decide) rfl ?_
  refine g_goto (tgt := 4) C.1 dX8_areKnown_42 (by decide) ?_
  refine gJ.sub [2, 3, 1, 0] rfl ?_
  exact hK4 _ _ _ _ hw
theorem wkR_areKnown_37 {X : gT} {G : rG} {A : Nat → Prop} {H0 : Heap} {Q : State → Prop} (C : rC X cX8_areKnown 4 G A) (hsz : H0 = (g_s X).heap) (hR : g_R X = rRm 0 0) {post : Int32 → RSt → Prop} (hret : ∀ (r : Int32) (τ : RSt) (lv : List (Nat × Value)) (pc : Nat), post r τ → narrow .boolean (.int r) = .int r → decode cX8_areKnown pc = .ok (.ireturn, 1) → gJ X (rWd G A H0) Q 0 0 τ lv pc [.int r]) {K4 : RSt → Int32 → Int32 → Int32 → Prop} (hK4 : ∀ (s : RSt) (v1 : Int32) (v2 : Int32) (v3 : Int32), K4 s v1 v2 v3 → gJ X (rWd G A H0) Q 0 0 s [(0, .ref (G.2.2.1 0)), (1, .int v1), (2, .int v2), (3, .int v3)] 4 []) (s : RSt) (v1 : Int32) (v3 : Int32) (hw : wpR_areKnown_37 post K4 s v1 v3) : gJ X (rWd G A H0) Q 0 0 s [(0, .ref (G.2.2.1 0)), (1, .int v1), (3, .int v3)] 37 [] := by
  refine g_iconst (v := 0) C.1 dX8_areKnown_37 (by decide) ?_
  exact wkR_areKnown_38 C hsz hR hret hK4 _ _ _ _ hw
theorem wkR_areKnown_33 {X : gT} {G : rG} {A : Nat → Prop} {H0 : Heap} {Q : State → Prop} (C : rC X cX8_areKnown 4 G A) (hsz : H0 = (g_s X).heap) (hR : g_R X = rRm 0 0) {post : Int32 → RSt → Prop} (hret : ∀ (r : Int32) (τ : RSt) (lv : List (Nat × Value)) (pc : Nat), post r τ → narrow .boolean (.int r) = .int r → decode cX8_areKnown pc = .ok (.ireturn, 1) → gJ X (rWd G A H0) Q 0 0 τ lv pc [.int r]) {K4 : RSt → Int32 → Int32 → Int32 → Prop} (hK4 : ∀ (s : RSt) (v1 : Int32) (v2 : Int32) (v3 : Int32), K4 s v1 v2 v3 → gJ X (rWd G A H0) Q 0 0 s [(0, .ref (G.2.2.1 0)), (1, .int v1), (2, .int v2), (3, .int v3)] 4 []) (s : RSt) (v1 : Int32) (v3 : Int32) (hw : wpR_areKnown_33 post K4 s v1 v3) : gJ X (rWd G A H0) Q 0 0 s [(0, .ref (G.2.2.1 0)), (1, .int v1), (3, .int v3)] 33 [] := by
  refine g_iconst (v := 1) C.1 dX8_areKnown_33 (by decide) ?_
  refine g_goto (tgt := 38) C.1 dX8_areKnown_34 (by decide) ?_
  exact wkR_areKnown_38 C hsz hR hret hK4 _ _ _ _ hw
theorem wkR_areKnown_4_F {X : gT} {G : rG} {A : Nat → Prop} {H0 : Heap} {Q : State → Prop} (C : rC X cX8_areKnown 4 G A) (hsz : H0 = (g_s X).heap) (hR : g_R X = rRm 0 0) {post : Int32 → RSt → Prop} (hret : ∀ (r : Int32) (τ : RSt) (lv : List (Nat × Value)) (pc : Nat), post r τ → narrow .boolean (.int r) = .int r → decode cX8_areKnown pc = .ok (.ireturn, 1) → gJ X (rWd G A H0) Q 0 0 τ lv pc [.int r]) {K4 : RSt → Int32 → Int32 → Int32 → Prop} (hK4 : ∀ (s : RSt) (v1 : Int32) (v2 : Int32) (v3 : Int32), K4 s v1 v2 v3 → gJ X (rWd G A H0) Q 0 0 s [(0, .ref (G.2.2.1 0)), (1, .int v1), (2, .int v2), (3, .int v3)] 4 []) (s : RSt) (v1 : Int32) (v2 : Int32) (v3 : Int32) (hw : wpR_areKnown_4_F post K4 s v1 v2 v3) : gJ X (rWd G A H0) Q 0 0 s [(0, .ref (G.2.2.1 0)), (1, .int v1), (2, .int v2), (3, .int v3)] 4 [] := by
  refine g_iload_n C.1 3 dX8_areKnown_4 rfl rfl ?_
  refine g_aload_n C.1 0 dX8_areKnown_5 rfl rfl ?_
  refine r_g9 C dX8_areKnown_6 ?_
  refine g_icmp_ge (tgt := 45) C.1 dX8_areKnown_9 (by decide) (fun h1 => ?_) (fun h1 => ?_)
  · replace hw := hw.1 h1
    refine g_iload_n C.1 2 dX8_areKnown_45 rfl rfl ?_
    exact hret _ _ _ _ hw.2 hw.1 dX8_areKnown_46
  · replace hw := hw.2 h1
    refine g_iload_n C.1 2 dX8_areKnown_12 rfl rfl ?_
    refine g_if_eq (tgt := 37) C.1 dX8_areKnown_13 (by decide) (fun h2 => ?_) (fun h2 => ?_)
    · replace hw := hw.1 h2
      refine gJ.sub [0, 1, 3] rfl ?_
      exact wkR_areKnown_37 C hsz hR hret hK4 _ _ _ hw
    · replace hw := hw.2 h2
      refine g_iload_n C.1 1 dX8_areKnown_16 rfl rfl ?_
      refine g_iload_n C.1 3 dX8_areKnown_17 rfl rfl ?_
      refine g_ishr C.1 dX8_areKnown_18 ?_
      refine g_iconst (v := 1) C.1 dX8_areKnown_19 (by decide) ?_
      refine g_iand C.1 dX8_areKnown_20 ?_
      refine g_if_eq (tgt := 33) C.1 dX8_areKnown_21 (by decide) (fun h3 => ?_) (fun h3 => ?_)
      · replace hw := hw.1 h3
        refine gJ.sub [0, 1, 3] rfl ?_
        exact wkR_areKnown_33 C hsz hR hret hK4 _ _ _ hw
      · replace hw := hw.2 h3
        refine g_aload_n C.1 0 dX8_areKnown_24 rfl rfl ?_
        refine r_g39 C dX8_areKnown_25 ?_
        refine g_iload_n C.1 3 dX8_areKnown_28 rfl rfl ?_
        refine r_ld39 C hw.1 dX8_areKnown_29 ?_
        replace hw := hw.2
        refine g_if_eq (tgt := 37) C.1 dX8_areKnown_30 (by decide) (fun h4 => ?_) (fun h4 => ?_)
        · replace hw := hw.1 h4
          refine gJ.sub [0, 1, 3] rfl ?_
          exact wkR_areKnown_37 C hsz hR hret hK4 _ _ _ hw
        · replace hw := hw.2 h4
          refine gJ.sub [0, 1, 3] rfl ?_
          exact wkR_areKnown_33 C hsz hR hret hK4 _ _ _ hw
theorem wkR_areKnown_4 {X : gT} {G : rG} {A : Nat → Prop} {H0 : Heap} {Q : State → Prop} (C : rC X cX8_areKnown 4 G A) (hsz : H0 = (g_s X).heap) (hR : g_R X = rRm 0 0) {post : Int32 → RSt → Prop} (hret : ∀ (r : Int32) (τ : RSt) (lv : List (Nat × Value)) (pc : Nat), post r τ → narrow .boolean (.int r) = .int r → decode cX8_areKnown pc = .ok (.ireturn, 1) → gJ X (rWd G A H0) Q 0 0 τ lv pc [.int r]) (s : RSt) (v1 : Int32) (v2 : Int32) (v3 : Int32) (hw : wpR_areKnown_4 post s v1 v2 v3) : gJ X (rWd G A H0) Q 0 0 s [(0, .ref (G.2.2.1 0)), (1, .int v1), (2, .int v2), (3, .int v3)] 4 [] := 
  hw (fun (x : RSt × Int32 × Int32 × Int32) => (fun s v1 v2 v3 => gJ X (rWd G A H0) Q 0 0 s [(0, .ref (G.2.2.1 0)), (1, .int v1), (2, .int v2), (3, .int v3)] 4 []) x.1 x.2.1 x.2.2.1 x.2.2.2) (fun x hx => wkR_areKnown_4_F C hsz hR hret (K4 := (fun s v1 v2 v3 => gJ X (rWd G A H0) Q 0 0 s [(0, .ref (G.2.2.1 0)), (1, .int v1), (2, .int v2), (3, .int v3)] 4 [])) (fun _ _ _ _ h => h) x.1 x.2.1 x.2.2.1 x.2.2.2 hx)
theorem wkR_areKnown_0 {X : gT} {G : rG} {A : Nat → Prop} {H0 : Heap} {Q : State → Prop} (C : rC X cX8_areKnown 4 G A) (hsz : H0 = (g_s X).heap) (hR : g_R X = rRm 0 0) {post : Int32 → RSt → Prop} (hret : ∀ (r : Int32) (τ : RSt) (lv : List (Nat × Value)) (pc : Nat), post r τ → narrow .boolean (.int r) = .int r → decode cX8_areKnown pc = .ok (.ireturn, 1) → gJ X (rWd G A H0) Q 0 0 τ lv pc [.int r]) (s : RSt) (v1 : Int32) (hw : wpR_areKnown_0 post s v1) : gJ X (rWd G A H0) Q 0 0 s [(0, .ref (G.2.2.1 0)), (1, .int v1)] 0 [] := by
  refine g_iconst (v := 1) C.1 dX8_areKnown_0 (by decide) ?_
  refine g_istore_n (lv' := [(2, .int 1), (0, .ref (G.2.2.1 0)), (1, .int v1)]) C.1 dX8_areKnown_1 rfl (by decide) rfl ?_
  refine g_iconst (v := 0) C.1 dX8_areKnown_2 (by decide) ?_
  refine g_istore_n (lv' := [(3, .int 0), (2, .int 1), (0, .ref (G.2.2.1 0)), (1, .int v1)]) C.1 dX8_areKnown_3 rfl (by decide) rfl ?_
  refine gJ.sub [2, 3, 1, 0] rfl ?_
  exact wkR_areKnown_4 C hsz hR hret _ _ _ _ hw
theorem hdR_areKnown : yX8_areKnown.cls = RX8 ∧ yX8_areKnown.cls ≠ "java/lang/invoke/MethodHandle" ∧ yX8_areKnown.cls ≠ "java/lang/invoke/VarHandle" ∧ (parseMethodDescriptor yX8_areKnown.desc).map (fun d => d.parameters.length) = some 1 := by decide +kernel
theorem cR_areKnown (l : Launch) (G : rG) (s : RSt) (v1 : Int32) (post : Int32 → RSt → Prop) (hw : wpR_areKnown_0 post s v1) : rMi l yX8_areKnown cX8_areKnown 4 .boolean 0 0 G s [.int v1] post := rMi_of (by decide +kernel) rfl (Nat.le_of_ble_eq_true rfl) (fun X A H0 Q hl hR hsz C hret => wkR_areKnown_0 C hsz hR hret s v1 hw)
def wpR_holds_226 (post : Int32 → RSt → Prop) (K8 : RSt → Int32 → Int32 → Int32 → Prop) (s : RSt) (v1 : Int32) (v2 : Int32) (v3 : Int32) : Prop := K8 s v1 v2 (v3 + 1)
def wpR_holds_150 (post : Int32 → RSt → Prop) (K8 : RSt → Int32 → Int32 → Int32 → Prop) (s : RSt) (v1 : Int32) (v2 : Int32) (v3 : Int32) (w1 : Int32) (w2 : Int32) : Prop := vp_in w1 400 ∧ ∀ s1 : RSt, s1 = rsA s 41 w1.toNatClampNeg (vp_nar .boolean w2) → wpR_holds_226 post K8 s1 v1 v2 v3
def wpR_holds_145 (post : Int32 → RSt → Prop) (K8 : RSt → Int32 → Int32 → Int32 → Prop) (s : RSt) (v1 : Int32) (v2 : Int32) (v3 : Int32) (w1 : Int32) : Prop := wpR_holds_150 post K8 s v1 v2 v3 w1 1
def wpR_holds_121 (post : Int32 → RSt → Prop) (K8 : RSt → Int32 → Int32 → Int32 → Prop) (s : RSt) (v1 : Int32) (v2 : Int32) (v3 : Int32) (w1 : Int32) : Prop := wpR_holds_150 post K8 s v1 v2 v3 w1 0
def wpR_holds_80 (post : Int32 → RSt → Prop) (K8 : RSt → Int32 → Int32 → Int32 → Prop) (s : RSt) (v1 : Int32) (v2 : Int32) (v3 : Int32) (v4 : Int32) : Prop := (¬ v4 = 15 → vp_in ((v2 + (-1)) - 1) 400 ∧ (¬ (s.2.1 41 ((v2 + (-1)) - 1).toNatClampNeg) = 0 → wpR_holds_145 post K8 s v1 (v2 + (-1)) v3 ((v2 + (-1)) - 1)) ∧ ((s.2.1 41 ((v2 + (-1)) - 1).toNatClampNeg) = 0 → vp_in (v2 + (-1)) 400 ∧ ((s.2.1 41 (v2 + (-1)).toNatClampNeg) = 0 → wpR_holds_150 post K8 s v1 (v2 + (-1)) v3 ((v2 + (-1)) - 1) 0) ∧ (¬ (s.2.1 41 (v2 + (-1)).toNatClampNeg) = 0 → wpR_holds_145 post K8 s v1 (v2 + (-1)) v3 ((v2 + (-1)) - 1)))) ∧ (v4 = 15 → vp_in ((v2 + (-1)) - 1) 400 ∧ ((s.2.1 41 ((v2 + (-1)) - 1).toNatClampNeg) = 0 → wpR_holds_121 post K8 s v1 (v2 + (-1)) v3 ((v2 + (-1)) - 1)) ∧ (¬ (s.2.1 41 ((v2 + (-1)) - 1).toNatClampNeg) = 0 → vp_in (v2 + (-1)) 400 ∧ ((s.2.1 41 (v2 + (-1)).toNatClampNeg) = 0 → wpR_holds_121 post K8 s v1 (v2 + (-1)) v3 ((v2 + (-1)) - 1)) ∧ (¬ (s.2.1 41 (v2 + (-1)).toNatClampNeg) = 0 → wpR_holds_150 post K8 s v1 (v2 + (-1)) v3 ((v2 + (-1)) - 1) 1)))
def wpR_holds_222 (post : Int32 → RSt → Prop) (K8 : RSt → Int32 → Int32 → Int32 → Prop) (s : RSt) (v1 : Int32) (v2 : Int32) (v3 : Int32) (w1 : Int32) (w2 : Int32) : Prop := vp_in w1 400 ∧ ∀ s7 : RSt, s7 = rsA s 41 w1.toNatClampNeg (vp_nar .boolean w2) → wpR_holds_226 post K8 s7 v1 (v2 + 1) v3
def wpR_holds_62 (post : Int32 → RSt → Prop) (K8 : RSt → Int32 → Int32 → Int32 → Prop) (s : RSt) (v1 : Int32) (v2 : Int32) (v3 : Int32) (w1 : Int32) (w2 : Int32) : Prop := vp_in w1 400 ∧ ∀ s8 : RSt, s8 = rsA s 41 w1.toNatClampNeg (vp_nar .boolean w2) → wpR_holds_226 post K8 s8 v1 v2 v3
def wpR_holds_8_F (post : Int32 → RSt → Prop) (K8 : RSt → Int32 → Int32 → Int32 → Prop) (s : RSt) (v1 : Int32) (v2 : Int32) (v3 : Int32) : Prop := vp_in v1 11 ∧ (((400 * v1) + (s.2.1 17 v1.toNatClampNeg)) ≤ v3 → vp_in 0 400 ∧ narrow .boolean (.int (s.2.1 41 (0 : Int32).toNatClampNeg)) = .int (s.2.1 41 (0 : Int32).toNatClampNeg) ∧ post (s.2.1 41 (0 : Int32).toNatClampNeg) s) ∧ (¬ ((400 * v1) + (s.2.1 17 v1.toNatClampNeg)) ≤ v3 → vp_in v3 4400 ∧ (¬ (s.2.1 15 v3.toNatClampNeg) = 14 → ((s.2.1 15 v3.toNatClampNeg) = 15 → wpR_holds_80 post K8 s v1 v2 v3 (s.2.1 15 v3.toNatClampNeg)) ∧ (¬ (s.2.1 15 v3.toNatClampNeg) = 15 → (¬ (s.2.1 15 v3.toNatClampNeg) = 16 → (¬ (s.2.1 15 v3.toNatClampNeg) = 12 → (¬ (s.2.1 15 v3.toNatClampNeg) = 13 → wpR_measure_0 (fun r16 s15 => vp_in v3 4400 ∧ wpR_compares_0 (fun r17 => wpR_holds_222 post K8 s15 v1 v2 v3 v2 r17) r16 ((s.2.1 15 v3.toNatClampNeg) - (s.2.1 15 v3.toNatClampNeg) / 3 * 3) (s15.2.1 16 v3.toNatClampNeg)) s v1 ((s.2.1 15 v3.toNatClampNeg) / 3)) ∧ ((s.2.1 15 v3.toNatClampNeg) = 13 → vp_in v3 4400 ∧ wpR_isRunning_0 (fun r19 s18 => wpR_holds_222 post K8 s18 v1 v2 v3 v2 r19) s (s.2.1 16 v3.toNatClampNeg))) ∧ ((s.2.1 15 v3.toNatClampNeg) = 12 → vp_in v3 4400 ∧ vp_in (s.2.1 16 v3.toNatClampNeg) 10 ∧ wpR_holds_222 post K8 s v1 v2 v3 v2 (s.2.1 40 (s.2.1 16 v3.toNatClampNeg).toNatClampNeg))) ∧ ((s.2.1 15 v3.toNatClampNeg) = 16 → wpR_holds_80 post K8 s v1 v2 v3 (s.2.1 15 v3.toNatClampNeg)))) ∧ ((s.2.1 15 v3.toNatClampNeg) = 14 → vp_in (v2 - 1) 400 ∧ (¬ (s.2.1 41 (v2 - 1).toNatClampNeg) = 0 → wpR_holds_62 post K8 s v1 v2 v3 (v2 - 1) 0) ∧ ((s.2.1 41 (v2 - 1).toNatClampNeg) = 0 → wpR_holds_62 post K8 s v1 v2 v3 (v2 - 1) 1)))
def wpR_holds_8 (post : Int32 → RSt → Prop) (s : RSt) (v1 : Int32) (v2 : Int32) (v3 : Int32) : Prop := gLP (fun (K : RSt × Int32 × Int32 × Int32 → Prop) (x : RSt × Int32 × Int32 × Int32) => wpR_holds_8_F post (fun s v1 v2 v3 => K (s, v1, v2, v3)) x.1 x.2.1 x.2.2.1 x.2.2.2) (s, v1, v2, v3)
def wpR_holds_0 (post : Int32 → RSt → Prop) (s : RSt) (v1 : Int32) : Prop := wpR_holds_8 post s v1 0 (400 * v1)
theorem wkR_holds_226 {X : gT} {G : rG} {A : Nat → Prop} {H0 : Heap} {Q : State → Prop} (C : rC X cX8_holds 5 G A) (hsz : H0 = (g_s X).heap) (hR : g_R X = rRm 2 47) {post : Int32 → RSt → Prop} (hret : ∀ (r : Int32) (τ : RSt) (lv : List (Nat × Value)) (pc : Nat), post r τ → narrow .boolean (.int r) = .int r → decode cX8_holds pc = .ok (.ireturn, 1) → gJ X (rWd G A H0) Q 0 0 τ lv pc [.int r]) {K8 : RSt → Int32 → Int32 → Int32 → Prop} (hK8 : ∀ (s : RSt) (v1 : Int32) (v2 : Int32) (v3 : Int32), K8 s v1 v2 v3 → gJ X (rWd G A H0) Q 0 0 s [(0, .ref (G.2.2.1 0)), (1, .int v1), (2, .int v2), (3, .int v3)] 8 []) (s : RSt) (v1 : Int32) (v2 : Int32) (v3 : Int32) (hw : wpR_holds_226 post K8 s v1 v2 v3) : gJ X (rWd G A H0) Q 0 0 s [(0, .ref (G.2.2.1 0)), (1, .int v1), (2, .int v2), (3, .int v3)] 226 [] := by
  refine g_iinc (v := v3 + 1) (lv' := [(3, .int (v3 + 1)), (0, .ref (G.2.2.1 0)), (1, .int v1), (2, .int v2)]) C.1 3 dX8_holds_226 rfl rfl (by decide) rfl ?_
  refine g_goto (tgt := 8) C.1 dX8_holds_229 (by decide) ?_
  refine gJ.sub [1, 2, 3, 0] rfl ?_
  exact hK8 _ _ _ _ hw
theorem wkR_holds_150 {X : gT} {G : rG} {A : Nat → Prop} {H0 : Heap} {Q : State → Prop} (C : rC X cX8_holds 5 G A) (hsz : H0 = (g_s X).heap) (hR : g_R X = rRm 2 47) {post : Int32 → RSt → Prop} (hret : ∀ (r : Int32) (τ : RSt) (lv : List (Nat × Value)) (pc : Nat), post r τ → narrow .boolean (.int r) = .int r → decode cX8_holds pc = .ok (.ireturn, 1) → gJ X (rWd G A H0) Q 0 0 τ lv pc [.int r]) {K8 : RSt → Int32 → Int32 → Int32 → Prop} (hK8 : ∀ (s : RSt) (v1 : Int32) (v2 : Int32) (v3 : Int32), K8 s v1 v2 v3 → gJ X (rWd G A H0) Q 0 0 s [(0, .ref (G.2.2.1 0)), (1, .int v1), (2, .int v2), (3, .int v3)] 8 []) (s : RSt) (v1 : Int32) (v2 : Int32) (v3 : Int32) (w1 : Int32) (w2 : Int32) (hw : wpR_holds_150 post K8 s v1 v2 v3 w1 w2) : gJ X (rWd G A H0) Q 0 0 s [(0, .ref (G.2.2.1 0)), (1, .int v1), (2, .int v2), (3, .int v3)] 150 [.int w2, .int w1, .ref (G.2.2.1 41)] := by
  refine r_st41 C hw.1 dX8_holds_150 ?_
  replace hw := hw.2
  refine gJ.nm (fun s1 es1 => ?_)
  replace hw := hw s1 es1
  refine g_goto (tgt := 226) C.1 dX8_holds_151 (by decide) ?_
  exact wkR_holds_226 C hsz hR hret hK8 _ _ _ _ hw
theorem wkR_holds_145 {X : gT} {G : rG} {A : Nat → Prop} {H0 : Heap} {Q : State → Prop} (C : rC X cX8_holds 5 G A) (hsz : H0 = (g_s X).heap) (hR : g_R X = rRm 2 47) {post : Int32 → RSt → Prop} (hret : ∀ (r : Int32) (τ : RSt) (lv : List (Nat × Value)) (pc : Nat), post r τ → narrow .boolean (.int r) = .int r → decode cX8_holds pc = .ok (.ireturn, 1) → gJ X (rWd G A H0) Q 0 0 τ lv pc [.int r]) {K8 : RSt → Int32 → Int32 → Int32 → Prop} (hK8 : ∀ (s : RSt) (v1 : Int32) (v2 : Int32) (v3 : Int32), K8 s v1 v2 v3 → gJ X (rWd G A H0) Q 0 0 s [(0, .ref (G.2.2.1 0)), (1, .int v1), (2, .int v2), (3, .int v3)] 8 []) (s : RSt) (v1 : Int32) (v2 : Int32) (v3 : Int32) (w1 : Int32) (hw : wpR_holds_145 post K8 s v1 v2 v3 w1) : gJ X (rWd G A H0) Q 0 0 s [(0, .ref (G.2.2.1 0)), (1, .int v1), (2, .int v2), (3, .int v3)] 145 [.int w1, .ref (G.2.2.1 41)] := by
  refine g_iconst (v := 1) C.1 dX8_holds_145 (by decide) ?_
  refine g_goto (tgt := 150) C.1 dX8_holds_146 (by decide) ?_
  exact wkR_holds_150 C hsz hR hret hK8 _ _ _ _ _ _ hw
theorem wkR_holds_121 {X : gT} {G : rG} {A : Nat → Prop} {H0 : Heap} {Q : State → Prop} (C : rC X cX8_holds 5 G A) (hsz : H0 = (g_s X).heap) (hR : g_R X = rRm 2 47) {post : Int32 → RSt → Prop} (hret : ∀ (r : Int32) (τ : RSt) (lv : List (Nat × Value)) (pc : Nat), post r τ → narrow .boolean (.int r) = .int r → decode cX8_holds pc = .ok (.ireturn, 1) → gJ X (rWd G A H0) Q 0 0 τ lv pc [.int r]) {K8 : RSt → Int32 → Int32 → Int32 → Prop} (hK8 : ∀ (s : RSt) (v1 : Int32) (v2 : Int32) (v3 : Int32), K8 s v1 v2 v3 → gJ X (rWd G A H0) Q 0 0 s [(0, .ref (G.2.2.1 0)), (1, .int v1), (2, .int v2), (3, .int v3)] 8 []) (s : RSt) (v1 : Int32) (v2 : Int32) (v3 : Int32) (w1 : Int32) (hw : wpR_holds_121 post K8 s v1 v2 v3 w1) : gJ X (rWd G A H0) Q 0 0 s [(0, .ref (G.2.2.1 0)), (1, .int v1), (2, .int v2), (3, .int v3)] 121 [.int w1, .ref (G.2.2.1 41)] := by
  refine g_iconst (v := 0) C.1 dX8_holds_121 (by decide) ?_
  refine g_goto (tgt := 150) C.1 dX8_holds_122 (by decide) ?_
  exact wkR_holds_150 C hsz hR hret hK8 _ _ _ _ _ _ hw
theorem wkR_holds_80 {X : gT} {G : rG} {A : Nat → Prop} {H0 : Heap} {Q : State → Prop} (C : rC X cX8_holds 5 G A) (hsz : H0 = (g_s X).heap) (hR : g_R X = rRm 2 47) {post : Int32 → RSt → Prop} (hret : ∀ (r : Int32) (τ : RSt) (lv : List (Nat × Value)) (pc : Nat), post r τ → narrow .boolean (.int r) = .int r → decode cX8_holds pc = .ok (.ireturn, 1) → gJ X (rWd G A H0) Q 0 0 τ lv pc [.int r]) {K8 : RSt → Int32 → Int32 → Int32 → Prop} (hK8 : ∀ (s : RSt) (v1 : Int32) (v2 : Int32) (v3 : Int32), K8 s v1 v2 v3 → gJ X (rWd G A H0) Q 0 0 s [(0, .ref (G.2.2.1 0)), (1, .int v1), (2, .int v2), (3, .int v3)] 8 []) (s : RSt) (v1 : Int32) (v2 : Int32) (v3 : Int32) (v4 : Int32) (hw : wpR_holds_80 post K8 s v1 v2 v3 v4) : gJ X (rWd G A H0) Q 0 0 s [(0, .ref (G.2.2.1 0)), (1, .int v1), (2, .int v2), (3, .int v3), (4, .int v4)] 80 [] := by
  refine g_iinc (v := v2 + (-1)) (lv' := [(2, .int (v2 + (-1))), (0, .ref (G.2.2.1 0)), (1, .int v1), (3, .int v3), (4, .int v4)]) C.1 2 dX8_holds_80 rfl rfl (by decide) rfl ?_
  refine g_aload_n C.1 1 dX8_holds_83 rfl rfl ?_
  refine r_g41 C dX8_holds_84 ?_
  refine g_iload_n C.1 0 dX8_holds_87 rfl rfl ?_
  refine g_iconst (v := 1) C.1 dX8_holds_88 (by decide) ?_
  refine g_isub C.1 dX8_holds_89 ?_
  refine g_iload C.1 4 dX8_holds_90 rfl ?_
  refine g_bipush (v := 15) C.1 dX8_holds_92 (by decide) ?_
  refine g_icmp_ne (tgt := 125) C.1 dX8_holds_94 (by decide) (fun h2 => ?_) (fun h2 => ?_)
  · replace hw := hw.1 h2
    refine g_aload_n C.1 1 dX8_holds_125 rfl rfl ?_
    refine r_g41 C dX8_holds_126 ?_
    refine g_iload_n C.1 0 dX8_holds_129 rfl rfl ?_
    refine g_iconst (v := 1) C.1 dX8_holds_130 (by decide) ?_
    refine g_isub C.1 dX8_holds_131 ?_
    refine r_ld41 C hw.1 dX8_holds_132 ?_
    replace hw := hw.2
    refine g_if_ne (tgt := 145) C.1 dX8_holds_133 (by decide) (fun h3 => ?_) (fun h3 => ?_)
    · replace hw := hw.1 h3
      refine gJ.sub [1, 2, 0, 3] rfl ?_
      exact wkR_holds_145 C hsz hR hret hK8 _ _ _ _ _ hw
    · replace hw := hw.2 h3
      refine g_aload_n C.1 1 dX8_holds_136 rfl rfl ?_
      refine r_g41 C dX8_holds_137 ?_
      refine g_iload_n C.1 0 dX8_holds_140 rfl rfl ?_
      refine r_ld41 C hw.1 dX8_holds_141 ?_
      replace hw := hw.2
      refine g_if_eq (tgt := 149) C.1 dX8_holds_142 (by decide) (fun h4 => ?_) (fun h4 => ?_)
      · replace hw := hw.1 h4
        refine g_iconst (v := 0) C.1 dX8_holds_149 (by decide) ?_
        refine gJ.sub [1, 2, 0, 3] rfl ?_
        exact wkR_holds_150 C hsz hR hret hK8 _ _ _ _ _ _ hw
      · replace hw := hw.2 h4
        refine gJ.sub [1, 2, 0, 3] rfl ?_
        exact wkR_holds_145 C hsz hR hret hK8 _ _ _ _ _ hw
  · replace hw := hw.2 h2
    refine g_aload_n C.1 1 dX8_holds_97 rfl rfl ?_
    refine r_g41 C dX8_holds_98 ?_
    refine g_iload_n C.1 0 dX8_holds_101 rfl rfl ?_
    refine g_iconst (v := 1) C.1 dX8_holds_102 (by decide) ?_
    refine g_isub C.1 dX8_holds_103 ?_
    refine r_ld41 C hw.1 dX8_holds_104 ?_
    replace hw := hw.2
    refine g_if_eq (tgt := 121) C.1 dX8_holds_105 (by decide) (fun h5 => ?_) (fun h5 => ?_)
    · replace hw := hw.1 h5
      refine gJ.sub [1, 2, 0, 3] rfl ?_
      exact wkR_holds_121 C hsz hR hret hK8 _ _ _ _ _ hw
    · replace hw := hw.2 h5
      refine g_aload_n C.1 1 dX8_holds_108 rfl rfl ?_
      refine r_g41 C dX8_holds_109 ?_
      refine g_iload_n C.1 0 dX8_holds_112 rfl rfl ?_
      refine r_ld41 C hw.1 dX8_holds_113 ?_
      replace hw := hw.2
      refine g_if_eq (tgt := 121) C.1 dX8_holds_114 (by decide) (fun h6 => ?_) (fun h6 => ?_)
      · replace hw := hw.1 h6
        refine gJ.sub [1, 2, 0, 3] rfl ?_
        exact wkR_holds_121 C hsz hR hret hK8 _ _ _ _ _ hw
      · replace hw := hw.2 h6
        refine g_iconst (v := 1) C.1 dX8_holds_117 (by decide) ?_
        refine g_goto (tgt := 150) C.1 dX8_holds_118 (by decide) ?_
        refine gJ.sub [1, 2, 0, 3] rfl ?_
        exact wkR_holds_150 C hsz hR hret hK8 _ _ _ _ _ _ hw
theorem wkR_holds_222 {X : gT} {G : rG} {A : Nat → Prop} {H0 : Heap} {Q : State → Prop} (C : rC X cX8_holds 5 G A) (hsz : H0 = (g_s X).heap) (hR : g_R X = rRm 2 47) {post : Int32 → RSt → Prop} (hret : ∀ (r : Int32) (τ : RSt) (lv : List (Nat × Value)) (pc : Nat), post r τ → narrow .boolean (.int r) = .int r → decode cX8_holds pc = .ok (.ireturn, 1) → gJ X (rWd G A H0) Q 0 0 τ lv pc [.int r]) {K8 : RSt → Int32 → Int32 → Int32 → Prop} (hK8 : ∀ (s : RSt) (v1 : Int32) (v2 : Int32) (v3 : Int32), K8 s v1 v2 v3 → gJ X (rWd G A H0) Q 0 0 s [(0, .ref (G.2.2.1 0)), (1, .int v1), (2, .int v2), (3, .int v3)] 8 []) (s : RSt) (v1 : Int32) (v2 : Int32) (v3 : Int32) (w1 : Int32) (w2 : Int32) (hw : wpR_holds_222 post K8 s v1 v2 v3 w1 w2) : gJ X (rWd G A H0) Q 0 0 s [(0, .ref (G.2.2.1 0)), (1, .int v1), (2, .int v2), (3, .int v3)] 222 [.int w2, .int w1, .ref (G.2.2.1 41)] := by
  refine r_st41 C hw.1 dX8_holds_222 ?_
  replace hw := hw.2
  refine gJ.nm (fun s7 es7 => ?_)
  replace hw := hw s7 es7
  refine g_iinc (v := v2 + 1) (lv' := [(2, .int (v2 + 1)), (0, .ref (G.2.2.1 0)), (1, .int v1), (3, .int v3)]) C.1 2 dX8_holds_223 rfl rfl (by decide) rfl ?_
  refine gJ.sub [1, 2, 0, 3] rfl ?_
  exact wkR_holds_226 C hsz hR hret hK8 _ _ _ _ hw
theorem wkR_holds_62 {X : gT} {G : rG} {A : Nat → Prop} {H0 : Heap} {Q : State → Prop} (C : rC X cX8_holds 5 G A) (hsz : H0 = (g_s X).heap) (hR : g_R X = rRm 2 47) {post : Int32 → RSt → Prop} (hret : ∀ (r : Int32) (τ : RSt) (lv : List (Nat × Value)) (pc : Nat), post r τ → narrow .boolean (.int r) = .int r → decode cX8_holds pc = .ok (.ireturn, 1) → gJ X (rWd G A H0) Q 0 0 τ lv pc [.int r]) {K8 : RSt → Int32 → Int32 → Int32 → Prop} (hK8 : ∀ (s : RSt) (v1 : Int32) (v2 : Int32) (v3 : Int32), K8 s v1 v2 v3 → gJ X (rWd G A H0) Q 0 0 s [(0, .ref (G.2.2.1 0)), (1, .int v1), (2, .int v2), (3, .int v3)] 8 []) (s : RSt) (v1 : Int32) (v2 : Int32) (v3 : Int32) (w1 : Int32) (w2 : Int32) (hw : wpR_holds_62 post K8 s v1 v2 v3 w1 w2) : gJ X (rWd G A H0) Q 0 0 s [(0, .ref (G.2.2.1 0)), (1, .int v1), (2, .int v2), (3, .int v3)] 62 [.int w2, .int w1, .ref (G.2.2.1 41)] := by
  refine r_st41 C hw.1 dX8_holds_62 ?_
  replace hw := hw.2
  refine gJ.nm (fun s8 es8 => ?_)
  replace hw := hw s8 es8
  refine g_goto (tgt := 226) C.1 dX8_holds_63 (by decide) ?_
  exact wkR_holds_226 C hsz hR hret hK8 _ _ _ _ hw
theorem wkR_holds_8_F {X : gT} {G : rG} {A : Nat → Prop} {H0 : Heap} {Q : State → Prop} (C : rC X cX8_holds 5 G A) (hsz : H0 = (g_s X).heap) (hR : g_R X = rRm 2 47) {post : Int32 → RSt → Prop} (hret : ∀ (r : Int32) (τ : RSt) (lv : List (Nat × Value)) (pc : Nat), post r τ → narrow .boolean (.int r) = .int r → decode cX8_holds pc = .ok (.ireturn, 1) → gJ X (rWd G A H0) Q 0 0 τ lv pc [.int r]) {K8 : RSt → Int32 → Int32 → Int32 → Prop} (hK8 : ∀ (s : RSt) (v1 : Int32) (v2 : Int32) (v3 : Int32), K8 s v1 v2 v3 → gJ X (rWd G A H0) Q 0 0 s [(0, .ref (G.2.2.1 0)), (1, .int v1), (2, .int v2), (3, .int v3)] 8 []) (s : RSt) (v1 : Int32) (v2 : Int32) (v3 : Int32) (hw : wpR_holds_8_F post K8 s v1 v2 v3) : gJ X (rWd G A H0) Q 0 0 s [(0, .ref (G.2.2.1 0)), (1, .int v1), (2, .int v2), (3, .int v3)] 8 [] := by
  refine g_iload_n C.1 3 dX8_holds_8 rfl rfl ?_
  refine g_sipush (v := 400) C.1 dX8_holds_9 (by decide) ?_
  refine g_iload_n C.1 1 dX8_holds_12 rfl rfl ?_
  refine g_imul C.1 dX8_holds_13 ?_
  refine g_aload_n C.1 0 dX8_holds_14 rfl rfl ?_
  refine r_g17 C dX8_holds_15 ?_
  refine g_iload_n C.1 1 dX8_holds_18 rfl rfl ?_
  refine r_ld17 C hw.1 dX8_holds_19 ?_
  replace hw := hw.2
  refine g_iadd C.1 dX8_holds_20 ?_
  refine g_icmp_ge (tgt := 232) C.1 dX8_holds_21 (by decide) (fun h9 => ?_) (fun h9 => ?_)
  · replace hw := hw.1 h9
    refine g_aload_n C.1 0 dX8_holds_232 rfl rfl ?_
    refine r_g41 C dX8_holds_233 ?_
    refine g_iconst (v := 0) C.1 dX8_holds_236 (by decide) ?_
    refine r_ld41 C hw.1 dX8_holds_237 ?_
    replace hw := hw.2
    exact hret _ _ _ _ hw.2 hw.1 dX8_holds_238
  · replace hw := hw.2 h9
    refine g_aload_n C.1 0 dX8_holds_24 rfl rfl ?_
    refine r_g15 C dX8_holds_25 ?_
    refine g_iload_n C.1 3 dX8_holds_28 rfl rfl ?_
    refine r_ld15 C hw.1 dX8_holds_29 ?_
    replace hw := hw.2
    refine g_istore (lv' := [(4, .int (s.2.1 15 v3.toNatClampNeg)), (0, .ref (G.2.2.1 0)), (1, .int v1), (2, .int v2), (3, .int v3)]) C.1 dX8_holds_30 (by decide) rfl ?_
    refine g_iload C.1 0 dX8_holds_32 rfl ?_
    refine g_bipush (v := 14) C.1 dX8_holds_34 (by decide) ?_
    refine g_icmp_ne (tgt := 66) C.1 dX8_holds_36 (by decide) (fun h10 => ?_) (fun h10 => ?_)
    · replace hw := hw.1 h10
      refine g_iload C.1 0 dX8_holds_66 rfl ?_
      refine g_bipush (v := 15) C.1 dX8_holds_68 (by decide) ?_
      refine g_icmp_eq (tgt := 80) C.1 dX8_holds_70 (by decide) (fun h11 => ?_) (fun h11 => ?_)
      · replace hw := hw.1 h11
        refine gJ.sub [1, 2, 3, 4, 0] rfl ?_
        exact wkR_holds_80 C hsz hR hret hK8 _ _ _ _ _ hw
      · replace hw := hw.2 h11
        refine g_iload C.1 0 dX8_holds_73 rfl ?_
        refine g_bipush (v := 16) C.1 dX8_holds_75 (by decide) ?_
        refine g_icmp_ne (tgt := 154) C.1 dX8_holds_77 (by decide) (fun h12 => ?_) (fun h12 => ?_)
        · replace hw := hw.1 h12
          refine g_aload_n C.1 1 dX8_holds_154 rfl rfl ?_
          refine r_g41 C dX8_holds_155 ?_
          refine g_iload_n C.1 3 dX8_holds_158 rfl rfl ?_
          refine g_iload C.1 0 dX8_holds_159 rfl ?_
          refine g_bipush (v := 12) C.1 dX8_holds_161 (by decide) ?_
          refine g_icmp_ne (tgt := 180) C.1 dX8_holds_163 (by decide) (fun h13 => ?_) (fun h13 => ?_)
          · replace hw := hw.1 h13
            refine g_iload C.1 0 dX8_holds_180 rfl ?_
            refine g_bipush (v := 13) C.1 dX8_holds_182 (by decide) ?_
            refine g_icmp_ne (tgt := 200) C.1 dX8_holds_184 (by decide) (fun h14 => ?_) (fun h14 => ?_)
            · replace hw := hw.1 h14
              refine g_aload_n C.1 1 dX8_holds_200 rfl rfl ?_
              refine g_iload_n C.1 2 dX8_holds_201 rfl rfl ?_
              refine g_iload C.1 0 dX8_holds_202 rfl ?_
              refine g_iconst (v := 3) C.1 dX8_holds_204 (by decide) ?_
              refine g_idiv C.1 dX8_holds_205 (by decide) ?_
              refine r_calli C hsz (cR_measure (g_l X) G s _ _ _ hw) kR_203 kR_204 kR_205 kR_198 hdR_measure (by rw [hR]; exact ⟨Nat.le_of_ble_eq_true rfl, Nat.le_of_ble_eq_true rfl⟩) dX8_holds_206 rfl (Nat.le_of_ble_eq_true rfl) (fun r16 s15 hw => ?_)
              refine g_iload C.1 0 dX8_holds_209 rfl ?_
              refine g_iconst (v := 3) C.1 dX8_holds_211 (by decide) ?_
              refine g_irem C.1 dX8_holds_212 (by decide) ?_
              refine g_aload_n C.1 1 dX8_holds_213 rfl rfl ?_
              refine r_g16 C dX8_holds_214 ?_
              refine g_iload_n C.1 4 dX8_holds_217 rfl rfl ?_
              refine r_ld16 C hw.1 dX8_holds_218 ?_
              replace hw := hw.2
              refine g_callSi (rC.s C) (cR_compares (g_l X) _ _ _ _ hw) kR_206 kR_207 kR_199 hdR_compares (by rw [hR]; exact ⟨Nat.le_of_ble_eq_true rfl, Nat.le_of_ble_eq_true rfl⟩) dX8_holds_219 rfl (Nat.le_of_ble_eq_true rfl) (fun r17 hw => ?_)
              refine gJ.sub [1, 2, 3, 4] rfl ?_
              exact wkR_holds_222 C hsz hR hret hK8 _ _ _ _ _ _ hw
            · replace hw := hw.2 h14
              refine g_aload_n C.1 1 dX8_holds_187 rfl rfl ?_
              refine g_aload_n C.1 1 dX8_holds_188 rfl rfl ?_
              refine r_g16 C dX8_holds_189 ?_
              refine g_iload_n C.1 4 dX8_holds_192 rfl rfl ?_
              refine r_ld16 C hw.1 dX8_holds_193 ?_
              replace hw := hw.2
              refine r_calli C hsz (cR_isRunning (g_l X) G s _ _ hw) kR_200 kR_201 kR_202 kR_72 hdR_isRunning (by rw [hR]; exact ⟨Nat.le_of_ble_eq_true rfl, Nat.le_of_ble_eq_true rfl⟩) dX8_holds_194 rfl (Nat.le_of_ble_eq_true rfl) (fun r19 s18 hw => ?_)
              refine g_goto (tgt := 222) C.1 dX8_holds_197 (by decide) ?_
              refine gJ.sub [1, 2, 3, 4] rfl ?_
              exact wkR_holds_222 C hsz hR hret hK8 _ _ _ _ _ _ hw
          · replace hw := hw.2 h13
            refine g_aload_n C.1 1 dX8_holds_166 rfl rfl ?_
            refine r_g40 C dX8_holds_167 ?_
            refine g_aload_n C.1 1 dX8_holds_170 rfl rfl ?_
            refine r_g16 C dX8_holds_171 ?_
            refine g_iload_n C.1 4 dX8_holds_174 rfl rfl ?_
            refine r_ld16 C hw.1 dX8_holds_175 ?_
            replace hw := hw.2
            refine r_ld40 C hw.1 dX8_holds_176 ?_
            replace hw := hw.2
            refine g_goto (tgt := 222) C.1 dX8_holds_177 (by decide) ?_
            refine gJ.sub [1, 2, 3, 4] rfl ?_
            exact wkR_holds_222 C hsz hR hret hK8 _ _ _ _ _ _ hw
        · replace hw := hw.2 h12
          refine gJ.sub [1, 2, 3, 4, 0] rfl ?_
          exact wkR_holds_80 C hsz hR hret hK8 _ _ _ _ _ hw
    · replace hw := hw.2 h10
      refine g_aload_n C.1 1 dX8_holds_39 rfl rfl ?_
      refine r_g41 C dX8_holds_40 ?_
      refine g_iload_n C.1 3 dX8_holds_43 rfl rfl ?_
      refine g_iconst (v := 1) C.1 dX8_holds_44 (by decide) ?_
      refine g_isub C.1 dX8_holds_45 ?_
      refine g_aload_n C.1 1 dX8_holds_46 rfl rfl ?_
      refine r_g41 C dX8_holds_47 ?_
      refine g_iload_n C.1 3 dX8_holds_50 rfl rfl ?_
      refine g_iconst (v := 1) C.1 dX8_holds_51 (by decide) ?_
      refine g_isub C.1 dX8_holds_52 ?_
      refine r_ld41 C hw.1 dX8_holds_53 ?_
      replace hw := hw.2
      refine g_if_ne (tgt := 61) C.1 dX8_holds_54 (by decide) (fun h20 => ?_) (fun h20 => ?_)
      · replace hw := hw.1 h20
        refine g_iconst (v := 0) C.1 dX8_holds_61 (by decide) ?_
        refine gJ.sub [1, 2, 3, 4] rfl ?_
        exact wkR_holds_62 C hsz hR hret hK8 _ _ _ _ _ _ hw
      · replace hw := hw.2 h20
        refine g_iconst (v := 1) C.1 dX8_holds_57 (by decide) ?_
        refine g_goto (tgt := 62) C.1 dX8_holds_58 (by decide) ?_
        refine gJ.sub [1, 2, 3, 4] rfl ?_
        exact wkR_holds_62 C hsz hR hret hK8 _ _ _ _ _ _ hw
theorem wkR_holds_8 {X : gT} {G : rG} {A : Nat → Prop} {H0 : Heap} {Q : State → Prop} (C : rC X cX8_holds 5 G A) (hsz : H0 = (g_s X).heap) (hR : g_R X = rRm 2 47) {post : Int32 → RSt → Prop} (hret : ∀ (r : Int32) (τ : RSt) (lv : List (Nat × Value)) (pc : Nat), post r τ → narrow .boolean (.int r) = .int r → decode cX8_holds pc = .ok (.ireturn, 1) → gJ X (rWd G A H0) Q 0 0 τ lv pc [.int r]) (s : RSt) (v1 : Int32) (v2 : Int32) (v3 : Int32) (hw : wpR_holds_8 post s v1 v2 v3) : gJ X (rWd G A H0) Q 0 0 s [(0, .ref (G.2.2.1 0)), (1, .int v1), (2, .int v2), (3, .int v3)] 8 [] := 
  hw (fun (x : RSt × Int32 × Int32 × Int32) => (fun s v1 v2 v3 => gJ X (rWd G A H0) Q 0 0 s [(0, .ref (G.2.2.1 0)), (1, .int v1), (2, .int v2), (3, .int v3)] 8 []) x.1 x.2.1 x.2.2.1 x.2.2.2) (fun x hx => wkR_holds_8_F C hsz hR hret (K8 := (fun s v1 v2 v3 => gJ X (rWd G A H0) Q 0 0 s [(0, .ref (G.2.2.1 0)), (1, .int v1), (2, .int v2), (3, .int v3)] 8 [])) (fun _ _ _ _ h => h) x.1 x.2.1 x.2.2.1 x.2.2.2 hx)
theorem wkR_holds_0 {X : gT} {G : rG} {A : Nat → Prop} {H0 : Heap} {Q : State → Prop} (C : rC X cX8_holds 5 G A) (hsz : H0 = (g_s X).heap) (hR : g_R X = rRm 2 47) {post : Int32 → RSt → Prop} (hret : ∀ (r : Int32) (τ : RSt) (lv : List (Nat × Value)) (pc : Nat), post r τ → narrow .boolean (.int r) = .int r → decode cX8_holds pc = .ok (.ireturn, 1) → gJ X (rWd G A H0) Q 0 0 τ lv pc [.int r]) (s : RSt) (v1 : Int32) (hw : wpR_holds_0 post s v1) : gJ X (rWd G A H0) Q 0 0 s [(0, .ref (G.2.2.1 0)), (1, .int v1)] 0 [] := by
  refine g_iconst (v := 0) C.1 dX8_holds_0 (by decide) ?_
  refine g_istore_n (lv' := [(2, .int 0), (0, .ref (G.2.2.1 0)), (1, .int v1)]) C.1 dX8_holds_1 rfl (by decide) rfl ?_
  refine g_sipush (v := 400) C.1 dX8_holds_2 (by decide) ?_
  refine g_iload_n C.1 2 dX8_holds_5 rfl rfl ?_
  refine g_imul C.1 dX8_holds_6 ?_
  refine g_istore_n (lv' := [(3, .int (400 * v1)), (2, .int 0), (0, .ref (G.2.2.1 0)), (1, .int v1)]) C.1 dX8_holds_7 rfl (by decide) rfl ?_
  refine gJ.sub [2, 3, 1, 0] rfl ?_
  exact wkR_holds_8 C hsz hR hret _ _ _ _ hw
theorem hdR_holds : yX8_holds.cls = RX8 ∧ yX8_holds.cls ≠ "java/lang/invoke/MethodHandle" ∧ yX8_holds.cls ≠ "java/lang/invoke/VarHandle" ∧ (parseMethodDescriptor yX8_holds.desc).map (fun d => d.parameters.length) = some 1 := by decide +kernel
theorem cR_holds (l : Launch) (G : rG) (s : RSt) (v1 : Int32) (post : Int32 → RSt → Prop) (hw : wpR_holds_0 post s v1) : rMi l yX8_holds cX8_holds 5 .boolean 2 47 G s [.int v1] post := rMi_of (by decide +kernel) rfl (Nat.le_of_ble_eq_true rfl) (fun X A H0 Q hl hR hsz C hret => wkR_holds_0 C hsz hR hret s v1 hw)
