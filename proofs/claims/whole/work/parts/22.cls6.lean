def wpC_X7_feed_0 (post : Int32 → CSt → Prop) (s : CSt) (v0 : Nat) (v1 : Int32) (v2 : Int32) (v3 : Int32) (v4 : Int32) (v5 : Int32) : Prop := cAt s 7 v0 ∧ ((cI s 119 v0) ≤ 380 → cAt s 7 v0 ∧ wpC_X7_putNumber_0 (fun s2 => cAt s2 7 v0 ∧ wpC_X7_putNumber_0 (fun s3 => cAt s3 7 v0 ∧ wpC_X7_putNumber_0 (fun s4 => cAt s4 7 v0 ∧ wpC_X7_putNumber_0 (fun s5 => cAt s5 7 v0 ∧ wpC_X7_putNumber_0 (fun s6 => cAt s6 7 v0 ∧ post (cI s6 119 v0) s6) s5 v0 v5) s4 v0 v4) s3 v0 v3) s2 v0 v2) s v0 v1) ∧ (¬ (cI s 119 v0) ≤ 380 → post (-1) s)
theorem wkC_X7_feed_0 {X : gT} {G : cG} {A : Nat → Prop} {H0 : Heap} {Q : State → Prop} (C : cC X cX7_feed 6 RX7 G A) (hsz : H0 = (g_s X).heap) (hR : 1 ≤ (g_R X).frames ∧ 22 ≤ (g_R X).locals ∧ 0 ≤ (g_R X).cells ∧ 0 ≤ (g_R X).slots) {post : Int32 → CSt → Prop} (hret : ∀ (r : Int32) (τ : CSt) (lv : List (Nat × Value)) (pc : Nat), post r τ → narrow .int (.int r) = .int r → decode cX7_feed pc = .ok (.ireturn, 1) → gJ X (cWd G A H0) Q 0 0 τ lv pc [.int r]) (s : CSt) (v0 : Nat) (v1 : Int32) (v2 : Int32) (v3 : Int32) (v4 : Int32) (v5 : Int32) (hw : wpC_X7_feed_0 post s v0 v1 v2 v3 v4 v5) : gJ X (cWd G A H0) Q 0 0 s [(0, .ref v0), (1, .int v1), (2, .int v2), (3, .int v3), (4, .int v4), (5, .int v5)] 0 [] := by
  refine g_aload_n C.1 0 dX7_feed_0 rfl rfl ?_
  refine c_get7 C hw.1 7 (by decide) kC_407 (fun _ h => h) rfl dX7_feed_1 ?_
  replace hw := hw.2
  refine g_sipush (v := 380) C.1 dX7_feed_4 (by decide) ?_
  refine g_icmp_le (tgt := 12) C.1 dX7_feed_7 (by decide) (fun h1 => ?_) (fun h1 => ?_)
  · replace hw := hw.1 h1
    refine g_aload_n C.1 0 dX7_feed_12 rfl rfl ?_
    refine g_iload_n C.1 1 dX7_feed_13 rfl rfl ?_
    refine c_callVv (vs := [.int v1]) C hsz (cC_X7_putNumber (g_l X) G s _ _ _ hw.2) kC_412 kC_409 kC_410 kC_411 kC_408 hdC_X7_putNumber (c_recv7 C hw.1) ⟨(Nat.le_trans (Nat.le_of_ble_eq_true rfl) hR.1), (Nat.le_trans (Nat.le_of_ble_eq_true rfl) hR.2.1)⟩ ⟨(Nat.le_trans (Nat.le_of_ble_eq_true rfl) hR.2.2.1), (Nat.le_trans (Nat.le_of_ble_eq_true rfl) hR.2.2.2)⟩ dX7_feed_14 rfl (Nat.le_of_ble_eq_true rfl) (fun s2 hw => ?_)
    refine g_aload_n C.1 0 dX7_feed_17 rfl rfl ?_
    refine g_iload_n C.1 2 dX7_feed_18 rfl rfl ?_
    refine c_callVv (vs := [.int v2]) C hsz (cC_X7_putNumber (g_l X) G s2 _ _ _ hw.2) kC_412 kC_409 kC_410 kC_411 kC_408 hdC_X7_putNumber (c_recv7 C hw.1) ⟨(Nat.le_trans (Nat.le_of_ble_eq_true rfl) hR.1), (Nat.le_trans (Nat.le_of_ble_eq_true rfl) hR.2.1)⟩ ⟨(Nat.le_trans (Nat.le_of_ble_eq_true rfl) hR.2.2.1), (Nat.le_trans (Nat.le_of_ble_eq_true rfl) hR.2.2.2)⟩ dX7_feed_19 rfl (Nat.le_of_ble_eq_true rfl) (fun s3 hw => ?_)
    refine g_aload_n C.1 0 dX7_feed_22 rfl rfl ?_
    refine g_iload_n C.1 3 dX7_feed_23 rfl rfl ?_
    refine c_callVv (vs := [.int v3]) C hsz (cC_X7_putNumber (g_l X) G s3 _ _ _ hw.2) kC_412 kC_409 kC_410 kC_411 kC_408 hdC_X7_putNumber (c_recv7 C hw.1) ⟨(Nat.le_trans (Nat.le_of_ble_eq_true rfl) hR.1), (Nat.le_trans (Nat.le_of_ble_eq_true rfl) hR.2.1)⟩ ⟨(Nat.le_trans (Nat.le_of_ble_eq_true rfl) hR.2.2.1), (Nat.le_trans (Nat.le_of_ble_eq_true rfl) hR.2.2.2)⟩ dX7_feed_24 rfl (Nat.le_of_ble_eq_true rfl) (fun s4 hw => ?_)
    refine g_aload_n C.1 0 dX7_feed_27 rfl rfl ?_
    refine g_iload C.1 4 dX7_feed_28 rfl ?_
    refine c_callVv (vs := [.int v4]) C hsz (cC_X7_putNumber (g_l X) G s4 _ _ _ hw.2) kC_412 kC_409 kC_410 kC_411 kC_408 hdC_X7_putNumber (c_recv7 C hw.1) ⟨(Nat.le_trans (Nat.le_of_ble_eq_true rfl) hR.1), (Nat.le_trans (Nat.le_of_ble_eq_true rfl) hR.2.1)⟩ ⟨(Nat.le_trans (Nat.le_of_ble_eq_true rfl) hR.2.2.1), (Nat.le_trans (Nat.le_of_ble_eq_true rfl) hR.2.2.2)⟩ dX7_feed_30 rfl (Nat.le_of_ble_eq_true rfl) (fun s5 hw => ?_)
    refine g_aload_n C.1 0 dX7_feed_33 rfl rfl ?_
    refine g_iload C.1 5 dX7_feed_34 rfl ?_
    refine c_callVv (vs := [.int v5]) C hsz (cC_X7_putNumber (g_l X) G s5 _ _ _ hw.2) kC_412 kC_409 kC_410 kC_411 kC_408 hdC_X7_putNumber (c_recv7 C hw.1) ⟨(Nat.le_trans (Nat.le_of_ble_eq_true rfl) hR.1), (Nat.le_trans (Nat.le_of_ble_eq_true rfl) hR.2.1)⟩ ⟨(Nat.le_trans (Nat.le_of_ble_eq_true rfl) hR.2.2.1), (Nat.le_trans (Nat.le_of_ble_eq_true rfl) hR.2.2.2)⟩ dX7_feed_36 rfl (Nat.le_of_ble_eq_true rfl) (fun s6 hw => ?_)
    refine g_aload_n C.1 0 dX7_feed_39 rfl rfl ?_
    refine c_get7 C hw.1 7 (by decide) kC_407 (fun _ h => h) rfl dX7_feed_40 ?_
    replace hw := hw.2
    exact hret _ _ _ _ hw rfl dX7_feed_43
  · replace hw := hw.2 h1
    refine g_iconst (v := (-1)) C.1 dX7_feed_10 (by decide) ?_
    exact hret _ _ _ _ hw rfl dX7_feed_11
theorem hdC_X7_feed : yX7_feed.cls = RX7 ∧ yX7_feed.cls ≠ "java/lang/invoke/MethodHandle" ∧ yX7_feed.cls ≠ "java/lang/invoke/VarHandle" ∧ (parseMethodDescriptor yX7_feed.desc).map (fun d => d.parameters.length) = some 5 := by decide +kernel
theorem cC_X7_feed (l : Launch) (G : cG) (s : CSt) (v0 : Nat) (v1 : Int32) (v2 : Int32) (v3 : Int32) (v4 : Int32) (v5 : Int32) (post : Int32 → CSt → Prop) (hw : wpC_X7_feed_0 post s v0 v1 v2 v3 v4 v5) : cMi l yX7_feed cX7_feed 6 .int 1 22 0 0 G s [.ref v0, .int v1, .int v2, .int v3, .int v4, .int v5] post := cMi_of (by decide +kernel) rfl (Nat.le_of_ble_eq_true rfl) (fun X A H0 Q hl hR hsz hnm C hret => wkC_X7_feed_0 C hsz hR hret s v0 v1 v2 v3 v4 v5 hw)
def wpC_X7_end_0 (post : Int32 → CSt → Prop) (s : CSt) (v0 : Nat) (v1 : Int32) : Prop := (v1 < 0 → post 0 s) ∧ (¬ v1 < 0 → cAt s 7 v0 ∧ (v1 ≤ (cI s 119 v0) → cAt s 7 v0 ∧ ∀ s3 : CSt, s3 = csI s 119 v0 v1 → post 1 s3) ∧ (¬ v1 ≤ (cI s 119 v0) → post 0 s))
theorem wkC_X7_end_0 {X : gT} {G : cG} {A : Nat → Prop} {H0 : Heap} {Q : State → Prop} (C : cC X cX7_end 2 RX7 G A) (hsz : H0 = (g_s X).heap) (hR : 0 ≤ (g_R X).frames ∧ 0 ≤ (g_R X).locals ∧ 0 ≤ (g_R X).cells ∧ 0 ≤ (g_R X).slots) {post : Int32 → CSt → Prop} (hret : ∀ (r : Int32) (τ : CSt) (lv : List (Nat × Value)) (pc : Nat), post r τ → narrow .boolean (.int r) = .int r → decode cX7_end pc = .ok (.ireturn, 1) → gJ X (cWd G A H0) Q 0 0 τ lv pc [.int r]) (s : CSt) (v0 : Nat) (v1 : Int32) (hw : wpC_X7_end_0 post s v0 v1) : gJ X (cWd G A H0) Q 0 0 s [(0, .ref v0), (1, .int v1)] 0 [] := by
  refine g_iload_n C.1 1 dX7_end_0 rfl rfl ?_
  refine g_if_lt (tgt := 12) C.1 dX7_end_1 (by decide) (fun h1 => ?_) (fun h1 => ?_)
  · replace hw := hw.1 h1
    refine g_iconst (v := 0) C.1 dX7_end_12 (by decide) ?_
    exact hret _ _ _ _ hw rfl dX7_end_13
  · replace hw := hw.2 h1
    refine g_iload_n C.1 1 dX7_end_4 rfl rfl ?_
    refine g_aload_n C.1 0 dX7_end_5 rfl rfl ?_
    refine c_get7 C hw.1 7 (by decide) kC_407 (fun _ h => h) rfl dX7_end_6 ?_
    replace hw := hw.2
    refine g_icmp_le (tgt := 14) C.1 dX7_end_9 (by decide) (fun h2 => ?_) (fun h2 => ?_)
    · replace hw := hw.1 h2
      refine g_aload_n C.1 0 dX7_end_14 rfl rfl ?_
      refine g_iload_n C.1 1 dX7_end_15 rfl rfl ?_
      refine c_put7 C (τ := csI s 119 v0 v1) hw.1 7 (by decide) kC_407 (fun _ h => h) rfl (ty := .int) (by decide +kernel) rfl rfl rfl hw.1.2 rfl (cx_7_7 _ _ _) (fun _ hb => csI_o hb) dX7_end_16 ?_
      replace hw := hw.2
      refine gJ.nm (fun s3 es3 => ?_)
      replace hw := hw s3 es3
      refine g_iconst (v := 1) C.1 dX7_end_19 (by decide) ?_
      exact hret _ _ _ _ hw rfl dX7_end_20
    · replace hw := hw.2 h2
      refine g_iconst (v := 0) C.1 dX7_end_12 (by decide) ?_
      exact hret _ _ _ _ hw rfl dX7_end_13
theorem hdC_X7_end : yX7_end.cls = RX7 ∧ yX7_end.cls ≠ "java/lang/invoke/MethodHandle" ∧ yX7_end.cls ≠ "java/lang/invoke/VarHandle" ∧ (parseMethodDescriptor yX7_end.desc).map (fun d => d.parameters.length) = some 1 := by decide +kernel
theorem cC_X7_end (l : Launch) (G : cG) (s : CSt) (v0 : Nat) (v1 : Int32) (post : Int32 → CSt → Prop) (hw : wpC_X7_end_0 post s v0 v1) : cMi l yX7_end cX7_end 2 .boolean 0 0 0 0 G s [.ref v0, .int v1] post := cMi_of (by decide +kernel) rfl (Nat.le_of_ble_eq_true rfl) (fun X A H0 Q hl hR hsz hnm C hret => wkC_X7_end_0 C hsz hR hret s v0 v1 hw)
def wpC_X7_lift_0 (mc ms : Nat) (post : Int32 → CSt → Prop) (pX : String → CSt → Prop) (s : CSt) (v0 : Nat) (v1 : Int32) (v2 : Int32) (v3 : Int32) (v4 : Int32) (v5 : Int32) : Prop := 0 + 1 ≤ mc ∧ 0 + 6 ≤ ms ∧ wpC_X7_checkPlace_0 (fun s1 => 0 + 1 + 1 ≤ mc ∧ 0 + 6 + 6 ≤ ms ∧ wpC_X7_checkPlace_0 (fun s3 => 0 + 1 + 1 + 1 ≤ mc ∧ 0 + 6 + 6 + 6 ≤ ms ∧ wpC_X7_checkNumber_0 (fun s5 => 0 + 1 + 1 + 1 + 1 ≤ mc ∧ 0 + 6 + 6 + 6 + 6 ≤ ms ∧ wpC_X7_checkNumber_0 (fun s7 => 0 + 1 + 1 + 1 + 1 + 1 ≤ mc ∧ 0 + 6 + 6 + 6 + 6 + 6 ≤ ms ∧ wpC_X7_checkNumber_0 (fun s9 => cAt s9 7 v0 ∧ ∃ a11 : Nat, cR s9 112 v0 = some a11 ∧ cAt s9 0 a11 ∧ wpC_Jx4a65c_size_8abf5_0 (fun r13 s12 => 0 + 1 + 1 + 1 + 1 + 1 + 1 ≤ mc ∧ 0 + 6 + 6 + 6 + 6 + 6 + 6 ≤ ms ∧ wpC_X7_checkRoom_0 (fun s14 => cAt s14 7 v0 ∧ ∃ a16 : Nat, cR s14 112 v0 = some a16 ∧ cAt s14 0 a16 ∧ wpC_Jx4a65c_size_8abf5_0 (fun r18 s17 => cAt s17 7 v0 ∧ ∃ a19 : Nat, cR s17 112 v0 = some a19 ∧ 0 + 1 + 1 + 1 + 1 + 1 + 1 + 1 ≤ mc ∧ 0 + 6 + 6 + 6 + 6 + 6 + 6 + 9 ≤ ms ∧ ∀ q20 : Nat, q20 ∉ cL s17 → ∀ s21 : CSt, s21 = csO s17 q20 3 → 0 + 1 + 1 + 1 + 1 + 1 + 1 + 1 + 1 ≤ mc ∧ 0 + 6 + 6 + 6 + 6 + 6 + 6 + 9 + 3 ≤ ms ∧ wpC_X3_init_0 (fun s23 => ∃ m25 m26 : Nat, 0 + 1 + 1 + 1 + 1 + 1 + 1 + 1 + 1 + m25 ≤ mc ∧ 0 + 6 + 6 + 6 + 6 + 6 + 6 + 9 + 3 + m26 ≤ ms ∧ cAt s23 0 a19 ∧ wpC_Jx4a65c_add_9ea2d_0 m25 m26 (fun r29 s27 => 0 + 1 + 1 + 1 + 1 + 1 + 1 + 1 + 1 + m25 ≤ mc ∧ 0 + 6 + 6 + 6 + 6 + 6 + 6 + 9 + 3 + m26 ≤ ms ∧ post r18 s27) s23 a19 q20) s21 q20 r18 v1 v2 v3 v4 v5) s14 a16) pX s12 r13 8) s9 a11) pX s7 v5 0 200) pX s5 v4 1 30) pX s3 v3 1 20) pX s1 v2) pX s v1
theorem wkC_X7_lift_0 {mc ms : Nat} {X : gT} {G : cG} {A : Nat → Prop} {H0 : Heap} {Q : State → Prop} (C : cC X cX7_lift 7 RX7 G A) (hsz : H0 = (g_s X).heap) (hR : 7 ≤ (g_R X).frames ∧ 191 ≤ (g_R X).locals ∧ mc ≤ (g_R X).cells ∧ ms ≤ (g_R X).slots) {pX : String → CSt → Prop} (hfl : (g_l X).stackTraces = false) (hout : ∀ (E : String) (τ : CSt) (lv : List (Nat × Value)) (pc k n : Nat) (rest : List Value), pX E τ → k ≤ mc → n ≤ ms → gX X (cWd G A H0) Q k n τ lv pc rest E) (hthr : ∀ (j : Nat) (τ : CSt) (lv : List (Nat × Value)) (pc k n ik : Nat) (rest : List Value), j < 5 → pX (cNm j) τ → k + 1 ≤ mc → n + 6 ≤ ms → (rest.map fun v => v.category).sum ≤ 8 → Cond.classLink RX7 ik (cNm j) ∈ wC → Cond.initialized (cNm j) ∈ wC → decode cX7_lift pc = .ok (.new ik, 3) → decode cX7_lift (pc + 3) = .ok (.dup, 1) → decode cX7_lift (pc + 4) = .ok (.invokespecial (cNi j), 3) → decode cX7_lift (pc + 7) = .ok (.athrow, 1) → gJ X (cWd G A H0) Q k n τ lv pc rest) {post : Int32 → CSt → Prop} (hret : ∀ (r : Int32) (τ : CSt) (lv : List (Nat × Value)) (pc : Nat), post r τ → narrow .int (.int r) = .int r → decode cX7_lift pc = .ok (.ireturn, 1) → gJ X (cWd G A H0) Q mc ms τ lv pc [.int r]) (s : CSt) (v0 : Nat) (v1 : Int32) (v2 : Int32) (v3 : Int32) (v4 : Int32) (v5 : Int32) (hw : wpC_X7_lift_0 mc ms post pX s v0 v1 v2 v3 v4 v5) : gJ X (cWd G A H0) Q 0 0 s [(0, .ref v0), (1, .int v1), (2, .int v2), (3, .int v3), (4, .int v4), (5, .int v5)] 0 [] := by
  refine g_iload_n C.1 1 dX7_lift_0 rfl rfl ?_
  have hk2 : 0 + 1 ≤ mc ∧ 0 + 6 ≤ ms := ⟨hw.1, hw.2.1⟩
  replace hw := hw.2.2
  refine c_throwSv (vs := [.int v1]) C hsz (cC_X7_checkPlace (g_l X) hfl G s _ _ _ hw) kC_412 kC_427 kC_428 kC_417 hdC_X7_checkPlace ⟨(Nat.le_trans (Nat.le_of_ble_eq_true rfl) hR.1), (Nat.le_trans (Nat.le_of_ble_eq_true rfl) hR.2.1)⟩ ⟨Nat.le_trans hk2.1 hR.2.2.1, Nat.le_trans hk2.2 hR.2.2.2⟩ dX7_lift_1 rfl (Nat.le_of_ble_eq_true rfl) (fun E τ h => hout E τ _ _ _ _ _ h hk2.1 hk2.2) (fun s1 hw => ?_)
  refine g_iload_n C.1 2 dX7_lift_4 rfl rfl ?_
  have hk4 : 0 + 1 + 1 ≤ mc ∧ 0 + 6 + 6 ≤ ms := ⟨hw.1, hw.2.1⟩
  replace hw := hw.2.2
  refine c_throwSv (vs := [.int v2]) C hsz (cC_X7_checkPlace (g_l X) hfl G s1 _ _ _ hw) kC_412 kC_427 kC_428 kC_417 hdC_X7_checkPlace ⟨(Nat.le_trans (Nat.le_of_ble_eq_true rfl) hR.1), (Nat.le_trans (Nat.le_of_ble_eq_true rfl) hR.2.1)⟩ ⟨Nat.le_trans hk4.1 hR.2.2.1, Nat.le_trans hk4.2 hR.2.2.2⟩ dX7_lift_5 rfl (Nat.le_of_ble_eq_true rfl) (fun E τ h => hout E τ _ _ _ _ _ h hk4.1 hk4.2) (fun s3 hw => ?_)
  refine g_iload_n C.1 3 dX7_lift_8 rfl rfl ?_
  refine g_iconst (v := 1) C.1 dX7_lift_9 (by decide) ?_
  refine g_bipush (v := 20) C.1 dX7_lift_10 (by decide) ?_
  have hk6 : 0 + 1 + 1 + 1 ≤ mc ∧ 0 + 6 + 6 + 6 ≤ ms := ⟨hw.1, hw.2.1⟩
  replace hw := hw.2.2
  refine c_throwSv (vs := [.int v3, .int 1, .int 20]) C hsz (cC_X7_checkNumber (g_l X) hfl G s3 _ _ _ _ _ hw) kC_412 kC_429 kC_430 kC_420 hdC_X7_checkNumber ⟨(Nat.le_trans (Nat.le_of_ble_eq_true rfl) hR.1), (Nat.le_trans (Nat.le_of_ble_eq_true rfl) hR.2.1)⟩ ⟨Nat.le_trans hk6.1 hR.2.2.1, Nat.le_trans hk6.2 hR.2.2.2⟩ dX7_lift_12 rfl (Nat.le_of_ble_eq_true rfl) (fun E τ h => hout E τ _ _ _ _ _ h hk6.1 hk6.2) (fun s5 hw => ?_)
  refine g_iload C.1 4 dX7_lift_15 rfl ?_
  refine g_iconst (v := 1) C.1 dX7_lift_17 (by decide) ?_
  refine g_bipush (v := 30) C.1 dX7_lift_18 (by decide) ?_
  have hk8 : 0 + 1 + 1 + 1 + 1 ≤ mc ∧ 0 + 6 + 6 + 6 + 6 ≤ ms := ⟨hw.1, hw.2.1⟩
  replace hw := hw.2.2
  refine c_throwSv (vs := [.int v4, .int 1, .int 30]) C hsz (cC_X7_checkNumber (g_l X) hfl G s5 _ _ _ _ _ hw) kC_412 kC_429 kC_430 kC_420 hdC_X7_checkNumber ⟨(Nat.le_trans (Nat.le_of_ble_eq_true rfl) hR.1), (Nat.le_trans (Nat.le_of_ble_eq_true rfl) hR.2.1)⟩ ⟨Nat.le_trans hk8.1 hR.2.2.1, Nat.le_trans hk8.2 hR.2.2.2⟩ dX7_lift_20 rfl (Nat.le_of_ble_eq_true rfl) (fun E τ h => hout E τ _ _ _ _ _ h hk8.1 hk8.2) (fun s7 hw => ?_)
  refine g_iload C.1 5 dX7_lift_23 rfl ?_
  refine g_iconst (v := 0) C.1 dX7_lift_25 (by decide) ?_
  refine g_sipush (v := 200) C.1 dX7_lift_26 (by decide) ?_
  have hk10 : 0 + 1 + 1 + 1 + 1 + 1 ≤ mc ∧ 0 + 6 + 6 + 6 + 6 + 6 ≤ ms := ⟨hw.1, hw.2.1⟩
  replace hw := hw.2.2
  refine c_throwSv (vs := [.int v5, .int 0, .int 200]) C hsz (cC_X7_checkNumber (g_l X) hfl G s7 _ _ _ _ _ hw) kC_412 kC_429 kC_430 kC_420 hdC_X7_checkNumber ⟨(Nat.le_trans (Nat.le_of_ble_eq_true rfl) hR.1), (Nat.le_trans (Nat.le_of_ble_eq_true rfl) hR.2.1)⟩ ⟨Nat.le_trans hk10.1 hR.2.2.1, Nat.le_trans hk10.2 hR.2.2.2⟩ dX7_lift_29 rfl (Nat.le_of_ble_eq_true rfl) (fun E τ h => hout E τ _ _ _ _ _ h hk10.1 hk10.2) (fun s9 hw => ?_)
  refine g_aload_n C.1 0 dX7_lift_32 rfl rfl ?_
  refine c_get7 C hw.1 0 (by decide) kC_394 (fun _ h => h) rfl dX7_lift_33 ?_
  replace hw := hw.2
  obtain ⟨a11, ha11, hw⟩ := hw
  rw [ha11]
  refine c_callVi (vs := []) C hsz (cC_Jx4a65c_size_8abf5 (g_l X) G s9 _ _ hw.2) kC_13 kC_431 kC_11 kC_12 kC_14 hdC_Jx4a65c_size_8abf5 (c_recv0 C hw.1) ⟨(Nat.le_trans (Nat.le_of_ble_eq_true rfl) hR.1), (Nat.le_trans (Nat.le_of_ble_eq_true rfl) hR.2.1)⟩ ⟨Nat.le_trans hk10.1 hR.2.2.1, Nat.le_trans hk10.2 hR.2.2.2⟩ dX7_lift_36 rfl (Nat.le_of_ble_eq_true rfl) (fun r13 s12 hw => ?_)
  refine g_bipush (v := 8) C.1 dX7_lift_39 (by decide) ?_
  have hk15 : 0 + 1 + 1 + 1 + 1 + 1 + 1 ≤ mc ∧ 0 + 6 + 6 + 6 + 6 + 6 + 6 ≤ ms := ⟨hw.1, hw.2.1⟩
  replace hw := hw.2.2
  refine c_throwSv (vs := [.int r13, .int 8]) C hsz (cC_X7_checkRoom (g_l X) hfl G s12 _ _ _ _ hw) kC_412 kC_432 kC_433 kC_423 hdC_X7_checkRoom ⟨(Nat.le_trans (Nat.le_of_ble_eq_true rfl) hR.1), (Nat.le_trans (Nat.le_of_ble_eq_true rfl) hR.2.1)⟩ ⟨Nat.le_trans hk15.1 hR.2.2.1, Nat.le_trans hk15.2 hR.2.2.2⟩ dX7_lift_41 rfl (Nat.le_of_ble_eq_true rfl) (fun E τ h => hout E τ _ _ _ _ _ h hk15.1 hk15.2) (fun s14 hw => ?_)
  refine g_aload_n C.1 0 dX7_lift_44 rfl rfl ?_
  refine c_get7 C hw.1 0 (by decide) kC_394 (fun _ h => h) rfl dX7_lift_45 ?_
  replace hw := hw.2
  obtain ⟨a16, ha16, hw⟩ := hw
  rw [ha16]
  refine c_callVi (vs := []) C hsz (cC_Jx4a65c_size_8abf5 (g_l X) G s14 _ _ hw.2) kC_13 kC_431 kC_11 kC_12 kC_14 hdC_Jx4a65c_size_8abf5 (c_recv0 C hw.1) ⟨(Nat.le_trans (Nat.le_of_ble_eq_true rfl) hR.1), (Nat.le_trans (Nat.le_of_ble_eq_true rfl) hR.2.1)⟩ ⟨Nat.le_trans hk15.1 hR.2.2.1, Nat.le_trans hk15.2 hR.2.2.2⟩ dX7_lift_48 rfl (Nat.le_of_ble_eq_true rfl) (fun r18 s17 hw => ?_)
  refine g_istore (lv' := [(6, .int r18), (0, .ref v0), (1, .int v1), (2, .int v2), (3, .int v3), (4, .int v4), (5, .int v5)]) C.1 dX7_lift_51 (by decide) rfl ?_
  refine g_aload_n C.1 1 dX7_lift_53 rfl rfl ?_
  refine c_get7 C hw.1 0 (by decide) kC_394 (fun _ h => h) rfl dX7_lift_54 ?_
  replace hw := hw.2
  obtain ⟨a19, ha19, hw⟩ := hw
  rw [ha19]
  have hk22 : 0 + 1 + 1 + 1 + 1 + 1 + 1 + 1 ≤ mc ∧ 0 + 6 + 6 + 6 + 6 + 6 + 6 + 9 ≤ ms := ⟨hw.1, hw.2.1⟩
  replace hw := hw.2.2
  refine c_new3 C hsz kC_424 kC_425 kC_426 (Nat.le_trans hk22.1 hR.2.2.1) (Nat.le_trans hk22.2 hR.2.2.2) dX7_lift_57 (fun q20 hq20 => ?_)
  replace hw := hw q20 hq20
  refine gJ.nm (fun s21 es21 => ?_)
  replace hw := hw s21 es21
  refine g_dup C.1 dX7_lift_60 rfl ?_
  refine g_iload C.1 0 dX7_lift_61 rfl ?_
  refine g_iload_n C.1 2 dX7_lift_63 rfl rfl ?_
  refine g_iload_n C.1 3 dX7_lift_64 rfl rfl ?_
  refine g_iload_n C.1 4 dX7_lift_65 rfl rfl ?_
  refine g_iload C.1 5 dX7_lift_66 rfl ?_
  refine g_iload C.1 6 dX7_lift_68 rfl ?_
  have hk24 : 0 + 1 + 1 + 1 + 1 + 1 + 1 + 1 + 1 ≤ mc ∧ 0 + 6 + 6 + 6 + 6 + 6 + 6 + 9 + 3 ≤ ms := ⟨hw.1, hw.2.1⟩
  replace hw := hw.2.2
  refine c_callIv (vs := [.int r18, .int v1, .int v2, .int v3, .int v4, .int v5]) C hsz (cC_X3_init (g_l X) G s21 _ _ _ _ _ _ _ _ hw) kC_426 kC_434 kC_435 kC_155 rfl hdC_X3_init ⟨(Nat.le_trans (Nat.le_of_ble_eq_true rfl) hR.1), (Nat.le_trans (Nat.le_of_ble_eq_true rfl) hR.2.1)⟩ ⟨Nat.le_trans hk24.1 hR.2.2.1, Nat.le_trans hk24.2 hR.2.2.2⟩ dX7_lift_70 rfl (Nat.le_of_ble_eq_true rfl) (fun s23 hw => ?_)
  obtain ⟨m25, m26, gm25, gm26, hw⟩ := hw
  have hk28 : 0 + 1 + 1 + 1 + 1 + 1 + 1 + 1 + 1 + m25 ≤ mc ∧ 0 + 6 + 6 + 6 + 6 + 6 + 6 + 9 + 3 + m26 ≤ ms := ⟨gm25, gm26⟩
  refine c_callVi (vs := [.ref q20]) C hsz (cC_Jx4a65c_add_9ea2d m25 m26 (g_l X) G s23 _ _ _ hw.2) kC_13 kC_436 kC_159 kC_160 kC_161 hdC_Jx4a65c_add_9ea2d (c_recv0 C hw.1) ⟨(Nat.le_trans (Nat.le_of_ble_eq_true rfl) hR.1), (Nat.le_trans (Nat.le_of_ble_eq_true rfl) hR.2.1)⟩ ⟨Nat.le_trans hk28.1 hR.2.2.1, Nat.le_trans hk28.2 hR.2.2.2⟩ dX7_lift_73 rfl (Nat.le_of_ble_eq_true rfl) (fun r29 s27 hw => ?_)
  refine g_pop C.1 dX7_lift_76 rfl ?_
  refine g_iload C.1 0 dX7_lift_77 rfl ?_
  refine gJ.widen hw.1 hw.2.1 ?_
  replace hw := hw.2.2
  exact hret _ _ _ _ hw rfl dX7_lift_79
theorem hdC_X7_lift : yX7_lift.cls = RX7 ∧ yX7_lift.cls ≠ "java/lang/invoke/MethodHandle" ∧ yX7_lift.cls ≠ "java/lang/invoke/VarHandle" ∧ (parseMethodDescriptor yX7_lift.desc).map (fun d => d.parameters.length) = some 5 := by decide +kernel
theorem cC_X7_lift (mc ms : Nat) (l : Launch) (hfl : l.stackTraces = false) (G : cG) (s : CSt) (v0 : Nat) (v1 : Int32) (v2 : Int32) (v3 : Int32) (v4 : Int32) (v5 : Int32) (post : Int32 → CSt → Prop) (pX : String → CSt → Prop) (hm : 1 ≤ mc ∧ 6 ≤ ms) (hw : wpC_X7_lift_0 mc ms post pX s v0 v1 v2 v3 v4 v5) : cTi l yX7_lift cX7_lift 7 .int 7 191 mc ms G s [.ref v0, .int v1, .int v2, .int v3, .int v4, .int v5] post pX := cTi_of hfl (by decide +kernel) rfl rfl (Nat.le_of_ble_eq_true rfl) ⟨hm.1, hm.2, by decide, by decide⟩ (fun X A H0 Q hl hR hsz C hret hout hthr => wkC_X7_lift_0 C hsz hR (by rw [hl]; exact hfl) hout hthr hret s v0 v1 v2 v3 v4 v5 hw)
def wpC_X7_addCell_0 (mc ms : Nat) (post : CSt → Prop) (s : CSt) (v0 : Nat) (v1 : Nat) : Prop := 0 + 1 ≤ mc ∧ 0 + 8 ≤ ms ∧ ∀ q1 : Nat, q1 ∉ cL s → ∀ s2 : CSt, s2 = csO s q1 1 → cAt s2 6 v1 ∧ 0 + 1 + 1 ≤ mc ∧ 0 + 8 + 4 ≤ ms ∧ wpC_X1_init_0 (fun s4 => cAt s4 7 v0 ∧ ∃ a6 : Nat, cR s4 114 v0 = some a6 ∧ ∃ m7 m8 : Nat, 0 + 1 + 1 + m7 ≤ mc ∧ 0 + 8 + 4 + m8 ≤ ms ∧ cAt s4 0 a6 ∧ wpC_Jx4a65c_add_9ea2d_0 m7 m8 (fun r11 s9 => cAt s9 6 v1 ∧ ∃ a12 : Nat, cR s9 101 v1 = some a12 ∧ ∃ m13 m14 : Nat, 0 + 1 + 1 + m7 + m13 ≤ mc ∧ 0 + 8 + 4 + m8 + m14 ≤ ms ∧ cAt s9 0 a12 ∧ wpC_Jx4a65c_add_9ea2d_0 m13 m14 (fun r17 s15 => 0 + 1 + 1 + m7 + m13 ≤ mc ∧ 0 + 8 + 4 + m8 + m14 ≤ ms ∧ post s15) s9 a12 q1) s4 a6 q1) s2 q1 (cI s2 96 v1)
theorem wkC_X7_addCell_0 {mc ms : Nat} {X : gT} {G : cG} {A : Nat → Prop} {H0 : Heap} {Q : State → Prop} (C : cC X cX7_addCell 3 RX7 G A) (hsz : H0 = (g_s X).heap) (hR : 7 ≤ (g_R X).frames ∧ 191 ≤ (g_R X).locals ∧ mc ≤ (g_R X).cells ∧ ms ≤ (g_R X).slots) {post : CSt → Prop} (hret : ∀ (τ : CSt) (lv : List (Nat × Value)) (pc : Nat), post τ → decode cX7_addCell pc = .ok (.return_, 1) → gJ X (cWd G A H0) Q mc ms τ lv pc []) (s : CSt) (v0 : Nat) (v1 : Nat) (hw : wpC_X7_addCell_0 mc ms post s v0 v1) : gJ X (cWd G A H0) Q 0 0 s [(0, .ref v0), (1, .ref v1)] 0 [] := by
  have hk3 : 0 + 1 ≤ mc ∧ 0 + 8 ≤ ms := ⟨hw.1, hw.2.1⟩
  replace hw := hw.2.2
  refine c_new1 C hsz kC_438 kC_439 kC_36 (Nat.le_trans hk3.1 hR.2.2.1) (Nat.le_trans hk3.2 hR.2.2.2) dX7_addCell_0 (fun q1 hq1 => ?_)
  replace hw := hw q1 hq1
  refine gJ.nm (fun s2 es2 => ?_)
  replace hw := hw s2 es2
  refine g_dup C.1 dX7_addCell_3 rfl ?_
  refine g_aload_n C.1 1 dX7_addCell_4 rfl rfl ?_
  refine c_get6 C hw.1 0 (by decide) kC_440 (fun _ h => h) rfl dX7_addCell_5 ?_
  replace hw := hw.2
  have hk5 : 0 + 1 + 1 ≤ mc ∧ 0 + 8 + 4 ≤ ms := ⟨hw.1, hw.2.1⟩
  replace hw := hw.2.2
  refine c_callIv (vs := [.int (cI s2 96 v1)]) C hsz (cC_X1_init (g_l X) G s2 _ _ _ hw) kC_36 kC_442 kC_443 kC_97 rfl hdC_X1_init ⟨(Nat.le_trans (Nat.le_of_ble_eq_true rfl) hR.1), (Nat.le_trans (Nat.le_of_ble_eq_true rfl) hR.2.1)⟩ ⟨Nat.le_trans hk5.1 hR.2.2.1, Nat.le_trans hk5.2 hR.2.2.2⟩ dX7_addCell_8 rfl (Nat.le_of_ble_eq_true rfl) (fun s4 hw => ?_)
  refine g_astore_n (lv' := [(2, .ref q1), (0, .ref v0), (1, .ref v1)]) C.1 dX7_addCell_11 rfl (by decide) rfl ?_
  refine g_aload_n C.1 1 dX7_addCell_12 rfl rfl ?_
  refine c_get7 C hw.1 2 (by decide) kC_396 (fun _ h => h) rfl dX7_addCell_13 ?_
  replace hw := hw.2
  obtain ⟨a6, ha6, hw⟩ := hw
  rw [ha6]
  refine g_aload_n C.1 0 dX7_addCell_16 rfl rfl ?_
  obtain ⟨m7, m8, gm7, gm8, hw⟩ := hw
  have hk10 : 0 + 1 + 1 + m7 ≤ mc ∧ 0 + 8 + 4 + m8 ≤ ms := ⟨gm7, gm8⟩
  refine c_callVi (vs := [.ref q1]) C hsz (cC_Jx4a65c_add_9ea2d m7 m8 (g_l X) G s4 _ _ _ hw.2) kC_13 kC_436 kC_159 kC_160 kC_161 hdC_Jx4a65c_add_9ea2d (c_recv0 C hw.1) ⟨(Nat.le_trans (Nat.le_of_ble_eq_true rfl) hR.1), (Nat.le_trans (Nat.le_of_ble_eq_true rfl) hR.2.1)⟩ ⟨Nat.le_trans hk10.1 hR.2.2.1, Nat.le_trans hk10.2 hR.2.2.2⟩ dX7_addCell_17 rfl (Nat.le_of_ble_eq_true rfl) (fun r11 s9 hw => ?_)
  refine g_pop C.1 dX7_addCell_20 rfl ?_
  refine g_aload_n C.1 2 dX7_addCell_21 rfl rfl ?_
  refine c_get6 C hw.1 5 (by decide) kC_441 (fun _ h => h) rfl dX7_addCell_22 ?_
  replace hw := hw.2
  obtain ⟨a12, ha12, hw⟩ := hw
  rw [ha12]
  refine g_aload_n C.1 0 dX7_addCell_25 rfl rfl ?_
  obtain ⟨m13, m14, gm13, gm14, hw⟩ := hw
  have hk16 : 0 + 1 + 1 + m7 + m13 ≤ mc ∧ 0 + 8 + 4 + m8 + m14 ≤ ms := ⟨gm13, gm14⟩
  refine c_callVi (vs := [.ref q1]) C hsz (cC_Jx4a65c_add_9ea2d m13 m14 (g_l X) G s9 _ _ _ hw.2) kC_13 kC_436 kC_159 kC_160 kC_161 hdC_Jx4a65c_add_9ea2d (c_recv0 C hw.1) ⟨(Nat.le_trans (Nat.le_of_ble_eq_true rfl) hR.1), (Nat.le_trans (Nat.le_of_ble_eq_true rfl) hR.2.1)⟩ ⟨Nat.le_trans hk16.1 hR.2.2.1, Nat.le_trans hk16.2 hR.2.2.2⟩ dX7_addCell_26 rfl (Nat.le_of_ble_eq_true rfl) (fun r17 s15 hw => ?_)
  refine g_pop C.1 dX7_addCell_29 rfl ?_
  refine gJ.widen hw.1 hw.2.1 ?_
  replace hw := hw.2.2
  exact hret _ _ _ hw dX7_addCell_30
theorem hdC_X7_addCell : yX7_addCell.cls = RX7 ∧ yX7_addCell.cls ≠ "java/lang/invoke/MethodHandle" ∧ yX7_addCell.cls ≠ "java/lang/invoke/VarHandle" ∧ (parseMethodDescriptor yX7_addCell.desc).map (fun d => d.parameters.length) = some 1 := by decide +kernel
theorem cC_X7_addCell (mc ms : Nat) (l : Launch) (G : cG) (s : CSt) (v0 : Nat) (v1 : Nat) (post : CSt → Prop) (hw : wpC_X7_addCell_0 mc ms post s v0 v1) : cMv l yX7_addCell cX7_addCell 3 7 191 mc ms G s [.ref v0, .ref v1] post := cMv_of (by decide +kernel) rfl (Nat.le_of_ble_eq_true rfl) (fun X A H0 Q hl hR hsz hnm C hret => wkC_X7_addCell_0 C hsz hR hret s v0 v1 hw)
def wpC_X7_runs_0 (post : Int32 → CSt → Prop) (pX : String → CSt → Prop) (s : CSt) (v0 : Nat) (v1 : Int32) : Prop := cAt s 7 v0 ∧ wpC_X7_liftAt_0 (fun r2 s1 => ∃ a3 : Nat, r2 = some a3 ∧ cAt s1 7 v0 ∧ wpC_X7_isRunning_0 (fun r5 s4 => narrow .boolean (.int r5) = .int r5 ∧ post r5 s4) s1 v0 a3) pX s v0 v1
theorem wkC_X7_runs_0 {X : gT} {G : cG} {A : Nat → Prop} {H0 : Heap} {Q : State → Prop} (C : cC X cX7_runs 2 RX7 G A) (hsz : H0 = (g_s X).heap) (hR : 7 ≤ (g_R X).frames ∧ 110 ≤ (g_R X).locals ∧ 1 ≤ (g_R X).cells ∧ 6 ≤ (g_R X).slots) {pX : String → CSt → Prop} (hfl : (g_l X).stackTraces = false) (hout : ∀ (E : String) (τ : CSt) (lv : List (Nat × Value)) (pc k n : Nat) (rest : List Value), pX E τ → k ≤ 1 → n ≤ 6 → gX X (cWd G A H0) Q k n τ lv pc rest E) (hthr : ∀ (j : Nat) (τ : CSt) (lv : List (Nat × Value)) (pc k n ik : Nat) (rest : List Value), j < 5 → pX (cNm j) τ → k + 1 ≤ 1 → n + 6 ≤ 6 → (rest.map fun v => v.category).sum ≤ 8 → Cond.classLink RX7 ik (cNm j) ∈ wC → Cond.initialized (cNm j) ∈ wC → decode cX7_runs pc = .ok (.new ik, 3) → decode cX7_runs (pc + 3) = .ok (.dup, 1) → decode cX7_runs (pc + 4) = .ok (.invokespecial (cNi j), 3) → decode cX7_runs (pc + 7) = .ok (.athrow, 1) → gJ X (cWd G A H0) Q k n τ lv pc rest) {post : Int32 → CSt → Prop} (hret : ∀ (r : Int32) (τ : CSt) (lv : List (Nat × Value)) (pc : Nat), post r τ → narrow .boolean (.int r) = .int r → decode cX7_runs pc = .ok (.ireturn, 1) → gJ X (cWd G A H0) Q 1 6 τ lv pc [.int r]) (s : CSt) (v0 : Nat) (v1 : Int32) (hw : wpC_X7_runs_0 post pX s v0 v1) : gJ X (cWd G A H0) Q 0 0 s [(0, .ref v0), (1, .int v1)] 0 [] := by
  refine g_aload_n C.1 0 dX7_runs_0 rfl rfl ?_
  refine g_aload_n C.1 0 dX7_runs_1 rfl rfl ?_
  refine g_iload_n C.1 1 dX7_runs_2 rfl rfl ?_
  refine c_throwVq (vs := [.int v1]) C hsz (cC_X7_liftAt (g_l X) hfl G s _ _ _ _ hw.2) kC_412 kC_461 kC_462 kC_463 kC_456 hdC_X7_liftAt (c_recv7 C hw.1) ⟨(Nat.le_trans (Nat.le_of_ble_eq_true rfl) hR.1), (Nat.le_trans (Nat.le_of_ble_eq_true rfl) hR.2.1)⟩ ⟨(Nat.le_trans (Nat.le_of_ble_eq_true rfl) hR.2.2.1), (Nat.le_trans (Nat.le_of_ble_eq_true rfl) hR.2.2.2)⟩ dX7_runs_3 rfl (Nat.le_of_ble_eq_true rfl) (fun E τ h => hout E τ _ _ _ _ _ h (Nat.le_of_ble_eq_true rfl) (Nat.le_of_ble_eq_true rfl)) (fun r2 s1 hw => ?_)
  obtain ⟨a3, ha3, hw⟩ := hw
  rw [ha3]
  refine c_callVi (vs := [.ref a3]) C hsz (cC_X7_isRunning (g_l X) G s1 _ _ _ hw.2) kC_412 kC_464 kC_465 kC_466 kC_460 hdC_X7_isRunning (c_recv7 C hw.1) ⟨(Nat.le_trans (Nat.le_of_ble_eq_true rfl) hR.1), (Nat.le_trans (Nat.le_of_ble_eq_true rfl) hR.2.1)⟩ ⟨(Nat.le_trans (Nat.le_of_ble_eq_true rfl) hR.2.2.1), (Nat.le_trans (Nat.le_of_ble_eq_true rfl) hR.2.2.2)⟩ dX7_runs_6 rfl (Nat.le_of_ble_eq_true rfl) (fun r5 s4 hw => ?_)
  exact hret _ _ _ _ hw.2 hw.1 dX7_runs_9
theorem hdC_X7_runs : yX7_runs.cls = RX7 ∧ yX7_runs.cls ≠ "java/lang/invoke/MethodHandle" ∧ yX7_runs.cls ≠ "java/lang/invoke/VarHandle" ∧ (parseMethodDescriptor yX7_runs.desc).map (fun d => d.parameters.length) = some 1 := by decide +kernel
theorem cC_X7_runs (l : Launch) (hfl : l.stackTraces = false) (G : cG) (s : CSt) (v0 : Nat) (v1 : Int32) (post : Int32 → CSt → Prop) (pX : String → CSt → Prop) (hw : wpC_X7_runs_0 post pX s v0 v1) : cTi l yX7_runs cX7_runs 2 .boolean 7 110 1 6 G s [.ref v0, .int v1] post pX := cTi_of hfl (by decide +kernel) rfl rfl (Nat.le_of_ble_eq_true rfl) ⟨by decide, by decide, by decide, by decide⟩ (fun X A H0 Q hl hR hsz C hret hout hthr => wkC_X7_runs_0 C hsz hR (by rw [hl]; exact hfl) hout hthr hret s v0 v1 hw)
def wpC_X7_wind_0 (post : CSt → Prop) (pX : String → CSt → Prop) (s : CSt) (v0 : Nat) (v1 : Int32) : Prop := wpC_X7_checkNumber_0 (fun s1 => cAt s1 7 v0 ∧ ∀ s2 : CSt, s2 = csI s1 120 v0 v1 → post s2) pX s v1 0 300
theorem wkC_X7_wind_0 {X : gT} {G : cG} {A : Nat → Prop} {H0 : Heap} {Q : State → Prop} (C : cC X cX7_wind 2 RX7 G A) (hsz : H0 = (g_s X).heap) (hR : 7 ≤ (g_R X).frames ∧ 111 ≤ (g_R X).locals ∧ 1 ≤ (g_R X).cells ∧ 6 ≤ (g_R X).slots) {pX : String → CSt → Prop} (hfl : (g_l X).stackTraces = false) (hout : ∀ (E : String) (τ : CSt) (lv : List (Nat × Value)) (pc k n : Nat) (rest : List Value), pX E τ → k ≤ 1 → n ≤ 6 → gX X (cWd G A H0) Q k n τ lv pc rest E) (hthr : ∀ (j : Nat) (τ : CSt) (lv : List (Nat × Value)) (pc k n ik : Nat) (rest : List Value), j < 5 → pX (cNm j) τ → k + 1 ≤ 1 → n + 6 ≤ 6 → (rest.map fun v => v.category).sum ≤ 8 → Cond.classLink RX7 ik (cNm j) ∈ wC → Cond.initialized (cNm j) ∈ wC → decode cX7_wind pc = .ok (.new ik, 3) → decode cX7_wind (pc + 3) = .ok (.dup, 1) → decode cX7_wind (pc + 4) = .ok (.invokespecial (cNi j), 3) → decode cX7_wind (pc + 7) = .ok (.athrow, 1) → gJ X (cWd G A H0) Q k n τ lv pc rest) {post : CSt → Prop} (hret : ∀ (τ : CSt) (lv : List (Nat × Value)) (pc : Nat), post τ → decode cX7_wind pc = .ok (.return_, 1) → gJ X (cWd G A H0) Q 1 6 τ lv pc []) (s : CSt) (v0 : Nat) (v1 : Int32) (hw : wpC_X7_wind_0 post pX s v0 v1) : gJ X (cWd G A H0) Q 0 0 s [(0, .ref v0), (1, .int v1)] 0 [] := by
  refine g_iload_n C.1 1 dX7_wind_0 rfl rfl ?_
  refine g_iconst (v := 0) C.1 dX7_wind_1 (by decide) ?_
  refine g_sipush (v := 300) C.1 dX7_wind_2 (by decide) ?_
  refine c_throwSv (vs := [.int v1, .int 0, .int 300]) C hsz (cC_X7_checkNumber (g_l X) hfl G s _ _ _ _ _ hw) kC_412 kC_429 kC_430 kC_420 hdC_X7_checkNumber ⟨(Nat.le_trans (Nat.le_of_ble_eq_true rfl) hR.1), (Nat.le_trans (Nat.le_of_ble_eq_true rfl) hR.2.1)⟩ ⟨(Nat.le_trans (Nat.le_of_ble_eq_true rfl) hR.2.2.1), (Nat.le_trans (Nat.le_of_ble_eq_true rfl) hR.2.2.2)⟩ dX7_wind_5 rfl (Nat.le_of_ble_eq_true rfl) (fun E τ h => hout E τ _ _ _ _ _ h (Nat.le_of_ble_eq_true rfl) (Nat.le_of_ble_eq_true rfl)) (fun s1 hw => ?_)
  refine g_aload_n C.1 0 dX7_wind_8 rfl rfl ?_
  refine g_iload_n C.1 1 dX7_wind_9 rfl rfl ?_
  refine c_put7 C (τ := csI s1 120 v0 v1) hw.1 8 (by decide) kC_458 (fun _ h => h) rfl (ty := .int) (by decide +kernel) rfl rfl rfl hw.1.2 rfl (cx_7_8 _ _ _) (fun _ hb => csI_o hb) dX7_wind_10 ?_
  replace hw := hw.2
  refine gJ.nm (fun s2 es2 => ?_)
  replace hw := hw s2 es2
  exact hret _ _ _ hw dX7_wind_13
theorem hdC_X7_wind : yX7_wind.cls = RX7 ∧ yX7_wind.cls ≠ "java/lang/invoke/MethodHandle" ∧ yX7_wind.cls ≠ "java/lang/invoke/VarHandle" ∧ (parseMethodDescriptor yX7_wind.desc).map (fun d => d.parameters.length) = some 1 := by decide +kernel
theorem cC_X7_wind (l : Launch) (hfl : l.stackTraces = false) (G : cG) (s : CSt) (v0 : Nat) (v1 : Int32) (post : CSt → Prop) (pX : String → CSt → Prop) (hw : wpC_X7_wind_0 post pX s v0 v1) : cTv l yX7_wind cX7_wind 2 7 111 1 6 G s [.ref v0, .int v1] post pX := cTv_of hfl (by decide +kernel) rfl rfl (Nat.le_of_ble_eq_true rfl) ⟨by decide, by decide, by decide, by decide⟩ (fun X A H0 Q hl hR hsz C hret hout hthr => wkC_X7_wind_0 C hsz hR (by rw [hl]; exact hfl) hout hthr hret s v0 v1 hw)
def wpC_X7_stop_19 (post : Int32 → CSt → Prop) (pX : String → CSt → Prop) (s : CSt) (v2 : Int32) (v3 : Option Nat) (w0 : Int32) : Prop := ∃ a1 : Nat, v3 = some a1 ∧ cAt s 3 a1 ∧ (v2 = 0 ∨ v2 = 1) ∧ ∀ s2 : CSt, s2 = csI s 56 a1 v2 → narrow .boolean (.int w0) = .int w0 ∧ post w0 s2
def wpC_X7_stop_0 (post : Int32 → CSt → Prop) (pX : String → CSt → Prop) (s : CSt) (v0 : Nat) (v1 : Int32) (v2 : Int32) : Prop := cAt s 7 v0 ∧ wpC_X7_liftAt_0 (fun r4 s3 => ∃ a5 : Nat, r4 = some a5 ∧ cAt s3 3 a5 ∧ ((cI s3 56 a5) = v2 → wpC_X7_stop_19 post pX s3 v2 (some a5) 0) ∧ (¬ (cI s3 56 a5) = v2 → wpC_X7_stop_19 post pX s3 v2 (some a5) 1)) pX s v0 v1
theorem wkC_X7_stop_19 {X : gT} {G : cG} {A : Nat → Prop} {H0 : Heap} {Q : State → Prop} (C : cC X cX7_stop 5 RX7 G A) (hsz : H0 = (g_s X).heap) (hR : 7 ≤ (g_R X).frames ∧ 110 ≤ (g_R X).locals ∧ 1 ≤ (g_R X).cells ∧ 6 ≤ (g_R X).slots) {pX : String → CSt → Prop} (hfl : (g_l X).stackTraces = false) (hout : ∀ (E : String) (τ : CSt) (lv : List (Nat × Value)) (pc k n : Nat) (rest : List Value), pX E τ → k ≤ 1 → n ≤ 6 → gX X (cWd G A H0) Q k n τ lv pc rest E) (hthr : ∀ (j : Nat) (τ : CSt) (lv : List (Nat × Value)) (pc k n ik : Nat) (rest : List Value), j < 5 → pX (cNm j) τ → k + 1 ≤ 1 → n + 6 ≤ 6 → (rest.map fun v => v.category).sum ≤ 8 → Cond.classLink RX7 ik (cNm j) ∈ wC → Cond.initialized (cNm j) ∈ wC → decode cX7_stop pc = .ok (.new ik, 3) → decode cX7_stop (pc + 3) = .ok (.dup, 1) → decode cX7_stop (pc + 4) = .ok (.invokespecial (cNi j), 3) → decode cX7_stop (pc + 7) = .ok (.athrow, 1) → gJ X (cWd G A H0) Q k n τ lv pc rest) {post : Int32 → CSt → Prop} (hret : ∀ (r : Int32) (τ : CSt) (lv : List (Nat × Value)) (pc : Nat), post r τ → narrow .boolean (.int r) = .int r → decode cX7_stop pc = .ok (.ireturn, 1) → gJ X (cWd G A H0) Q 1 6 τ lv pc [.int r]) (s : CSt) (v2 : Int32) (v3 : Option Nat) (w0 : Int32) (hw : wpC_X7_stop_19 post pX s v2 v3 w0) : gJ X (cWd G A H0) Q 1 6 s [(2, .int v2), (3, va_rf v3)] 19 [.int w0] := by
  refine g_istore (lv' := [(4, .int w0), (2, .int v2), (3, va_rf v3)]) C.1 dX7_stop_19 (by decide) (by simp [va_rf_cat]) ?_
  refine g_qload_n C.1 2 dX7_stop_21 rfl rfl ?_
  refine g_iload_n C.1 1 dX7_stop_22 rfl rfl ?_
  obtain ⟨a1, ha1, hw⟩ := hw
  rw [ha1]
  refine c_put3 C (τ := csI s 56 a1 v2) hw.1 8 (by decide) kC_457 (fun _ h => h) rfl (ty := .boolean) (by decide +kernel) (c_bN hw.2.1) (c_bF hw.2.1) rfl hw.1.2 rfl (cx_3_8 _ _ _) (fun _ hb => csI_o hb) dX7_stop_23 ?_
  replace hw := hw.2.2
  refine gJ.nm (fun s2 es2 => ?_)
  replace hw := hw s2 es2
  refine g_iload C.1 0 dX7_stop_26 rfl ?_
  exact hret _ _ _ _ hw.2 hw.1 dX7_stop_28
theorem wkC_X7_stop_0 {X : gT} {G : cG} {A : Nat → Prop} {H0 : Heap} {Q : State → Prop} (C : cC X cX7_stop 5 RX7 G A) (hsz : H0 = (g_s X).heap) (hR : 7 ≤ (g_R X).frames ∧ 110 ≤ (g_R X).locals ∧ 1 ≤ (g_R X).cells ∧ 6 ≤ (g_R X).slots) {pX : String → CSt → Prop} (hfl : (g_l X).stackTraces = false) (hout : ∀ (E : String) (τ : CSt) (lv : List (Nat × Value)) (pc k n : Nat) (rest : List Value), pX E τ → k ≤ 1 → n ≤ 6 → gX X (cWd G A H0) Q k n τ lv pc rest E) (hthr : ∀ (j : Nat) (τ : CSt) (lv : List (Nat × Value)) (pc k n ik : Nat) (rest : List Value), j < 5 → pX (cNm j) τ → k + 1 ≤ 1 → n + 6 ≤ 6 → (rest.map fun v => v.category).sum ≤ 8 → Cond.classLink RX7 ik (cNm j) ∈ wC → Cond.initialized (cNm j) ∈ wC → decode cX7_stop pc = .ok (.new ik, 3) → decode cX7_stop (pc + 3) = .ok (.dup, 1) → decode cX7_stop (pc + 4) = .ok (.invokespecial (cNi j), 3) → decode cX7_stop (pc + 7) = .ok (.athrow, 1) → gJ X (cWd G A H0) Q k n τ lv pc rest) {post : Int32 → CSt → Prop} (hret : ∀ (r : Int32) (τ : CSt) (lv : List (Nat × Value)) (pc : Nat), post r τ → narrow .boolean (.int r) = .int r → decode cX7_stop pc = .ok (.ireturn, 1) → gJ X (cWd G A H0) Q 1 6 τ lv pc [.int r]) (s : CSt) (v0 : Nat) (v1 : Int32) (v2 : Int32) (hw : wpC_X7_stop_0 post pX s v0 v1 v2) : gJ X (cWd G A H0) Q 0 0 s [(0, .ref v0), (1, .int v1), (2, .int v2)] 0 [] := by
  refine g_aload_n C.1 0 dX7_stop_0 rfl rfl ?_
  refine g_iload_n C.1 1 dX7_stop_1 rfl rfl ?_
  refine c_throwVq (vs := [.int v1]) C hsz (cC_X7_liftAt (g_l X) hfl G s _ _ _ _ hw.2) kC_412 kC_461 kC_462 kC_463 kC_456 hdC_X7_liftAt (c_recv7 C hw.1) ⟨(Nat.le_trans (Nat.le_of_ble_eq_true rfl) hR.1), (Nat.le_trans (Nat.le_of_ble_eq_true rfl) hR.2.1)⟩ ⟨(Nat.le_trans (Nat.le_of_ble_eq_true rfl) hR.2.2.1), (Nat.le_trans (Nat.le_of_ble_eq_true rfl) hR.2.2.2)⟩ dX7_stop_2 rfl (Nat.le_of_ble_eq_true rfl) (fun E τ h => hout E τ _ _ _ _ _ h (Nat.le_of_ble_eq_true rfl) (Nat.le_of_ble_eq_true rfl)) (fun r4 s3 hw => ?_)
  refine g_qstore_n (lv' := [(3, va_rf r4), (0, .ref v0), (1, .int v1), (2, .int v2)]) C.1 dX7_stop_5 rfl (by decide) rfl ?_
  refine g_qload_n C.1 0 dX7_stop_6 rfl rfl ?_
  obtain ⟨a5, ha5, hw⟩ := hw
  rw [ha5]
  refine c_get3 C hw.1 8 (by decide) kC_457 (fun _ h => h) rfl dX7_stop_7 ?_
  replace hw := hw.2
  refine g_iload_n C.1 3 dX7_stop_10 rfl rfl ?_
  refine g_icmp_eq (tgt := 18) C.1 dX7_stop_11 (by decide) (fun h6 => ?_) (fun h6 => ?_)
  · replace hw := hw.1 h6
    refine g_iconst (v := 0) C.1 dX7_stop_18 (by decide) ?_
    refine gJ.sub [3, 0] rfl ?_
    exact wkC_X7_stop_19 C hsz hR hfl hout hthr hret _ _ _ _ hw
  · replace hw := hw.2 h6
    refine g_iconst (v := 1) C.1 dX7_stop_14 (by decide) ?_
    refine g_goto (tgt := 19) C.1 dX7_stop_15 (by decide) ?_
    refine gJ.sub [3, 0] rfl ?_
    exact wkC_X7_stop_19 C hsz hR hfl hout hthr hret _ _ _ _ hw
theorem hdC_X7_stop : yX7_stop.cls = RX7 ∧ yX7_stop.cls ≠ "java/lang/invoke/MethodHandle" ∧ yX7_stop.cls ≠ "java/lang/invoke/VarHandle" ∧ (parseMethodDescriptor yX7_stop.desc).map (fun d => d.parameters.length) = some 2 := by decide +kernel
theorem cC_X7_stop (l : Launch) (hfl : l.stackTraces = false) (G : cG) (s : CSt) (v0 : Nat) (v1 : Int32) (v2 : Int32) (post : Int32 → CSt → Prop) (pX : String → CSt → Prop) (hw : wpC_X7_stop_0 post pX s v0 v1 v2) : cTi l yX7_stop cX7_stop 5 .boolean 7 110 1 6 G s [.ref v0, .int v1, .int v2] post pX := cTi_of hfl (by decide +kernel) rfl rfl (Nat.le_of_ble_eq_true rfl) ⟨by decide, by decide, by decide, by decide⟩ (fun X A H0 Q hl hR hsz C hret hout hthr => wkC_X7_stop_0 C hsz hR (by rw [hl]; exact hfl) hout hthr hret s v0 v1 v2 hw)
def wpC_X7_circleWith_189 (post : Int32 → CSt → Prop) (K147 : CSt → Nat → Int32 → Int32 → Prop) (s : CSt) (v0 : Nat) (v3 : Int32) (v4 : Int32) : Prop := K147 s v0 v3 (v4 + 1)
def wpC_X7_circleWith_147_F (post : Int32 → CSt → Prop) (K147 : CSt → Nat → Int32 → Int32 → Prop) (s : CSt) (v0 : Nat) (v3 : Int32) (v4 : Int32) : Prop := cAt s 7 v0 ∧ ∃ a1 : Nat, cR s 113 v0 = some a1 ∧ cAt s 0 a1 ∧ wpC_Jx4a65c_size_8abf5_0 (fun r3 s2 => (r3 ≤ v4 → post v3 s2) ∧ (¬ r3 ≤ v4 → cAt s2 7 v0 ∧ ∃ a5 : Nat, cR s2 113 v0 = some a5 ∧ cAt s2 0 a5 ∧ wpC_Jx4a65c_get_915e3_0 (fun r7 s6 => ∃ a8 : Nat, r7 = some a8 ∧ cAt s6 6 a8 ∧ cAt s6 6 a8 ∧ wpC_X7_hasBit_0 (fun r10 s9 => (r10 = 0 → wpC_X7_circleWith_189 post K147 s9 v0 v3 v4) ∧ (¬ r10 = 0 → wpC_X7_circleWith_189 post K147 s9 v0 (v3 ||| (1 <<< (v4 &&& 31))) v4)) s6 (cI s6 105 a8) v4) s2 a5 v4)) s a1
def wpC_X7_circleWith_147 (post : Int32 → CSt → Prop) (s : CSt) (v0 : Nat) (v3 : Int32) (v4 : Int32) : Prop := gLP (fun (K : CSt × Nat × Int32 × Int32 → Prop) (x : CSt × Nat × Int32 × Int32) => wpC_X7_circleWith_147_F post (fun s v0 v3 v4 => K (s, v0, v3, v4)) x.1 x.2.1 x.2.2.1 x.2.2.2) (s, v0, v3, v4)
def wpC_X7_circleWith_130 (post : Int32 → CSt → Prop) (K54 : CSt → Nat → Int32 → Prop) (K68 : CSt → Nat → Int32 → Int32 → Prop) (s : CSt) (v0 : Nat) (v3 : Int32) (v4 : Int32) : Prop := K68 s v0 v3 (v4 + 1)
def wpC_X7_circleWith_68_F (post : Int32 → CSt → Prop) (K54 : CSt → Nat → Int32 → Prop) (K68 : CSt → Nat → Int32 → Int32 → Prop) (s : CSt) (v0 : Nat) (v3 : Int32) (v4 : Int32) : Prop := cAt s 7 v0 ∧ ∃ a12 : Nat, cR s 113 v0 = some a12 ∧ cAt s 0 a12 ∧ wpC_Jx4a65c_size_8abf5_0 (fun r14 s13 => (r14 ≤ v4 → K54 s13 v0 (v3 + 1)) ∧ (¬ r14 ≤ v4 → cAt s13 7 v0 ∧ ∃ a16 : Nat, cR s13 113 v0 = some a16 ∧ cAt s13 0 a16 ∧ wpC_Jx4a65c_get_915e3_0 (fun r18 s17 => ∃ a19 : Nat, r18 = some a19 ∧ cAt s17 6 a19 ∧ cAt s17 6 a19 ∧ wpC_X7_hasBit_0 (fun r21 s20 => (r21 = 0 → wpC_X7_circleWith_130 post K54 K68 s20 v0 v3 v4) ∧ (¬ r21 = 0 → cAt s20 6 a19 ∧ cAt s20 7 v0 ∧ ∃ a23 : Nat, cR s20 113 v0 = some a23 ∧ cAt s20 0 a23 ∧ wpC_Jx4a65c_get_915e3_0 (fun r25 s24 => ∃ a26 : Nat, r25 = some a26 ∧ cAt s24 6 a26 ∧ cAt s24 6 a26 ∧ cAt s24 6 a19 ∧ ∀ s27 : CSt, s27 = csI s24 105 a19 ((cI s20 105 a19) ||| (cI s24 105 a26)) → wpC_X7_circleWith_130 post K54 K68 s27 v0 v3 v4) s20 a23 v3)) s17 (cI s17 105 a19) v3) s13 a16 v4)) s a12
def wpC_X7_circleWith_68 (post : Int32 → CSt → Prop) (K54 : CSt → Nat → Int32 → Prop) (s : CSt) (v0 : Nat) (v3 : Int32) (v4 : Int32) : Prop := gLP (fun (K : CSt × Nat × Int32 × Int32 → Prop) (x : CSt × Nat × Int32 × Int32) => wpC_X7_circleWith_68_F post K54 (fun s v0 v3 v4 => K (s, v0, v3, v4)) x.1 x.2.1 x.2.2.1 x.2.2.2) (s, v0, v3, v4)
def wpC_X7_circleWith_54_F (post : Int32 → CSt → Prop) (K54 : CSt → Nat → Int32 → Prop) (s : CSt) (v0 : Nat) (v3 : Int32) : Prop := cAt s 7 v0 ∧ ∃ a28 : Nat, cR s 113 v0 = some a28 ∧ cAt s 0 a28 ∧ wpC_Jx4a65c_size_8abf5_0 (fun r30 s29 => (r30 ≤ v3 → wpC_X7_circleWith_147 post s29 v0 0 0) ∧ (¬ r30 ≤ v3 → wpC_X7_circleWith_68 post K54 s29 v0 v3 0)) s a28
def wpC_X7_circleWith_54 (post : Int32 → CSt → Prop) (s : CSt) (v0 : Nat) (v3 : Int32) : Prop := gLP (fun (K : CSt × Nat × Int32 → Prop) (x : CSt × Nat × Int32) => wpC_X7_circleWith_54_F post (fun s v0 v3 => K (s, v0, v3)) x.1 x.2.1 x.2.2) (s, v0, v3)
def wpC_X7_circleWith_43 (post : Int32 → CSt → Prop) (K2 : CSt → Nat → Nat → Int32 → Int32 → Prop) (s : CSt) (v0 : Nat) (v1 : Nat) (v2 : Int32) (v3 : Int32) (w0 : Nat) (w1 : Int32) : Prop := cAt s 6 w0 ∧ ∀ s32 : CSt, s32 = csI s 105 w0 w1 → K2 s32 v0 v1 v2 (v3 + 1)
def wpC_X7_circleWith_2_F (post : Int32 → CSt → Prop) (K2 : CSt → Nat → Nat → Int32 → Int32 → Prop) (s : CSt) (v0 : Nat) (v1 : Nat) (v2 : Int32) (v3 : Int32) : Prop := cAt s 7 v0 ∧ ∃ a33 : Nat, cR s 113 v0 = some a33 ∧ cAt s 0 a33 ∧ wpC_Jx4a65c_size_8abf5_0 (fun r35 s34 => (r35 ≤ v3 → wpC_X7_circleWith_54 post s34 v0 0) ∧ (¬ r35 ≤ v3 → cAt s34 7 v0 ∧ ∃ a37 : Nat, cR s34 113 v0 = some a37 ∧ cAt s34 0 a37 ∧ wpC_Jx4a65c_get_915e3_0 (fun r39 s38 => ∃ a40 : Nat, r39 = some a40 ∧ cAt s38 6 a40 ∧ (¬ a40 = v1 → cAt s38 6 a40 ∧ wpC_X7_circleWith_43 post K2 s38 v0 v1 v2 v3 a40 (cI s38 103 a40)) ∧ (a40 = v1 → wpC_X7_circleWith_43 post K2 s38 v0 v1 v2 v3 a40 v2)) s34 a37 v3)) s a33
def wpC_X7_circleWith_2 (post : Int32 → CSt → Prop) (s : CSt) (v0 : Nat) (v1 : Nat) (v2 : Int32) (v3 : Int32) : Prop := gLP (fun (K : CSt × Nat × Nat × Int32 × Int32 → Prop) (x : CSt × Nat × Nat × Int32 × Int32) => wpC_X7_circleWith_2_F post (fun s v0 v1 v2 v3 => K (s, v0, v1, v2, v3)) x.1 x.2.1 x.2.2.1 x.2.2.2.1 x.2.2.2.2) (s, v0, v1, v2, v3)
def wpC_X7_circleWith_0 (post : Int32 → CSt → Prop) (s : CSt) (v0 : Nat) (v1 : Nat) (v2 : Int32) : Prop := wpC_X7_circleWith_2 post s v0 v1 v2 0
theorem wkC_X7_circleWith_189 {X : gT} {G : cG} {A : Nat → Prop} {H0 : Heap} {Q : State → Prop} (C : cC X cX7_circleWith 6 RX7 G A) (hsz : H0 = (g_s X).heap) (hR : 3 ≤ (g_R X).frames ∧ 64 ≤ (g_R X).locals ∧ 0 ≤ (g_R X).cells ∧ 0 ≤ (g_R X).slots) {post : Int32 → CSt → Prop} (hret : ∀ (r : Int32) (τ : CSt) (lv : List (Nat × Value)) (pc : Nat), post r τ → narrow .int (.int r) = .int r → decode cX7_circleWith pc = .ok (.ireturn, 1) → gJ X (cWd G A H0) Q 0 0 τ lv pc [.int r]) {K147 : CSt → Nat → Int32 → Int32 → Prop} (hK147 : ∀ (s : CSt) (v0 : Nat) (v3 : Int32) (v4 : Int32), K147 s v0 v3 v4 → gJ X (cWd G A H0) Q 0 0 s [(0, .ref v0), (3, .int v3), (4, .int v4)] 147 []) (s : CSt) (v0 : Nat) (v3 : Int32) (v4 : Int32) (hw : wpC_X7_circleWith_189 post K147 s v0 v3 v4) : gJ X (cWd G A H0) Q 0 0 s [(0, .ref v0), (3, .int v3), (4, .int v4)] 189 [] := by
  refine g_iinc (v := v4 + 1) (lv' := [(4, .int (v4 + 1)), (0, .ref v0), (3, .int v3)]) C.1 2 dX7_circleWith_189 rfl rfl (by decide) rfl ?_
  refine g_goto (tgt := 147) C.1 dX7_circleWith_192 (by decide) ?_
  refine gJ.sub [1, 2, 0] rfl ?_
  exact hK147 _ _ _ _ hw
theorem wkC_X7_circleWith_147_F {X : gT} {G : cG} {A : Nat → Prop} {H0 : Heap} {Q : State → Prop} (C : cC X cX7_circleWith 6 RX7 G A) (hsz : H0 = (g_s X).heap) (hR : 3 ≤ (g_R X).frames ∧ 64 ≤ (g_R X).locals ∧ 0 ≤ (g_R X).cells ∧ 0 ≤ (g_R X).slots) {post : Int32 → CSt → Prop} (hret : ∀ (r : Int32) (τ : CSt) (lv : List (Nat × Value)) (pc : Nat), post r τ → narrow .int (.int r) = .int r → decode cX7_circleWith pc = .ok (.ireturn, 1) → gJ X (cWd G A H0) Q 0 0 τ lv pc [.int r]) {K147 : CSt → Nat → Int32 → Int32 → Prop} (hK147 : ∀ (s : CSt) (v0 : Nat) (v3 : Int32) (v4 : Int32), K147 s v0 v3 v4 → gJ X (cWd G A H0) Q 0 0 s [(0, .ref v0), (3, .int v3), (4, .int v4)] 147 []) (s : CSt) (v0 : Nat) (v3 : Int32) (v4 : Int32) (hw : wpC_X7_circleWith_147_F post K147 s v0 v3 v4) : gJ X (cWd G A H0) Q 0 0 s [(0, .ref v0), (3, .int v3), (4, .int v4)] 147 [] := by
  refine g_iload C.1 2 dX7_circleWith_147 rfl ?_
  refine g_aload_n C.1 0 dX7_circleWith_149 rfl rfl ?_
  refine c_get7 C hw.1 1 (by decide) kC_395 (fun _ h => h) rfl dX7_circleWith_150 ?_
  replace hw := hw.2
  obtain ⟨a1, ha1, hw⟩ := hw
  rw [ha1]
  refine c_callVi (vs := []) C hsz (cC_Jx4a65c_size_8abf5 (g_l X) G s _ _ hw.2) kC_13 kC_431 kC_11 kC_12 kC_14 hdC_Jx4a65c_size_8abf5 (c_recv0 C hw.1) ⟨(Nat.le_trans (Nat.le_of_ble_eq_true rfl) hR.1), (Nat.le_trans (Nat.le_of_ble_eq_true rfl) hR.2.1)⟩ ⟨(Nat.le_trans (Nat.le_of_ble_eq_true rfl) hR.2.2.1), (Nat.le_trans (Nat.le_of_ble_eq_true rfl) hR.2.2.2)⟩ dX7_circleWith_153 rfl (Nat.le_of_ble_eq_true rfl) (fun r3 s2 hw => ?_)
  refine g_icmp_ge (tgt := 195) C.1 dX7_circleWith_156 (by decide) (fun h4 => ?_) (fun h4 => ?_)
  · replace hw := hw.1 h4
    refine g_iload_n C.1 1 dX7_circleWith_195 rfl rfl ?_
    exact hret _ _ _ _ hw rfl dX7_circleWith_196
  · replace hw := hw.2 h4
    refine g_aload_n C.1 0 dX7_circleWith_159 rfl rfl ?_
    refine c_get7 C hw.1 1 (by decide) kC_395 (fun _ h => h) rfl dX7_circleWith_160 ?_
    replace hw := hw.2
    obtain ⟨a5, ha5, hw⟩ := hw
    rw [ha5]
    refine g_iload C.1 2 dX7_circleWith_163 rfl ?_
    refine c_callVq (vs := [.int v4]) C hsz (cC_Jx4a65c_get_915e3 (g_l X) G s2 _ _ _ hw.2) kC_13 kC_455 kC_17 kC_18 kC_19 hdC_Jx4a65c_get_915e3 (c_recv0 C hw.1) ⟨(Nat.le_trans (Nat.le_of_ble_eq_true rfl) hR.1), (Nat.le_trans (Nat.le_of_ble_eq_true rfl) hR.2.1)⟩ ⟨(Nat.le_trans (Nat.le_of_ble_eq_true rfl) hR.2.2.1), (Nat.le_trans (Nat.le_of_ble_eq_true rfl) hR.2.2.2)⟩ dX7_circleWith_165 rfl (Nat.le_of_ble_eq_true rfl) (fun r7 s6 hw => ?_)
    obtain ⟨a8, ha8, hw⟩ := hw
    rw [ha8]
    refine c_cast6 C hw.1 kC_470 dX7_circleWith_168 ?_
    replace hw := hw.2
    refine c_get6 C hw.1 9 (by decide) kC_474 (fun _ h => h) rfl dX7_circleWith_171 ?_
    replace hw := hw.2
    refine g_iload C.1 2 dX7_circleWith_174 rfl ?_
    refine c_callSi (vs := [.int (cI s6 105 a8), .int v4]) C hsz (cC_X7_hasBit (g_l X) G s6 _ _ _ hw) kC_412 kC_475 kC_476 kC_472 hdC_X7_hasBit ⟨(Nat.le_trans (Nat.le_of_ble_eq_true rfl) hR.1), (Nat.le_trans (Nat.le_of_ble_eq_true rfl) hR.2.1)⟩ ⟨(Nat.le_trans (Nat.le_of_ble_eq_true rfl) hR.2.2.1), (Nat.le_trans (Nat.le_of_ble_eq_true rfl) hR.2.2.2)⟩ dX7_circleWith_176 rfl (Nat.le_of_ble_eq_true rfl) (fun r10 s9 hw => ?_)
    refine g_if_eq (tgt := 189) C.1 dX7_circleWith_179 (by decide) (fun h11 => ?_) (fun h11 => ?_)
    · replace hw := hw.1 h11
      exact wkC_X7_circleWith_189 C hsz hR hret hK147 _ _ _ _ hw
    · replace hw := hw.2 h11
      refine g_iload_n C.1 1 dX7_circleWith_182 rfl rfl ?_
      refine g_iconst (v := 1) C.1 dX7_circleWith_183 (by decide) ?_
      refine g_iload C.1 2 dX7_circleWith_184 rfl ?_
      refine g_ishl C.1 dX7_circleWith_186 ?_
      refine g_ior C.1 dX7_circleWith_187 ?_
      refine g_istore_n (lv' := [(3, .int (v3 ||| (1 <<< (v4 &&& 31)))), (0, .ref v0), (4, .int v4)]) C.1 dX7_circleWith_188 rfl (by decide) rfl ?_
      refine gJ.sub [1, 0, 2] rfl ?_
      exact wkC_X7_circleWith_189 C hsz hR hret hK147 _ _ _ _ hw
theorem wkC_X7_circleWith_147 {X : gT} {G : cG} {A : Nat → Prop} {H0 : Heap} {Q : State → Prop} (C : cC X cX7_circleWith 6 RX7 G A) (hsz : H0 = (g_s X).heap) (hR : 3 ≤ (g_R X).frames ∧ 64 ≤ (g_R X).locals ∧ 0 ≤ (g_R X).cells ∧ 0 ≤ (g_R X).slots) {post : Int32 → CSt → Prop} (hret : ∀ (r : Int32) (τ : CSt) (lv : List (Nat × Value)) (pc : Nat), post r τ → narrow .int (.int r) = .int r → decode cX7_circleWith pc = .ok (.ireturn, 1) → gJ X (cWd G A H0) Q 0 0 τ lv pc [.int r]) (s : CSt) (v0 : Nat) (v3 : Int32) (v4 : Int32) (hw : wpC_X7_circleWith_147 post s v0 v3 v4) : gJ X (cWd G A H0) Q 0 0 s [(0, .ref v0), (3, .int v3), (4, .int v4)] 147 [] := 
  hw (fun (x : CSt × Nat × Int32 × Int32) => (fun s v0 v3 v4 => gJ X (cWd G A H0) Q 0 0 s [(0, .ref v0), (3, .int v3), (4, .int v4)] 147 []) x.1 x.2.1 x.2.2.1 x.2.2.2) (fun x hx => wkC_X7_circleWith_147_F C hsz hR hret (K147 := (fun s v0 v3 v4 => gJ X (cWd G A H0) Q 0 0 s [(0, .ref v0), (3, .int v3), (4, .int v4)] 147 [])) (fun _ _ _ _ h => h) x.1 x.2.1 x.2.2.1 x.2.2.2 hx)
theorem wkC_X7_circleWith_130 {X : gT} {G : cG} {A : Nat → Prop} {H0 : Heap} {Q : State → Prop} (C : cC X cX7_circleWith 6 RX7 G A) (hsz : H0 = (g_s X).heap) (hR : 3 ≤ (g_R X).frames ∧ 64 ≤ (g_R X).locals ∧ 0 ≤ (g_R X).cells ∧ 0 ≤ (g_R X).slots) {post : Int32 → CSt → Prop} (hret : ∀ (r : Int32) (τ : CSt) (lv : List (Nat × Value)) (pc : Nat), post r τ → narrow .int (.int r) = .int r → decode cX7_circleWith pc = .ok (.ireturn, 1) → gJ X (cWd G A H0) Q 0 0 τ lv pc [.int r]) {K54 : CSt → Nat → Int32 → Prop} {K68 : CSt → Nat → Int32 → Int32 → Prop} (hK54 : ∀ (s : CSt) (v0 : Nat) (v3 : Int32), K54 s v0 v3 → gJ X (cWd G A H0) Q 0 0 s [(0, .ref v0), (3, .int v3)] 54 []) (hK68 : ∀ (s : CSt) (v0 : Nat) (v3 : Int32) (v4 : Int32), K68 s v0 v3 v4 → gJ X (cWd G A H0) Q 0 0 s [(0, .ref v0), (3, .int v3), (4, .int v4)] 68 []) (s : CSt) (v0 : Nat) (v3 : Int32) (v4 : Int32) (hw : wpC_X7_circleWith_130 post K54 K68 s v0 v3 v4) : gJ X (cWd G A H0) Q 0 0 s [(0, .ref v0), (3, .int v3), (4, .int v4)] 130 [] := by
  refine g_iinc (v := v4 + 1) (lv' := [(4, .int (v4 + 1)), (0, .ref v0), (3, .int v3)]) C.1 2 dX7_circleWith_130 rfl rfl (by decide) rfl ?_
  refine g_goto (tgt := 68) C.1 dX7_circleWith_133 (by decide) ?_
  refine gJ.sub [1, 2, 0] rfl ?_
  exact hK68 _ _ _ _ hw
theorem wkC_X7_circleWith_68_F {X : gT} {G : cG} {A : Nat → Prop} {H0 : Heap} {Q : State → Prop} (C : cC X cX7_circleWith 6 RX7 G A) (hsz : H0 = (g_s X).heap) (hR : 3 ≤ (g_R X).frames ∧ 64 ≤ (g_R X).locals ∧ 0 ≤ (g_R X).cells ∧ 0 ≤ (g_R X).slots) {post : Int32 → CSt → Prop} (hret : ∀ (r : Int32) (τ : CSt) (lv : List (Nat × Value)) (pc : Nat), post r τ → narrow .int (.int r) = .int r → decode cX7_circleWith pc = .ok (.ireturn, 1) → gJ X (cWd G A H0) Q 0 0 τ lv pc [.int r]) {K54 : CSt → Nat → Int32 → Prop} {K68 : CSt → Nat → Int32 → Int32 → Prop} (hK54 : ∀ (s : CSt) (v0 : Nat) (v3 : Int32), K54 s v0 v3 → gJ X (cWd G A H0) Q 0 0 s [(0, .ref v0), (3, .int v3)] 54 []) (hK68 : ∀ (s : CSt) (v0 : Nat) (v3 : Int32) (v4 : Int32), K68 s v0 v3 v4 → gJ X (cWd G A H0) Q 0 0 s [(0, .ref v0), (3, .int v3), (4, .int v4)] 68 []) (s : CSt) (v0 : Nat) (v3 : Int32) (v4 : Int32) (hw : wpC_X7_circleWith_68_F post K54 K68 s v0 v3 v4) : gJ X (cWd G A H0) Q 0 0 s [(0, .ref v0), (3, .int v3), (4, .int v4)] 68 [] := by
  refine g_iload C.1 2 dX7_circleWith_68 rfl ?_
  refine g_aload_n C.1 0 dX7_circleWith_70 rfl rfl ?_
  refine c_get7 C hw.1 1 (by decide) kC_395 (fun _ h => h) rfl dX7_circleWith_71 ?_
  replace hw := hw.2
  obtain ⟨a12, ha12, hw⟩ := hw
  rw [ha12]
  refine c_callVi (vs := []) C hsz (cC_Jx4a65c_size_8abf5 (g_l X) G s _ _ hw.2) kC_13 kC_431 kC_11 kC_12 kC_14 hdC_Jx4a65c_size_8abf5 (c_recv0 C hw.1) ⟨(Nat.le_trans (Nat.le_of_ble_eq_true rfl) hR.1), (Nat.le_trans (Nat.le_of_ble_eq_true rfl) hR.2.1)⟩ ⟨(Nat.le_trans (Nat.le_of_ble_eq_true rfl) hR.2.2.1), (Nat.le_trans (Nat.le_of_ble_eq_true rfl) hR.2.2.2)⟩ dX7_circleWith_74 rfl (Nat.le_of_ble_eq_true rfl) (fun r14 s13 hw => ?_)
  refine g_icmp_ge (tgt := 136) C.1 dX7_circleWith_77 (by decide) (fun h15 => ?_) (fun h15 => ?_)
  · replace hw := hw.1 h15
    refine g_iinc (v := v3 + 1) (lv' := [(3, .int (v3 + 1)), (0, .ref v0), (4, .int v4)]) C.1 1 dX7_circleWith_136 rfl rfl (by decide) rfl ?_
    refine g_goto (tgt := 54) C.1 dX7_circleWith_139 (by decide) ?_
    refine gJ.sub [1, 0] rfl ?_
    exact hK54 _ _ _ hw
  · replace hw := hw.2 h15
    refine g_aload_n C.1 0 dX7_circleWith_80 rfl rfl ?_
    refine c_get7 C hw.1 1 (by decide) kC_395 (fun _ h => h) rfl dX7_circleWith_81 ?_
    replace hw := hw.2
    obtain ⟨a16, ha16, hw⟩ := hw
    rw [ha16]
    refine g_iload C.1 2 dX7_circleWith_84 rfl ?_
    refine c_callVq (vs := [.int v4]) C hsz (cC_Jx4a65c_get_915e3 (g_l X) G s13 _ _ _ hw.2) kC_13 kC_455 kC_17 kC_18 kC_19 hdC_Jx4a65c_get_915e3 (c_recv0 C hw.1) ⟨(Nat.le_trans (Nat.le_of_ble_eq_true rfl) hR.1), (Nat.le_trans (Nat.le_of_ble_eq_true rfl) hR.2.1)⟩ ⟨(Nat.le_trans (Nat.le_of_ble_eq_true rfl) hR.2.2.1), (Nat.le_trans (Nat.le_of_ble_eq_true rfl) hR.2.2.2)⟩ dX7_circleWith_86 rfl (Nat.le_of_ble_eq_true rfl) (fun r18 s17 hw => ?_)
    obtain ⟨a19, ha19, hw⟩ := hw
    rw [ha19]
    refine c_cast6 C hw.1 kC_470 dX7_circleWith_89 ?_
    replace hw := hw.2
    refine g_astore (lv' := [(5, .ref a19), (0, .ref v0), (3, .int v3), (4, .int v4)]) C.1 dX7_circleWith_92 (by decide) rfl ?_
    refine g_aload C.1 0 dX7_circleWith_94 rfl ?_
    refine c_get6 C hw.1 9 (by decide) kC_474 (fun _ h => h) rfl dX7_circleWith_96 ?_
    replace hw := hw.2
    refine g_iload_n C.1 2 dX7_circleWith_99 rfl rfl ?_
    refine c_callSi (vs := [.int (cI s17 105 a19), .int v3]) C hsz (cC_X7_hasBit (g_l X) G s17 _ _ _ hw) kC_412 kC_475 kC_476 kC_472 hdC_X7_hasBit ⟨(Nat.le_trans (Nat.le_of_ble_eq_true rfl) hR.1), (Nat.le_trans (Nat.le_of_ble_eq_true rfl) hR.2.1)⟩ ⟨(Nat.le_trans (Nat.le_of_ble_eq_true rfl) hR.2.2.1), (Nat.le_trans (Nat.le_of_ble_eq_true rfl) hR.2.2.2)⟩ dX7_circleWith_100 rfl (Nat.le_of_ble_eq_true rfl) (fun r21 s20 hw => ?_)
    refine g_if_eq (tgt := 130) C.1 dX7_circleWith_103 (by decide) (fun h22 => ?_) (fun h22 => ?_)
    · replace hw := hw.1 h22
      refine gJ.sub [1, 2, 3] rfl ?_
      exact wkC_X7_circleWith_130 C hsz hR hret hK54 hK68 _ _ _ _ hw
    · replace hw := hw.2 h22
      refine g_aload C.1 0 dX7_circleWith_106 rfl ?_
      refine g_dup C.1 dX7_circleWith_108 rfl ?_
      refine c_get6 C hw.1 9 (by decide) kC_474 (fun _ h => h) rfl dX7_circleWith_109 ?_
      replace hw := hw.2
      refine g_aload_n C.1 1 dX7_circleWith_112 rfl rfl ?_
      refine c_get7 C hw.1 1 (by decide) kC_395 (fun _ h => h) rfl dX7_circleWith_113 ?_
      replace hw := hw.2
      obtain ⟨a23, ha23, hw⟩ := hw
      rw [ha23]
      refine g_iload_n C.1 2 dX7_circleWith_116 rfl rfl ?_
      refine c_callVq (vs := [.int v3]) C hsz (cC_Jx4a65c_get_915e3 (g_l X) G s20 _ _ _ hw.2) kC_13 kC_455 kC_17 kC_18 kC_19 hdC_Jx4a65c_get_915e3 (c_recv0 C hw.1) ⟨(Nat.le_trans (Nat.le_of_ble_eq_true rfl) hR.1), (Nat.le_trans (Nat.le_of_ble_eq_true rfl) hR.2.1)⟩ ⟨(Nat.le_trans (Nat.le_of_ble_eq_true rfl) hR.2.2.1), (Nat.le_trans (Nat.le_of_ble_eq_true rfl) hR.2.2.2)⟩ dX7_circleWith_117 rfl (Nat.le_of_ble_eq_true rfl) (fun r25 s24 hw => ?_)
      obtain ⟨a26, ha26, hw⟩ := hw
      rw [ha26]
      refine c_cast6 C hw.1 kC_470 dX7_circleWith_120 ?_
      replace hw := hw.2
      refine c_get6 C hw.1 9 (by decide) kC_474 (fun _ h => h) rfl dX7_circleWith_123 ?_
      replace hw := hw.2
      refine g_ior C.1 dX7_circleWith_126 ?_
      refine c_put6 C (τ := csI s24 105 a19 ((cI s20 105 a19) ||| (cI s24 105 a26))) hw.1 9 (by decide) kC_474 (fun _ h => h) rfl (ty := .int) (by decide +kernel) rfl rfl rfl hw.1.2 rfl (cx_6_9 _ _ _) (fun _ hb => csI_o hb) dX7_circleWith_127 ?_
      replace hw := hw.2
      refine gJ.nm (fun s27 es27 => ?_)
      replace hw := hw s27 es27
      refine gJ.sub [1, 2, 3] rfl ?_
      exact wkC_X7_circleWith_130 C hsz hR hret hK54 hK68 _ _ _ _ hw
theorem wkC_X7_circleWith_68 {X : gT} {G : cG} {A : Nat → Prop} {H0 : Heap} {Q : State → Prop} (C : cC X cX7_circleWith 6 RX7 G A) (hsz : H0 = (g_s X).heap) (hR : 3 ≤ (g_R X).frames ∧ 64 ≤ (g_R X).locals ∧ 0 ≤ (g_R X).cells ∧ 0 ≤ (g_R X).slots) {post : Int32 → CSt → Prop} (hret : ∀ (r : Int32) (τ : CSt) (lv : List (Nat × Value)) (pc : Nat), post r τ → narrow .int (.int r) = .int r → decode cX7_circleWith pc = .ok (.ireturn, 1) → gJ X (cWd G A H0) Q 0 0 τ lv pc [.int r]) {K54 : CSt → Nat → Int32 → Prop} (hK54 : ∀ (s : CSt) (v0 : Nat) (v3 : Int32), K54 s v0 v3 → gJ X (cWd G A H0) Q 0 0 s [(0, .ref v0), (3, .int v3)] 54 []) (s : CSt) (v0 : Nat) (v3 : Int32) (v4 : Int32) (hw : wpC_X7_circleWith_68 post K54 s v0 v3 v4) : gJ X (cWd G A H0) Q 0 0 s [(0, .ref v0), (3, .int v3), (4, .int v4)] 68 [] := 
  hw (fun (x : CSt × Nat × Int32 × Int32) => (fun s v0 v3 v4 => gJ X (cWd G A H0) Q 0 0 s [(0, .ref v0), (3, .int v3), (4, .int v4)] 68 []) x.1 x.2.1 x.2.2.1 x.2.2.2) (fun x hx => wkC_X7_circleWith_68_F C hsz hR hret hK54 (K68 := (fun s v0 v3 v4 => gJ X (cWd G A H0) Q 0 0 s [(0, .ref v0), (3, .int v3), (4, .int v4)] 68 [])) (fun _ _ _ _ h => h) x.1 x.2.1 x.2.2.1 x.2.2.2 hx)
theorem wkC_X7_circleWith_54_F {X : gT} {G : cG} {A : Nat → Prop} {H0 : Heap} {Q : State → Prop} (C : cC X cX7_circleWith 6 RX7 G A) (hsz : H0 = (g_s X).heap) (hR : 3 ≤ (g_R X).frames ∧ 64 ≤ (g_R X).locals ∧ 0 ≤ (g_R X).cells ∧ 0 ≤ (g_R X).slots) {post : Int32 → CSt → Prop} (hret : ∀ (r : Int32) (τ : CSt) (lv : List (Nat × Value)) (pc : Nat), post r τ → narrow .int (.int r) = .int r → decode cX7_circleWith pc = .ok (.ireturn, 1) → gJ X (cWd G A H0) Q 0 0 τ lv pc [.int r]) {K54 : CSt → Nat → Int32 → Prop} (hK54 : ∀ (s : CSt) (v0 : Nat) (v3 : Int32), K54 s v0 v3 → gJ X (cWd G A H0) Q 0 0 s [(0, .ref v0), (3, .int v3)] 54 []) (s : CSt) (v0 : Nat) (v3 : Int32) (hw : wpC_X7_circleWith_54_F post K54 s v0 v3) : gJ X (cWd G A H0) Q 0 0 s [(0, .ref v0), (3, .int v3)] 54 [] := by
  refine g_iload_n C.1 1 dX7_circleWith_54 rfl rfl ?_
  refine g_aload_n C.1 0 dX7_circleWith_55 rfl rfl ?_
  refine c_get7 C hw.1 1 (by decide) kC_395 (fun _ h => h) rfl dX7_circleWith_56 ?_
  replace hw := hw.2
  obtain ⟨a28, ha28, hw⟩ := hw
  rw [ha28]
  refine c_callVi (vs := []) C hsz (cC_Jx4a65c_size_8abf5 (g_l X) G s _ _ hw.2) kC_13 kC_431 kC_11 kC_12 kC_14 hdC_Jx4a65c_size_8abf5 (c_recv0 C hw.1) ⟨(Nat.le_trans (Nat.le_of_ble_eq_true rfl) hR.1), (Nat.le_trans (Nat.le_of_ble_eq_true rfl) hR.2.1)⟩ ⟨(Nat.le_trans (Nat.le_of_ble_eq_true rfl) hR.2.2.1), (Nat.le_trans (Nat.le_of_ble_eq_true rfl) hR.2.2.2)⟩ dX7_circleWith_59 rfl (Nat.le_of_ble_eq_true rfl) (fun r30 s29 hw => ?_)
  refine g_icmp_ge (tgt := 142) C.1 dX7_circleWith_62 (by decide) (fun h31 => ?_) (fun h31 => ?_)
  · replace hw := hw.1 h31
    refine g_iconst (v := 0) C.1 dX7_circleWith_142 (by decide) ?_
    refine g_istore_n (lv' := [(3, .int 0), (0, .ref v0)]) C.1 dX7_circleWith_143 rfl (by decide) rfl ?_
    refine g_iconst (v := 0) C.1 dX7_circleWith_144 (by decide) ?_
    refine g_istore (lv' := [(4, .int 0), (3, .int 0), (0, .ref v0)]) C.1 dX7_circleWith_145 (by decide) rfl ?_
    refine gJ.sub [2, 1, 0] rfl ?_
    exact wkC_X7_circleWith_147 C hsz hR hret _ _ _ _ hw
  · replace hw := hw.2 h31
    refine g_iconst (v := 0) C.1 dX7_circleWith_65 (by decide) ?_
    refine g_istore (lv' := [(4, .int 0), (0, .ref v0), (3, .int v3)]) C.1 dX7_circleWith_66 (by decide) rfl ?_
    refine gJ.sub [1, 2, 0] rfl ?_
    exact wkC_X7_circleWith_68 C hsz hR hret hK54 _ _ _ _ hw
theorem wkC_X7_circleWith_54 {X : gT} {G : cG} {A : Nat → Prop} {H0 : Heap} {Q : State → Prop} (C : cC X cX7_circleWith 6 RX7 G A) (hsz : H0 = (g_s X).heap) (hR : 3 ≤ (g_R X).frames ∧ 64 ≤ (g_R X).locals ∧ 0 ≤ (g_R X).cells ∧ 0 ≤ (g_R X).slots) {post : Int32 → CSt → Prop} (hret : ∀ (r : Int32) (τ : CSt) (lv : List (Nat × Value)) (pc : Nat), post r τ → narrow .int (.int r) = .int r → decode cX7_circleWith pc = .ok (.ireturn, 1) → gJ X (cWd G A H0) Q 0 0 τ lv pc [.int r]) (s : CSt) (v0 : Nat) (v3 : Int32) (hw : wpC_X7_circleWith_54 post s v0 v3) : gJ X (cWd G A H0) Q 0 0 s [(0, .ref v0), (3, .int v3)] 54 [] := 
  hw (fun (x : CSt × Nat × Int32) => (fun s v0 v3 => gJ X (cWd G A H0) Q 0 0 s [(0, .ref v0), (3, .int v3)] 54 []) x.1 x.2.1 x.2.2) (fun x hx => wkC_X7_circleWith_54_F C hsz hR hret (K54 := (fun s v0 v3 => gJ X (cWd G A H0) Q 0 0 s [(0, .ref v0), (3, .int v3)] 54 [])) (fun _ _ _ h => h) x.1 x.2.1 x.2.2 hx)
theorem wkC_X7_circleWith_43 {X : gT} {G : cG} {A : Nat → Prop} {H0 : Heap} {Q : State → Prop} (C : cC X cX7_circleWith 6 RX7 G A) (hsz : H0 = (g_s X).heap) (hR : 3 ≤ (g_R X).frames ∧ 64 ≤ (g_R X).locals ∧ 0 ≤ (g_R X).cells ∧ 0 ≤ (g_R X).slots) {post : Int32 → CSt → Prop} (hret : ∀ (r : Int32) (τ : CSt) (lv : List (Nat × Value)) (pc : Nat), post r τ → narrow .int (.int r) = .int r → decode cX7_circleWith pc = .ok (.ireturn, 1) → gJ X (cWd G A H0) Q 0 0 τ lv pc [.int r]) {K2 : CSt → Nat → Nat → Int32 → Int32 → Prop} (hK2 : ∀ (s : CSt) (v0 : Nat) (v1 : Nat) (v2 : Int32) (v3 : Int32), K2 s v0 v1 v2 v3 → gJ X (cWd G A H0) Q 0 0 s [(0, .ref v0), (1, .ref v1), (2, .int v2), (3, .int v3)] 2 []) (s : CSt) (v0 : Nat) (v1 : Nat) (v2 : Int32) (v3 : Int32) (w0 : Nat) (w1 : Int32) (hw : wpC_X7_circleWith_43 post K2 s v0 v1 v2 v3 w0 w1) : gJ X (cWd G A H0) Q 0 0 s [(0, .ref v0), (1, .ref v1), (2, .int v2), (3, .int v3)] 43 [.int w1, .ref w0] := by
  refine c_put6 C (τ := csI s 105 w0 w1) hw.1 9 (by decide) kC_474 (fun _ h => h) rfl (ty := .int) (by decide +kernel) rfl rfl rfl hw.1.2 rfl (cx_6_9 _ _ _) (fun _ hb => csI_o hb) dX7_circleWith_43 ?_
  replace hw := hw.2
  refine gJ.nm (fun s32 es32 => ?_)
  replace hw := hw s32 es32
  refine g_iinc (v := v3 + 1) (lv' := [(3, .int (v3 + 1)), (0, .ref v0), (1, .ref v1), (2, .int v2)]) C.1 3 dX7_circleWith_46 rfl rfl (by decide) rfl ?_
  refine g_goto (tgt := 2) C.1 dX7_circleWith_49 (by decide) ?_
  refine gJ.sub [1, 2, 3, 0] rfl ?_
  exact hK2 _ _ _ _ _ hw
theorem wkC_X7_circleWith_2_F {X : gT} {G : cG} {A : Nat → Prop} {H0 : Heap} {Q : State → Prop} (C : cC X cX7_circleWith 6 RX7 G A) (hsz : H0 = (g_s X).heap) (hR : 3 ≤ (g_R X).frames ∧ 64 ≤ (g_R X).locals ∧ 0 ≤ (g_R X).cells ∧ 0 ≤ (g_R X).slots) {post : Int32 → CSt → Prop} (hret : ∀ (r : Int32) (τ : CSt) (lv : List (Nat × Value)) (pc : Nat), post r τ → narrow .int (.int r) = .int r → decode cX7_circleWith pc = .ok (.ireturn, 1) → gJ X (cWd G A H0) Q 0 0 τ lv pc [.int r]) {K2 : CSt → Nat → Nat → Int32 → Int32 → Prop} (hK2 : ∀ (s : CSt) (v0 : Nat) (v1 : Nat) (v2 : Int32) (v3 : Int32), K2 s v0 v1 v2 v3 → gJ X (cWd G A H0) Q 0 0 s [(0, .ref v0), (1, .ref v1), (2, .int v2), (3, .int v3)] 2 []) (s : CSt) (v0 : Nat) (v1 : Nat) (v2 : Int32) (v3 : Int32) (hw : wpC_X7_circleWith_2_F post K2 s v0 v1 v2 v3) : gJ X (cWd G A H0) Q 0 0 s [(0, .ref v0), (1, .ref v1), (2, .int v2), (3, .int v3)] 2 [] := by
  refine g_iload_n C.1 3 dX7_circleWith_2 rfl rfl ?_
  refine g_aload_n C.1 0 dX7_circleWith_3 rfl rfl ?_
  refine c_get7 C hw.1 1 (by decide) kC_395 (fun _ h => h) rfl dX7_circleWith_4 ?_
  replace hw := hw.2
  obtain ⟨a33, ha33, hw⟩ := hw
  rw [ha33]
  refine c_callVi (vs := []) C hsz (cC_Jx4a65c_size_8abf5 (g_l X) G s _ _ hw.2) kC_13 kC_431 kC_11 kC_12 kC_14 hdC_Jx4a65c_size_8abf5 (c_recv0 C hw.1) ⟨(Nat.le_trans (Nat.le_of_ble_eq_true rfl) hR.1), (Nat.le_trans (Nat.le_of_ble_eq_true rfl) hR.2.1)⟩ ⟨(Nat.le_trans (Nat.le_of_ble_eq_true rfl) hR.2.2.1), (Nat.le_trans (Nat.le_of_ble_eq_true rfl) hR.2.2.2)⟩ dX7_circleWith_7 rfl (Nat.le_of_ble_eq_true rfl) (fun r35 s34 hw => ?_)
  refine g_icmp_ge (tgt := 52) C.1 dX7_circleWith_10 (by decide) (fun h36 => ?_) (fun h36 => ?_)
  · replace hw := hw.1 h36
    refine g_iconst (v := 0) C.1 dX7_circleWith_52 (by decide) ?_
    refine g_istore_n (lv' := [(3, .int 0), (0, .ref v0), (1, .ref v1), (2, .int v2)]) C.1 dX7_circleWith_53 rfl (by decide) rfl ?_
    refine gJ.sub [1, 0] rfl ?_
    exact wkC_X7_circleWith_54 C hsz hR hret _ _ _ hw
  · replace hw := hw.2 h36
    refine g_aload_n C.1 0 dX7_circleWith_13 rfl rfl ?_
    refine c_get7 C hw.1 1 (by decide) kC_395 (fun _ h => h) rfl dX7_circleWith_14 ?_
    replace hw := hw.2
    obtain ⟨a37, ha37, hw⟩ := hw
    rw [ha37]
    refine g_iload_n C.1 3 dX7_circleWith_17 rfl rfl ?_
    refine c_callVq (vs := [.int v3]) C hsz (cC_Jx4a65c_get_915e3 (g_l X) G s34 _ _ _ hw.2) kC_13 kC_455 kC_17 kC_18 kC_19 hdC_Jx4a65c_get_915e3 (c_recv0 C hw.1) ⟨(Nat.le_trans (Nat.le_of_ble_eq_true rfl) hR.1), (Nat.le_trans (Nat.le_of_ble_eq_true rfl) hR.2.1)⟩ ⟨(Nat.le_trans (Nat.le_of_ble_eq_true rfl) hR.2.2.1), (Nat.le_trans (Nat.le_of_ble_eq_true rfl) hR.2.2.2)⟩ dX7_circleWith_18 rfl (Nat.le_of_ble_eq_true rfl) (fun r39 s38 hw => ?_)
    obtain ⟨a40, ha40, hw⟩ := hw
    rw [ha40]
    refine c_cast6 C hw.1 kC_470 dX7_circleWith_21 ?_
    replace hw := hw.2
    refine g_astore (lv' := [(4, .ref a40), (0, .ref v0), (1, .ref v1), (2, .int v2), (3, .int v3)]) C.1 dX7_circleWith_24 (by decide) rfl ?_
    refine g_aload C.1 0 dX7_circleWith_26 rfl ?_
    refine g_aload C.1 0 dX7_circleWith_28 rfl ?_
    refine g_aload_n C.1 2 dX7_circleWith_30 rfl rfl ?_
    refine g_acmp_ne (rx := some a40) (ry := some v1) (tgt := 38) C.1 dX7_circleWith_31 (by decide) (fun h41 => ?_) (fun h41 => ?_)
    · replace hw := hw.1 (fun e => h41 (congrArg some e))
      refine g_aload C.1 0 dX7_circleWith_38 rfl ?_
      refine c_get6 C hw.1 7 (by decide) kC_473 (fun _ h => h) rfl dX7_circleWith_40 ?_
      replace hw := hw.2
      refine gJ.sub [1, 2, 3, 4] rfl ?_
      exact wkC_X7_circleWith_43 C hsz hR hret hK2 _ _ _ _ _ _ _ hw
    · replace hw := hw.2 (Option.some.inj h41)
      refine g_iload_n C.1 3 dX7_circleWith_34 rfl rfl ?_
      refine g_goto (tgt := 43) C.1 dX7_circleWith_35 (by decide) ?_
      refine gJ.sub [1, 2, 3, 4] rfl ?_
      exact wkC_X7_circleWith_43 C hsz hR hret hK2 _ _ _ _ _ _ _ hw
theorem wkC_X7_circleWith_2 {X : gT} {G : cG} {A : Nat → Prop} {H0 : Heap} {Q : State → Prop} (C : cC X cX7_circleWith 6 RX7 G A) (hsz : H0 = (g_s X).heap) (hR : 3 ≤ (g_R X).frames ∧ 64 ≤ (g_R X).locals ∧ 0 ≤ (g_R X).cells ∧ 0 ≤ (g_R X).slots) {post : Int32 → CSt → Prop} (hret : ∀ (r : Int32) (τ : CSt) (lv : List (Nat × Value)) (pc : Nat), post r τ → narrow .int (.int r) = .int r → decode cX7_circleWith pc = .ok (.ireturn, 1) → gJ X (cWd G A H0) Q 0 0 τ lv pc [.int r]) (s : CSt) (v0 : Nat) (v1 : Nat) (v2 : Int32) (v3 : Int32) (hw : wpC_X7_circleWith_2 post s v0 v1 v2 v3) : gJ X (cWd G A H0) Q 0 0 s [(0, .ref v0), (1, .ref v1), (2, .int v2), (3, .int v3)] 2 [] := 
  hw (fun (x : CSt × Nat × Nat × Int32 × Int32) => (fun s v0 v1 v2 v3 => gJ X (cWd G A H0) Q 0 0 s [(0, .ref v0), (1, .ref v1), (2, .int v2), (3, .int v3)] 2 []) x.1 x.2.1 x.2.2.1 x.2.2.2.1 x.2.2.2.2) (fun x hx => wkC_X7_circleWith_2_F C hsz hR hret (K2 := (fun s v0 v1 v2 v3 => gJ X (cWd G A H0) Q 0 0 s [(0, .ref v0), (1, .ref v1), (2, .int v2), (3, .int v3)] 2 [])) (fun _ _ _ _ _ h => h) x.1 x.2.1 x.2.2.1 x.2.2.2.1 x.2.2.2.2 hx)
theorem wkC_X7_circleWith_0 {X : gT} {G : cG} {A : Nat → Prop} {H0 : Heap} {Q : State → Prop} (C : cC X cX7_circleWith 6 RX7 G A) (hsz : H0 = (g_s X).heap) (hR : 3 ≤ (g_R X).frames ∧ 64 ≤ (g_R X).locals ∧ 0 ≤ (g_R X).cells ∧ 0 ≤ (g_R X).slots) {post : Int32 → CSt → Prop} (hret : ∀ (r : Int32) (τ : CSt) (lv : List (Nat × Value)) (pc : Nat), post r τ → narrow .int (.int r) = .int r → decode cX7_circleWith pc = .ok (.ireturn, 1) → gJ X (cWd G A H0) Q 0 0 τ lv pc [.int r]) (s : CSt) (v0 : Nat) (v1 : Nat) (v2 : Int32) (hw : wpC_X7_circleWith_0 post s v0 v1 v2) : gJ X (cWd G A H0) Q 0 0 s [(0, .ref v0), (1, .ref v1), (2, .int v2)] 0 [] := by
  refine g_iconst (v := 0) C.1 dX7_circleWith_0 (by decide) ?_
  refine g_istore_n (lv' := [(3, .int 0), (0, .ref v0), (1, .ref v1), (2, .int v2)]) C.1 dX7_circleWith_1 rfl (by decide) rfl ?_
  refine gJ.sub [1, 2, 3, 0] rfl ?_
  exact wkC_X7_circleWith_2 C hsz hR hret _ _ _ _ _ hw
theorem hdC_X7_circleWith : yX7_circleWith.cls = RX7 ∧ yX7_circleWith.cls ≠ "java/lang/invoke/MethodHandle" ∧ yX7_circleWith.cls ≠ "java/lang/invoke/VarHandle" ∧ (parseMethodDescriptor yX7_circleWith.desc).map (fun d => d.parameters.length) = some 2 := by decide +kernel
theorem cC_X7_circleWith (l : Launch) (G : cG) (s : CSt) (v0 : Nat) (v1 : Nat) (v2 : Int32) (post : Int32 → CSt → Prop) (hw : wpC_X7_circleWith_0 post s v0 v1 v2) : cMi l yX7_circleWith cX7_circleWith 6 .int 3 64 0 0 G s [.ref v0, .ref v1, .int v2] post := cMi_of (by decide +kernel) rfl (Nat.le_of_ble_eq_true rfl) (fun X A H0 Q hl hR hsz hnm C hret => wkC_X7_circleWith_0 C hsz hR hret s v0 v1 v2 hw)
def wpC_X7_unrule_0 (post : Int32 → CSt → Prop) (pX : String → CSt → Prop) (s : CSt) (v0 : Nat) (v1 : Int32) : Prop := cAt s 7 v0 ∧ wpC_X7_slopeAt_0 (fun r2 s1 => ∃ a3 : Nat, r2 = some a3 ∧ cAt s1 6 a3 ∧ cAt s1 6 a3 ∧ ∀ s4 : CSt, s4 = csI s1 102 a3 0 → cAt s4 6 a3 ∧ ∀ s5 : CSt, s5 = csI s4 103 a3 0 → narrow .boolean (.int (cI s1 102 a3)) = .int (cI s1 102 a3) ∧ post (cI s1 102 a3) s5) pX s v0 v1
theorem wkC_X7_unrule_0 {X : gT} {G : cG} {A : Nat → Prop} {H0 : Heap} {Q : State → Prop} (C : cC X cX7_unrule 4 RX7 G A) (hsz : H0 = (g_s X).heap) (hR : 7 ≤ (g_R X).frames ∧ 110 ≤ (g_R X).locals ∧ 1 ≤ (g_R X).cells ∧ 6 ≤ (g_R X).slots) {pX : String → CSt → Prop} (hfl : (g_l X).stackTraces = false) (hout : ∀ (E : String) (τ : CSt) (lv : List (Nat × Value)) (pc k n : Nat) (rest : List Value), pX E τ → k ≤ 1 → n ≤ 6 → gX X (cWd G A H0) Q k n τ lv pc rest E) (hthr : ∀ (j : Nat) (τ : CSt) (lv : List (Nat × Value)) (pc k n ik : Nat) (rest : List Value), j < 5 → pX (cNm j) τ → k + 1 ≤ 1 → n + 6 ≤ 6 → (rest.map fun v => v.category).sum ≤ 8 → Cond.classLink RX7 ik (cNm j) ∈ wC → Cond.initialized (cNm j) ∈ wC → decode cX7_unrule pc = .ok (.new ik, 3) → decode cX7_unrule (pc + 3) = .ok (.dup, 1) → decode cX7_unrule (pc + 4) = .ok (.invokespecial (cNi j), 3) → decode cX7_unrule (pc + 7) = .ok (.athrow, 1) → gJ X (cWd G A H0) Q k n τ lv pc rest) {post : Int32 → CSt → Prop} (hret : ∀ (r : Int32) (τ : CSt) (lv : List (Nat × Value)) (pc : Nat), post r τ → narrow .boolean (.int r) = .int r → decode cX7_unrule pc = .ok (.ireturn, 1) → gJ X (cWd G A H0) Q 1 6 τ lv pc [.int r]) (s : CSt) (v0 : Nat) (v1 : Int32) (hw : wpC_X7_unrule_0 post pX s v0 v1) : gJ X (cWd G A H0) Q 0 0 s [(0, .ref v0), (1, .int v1)] 0 [] := by
  refine g_aload_n C.1 0 dX7_unrule_0 rfl rfl ?_
  refine g_iload_n C.1 1 dX7_unrule_1 rfl rfl ?_
  refine c_throwVq (vs := [.int v1]) C hsz (cC_X7_slopeAt (g_l X) hfl G s _ _ _ _ hw.2) kC_412 kC_485 kC_486 kC_487 kC_471 hdC_X7_slopeAt (c_recv7 C hw.1) ⟨(Nat.le_trans (Nat.le_of_ble_eq_true rfl) hR.1), (Nat.le_trans (Nat.le_of_ble_eq_true rfl) hR.2.1)⟩ ⟨(Nat.le_trans (Nat.le_of_ble_eq_true rfl) hR.2.2.1), (Nat.le_trans (Nat.le_of_ble_eq_true rfl) hR.2.2.2)⟩ dX7_unrule_2 rfl (Nat.le_of_ble_eq_true rfl) (fun E τ h => hout E τ _ _ _ _ _ h (Nat.le_of_ble_eq_true rfl) (Nat.le_of_ble_eq_true rfl)) (fun r2 s1 hw => ?_)
  refine g_qstore_n (lv' := [(2, va_rf r2), (0, .ref v0), (1, .int v1)]) C.1 dX7_unrule_5 rfl (by decide) rfl ?_
  refine g_qload_n C.1 0 dX7_unrule_6 rfl rfl ?_
  obtain ⟨a3, ha3, hw⟩ := hw
  rw [ha3]
  refine c_get6 C hw.1 6 (by decide) kC_483 (fun _ h => h) rfl dX7_unrule_7 ?_
  replace hw := hw.2
  refine g_istore_n (lv' := [(3, .int (cI s1 102 a3)), (2, .ref a3), (0, .ref v0), (1, .int v1)]) C.1 dX7_unrule_10 rfl (by decide) rfl ?_
  refine g_aload_n C.1 1 dX7_unrule_11 rfl rfl ?_
  refine g_iconst (v := 0) C.1 dX7_unrule_12 (by decide) ?_
  refine c_put6 C (τ := csI s1 102 a3 0) hw.1 6 (by decide) kC_483 (fun _ h => h) rfl (ty := .boolean) (by decide +kernel) rfl rfl rfl hw.1.2 rfl (cx_6_6 _ _ _) (fun _ hb => csI_o hb) dX7_unrule_13 ?_
  replace hw := hw.2
  refine gJ.nm (fun s4 es4 => ?_)
  replace hw := hw s4 es4
  refine g_aload_n C.1 1 dX7_unrule_16 rfl rfl ?_
  refine g_iconst (v := 0) C.1 dX7_unrule_17 (by decide) ?_
  refine c_put6 C (τ := csI s4 103 a3 0) hw.1 7 (by decide) kC_473 (fun _ h => h) rfl (ty := .int) (by decide +kernel) rfl rfl rfl hw.1.2 rfl (cx_6_7 _ _ _) (fun _ hb => csI_o hb) dX7_unrule_18 ?_
  replace hw := hw.2
  refine gJ.nm (fun s5 es5 => ?_)
  replace hw := hw s5 es5
  refine g_iload_n C.1 0 dX7_unrule_21 rfl rfl ?_
  exact hret _ _ _ _ hw.2 hw.1 dX7_unrule_22
theorem hdC_X7_unrule : yX7_unrule.cls = RX7 ∧ yX7_unrule.cls ≠ "java/lang/invoke/MethodHandle" ∧ yX7_unrule.cls ≠ "java/lang/invoke/VarHandle" ∧ (parseMethodDescriptor yX7_unrule.desc).map (fun d => d.parameters.length) = some 1 := by decide +kernel
theorem cC_X7_unrule (l : Launch) (hfl : l.stackTraces = false) (G : cG) (s : CSt) (v0 : Nat) (v1 : Int32) (post : Int32 → CSt → Prop) (pX : String → CSt → Prop) (hw : wpC_X7_unrule_0 post pX s v0 v1) : cTi l yX7_unrule cX7_unrule 4 .boolean 7 110 1 6 G s [.ref v0, .int v1] post pX := cTi_of hfl (by decide +kernel) rfl rfl (Nat.le_of_ble_eq_true rfl) ⟨by decide, by decide, by decide, by decide⟩ (fun X A H0 Q hl hR hsz C hret hout hthr => wkC_X7_unrule_0 C hsz hR (by rw [hl]; exact hfl) hout hthr hret s v0 v1 hw)
def wpC_X7_fault_0 (post : Int32 → CSt → Prop) (s : CSt) (v0 : Nat) (v1 : Int32) : Prop := (¬ v1 = 0 → (¬ v1 = 1 → post (-1) s) ∧ (v1 = 1 → cAt s 7 v0 ∧ post (cI s 123 v0) s)) ∧ (v1 = 0 → cAt s 7 v0 ∧ post (cI s 122 v0) s)
theorem wkC_X7_fault_0 {X : gT} {G : cG} {A : Nat → Prop} {H0 : Heap} {Q : State → Prop} (C : cC X cX7_fault 2 RX7 G A) (hsz : H0 = (g_s X).heap) (hR : 0 ≤ (g_R X).frames ∧ 0 ≤ (g_R X).locals ∧ 0 ≤ (g_R X).cells ∧ 0 ≤ (g_R X).slots) {post : Int32 → CSt → Prop} (hret : ∀ (r : Int32) (τ : CSt) (lv : List (Nat × Value)) (pc : Nat), post r τ → narrow .int (.int r) = .int r → decode cX7_fault pc = .ok (.ireturn, 1) → gJ X (cWd G A H0) Q 0 0 τ lv pc [.int r]) (s : CSt) (v0 : Nat) (v1 : Int32) (hw : wpC_X7_fault_0 post s v0 v1) : gJ X (cWd G A H0) Q 0 0 s [(0, .ref v0), (1, .int v1)] 0 [] := by
  refine g_iload_n C.1 1 dX7_fault_0 rfl rfl ?_
  refine g_if_ne (tgt := 9) C.1 dX7_fault_1 (by decide) (fun h1 => ?_) (fun h1 => ?_)
  · replace hw := hw.1 h1
    refine g_iload_n C.1 1 dX7_fault_9 rfl rfl ?_
    refine g_iconst (v := 1) C.1 dX7_fault_10 (by decide) ?_
    refine g_icmp_ne (tgt := 21) C.1 dX7_fault_11 (by decide) (fun h2 => ?_) (fun h2 => ?_)
    · replace hw := hw.1 h2
      refine g_iconst (v := (-1)) C.1 dX7_fault_21 (by decide) ?_
      exact hret _ _ _ _ hw rfl dX7_fault_22
    · replace hw := hw.2 h2
      refine g_aload_n C.1 0 dX7_fault_14 rfl rfl ?_
      refine c_get7 C hw.1 11 (by decide) kC_481 (fun _ h => h) rfl dX7_fault_15 ?_
      replace hw := hw.2
      refine g_goto (tgt := 22) C.1 dX7_fault_18 (by decide) ?_
      exact hret _ _ _ _ hw rfl dX7_fault_22
  · replace hw := hw.2 h1
    refine g_aload_n C.1 0 dX7_fault_4 rfl rfl ?_
    refine c_get7 C hw.1 10 (by decide) kC_403 (fun _ h => h) rfl dX7_fault_5 ?_
    replace hw := hw.2
    exact hret _ _ _ _ hw rfl dX7_fault_8
theorem hdC_X7_fault : yX7_fault.cls = RX7 ∧ yX7_fault.cls ≠ "java/lang/invoke/MethodHandle" ∧ yX7_fault.cls ≠ "java/lang/invoke/VarHandle" ∧ (parseMethodDescriptor yX7_fault.desc).map (fun d => d.parameters.length) = some 1 := by decide +kernel
theorem cC_X7_fault (l : Launch) (G : cG) (s : CSt) (v0 : Nat) (v1 : Int32) (post : Int32 → CSt → Prop) (hw : wpC_X7_fault_0 post s v0 v1) : cMi l yX7_fault cX7_fault 2 .int 0 0 0 0 G s [.ref v0, .int v1] post := cMi_of (by decide +kernel) rfl (Nat.le_of_ble_eq_true rfl) (fun X A H0 Q hl hR hsz hnm C hret => wkC_X7_fault_0 C hsz hR hret s v0 v1 hw)
def wpC_X7_passes_131 (post : Int32 → CSt → Prop) (s : CSt) (v0 : Nat) (v2 : Int32) (v4 : Int32) : Prop := cAt s 7 v0 ∧ wpC_X7_compares_0 (fun r2 s1 => narrow .boolean (.int r2) = .int r2 ∧ post r2 s1) s ((cI s 121 v0) / 60) v2 v4
def wpC_X7_passes_0 (post : Int32 → CSt → Prop) (s : CSt) (v0 : Nat) (v1 : Nat) (v2 : Int32) (v3 : Int32) : Prop := ((v2 >>> (24 &&& 31)) = 0 → cAt s 6 v1 ∧ wpC_X6_leastDepth_0 (fun r5 s4 => wpC_X7_compares_0 (fun r7 s6 => narrow .boolean (.int r7) = .int r7 ∧ post r7 s6) s4 (r5 / 100) v2 (v2 &&& 1048575)) s v1) ∧ ((v2 >>> (24 &&& 31)) = 1 → cAt s 7 v0 ∧ wpC_X7_compares_0 (fun r9 s8 => narrow .boolean (.int r9) = .int r9 ∧ post r9 s8) s (cI s 120 v0) v2 (v2 &&& 1048575)) ∧ ((v2 >>> (24 &&& 31)) = 2 → wpC_X7_passes_131 post s v0 v2 (v2 &&& 1048575)) ∧ ((v2 >>> (24 &&& 31)) = 3 → cAt s 6 v1 ∧ wpC_X6_mostWorn_0 (fun r11 s10 => wpC_X7_compares_0 (fun r13 s12 => narrow .boolean (.int r13) = .int r13 ∧ post r13 s12) s10 (r11 / 100) v2 (v2 &&& 1048575)) s v1) ∧ ((v2 >>> (24 &&& 31)) = 4 → wpC_X7_hasBit_0 (fun r15 s14 => narrow .boolean (.int r15) = .int r15 ∧ post r15 s14) s v3 (v2 &&& 1048575)) ∧ ((v2 >>> (24 &&& 31)) = 5 → cAt s 7 v0 ∧ ∃ a16 : Nat, cR s 112 v0 = some a16 ∧ cAt s 0 a16 ∧ wpC_Jx4a65c_size_8abf5_0 (fun r18 s17 => (r18 ≤ (v2 &&& 1048575) → post 0 s17) ∧ (¬ r18 ≤ (v2 &&& 1048575) → cAt s17 7 v0 ∧ ∃ a20 : Nat, cR s17 112 v0 = some a20 ∧ cAt s17 0 a20 ∧ wpC_Jx4a65c_get_915e3_0 (fun r22 s21 => ∃ a23 : Nat, r22 = some a23 ∧ cAt s21 3 a23 ∧ cAt s21 7 v0 ∧ wpC_X7_isRunning_0 (fun r25 s24 => (r25 = 0 → post 0 s24) ∧ (¬ r25 = 0 → post 1 s24)) s21 v0 a23) s17 a20 (v2 &&& 1048575))) s a16) ∧ (((v2 >>> (24 &&& 31))).toInt < 0 ∨ 5 < ((v2 >>> (24 &&& 31))).toInt → wpC_X7_passes_131 post s v0 v2 (v2 &&& 1048575))
theorem wkC_X7_passes_131 {X : gT} {G : cG} {A : Nat → Prop} {H0 : Heap} {Q : State → Prop} (C : cC X cX7_passes 5 RX7 G A) (hsz : H0 = (g_s X).heap) (hR : 4 ≤ (g_R X).frames ∧ 86 ≤ (g_R X).locals ∧ 0 ≤ (g_R X).cells ∧ 0 ≤ (g_R X).slots) {post : Int32 → CSt → Prop} (hret : ∀ (r : Int32) (τ : CSt) (lv : List (Nat × Value)) (pc : Nat), post r τ → narrow .boolean (.int r) = .int r → decode cX7_passes pc = .ok (.ireturn, 1) → gJ X (cWd G A H0) Q 0 0 τ lv pc [.int r]) (s : CSt) (v0 : Nat) (v2 : Int32) (v4 : Int32) (hw : wpC_X7_passes_131 post s v0 v2 v4) : gJ X (cWd G A H0) Q 0 0 s [(0, .ref v0), (2, .int v2), (4, .int v4)] 131 [] := by
  refine g_aload_n C.1 0 dX7_passes_131 rfl rfl ?_
  refine c_get7 C hw.1 9 (by decide) kC_509 (fun _ h => h) rfl dX7_passes_132 ?_
  replace hw := hw.2
  refine g_bipush (v := 60) C.1 dX7_passes_135 (by decide) ?_
  refine g_idiv C.1 dX7_passes_137 (by decide) ?_
  refine g_iload_n C.1 1 dX7_passes_138 rfl rfl ?_
  refine g_iload C.1 2 dX7_passes_139 rfl ?_
  refine c_callSi (vs := [.int ((cI s 121 v0) / 60), .int v2, .int v4]) C hsz (cC_X7_compares (g_l X) G s _ _ _ _ hw) kC_412 kC_513 kC_514 kC_507 hdC_X7_compares ⟨(Nat.le_trans (Nat.le_of_ble_eq_true rfl) hR.1), (Nat.le_trans (Nat.le_of_ble_eq_true rfl) hR.2.1)⟩ ⟨(Nat.le_trans (Nat.le_of_ble_eq_true rfl) hR.2.2.1), (Nat.le_trans (Nat.le_of_ble_eq_true rfl) hR.2.2.2)⟩ dX7_passes_141 rfl (Nat.le_of_ble_eq_true rfl) (fun r2 s1 hw => ?_)
  exact hret _ _ _ _ hw.2 hw.1 dX7_passes_144
theorem wkC_X7_passes_0 {X : gT} {G : cG} {A : Nat → Prop} {H0 : Heap} {Q : State → Prop} (C : cC X cX7_passes 5 RX7 G A) (hsz : H0 = (g_s X).heap) (hR : 4 ≤ (g_R X).frames ∧ 86 ≤ (g_R X).locals ∧ 0 ≤ (g_R X).cells ∧ 0 ≤ (g_R X).slots) {post : Int32 → CSt → Prop} (hret : ∀ (r : Int32) (τ : CSt) (lv : List (Nat × Value)) (pc : Nat), post r τ → narrow .boolean (.int r) = .int r → decode cX7_passes pc = .ok (.ireturn, 1) → gJ X (cWd G A H0) Q 0 0 τ lv pc [.int r]) (s : CSt) (v0 : Nat) (v1 : Nat) (v2 : Int32) (v3 : Int32) (hw : wpC_X7_passes_0 post s v0 v1 v2 v3) : gJ X (cWd G A H0) Q 0 0 s [(0, .ref v0), (1, .ref v1), (2, .int v2), (3, .int v3)] 0 [] := by
  refine g_iload_n C.1 2 dX7_passes_0 rfl rfl ?_
  refine g_ldc (v := 1048575) C.1 C.2.1 (C.2.2.1 _ kC_508) dX7_passes_1 ?_
  refine g_iand C.1 dX7_passes_3 ?_
  refine g_istore (lv' := [(4, .int (v2 &&& 1048575)), (0, .ref v0), (1, .ref v1), (2, .int v2), (3, .int v3)]) C.1 dX7_passes_4 (by decide) rfl ?_
  refine g_iload_n C.1 3 dX7_passes_6 rfl rfl ?_
  refine g_bipush (v := 24) C.1 dX7_passes_7 (by decide) ?_
  refine g_ishr C.1 dX7_passes_9 ?_
  by_cases h3a : ((v2 >>> (24 &&& 31))).toInt < 0
  · replace hw := hw.2.2.2.2.2.2 (Or.inl h3a)
    refine g_tableOut (tgt := 131) C.1 dX7_passes_10 (Or.inl h3a) (by decide) ?_
    refine gJ.sub [1, 3, 0] rfl ?_
    exact wkC_X7_passes_131 C hsz hR hret _ _ _ _ hw
  by_cases h3b : 5 < ((v2 >>> (24 &&& 31))).toInt
  · replace hw := hw.2.2.2.2.2.2 (Or.inr h3b)
    refine g_tableOut (tgt := 131) C.1 dX7_passes_10 (Or.inr h3b) (by decide) ?_
    refine gJ.sub [1, 3, 0] rfl ?_
    exact wkC_X7_passes_131 C hsz hR hret _ _ _ _ hw
  have h3c : ((v2 >>> (24 &&& 31))).toInt = 0 ∨ ((v2 >>> (24 &&& 31))).toInt = 1 ∨ ((v2 >>> (24 &&& 31))).toInt = 2 ∨ ((v2 >>> (24 &&& 31))).toInt = 3 ∨ ((v2 >>> (24 &&& 31))).toInt = 4 ∨ ((v2 >>> (24 &&& 31))).toInt = 5 := by omega
  rcases h3c with h3c | h3c | h3c | h3c | h3c | h3c
  · replace hw := hw.1 (i32_of h3c)
    refine g_tableIn (tgt := 92) (off := 82) C.1 dX7_passes_10 h3a h3b (by rw [h3c]; rfl) (by decide) ?_
    refine g_aload_n C.1 2 dX7_passes_92 rfl rfl ?_
    refine c_callVi (vs := []) C hsz (cC_X6_leastDepth (g_l X) G s _ _ hw.2) kC_447 kC_510 kC_511 kC_512 kC_384 hdC_X6_leastDepth (c_recv6 C hw.1) ⟨(Nat.le_trans (Nat.le_of_ble_eq_true rfl) hR.1), (Nat.le_trans (Nat.le_of_ble_eq_true rfl) hR.2.1)⟩ ⟨(Nat.le_trans (Nat.le_of_ble_eq_true rfl) hR.2.2.1), (Nat.le_trans (Nat.le_of_ble_eq_true rfl) hR.2.2.2)⟩ dX7_passes_93 rfl (Nat.le_of_ble_eq_true rfl) (fun r5 s4 hw => ?_)
    refine g_bipush (v := 100) C.1 dX7_passes_96 (by decide) ?_
    refine g_idiv C.1 dX7_passes_98 (by decide) ?_
    refine g_iload_n C.1 3 dX7_passes_99 rfl rfl ?_
    refine g_iload C.1 0 dX7_passes_100 rfl ?_
    refine c_callSi (vs := [.int (r5 / 100), .int v2, .int (v2 &&& 1048575)]) C hsz (cC_X7_compares (g_l X) G s4 _ _ _ _ hw) kC_412 kC_513 kC_514 kC_507 hdC_X7_compares ⟨(Nat.le_trans (Nat.le_of_ble_eq_true rfl) hR.1), (Nat.le_trans (Nat.le_of_ble_eq_true rfl) hR.2.1)⟩ ⟨(Nat.le_trans (Nat.le_of_ble_eq_true rfl) hR.2.2.1), (Nat.le_trans (Nat.le_of_ble_eq_true rfl) hR.2.2.2)⟩ dX7_passes_102 rfl (Nat.le_of_ble_eq_true rfl) (fun r7 s6 hw => ?_)
    exact hret _ _ _ _ hw.2 hw.1 dX7_passes_105
  · replace hw := hw.2.1 (i32_of h3c)
    refine g_tableIn (tgt := 120) (off := 110) C.1 dX7_passes_10 h3a h3b (by rw [h3c]; rfl) (by decide) ?_
    refine g_aload_n C.1 1 dX7_passes_120 rfl rfl ?_
    refine c_get7 C hw.1 8 (by decide) kC_458 (fun _ h => h) rfl dX7_passes_121 ?_
    replace hw := hw.2
    refine g_iload_n C.1 3 dX7_passes_124 rfl rfl ?_
    refine g_iload C.1 0 dX7_passes_125 rfl ?_
    refine c_callSi (vs := [.int (cI s 120 v0), .int v2, .int (v2 &&& 1048575)]) C hsz (cC_X7_compares (g_l X) G s _ _ _ _ hw) kC_412 kC_513 kC_514 kC_507 hdC_X7_compares ⟨(Nat.le_trans (Nat.le_of_ble_eq_true rfl) hR.1), (Nat.le_trans (Nat.le_of_ble_eq_true rfl) hR.2.1)⟩ ⟨(Nat.le_trans (Nat.le_of_ble_eq_true rfl) hR.2.2.1), (Nat.le_trans (Nat.le_of_ble_eq_true rfl) hR.2.2.2)⟩ dX7_passes_127 rfl (Nat.le_of_ble_eq_true rfl) (fun r9 s8 hw => ?_)
    exact hret _ _ _ _ hw.2 hw.1 dX7_passes_130
  · replace hw := hw.2.2.1 (i32_of h3c)
    refine g_tableIn (tgt := 131) (off := 121) C.1 dX7_passes_10 h3a h3b (by rw [h3c]; rfl) (by decide) ?_
    refine gJ.sub [1, 3, 0] rfl ?_
    exact wkC_X7_passes_131 C hsz hR hret _ _ _ _ hw
  · replace hw := hw.2.2.2.1 (i32_of h3c)
    refine g_tableIn (tgt := 106) (off := 96) C.1 dX7_passes_10 h3a h3b (by rw [h3c]; rfl) (by decide) ?_
    refine g_aload_n C.1 2 dX7_passes_106 rfl rfl ?_
    refine c_callVi (vs := []) C hsz (cC_X6_mostWorn (g_l X) G s _ _ hw.2) kC_447 kC_515 kC_516 kC_517 kC_387 hdC_X6_mostWorn (c_recv6 C hw.1) ⟨(Nat.le_trans (Nat.le_of_ble_eq_true rfl) hR.1), (Nat.le_trans (Nat.le_of_ble_eq_true rfl) hR.2.1)⟩ ⟨(Nat.le_trans (Nat.le_of_ble_eq_true rfl) hR.2.2.1), (Nat.le_trans (Nat.le_of_ble_eq_true rfl) hR.2.2.2)⟩ dX7_passes_107 rfl (Nat.le_of_ble_eq_true rfl) (fun r11 s10 hw => ?_)
    refine g_bipush (v := 100) C.1 dX7_passes_110 (by decide) ?_
    refine g_idiv C.1 dX7_passes_112 (by decide) ?_
    refine g_iload_n C.1 3 dX7_passes_113 rfl rfl ?_
    refine g_iload C.1 0 dX7_passes_114 rfl ?_
    refine c_callSi (vs := [.int (r11 / 100), .int v2, .int (v2 &&& 1048575)]) C hsz (cC_X7_compares (g_l X) G s10 _ _ _ _ hw) kC_412 kC_513 kC_514 kC_507 hdC_X7_compares ⟨(Nat.le_trans (Nat.le_of_ble_eq_true rfl) hR.1), (Nat.le_trans (Nat.le_of_ble_eq_true rfl) hR.2.1)⟩ ⟨(Nat.le_trans (Nat.le_of_ble_eq_true rfl) hR.2.2.1), (Nat.le_trans (Nat.le_of_ble_eq_true rfl) hR.2.2.2)⟩ dX7_passes_116 rfl (Nat.le_of_ble_eq_true rfl) (fun r13 s12 hw => ?_)
    exact hret _ _ _ _ hw.2 hw.1 dX7_passes_119
  · replace hw := hw.2.2.2.2.1 (i32_of h3c)
    refine g_tableIn (tgt := 48) (off := 38) C.1 dX7_passes_10 h3a h3b (by rw [h3c]; rfl) (by decide) ?_
    refine g_iload_n C.1 4 dX7_passes_48 rfl rfl ?_
    refine g_iload C.1 0 dX7_passes_49 rfl ?_
    refine c_callSi (vs := [.int v3, .int (v2 &&& 1048575)]) C hsz (cC_X7_hasBit (g_l X) G s _ _ _ hw) kC_412 kC_475 kC_476 kC_472 hdC_X7_hasBit ⟨(Nat.le_trans (Nat.le_of_ble_eq_true rfl) hR.1), (Nat.le_trans (Nat.le_of_ble_eq_true rfl) hR.2.1)⟩ ⟨(Nat.le_trans (Nat.le_of_ble_eq_true rfl) hR.2.2.1), (Nat.le_trans (Nat.le_of_ble_eq_true rfl) hR.2.2.2)⟩ dX7_passes_51 rfl (Nat.le_of_ble_eq_true rfl) (fun r15 s14 hw => ?_)
    exact hret _ _ _ _ hw.2 hw.1 dX7_passes_54
  · replace hw := hw.2.2.2.2.2.1 (i32_of h3c)
    refine g_tableIn (tgt := 55) (off := 45) C.1 dX7_passes_10 h3a h3b (by rw [h3c]; rfl) (by decide) ?_
    refine g_iload C.1 0 dX7_passes_55 rfl ?_
    refine g_aload_n C.1 1 dX7_passes_57 rfl rfl ?_
    refine c_get7 C hw.1 0 (by decide) kC_394 (fun _ h => h) rfl dX7_passes_58 ?_
    replace hw := hw.2
    obtain ⟨a16, ha16, hw⟩ := hw
    rw [ha16]
    refine c_callVi (vs := []) C hsz (cC_Jx4a65c_size_8abf5 (g_l X) G s _ _ hw.2) kC_13 kC_431 kC_11 kC_12 kC_14 hdC_Jx4a65c_size_8abf5 (c_recv0 C hw.1) ⟨(Nat.le_trans (Nat.le_of_ble_eq_true rfl) hR.1), (Nat.le_trans (Nat.le_of_ble_eq_true rfl) hR.2.1)⟩ ⟨(Nat.le_trans (Nat.le_of_ble_eq_true rfl) hR.2.2.1), (Nat.le_trans (Nat.le_of_ble_eq_true rfl) hR.2.2.2)⟩ dX7_passes_61 rfl (Nat.le_of_ble_eq_true rfl) (fun r18 s17 hw => ?_)
    refine g_icmp_ge (tgt := 90) C.1 dX7_passes_64 (by decide) (fun h19 => ?_) (fun h19 => ?_)
    · replace hw := hw.1 h19
      refine g_iconst (v := 0) C.1 dX7_passes_90 (by decide) ?_
      exact hret _ _ _ _ hw rfl dX7_passes_91
    · replace hw := hw.2 h19
      refine g_aload_n C.1 1 dX7_passes_67 rfl rfl ?_
      refine g_aload_n C.1 1 dX7_passes_68 rfl rfl ?_
      refine c_get7 C hw.1 0 (by decide) kC_394 (fun _ h => h) rfl dX7_passes_69 ?_
      replace hw := hw.2
      obtain ⟨a20, ha20, hw⟩ := hw
      rw [ha20]
      refine g_iload C.1 0 dX7_passes_72 rfl ?_
      refine c_callVq (vs := [.int (v2 &&& 1048575)]) C hsz (cC_Jx4a65c_get_915e3 (g_l X) G s17 _ _ _ hw.2) kC_13 kC_455 kC_17 kC_18 kC_19 hdC_Jx4a65c_get_915e3 (c_recv0 C hw.1) ⟨(Nat.le_trans (Nat.le_of_ble_eq_true rfl) hR.1), (Nat.le_trans (Nat.le_of_ble_eq_true rfl) hR.2.1)⟩ ⟨(Nat.le_trans (Nat.le_of_ble_eq_true rfl) hR.2.2.1), (Nat.le_trans (Nat.le_of_ble_eq_true rfl) hR.2.2.2)⟩ dX7_passes_74 rfl (Nat.le_of_ble_eq_true rfl) (fun r22 s21 hw => ?_)
      obtain ⟨a23, ha23, hw⟩ := hw
      rw [ha23]
      refine c_cast3 C hw.1 kC_454 dX7_passes_77 ?_
      replace hw := hw.2
      refine c_callVi (vs := [.ref a23]) C hsz (cC_X7_isRunning (g_l X) G s21 _ _ _ hw.2) kC_412 kC_464 kC_465 kC_466 kC_460 hdC_X7_isRunning (c_recv7 C hw.1) ⟨(Nat.le_trans (Nat.le_of_ble_eq_true rfl) hR.1), (Nat.le_trans (Nat.le_of_ble_eq_true rfl) hR.2.1)⟩ ⟨(Nat.le_trans (Nat.le_of_ble_eq_true rfl) hR.2.2.1), (Nat.le_trans (Nat.le_of_ble_eq_true rfl) hR.2.2.2)⟩ dX7_passes_80 rfl (Nat.le_of_ble_eq_true rfl) (fun r25 s24 hw => ?_)
      refine g_if_eq (tgt := 90) C.1 dX7_passes_83 (by decide) (fun h26 => ?_) (fun h26 => ?_)
      · replace hw := hw.1 h26
        refine g_iconst (v := 0) C.1 dX7_passes_90 (by decide) ?_
        exact hret _ _ _ _ hw rfl dX7_passes_91
      · replace hw := hw.2 h26
        refine g_iconst (v := 1) C.1 dX7_passes_86 (by decide) ?_
        refine g_goto (tgt := 91) C.1 dX7_passes_87 (by decide) ?_
        exact hret _ _ _ _ hw rfl dX7_passes_91
theorem hdC_X7_passes : yX7_passes.cls = RX7 ∧ yX7_passes.cls ≠ "java/lang/invoke/MethodHandle" ∧ yX7_passes.cls ≠ "java/lang/invoke/VarHandle" ∧ (parseMethodDescriptor yX7_passes.desc).map (fun d => d.parameters.length) = some 3 := by decide +kernel
theorem cC_X7_passes (l : Launch) (G : cG) (s : CSt) (v0 : Nat) (v1 : Nat) (v2 : Int32) (v3 : Int32) (post : Int32 → CSt → Prop) (hw : wpC_X7_passes_0 post s v0 v1 v2 v3) : cMi l yX7_passes cX7_passes 5 .boolean 4 86 0 0 G s [.ref v0, .ref v1, .int v2, .int v3] post := cMi_of (by decide +kernel) rfl (Nat.le_of_ble_eq_true rfl) (fun X A H0 Q hl hR hsz hnm C hret => wkC_X7_passes_0 C hsz hR hret s v0 v1 v2 v3 hw)
def wpC_X7_holds_124 (post : Int32 → CSt → Prop) (K5 : CSt → Nat → Nat → Int32 → Int64 → Int32 → Prop) (s : CSt) (v0 : Nat) (v1 : Nat) (v2 : Int32) (v3 : Int64) (v5 : Int32) : Prop := K5 s v0 v1 v2 v3 (v5 + 1)
def wpC_X7_holds_121 (post : Int32 → CSt → Prop) (K5 : CSt → Nat → Nat → Int32 → Int64 → Int32 → Prop) (s : CSt) (v0 : Nat) (v1 : Nat) (v2 : Int32) (v5 : Int32) (w0 : Int64) (w1 : Int32) : Prop := wpC_X7_holds_124 post K5 s v0 v1 v2 (w0 ||| w1.toInt64) v5
def wpC_X7_holds_5_F (post : Int32 → CSt → Prop) (K5 : CSt → Nat → Nat → Int32 → Int64 → Int32 → Prop) (s : CSt) (v0 : Nat) (v1 : Nat) (v2 : Int32) (v3 : Int64) (v5 : Int32) : Prop := cAt s 6 v1 ∧ ∃ a1 : Nat, cR s 104 v1 = some a1 ∧ cAt s 9 a1 ∧ ((nI (cN s a1)) ≤ v5 → (¬ (lg_cmp (v3 &&& 1) 1) = 0 → post 0 s) ∧ ((lg_cmp (v3 &&& 1) 1) = 0 → post 1 s)) ∧ (¬ (nI (cN s a1)) ≤ v5 → cAt s 6 v1 ∧ ∃ a4 : Nat, cR s 104 v1 = some a4 ∧ cAt s 9 a4 ∧ vp_in v5 (cN s a4) ∧ (¬ ((cV s a4 v5.toNatClampNeg) >>> (24 &&& 31)) = 6 → (¬ ((cV s a4 v5.toNatClampNeg) >>> (24 &&& 31)) = 7 → (¬ ((cV s a4 v5.toNatClampNeg) >>> (24 &&& 31)) = 8 → cAt s 6 v1 ∧ ∃ a8 : Nat, cR s 104 v1 = some a8 ∧ cAt s 9 a8 ∧ vp_in v5 (cN s a8) ∧ cAt s 7 v0 ∧ wpC_X7_passes_0 (fun r10 s9 => (r10 = 0 → wpC_X7_holds_121 post K5 s9 v0 v1 v2 v5 (v3 <<< ((1 : Int32).toInt64 &&& 63)) 0) ∧ (¬ r10 = 0 → wpC_X7_holds_121 post K5 s9 v0 v1 v2 v5 (v3 <<< ((1 : Int32).toInt64 &&& 63)) 1)) s v0 v1 (cV s a8 v5.toNatClampNeg) v2) ∧ (((cV s a4 v5.toNatClampNeg) >>> (24 &&& 31)) = 8 → ∀ x12 : Int64, x12 = (((v3 >>> ((2 : Int32).toInt64 &&& 63)) <<< ((1 : Int32).toInt64 &&& 63)) ||| ((v3 >>> ((1 : Int32).toInt64 &&& 63)) &&& 1)) ||| (v3 &&& 1) → wpC_X7_holds_124 post K5 s v0 v1 v2 x12 v5)) ∧ (((cV s a4 v5.toNatClampNeg) >>> (24 &&& 31)) = 7 → ∀ x13 : Int64, x13 = ((v3 >>> ((2 : Int32).toInt64 &&& 63)) <<< ((1 : Int32).toInt64 &&& 63)) ||| (((v3 >>> ((1 : Int32).toInt64 &&& 63)) &&& 1) &&& (v3 &&& 1)) → wpC_X7_holds_124 post K5 s v0 v1 v2 x13 v5)) ∧ (((cV s a4 v5.toNatClampNeg) >>> (24 &&& 31)) = 6 → wpC_X7_holds_124 post K5 s v0 v1 v2 (v3 ^^^ 1) v5))
def wpC_X7_holds_5 (post : Int32 → CSt → Prop) (s : CSt) (v0 : Nat) (v1 : Nat) (v2 : Int32) (v3 : Int64) (v5 : Int32) : Prop := gLP (fun (K : CSt × Nat × Nat × Int32 × Int64 × Int32 → Prop) (x : CSt × Nat × Nat × Int32 × Int64 × Int32) => wpC_X7_holds_5_F post (fun s v0 v1 v2 v3 v5 => K (s, v0, v1, v2, v3, v5)) x.1 x.2.1 x.2.2.1 x.2.2.2.1 x.2.2.2.2.1 x.2.2.2.2.2) (s, v0, v1, v2, v3, v5)
def wpC_X7_holds_0 (post : Int32 → CSt → Prop) (s : CSt) (v0 : Nat) (v1 : Nat) (v2 : Int32) : Prop := wpC_X7_holds_5 post s v0 v1 v2 0 0
theorem wkC_X7_holds_124 {X : gT} {G : cG} {A : Nat → Prop} {H0 : Heap} {Q : State → Prop} (C : cC X cX7_holds 11 RX7 G A) (hsz : H0 = (g_s X).heap) (hR : 5 ≤ (g_R X).frames ∧ 110 ≤ (g_R X).locals ∧ 0 ≤ (g_R X).cells ∧ 0 ≤ (g_R X).slots) {post : Int32 → CSt → Prop} (hret : ∀ (r : Int32) (τ : CSt) (lv : List (Nat × Value)) (pc : Nat), post r τ → narrow .boolean (.int r) = .int r → decode cX7_holds pc = .ok (.ireturn, 1) → gJ X (cWd G A H0) Q 0 0 τ lv pc [.int r]) {K5 : CSt → Nat → Nat → Int32 → Int64 → Int32 → Prop} (hK5 : ∀ (s : CSt) (v0 : Nat) (v1 : Nat) (v2 : Int32) (v3 : Int64) (v5 : Int32), K5 s v0 v1 v2 v3 v5 → gJ X (cWd G A H0) Q 0 0 s [(0, .ref v0), (1, .ref v1), (2, .int v2), (3, .long v3), (5, .int v5)] 5 []) (s : CSt) (v0 : Nat) (v1 : Nat) (v2 : Int32) (v3 : Int64) (v5 : Int32) (hw : wpC_X7_holds_124 post K5 s v0 v1 v2 v3 v5) : gJ X (cWd G A H0) Q 0 0 s [(0, .ref v0), (1, .ref v1), (2, .int v2), (3, .long v3), (5, .int v5)] 124 [] := by
  refine g_iinc (v := v5 + 1) (lv' := [(5, .int (v5 + 1)), (0, .ref v0), (1, .ref v1), (2, .int v2), (3, .long v3)]) C.1 4 dX7_holds_124 rfl rfl (by decide) rfl ?_
  refine g_goto (tgt := 5) C.1 dX7_holds_127 (by decide) ?_
  refine gJ.sub [1, 2, 3, 4, 0] rfl ?_
  exact hK5 _ _ _ _ _ _ hw
theorem wkC_X7_holds_121 {X : gT} {G : cG} {A : Nat → Prop} {H0 : Heap} {Q : State → Prop} (C : cC X cX7_holds 11 RX7 G A) (hsz : H0 = (g_s X).heap) (hR : 5 ≤ (g_R X).frames ∧ 110 ≤ (g_R X).locals ∧ 0 ≤ (g_R X).cells ∧ 0 ≤ (g_R X).slots) {post : Int32 → CSt → Prop} (hret : ∀ (r : Int32) (τ : CSt) (lv : List (Nat × Value)) (pc : Nat), post r τ → narrow .boolean (.int r) = .int r → decode cX7_holds pc = .ok (.ireturn, 1) → gJ X (cWd G A H0) Q 0 0 τ lv pc [.int r]) {K5 : CSt → Nat → Nat → Int32 → Int64 → Int32 → Prop} (hK5 : ∀ (s : CSt) (v0 : Nat) (v1 : Nat) (v2 : Int32) (v3 : Int64) (v5 : Int32), K5 s v0 v1 v2 v3 v5 → gJ X (cWd G A H0) Q 0 0 s [(0, .ref v0), (1, .ref v1), (2, .int v2), (3, .long v3), (5, .int v5)] 5 []) (s : CSt) (v0 : Nat) (v1 : Nat) (v2 : Int32) (v5 : Int32) (w0 : Int64) (w1 : Int32) (hw : wpC_X7_holds_121 post K5 s v0 v1 v2 v5 w0 w1) : gJ X (cWd G A H0) Q 0 0 s [(0, .ref v0), (1, .ref v1), (2, .int v2), (5, .int v5)] 121 [.int w1, .long w0] := by
  refine g_i2l C.1 dX7_holds_121 ?_
  refine g_lor C.1 dX7_holds_122 ?_
  refine g_lstore_n (lv' := [(3, .long (w0 ||| w1.toInt64)), (0, .ref v0), (1, .ref v1), (2, .int v2), (5, .int v5)]) C.1 dX7_holds_123 rfl (by decide) rfl ?_
  refine gJ.sub [1, 2, 3, 0, 4] rfl ?_
  exact wkC_X7_holds_124 C hsz hR hret hK5 _ _ _ _ _ _ hw
theorem wkC_X7_holds_5_F {X : gT} {G : cG} {A : Nat → Prop} {H0 : Heap} {Q : State → Prop} (C : cC X cX7_holds 11 RX7 G A) (hsz : H0 = (g_s X).heap) (hR : 5 ≤ (g_R X).frames ∧ 110 ≤ (g_R X).locals ∧ 0 ≤ (g_R X).cells ∧ 0 ≤ (g_R X).slots) {post : Int32 → CSt → Prop} (hret : ∀ (r : Int32) (τ : CSt) (lv : List (Nat × Value)) (pc : Nat), post r τ → narrow .boolean (.int r) = .int r → decode cX7_holds pc = .ok (.ireturn, 1) → gJ X (cWd G A H0) Q 0 0 τ lv pc [.int r]) {K5 : CSt → Nat → Nat → Int32 → Int64 → Int32 → Prop} (hK5 : ∀ (s : CSt) (v0 : Nat) (v1 : Nat) (v2 : Int32) (v3 : Int64) (v5 : Int32), K5 s v0 v1 v2 v3 v5 → gJ X (cWd G A H0) Q 0 0 s [(0, .ref v0), (1, .ref v1), (2, .int v2), (3, .long v3), (5, .int v5)] 5 []) (s : CSt) (v0 : Nat) (v1 : Nat) (v2 : Int32) (v3 : Int64) (v5 : Int32) (hw : wpC_X7_holds_5_F post K5 s v0 v1 v2 v3 v5) : gJ X (cWd G A H0) Q 0 0 s [(0, .ref v0), (1, .ref v1), (2, .int v2), (3, .long v3), (5, .int v5)] 5 [] := by
  refine g_iload C.1 4 dX7_holds_5 rfl ?_
  refine g_aload_n C.1 1 dX7_holds_7 rfl rfl ?_
  refine c_get6 C hw.1 8 (by decide) kC_484 (fun _ h => h) rfl dX7_holds_8 ?_
  replace hw := hw.2
  obtain ⟨a1, ha1, hw⟩ := hw
  rw [ha1]
  refine c_ilen C hw.1 dX7_holds_11 ?_
  replace hw := hw.2
  refine g_icmp_ge (tgt := 130) C.1 dX7_holds_12 (by decide) (fun h2 => ?_) (fun h2 => ?_)
  · replace hw := hw.1 h2
    refine g_lload_n C.1 3 dX7_holds_130 rfl rfl ?_
    refine g_lconst (v := 1) C.1 dX7_holds_131 (by decide) ?_
    refine g_land C.1 dX7_holds_132 ?_
    refine g_lconst (v := 1) C.1 dX7_holds_133 (by decide) ?_
    refine g_lcmp C.1 dX7_holds_134 ?_
    refine g_if_ne (tgt := 142) C.1 dX7_holds_135 (by decide) (fun h3 => ?_) (fun h3 => ?_)
    · replace hw := hw.1 h3
      refine g_iconst (v := 0) C.1 dX7_holds_142 (by decide) ?_
      exact hret _ _ _ _ hw rfl dX7_holds_143
    · replace hw := hw.2 h3
      refine g_iconst (v := 1) C.1 dX7_holds_138 (by decide) ?_
      refine g_goto (tgt := 143) C.1 dX7_holds_139 (by decide) ?_
      exact hret _ _ _ _ hw rfl dX7_holds_143
  · replace hw := hw.2 h2
    refine g_aload_n C.1 1 dX7_holds_15 rfl rfl ?_
    refine c_get6 C hw.1 8 (by decide) kC_484 (fun _ h => h) rfl dX7_holds_16 ?_
    replace hw := hw.2
    obtain ⟨a4, ha4, hw⟩ := hw
    rw [ha4]
    refine g_iload C.1 4 dX7_holds_19 rfl ?_
    refine c_iald C hw.1 hw.2.1 dX7_holds_21 ?_
    replace hw := hw.2.2
    refine g_bipush (v := 24) C.1 dX7_holds_22 (by decide) ?_
    refine g_ishr C.1 dX7_holds_24 ?_
    refine g_istore (lv' := [(6, .int ((cV s a4 v5.toNatClampNeg) >>> (24 &&& 31))), (0, .ref v0), (1, .ref v1), (2, .int v2), (3, .long v3), (5, .int v5)]) C.1 dX7_holds_25 (by decide) rfl ?_
    refine g_lload_n C.1 4 dX7_holds_27 rfl rfl ?_
    refine g_lconst (v := 1) C.1 dX7_holds_28 (by decide) ?_
    refine g_land C.1 dX7_holds_29 ?_
    refine g_lstore (lv' := [(7, .long (v3 &&& 1)), (6, .int ((cV s a4 v5.toNatClampNeg) >>> (24 &&& 31))), (0, .ref v0), (1, .ref v1), (2, .int v2), (3, .long v3), (5, .int v5)]) C.1 dX7_holds_30 (by decide) rfl ?_
    refine g_lload_n C.1 5 dX7_holds_32 rfl rfl ?_
    refine g_iconst (v := 1) C.1 dX7_holds_33 (by decide) ?_
    refine g_lshr C.1 dX7_holds_34 ?_
    refine g_lconst (v := 1) C.1 dX7_holds_35 (by decide) ?_
    refine g_land C.1 dX7_holds_36 ?_
    refine g_lstore (lv' := [(9, .long ((v3 >>> ((1 : Int32).toInt64 &&& 63)) &&& 1)), (7, .long (v3 &&& 1)), (6, .int ((cV s a4 v5.toNatClampNeg) >>> (24 &&& 31))), (0, .ref v0), (1, .ref v1), (2, .int v2), (3, .long v3), (5, .int v5)]) C.1 dX7_holds_37 (by decide) rfl ?_
    refine g_iload C.1 2 dX7_holds_39 rfl ?_
    refine g_bipush (v := 6) C.1 dX7_holds_41 (by decide) ?_
    refine g_icmp_ne (tgt := 53) C.1 dX7_holds_43 (by decide) (fun h5 => ?_) (fun h5 => ?_)
    · replace hw := hw.1 h5
      refine g_iload C.1 2 dX7_holds_53 rfl ?_
      refine g_bipush (v := 7) C.1 dX7_holds_55 (by decide) ?_
      refine g_icmp_ne (tgt := 75) C.1 dX7_holds_57 (by decide) (fun h6 => ?_) (fun h6 => ?_)
      · replace hw := hw.1 h6
        refine g_iload C.1 2 dX7_holds_75 rfl ?_
        refine g_bipush (v := 8) C.1 dX7_holds_77 (by decide) ?_
        refine g_icmp_ne (tgt := 97) C.1 dX7_holds_79 (by decide) (fun h7 => ?_) (fun h7 => ?_)
        · replace hw := hw.1 h7
          refine g_lload_n C.1 6 dX7_holds_97 rfl rfl ?_
          refine g_iconst (v := 1) C.1 dX7_holds_98 (by decide) ?_
          refine g_lshl C.1 dX7_holds_99 ?_
          refine g_aload_n C.1 3 dX7_holds_100 rfl rfl ?_
          refine g_aload_n C.1 4 dX7_holds_101 rfl rfl ?_
          refine g_aload_n C.1 4 dX7_holds_102 rfl rfl ?_
          refine c_get6 C hw.1 8 (by decide) kC_484 (fun _ h => h) rfl dX7_holds_103 ?_
          replace hw := hw.2
          obtain ⟨a8, ha8, hw⟩ := hw
          rw [ha8]
          refine g_iload C.1 7 dX7_holds_106 rfl ?_
          refine c_iald C hw.1 hw.2.1 dX7_holds_108 ?_
          replace hw := hw.2.2
          refine g_iload_n C.1 5 dX7_holds_109 rfl rfl ?_
          refine c_callVi (vs := [.ref v1, .int (cV s a8 v5.toNatClampNeg), .int v2]) C hsz (cC_X7_passes (g_l X) G s _ _ _ _ _ hw.2) kC_412 kC_519 kC_520 kC_521 kC_518 hdC_X7_passes (c_recv7 C hw.1) ⟨(Nat.le_trans (Nat.le_of_ble_eq_true rfl) hR.1), (Nat.le_trans (Nat.le_of_ble_eq_true rfl) hR.2.1)⟩ ⟨(Nat.le_trans (Nat.le_of_ble_eq_true rfl) hR.2.2.1), (Nat.le_trans (Nat.le_of_ble_eq_true rfl) hR.2.2.2)⟩ dX7_holds_110 rfl (Nat.le_of_ble_eq_true rfl) (fun r10 s9 hw => ?_)
          refine g_if_eq (tgt := 120) C.1 dX7_holds_113 (by decide) (fun h11 => ?_) (fun h11 => ?_)
          · replace hw := hw.1 h11
            refine g_iconst (v := 0) C.1 dX7_holds_120 (by decide) ?_
            refine gJ.sub [3, 4, 5, 7] rfl ?_
            exact wkC_X7_holds_121 C hsz hR hret hK5 _ _ _ _ _ _ _ hw
          · replace hw := hw.2 h11
            refine g_iconst (v := 1) C.1 dX7_holds_116 (by decide) ?_
            refine g_goto (tgt := 121) C.1 dX7_holds_117 (by decide) ?_
            refine gJ.sub [3, 4, 5, 7] rfl ?_
            exact wkC_X7_holds_121 C hsz hR hret hK5 _ _ _ _ _ _ _ hw
        · replace hw := hw.2 h7
          refine g_lload_n C.1 6 dX7_holds_82 rfl rfl ?_
          refine g_iconst (v := 2) C.1 dX7_holds_83 (by decide) ?_
          refine g_lshr C.1 dX7_holds_84 ?_
          refine g_iconst (v := 1) C.1 dX7_holds_85 (by decide) ?_
          refine g_lshl C.1 dX7_holds_86 ?_
          refine g_lload C.1 0 dX7_holds_87 rfl ?_
          refine g_lor C.1 dX7_holds_89 ?_
          refine g_lload C.1 1 dX7_holds_90 rfl ?_
          refine g_lor C.1 dX7_holds_92 ?_
          refine g_topl (fun x12 ex12 => ?_)
          replace hw := hw x12 ex12
          refine g_lstore_n (lv' := [(3, .long x12), (9, .long ((v3 >>> ((1 : Int32).toInt64 &&& 63)) &&& 1)), (7, .long (v3 &&& 1)), (6, .int ((cV s a4 v5.toNatClampNeg) >>> (24 &&& 31))), (0, .ref v0), (1, .ref v1), (2, .int v2), (5, .int v5)]) C.1 dX7_holds_93 rfl (by decide) rfl ?_
          refine g_goto (tgt := 124) C.1 dX7_holds_94 (by decide) ?_
          refine gJ.sub [4, 5, 6, 0, 7] rfl ?_
          exact wkC_X7_holds_124 C hsz hR hret hK5 _ _ _ _ _ _ hw
      · replace hw := hw.2 h6
        refine g_lload_n C.1 6 dX7_holds_60 rfl rfl ?_
        refine g_iconst (v := 2) C.1 dX7_holds_61 (by decide) ?_
        refine g_lshr C.1 dX7_holds_62 ?_
        refine g_iconst (v := 1) C.1 dX7_holds_63 (by decide) ?_
        refine g_lshl C.1 dX7_holds_64 ?_
        refine g_lload C.1 0 dX7_holds_65 rfl ?_
        refine g_lload C.1 1 dX7_holds_67 rfl ?_
        refine g_land C.1 dX7_holds_69 ?_
        refine g_lor C.1 dX7_holds_70 ?_
        refine g_topl (fun x13 ex13 => ?_)
        replace hw := hw x13 ex13
        refine g_lstore_n (lv' := [(3, .long x13), (9, .long ((v3 >>> ((1 : Int32).toInt64 &&& 63)) &&& 1)), (7, .long (v3 &&& 1)), (6, .int ((cV s a4 v5.toNatClampNeg) >>> (24 &&& 31))), (0, .ref v0), (1, .ref v1), (2, .int v2), (5, .int v5)]) C.1 dX7_holds_71 rfl (by decide) rfl ?_
        refine g_goto (tgt := 124) C.1 dX7_holds_72 (by decide) ?_
        refine gJ.sub [4, 5, 6, 0, 7] rfl ?_
        exact wkC_X7_holds_124 C hsz hR hret hK5 _ _ _ _ _ _ hw
    · replace hw := hw.2 h5
      refine g_lload_n C.1 6 dX7_holds_46 rfl rfl ?_
      refine g_lconst (v := 1) C.1 dX7_holds_47 (by decide) ?_
      refine g_lxor C.1 dX7_holds_48 ?_
      refine g_lstore_n (lv' := [(3, .long (v3 ^^^ 1)), (9, .long ((v3 >>> ((1 : Int32).toInt64 &&& 63)) &&& 1)), (7, .long (v3 &&& 1)), (6, .int ((cV s a4 v5.toNatClampNeg) >>> (24 &&& 31))), (0, .ref v0), (1, .ref v1), (2, .int v2), (5, .int v5)]) C.1 dX7_holds_49 rfl (by decide) rfl ?_
      refine g_goto (tgt := 124) C.1 dX7_holds_50 (by decide) ?_
      refine gJ.sub [4, 5, 6, 0, 7] rfl ?_
      exact wkC_X7_holds_124 C hsz hR hret hK5 _ _ _ _ _ _ hw
theorem wkC_X7_holds_5 {X : gT} {G : cG} {A : Nat → Prop} {H0 : Heap} {Q : State → Prop} (C : cC X cX7_holds 11 RX7 G A) (hsz : H0 = (g_s X).heap) (hR : 5 ≤ (g_R X).frames ∧ 110 ≤ (g_R X).locals ∧ 0 ≤ (g_R X).cells ∧ 0 ≤ (g_R X).slots) {post : Int32 → CSt → Prop} (hret : ∀ (r : Int32) (τ : CSt) (lv : List (Nat × Value)) (pc : Nat), post r τ → narrow .boolean (.int r) = .int r → decode cX7_holds pc = .ok (.ireturn, 1) → gJ X (cWd G A H0) Q 0 0 τ lv pc [.int r]) (s : CSt) (v0 : Nat) (v1 : Nat) (v2 : Int32) (v3 : Int64) (v5 : Int32) (hw : wpC_X7_holds_5 post s v0 v1 v2 v3 v5) : gJ X (cWd G A H0) Q 0 0 s [(0, .ref v0), (1, .ref v1), (2, .int v2), (3, .long v3), (5, .int v5)] 5 [] := 
  hw (fun (x : CSt × Nat × Nat × Int32 × Int64 × Int32) => (fun s v0 v1 v2 v3 v5 => gJ X (cWd G A H0) Q 0 0 s [(0, .ref v0), (1, .ref v1), (2, .int v2), (3, .long v3), (5, .int v5)] 5 []) x.1 x.2.1 x.2.2.1 x.2.2.2.1 x.2.2.2.2.1 x.2.2.2.2.2) (fun x hx => wkC_X7_holds_5_F C hsz hR hret (K5 := (fun s v0 v1 v2 v3 v5 => gJ X (cWd G A H0) Q 0 0 s [(0, .ref v0), (1, .ref v1), (2, .int v2), (3, .long v3), (5, .int v5)] 5 [])) (fun _ _ _ _ _ _ h => h) x.1 x.2.1 x.2.2.1 x.2.2.2.1 x.2.2.2.2.1 x.2.2.2.2.2 hx)
theorem wkC_X7_holds_0 {X : gT} {G : cG} {A : Nat → Prop} {H0 : Heap} {Q : State → Prop} (C : cC X cX7_holds 11 RX7 G A) (hsz : H0 = (g_s X).heap) (hR : 5 ≤ (g_R X).frames ∧ 110 ≤ (g_R X).locals ∧ 0 ≤ (g_R X).cells ∧ 0 ≤ (g_R X).slots) {post : Int32 → CSt → Prop} (hret : ∀ (r : Int32) (τ : CSt) (lv : List (Nat × Value)) (pc : Nat), post r τ → narrow .boolean (.int r) = .int r → decode cX7_holds pc = .ok (.ireturn, 1) → gJ X (cWd G A H0) Q 0 0 τ lv pc [.int r]) (s : CSt) (v0 : Nat) (v1 : Nat) (v2 : Int32) (hw : wpC_X7_holds_0 post s v0 v1 v2) : gJ X (cWd G A H0) Q 0 0 s [(0, .ref v0), (1, .ref v1), (2, .int v2)] 0 [] := by
  refine g_lconst (v := 0) C.1 dX7_holds_0 (by decide) ?_
  refine g_lstore_n (lv' := [(3, .long 0), (0, .ref v0), (1, .ref v1), (2, .int v2)]) C.1 dX7_holds_1 rfl (by decide) rfl ?_
  refine g_iconst (v := 0) C.1 dX7_holds_2 (by decide) ?_
  refine g_istore (lv' := [(5, .int 0), (3, .long 0), (0, .ref v0), (1, .ref v1), (2, .int v2)]) C.1 dX7_holds_3 (by decide) rfl ?_
  refine gJ.sub [2, 3, 4, 1, 0] rfl ?_
  exact wkC_X7_holds_5 C hsz hR hret _ _ _ _ _ _ hw
theorem hdC_X7_holds : yX7_holds.cls = RX7 ∧ yX7_holds.cls ≠ "java/lang/invoke/MethodHandle" ∧ yX7_holds.cls ≠ "java/lang/invoke/VarHandle" ∧ (parseMethodDescriptor yX7_holds.desc).map (fun d => d.parameters.length) = some 2 := by decide +kernel
theorem cC_X7_holds (l : Launch) (G : cG) (s : CSt) (v0 : Nat) (v1 : Nat) (v2 : Int32) (post : Int32 → CSt → Prop) (hw : wpC_X7_holds_0 post s v0 v1 v2) : cMi l yX7_holds cX7_holds 11 .boolean 5 110 0 0 G s [.ref v0, .ref v1, .int v2] post := cMi_of (by decide +kernel) rfl (Nat.le_of_ble_eq_true rfl) (fun X A H0 Q hl hR hsz hnm C hret => wkC_X7_holds_0 C hsz hR hret s v0 v1 v2 hw)
