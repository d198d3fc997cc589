def wpR_J6_bitCount_0f7a4_0 (post : Int32 → Prop) (v0 : Int32) : Prop := ∀ x1 : Int32, x1 = v0 - ((((v0).toUInt32 >>> ((1).toUInt32 &&& Int32.toUInt32 31)).toInt32) &&& 1431655765) → ∀ x2 : Int32, x2 = (x1 &&& 858993459) + ((((x1).toUInt32 >>> ((2).toUInt32 &&& Int32.toUInt32 31)).toInt32) &&& 858993459) → ∀ x3 : Int32, x3 = (x2 + (((x2).toUInt32 >>> ((4).toUInt32 &&& Int32.toUInt32 31)).toInt32)) &&& 252645135 → ∀ x4 : Int32, x4 = x3 + (((x3).toUInt32 >>> ((8).toUInt32 &&& Int32.toUInt32 31)).toInt32) → ∀ x5 : Int32, x5 = x4 + (((x4).toUInt32 >>> ((16).toUInt32 &&& Int32.toUInt32 31)).toInt32) → post (x5 &&& 63)
theorem wkR_J6_bitCount_0f7a4_0 {X : gT} {H0 : Heap} {Q : State → Prop} (C : sC X cJ6_bitCount_0f7a4 1 RJ6) (hR : 0 ≤ (g_R X).frames ∧ 0 ≤ (g_R X).locals) {post : Int32 → Prop} (hret : ∀ (r : Int32) (lv : List (Nat × Value)) (pc : Nat), post r → narrow .int (.int r) = .int r → decode cJ6_bitCount_0f7a4 pc = .ok (.ireturn, 1) → gJ X (gU H0) Q 0 0 () lv pc [.int r]) (v0 : Int32) (hw : wpR_J6_bitCount_0f7a4_0 post v0) : gJ X (gU H0) Q 0 0 () [(0, .int v0)] 0 [] := by
  refine g_iload_n C.1 0 dJ6_bitCount_0f7a4_0 rfl rfl ?_
  refine g_iload_n C.1 0 dJ6_bitCount_0f7a4_1 rfl rfl ?_
  refine g_iconst (v := 1) C.1 dJ6_bitCount_0f7a4_2 (by decide) ?_
  refine g_iushr C.1 dJ6_bitCount_0f7a4_3 ?_
  refine g_ldcw (v := 1431655765) C.1 C.2.1 (C.2.2.1 _ kR_187) dJ6_bitCount_0f7a4_4 ?_
  refine g_iand C.1 dJ6_bitCount_0f7a4_7 ?_
  refine g_isub C.1 dJ6_bitCount_0f7a4_8 ?_
  refine g_topi (fun x1 ex1 => ?_)
  replace hw := hw x1 ex1
  refine g_istore_n (lv' := [(0, .int x1)]) C.1 dJ6_bitCount_0f7a4_9 rfl (by decide) rfl ?_
  refine g_iload_n C.1 0 dJ6_bitCount_0f7a4_10 rfl rfl ?_
  refine g_ldcw (v := 858993459) C.1 C.2.1 (C.2.2.1 _ kR_188) dJ6_bitCount_0f7a4_11 ?_
  refine g_iand C.1 dJ6_bitCount_0f7a4_14 ?_
  refine g_iload_n C.1 0 dJ6_bitCount_0f7a4_15 rfl rfl ?_
  refine g_iconst (v := 2) C.1 dJ6_bitCount_0f7a4_16 (by decide) ?_
  refine g_iushr C.1 dJ6_bitCount_0f7a4_17 ?_
  refine g_ldcw (v := 858993459) C.1 C.2.1 (C.2.2.1 _ kR_188) dJ6_bitCount_0f7a4_18 ?_
  refine g_iand C.1 dJ6_bitCount_0f7a4_21 ?_
  refine g_iadd C.1 dJ6_bitCount_0f7a4_22 ?_
  refine g_topi (fun x2 ex2 => ?_)
  replace hw := hw x2 ex2
  refine g_istore_n (lv' := [(0, .int x2)]) C.1 dJ6_bitCount_0f7a4_23 rfl (by decide) rfl ?_
  refine g_iload_n C.1 0 dJ6_bitCount_0f7a4_24 rfl rfl ?_
  refine g_iload_n C.1 0 dJ6_bitCount_0f7a4_25 rfl rfl ?_
  refine g_iconst (v := 4) C.1 dJ6_bitCount_0f7a4_26 (by decide) ?_
  refine g_iushr C.1 dJ6_bitCount_0f7a4_27 ?_
  refine g_iadd C.1 dJ6_bitCount_0f7a4_28 ?_
  refine g_ldcw (v := 252645135) C.1 C.2.1 (C.2.2.1 _ kR_189) dJ6_bitCount_0f7a4_29 ?_
  refine g_iand C.1 dJ6_bitCount_0f7a4_32 ?_
  refine g_topi (fun x3 ex3 => ?_)
  replace hw := hw x3 ex3
  refine g_istore_n (lv' := [(0, .int x3)]) C.1 dJ6_bitCount_0f7a4_33 rfl (by decide) rfl ?_
  refine g_iload_n C.1 0 dJ6_bitCount_0f7a4_34 rfl rfl ?_
  refine g_iload_n C.1 0 dJ6_bitCount_0f7a4_35 rfl rfl ?_
  refine g_bipush (v := 8) C.1 dJ6_bitCount_0f7a4_36 (by decide) ?_
  refine g_iushr C.1 dJ6_bitCount_0f7a4_38 ?_
  refine g_iadd C.1 dJ6_bitCount_0f7a4_39 ?_
  refine g_topi (fun x4 ex4 => ?_)
  replace hw := hw x4 ex4
  refine g_istore_n (lv' := [(0, .int x4)]) C.1 dJ6_bitCount_0f7a4_40 rfl (by decide) rfl ?_
  refine g_iload_n C.1 0 dJ6_bitCount_0f7a4_41 rfl rfl ?_
  refine g_iload_n C.1 0 dJ6_bitCount_0f7a4_42 rfl rfl ?_
  refine g_bipush (v := 16) C.1 dJ6_bitCount_0f7a4_43 (by decide) ?_
  refine g_iushr C.1 dJ6_bitCount_0f7a4_45 ?_
  refine g_iadd C.1 dJ6_bitCount_0f7a4_46 ?_
  refine g_topi (fun x5 ex5 => ?_)
  replace hw := hw x5 ex5
  refine g_istore_n (lv' := [(0, .int x5)]) C.1 dJ6_bitCount_0f7a4_47 rfl (by decide) rfl ?_
  refine g_iload_n C.1 0 dJ6_bitCount_0f7a4_48 rfl rfl ?_
  refine g_bipush (v := 63) C.1 dJ6_bitCount_0f7a4_49 (by decide) ?_
  refine g_iand C.1 dJ6_bitCount_0f7a4_51 ?_
  exact hret _ _ _ hw rfl dJ6_bitCount_0f7a4_52
theorem hdR_J6_bitCount_0f7a4 : yJ6_bitCount_0f7a4.cls = RJ6 ∧ yJ6_bitCount_0f7a4.cls ≠ "java/lang/invoke/MethodHandle" ∧ yJ6_bitCount_0f7a4.cls ≠ "java/lang/invoke/VarHandle" ∧ (parseMethodDescriptor yJ6_bitCount_0f7a4.desc).map (fun d => d.parameters.length) = some 1 := by decide +kernel
theorem cR_J6_bitCount_0f7a4 (l : Launch) (v0 : Int32) (post : Int32 → Prop) (hw : wpR_J6_bitCount_0f7a4_0 post v0) : rSi l yJ6_bitCount_0f7a4 cJ6_bitCount_0f7a4 1 .int 0 0 [.int v0] post := rSi_of (own := RJ6) (by decide +kernel) rfl (Nat.le_of_ble_eq_true rfl) (fun X H0 Q hR C hret => wkR_J6_bitCount_0f7a4_0 C hR hret v0 hw)
def wpR_word_0 (post : Nat → Prop) (v0 : Int32) : Prop := (v0 = 1 → post 0) ∧ (v0 = 2 → post 1) ∧ (v0 = 3 → post 2) ∧ (v0 = 4 → post 3) ∧ (v0 = 5 → post 4) ∧ (v0 = 6 → post 5) ∧ (v0 = 7 → post 6) ∧ (v0 = 8 → post 7) ∧ ((v0).toInt < 1 ∨ 8 < (v0).toInt → post 8)
theorem wkR_word_0 {X : gT} {G : rG} {H0 : Heap} {Q : State → Prop} (C : sC X cX8_word 1 RX8) (hR : 0 ≤ (g_R X).frames ∧ 0 ≤ (g_R X).locals) (hT : ∀ i : Nat, i < 9 → vk_R RX8 (rti i) (rtx i) (G.2.2.2.1 i) (g_s X)) {post : Nat → Prop} (hret : ∀ (j : Nat) (lv : List (Nat × Value)) (pc : Nat), post j → decode cX8_word pc = .ok (.areturn, 1) → gJ X (gU H0) Q 0 0 () lv pc [.ref (G.2.2.2.1 j)]) (v0 : Int32) (hw : wpR_word_0 post v0) : gJ X (gU H0) Q 0 0 () [(0, .int v0)] 0 [] := by
  refine g_iload_n C.1 0 dX8_word_0 rfl rfl ?_
  by_cases h1a : (v0).toInt < 1
  · replace hw := hw.2.2.2.2.2.2.2.2 (Or.inl h1a)
    refine g_tableOut (tgt := 72) C.1 dX8_word_1 (Or.inl h1a) (by decide) ?_
    refine g_ldcS C.1 C.2.1 (hT 8 (by decide)) dX8_word_72 ?_
    exact hret _ _ _ hw dX8_word_74
  by_cases h1b : 8 < (v0).toInt
  · replace hw := hw.2.2.2.2.2.2.2.2 (Or.inr h1b)
    refine g_tableOut (tgt := 72) C.1 dX8_word_1 (Or.inr h1b) (by decide) ?_
    refine g_ldcS C.1 C.2.1 (hT 8 (by decide)) dX8_word_72 ?_
    exact hret _ _ _ hw dX8_word_74
  have h1c : (v0).toInt = 1 ∨ (v0).toInt = 2 ∨ (v0).toInt = 3 ∨ (v0).toInt = 4 ∨ (v0).toInt = 5 ∨ (v0).toInt = 6 ∨ (v0).toInt = 7 ∨ (v0).toInt = 8 := by omega
  rcases h1c with h1c | h1c | h1c | h1c | h1c | h1c | h1c | h1c
  · replace hw := hw.1 (i32_of h1c)
    refine g_tableIn (tgt := 48) (off := 47) C.1 dX8_word_1 h1a h1b (by rw [h1c]; rfl) (by decide) ?_
    refine g_ldcS C.1 C.2.1 (hT 0 (by decide)) dX8_word_48 ?_
    exact hret _ _ _ hw dX8_word_50
  · replace hw := hw.2.1 (i32_of h1c)
    refine g_tableIn (tgt := 51) (off := 50) C.1 dX8_word_1 h1a h1b (by rw [h1c]; rfl) (by decide) ?_
    refine g_ldcS C.1 C.2.1 (hT 1 (by decide)) dX8_word_51 ?_
    exact hret _ _ _ hw dX8_word_53
  · replace hw := hw.2.2.1 (i32_of h1c)
    refine g_tableIn (tgt := 54) (off := 53) C.1 dX8_word_1 h1a h1b (by rw [h1c]; rfl) (by decide) ?_
    refine g_ldcS C.1 C.2.1 (hT 2 (by decide)) dX8_word_54 ?_
    exact hret _ _ _ hw dX8_word_56
  · replace hw := hw.2.2.2.1 (i32_of h1c)
    refine g_tableIn (tgt := 57) (off := 56) C.1 dX8_word_1 h1a h1b (by rw [h1c]; rfl) (by decide) ?_
    refine g_ldcS C.1 C.2.1 (hT 3 (by decide)) dX8_word_57 ?_
    exact hret _ _ _ hw dX8_word_59
  · replace hw := hw.2.2.2.2.1 (i32_of h1c)
    refine g_tableIn (tgt := 60) (off := 59) C.1 dX8_word_1 h1a h1b (by rw [h1c]; rfl) (by decide) ?_
    refine g_ldcS C.1 C.2.1 (hT 4 (by decide)) dX8_word_60 ?_
    exact hret _ _ _ hw dX8_word_62
  · replace hw := hw.2.2.2.2.2.1 (i32_of h1c)
    refine g_tableIn (tgt := 63) (off := 62) C.1 dX8_word_1 h1a h1b (by rw [h1c]; rfl) (by decide) ?_
    refine g_ldcS C.1 C.2.1 (hT 5 (by decide)) dX8_word_63 ?_
    exact hret _ _ _ hw dX8_word_65
  · replace hw := hw.2.2.2.2.2.2.1 (i32_of h1c)
    refine g_tableIn (tgt := 66) (off := 65) C.1 dX8_word_1 h1a h1b (by rw [h1c]; rfl) (by decide) ?_
    refine g_ldcS C.1 C.2.1 (hT 6 (by decide)) dX8_word_66 ?_
    exact hret _ _ _ hw dX8_word_68
  · replace hw := hw.2.2.2.2.2.2.2.1 (i32_of h1c)
    refine g_tableIn (tgt := 69) (off := 68) C.1 dX8_word_1 h1a h1b (by rw [h1c]; rfl) (by decide) ?_
    refine g_ldcS C.1 C.2.1 (hT 7 (by decide)) dX8_word_69 ?_
    exact hret _ _ _ hw dX8_word_71
theorem hdR_word : yX8_word.cls = RX8 ∧ yX8_word.cls ≠ "java/lang/invoke/MethodHandle" ∧ yX8_word.cls ≠ "java/lang/invoke/VarHandle" ∧ (parseMethodDescriptor yX8_word.desc).map (fun d => d.parameters.length) = some 1 := by decide +kernel
theorem cR_word (l : Launch) (G : rG) (v0 : Int32) (post : Nat → Prop) (hw : wpR_word_0 post v0) : rSs l yX8_word cX8_word 1 0 0 G [.int v0] post := rSs_of (by decide +kernel) rfl (Nat.le_of_ble_eq_true rfl) (fun X H0 Q hR C hT hret => wkR_word_0 C hR hT hret v0 hw)
def wpR_isWord_60 (post : Int32 → RSt → Prop) (K24 : RSt → Nat → Int32 → Int32 → Prop) (s : RSt) (v1 : Nat) (v3 : Int32) (w0 : Int32) : Prop := K24 s v1 w0 (v3 + 1)
def wpR_isWord_24_F (post : Int32 → RSt → Prop) (K24 : RSt → Nat → Int32 → Int32 → Prop) (s : RSt) (v1 : Nat) (v2 : Int32) (v3 : Int32) : Prop := (v2 = 0 → narrow .boolean (.int v2) = .int v2 ∧ post v2 s) ∧ (¬ v2 = 0 → v1 < 9 ∧ ((nI (rtb.getD v1 []).length) ≤ v3 → narrow .boolean (.int v2) = .int v2 ∧ post v2 s) ∧ (¬ (nI (rtb.getD v1 []).length) ≤ v3 → vp_in ((s.1 34) + v3) 400 ∧ v1 < 9 ∧ ¬ v3 < 0 ∧ v3 < nI (rtb.getD v1 []).length ∧ (¬ (s.2.1 1 ((s.1 34) + v3).toNatClampNeg) = (jAt (rtb.getD v1 []) v3) → wpR_isWord_60 post K24 s v1 v3 0) ∧ ((s.2.1 1 ((s.1 34) + v3).toNatClampNeg) = (jAt (rtb.getD v1 []) v3) → wpR_isWord_60 post K24 s v1 v3 1)))
def wpR_isWord_24 (post : Int32 → RSt → Prop) (s : RSt) (v1 : Nat) (v2 : Int32) (v3 : Int32) : Prop := gLP (fun (K : RSt × Nat × Int32 × Int32 → Prop) (x : RSt × Nat × Int32 × Int32) => wpR_isWord_24_F post (fun s v1 v2 v3 => K (s, v1, v2, v3)) x.1 x.2.1 x.2.2.1 x.2.2.2) (s, v1, v2, v3)
def wpR_isWord_21 (post : Int32 → RSt → Prop) (s : RSt) (v1 : Nat) (w0 : Int32) : Prop := wpR_isWord_24 post s v1 w0 0
def wpR_isWord_0 (post : Int32 → RSt → Prop) (s : RSt) (v1 : Nat) : Prop := v1 < 9 ∧ (¬ ((s.1 31) - (s.1 34)) = (nI (rtb.getD v1 []).length) → wpR_isWord_21 post s v1 0) ∧ (((s.1 31) - (s.1 34)) = (nI (rtb.getD v1 []).length) → wpR_isWord_21 post s v1 1)
theorem wkR_isWord_60 {X : gT} {G : rG} {A : Nat → Prop} {H0 : Heap} {Q : State → Prop} (C : rC X cX8_isWord 4 G A) (hsz : H0 = (g_s X).heap) (hR : 4 ≤ (g_R X).frames ∧ 85 ≤ (g_R X).locals) {post : Int32 → RSt → Prop} (hret : ∀ (r : Int32) (τ : RSt) (lv : List (Nat × Value)) (pc : Nat), post r τ → narrow .boolean (.int r) = .int r → decode cX8_isWord pc = .ok (.ireturn, 1) → gJ X (rWd G A H0) Q 0 0 τ lv pc [.int r]) {K24 : RSt → Nat → Int32 → Int32 → Prop} (hK24 : ∀ (s : RSt) (v1 : Nat) (v2 : Int32) (v3 : Int32), K24 s v1 v2 v3 → gJ X (rWd G A H0) Q 0 0 s [(0, .ref (G.2.2.1 0)), (1, .ref (G.2.2.2.1 v1)), (2, .int v2), (3, .int v3)] 24 []) (s : RSt) (v1 : Nat) (v3 : Int32) (w0 : Int32) (hw : wpR_isWord_60 post K24 s v1 v3 w0) : gJ X (rWd G A H0) Q 0 0 s [(0, .ref (G.2.2.1 0)), (1, .ref (G.2.2.2.1 v1)), (3, .int v3)] 60 [.int w0] := by
  refine g_istore_n (lv' := [(2, .int w0), (0, .ref (G.2.2.1 0)), (1, .ref (G.2.2.2.1 v1)), (3, .int v3)]) C.1 dX8_isWord_60 rfl (by decide) rfl ?_
  refine g_iinc (v := v3 + 1) (lv' := [(3, .int (v3 + 1)), (2, .int w0), (0, .ref (G.2.2.1 0)), (1, .ref (G.2.2.2.1 v1))]) C.1 3 dX8_isWord_61 rfl rfl (by decide) rfl ?_
  refine g_goto (tgt := 24) C.1 dX8_isWord_64 (by decide) ?_
  refine gJ.sub [2, 3, 1, 0] rfl ?_
  exact hK24 _ _ _ _ hw
theorem wkR_isWord_24_F {X : gT} {G : rG} {A : Nat → Prop} {H0 : Heap} {Q : State → Prop} (C : rC X cX8_isWord 4 G A) (hsz : H0 = (g_s X).heap) (hR : 4 ≤ (g_R X).frames ∧ 85 ≤ (g_R X).locals) {post : Int32 → RSt → Prop} (hret : ∀ (r : Int32) (τ : RSt) (lv : List (Nat × Value)) (pc : Nat), post r τ → narrow .boolean (.int r) = .int r → decode cX8_isWord pc = .ok (.ireturn, 1) → gJ X (rWd G A H0) Q 0 0 τ lv pc [.int r]) {K24 : RSt → Nat → Int32 → Int32 → Prop} (hK24 : ∀ (s : RSt) (v1 : Nat) (v2 : Int32) (v3 : Int32), K24 s v1 v2 v3 → gJ X (rWd G A H0) Q 0 0 s [(0, .ref (G.2.2.1 0)), (1, .ref (G.2.2.2.1 v1)), (2, .int v2), (3, .int v3)] 24 []) (s : RSt) (v1 : Nat) (v2 : Int32) (v3 : Int32) (hw : wpR_isWord_24_F post K24 s v1 v2 v3) : gJ X (rWd G A H0) Q 0 0 s [(0, .ref (G.2.2.1 0)), (1, .ref (G.2.2.2.1 v1)), (2, .int v2), (3, .int v3)] 24 [] := by
  refine g_iload_n C.1 2 dX8_isWord_24 rfl rfl ?_
  refine g_if_eq (tgt := 67) C.1 dX8_isWord_25 (by decide) (fun h1 => ?_) (fun h1 => ?_)
  · replace hw := hw.1 h1
    refine g_iload_n C.1 2 dX8_isWord_67 rfl rfl ?_
    exact hret _ _ _ _ hw.2 hw.1 dX8_isWord_68
  · replace hw := hw.2 h1
    refine g_iload_n C.1 3 dX8_isWord_28 rfl rfl ?_
    refine g_aload_n C.1 1 dX8_isWord_29 rfl rfl ?_
    refine r_slen C hsz hw.1 kR_78 ⟨Nat.le_trans (Nat.le_of_ble_eq_true rfl) hR.1, Nat.le_trans (Nat.le_of_ble_eq_true rfl) hR.2⟩ dX8_isWord_30 (Nat.le_of_ble_eq_true rfl) ?_
    replace hw := hw.2
    refine g_icmp_ge (tgt := 67) C.1 dX8_isWord_33 (by decide) (fun h2 => ?_) (fun h2 => ?_)
    · replace hw := hw.1 h2
      refine g_iload_n C.1 2 dX8_isWord_67 rfl rfl ?_
      exact hret _ _ _ _ hw.2 hw.1 dX8_isWord_68
    · replace hw := hw.2 h2
      refine g_aload_n C.1 0 dX8_isWord_36 rfl rfl ?_
      refine r_g1 C dX8_isWord_37 ?_
      refine g_aload_n C.1 0 dX8_isWord_40 rfl rfl ?_
      refine r_g34 C dX8_isWord_41 ?_
      refine g_iload_n C.1 3 dX8_isWord_44 rfl rfl ?_
      refine g_iadd C.1 dX8_isWord_45 ?_
      refine r_ld1 C hw.1 dX8_isWord_46 ?_
      replace hw := hw.2
      refine g_aload_n C.1 1 dX8_isWord_47 rfl rfl ?_
      refine g_iload_n C.1 3 dX8_isWord_48 rfl rfl ?_
      refine r_sat C hsz hw.1 hw.2.1 hw.2.2.1 kR_90 ⟨Nat.le_trans (Nat.le_of_ble_eq_true rfl) hR.1, Nat.le_trans (Nat.le_of_ble_eq_true rfl) hR.2⟩ dX8_isWord_49 (Nat.le_of_ble_eq_true rfl) ?_
      replace hw := hw.2.2.2
      refine g_icmp_ne (tgt := 59) C.1 dX8_isWord_52 (by decide) (fun h3 => ?_) (fun h3 => ?_)
      · replace hw := hw.1 h3
        refine g_iconst (v := 0) C.1 dX8_isWord_59 (by decide) ?_
        refine gJ.sub [0, 1, 3] rfl ?_
        exact wkR_isWord_60 C hsz hR hret hK24 _ _ _ _ hw
      · replace hw := hw.2 h3
        refine g_iconst (v := 1) C.1 dX8_isWord_55 (by decide) ?_
        refine g_goto (tgt := 60) C.1 dX8_isWord_56 (by decide) ?_
        refine gJ.sub [0, 1, 3] rfl ?_
        exact wkR_isWord_60 C hsz hR hret hK24 _ _ _ _ hw
theorem wkR_isWord_24 {X : gT} {G : rG} {A : Nat → Prop} {H0 : Heap} {Q : State → Prop} (C : rC X cX8_isWord 4 G A) (hsz : H0 = (g_s X).heap) (hR : 4 ≤ (g_R X).frames ∧ 85 ≤ (g_R X).locals) {post : Int32 → RSt → Prop} (hret : ∀ (r : Int32) (τ : RSt) (lv : List (Nat × Value)) (pc : Nat), post r τ → narrow .boolean (.int r) = .int r → decode cX8_isWord pc = .ok (.ireturn, 1) → gJ X (rWd G A H0) Q 0 0 τ lv pc [.int r]) (s : RSt) (v1 : Nat) (v2 : Int32) (v3 : Int32) (hw : wpR_isWord_24 post s v1 v2 v3) : gJ X (rWd G A H0) Q 0 0 s [(0, .ref (G.2.2.1 0)), (1, .ref (G.2.2.2.1 v1)), (2, .int v2), (3, .int v3)] 24 [] := 
  hw (fun (x : RSt × Nat × Int32 × Int32) => (fun s v1 v2 v3 => gJ X (rWd G A H0) Q 0 0 s [(0, .ref (G.2.2.1 0)), (1, .ref (G.2.2.2.1 v1)), (2, .int v2), (3, .int v3)] 24 []) x.1 x.2.1 x.2.2.1 x.2.2.2) (fun x hx => wkR_isWord_24_F C hsz hR hret (K24 := (fun s v1 v2 v3 => gJ X (rWd G A H0) Q 0 0 s [(0, .ref (G.2.2.1 0)), (1, .ref (G.2.2.2.1 v1)), (2, .int v2), (3, .int v3)] 24 [])) (fun _ _ _ _ h => h) x.1 x.2.1 x.2.2.1 x.2.2.2 hx)
theorem wkR_isWord_21 {X : gT} {G : rG} {A : Nat → Prop} {H0 : Heap} {Q : State → Prop} (C : rC X cX8_isWord 4 G A) (hsz : H0 = (g_s X).heap) (hR : 4 ≤ (g_R X).frames ∧ 85 ≤ (g_R X).locals) {post : Int32 → RSt → Prop} (hret : ∀ (r : Int32) (τ : RSt) (lv : List (Nat × Value)) (pc : Nat), post r τ → narrow .boolean (.int r) = .int r → decode cX8_isWord pc = .ok (.ireturn, 1) → gJ X (rWd G A H0) Q 0 0 τ lv pc [.int r]) (s : RSt) (v1 : Nat) (w0 : Int32) (hw : wpR_isWord_21 post s v1 w0) : gJ X (rWd G A H0) Q 0 0 s [(0, .ref (G.2.2.1 0)), (1, .ref (G.2.2.2.1 v1))] 21 [.int w0] := by
  refine g_istore_n (lv' := [(2, .int w0), (0, .ref (G.2.2.1 0)), (1, .ref (G.2.2.2.1 v1))]) C.1 dX8_isWord_21 rfl (by decide) rfl ?_
  refine g_iconst (v := 0) C.1 dX8_isWord_22 (by decide) ?_
  refine g_istore_n (lv' := [(3, .int 0), (2, .int w0), (0, .ref (G.2.2.1 0)), (1, .ref (G.2.2.2.1 v1))]) C.1 dX8_isWord_23 rfl (by decide) rfl ?_
  refine gJ.sub [2, 3, 1, 0] rfl ?_
  exact wkR_isWord_24 C hsz hR hret _ _ _ _ hw
theorem wkR_isWord_0 {X : gT} {G : rG} {A : Nat → Prop} {H0 : Heap} {Q : State → Prop} (C : rC X cX8_isWord 4 G A) (hsz : H0 = (g_s X).heap) (hR : 4 ≤ (g_R X).frames ∧ 85 ≤ (g_R X).locals) {post : Int32 → RSt → Prop} (hret : ∀ (r : Int32) (τ : RSt) (lv : List (Nat × Value)) (pc : Nat), post r τ → narrow .boolean (.int r) = .int r → decode cX8_isWord pc = .ok (.ireturn, 1) → gJ X (rWd G A H0) Q 0 0 τ lv pc [.int r]) (s : RSt) (v1 : Nat) (hw : wpR_isWord_0 post s v1) : gJ X (rWd G A H0) Q 0 0 s [(0, .ref (G.2.2.1 0)), (1, .ref (G.2.2.2.1 v1))] 0 [] := by
  refine g_aload_n C.1 0 dX8_isWord_0 rfl rfl ?_
  refine r_g31 C dX8_isWord_1 ?_
  refine g_aload_n C.1 0 dX8_isWord_4 rfl rfl ?_
  refine r_g34 C dX8_isWord_5 ?_
  refine g_isub C.1 dX8_isWord_8 ?_
  refine g_aload_n C.1 1 dX8_isWord_9 rfl rfl ?_
  refine r_slen C hsz hw.1 kR_78 ⟨Nat.le_trans (Nat.le_of_ble_eq_true rfl) hR.1, Nat.le_trans (Nat.le_of_ble_eq_true rfl) hR.2⟩ dX8_isWord_10 (Nat.le_of_ble_eq_true rfl) ?_
  replace hw := hw.2
  refine g_icmp_ne (tgt := 20) C.1 dX8_isWord_13 (by decide) (fun h4 => ?_) (fun h4 => ?_)
  · replace hw := hw.1 h4
    refine g_iconst (v := 0) C.1 dX8_isWord_20 (by decide) ?_
    exact wkR_isWord_21 C hsz hR hret _ _ _ hw
  · replace hw := hw.2 h4
    refine g_iconst (v := 1) C.1 dX8_isWord_16 (by decide) ?_
    refine g_goto (tgt := 21) C.1 dX8_isWord_17 (by decide) ?_
    exact wkR_isWord_21 C hsz hR hret _ _ _ hw
theorem hdR_isWord : yX8_isWord.cls = RX8 ∧ yX8_isWord.cls ≠ "java/lang/invoke/MethodHandle" ∧ yX8_isWord.cls ≠ "java/lang/invoke/VarHandle" ∧ (parseMethodDescriptor yX8_isWord.desc).map (fun d => d.parameters.length) = some 1 := by decide +kernel
theorem cR_isWord (l : Launch) (G : rG) (s : RSt) (v1 : Nat) (post : Int32 → RSt → Prop) (hw : wpR_isWord_0 post s v1) : rMi l yX8_isWord cX8_isWord 4 .boolean 4 85 G s [.ref (G.2.2.2.1 v1)] post := rMi_of (by decide +kernel) rfl (Nat.le_of_ble_eq_true rfl) (fun X A H0 Q hl hR hsz C hret => wkR_isWord_0 C hsz hR hret s v1 hw)
def wpR_in_0 (post : Int32 → Prop) (v0 : Int64) (v2 : Int64) (v4 : Int64) : Prop := ((lg_cmp v0 v2) < 0 → post 0) ∧ (¬ (lg_cmp v0 v2) < 0 → (0 < (lg_cmp v0 v4) → post 0) ∧ (¬ 0 < (lg_cmp v0 v4) → post 1))
theorem wkR_in_0 {X : gT} {H0 : Heap} {Q : State → Prop} (C : sC X cX8_in 6 RX8) (hR : 0 ≤ (g_R X).frames ∧ 0 ≤ (g_R X).locals) {post : Int32 → Prop} (hret : ∀ (r : Int32) (lv : List (Nat × Value)) (pc : Nat), post r → narrow .boolean (.int r) = .int r → decode cX8_in pc = .ok (.ireturn, 1) → gJ X (gU H0) Q 0 0 () lv pc [.int r]) (v0 : Int64) (v2 : Int64) (v4 : Int64) (hw : wpR_in_0 post v0 v2 v4) : gJ X (gU H0) Q 0 0 () [(0, .long v0), (2, .long v2), (4, .long v4)] 0 [] := by
  refine g_lload_n C.1 0 dX8_in_0 rfl rfl ?_
  refine g_lload_n C.1 1 dX8_in_1 rfl rfl ?_
  refine g_lcmp C.1 dX8_in_2 ?_
  refine g_if_lt (tgt := 17) C.1 dX8_in_3 (by decide) (fun h1 => ?_) (fun h1 => ?_)
  · replace hw := hw.1 h1
    refine g_iconst (v := 0) C.1 dX8_in_17 (by decide) ?_
    exact hret _ _ _ hw rfl dX8_in_18
  · replace hw := hw.2 h1
    refine g_lload_n C.1 0 dX8_in_6 rfl rfl ?_
    refine g_lload C.1 2 dX8_in_7 rfl ?_
    refine g_lcmp C.1 dX8_in_9 ?_
    refine g_if_gt (tgt := 17) C.1 dX8_in_10 (by decide) (fun h2 => ?_) (fun h2 => ?_)
    · replace hw := hw.1 h2
      refine g_iconst (v := 0) C.1 dX8_in_17 (by decide) ?_
      exact hret _ _ _ hw rfl dX8_in_18
    · replace hw := hw.2 h2
      refine g_iconst (v := 1) C.1 dX8_in_13 (by decide) ?_
      refine g_goto (tgt := 18) C.1 dX8_in_14 (by decide) ?_
      exact hret _ _ _ hw rfl dX8_in_18
theorem hdR_in : yX8_in.cls = RX8 ∧ yX8_in.cls ≠ "java/lang/invoke/MethodHandle" ∧ yX8_in.cls ≠ "java/lang/invoke/VarHandle" ∧ (parseMethodDescriptor yX8_in.desc).map (fun d => d.parameters.length) = some 3 := by decide +kernel
theorem cR_in (l : Launch) (v0 : Int64) (v2 : Int64) (v4 : Int64) (post : Int32 → Prop) (hw : wpR_in_0 post v0 v2 v4) : rSi l yX8_in cX8_in 6 .boolean 0 0 [.long v0, .long v2, .long v4] post := rSi_of (own := RX8) (by decide +kernel) rfl (Nat.le_of_ble_eq_true rfl) (fun X H0 Q hR C hret => wkR_in_0 C hR hret v0 v2 v4 hw)
def wpR_noPlace_0 (post : Int32 → Prop) (v0 : Int32) : Prop := wpR_in_0 (fun r1 => (¬ r1 = 0 → post 0) ∧ (r1 = 0 → post 1)) v0.toInt64 0 9
theorem wkR_noPlace_0 {X : gT} {H0 : Heap} {Q : State → Prop} (C : sC X cX8_noPlace 1 RX8) (hR : 1 ≤ (g_R X).frames ∧ 25 ≤ (g_R X).locals) {post : Int32 → Prop} (hret : ∀ (r : Int32) (lv : List (Nat × Value)) (pc : Nat), post r → narrow .boolean (.int r) = .int r → decode cX8_noPlace pc = .ok (.ireturn, 1) → gJ X (gU H0) Q 0 0 () lv pc [.int r]) (v0 : Int32) (hw : wpR_noPlace_0 post v0) : gJ X (gU H0) Q 0 0 () [(0, .int v0)] 0 [] := by
  refine g_iload_n C.1 0 dX8_noPlace_0 rfl rfl ?_
  refine g_i2l C.1 dX8_noPlace_1 ?_
  refine g_lconst (v := 0) C.1 dX8_noPlace_2 (by decide) ?_
  refine g_ldc2 (v := 9) C.1 C.2.1 (C.2.2.1 _ kR_55) dX8_noPlace_3 ?_
  refine g_callSi C (cR_in (g_l X) _ _ _ _ hw) kR_45 kR_46 kR_43 hdR_in ⟨Nat.le_trans (Nat.le_of_ble_eq_true rfl) hR.1, Nat.le_trans (Nat.le_of_ble_eq_true rfl) hR.2⟩ dX8_noPlace_6 rfl (Nat.le_of_ble_eq_true rfl) (fun r1 hw => ?_)
  refine g_if_ne (tgt := 16) C.1 dX8_noPlace_9 (by decide) (fun h2 => ?_) (fun h2 => ?_)
  · replace hw := hw.1 h2
    refine g_iconst (v := 0) C.1 dX8_noPlace_16 (by decide) ?_
    exact hret _ _ _ hw rfl dX8_noPlace_17
  · replace hw := hw.2 h2
    refine g_iconst (v := 1) C.1 dX8_noPlace_12 (by decide) ?_
    refine g_goto (tgt := 17) C.1 dX8_noPlace_13 (by decide) ?_
    exact hret _ _ _ hw rfl dX8_noPlace_17
theorem hdR_noPlace : yX8_noPlace.cls = RX8 ∧ yX8_noPlace.cls ≠ "java/lang/invoke/MethodHandle" ∧ yX8_noPlace.cls ≠ "java/lang/invoke/VarHandle" ∧ (parseMethodDescriptor yX8_noPlace.desc).map (fun d => d.parameters.length) = some 1 := by decide +kernel
theorem cR_noPlace (l : Launch) (v0 : Int32) (post : Int32 → Prop) (hw : wpR_noPlace_0 post v0) : rSi l yX8_noPlace cX8_noPlace 1 .boolean 1 25 [.int v0] post := rSi_of (own := RX8) (by decide +kernel) rfl (Nat.le_of_ble_eq_true rfl) (fun X H0 Q hR C hret => wkR_noPlace_0 C hR hret v0 hw)
def wpR_throwsIf_0 (post : Int32 → RSt → Prop) (s : RSt) (v1 : Int32) (v2 : Int32) : Prop := (v1 = 0 → narrow .boolean (.int v1) = .int v1 ∧ post v1 s) ∧ (¬ v1 = 0 → ∀ s2 : RSt, s2 = rsI s 0 v2 → narrow .boolean (.int v1) = .int v1 ∧ post v1 s2)
theorem wkR_throwsIf_0 {X : gT} {G : rG} {A : Nat → Prop} {H0 : Heap} {Q : State → Prop} (C : rC X cX8_throwsIf 3 G A) (hsz : H0 = (g_s X).heap) (hR : 0 ≤ (g_R X).frames ∧ 0 ≤ (g_R X).locals) {post : Int32 → RSt → Prop} (hret : ∀ (r : Int32) (τ : RSt) (lv : List (Nat × Value)) (pc : Nat), post r τ → narrow .boolean (.int r) = .int r → decode cX8_throwsIf pc = .ok (.ireturn, 1) → gJ X (rWd G A H0) Q 0 0 τ lv pc [.int r]) (s : RSt) (v1 : Int32) (v2 : Int32) (hw : wpR_throwsIf_0 post s v1 v2) : gJ X (rWd G A H0) Q 0 0 s [(0, .ref (G.2.2.1 0)), (1, .int v1), (2, .int v2)] 0 [] := by
  refine g_iload_n C.1 1 dX8_throwsIf_0 rfl rfl ?_
  refine g_if_eq (tgt := 9) C.1 dX8_throwsIf_1 (by decide) (fun h1 => ?_) (fun h1 => ?_)
  · replace hw := hw.1 h1
    refine g_iload_n C.1 1 dX8_throwsIf_9 rfl rfl ?_
    exact hret _ _ _ _ hw.2 hw.1 dX8_throwsIf_10
  · replace hw := hw.2 h1
    refine g_aload_n C.1 0 dX8_throwsIf_4 rfl rfl ?_
    refine g_iload_n C.1 2 dX8_throwsIf_5 rfl rfl ?_
    refine r_p0 C dX8_throwsIf_6 ?_
    refine gJ.nm (fun s2 es2 => ?_)
    replace hw := hw s2 es2
    refine g_iload_n C.1 1 dX8_throwsIf_9 rfl rfl ?_
    exact hret _ _ _ _ hw.2 hw.1 dX8_throwsIf_10
theorem hdR_throwsIf : yX8_throwsIf.cls = RX8 ∧ yX8_throwsIf.cls ≠ "java/lang/invoke/MethodHandle" ∧ yX8_throwsIf.cls ≠ "java/lang/invoke/VarHandle" ∧ (parseMethodDescriptor yX8_throwsIf.desc).map (fun d => d.parameters.length) = some 2 := by decide +kernel
theorem cR_throwsIf (l : Launch) (G : rG) (s : RSt) (v1 : Int32) (v2 : Int32) (post : Int32 → RSt → Prop) (hw : wpR_throwsIf_0 post s v1 v2) : rMi l yX8_throwsIf cX8_throwsIf 3 .boolean 0 0 G s [.int v1, .int v2] post := rMi_of (by decide +kernel) rfl (Nat.le_of_ble_eq_true rfl) (fun X A H0 Q hl hR hsz C hret => wkR_throwsIf_0 C hsz hR hret s v1 v2 hw)
def wpR_noLift_0 (post : Int32 → RSt → Prop) (s : RSt) (v1 : Int32) : Prop := wpR_in_0 (fun r1 => (¬ r1 = 0 → post 0 s) ∧ (r1 = 0 → post 1 s)) v1.toInt64 0 (((s.1 7) - 1).toInt64)
theorem wkR_noLift_0 {X : gT} {G : rG} {A : Nat → Prop} {H0 : Heap} {Q : State → Prop} (C : rC X cX8_noLift 2 G A) (hsz : H0 = (g_s X).heap) (hR : 1 ≤ (g_R X).frames ∧ 25 ≤ (g_R X).locals) {post : Int32 → RSt → Prop} (hret : ∀ (r : Int32) (τ : RSt) (lv : List (Nat × Value)) (pc : Nat), post r τ → narrow .boolean (.int r) = .int r → decode cX8_noLift pc = .ok (.ireturn, 1) → gJ X (rWd G A H0) Q 0 0 τ lv pc [.int r]) (s : RSt) (v1 : Int32) (hw : wpR_noLift_0 post s v1) : gJ X (rWd G A H0) Q 0 0 s [(0, .ref (G.2.2.1 0)), (1, .int v1)] 0 [] := by
  refine g_iload_n C.1 1 dX8_noLift_0 rfl rfl ?_
  refine g_i2l C.1 dX8_noLift_1 ?_
  refine g_lconst (v := 0) C.1 dX8_noLift_2 (by decide) ?_
  refine g_aload_n C.1 0 dX8_noLift_3 rfl rfl ?_
  refine r_g7 C dX8_noLift_4 ?_
  refine g_iconst (v := 1) C.1 dX8_noLift_7 (by decide) ?_
  refine g_isub C.1 dX8_noLift_8 ?_
  refine g_i2l C.1 dX8_noLift_9 ?_
  refine g_callSi (rC.s C) (cR_in (g_l X) _ _ _ _ hw) kR_45 kR_46 kR_43 hdR_in ⟨Nat.le_trans (Nat.le_of_ble_eq_true rfl) hR.1, Nat.le_trans (Nat.le_of_ble_eq_true rfl) hR.2⟩ dX8_noLift_10 rfl (Nat.le_of_ble_eq_true rfl) (fun r1 hw => ?_)
  refine g_if_ne (tgt := 20) C.1 dX8_noLift_13 (by decide) (fun h2 => ?_) (fun h2 => ?_)
  · replace hw := hw.1 h2
    refine g_iconst (v := 0) C.1 dX8_noLift_20 (by decide) ?_
    exact hret _ _ _ _ hw rfl dX8_noLift_21
  · replace hw := hw.2 h2
    refine g_iconst (v := 1) C.1 dX8_noLift_16 (by decide) ?_
    refine g_goto (tgt := 21) C.1 dX8_noLift_17 (by decide) ?_
    exact hret _ _ _ _ hw rfl dX8_noLift_21
theorem hdR_noLift : yX8_noLift.cls = RX8 ∧ yX8_noLift.cls ≠ "java/lang/invoke/MethodHandle" ∧ yX8_noLift.cls ≠ "java/lang/invoke/VarHandle" ∧ (parseMethodDescriptor yX8_noLift.desc).map (fun d => d.parameters.length) = some 1 := by decide +kernel
theorem cR_noLift (l : Launch) (G : rG) (s : RSt) (v1 : Int32) (post : Int32 → RSt → Prop) (hw : wpR_noLift_0 post s v1) : rMi l yX8_noLift cX8_noLift 2 .boolean 1 25 G s [.int v1] post := rMi_of (by decide +kernel) rfl (Nat.le_of_ble_eq_true rfl) (fun X A H0 Q hl hR hsz C hret => wkR_noLift_0 C hsz hR hret s v1 hw)
def wpR_noSlope_0 (post : Int32 → RSt → Prop) (s : RSt) (v1 : Int32) : Prop := wpR_in_0 (fun r1 => (¬ r1 = 0 → post 0 s) ∧ (r1 = 0 → post 1 s)) v1.toInt64 0 (((s.1 9) - 1).toInt64)
theorem wkR_noSlope_0 {X : gT} {G : rG} {A : Nat → Prop} {H0 : Heap} {Q : State → Prop} (C : rC X cX8_noSlope 2 G A) (hsz : H0 = (g_s X).heap) (hR : 1 ≤ (g_R X).frames ∧ 25 ≤ (g_R X).locals) {post : Int32 → RSt → Prop} (hret : ∀ (r : Int32) (τ : RSt) (lv : List (Nat × Value)) (pc : Nat), post r τ → narrow .boolean (.int r) = .int r → decode cX8_noSlope pc = .ok (.ireturn, 1) → gJ X (rWd G A H0) Q 0 0 τ lv pc [.int r]) (s : RSt) (v1 : Int32) (hw : wpR_noSlope_0 post s v1) : gJ X (rWd G A H0) Q 0 0 s [(0, .ref (G.2.2.1 0)), (1, .int v1)] 0 [] := by
  refine g_iload_n C.1 1 dX8_noSlope_0 rfl rfl ?_
  refine g_i2l C.1 dX8_noSlope_1 ?_
  refine g_lconst (v := 0) C.1 dX8_noSlope_2 (by decide) ?_
  refine g_aload_n C.1 0 dX8_noSlope_3 rfl rfl ?_
  refine r_g9 C dX8_noSlope_4 ?_
  refine g_iconst (v := 1) C.1 dX8_noSlope_7 (by decide) ?_
  refine g_isub C.1 dX8_noSlope_8 ?_
  refine g_i2l C.1 dX8_noSlope_9 ?_
  refine g_callSi (rC.s C) (cR_in (g_l X) _ _ _ _ hw) kR_45 kR_46 kR_43 hdR_in ⟨Nat.le_trans (Nat.le_of_ble_eq_true rfl) hR.1, Nat.le_trans (Nat.le_of_ble_eq_true rfl) hR.2⟩ dX8_noSlope_10 rfl (Nat.le_of_ble_eq_true rfl) (fun r1 hw => ?_)
  refine g_if_ne (tgt := 20) C.1 dX8_noSlope_13 (by decide) (fun h2 => ?_) (fun h2 => ?_)
  · replace hw := hw.1 h2
    refine g_iconst (v := 0) C.1 dX8_noSlope_20 (by decide) ?_
    exact hret _ _ _ _ hw rfl dX8_noSlope_21
  · replace hw := hw.2 h2
    refine g_iconst (v := 1) C.1 dX8_noSlope_16 (by decide) ?_
    refine g_goto (tgt := 21) C.1 dX8_noSlope_17 (by decide) ?_
    exact hret _ _ _ _ hw rfl dX8_noSlope_21
theorem hdR_noSlope : yX8_noSlope.cls = RX8 ∧ yX8_noSlope.cls ≠ "java/lang/invoke/MethodHandle" ∧ yX8_noSlope.cls ≠ "java/lang/invoke/VarHandle" ∧ (parseMethodDescriptor yX8_noSlope.desc).map (fun d => d.parameters.length) = some 1 := by decide +kernel
theorem cR_noSlope (l : Launch) (G : rG) (s : RSt) (v1 : Int32) (post : Int32 → RSt → Prop) (hw : wpR_noSlope_0 post s v1) : rMi l yX8_noSlope cX8_noSlope 2 .boolean 1 25 G s [.int v1] post := rMi_of (by decide +kernel) rfl (Nat.le_of_ble_eq_true rfl) (fun X A H0 Q hl hR hsz C hret => wkR_noSlope_0 C hsz hR hret s v1 hw)
def wpR_noCell_0 (post : Int32 → RSt → Prop) (s : RSt) (v1 : Int32) : Prop := wpR_in_0 (fun r1 => (¬ r1 = 0 → post 0 s) ∧ (r1 = 0 → post 1 s)) v1.toInt64 0 (((s.1 14) - 1).toInt64)
theorem wkR_noCell_0 {X : gT} {G : rG} {A : Nat → Prop} {H0 : Heap} {Q : State → Prop} (C : rC X cX8_noCell 2 G A) (hsz : H0 = (g_s X).heap) (hR : 1 ≤ (g_R X).frames ∧ 25 ≤ (g_R X).locals) {post : Int32 → RSt → Prop} (hret : ∀ (r : Int32) (τ : RSt) (lv : List (Nat × Value)) (pc : Nat), post r τ → narrow .boolean (.int r) = .int r → decode cX8_noCell pc = .ok (.ireturn, 1) → gJ X (rWd G A H0) Q 0 0 τ lv pc [.int r]) (s : RSt) (v1 : Int32) (hw : wpR_noCell_0 post s v1) : gJ X (rWd G A H0) Q 0 0 s [(0, .ref (G.2.2.1 0)), (1, .int v1)] 0 [] := by
  refine g_iload_n C.1 1 dX8_noCell_0 rfl rfl ?_
  refine g_i2l C.1 dX8_noCell_1 ?_
  refine g_lconst (v := 0) C.1 dX8_noCell_2 (by decide) ?_
  refine g_aload_n C.1 0 dX8_noCell_3 rfl rfl ?_
  refine r_g14 C dX8_noCell_4 ?_
  refine g_iconst (v := 1) C.1 dX8_noCell_7 (by decide) ?_
  refine g_isub C.1 dX8_noCell_8 ?_
  refine g_i2l C.1 dX8_noCell_9 ?_
  refine g_callSi (rC.s C) (cR_in (g_l X) _ _ _ _ hw) kR_45 kR_46 kR_43 hdR_in ⟨Nat.le_trans (Nat.le_of_ble_eq_true rfl) hR.1, Nat.le_trans (Nat.le_of_ble_eq_true rfl) hR.2⟩ dX8_noCell_10 rfl (Nat.le_of_ble_eq_true rfl) (fun r1 hw => ?_)
  refine g_if_ne (tgt := 20) C.1 dX8_noCell_13 (by decide) (fun h2 => ?_) (fun h2 => ?_)
  · replace hw := hw.1 h2
    refine g_iconst (v := 0) C.1 dX8_noCell_20 (by decide) ?_
    exact hret _ _ _ _ hw rfl dX8_noCell_21
  · replace hw := hw.2 h2
    refine g_iconst (v := 1) C.1 dX8_noCell_16 (by decide) ?_
    refine g_goto (tgt := 21) C.1 dX8_noCell_17 (by decide) ?_
    exact hret _ _ _ _ hw rfl dX8_noCell_21
theorem hdR_noCell : yX8_noCell.cls = RX8 ∧ yX8_noCell.cls ≠ "java/lang/invoke/MethodHandle" ∧ yX8_noCell.cls ≠ "java/lang/invoke/VarHandle" ∧ (parseMethodDescriptor yX8_noCell.desc).map (fun d => d.parameters.length) = some 1 := by decide +kernel
theorem cR_noCell (l : Launch) (G : rG) (s : RSt) (v1 : Int32) (post : Int32 → RSt → Prop) (hw : wpR_noCell_0 post s v1) : rMi l yX8_noCell cX8_noCell 2 .boolean 1 25 G s [.int v1] post := rMi_of (by decide +kernel) rfl (Nat.le_of_ble_eq_true rfl) (fun X A H0 Q hl hR hsz C hret => wkR_noCell_0 C hsz hR hret s v1 hw)
def wpR_noGroup_0 (post : Int32 → RSt → Prop) (s : RSt) (v1 : Int32) : Prop := wpR_in_0 (fun r1 => (¬ r1 = 0 → post 0 s) ∧ (r1 = 0 → post 1 s)) v1.toInt64 0 (((s.1 22) - 1).toInt64)
theorem wkR_noGroup_0 {X : gT} {G : rG} {A : Nat → Prop} {H0 : Heap} {Q : State → Prop} (C : rC X cX8_noGroup 2 G A) (hsz : H0 = (g_s X).heap) (hR : 1 ≤ (g_R X).frames ∧ 25 ≤ (g_R X).locals) {post : Int32 → RSt → Prop} (hret : ∀ (r : Int32) (τ : RSt) (lv : List (Nat × Value)) (pc : Nat), post r τ → narrow .boolean (.int r) = .int r → decode cX8_noGroup pc = .ok (.ireturn, 1) → gJ X (rWd G A H0) Q 0 0 τ lv pc [.int r]) (s : RSt) (v1 : Int32) (hw : wpR_noGroup_0 post s v1) : gJ X (rWd G A H0) Q 0 0 s [(0, .ref (G.2.2.1 0)), (1, .int v1)] 0 [] := by
  refine g_iload_n C.1 1 dX8_noGroup_0 rfl rfl ?_
  refine g_i2l C.1 dX8_noGroup_1 ?_
  refine g_lconst (v := 0) C.1 dX8_noGroup_2 (by decide) ?_
  refine g_aload_n C.1 0 dX8_noGroup_3 rfl rfl ?_
  refine r_g22 C dX8_noGroup_4 ?_
  refine g_iconst (v := 1) C.1 dX8_noGroup_7 (by decide) ?_
  refine g_isub C.1 dX8_noGroup_8 ?_
  refine g_i2l C.1 dX8_noGroup_9 ?_
  refine g_callSi (rC.s C) (cR_in (g_l X) _ _ _ _ hw) kR_45 kR_46 kR_43 hdR_in ⟨Nat.le_trans (Nat.le_of_ble_eq_true rfl) hR.1, Nat.le_trans (Nat.le_of_ble_eq_true rfl) hR.2⟩ dX8_noGroup_10 rfl (Nat.le_of_ble_eq_true rfl) (fun r1 hw => ?_)
  refine g_if_ne (tgt := 20) C.1 dX8_noGroup_13 (by decide) (fun h2 => ?_) (fun h2 => ?_)
  · replace hw := hw.1 h2
    refine g_iconst (v := 0) C.1 dX8_noGroup_20 (by decide) ?_
    exact hret _ _ _ _ hw rfl dX8_noGroup_21
  · replace hw := hw.2 h2
    refine g_iconst (v := 1) C.1 dX8_noGroup_16 (by decide) ?_
    refine g_goto (tgt := 21) C.1 dX8_noGroup_17 (by decide) ?_
    exact hret _ _ _ _ hw rfl dX8_noGroup_21
theorem hdR_noGroup : yX8_noGroup.cls = RX8 ∧ yX8_noGroup.cls ≠ "java/lang/invoke/MethodHandle" ∧ yX8_noGroup.cls ≠ "java/lang/invoke/VarHandle" ∧ (parseMethodDescriptor yX8_noGroup.desc).map (fun d => d.parameters.length) = some 1 := by decide +kernel
theorem cR_noGroup (l : Launch) (G : rG) (s : RSt) (v1 : Int32) (post : Int32 → RSt → Prop) (hw : wpR_noGroup_0 post s v1) : rMi l yX8_noGroup cX8_noGroup 2 .boolean 1 25 G s [.int v1] post := rMi_of (by decide +kernel) rfl (Nat.le_of_ble_eq_true rfl) (fun X A H0 Q hl hR hsz C hret => wkR_noGroup_0 C hsz hR hret s v1 hw)
def wpR_depth_0 (post : Int32 → RSt → Prop) (s : RSt) (v1 : Int32) : Prop := vp_in (4 * v1) 160 ∧ vp_in ((4 * v1) + 1) 160 ∧ vp_in ((4 * v1) + 2) 160 ∧ vp_in ((4 * v1) + 3) 160 ∧ post ((((s.2.1 10 (4 * v1).toNatClampNeg) + (s.2.1 10 ((4 * v1) + 1).toNatClampNeg)) + (s.2.1 10 ((4 * v1) + 2).toNatClampNeg)) + (s.2.1 10 ((4 * v1) + 3).toNatClampNeg)) s
theorem wkR_depth_0 {X : gT} {G : rG} {A : Nat → Prop} {H0 : Heap} {Q : State → Prop} (C : rC X cX8_depth 2 G A) (hsz : H0 = (g_s X).heap) (hR : 0 ≤ (g_R X).frames ∧ 0 ≤ (g_R X).locals) {post : Int32 → RSt → Prop} (hret : ∀ (r : Int32) (τ : RSt) (lv : List (Nat × Value)) (pc : Nat), post r τ → narrow .int (.int r) = .int r → decode cX8_depth pc = .ok (.ireturn, 1) → gJ X (rWd G A H0) Q 0 0 τ lv pc [.int r]) (s : RSt) (v1 : Int32) (hw : wpR_depth_0 post s v1) : gJ X (rWd G A H0) Q 0 0 s [(0, .ref (G.2.2.1 0)), (1, .int v1)] 0 [] := by
  refine g_aload_n C.1 0 dX8_depth_0 rfl rfl ?_
  refine r_g10 C dX8_depth_1 ?_
  refine g_iconst (v := 4) C.1 dX8_depth_4 (by decide) ?_
  refine g_iload_n C.1 1 dX8_depth_5 rfl rfl ?_
  refine g_imul C.1 dX8_depth_6 ?_
  refine r_ld10 C hw.1 dX8_depth_7 ?_
  replace hw := hw.2
  refine g_aload_n C.1 0 dX8_depth_8 rfl rfl ?_
  refine r_g10 C dX8_depth_9 ?_
  refine g_iconst (v := 4) C.1 dX8_depth_12 (by decide) ?_
  refine g_iload_n C.1 1 dX8_depth_13 rfl rfl ?_
  refine g_imul C.1 dX8_depth_14 ?_
  refine g_iconst (v := 1) C.1 dX8_depth_15 (by decide) ?_
  refine g_iadd C.1 dX8_depth_16 ?_
  refine r_ld10 C hw.1 dX8_depth_17 ?_
  replace hw := hw.2
  refine g_iadd C.1 dX8_depth_18 ?_
  refine g_aload_n C.1 0 dX8_depth_19 rfl rfl ?_
  refine r_g10 C dX8_depth_20 ?_
  refine g_iconst (v := 4) C.1 dX8_depth_23 (by decide) ?_
  refine g_iload_n C.1 1 dX8_depth_24 rfl rfl ?_
  refine g_imul C.1 dX8_depth_25 ?_
  refine g_iconst (v := 2) C.1 dX8_depth_26 (by decide) ?_
  refine g_iadd C.1 dX8_depth_27 ?_
  refine r_ld10 C hw.1 dX8_depth_28 ?_
  replace hw := hw.2
  refine g_iadd C.1 dX8_depth_29 ?_
  refine g_aload_n C.1 0 dX8_depth_30 rfl rfl ?_
  refine r_g10 C dX8_depth_31 ?_
  refine g_iconst (v := 4) C.1 dX8_depth_34 (by decide) ?_
  refine g_iload_n C.1 1 dX8_depth_35 rfl rfl ?_
  refine g_imul C.1 dX8_depth_36 ?_
  refine g_iconst (v := 3) C.1 dX8_depth_37 (by decide) ?_
  refine g_iadd C.1 dX8_depth_38 ?_
  refine r_ld10 C hw.1 dX8_depth_39 ?_
  replace hw := hw.2
  refine g_iadd C.1 dX8_depth_40 ?_
  exact hret _ _ _ _ hw rfl dX8_depth_41
theorem hdR_depth : yX8_depth.cls = RX8 ∧ yX8_depth.cls ≠ "java/lang/invoke/MethodHandle" ∧ yX8_depth.cls ≠ "java/lang/invoke/VarHandle" ∧ (parseMethodDescriptor yX8_depth.desc).map (fun d => d.parameters.length) = some 1 := by decide +kernel
theorem cR_depth (l : Launch) (G : rG) (s : RSt) (v1 : Int32) (post : Int32 → RSt → Prop) (hw : wpR_depth_0 post s v1) : rMi l yX8_depth cX8_depth 2 .int 0 0 G s [.int v1] post := rMi_of (by decide +kernel) rfl (Nat.le_of_ble_eq_true rfl) (fun X A H0 Q hl hR hsz C hret => wkR_depth_0 C hsz hR hret s v1 hw)
def wpR_isRunning_0 (post : Int32 → RSt → Prop) (s : RSt) (v1 : Int32) : Prop := vp_in v1 8 ∧ (¬ (s.2.1 4 v1.toNatClampNeg) = 0 → post 0 s) ∧ ((s.2.1 4 v1.toNatClampNeg) = 0 → vp_in ((5 * v1) + 4) 40 ∧ ((s.2.1 3 ((5 * v1) + 4).toNatClampNeg) < (s.1 27) → post 0 s) ∧ (¬ (s.2.1 3 ((5 * v1) + 4).toNatClampNeg) < (s.1 27) → post 1 s))
theorem wkR_isRunning_0 {X : gT} {G : rG} {A : Nat → Prop} {H0 : Heap} {Q : State → Prop} (C : rC X cX8_isRunning 2 G A) (hsz : H0 = (g_s X).heap) (hR : 0 ≤ (g_R X).frames ∧ 0 ≤ (g_R X).locals) {post : Int32 → RSt → Prop} (hret : ∀ (r : Int32) (τ : RSt) (lv : List (Nat × Value)) (pc : Nat), post r τ → narrow .boolean (.int r) = .int r → decode cX8_isRunning pc = .ok (.ireturn, 1) → gJ X (rWd G A H0) Q 0 0 τ lv pc [.int r]) (s : RSt) (v1 : Int32) (hw : wpR_isRunning_0 post s v1) : gJ X (rWd G A H0) Q 0 0 s [(0, .ref (G.2.2.1 0)), (1, .int v1)] 0 [] := by
  refine g_aload_n C.1 0 dX8_isRunning_0 rfl rfl ?_
  refine r_g4 C dX8_isRunning_1 ?_
  refine g_iload_n C.1 1 dX8_isRunning_4 rfl rfl ?_
  refine r_ld4 C hw.1 dX8_isRunning_5 ?_
  replace hw := hw.2
  refine g_if_ne (tgt := 30) C.1 dX8_isRunning_6 (by decide) (fun h1 => ?_) (fun h1 => ?_)
  · replace hw := hw.1 h1
    refine g_iconst (v := 0) C.1 dX8_isRunning_30 (by decide) ?_
    exact hret _ _ _ _ hw rfl dX8_isRunning_31
  · replace hw := hw.2 h1
    refine g_aload_n C.1 0 dX8_isRunning_9 rfl rfl ?_
    refine r_g27 C dX8_isRunning_10 ?_
    refine g_aload_n C.1 0 dX8_isRunning_13 rfl rfl ?_
    refine r_g3 C dX8_isRunning_14 ?_
    refine g_iconst (v := 5) C.1 dX8_isRunning_17 (by decide) ?_
    refine g_iload_n C.1 1 dX8_isRunning_18 rfl rfl ?_
    refine g_imul C.1 dX8_isRunning_19 ?_
    refine g_iconst (v := 4) C.1 dX8_isRunning_20 (by decide) ?_
    refine g_iadd C.1 dX8_isRunning_21 ?_
    refine r_ld3 C hw.1 dX8_isRunning_22 ?_
    replace hw := hw.2
    refine g_icmp_gt (tgt := 30) C.1 dX8_isRunning_23 (by decide) (fun h2 => ?_) (fun h2 => ?_)
    · replace hw := hw.1 h2
      refine g_iconst (v := 0) C.1 dX8_isRunning_30 (by decide) ?_
      exact hret _ _ _ _ hw rfl dX8_isRunning_31
    · replace hw := hw.2 h2
      refine g_iconst (v := 1) C.1 dX8_isRunning_26 (by decide) ?_
      refine g_goto (tgt := 31) C.1 dX8_isRunning_27 (by decide) ?_
      exact hret _ _ _ _ hw rfl dX8_isRunning_31
theorem hdR_isRunning : yX8_isRunning.cls = RX8 ∧ yX8_isRunning.cls ≠ "java/lang/invoke/MethodHandle" ∧ yX8_isRunning.cls ≠ "java/lang/invoke/VarHandle" ∧ (parseMethodDescriptor yX8_isRunning.desc).map (fun d => d.parameters.length) = some 1 := by decide +kernel
theorem cR_isRunning (l : Launch) (G : rG) (s : RSt) (v1 : Int32) (post : Int32 → RSt → Prop) (hw : wpR_isRunning_0 post s v1) : rMi l yX8_isRunning cX8_isRunning 2 .boolean 0 0 G s [.int v1] post := rMi_of (by decide +kernel) rfl (Nat.le_of_ble_eq_true rfl) (fun X A H0 Q hl hR hsz C hret => wkR_isRunning_0 C hsz hR hret s v1 hw)
def wpR_fail_0 (post : RSt → Prop) (s : RSt) (v1 : Int32) : Prop := (0 ≤ (s.1 37) → post s) ∧ (¬ 0 ≤ (s.1 37) → ∀ s2 : RSt, s2 = rsI s 37 v1 → post s2)
theorem wkR_fail_0 {X : gT} {G : rG} {A : Nat → Prop} {H0 : Heap} {Q : State → Prop} (C : rC X cX8_fail 2 G A) (hsz : H0 = (g_s X).heap) (hR : 0 ≤ (g_R X).frames ∧ 0 ≤ (g_R X).locals) {post : RSt → Prop} (hret : ∀ (τ : RSt) (lv : List (Nat × Value)) (pc : Nat), post τ → decode cX8_fail pc = .ok (.return_, 1) → gJ X (rWd G A H0) Q 0 0 τ lv pc []) (s : RSt) (v1 : Int32) (hw : wpR_fail_0 post s v1) : gJ X (rWd G A H0) Q 0 0 s [(0, .ref (G.2.2.1 0)), (1, .int v1)] 0 [] := by
  refine g_aload_n C.1 0 dX8_fail_0 rfl rfl ?_
  refine r_g37 C dX8_fail_1 ?_
  refine g_if_ge (tgt := 12) C.1 dX8_fail_4 (by decide) (fun h1 => ?_) (fun h1 => ?_)
  · replace hw := hw.1 h1
    exact hret _ _ _ hw dX8_fail_12
  · replace hw := hw.2 h1
    refine g_aload_n C.1 0 dX8_fail_7 rfl rfl ?_
    refine g_iload_n C.1 1 dX8_fail_8 rfl rfl ?_
    refine r_p37 C dX8_fail_9 ?_
    refine gJ.nm (fun s2 es2 => ?_)
    replace hw := hw s2 es2
    exact hret _ _ _ hw dX8_fail_12
theorem hdR_fail : yX8_fail.cls = RX8 ∧ yX8_fail.cls ≠ "java/lang/invoke/MethodHandle" ∧ yX8_fail.cls ≠ "java/lang/invoke/VarHandle" ∧ (parseMethodDescriptor yX8_fail.desc).map (fun d => d.parameters.length) = some 1 := by decide +kernel
theorem cR_fail (l : Launch) (G : rG) (s : RSt) (v1 : Int32) (post : RSt → Prop) (hw : wpR_fail_0 post s v1) : rMv l yX8_fail cX8_fail 2 0 0 G s [.int v1] post := rMv_of (by decide +kernel) rfl (Nat.le_of_ble_eq_true rfl) (fun X A H0 Q hl hR hsz C hret => wkR_fail_0 C hsz hR hret s v1 hw)
def wpR_emit_0 (post : RSt → Prop) (s : RSt) (v1 : Int32) (v2 : Int32) : Prop := vp_in 10 11 ∧ vp_in (4000 + (s.2.1 17 (10 : Int32).toNatClampNeg)) 4400 ∧ ∀ s1 : RSt, s1 = rsA s 15 (4000 + (s.2.1 17 (10 : Int32).toNatClampNeg)).toNatClampNeg v1 → vp_in (4000 + (s.2.1 17 (10 : Int32).toNatClampNeg)) 4400 ∧ ∀ s2 : RSt, s2 = rsA s1 16 (4000 + (s.2.1 17 (10 : Int32).toNatClampNeg)).toNatClampNeg v2 → vp_in 10 11 ∧ vp_in 10 11 ∧ ∀ s3 : RSt, s3 = rsA s2 17 (10 : Int32).toNatClampNeg ((s2.2.1 17 (10 : Int32).toNatClampNeg) + 1) → post s3
theorem wkR_emit_0 {X : gT} {G : rG} {A : Nat → Prop} {H0 : Heap} {Q : State → Prop} (C : rC X cX8_emit 4 G A) (hsz : H0 = (g_s X).heap) (hR : 0 ≤ (g_R X).frames ∧ 0 ≤ (g_R X).locals) {post : RSt → Prop} (hret : ∀ (τ : RSt) (lv : List (Nat × Value)) (pc : Nat), post τ → decode cX8_emit pc = .ok (.return_, 1) → gJ X (rWd G A H0) Q 0 0 τ lv pc []) (s : RSt) (v1 : Int32) (v2 : Int32) (hw : wpR_emit_0 post s v1 v2) : gJ X (rWd G A H0) Q 0 0 s [(0, .ref (G.2.2.1 0)), (1, .int v1), (2, .int v2)] 0 [] := by
  refine g_sipush (v := 4000) C.1 dX8_emit_0 (by decide) ?_
  refine g_aload_n C.1 0 dX8_emit_3 rfl rfl ?_
  refine r_g17 C dX8_emit_4 ?_
  refine g_bipush (v := 10) C.1 dX8_emit_7 (by decide) ?_
  refine r_ld17 C hw.1 dX8_emit_9 ?_
  replace hw := hw.2
  refine g_iadd C.1 dX8_emit_10 ?_
  refine g_istore_n (lv' := [(3, .int (4000 + (s.2.1 17 (10 : Int32).toNatClampNeg))), (0, .ref (G.2.2.1 0)), (1, .int v1), (2, .int v2)]) C.1 dX8_emit_11 rfl (by decide) rfl ?_
  refine g_aload_n C.1 1 dX8_emit_12 rfl rfl ?_
  refine r_g15 C dX8_emit_13 ?_
  refine g_iload_n C.1 0 dX8_emit_16 rfl rfl ?_
  refine g_iload_n C.1 2 dX8_emit_17 rfl rfl ?_
  refine r_st15 C hw.1 dX8_emit_18 ?_
  replace hw := hw.2
  refine gJ.nm (fun s1 es1 => ?_)
  replace hw := hw s1 es1
  refine g_aload_n C.1 1 dX8_emit_19 rfl rfl ?_
  refine r_g16 C dX8_emit_20 ?_
  refine g_iload_n C.1 0 dX8_emit_23 rfl rfl ?_
  refine g_iload_n C.1 3 dX8_emit_24 rfl rfl ?_
  refine r_st16 C hw.1 dX8_emit_25 ?_
  replace hw := hw.2
  refine gJ.nm (fun s2 es2 => ?_)
  replace hw := hw s2 es2
  refine g_aload_n C.1 1 dX8_emit_26 rfl rfl ?_
  refine r_g17 C dX8_emit_27 ?_
  refine g_bipush (v := 10) C.1 dX8_emit_30 (by decide) ?_
  refine g_dup2 C.1 dX8_emit_32 rfl rfl ?_
  refine r_ld17 C hw.1 dX8_emit_33 ?_
  replace hw := hw.2
  refine g_iconst (v := 1) C.1 dX8_emit_34 (by decide) ?_
  refine g_iadd C.1 dX8_emit_35 ?_
  refine r_st17 C hw.1 dX8_emit_36 ?_
  replace hw := hw.2
  refine gJ.nm (fun s3 es3 => ?_)
  replace hw := hw s3 es3
  exact hret _ _ _ hw dX8_emit_37
theorem hdR_emit : yX8_emit.cls = RX8 ∧ yX8_emit.cls ≠ "java/lang/invoke/MethodHandle" ∧ yX8_emit.cls ≠ "java/lang/invoke/VarHandle" ∧ (parseMethodDescriptor yX8_emit.desc).map (fun d => d.parameters.length) = some 2 := by decide +kernel
theorem cR_emit (l : Launch) (G : rG) (s : RSt) (v1 : Int32) (v2 : Int32) (post : RSt → Prop) (hw : wpR_emit_0 post s v1 v2) : rMv l yX8_emit cX8_emit 4 0 0 G s [.int v1, .int v2] post := rMv_of (by decide +kernel) rfl (Nat.le_of_ble_eq_true rfl) (fun X A H0 Q hl hR hsz C hret => wkR_emit_0 C hsz hR hret s v1 v2 hw)
def wpR_is_0 (post : Int32 → RSt → Prop) (s : RSt) (v1 : Int32) (v2 : Int32) : Prop := (0 ≤ (s.1 37) → post 0 s) ∧ (¬ 0 ≤ (s.1 37) → (¬ (s.1 33) = v1 → post 0 s) ∧ ((s.1 33) = v1 → (¬ (s.1 35) = v2 → post 0 s) ∧ ((s.1 35) = v2 → post 1 s)))
theorem wkR_is_0 {X : gT} {G : rG} {A : Nat → Prop} {H0 : Heap} {Q : State → Prop} (C : rC X cX8_is 3 G A) (hsz : H0 = (g_s X).heap) (hR : 0 ≤ (g_R X).frames ∧ 0 ≤ (g_R X).locals) {post : Int32 → RSt → Prop} (hret : ∀ (r : Int32) (τ : RSt) (lv : List (Nat × Value)) (pc : Nat), post r τ → narrow .boolean (.int r) = .int r → decode cX8_is pc = .ok (.ireturn, 1) → gJ X (rWd G A H0) Q 0 0 τ lv pc [.int r]) (s : RSt) (v1 : Int32) (v2 : Int32) (hw : wpR_is_0 post s v1 v2) : gJ X (rWd G A H0) Q 0 0 s [(0, .ref (G.2.2.1 0)), (1, .int v1), (2, .int v2)] 0 [] := by
  refine g_aload_n C.1 0 dX8_is_0 rfl rfl ?_
  refine r_g37 C dX8_is_1 ?_
  refine g_if_ge (tgt := 27) C.1 dX8_is_4 (by decide) (fun h1 => ?_) (fun h1 => ?_)
  · replace hw := hw.1 h1
    refine g_iconst (v := 0) C.1 dX8_is_27 (by decide) ?_
    exact hret _ _ _ _ hw rfl dX8_is_28
  · replace hw := hw.2 h1
    refine g_aload_n C.1 0 dX8_is_7 rfl rfl ?_
    refine r_g33 C dX8_is_8 ?_
    refine g_iload_n C.1 1 dX8_is_11 rfl rfl ?_
    refine g_icmp_ne (tgt := 27) C.1 dX8_is_12 (by decide) (fun h2 => ?_) (fun h2 => ?_)
    · replace hw := hw.1 h2
      refine g_iconst (v := 0) C.1 dX8_is_27 (by decide) ?_
      exact hret _ _ _ _ hw rfl dX8_is_28
    · replace hw := hw.2 h2
      refine g_aload_n C.1 0 dX8_is_15 rfl rfl ?_
      refine r_g35 C dX8_is_16 ?_
      refine g_iload_n C.1 2 dX8_is_19 rfl rfl ?_
      refine g_icmp_ne (tgt := 27) C.1 dX8_is_20 (by decide) (fun h3 => ?_) (fun h3 => ?_)
      · replace hw := hw.1 h3
        refine g_iconst (v := 0) C.1 dX8_is_27 (by decide) ?_
        exact hret _ _ _ _ hw rfl dX8_is_28
      · replace hw := hw.2 h3
        refine g_iconst (v := 1) C.1 dX8_is_23 (by decide) ?_
        refine g_goto (tgt := 28) C.1 dX8_is_24 (by decide) ?_
        exact hret _ _ _ _ hw rfl dX8_is_28
theorem hdR_is : yX8_is.cls = RX8 ∧ yX8_is.cls ≠ "java/lang/invoke/MethodHandle" ∧ yX8_is.cls ≠ "java/lang/invoke/VarHandle" ∧ (parseMethodDescriptor yX8_is.desc).map (fun d => d.parameters.length) = some 2 := by decide +kernel
theorem cR_is (l : Launch) (G : rG) (s : RSt) (v1 : Int32) (v2 : Int32) (post : Int32 → RSt → Prop) (hw : wpR_is_0 post s v1 v2) : rMi l yX8_is cX8_is 3 .boolean 0 0 G s [.int v1, .int v2] post := rMi_of (by decide +kernel) rfl (Nat.le_of_ble_eq_true rfl) (fun X A H0 Q hl hR hsz C hret => wkR_is_0 C hsz hR hret s v1 v2 hw)
def wpR_compares_0 (post : Int32 → Prop) (v0 : Int32) (v1 : Int32) (v2 : Int32) : Prop := (¬ v1 = 0 → (¬ v1 = 1 → (¬ v0 = v2 → post 0) ∧ (v0 = v2 → post 1)) ∧ (v1 = 1 → (v0 ≤ v2 → post 0) ∧ (¬ v0 ≤ v2 → post 1))) ∧ (v1 = 0 → (v2 ≤ v0 → post 0) ∧ (¬ v2 ≤ v0 → post 1))
theorem wkR_compares_0 {X : gT} {H0 : Heap} {Q : State → Prop} (C : sC X cX8_compares 3 RX8) (hR : 0 ≤ (g_R X).frames ∧ 0 ≤ (g_R X).locals) {post : Int32 → Prop} (hret : ∀ (r : Int32) (lv : List (Nat × Value)) (pc : Nat), post r → narrow .boolean (.int r) = .int r → decode cX8_compares pc = .ok (.ireturn, 1) → gJ X (gU H0) Q 0 0 () lv pc [.int r]) (v0 : Int32) (v1 : Int32) (v2 : Int32) (hw : wpR_compares_0 post v0 v1 v2) : gJ X (gU H0) Q 0 0 () [(0, .int v0), (1, .int v1), (2, .int v2)] 0 [] := by
  refine g_iload_n C.1 1 dX8_compares_0 rfl rfl ?_
  refine g_if_ne (tgt := 17) C.1 dX8_compares_1 (by decide) (fun h1 => ?_) (fun h1 => ?_)
  · replace hw := hw.1 h1
    refine g_iload_n C.1 1 dX8_compares_17 rfl rfl ?_
    refine g_iconst (v := 1) C.1 dX8_compares_18 (by decide) ?_
    refine g_icmp_ne (tgt := 35) C.1 dX8_compares_19 (by decide) (fun h2 => ?_) (fun h2 => ?_)
    · replace hw := hw.1 h2
      refine g_iload_n C.1 0 dX8_compares_35 rfl rfl ?_
      refine g_iload_n C.1 2 dX8_compares_36 rfl rfl ?_
      refine g_icmp_ne (tgt := 44) C.1 dX8_compares_37 (by decide) (fun h3 => ?_) (fun h3 => ?_)
      · replace hw := hw.1 h3
        refine g_iconst (v := 0) C.1 dX8_compares_44 (by decide) ?_
        exact hret _ _ _ hw rfl dX8_compares_45
      · replace hw := hw.2 h3
        refine g_iconst (v := 1) C.1 dX8_compares_40 (by decide) ?_
        refine g_goto (tgt := 45) C.1 dX8_compares_41 (by decide) ?_
        exact hret _ _ _ hw rfl dX8_compares_45
    · replace hw := hw.2 h2
      refine g_iload_n C.1 0 dX8_compares_22 rfl rfl ?_
      refine g_iload_n C.1 2 dX8_compares_23 rfl rfl ?_
      refine g_icmp_le (tgt := 31) C.1 dX8_compares_24 (by decide) (fun h4 => ?_) (fun h4 => ?_)
      · replace hw := hw.1 h4
        refine g_iconst (v := 0) C.1 dX8_compares_31 (by decide) ?_
        refine g_goto (tgt := 45) C.1 dX8_compares_32 (by decide) ?_
        exact hret _ _ _ hw rfl dX8_compares_45
      · replace hw := hw.2 h4
        refine g_iconst (v := 1) C.1 dX8_compares_27 (by decide) ?_
        refine g_goto (tgt := 45) C.1 dX8_compares_28 (by decide) ?_
        exact hret _ _ _ hw rfl dX8_compares_45
  · replace hw := hw.2 h1
    refine g_iload_n C.1 0 dX8_compares_4 rfl rfl ?_
    refine g_iload_n C.1 2 dX8_compares_5 rfl rfl ?_
    refine g_icmp_ge (tgt := 13) C.1 dX8_compares_6 (by decide) (fun h5 => ?_) (fun h5 => ?_)
    · replace hw := hw.1 h5
      refine g_iconst (v := 0) C.1 dX8_compares_13 (by decide) ?_
      refine g_goto (tgt := 45) C.1 dX8_compares_14 (by decide) ?_
      exact hret _ _ _ hw rfl dX8_compares_45
    · replace hw := hw.2 h5
      refine g_iconst (v := 1) C.1 dX8_compares_9 (by decide) ?_
      refine g_goto (tgt := 45) C.1 dX8_compares_10 (by decide) ?_
      exact hret _ _ _ hw rfl dX8_compares_45
theorem hdR_compares : yX8_compares.cls = RX8 ∧ yX8_compares.cls ≠ "java/lang/invoke/MethodHandle" ∧ yX8_compares.cls ≠ "java/lang/invoke/VarHandle" ∧ (parseMethodDescriptor yX8_compares.desc).map (fun d => d.parameters.length) = some 3 := by decide +kernel
theorem cR_compares (l : Launch) (v0 : Int32) (v1 : Int32) (v2 : Int32) (post : Int32 → Prop) (hw : wpR_compares_0 post v0 v1 v2) : rSi l yX8_compares cX8_compares 3 .boolean 0 0 [.int v0, .int v1, .int v2] post := rSi_of (own := RX8) (by decide +kernel) rfl (Nat.le_of_ble_eq_true rfl) (fun X H0 Q hR C hret => wkR_compares_0 C hR hret v0 v1 v2 hw)
def wpR_next_327 (post : RSt → Prop) (s : RSt) (v1 : Int32) : Prop := ∀ s1 : RSt, s1 = rsI s 33 3 → ∀ s2 : RSt, s2 = rsI s1 35 v1 → ∀ s3 : RSt, s3 = rsI s2 31 ((s2.1 31) + 1) → (v1 = 60 → post s3) ∧ (¬ v1 = 60 → (v1 = 62 → post s3) ∧ (¬ v1 = 62 → (v1 = 61 → post s3) ∧ (¬ v1 = 61 → (v1 = 40 → post s3) ∧ (¬ v1 = 40 → (v1 = 41 → post s3) ∧ (¬ v1 = 41 → wpR_fail_0 (fun s9 => post s9) s3 (s3.1 34))))))
def wpR_next_302 (post : RSt → Prop) (s : RSt) : Prop := (((s.1 31) - (s.1 34)) ≤ 6 → post s) ∧ (¬ ((s.1 31) - (s.1 34)) ≤ 6 → wpR_fail_0 (fun s11 => post s11) s (s.1 34))
def wpR_next_289 (post : RSt → Prop) (K212 : RSt → Prop) (s : RSt) : Prop := ∀ s12 : RSt, s12 = rsI s 31 ((s.1 31) + 1) → K212 s12
def wpR_next_212_F (post : RSt → Prop) (K212 : RSt → Prop) (s : RSt) : Prop := ((s.1 32) ≤ (s.1 31) → wpR_next_302 post s) ∧ (¬ (s.1 32) ≤ (s.1 31) → vp_in (s.1 31) 400 ∧ ((s.2.1 1 (s.1 31).toNatClampNeg) < 48 → wpR_next_302 post s) ∧ (¬ (s.2.1 1 (s.1 31).toNatClampNeg) < 48 → vp_in (s.1 31) 400 ∧ (57 < (s.2.1 1 (s.1 31).toNatClampNeg) → wpR_next_302 post s) ∧ (¬ 57 < (s.2.1 1 (s.1 31).toNatClampNeg) → (6 ≤ ((s.1 31) - (s.1 34)) → wpR_next_289 post K212 s) ∧ (¬ 6 ≤ ((s.1 31) - (s.1 34)) → vp_in (s.1 31) 400 ∧ ∀ s17 : RSt, s17 = rsI s 35 (((10 * (s.1 35)) + (s.2.1 1 (s.1 31).toNatClampNeg)) - 48) → wpR_next_289 post K212 s17))))
def wpR_next_212 (post : RSt → Prop) (s : RSt) : Prop := gLP (fun (K : RSt → Prop) (x : RSt) => wpR_next_212_F post (fun s => K s) x) s
def wpR_next_195 (post : RSt → Prop) (s : RSt) (v1 : Int32) : Prop := (v1 < 48 → wpR_next_327 post s v1) ∧ (¬ v1 < 48 → (57 < v1 → wpR_next_327 post s v1) ∧ (¬ 57 < v1 → ∀ s20 : RSt, s20 = rsI s 33 2 → wpR_next_212 post s20))
def wpR_next_171 (post : RSt → Prop) (K149 : RSt → Int32 → Prop) (s : RSt) (v2 : Int32) : Prop := K149 s (v2 + 1)
def wpR_next_149_F (post : RSt → Prop) (K149 : RSt → Int32 → Prop) (s : RSt) (v2 : Int32) : Prop := (10 ≤ v2 → (¬ (s.1 35) = 0 → post s) ∧ ((s.1 35) = 0 → wpR_fail_0 (fun s23 => post s23) s (s.1 34))) ∧ (¬ 10 ≤ v2 → wpR_word_0 (fun j24 => wpR_isWord_0 (fun r26 s25 => (r26 = 0 → wpR_next_171 post K149 s25 v2) ∧ (¬ r26 = 0 → ∀ s28 : RSt, s28 = rsI s25 35 v2 → wpR_next_171 post K149 s28 v2)) s j24) v2)
def wpR_next_149 (post : RSt → Prop) (s : RSt) (v2 : Int32) : Prop := gLP (fun (K : RSt × Int32 → Prop) (x : RSt × Int32) => wpR_next_149_F post (fun s v2 => K (s, v2)) x.1 x.2) (s, v2)
def wpR_next_147 (post : RSt → Prop) (s : RSt) : Prop := wpR_next_149 post s 1
def wpR_next_95_F (post : RSt → Prop) (K95 : RSt → Prop) (s : RSt) : Prop := ((s.1 32) ≤ (s.1 31) → wpR_next_147 post s) ∧ (¬ (s.1 32) ≤ (s.1 31) → vp_in (s.1 31) 400 ∧ ((s.2.1 1 (s.1 31).toNatClampNeg) < 97 → wpR_next_147 post s) ∧ (¬ (s.2.1 1 (s.1 31).toNatClampNeg) < 97 → vp_in (s.1 31) 400 ∧ (122 < (s.2.1 1 (s.1 31).toNatClampNeg) → wpR_next_147 post s) ∧ (¬ 122 < (s.2.1 1 (s.1 31).toNatClampNeg) → ∀ s32 : RSt, s32 = rsI s 31 ((s.1 31) + 1) → K95 s32)))
def wpR_next_95 (post : RSt → Prop) (s : RSt) : Prop := gLP (fun (K : RSt → Prop) (x : RSt) => wpR_next_95_F post (fun s => K s) x) s
def wpR_next_38 (post : RSt → Prop) (s : RSt) : Prop := ∀ s33 : RSt, s33 = rsI s 34 (s.1 31) → ∀ s34 : RSt, s34 = rsI s33 35 0 → (¬ (s34.1 31) = (s34.1 32) → vp_in (s34.1 31) 400 ∧ ((s34.2.1 1 (s34.1 31).toNatClampNeg) < 97 → wpR_next_195 post s34 (s34.2.1 1 (s34.1 31).toNatClampNeg)) ∧ (¬ (s34.2.1 1 (s34.1 31).toNatClampNeg) < 97 → (122 < (s34.2.1 1 (s34.1 31).toNatClampNeg) → wpR_next_195 post s34 (s34.2.1 1 (s34.1 31).toNatClampNeg)) ∧ (¬ 122 < (s34.2.1 1 (s34.1 31).toNatClampNeg) → ∀ s38 : RSt, s38 = rsI s34 33 1 → wpR_next_95 post s38))) ∧ ((s34.1 31) = (s34.1 32) → ∀ s39 : RSt, s39 = rsI s34 33 0 → post s39)
def wpR_next_0_F (post : RSt → Prop) (K0 : RSt → Prop) (s : RSt) : Prop := ((s.1 32) ≤ (s.1 31) → wpR_next_38 post s) ∧ (¬ (s.1 32) ≤ (s.1 31) → vp_in (s.1 31) 400 ∧ (¬ (s.2.1 1 (s.1 31).toNatClampNeg) = 32 → wpR_next_38 post s) ∧ ((s.2.1 1 (s.1 31).toNatClampNeg) = 32 → ∀ s42 : RSt, s42 = rsI s 31 ((s.1 31) + 1) → K0 s42))
def wpR_next_0 (post : RSt → Prop) (s : RSt) : Prop := gLP (fun (K : RSt → Prop) (x : RSt) => wpR_next_0_F post (fun s => K s) x) s
theorem wkR_next_327 {X : gT} {G : rG} {A : Nat → Prop} {H0 : Heap} {Q : State → Prop} (C : rC X cX8_next 3 G A) (hsz : H0 = (g_s X).heap) (hR : 5 ≤ (g_R X).frames ∧ 108 ≤ (g_R X).locals) {post : RSt → Prop} (hret : ∀ (τ : RSt) (lv : List (Nat × Value)) (pc : Nat), post τ → decode cX8_next pc = .ok (.return_, 1) → gJ X (rWd G A H0) Q 0 0 τ lv pc []) (s : RSt) (v1 : Int32) (hw : wpR_next_327 post s v1) : gJ X (rWd G A H0) Q 0 0 s [(0, .ref (G.2.2.1 0)), (1, .int v1)] 327 [] := by
  refine g_aload_n C.1 0 dX8_next_327 rfl rfl ?_
  refine g_iconst (v := 3) C.1 dX8_next_328 (by decide) ?_
  refine r_p33 C dX8_next_329 ?_
  refine gJ.nm (fun s1 es1 => ?_)
  replace hw := hw s1 es1
  refine g_aload_n C.1 0 dX8_next_332 rfl rfl ?_
  refine g_iload_n C.1 1 dX8_next_333 rfl rfl ?_
  refine r_p35 C dX8_next_334 ?_
  refine gJ.nm (fun s2 es2 => ?_)
  replace hw := hw s2 es2
  refine g_aload_n C.1 0 dX8_next_337 rfl rfl ?_
  refine g_dup C.1 dX8_next_338 rfl ?_
  refine r_g31 C dX8_next_339 ?_
  refine g_iconst (v := 1) C.1 dX8_next_342 (by decide) ?_
  refine g_iadd C.1 dX8_next_343 ?_
  refine r_p31 C dX8_next_344 ?_
  refine gJ.nm (fun s3 es3 => ?_)
  replace hw := hw s3 es3
  refine g_iload_n C.1 1 dX8_next_347 rfl rfl ?_
  refine g_bipush (v := 60) C.1 dX8_next_348 (by decide) ?_
  refine g_icmp_eq (tgt := 385) C.1 dX8_next_350 (by decide) (fun h4 => ?_) (fun h4 => ?_)
  · replace hw := hw.1 h4
    exact hret _ _ _ hw dX8_next_385
  · replace hw := hw.2 h4
    refine g_iload_n C.1 1 dX8_next_353 rfl rfl ?_
    refine g_bipush (v := 62) C.1 dX8_next_354 (by decide) ?_
    refine g_icmp_eq (tgt := 385) C.1 dX8_next_356 (by decide) (fun h5 => ?_) (fun h5 => ?_)
    · replace hw := hw.1 h5
      exact hret _ _ _ hw dX8_next_385
    · replace hw := hw.2 h5
      refine g_iload_n C.1 1 dX8_next_359 rfl rfl ?_
      refine g_bipush (v := 61) C.1 dX8_next_360 (by decide) ?_
      refine g_icmp_eq (tgt := 385) C.1 dX8_next_362 (by decide) (fun h6 => ?_) (fun h6 => ?_)
      · replace hw := hw.1 h6
        exact hret _ _ _ hw dX8_next_385
      · replace hw := hw.2 h6
        refine g_iload_n C.1 1 dX8_next_365 rfl rfl ?_
        refine g_bipush (v := 40) C.1 dX8_next_366 (by decide) ?_
        refine g_icmp_eq (tgt := 385) C.1 dX8_next_368 (by decide) (fun h7 => ?_) (fun h7 => ?_)
        · replace hw := hw.1 h7
          exact hret _ _ _ hw dX8_next_385
        · replace hw := hw.2 h7
          refine g_iload_n C.1 1 dX8_next_371 rfl rfl ?_
          refine g_bipush (v := 41) C.1 dX8_next_372 (by decide) ?_
          refine g_icmp_eq (tgt := 385) C.1 dX8_next_374 (by decide) (fun h8 => ?_) (fun h8 => ?_)
          · replace hw := hw.1 h8
            exact hret _ _ _ hw dX8_next_385
          · replace hw := hw.2 h8
            refine g_aload_n C.1 0 dX8_next_377 rfl rfl ?_
            refine g_aload_n C.1 0 dX8_next_378 rfl rfl ?_
            refine r_g34 C dX8_next_379 ?_
            refine r_callv C hsz (cR_fail (g_l X) G s3 _ _ hw) kR_136 kR_137 kR_138 kR_75 hdR_fail ⟨Nat.le_trans (Nat.le_of_ble_eq_true rfl) hR.1, Nat.le_trans (Nat.le_of_ble_eq_true rfl) hR.2⟩ dX8_next_382 rfl (Nat.le_of_ble_eq_true rfl) (fun s9 hw => ?_)
            exact hret _ _ _ hw dX8_next_385
theorem wkR_next_302 {X : gT} {G : rG} {A : Nat → Prop} {H0 : Heap} {Q : State → Prop} (C : rC X cX8_next 3 G A) (hsz : H0 = (g_s X).heap) (hR : 5 ≤ (g_R X).frames ∧ 108 ≤ (g_R X).locals) {post : RSt → Prop} (hret : ∀ (τ : RSt) (lv : List (Nat × Value)) (pc : Nat), post τ → decode cX8_next pc = .ok (.return_, 1) → gJ X (rWd G A H0) Q 0 0 τ lv pc []) (s : RSt) (hw : wpR_next_302 post s) : gJ X (rWd G A H0) Q 0 0 s [(0, .ref (G.2.2.1 0))] 302 [] := by
  refine g_aload_n C.1 0 dX8_next_302 rfl rfl ?_
  refine r_g31 C dX8_next_303 ?_
  refine g_aload_n C.1 0 dX8_next_306 rfl rfl ?_
  refine r_g34 C dX8_next_307 ?_
  refine g_isub C.1 dX8_next_310 ?_
  refine g_bipush (v := 6) C.1 dX8_next_311 (by decide) ?_
  refine g_icmp_le (tgt := 385) C.1 dX8_next_313 (by decide) (fun h10 => ?_) (fun h10 => ?_)
  · replace hw := hw.1 h10
    exact hret _ _ _ hw dX8_next_385
  · replace hw := hw.2 h10
    refine g_aload_n C.1 0 dX8_next_316 rfl rfl ?_
    refine g_aload_n C.1 0 dX8_next_317 rfl rfl ?_
    refine r_g34 C dX8_next_318 ?_
    refine r_callv C hsz (cR_fail (g_l X) G s _ _ hw) kR_136 kR_137 kR_138 kR_75 hdR_fail ⟨Nat.le_trans (Nat.le_of_ble_eq_true rfl) hR.1, Nat.le_trans (Nat.le_of_ble_eq_true rfl) hR.2⟩ dX8_next_321 rfl (Nat.le_of_ble_eq_true rfl) (fun s11 hw => ?_)
    refine g_goto (tgt := 385) C.1 dX8_next_324 (by decide) ?_
    exact hret _ _ _ hw dX8_next_385
theorem wkR_next_289 {X : gT} {G : rG} {A : Nat → Prop} {H0 : Heap} {Q : State → Prop} (C : rC X cX8_next 3 G A) (hsz : H0 = (g_s X).heap) (hR : 5 ≤ (g_R X).frames ∧ 108 ≤ (g_R X).locals) {post : RSt → Prop} (hret : ∀ (τ : RSt) (lv : List (Nat × Value)) (pc : Nat), post τ → decode cX8_next pc = .ok (.return_, 1) → gJ X (rWd G A H0) Q 0 0 τ lv pc []) {K212 : RSt → Prop} (hK212 : ∀ (s : RSt), K212 s → gJ X (rWd G A H0) Q 0 0 s [(0, .ref (G.2.2.1 0))] 212 []) (s : RSt) (hw : wpR_next_289 post K212 s) : gJ X (rWd G A H0) Q 0 0 s [(0, .ref (G.2.2.1 0))] 289 [] := by
  refine g_aload_n C.1 0 dX8_next_289 rfl rfl ?_
  refine g_dup C.1 dX8_next_290 rfl ?_
  refine r_g31 C dX8_next_291 ?_
  refine g_iconst (v := 1) C.1 dX8_next_294 (by decide) ?_
  refine g_iadd C.1 dX8_next_295 ?_
  refine r_p31 C dX8_next_296 ?_
  refine gJ.nm (fun s12 es12 => ?_)
  replace hw := hw s12 es12
  refine g_goto (tgt := 212) C.1 dX8_next_299 (by decide) ?_
  exact hK212 _ hw
theorem wkR_next_212_F {X : gT} {G : rG} {A : Nat → Prop} {H0 : Heap} {Q : State → Prop} (C : rC X cX8_next 3 G A) (hsz : H0 = (g_s X).heap) (hR : 5 ≤ (g_R X).frames ∧ 108 ≤ (g_R X).locals) {post : RSt → Prop} (hret : ∀ (τ : RSt) (lv : List (Nat × Value)) (pc : Nat), post τ → decode cX8_next pc = .ok (.return_, 1) → gJ X (rWd G A H0) Q 0 0 τ lv pc []) {K212 : RSt → Prop} (hK212 : ∀ (s : RSt), K212 s → gJ X (rWd G A H0) Q 0 0 s [(0, .ref (G.2.2.1 0))] 212 []) (s : RSt) (hw : wpR_next_212_F post K212 s) : gJ X (rWd G A H0) Q 0 0 s [(0, .ref (G.2.2.1 0))] 212 [] := by
  refine g_aload_n C.1 0 dX8_next_212 rfl rfl ?_
  refine r_g31 C dX8_next_213 ?_
  refine g_aload_n C.1 0 dX8_next_216 rfl rfl ?_
  refine r_g32 C dX8_next_217 ?_
  refine g_icmp_ge (tgt := 302) C.1 dX8_next_220 (by decide) (fun h13 => ?_) (fun h13 => ?_)
  · replace hw := hw.1 h13
    exact wkR_next_302 C hsz hR hret _ hw
  · replace hw := hw.2 h13
    refine g_aload_n C.1 0 dX8_next_223 rfl rfl ?_
    refine r_g1 C dX8_next_224 ?_
    refine g_aload_n C.1 0 dX8_next_227 rfl rfl ?_
    refine r_g31 C dX8_next_228 ?_
    refine r_ld1 C hw.1 dX8_next_231 ?_
    replace hw := hw.2
    refine g_bipush (v := 48) C.1 dX8_next_232 (by decide) ?_
    refine g_icmp_lt (tgt := 302) C.1 dX8_next_234 (by decide) (fun h14 => ?_) (fun h14 => ?_)
    · replace hw := hw.1 h14
      exact wkR_next_302 C hsz hR hret _ hw
    · replace hw := hw.2 h14
      refine g_aload_n C.1 0 dX8_next_237 rfl rfl ?_
      refine r_g1 C dX8_next_238 ?_
      refine g_aload_n C.1 0 dX8_next_241 rfl rfl ?_
      refine r_g31 C dX8_next_242 ?_
      refine r_ld1 C hw.1 dX8_next_245 ?_
      replace hw := hw.2
      refine g_bipush (v := 57) C.1 dX8_next_246 (by decide) ?_
      refine g_icmp_gt (tgt := 302) C.1 dX8_next_248 (by decide) (fun h15 => ?_) (fun h15 => ?_)
      · replace hw := hw.1 h15
        exact wkR_next_302 C hsz hR hret _ hw
      · replace hw := hw.2 h15
        refine g_aload_n C.1 0 dX8_next_251 rfl rfl ?_
        refine r_g31 C dX8_next_252 ?_
        refine g_aload_n C.1 0 dX8_next_255 rfl rfl ?_
        refine r_g34 C dX8_next_256 ?_
        refine g_isub C.1 dX8_next_259 ?_
        refine g_bipush (v := 6) C.1 dX8_next_260 (by decide) ?_
        refine g_icmp_ge (tgt := 289) C.1 dX8_next_262 (by decide) (fun h16 => ?_) (fun h16 => ?_)
        · replace hw := hw.1 h16
          exact wkR_next_289 C hsz hR hret hK212 _ hw
        · replace hw := hw.2 h16
          refine g_aload_n C.1 0 dX8_next_265 rfl rfl ?_
          refine g_bipush (v := 10) C.1 dX8_next_266 (by decide) ?_
          refine g_aload_n C.1 0 dX8_next_268 rfl rfl ?_
          refine r_g35 C dX8_next_269 ?_
          refine g_imul C.1 dX8_next_272 ?_
          refine g_aload_n C.1 0 dX8_next_273 rfl rfl ?_
          refine r_g1 C dX8_next_274 ?_
          refine g_aload_n C.1 0 dX8_next_277 rfl rfl ?_
          refine r_g31 C dX8_next_278 ?_
          refine r_ld1 C hw.1 dX8_next_281 ?_
          replace hw := hw.2
          refine g_iadd C.1 dX8_next_282 ?_
          refine g_bipush (v := 48) C.1 dX8_next_283 (by decide) ?_
          refine g_isub C.1 dX8_next_285 ?_
          refine r_p35 C dX8_next_286 ?_
          refine gJ.nm (fun s17 es17 => ?_)
          replace hw := hw s17 es17
          exact wkR_next_289 C hsz hR hret hK212 _ hw
theorem wkR_next_212 {X : gT} {G : rG} {A : Nat → Prop} {H0 : Heap} {Q : State → Prop} (C : rC X cX8_next 3 G A) (hsz : H0 = (g_s X).heap) (hR : 5 ≤ (g_R X).frames ∧ 108 ≤ (g_R X).locals) {post : RSt → Prop} (hret : ∀ (τ : RSt) (lv : List (Nat × Value)) (pc : Nat), post τ → decode cX8_next pc = .ok (.return_, 1) → gJ X (rWd G A H0) Q 0 0 τ lv pc []) (s : RSt) (hw : wpR_next_212 post s) : gJ X (rWd G A H0) Q 0 0 s [(0, .ref (G.2.2.1 0))] 212 [] := 
  hw (fun (x : RSt) => (fun s => gJ X (rWd G A H0) Q 0 0 s [(0, .ref (G.2.2.1 0))] 212 []) x) (fun x hx => wkR_next_212_F C hsz hR hret (K212 := (fun s => gJ X (rWd G A H0) Q 0 0 s [(0, .ref (G.2.2.1 0))] 212 [])) (fun _ h => h) x hx)
theorem wkR_next_195 {X : gT} {G : rG} {A : Nat → Prop} {H0 : Heap} {Q : State → Prop} (C : rC X cX8_next 3 G A) (hsz : H0 = (g_s X).heap) (hR : 5 ≤ (g_R X).frames ∧ 108 ≤ (g_R X).locals) {post : RSt → Prop} (hret : ∀ (τ : RSt) (lv : List (Nat × Value)) (pc : Nat), post τ → decode cX8_next pc = .ok (.return_, 1) → gJ X (rWd G A H0) Q 0 0 τ lv pc []) (s : RSt) (v1 : Int32) (hw : wpR_next_195 post s v1) : gJ X (rWd G A H0) Q 0 0 s [(0, .ref (G.2.2.1 0)), (1, .int v1)] 195 [] := by
  refine g_iload_n C.1 1 dX8_next_195 rfl rfl ?_
  refine g_bipush (v := 48) C.1 dX8_next_196 (by decide) ?_
  refine g_icmp_lt (tgt := 327) C.1 dX8_next_198 (by decide) (fun h18 => ?_) (fun h18 => ?_)
  · replace hw := hw.1 h18
    exact wkR_next_327 C hsz hR hret _ _ hw
  · replace hw := hw.2 h18
    refine g_iload_n C.1 1 dX8_next_201 rfl rfl ?_
    refine g_bipush (v := 57) C.1 dX8_next_202 (by decide) ?_
    refine g_icmp_gt (tgt := 327) C.1 dX8_next_204 (by decide) (fun h19 => ?_) (fun h19 => ?_)
    · replace hw := hw.1 h19
      exact wkR_next_327 C hsz hR hret _ _ hw
    · replace hw := hw.2 h19
      refine g_aload_n C.1 0 dX8_next_207 rfl rfl ?_
      refine g_iconst (v := 2) C.1 dX8_next_208 (by decide) ?_
      refine r_p33 C dX8_next_209 ?_
      refine gJ.nm (fun s20 es20 => ?_)
      replace hw := hw s20 es20
      refine gJ.sub [0] rfl ?_
      exact wkR_next_212 C hsz hR hret _ hw
theorem wkR_next_171 {X : gT} {G : rG} {A : Nat → Prop} {H0 : Heap} {Q : State → Prop} (C : rC X cX8_next 3 G A) (hsz : H0 = (g_s X).heap) (hR : 5 ≤ (g_R X).frames ∧ 108 ≤ (g_R X).locals) {post : RSt → Prop} (hret : ∀ (τ : RSt) (lv : List (Nat × Value)) (pc : Nat), post τ → decode cX8_next pc = .ok (.return_, 1) → gJ X (rWd G A H0) Q 0 0 τ lv pc []) {K149 : RSt → Int32 → Prop} (hK149 : ∀ (s : RSt) (v2 : Int32), K149 s v2 → gJ X (rWd G A H0) Q 0 0 s [(0, .ref (G.2.2.1 0)), (2, .int v2)] 149 []) (s : RSt) (v2 : Int32) (hw : wpR_next_171 post K149 s v2) : gJ X (rWd G A H0) Q 0 0 s [(0, .ref (G.2.2.1 0)), (2, .int v2)] 171 [] := by
  refine g_iinc (v := v2 + 1) (lv' := [(2, .int (v2 + 1)), (0, .ref (G.2.2.1 0))]) C.1 1 dX8_next_171 rfl rfl (by decide) rfl ?_
  refine g_goto (tgt := 149) C.1 dX8_next_174 (by decide) ?_
  refine gJ.sub [1, 0] rfl ?_
  exact hK149 _ _ hw
theorem wkR_next_149_F {X : gT} {G : rG} {A : Nat → Prop} {H0 : Heap} {Q : State → Prop} (C : rC X cX8_next 3 G A) (hsz : H0 = (g_s X).heap) (hR : 5 ≤ (g_R X).frames ∧ 108 ≤ (g_R X).locals) {post : RSt → Prop} (hret : ∀ (τ : RSt) (lv : List (Nat × Value)) (pc : Nat), post τ → decode cX8_next pc = .ok (.return_, 1) → gJ X (rWd G A H0) Q 0 0 τ lv pc []) {K149 : RSt → Int32 → Prop} (hK149 : ∀ (s : RSt) (v2 : Int32), K149 s v2 → gJ X (rWd G A H0) Q 0 0 s [(0, .ref (G.2.2.1 0)), (2, .int v2)] 149 []) (s : RSt) (v2 : Int32) (hw : wpR_next_149_F post K149 s v2) : gJ X (rWd G A H0) Q 0 0 s [(0, .ref (G.2.2.1 0)), (2, .int v2)] 149 [] := by
  refine g_iload_n C.1 1 dX8_next_149 rfl rfl ?_
  refine g_bipush (v := 10) C.1 dX8_next_150 (by decide) ?_
  refine g_icmp_ge (tgt := 177) C.1 dX8_next_152 (by decide) (fun h21 => ?_) (fun h21 => ?_)
  · replace hw := hw.1 h21
    refine g_aload_n C.1 0 dX8_next_177 rfl rfl ?_
    refine r_g35 C dX8_next_178 ?_
    refine g_if_ne (tgt := 385) C.1 dX8_next_181 (by decide) (fun h22 => ?_) (fun h22 => ?_)
    · replace hw := hw.1 h22
      exact hret _ _ _ hw dX8_next_385
    · replace hw := hw.2 h22
      refine g_aload_n C.1 0 dX8_next_184 rfl rfl ?_
      refine g_aload_n C.1 0 dX8_next_185 rfl rfl ?_
      refine r_g34 C dX8_next_186 ?_
      refine r_callv C hsz (cR_fail (g_l X) G s _ _ hw) kR_136 kR_137 kR_138 kR_75 hdR_fail ⟨Nat.le_trans (Nat.le_of_ble_eq_true rfl) hR.1, Nat.le_trans (Nat.le_of_ble_eq_true rfl) hR.2⟩ dX8_next_189 rfl (Nat.le_of_ble_eq_true rfl) (fun s23 hw => ?_)
      refine g_goto (tgt := 385) C.1 dX8_next_192 (by decide) ?_
      exact hret _ _ _ hw dX8_next_385
  · replace hw := hw.2 h21
    refine g_aload_n C.1 0 dX8_next_155 rfl rfl ?_
    refine g_iload_n C.1 1 dX8_next_156 rfl rfl ?_
    refine r_callS0 C (cR_word (g_l X) G _ _ hw) kR_131 kR_132 kR_73 hdR_word ⟨Nat.le_trans (Nat.le_of_ble_eq_true rfl) hR.1, Nat.le_trans (Nat.le_of_ble_eq_true rfl) hR.2⟩ dX8_next_157 rfl (Nat.le_of_ble_eq_true rfl) (fun j24 hw => ?_)
    refine r_calli C hsz (cR_isWord (g_l X) G s _ _ hw) kR_133 kR_134 kR_135 kR_127 hdR_isWord ⟨Nat.le_trans (Nat.le_of_ble_eq_true rfl) hR.1, Nat.le_trans (Nat.le_of_ble_eq_true rfl) hR.2⟩ dX8_next_160 rfl (Nat.le_of_ble_eq_true rfl) (fun r26 s25 hw => ?_)
    refine g_if_eq (tgt := 171) C.1 dX8_next_163 (by decide) (fun h27 => ?_) (fun h27 => ?_)
    · replace hw := hw.1 h27
      exact wkR_next_171 C hsz hR hret hK149 _ _ hw
    · replace hw := hw.2 h27
      refine g_aload_n C.1 0 dX8_next_166 rfl rfl ?_
      refine g_iload_n C.1 1 dX8_next_167 rfl rfl ?_
      refine r_p35 C dX8_next_168 ?_
      refine gJ.nm (fun s28 es28 => ?_)
      replace hw := hw s28 es28
      exact wkR_next_171 C hsz hR hret hK149 _ _ hw
theorem wkR_next_149 {X : gT} {G : rG} {A : Nat → Prop} {H0 : Heap} {Q : State → Prop} (C : rC X cX8_next 3 G A) (hsz : H0 = (g_s X).heap) (hR : 5 ≤ (g_R X).frames ∧ 108 ≤ (g_R X).locals) {post : RSt → Prop} (hret : ∀ (τ : RSt) (lv : List (Nat × Value)) (pc : Nat), post τ → decode cX8_next pc = .ok (.return_, 1) → gJ X (rWd G A H0) Q 0 0 τ lv pc []) (s : RSt) (v2 : Int32) (hw : wpR_next_149 post s v2) : gJ X (rWd G A H0) Q 0 0 s [(0, .ref (G.2.2.1 0)), (2, .int v2)] 149 [] := 
  hw (fun (x : RSt × Int32) => (fun s v2 => gJ X (rWd G A H0) Q 0 0 s [(0, .ref (G.2.2.1 0)), (2, .int v2)] 149 []) x.1 x.2) (fun x hx => wkR_next_149_F C hsz hR hret (K149 := (fun s v2 => gJ X (rWd G A H0) Q 0 0 s [(0, .ref (G.2.2.1 0)), (2, .int v2)] 149 [])) (fun _ _ h => h) x.1 x.2 hx)
theorem wkR_next_147 {X : gT} {G : rG} {A : Nat → Prop} {H0 : Heap} {Q : State → Prop} (C : rC X cX8_next 3 G A) (hsz : H0 = (g_s X).heap) (hR : 5 ≤ (g_R X).frames ∧ 108 ≤ (g_R X).locals) {post : RSt → Prop} (hret : ∀ (τ : RSt) (lv : List (Nat × Value)) (pc : Nat), post τ → decode cX8_next pc = .ok (.return_, 1) → gJ X (rWd G A H0) Q 0 0 τ lv pc []) (s : RSt) (hw : wpR_next_147 post s) : gJ X (rWd G A H0) Q 0 0 s [(0, .ref (G.2.2.1 0))] 147 [] := by
  refine g_iconst (v := 1) C.1 dX8_next_147 (by decide) ?_
  refine g_istore_n (lv' := [(2, .int 1), (0, .ref (G.2.2.1 0))]) C.1 dX8_next_148 rfl (by decide) rfl ?_
  refine gJ.sub [1, 0] rfl ?_
  exact wkR_next_149 C hsz hR hret _ _ hw
theorem wkR_next_95_F {X : gT} {G : rG} {A : Nat → Prop} {H0 : Heap} {Q : State → Prop} (C : rC X cX8_next 3 G A) (hsz : H0 = (g_s X).heap) (hR : 5 ≤ (g_R X).frames ∧ 108 ≤ (g_R X).locals) {post : RSt → Prop} (hret : ∀ (τ : RSt) (lv : List (Nat × Value)) (pc : Nat), post τ → decode cX8_next pc = .ok (.return_, 1) → gJ X (rWd G A H0) Q 0 0 τ lv pc []) {K95 : RSt → Prop} (hK95 : ∀ (s : RSt), K95 s → gJ X (rWd G A H0) Q 0 0 s [(0, .ref (G.2.2.1 0))] 95 []) (s : RSt) (hw : wpR_next_95_F post K95 s) : gJ X (rWd G A H0) Q 0 0 s [(0, .ref (G.2.2.1 0))] 95 [] := by
  refine g_aload_n C.1 0 dX8_next_95 rfl rfl ?_
  refine r_g31 C dX8_next_96 ?_
  refine g_aload_n C.1 0 dX8_next_99 rfl rfl ?_
  refine r_g32 C dX8_next_100 ?_
  refine g_icmp_ge (tgt := 147) C.1 dX8_next_103 (by decide) (fun h29 => ?_) (fun h29 => ?_)
  · replace hw := hw.1 h29
    exact wkR_next_147 C hsz hR hret _ hw
  · replace hw := hw.2 h29
    refine g_aload_n C.1 0 dX8_next_106 rfl rfl ?_
    refine r_g1 C dX8_next_107 ?_
    refine g_aload_n C.1 0 dX8_next_110 rfl rfl ?_
    refine r_g31 C dX8_next_111 ?_
    refine r_ld1 C hw.1 dX8_next_114 ?_
    replace hw := hw.2
    refine g_bipush (v := 97) C.1 dX8_next_115 (by decide) ?_
    refine g_icmp_lt (tgt := 147) C.1 dX8_next_117 (by decide) (fun h30 => ?_) (fun h30 => ?_)
    · replace hw := hw.1 h30
      exact wkR_next_147 C hsz hR hret _ hw
    · replace hw := hw.2 h30
      refine g_aload_n C.1 0 dX8_next_120 rfl rfl ?_
      refine r_g1 C dX8_next_121 ?_
      refine g_aload_n C.1 0 dX8_next_124 rfl rfl ?_
      refine r_g31 C dX8_next_125 ?_
      refine r_ld1 C hw.1 dX8_next_128 ?_
      replace hw := hw.2
      refine g_bipush (v := 122) C.1 dX8_next_129 (by decide) ?_
      refine g_icmp_gt (tgt := 147) C.1 dX8_next_131 (by decide) (fun h31 => ?_) (fun h31 => ?_)
      · replace hw := hw.1 h31
        exact wkR_next_147 C hsz hR hret _ hw
      · replace hw := hw.2 h31
        refine g_aload_n C.1 0 dX8_next_134 rfl rfl ?_
        refine g_dup C.1 dX8_next_135 rfl ?_
        refine r_g31 C dX8_next_136 ?_
        refine g_iconst (v := 1) C.1 dX8_next_139 (by decide) ?_
        refine g_iadd C.1 dX8_next_140 ?_
        refine r_p31 C dX8_next_141 ?_
        refine gJ.nm (fun s32 es32 => ?_)
        replace hw := hw s32 es32
        refine g_goto (tgt := 95) C.1 dX8_next_144 (by decide) ?_
        exact hK95 _ hw
theorem wkR_next_95 {X : gT} {G : rG} {A : Nat → Prop} {H0 : Heap} {Q : State → Prop} (C : rC X cX8_next 3 G A) (hsz : H0 = (g_s X).heap) (hR : 5 ≤ (g_R X).frames ∧ 108 ≤ (g_R X).locals) {post : RSt → Prop} (hret : ∀ (τ : RSt) (lv : List (Nat × Value)) (pc : Nat), post τ → decode cX8_next pc = .ok (.return_, 1) → gJ X (rWd G A H0) Q 0 0 τ lv pc []) (s : RSt) (hw : wpR_next_95 post s) : gJ X (rWd G A H0) Q 0 0 s [(0, .ref (G.2.2.1 0))] 95 [] := 
  hw (fun (x : RSt) => (fun s => gJ X (rWd G A H0) Q 0 0 s [(0, .ref (G.2.2.1 0))] 95 []) x) (fun x hx => wkR_next_95_F C hsz hR hret (K95 := (fun s => gJ X (rWd G A H0) Q 0 0 s [(0, .ref (G.2.2.1 0))] 95 [])) (fun _ h => h) x hx)
theorem wkR_next_38 {X : gT} {G : rG} {A : Nat → Prop} {H0 : Heap} {Q : State → Prop} (C : rC X cX8_next 3 G A) (hsz : H0 = (g_s X).heap) (hR : 5 ≤ (g_R X).frames ∧ 108 ≤ (g_R X).locals) {post : RSt → Prop} (hret : ∀ (τ : RSt) (lv : List (Nat × Value)) (pc : Nat), post τ → decode cX8_next pc = .ok (.return_, 1) → gJ X (rWd G A H0) Q 0 0 τ lv pc []) (s : RSt) (hw : wpR_next_38 post s) : gJ X (rWd G A H0) Q 0 0 s [(0, .ref (G.2.2.1 0))] 38 [] := by
  refine g_aload_n C.1 0 dX8_next_38 rfl rfl ?_
  refine g_aload_n C.1 0 dX8_next_39 rfl rfl ?_
  refine r_g31 C dX8_next_40 ?_
  refine r_p34 C dX8_next_43 ?_
  refine gJ.nm (fun s33 es33 => ?_)
  replace hw := hw s33 es33
  refine g_aload_n C.1 0 dX8_next_46 rfl rfl ?_
  refine g_iconst (v := 0) C.1 dX8_next_47 (by decide) ?_
  refine r_p35 C dX8_next_48 ?_
  refine gJ.nm (fun s34 es34 => ?_)
  replace hw := hw s34 es34
  refine g_aload_n C.1 0 dX8_next_51 rfl rfl ?_
  refine r_g31 C dX8_next_52 ?_
  refine g_aload_n C.1 0 dX8_next_55 rfl rfl ?_
  refine r_g32 C dX8_next_56 ?_
  refine g_icmp_ne (tgt := 68) C.1 dX8_next_59 (by decide) (fun h35 => ?_) (fun h35 => ?_)
  · replace hw := hw.1 h35
    refine g_aload_n C.1 0 dX8_next_68 rfl rfl ?_
    refine r_g1 C dX8_next_69 ?_
    refine g_aload_n C.1 0 dX8_next_72 rfl rfl ?_
    refine r_g31 C dX8_next_73 ?_
    refine r_ld1 C hw.1 dX8_next_76 ?_
    replace hw := hw.2
    refine g_istore_n (lv' := [(1, .int (s34.2.1 1 (s34.1 31).toNatClampNeg)), (0, .ref (G.2.2.1 0))]) C.1 dX8_next_77 rfl (by decide) rfl ?_
    refine g_iload_n C.1 0 dX8_next_78 rfl rfl ?_
    refine g_bipush (v := 97) C.1 dX8_next_79 (by decide) ?_
    refine g_icmp_lt (tgt := 195) C.1 dX8_next_81 (by decide) (fun h36 => ?_) (fun h36 => ?_)
    · replace hw := hw.1 h36
      refine gJ.sub [1, 0] rfl ?_
      exact wkR_next_195 C hsz hR hret _ _ hw
    · replace hw := hw.2 h36
      refine g_iload_n C.1 0 dX8_next_84 rfl rfl ?_
      refine g_bipush (v := 122) C.1 dX8_next_85 (by decide) ?_
      refine g_icmp_gt (tgt := 195) C.1 dX8_next_87 (by decide) (fun h37 => ?_) (fun h37 => ?_)
      · replace hw := hw.1 h37
        refine gJ.sub [1, 0] rfl ?_
        exact wkR_next_195 C hsz hR hret _ _ hw
      · replace hw := hw.2 h37
        refine g_aload_n C.1 1 dX8_next_90 rfl rfl ?_
        refine g_iconst (v := 1) C.1 dX8_next_91 (by decide) ?_
        refine r_p33 C dX8_next_92 ?_
        refine gJ.nm (fun s38 es38 => ?_)
        replace hw := hw s38 es38
        refine gJ.sub [1] rfl ?_
        exact wkR_next_95 C hsz hR hret _ hw
  · replace hw := hw.2 h35
    refine g_aload_n C.1 0 dX8_next_62 rfl rfl ?_
    refine g_iconst (v := 0) C.1 dX8_next_63 (by decide) ?_
    refine r_p33 C dX8_next_64 ?_
    refine gJ.nm (fun s39 es39 => ?_)
    replace hw := hw s39 es39
    exact hret _ _ _ hw dX8_next_67
theorem wkR_next_0_F {X : gT} {G : rG} {A : Nat → Prop} {H0 : Heap} {Q : State → Prop} (C : rC X cX8_next 3 G A) (hsz : H0 = (g_s X).heap) (hR : 5 ≤ (g_R X).frames ∧ 108 ≤ (g_R X).locals) {post : RSt → Prop} (hret : ∀ (τ : RSt) (lv : List (Nat × Value)) (pc : Nat), post τ → decode cX8_next pc = .ok (.return_, 1) → gJ X (rWd G A H0) Q 0 0 τ lv pc []) {K0 : RSt → Prop} (hK0 : ∀ (s : RSt), K0 s → gJ X (rWd G A H0) Q 0 0 s [(0, .ref (G.2.2.1 0))] 0 []) (s : RSt) (hw : wpR_next_0_F post K0 s) : gJ X (rWd G A H0) Q 0 0 s [(0, .ref (G.2.2.1 0))] 0 [] := by
  refine g_aload_n C.1 0 dX8_next_0 rfl rfl ?_
  refine r_g31 C dX8_next_1 ?_
  refine g_aload_n C.1 0 dX8_next_4 rfl rfl ?_
  refine r_g32 C dX8_next_5 ?_
  refine g_icmp_ge (tgt := 38) C.1 dX8_next_8 (by decide) (fun h40 => ?_) (fun h40 => ?_)
  · replace hw := hw.1 h40
    exact wkR_next_38 C hsz hR hret _ hw
  · replace hw := hw.2 h40
    refine g_aload_n C.1 0 dX8_next_11 rfl rfl ?_
    refine r_g1 C dX8_next_12 ?_
    refine g_aload_n C.1 0 dX8_next_15 rfl rfl ?_
    refine r_g31 C dX8_next_16 ?_
    refine r_ld1 C hw.1 dX8_next_19 ?_
    replace hw := hw.2
    refine g_bipush (v := 32) C.1 dX8_next_20 (by decide) ?_
    refine g_icmp_ne (tgt := 38) C.1 dX8_next_22 (by decide) (fun h41 => ?_) (fun h41 => ?_)
    · replace hw := hw.1 h41
      exact wkR_next_38 C hsz hR hret _ hw
    · replace hw := hw.2 h41
      refine g_aload_n C.1 0 dX8_next_25 rfl rfl ?_
      refine g_dup C.1 dX8_next_26 rfl ?_
      refine r_g31 C dX8_next_27 ?_
      refine g_iconst (v := 1) C.1 dX8_next_30 (by decide) ?_
      refine g_iadd C.1 dX8_next_31 ?_
      refine r_p31 C dX8_next_32 ?_
      refine gJ.nm (fun s42 es42 => ?_)
      replace hw := hw s42 es42
      refine g_goto (tgt := 0) C.1 dX8_next_35 (by decide) ?_
      exact hK0 _ hw
theorem wkR_next_0 {X : gT} {G : rG} {A : Nat → Prop} {H0 : Heap} {Q : State → Prop} (C : rC X cX8_next 3 G A) (hsz : H0 = (g_s X).heap) (hR : 5 ≤ (g_R X).frames ∧ 108 ≤ (g_R X).locals) {post : RSt → Prop} (hret : ∀ (τ : RSt) (lv : List (Nat × Value)) (pc : Nat), post τ → decode cX8_next pc = .ok (.return_, 1) → gJ X (rWd G A H0) Q 0 0 τ lv pc []) (s : RSt) (hw : wpR_next_0 post s) : gJ X (rWd G A H0) Q 0 0 s [(0, .ref (G.2.2.1 0))] 0 [] := 
  hw (fun (x : RSt) => (fun s => gJ X (rWd G A H0) Q 0 0 s [(0, .ref (G.2.2.1 0))] 0 []) x) (fun x hx => wkR_next_0_F C hsz hR hret (K0 := (fun s => gJ X (rWd G A H0) Q 0 0 s [(0, .ref (G.2.2.1 0))] 0 [])) (fun _ h => h) x hx)
theorem hdR_next : yX8_next.cls = RX8 ∧ yX8_next.cls ≠ "java/lang/invoke/MethodHandle" ∧ yX8_next.cls ≠ "java/lang/invoke/VarHandle" ∧ (parseMethodDescriptor yX8_next.desc).map (fun d => d.parameters.length) = some 0 := by decide +kernel
theorem cR_next (l : Launch) (G : rG) (s : RSt) (post : RSt → Prop) (hw : wpR_next_0 post s) : rMv l yX8_next cX8_next 3 5 108 G s [] post := rMv_of (by decide +kernel) rfl (Nat.le_of_ble_eq_true rfl) (fun X A H0 Q hl hR hsz C hret => wkR_next_0 C hsz hR hret s hw)
theorem hdR_either : yX8_either.cls = RX8 ∧ yX8_either.cls ≠ "java/lang/invoke/MethodHandle" ∧ yX8_either.cls ≠ "java/lang/invoke/VarHandle" ∧ (parseMethodDescriptor yX8_either.desc).map (fun d => d.parameters.length) = some 0 := by decide +kernel
theorem hdR_both : yX8_both.cls = RX8 ∧ yX8_both.cls ≠ "java/lang/invoke/MethodHandle" ∧ yX8_both.cls ≠ "java/lang/invoke/VarHandle" ∧ (parseMethodDescriptor yX8_both.desc).map (fun d => d.parameters.length) = some 0 := by decide +kernel
theorem hdR_part : yX8_part.cls = RX8 ∧ yX8_part.cls ≠ "java/lang/invoke/MethodHandle" ∧ yX8_part.cls ≠ "java/lang/invoke/VarHandle" ∧ (parseMethodDescriptor yX8_part.desc).map (fun d => d.parameters.length) = some 0 := by decide +kernel
def wpR_test_174 (post : RSt → Prop) (s : RSt) : Prop := wpR_fail_0 (fun s1 => post s1) s (s.1 34)
def wpR_test_183 (post : RSt → Prop) (s : RSt) (v2 : Int32) : Prop := wpR_emit_0 (fun s2 => wpR_next_0 (fun s3 => post s3) s2) s v2 (s.1 35)
def wpR_test_157 (post : RSt → Prop) (s : RSt) (v2 : Int32) : Prop := (¬ v2 = 13 → wpR_test_183 post s v2) ∧ (v2 = 13 → wpR_noLift_0 (fun r6 s5 => (r6 = 0 → wpR_test_183 post s5 v2) ∧ (¬ r6 = 0 → wpR_test_174 post s5)) s (s.1 35))
def wpR_test_132 (post : RSt → Prop) (s : RSt) (v2 : Int32) : Prop := (¬ (s.1 33) = 2 → wpR_test_174 post s) ∧ ((s.1 33) = 2 → (¬ v2 = 12 → wpR_test_157 post s v2) ∧ (v2 = 12 → wpR_noSlope_0 (fun r11 s10 => (¬ r11 = 0 → wpR_test_174 post s10) ∧ (r11 = 0 → wpR_test_157 post s10 v2)) s (s.1 35)))
def wpR_test_81 (post : RSt → Prop) (s : RSt) : Prop := wpR_fail_0 (fun s13 => post s13) s (s.1 34)
def wpR_test_118 (post : RSt → Prop) (s : RSt) (w0 : Int32) (w1 : Int32) : Prop := wpR_next_0 (fun s14 => ((s14.1 37) < 0 → wpR_test_132 post s14 (w0 + w1)) ∧ (¬ (s14.1 37) < 0 → post s14)) s
def wpR_test_90 (post : RSt → Prop) (s : RSt) (v2 : Int32) : Prop := (¬ (s.1 35) = 60 → (¬ (s.1 35) = 62 → wpR_test_118 post s v2 2) ∧ ((s.1 35) = 62 → wpR_test_118 post s v2 1)) ∧ ((s.1 35) = 60 → wpR_test_118 post s v2 0)
def wpR_test_27 (post : RSt → Prop) (s : RSt) (v1 : Int32) (w0 : Int32) : Prop := wpR_next_0 (fun s18 => ((s18.1 37) < 0 → (8 ≤ v1 → wpR_test_132 post s18 w0) ∧ (¬ 8 ≤ v1 → (¬ (s18.1 33) = 3 → wpR_test_81 post s18) ∧ ((s18.1 33) = 3 → ((s18.1 35) = 60 → wpR_test_90 post s18 w0) ∧ (¬ (s18.1 35) = 60 → ((s18.1 35) = 62 → wpR_test_90 post s18 w0) ∧ (¬ (s18.1 35) = 62 → ((s18.1 35) = 61 → wpR_test_90 post s18 w0) ∧ (¬ (s18.1 35) = 61 → wpR_test_81 post s18)))))) ∧ (¬ (s18.1 37) < 0 → post s18)) s
def wpR_test_0 (post : RSt → Prop) (s : RSt) (v1 : Int32) : Prop := (¬ v1 = 8 → (¬ v1 = 9 → wpR_test_27 post s v1 (3 * (v1 - 4))) ∧ (v1 = 9 → wpR_test_27 post s v1 13)) ∧ (v1 = 8 → wpR_test_27 post s v1 12)
theorem wkR_test_174 {X : gT} {G : rG} {A : Nat → Prop} {H0 : Heap} {Q : State → Prop} (C : rC X cX8_test 3 G A) (hsz : H0 = (g_s X).heap) (hR : 6 ≤ (g_R X).frames ∧ 130 ≤ (g_R X).locals) {post : RSt → Prop} (hret : ∀ (τ : RSt) (lv : List (Nat × Value)) (pc : Nat), post τ → decode cX8_test pc = .ok (.return_, 1) → gJ X (rWd G A H0) Q 0 0 τ lv pc []) (s : RSt) (hw : wpR_test_174 post s) : gJ X (rWd G A H0) Q 0 0 s [(0, .ref (G.2.2.1 0))] 174 [] := by
  refine g_aload_n C.1 0 dX8_test_174 rfl rfl ?_
  refine g_aload_n C.1 0 dX8_test_175 rfl rfl ?_
  refine r_g34 C dX8_test_176 ?_
  refine r_callv C hsz (cR_fail (g_l X) G s _ _ hw) kR_136 kR_137 kR_138 kR_75 hdR_fail ⟨Nat.le_trans (Nat.le_of_ble_eq_true rfl) hR.1, Nat.le_trans (Nat.le_of_ble_eq_true rfl) hR.2⟩ dX8_test_179 rfl (Nat.le_of_ble_eq_true rfl) (fun s1 hw => ?_)
  exact hret _ _ _ hw dX8_test_182
theorem wkR_test_183 {X : gT} {G : rG} {A : Nat → Prop} {H0 : Heap} {Q : State → Prop} (C : rC X cX8_test 3 G A) (hsz : H0 = (g_s X).heap) (hR : 6 ≤ (g_R X).frames ∧ 130 ≤ (g_R X).locals) {post : RSt → Prop} (hret : ∀ (τ : RSt) (lv : List (Nat × Value)) (pc : Nat), post τ → decode cX8_test pc = .ok (.return_, 1) → gJ X (rWd G A H0) Q 0 0 τ lv pc []) (s : RSt) (v2 : Int32) (hw : wpR_test_183 post s v2) : gJ X (rWd G A H0) Q 0 0 s [(0, .ref (G.2.2.1 0)), (2, .int v2)] 183 [] := by
  refine g_aload_n C.1 0 dX8_test_183 rfl rfl ?_
  refine g_iload_n C.1 1 dX8_test_184 rfl rfl ?_
  refine g_aload_n C.1 0 dX8_test_185 rfl rfl ?_
  refine r_g35 C dX8_test_186 ?_
  refine r_callv C hsz (cR_emit (g_l X) G s _ _ _ hw) kR_151 kR_152 kR_153 kR_140 hdR_emit ⟨Nat.le_trans (Nat.le_of_ble_eq_true rfl) hR.1, Nat.le_trans (Nat.le_of_ble_eq_true rfl) hR.2⟩ dX8_test_189 rfl (Nat.le_of_ble_eq_true rfl) (fun s2 hw => ?_)
  refine g_aload_n C.1 0 dX8_test_192 rfl rfl ?_
  refine r_callv C hsz (cR_next (g_l X) G s2 _ hw) kR_142 kR_143 kR_144 kR_139 hdR_next ⟨Nat.le_trans (Nat.le_of_ble_eq_true rfl) hR.1, Nat.le_trans (Nat.le_of_ble_eq_true rfl) hR.2⟩ dX8_test_193 rfl (Nat.le_of_ble_eq_true rfl) (fun s3 hw => ?_)
  exact hret _ _ _ hw dX8_test_196
theorem wkR_test_157 {X : gT} {G : rG} {A : Nat → Prop} {H0 : Heap} {Q : State → Prop} (C : rC X cX8_test 3 G A) (hsz : H0 = (g_s X).heap) (hR : 6 ≤ (g_R X).frames ∧ 130 ≤ (g_R X).locals) {post : RSt → Prop} (hret : ∀ (τ : RSt) (lv : List (Nat × Value)) (pc : Nat), post τ → decode cX8_test pc = .ok (.return_, 1) → gJ X (rWd G A H0) Q 0 0 τ lv pc []) (s : RSt) (v2 : Int32) (hw : wpR_test_157 post s v2) : gJ X (rWd G A H0) Q 0 0 s [(0, .ref (G.2.2.1 0)), (2, .int v2)] 157 [] := by
  refine g_iload_n C.1 1 dX8_test_157 rfl rfl ?_
  refine g_bipush (v := 13) C.1 dX8_test_158 (by decide) ?_
  refine g_icmp_ne (tgt := 183) C.1 dX8_test_160 (by decide) (fun h4 => ?_) (fun h4 => ?_)
  · replace hw := hw.1 h4
    exact wkR_test_183 C hsz hR hret _ _ hw
  · replace hw := hw.2 h4
    refine g_aload_n C.1 0 dX8_test_163 rfl rfl ?_
    refine g_aload_n C.1 0 dX8_test_164 rfl rfl ?_
    refine r_g35 C dX8_test_165 ?_
    refine r_calli C hsz (cR_noLift (g_l X) G s _ _ hw) kR_148 kR_149 kR_150 kR_48 hdR_noLift ⟨Nat.le_trans (Nat.le_of_ble_eq_true rfl) hR.1, Nat.le_trans (Nat.le_of_ble_eq_true rfl) hR.2⟩ dX8_test_168 rfl (Nat.le_of_ble_eq_true rfl) (fun r6 s5 hw => ?_)
    refine g_if_eq (tgt := 183) C.1 dX8_test_171 (by decide) (fun h7 => ?_) (fun h7 => ?_)
    · replace hw := hw.1 h7
      exact wkR_test_183 C hsz hR hret _ _ hw
    · replace hw := hw.2 h7
      refine gJ.sub [0] rfl ?_
      exact wkR_test_174 C hsz hR hret _ hw
theorem wkR_test_132 {X : gT} {G : rG} {A : Nat → Prop} {H0 : Heap} {Q : State → Prop} (C : rC X cX8_test 3 G A) (hsz : H0 = (g_s X).heap) (hR : 6 ≤ (g_R X).frames ∧ 130 ≤ (g_R X).locals) {post : RSt → Prop} (hret : ∀ (τ : RSt) (lv : List (Nat × Value)) (pc : Nat), post τ → decode cX8_test pc = .ok (.return_, 1) → gJ X (rWd G A H0) Q 0 0 τ lv pc []) (s : RSt) (v2 : Int32) (hw : wpR_test_132 post s v2) : gJ X (rWd G A H0) Q 0 0 s [(0, .ref (G.2.2.1 0)), (2, .int v2)] 132 [] := by
  refine g_aload_n C.1 0 dX8_test_132 rfl rfl ?_
  refine r_g33 C dX8_test_133 ?_
  refine g_iconst (v := 2) C.1 dX8_test_136 (by decide) ?_
  refine g_icmp_ne (tgt := 174) C.1 dX8_test_137 (by decide) (fun h8 => ?_) (fun h8 => ?_)
  · replace hw := hw.1 h8
    refine gJ.sub [0] rfl ?_
    exact wkR_test_174 C hsz hR hret _ hw
  · replace hw := hw.2 h8
    refine g_iload_n C.1 1 dX8_test_140 rfl rfl ?_
    refine g_bipush (v := 12) C.1 dX8_test_141 (by decide) ?_
    refine g_icmp_ne (tgt := 157) C.1 dX8_test_143 (by decide) (fun h9 => ?_) (fun h9 => ?_)
    · replace hw := hw.1 h9
      exact wkR_test_157 C hsz hR hret _ _ hw
    · replace hw := hw.2 h9
      refine g_aload_n C.1 0 dX8_test_146 rfl rfl ?_
      refine g_aload_n C.1 0 dX8_test_147 rfl rfl ?_
      refine r_g35 C dX8_test_148 ?_
      refine r_calli C hsz (cR_noSlope (g_l X) G s _ _ hw) kR_145 kR_146 kR_147 kR_50 hdR_noSlope ⟨Nat.le_trans (Nat.le_of_ble_eq_true rfl) hR.1, Nat.le_trans (Nat.le_of_ble_eq_true rfl) hR.2⟩ dX8_test_151 rfl (Nat.le_of_ble_eq_true rfl) (fun r11 s10 hw => ?_)
      refine g_if_ne (tgt := 174) C.1 dX8_test_154 (by decide) (fun h12 => ?_) (fun h12 => ?_)
      · replace hw := hw.1 h12
        refine gJ.sub [0] rfl ?_
        exact wkR_test_174 C hsz hR hret _ hw
      · replace hw := hw.2 h12
        exact wkR_test_157 C hsz hR hret _ _ hw
theorem wkR_test_81 {X : gT} {G : rG} {A : Nat → Prop} {H0 : Heap} {Q : State → Prop} (C : rC X cX8_test 3 G A) (hsz : H0 = (g_s X).heap) (hR : 6 ≤ (g_R X).frames ∧ 130 ≤ (g_R X).locals) {post : RSt → Prop} (hret : ∀ (τ : RSt) (lv : List (Nat × Value)) (pc : Nat), post τ → decode cX8_test pc = .ok (.return_, 1) → gJ X (rWd G A H0) Q 0 0 τ lv pc []) (s : RSt) (hw : wpR_test_81 post s) : gJ X (rWd G A H0) Q 0 0 s [(0, .ref (G.2.2.1 0))] 81 [] := by
  refine g_aload_n C.1 0 dX8_test_81 rfl rfl ?_
  refine g_aload_n C.1 0 dX8_test_82 rfl rfl ?_
  refine r_g34 C dX8_test_83 ?_
  refine r_callv C hsz (cR_fail (g_l X) G s _ _ hw) kR_136 kR_137 kR_138 kR_75 hdR_fail ⟨Nat.le_trans (Nat.le_of_ble_eq_true rfl) hR.1, Nat.le_trans (Nat.le_of_ble_eq_true rfl) hR.2⟩ dX8_test_86 rfl (Nat.le_of_ble_eq_true rfl) (fun s13 hw => ?_)
  exact hret _ _ _ hw dX8_test_89
theorem wkR_test_118 {X : gT} {G : rG} {A : Nat → Prop} {H0 : Heap} {Q : State → Prop} (C : rC X cX8_test 3 G A) (hsz : H0 = (g_s X).heap) (hR : 6 ≤ (g_R X).frames ∧ 130 ≤ (g_R X).locals) {post : RSt → Prop} (hret : ∀ (τ : RSt) (lv : List (Nat × Value)) (pc : Nat), post τ → decode cX8_test pc = .ok (.return_, 1) → gJ X (rWd G A H0) Q 0 0 τ lv pc []) (s : RSt) (w0 : Int32) (w1 : Int32) (hw : wpR_test_118 post s w0 w1) : gJ X (rWd G A H0) Q 0 0 s [(0, .ref (G.2.2.1 0))] 118 [.int w1, .int w0] := by
  refine g_iadd C.1 dX8_test_118 ?_
  refine g_istore_n (lv' := [(2, .int (w0 + w1)), (0, .ref (G.2.2.1 0))]) C.1 dX8_test_119 rfl (by decide) rfl ?_
  refine g_aload_n C.1 1 dX8_test_120 rfl rfl ?_
  refine r_callv C hsz (cR_next (g_l X) G s _ hw) kR_142 kR_143 kR_144 kR_139 hdR_next ⟨Nat.le_trans (Nat.le_of_ble_eq_true rfl) hR.1, Nat.le_trans (Nat.le_of_ble_eq_true rfl) hR.2⟩ dX8_test_121 rfl (Nat.le_of_ble_eq_true rfl) (fun s14 hw => ?_)
  refine g_aload_n C.1 1 dX8_test_124 rfl rfl ?_
  refine r_g37 C dX8_test_125 ?_
  refine g_if_lt (tgt := 132) C.1 dX8_test_128 (by decide) (fun h15 => ?_) (fun h15 => ?_)
  · replace hw := hw.1 h15
    refine gJ.sub [1, 0] rfl ?_
    exact wkR_test_132 C hsz hR hret _ _ hw
  · replace hw := hw.2 h15
    exact hret _ _ _ hw dX8_test_131
theorem wkR_test_90 {X : gT} {G : rG} {A : Nat → Prop} {H0 : Heap} {Q : State → Prop} (C : rC X cX8_test 3 G A) (hsz : H0 = (g_s X).heap) (hR : 6 ≤ (g_R X).frames ∧ 130 ≤ (g_R X).locals) {post : RSt → Prop} (hret : ∀ (τ : RSt) (lv : List (Nat × Value)) (pc : Nat), post τ → decode cX8_test pc = .ok (.return_, 1) → gJ X (rWd G A H0) Q 0 0 τ lv pc []) (s : RSt) (v2 : Int32) (hw : wpR_test_90 post s v2) : gJ X (rWd G A H0) Q 0 0 s [(0, .ref (G.2.2.1 0)), (2, .int v2)] 90 [] := by
  refine g_iload_n C.1 1 dX8_test_90 rfl rfl ?_
  refine g_aload_n C.1 0 dX8_test_91 rfl rfl ?_
  refine r_g35 C dX8_test_92 ?_
  refine g_bipush (v := 60) C.1 dX8_test_95 (by decide) ?_
  refine g_icmp_ne (tgt := 104) C.1 dX8_test_97 (by decide) (fun h16 => ?_) (fun h16 => ?_)
  · replace hw := hw.1 h16
    refine g_aload_n C.1 0 dX8_test_104 rfl rfl ?_
    refine r_g35 C dX8_test_105 ?_
    refine g_bipush (v := 62) C.1 dX8_test_108 (by decide) ?_
    refine g_icmp_ne (tgt := 117) C.1 dX8_test_110 (by decide) (fun h17 => ?_) (fun h17 => ?_)
    · replace hw := hw.1 h17
      refine g_iconst (v := 2) C.1 dX8_test_117 (by decide) ?_
      refine gJ.sub [0] rfl ?_
      exact wkR_test_118 C hsz hR hret _ _ _ hw
    · replace hw := hw.2 h17
      refine g_iconst (v := 1) C.1 dX8_test_113 (by decide) ?_
      refine g_goto (tgt := 118) C.1 dX8_test_114 (by decide) ?_
      refine gJ.sub [0] rfl ?_
      exact wkR_test_118 C hsz hR hret _ _ _ hw
  · replace hw := hw.2 h16
    refine g_iconst (v := 0) C.1 dX8_test_100 (by decide) ?_
    refine g_goto (tgt := 118) C.1 dX8_test_101 (by decide) ?_
    refine gJ.sub [0] rfl ?_
    exact wkR_test_118 C hsz hR hret _ _ _ hw
theorem wkR_test_27 {X : gT} {G : rG} {A : Nat → Prop} {H0 : Heap} {Q : State → Prop} (C : rC X cX8_test 3 G A) (hsz : H0 = (g_s X).heap) (hR : 6 ≤ (g_R X).frames ∧ 130 ≤ (g_R X).locals) {post : RSt → Prop} (hret : ∀ (τ : RSt) (lv : List (Nat × Value)) (pc : Nat), post τ → decode cX8_test pc = .ok (.return_, 1) → gJ X (rWd G A H0) Q 0 0 τ lv pc []) (s : RSt) (v1 : Int32) (w0 : Int32) (hw : wpR_test_27 post s v1 w0) : gJ X (rWd G A H0) Q 0 0 s [(0, .ref (G.2.2.1 0)), (1, .int v1)] 27 [.int w0] := by
  refine g_istore_n (lv' := [(2, .int w0), (0, .ref (G.2.2.1 0)), (1, .int v1)]) C.1 dX8_test_27 rfl (by decide) rfl ?_
  refine g_aload_n C.1 1 dX8_test_28 rfl rfl ?_
  refine r_callv C hsz (cR_next (g_l X) G s _ hw) kR_142 kR_143 kR_144 kR_139 hdR_next ⟨Nat.le_trans (Nat.le_of_ble_eq_true rfl) hR.1, Nat.le_trans (Nat.le_of_ble_eq_true rfl) hR.2⟩ dX8_test_29 rfl (Nat.le_of_ble_eq_true rfl) (fun s18 hw => ?_)
  refine g_aload_n C.1 1 dX8_test_32 rfl rfl ?_
  refine r_g37 C dX8_test_33 ?_
  refine g_if_lt (tgt := 40) C.1 dX8_test_36 (by decide) (fun h19 => ?_) (fun h19 => ?_)
  · replace hw := hw.1 h19
    refine g_iload_n C.1 2 dX8_test_40 rfl rfl ?_
    refine g_bipush (v := 8) C.1 dX8_test_41 (by decide) ?_
    refine g_icmp_ge (tgt := 132) C.1 dX8_test_43 (by decide) (fun h20 => ?_) (fun h20 => ?_)
    · replace hw := hw.1 h20
      refine gJ.sub [1, 0] rfl ?_
      exact wkR_test_132 C hsz hR hret _ _ hw
    · replace hw := hw.2 h20
      refine g_aload_n C.1 1 dX8_test_46 rfl rfl ?_
      refine r_g33 C dX8_test_47 ?_
      refine g_iconst (v := 3) C.1 dX8_test_50 (by decide) ?_
      refine g_icmp_ne (tgt := 81) C.1 dX8_test_51 (by decide) (fun h21 => ?_) (fun h21 => ?_)
      · replace hw := hw.1 h21
        refine gJ.sub [1] rfl ?_
        exact wkR_test_81 C hsz hR hret _ hw
      · replace hw := hw.2 h21
        refine g_aload_n C.1 1 dX8_test_54 rfl rfl ?_
        refine r_g35 C dX8_test_55 ?_
        refine g_bipush (v := 60) C.1 dX8_test_58 (by decide) ?_
        refine g_icmp_eq (tgt := 90) C.1 dX8_test_60 (by decide) (fun h22 => ?_) (fun h22 => ?_)
        · replace hw := hw.1 h22
          refine gJ.sub [1, 0] rfl ?_
          exact wkR_test_90 C hsz hR hret _ _ hw
        · replace hw := hw.2 h22
          refine g_aload_n C.1 1 dX8_test_63 rfl rfl ?_
          refine r_g35 C dX8_test_64 ?_
          refine g_bipush (v := 62) C.1 dX8_test_67 (by decide) ?_
          refine g_icmp_eq (tgt := 90) C.1 dX8_test_69 (by decide) (fun h23 => ?_) (fun h23 => ?_)
          · replace hw := hw.1 h23
            refine gJ.sub [1, 0] rfl ?_
            exact wkR_test_90 C hsz hR hret _ _ hw
          · replace hw := hw.2 h23
            refine g_aload_n C.1 1 dX8_test_72 rfl rfl ?_
            refine r_g35 C dX8_test_73 ?_
            refine g_bipush (v := 61) C.1 dX8_test_76 (by decide) ?_
            refine g_icmp_eq (tgt := 90) C.1 dX8_test_78 (by decide) (fun h24 => ?_) (fun h24 => ?_)
            · replace hw := hw.1 h24
              refine gJ.sub [1, 0] rfl ?_
              exact wkR_test_90 C hsz hR hret _ _ hw
            · replace hw := hw.2 h24
              refine gJ.sub [1] rfl ?_
              exact wkR_test_81 C hsz hR hret _ hw
  · replace hw := hw.2 h19
    exact hret _ _ _ hw dX8_test_39
theorem wkR_test_0 {X : gT} {G : rG} {A : Nat → Prop} {H0 : Heap} {Q : State → Prop} (C : rC X cX8_test 3 G A) (hsz : H0 = (g_s X).heap) (hR : 6 ≤ (g_R X).frames ∧ 130 ≤ (g_R X).locals) {post : RSt → Prop} (hret : ∀ (τ : RSt) (lv : List (Nat × Value)) (pc : Nat), post τ → decode cX8_test pc = .ok (.return_, 1) → gJ X (rWd G A H0) Q 0 0 τ lv pc []) (s : RSt) (v1 : Int32) (hw : wpR_test_0 post s v1) : gJ X (rWd G A H0) Q 0 0 s [(0, .ref (G.2.2.1 0)), (1, .int v1)] 0 [] := by
  refine g_iload_n C.1 1 dX8_test_0 rfl rfl ?_
  refine g_bipush (v := 8) C.1 dX8_test_1 (by decide) ?_
  refine g_icmp_ne (tgt := 11) C.1 dX8_test_3 (by decide) (fun h25 => ?_) (fun h25 => ?_)
  · replace hw := hw.1 h25
    refine g_iload_n C.1 1 dX8_test_11 rfl rfl ?_
    refine g_bipush (v := 9) C.1 dX8_test_12 (by decide) ?_
    refine g_icmp_ne (tgt := 22) C.1 dX8_test_14 (by decide) (fun h26 => ?_) (fun h26 => ?_)
    · replace hw := hw.1 h26
      refine g_iconst (v := 3) C.1 dX8_test_22 (by decide) ?_
      refine g_iload_n C.1 1 dX8_test_23 rfl rfl ?_
      refine g_iconst (v := 4) C.1 dX8_test_24 (by decide) ?_
      refine g_isub C.1 dX8_test_25 ?_
      refine g_imul C.1 dX8_test_26 ?_
      exact wkR_test_27 C hsz hR hret _ _ _ hw
    · replace hw := hw.2 h26
      refine g_bipush (v := 13) C.1 dX8_test_17 (by decide) ?_
      refine g_goto (tgt := 27) C.1 dX8_test_19 (by decide) ?_
      exact wkR_test_27 C hsz hR hret _ _ _ hw
  · replace hw := hw.2 h25
    refine g_bipush (v := 12) C.1 dX8_test_6 (by decide) ?_
    refine g_goto (tgt := 27) C.1 dX8_test_8 (by decide) ?_
    exact wkR_test_27 C hsz hR hret _ _ _ hw
theorem hdR_test : yX8_test.cls = RX8 ∧ yX8_test.cls ≠ "java/lang/invoke/MethodHandle" ∧ yX8_test.cls ≠ "java/lang/invoke/VarHandle" ∧ (parseMethodDescriptor yX8_test.desc).map (fun d => d.parameters.length) = some 1 := by decide +kernel
theorem cR_test (l : Launch) (G : rG) (s : RSt) (v1 : Int32) (post : RSt → Prop) (hw : wpR_test_0 post s v1) : rMv l yX8_test cX8_test 3 6 130 G s [.int v1] post := rMv_of (by decide +kernel) rfl (Nat.le_of_ble_eq_true rfl) (fun X A H0 Q hl hR hsz C hret => wkR_test_0 C hsz hR hret s v1 hw)
