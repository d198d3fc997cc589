def wpR_thrown_0 (post : Int32 → RSt → Prop) (s : RSt) : Prop := post (s.1 0) s
theorem wkR_thrown_0 {X : gT} {G : rG} {A : Nat → Prop} {H0 : Heap} {Q : State → Prop} (C : rC X cX8_thrown 1 G A) (hsz : H0 = (g_s X).heap) (hR : 0 ≤ (g_R X).frames ∧ 0 ≤ (g_R X).locals) {post : Int32 → RSt → Prop} (hret : ∀ (r : Int32) (τ : RSt) (lv : List (Nat × Value)) (pc : Nat), post r τ → narrow .int (.int r) = .int r → decode cX8_thrown pc = .ok (.ireturn, 1) → gJ X (rWd G A H0) Q 0 0 τ lv pc [.int r]) (s : RSt) (hw : wpR_thrown_0 post s) : gJ X (rWd G A H0) Q 0 0 s [(0, .ref (G.2.2.1 0))] 0 [] := by
  refine g_aload_n C.1 0 dX8_thrown_0 rfl rfl ?_
  refine r_g0 C dX8_thrown_1 ?_
  exact hret _ _ _ _ hw rfl dX8_thrown_4
theorem hdR_thrown : yX8_thrown.cls = RX8 ∧ yX8_thrown.cls ≠ "java/lang/invoke/MethodHandle" ∧ yX8_thrown.cls ≠ "java/lang/invoke/VarHandle" ∧ (parseMethodDescriptor yX8_thrown.desc).map (fun d => d.parameters.length) = some 0 := by decide +kernel
theorem cR_thrown (l : Launch) (G : rG) (s : RSt) (post : Int32 → RSt → Prop) (hw : wpR_thrown_0 post s) : rMi l yX8_thrown cX8_thrown 1 .int 0 0 G s [] post := rMi_of (by decide +kernel) rfl (Nat.le_of_ble_eq_true rfl) (fun X A H0 Q hl hR hsz C hret => wkR_thrown_0 C hsz hR hret s hw)
def wpR_feed_60_F (post : Int32 → RSt → Prop) (K60 : RSt → Int32 → Prop) (s : RSt) (v6 : Int32) : Prop := (20 ≤ v6 → ∀ s2 : RSt, s2 = rsI s 2 ((s.1 2) + 20) → post (s2.1 2) s2) ∧ (¬ 20 ≤ v6 → vp_in (v6 / 4) 5 ∧ vp_in ((s.1 2) + v6) 400 ∧ ∀ s3 : RSt, s3 = rsA s 1 ((s.1 2) + v6).toNatClampNeg (vp_nar .byte (((s.2.1 30 (v6 / 4).toNatClampNeg) >>> ((24 - (8 * (v6 - v6 / 4 * 4))) &&& 31)).toInt8.toInt32)) → K60 s3 (v6 + 1))
def wpR_feed_60 (post : Int32 → RSt → Prop) (s : RSt) (v6 : Int32) : Prop := gLP (fun (K : RSt × Int32 → Prop) (x : RSt × Int32) => wpR_feed_60_F post (fun s v6 => K (s, v6)) x.1 x.2) (s, v6)
def wpR_feed_0 (post : Int32 → RSt → Prop) (s : RSt) (v1 : Int32) (v2 : Int32) (v3 : Int32) (v4 : Int32) (v5 : Int32) : Prop := ∀ s4 : RSt, s4 = rsI s 0 0 → (((s4.1 2) + 20) ≤ 400 → vp_in 0 5 ∧ ∀ s6 : RSt, s6 = rsA s4 30 (0 : Int32).toNatClampNeg v1 → vp_in 1 5 ∧ ∀ s7 : RSt, s7 = rsA s6 30 (1 : Int32).toNatClampNeg v2 → vp_in 2 5 ∧ ∀ s8 : RSt, s8 = rsA s7 30 (2 : Int32).toNatClampNeg v3 → vp_in 3 5 ∧ ∀ s9 : RSt, s9 = rsA s8 30 (3 : Int32).toNatClampNeg v4 → vp_in 4 5 ∧ ∀ s10 : RSt, s10 = rsA s9 30 (4 : Int32).toNatClampNeg v5 → wpR_feed_60 post s10 0) ∧ (¬ ((s4.1 2) + 20) ≤ 400 → post (-1) s4)
theorem wkR_feed_60_F {X : gT} {G : rG} {A : Nat → Prop} {H0 : Heap} {Q : State → Prop} (C : rC X cX8_feed 7 G A) (hsz : H0 = (g_s X).heap) (hR : 0 ≤ (g_R X).frames ∧ 0 ≤ (g_R X).locals) {post : Int32 → RSt → Prop} (hret : ∀ (r : Int32) (τ : RSt) (lv : List (Nat × Value)) (pc : Nat), post r τ → narrow .int (.int r) = .int r → decode cX8_feed pc = .ok (.ireturn, 1) → gJ X (rWd G A H0) Q 0 0 τ lv pc [.int r]) {K60 : RSt → Int32 → Prop} (hK60 : ∀ (s : RSt) (v6 : Int32), K60 s v6 → gJ X (rWd G A H0) Q 0 0 s [(0, .ref (G.2.2.1 0)), (6, .int v6)] 60 []) (s : RSt) (v6 : Int32) (hw : wpR_feed_60_F post K60 s v6) : gJ X (rWd G A H0) Q 0 0 s [(0, .ref (G.2.2.1 0)), (6, .int v6)] 60 [] := by
  refine g_iload C.1 1 dX8_feed_60 rfl ?_
  refine g_bipush (v := 20) C.1 dX8_feed_62 (by decide) ?_
  refine g_icmp_ge (tgt := 106) C.1 dX8_feed_64 (by decide) (fun h1 => ?_) (fun h1 => ?_)
  · replace hw := hw.1 h1
    refine g_aload_n C.1 0 dX8_feed_106 rfl rfl ?_
    refine g_dup C.1 dX8_feed_107 rfl ?_
    refine r_g2 C dX8_feed_108 ?_
    refine g_bipush (v := 20) C.1 dX8_feed_111 (by decide) ?_
    refine g_iadd C.1 dX8_feed_113 ?_
    refine r_p2 C dX8_feed_114 ?_
    refine gJ.nm (fun s2 es2 => ?_)
    replace hw := hw s2 es2
    refine g_aload_n C.1 0 dX8_feed_117 rfl rfl ?_
    refine r_g2 C dX8_feed_118 ?_
    exact hret _ _ _ _ hw rfl dX8_feed_121
  · replace hw := hw.2 h1
    refine g_aload_n C.1 0 dX8_feed_67 rfl rfl ?_
    refine r_g1 C dX8_feed_68 ?_
    refine g_aload_n C.1 0 dX8_feed_71 rfl rfl ?_
    refine r_g2 C dX8_feed_72 ?_
    refine g_iload C.1 1 dX8_feed_75 rfl ?_
    refine g_iadd C.1 dX8_feed_77 ?_
    refine g_aload_n C.1 0 dX8_feed_78 rfl rfl ?_
    refine r_g30 C dX8_feed_79 ?_
    refine g_iload C.1 1 dX8_feed_82 rfl ?_
    refine g_iconst (v := 4) C.1 dX8_feed_84 (by decide) ?_
    refine g_idiv C.1 dX8_feed_85 (by decide) ?_
    refine r_ld30 C hw.1 dX8_feed_86 ?_
    replace hw := hw.2
    refine g_bipush (v := 24) C.1 dX8_feed_87 (by decide) ?_
    refine g_bipush (v := 8) C.1 dX8_feed_89 (by decide) ?_
    refine g_iload C.1 1 dX8_feed_91 rfl ?_
    refine g_iconst (v := 4) C.1 dX8_feed_93 (by decide) ?_
    refine g_irem C.1 dX8_feed_94 (by decide) ?_
    refine g_imul C.1 dX8_feed_95 ?_
    refine g_isub C.1 dX8_feed_96 ?_
    refine g_ishr C.1 dX8_feed_97 ?_
    refine g_i2b C.1 dX8_feed_98 ?_
    refine r_st1 C hw.1 dX8_feed_99 ?_
    replace hw := hw.2
    refine gJ.nm (fun s3 es3 => ?_)
    replace hw := hw s3 es3
    refine g_iinc (v := v6 + 1) (lv' := [(6, .int (v6 + 1)), (0, .ref (G.2.2.1 0))]) C.1 1 dX8_feed_100 rfl rfl (by decide) rfl ?_
    refine g_goto (tgt := 60) C.1 dX8_feed_103 (by decide) ?_
    refine gJ.sub [1, 0] rfl ?_
    exact hK60 _ _ hw
theorem wkR_feed_60 {X : gT} {G : rG} {A : Nat → Prop} {H0 : Heap} {Q : State → Prop} (C : rC X cX8_feed 7 G A) (hsz : H0 = (g_s X).heap) (hR : 0 ≤ (g_R X).frames ∧ 0 ≤ (g_R X).locals) {post : Int32 → RSt → Prop} (hret : ∀ (r : Int32) (τ : RSt) (lv : List (Nat × Value)) (pc : Nat), post r τ → narrow .int (.int r) = .int r → decode cX8_feed pc = .ok (.ireturn, 1) → gJ X (rWd G A H0) Q 0 0 τ lv pc [.int r]) (s : RSt) (v6 : Int32) (hw : wpR_feed_60 post s v6) : gJ X (rWd G A H0) Q 0 0 s [(0, .ref (G.2.2.1 0)), (6, .int v6)] 60 [] := 
  hw (fun (x : RSt × Int32) => (fun s v6 => gJ X (rWd G A H0) Q 0 0 s [(0, .ref (G.2.2.1 0)), (6, .int v6)] 60 []) x.1 x.2) (fun x hx => wkR_feed_60_F C hsz hR hret (K60 := (fun s v6 => gJ X (rWd G A H0) Q 0 0 s [(0, .ref (G.2.2.1 0)), (6, .int v6)] 60 [])) (fun _ _ h => h) x.1 x.2 hx)
theorem wkR_feed_0 {X : gT} {G : rG} {A : Nat → Prop} {H0 : Heap} {Q : State → Prop} (C : rC X cX8_feed 7 G A) (hsz : H0 = (g_s X).heap) (hR : 0 ≤ (g_R X).frames ∧ 0 ≤ (g_R X).locals) {post : Int32 → RSt → Prop} (hret : ∀ (r : Int32) (τ : RSt) (lv : List (Nat × Value)) (pc : Nat), post r τ → narrow .int (.int r) = .int r → decode cX8_feed pc = .ok (.ireturn, 1) → gJ X (rWd G A H0) Q 0 0 τ lv pc [.int r]) (s : RSt) (v1 : Int32) (v2 : Int32) (v3 : Int32) (v4 : Int32) (v5 : Int32) (hw : wpR_feed_0 post s v1 v2 v3 v4 v5) : gJ X (rWd G A H0) Q 0 0 s [(0, .ref (G.2.2.1 0)), (1, .int v1), (2, .int v2), (3, .int v3), (4, .int v4), (5, .int v5)] 0 [] := by
  refine g_aload_n C.1 0 dX8_feed_0 rfl rfl ?_
  refine g_iconst (v := 0) C.1 dX8_feed_1 (by decide) ?_
  refine r_p0 C dX8_feed_2 ?_
  refine gJ.nm (fun s4 es4 => ?_)
  replace hw := hw s4 es4
  refine g_aload_n C.1 0 dX8_feed_5 rfl rfl ?_
  refine r_g2 C dX8_feed_6 ?_
  refine g_bipush (v := 20) C.1 dX8_feed_9 (by decide) ?_
  refine g_iadd C.1 dX8_feed_11 ?_
  refine g_sipush (v := 400) C.1 dX8_feed_12 (by decide) ?_
  refine g_icmp_le (tgt := 20) C.1 dX8_feed_15 (by decide) (fun h5 => ?_) (fun h5 => ?_)
  · replace hw := hw.1 h5
    refine g_aload_n C.1 0 dX8_feed_20 rfl rfl ?_
    refine r_g30 C dX8_feed_21 ?_
    refine g_iconst (v := 0) C.1 dX8_feed_24 (by decide) ?_
    refine g_iload_n C.1 1 dX8_feed_25 rfl rfl ?_
    refine r_st30 C hw.1 dX8_feed_26 ?_
    replace hw := hw.2
    refine gJ.nm (fun s6 es6 => ?_)
    replace hw := hw s6 es6
    refine g_aload_n C.1 0 dX8_feed_27 rfl rfl ?_
    refine r_g30 C dX8_feed_28 ?_
    refine g_iconst (v := 1) C.1 dX8_feed_31 (by decide) ?_
    refine g_iload_n C.1 2 dX8_feed_32 rfl rfl ?_
    refine r_st30 C hw.1 dX8_feed_33 ?_
    replace hw := hw.2
    refine gJ.nm (fun s7 es7 => ?_)
    replace hw := hw s7 es7
    refine g_aload_n C.1 0 dX8_feed_34 rfl rfl ?_
    refine r_g30 C dX8_feed_35 ?_
    refine g_iconst (v := 2) C.1 dX8_feed_38 (by decide) ?_
    refine g_iload_n C.1 3 dX8_feed_39 rfl rfl ?_
    refine r_st30 C hw.1 dX8_feed_40 ?_
    replace hw := hw.2
    refine gJ.nm (fun s8 es8 => ?_)
    replace hw := hw s8 es8
    refine g_aload_n C.1 0 dX8_feed_41 rfl rfl ?_
    refine r_g30 C dX8_feed_42 ?_
    refine g_iconst (v := 3) C.1 dX8_feed_45 (by decide) ?_
    refine g_iload C.1 4 dX8_feed_46 rfl ?_
    refine r_st30 C hw.1 dX8_feed_48 ?_
    replace hw := hw.2
    refine gJ.nm (fun s9 es9 => ?_)
    replace hw := hw s9 es9
    refine g_aload_n C.1 0 dX8_feed_49 rfl rfl ?_
    refine r_g30 C dX8_feed_50 ?_
    refine g_iconst (v := 4) C.1 dX8_feed_53 (by decide) ?_
    refine g_iload C.1 5 dX8_feed_54 rfl ?_
    refine r_st30 C hw.1 dX8_feed_56 ?_
    replace hw := hw.2
    refine gJ.nm (fun s10 es10 => ?_)
    replace hw := hw s10 es10
    refine g_iconst (v := 0) C.1 dX8_feed_57 (by decide) ?_
    refine g_istore (lv' := [(6, .int 0), (0, .ref (G.2.2.1 0)), (1, .int v1), (2, .int v2), (3, .int v3), (4, .int v4), (5, .int v5)]) C.1 dX8_feed_58 (by decide) rfl ?_
    refine gJ.sub [1, 0] rfl ?_
    exact wkR_feed_60 C hsz hR hret _ _ hw
  · replace hw := hw.2 h5
    refine g_iconst (v := (-1)) C.1 dX8_feed_18 (by decide) ?_
    exact hret _ _ _ _ hw rfl dX8_feed_19
theorem hdR_feed : yX8_feed.cls = RX8 ∧ yX8_feed.cls ≠ "java/lang/invoke/MethodHandle" ∧ yX8_feed.cls ≠ "java/lang/invoke/VarHandle" ∧ (parseMethodDescriptor yX8_feed.desc).map (fun d => d.parameters.length) = some 5 := by decide +kernel
theorem cR_feed (l : Launch) (G : rG) (s : RSt) (v1 : Int32) (v2 : Int32) (v3 : Int32) (v4 : Int32) (v5 : Int32) (post : Int32 → RSt → Prop) (hw : wpR_feed_0 post s v1 v2 v3 v4 v5) : rMi l yX8_feed cX8_feed 7 .int 0 0 G s [.int v1, .int v2, .int v3, .int v4, .int v5] post := rMi_of (by decide +kernel) rfl (Nat.le_of_ble_eq_true rfl) (fun X A H0 Q hl hR hsz C hret => wkR_feed_0 C hsz hR hret s v1 v2 v3 v4 v5 hw)
def wpR_end_0 (post : Int32 → RSt → Prop) (s : RSt) (v1 : Int32) : Prop := ∀ s1 : RSt, s1 = rsI s 0 0 → (v1 < 0 → post 0 s1) ∧ (¬ v1 < 0 → (v1 ≤ (s1.1 2) → ∀ s4 : RSt, s4 = rsI s1 2 v1 → post 1 s4) ∧ (¬ v1 ≤ (s1.1 2) → post 0 s1))
theorem wkR_end_0 {X : gT} {G : rG} {A : Nat → Prop} {H0 : Heap} {Q : State → Prop} (C : rC X cX8_end 2 G A) (hsz : H0 = (g_s X).heap) (hR : 0 ≤ (g_R X).frames ∧ 0 ≤ (g_R X).locals) {post : Int32 → RSt → Prop} (hret : ∀ (r : Int32) (τ : RSt) (lv : List (Nat × Value)) (pc : Nat), post r τ → narrow .boolean (.int r) = .int r → decode cX8_end pc = .ok (.ireturn, 1) → gJ X (rWd G A H0) Q 0 0 τ lv pc [.int r]) (s : RSt) (v1 : Int32) (hw : wpR_end_0 post s v1) : gJ X (rWd G A H0) Q 0 0 s [(0, .ref (G.2.2.1 0)), (1, .int v1)] 0 [] := by
  refine g_aload_n C.1 0 dX8_end_0 rfl rfl ?_
  refine g_iconst (v := 0) C.1 dX8_end_1 (by decide) ?_
  refine r_p0 C dX8_end_2 ?_
  refine gJ.nm (fun s1 es1 => ?_)
  replace hw := hw s1 es1
  refine g_iload_n C.1 1 dX8_end_5 rfl rfl ?_
  refine g_if_lt (tgt := 17) C.1 dX8_end_6 (by decide) (fun h2 => ?_) (fun h2 => ?_)
  · replace hw := hw.1 h2
    refine g_iconst (v := 0) C.1 dX8_end_17 (by decide) ?_
    exact hret _ _ _ _ hw rfl dX8_end_18
  · replace hw := hw.2 h2
    refine g_iload_n C.1 1 dX8_end_9 rfl rfl ?_
    refine g_aload_n C.1 0 dX8_end_10 rfl rfl ?_
    refine r_g2 C dX8_end_11 ?_
    refine g_icmp_le (tgt := 19) C.1 dX8_end_14 (by decide) (fun h3 => ?_) (fun h3 => ?_)
    · replace hw := hw.1 h3
      refine g_aload_n C.1 0 dX8_end_19 rfl rfl ?_
      refine g_iload_n C.1 1 dX8_end_20 rfl rfl ?_
      refine r_p2 C dX8_end_21 ?_
      refine gJ.nm (fun s4 es4 => ?_)
      replace hw := hw s4 es4
      refine g_iconst (v := 1) C.1 dX8_end_24 (by decide) ?_
      exact hret _ _ _ _ hw rfl dX8_end_25
    · replace hw := hw.2 h3
      refine g_iconst (v := 0) C.1 dX8_end_17 (by decide) ?_
      exact hret _ _ _ _ hw rfl dX8_end_18
theorem hdR_end : yX8_end.cls = RX8 ∧ yX8_end.cls ≠ "java/lang/invoke/MethodHandle" ∧ yX8_end.cls ≠ "java/lang/invoke/VarHandle" ∧ (parseMethodDescriptor yX8_end.desc).map (fun d => d.parameters.length) = some 1 := by decide +kernel
theorem cR_end (l : Launch) (G : rG) (s : RSt) (v1 : Int32) (post : Int32 → RSt → Prop) (hw : wpR_end_0 post s v1) : rMi l yX8_end cX8_end 2 .boolean 0 0 G s [.int v1] post := rMi_of (by decide +kernel) rfl (Nat.le_of_ble_eq_true rfl) (fun X A H0 Q hl hR hsz C hret => wkR_end_0 C hsz hR hret s v1 hw)
def wpR_lift_98 (post : Int32 → RSt → Prop) (s : RSt) (v1 : Int32) (v2 : Int32) (v3 : Int32) (v4 : Int32) (v5 : Int32) (w1 : Int32) : Prop := wpR_throwsIf_0 (fun r2 s1 => (r2 = 0 → vp_in (5 * (s1.1 7)) 40 ∧ ∀ s4 : RSt, s4 = rsA s1 3 (5 * (s1.1 7)).toNatClampNeg v1 → vp_in ((5 * (s1.1 7)) + 1) 40 ∧ ∀ s5 : RSt, s5 = rsA s4 3 ((5 * (s1.1 7)) + 1).toNatClampNeg v2 → vp_in ((5 * (s1.1 7)) + 2) 40 ∧ ∀ s6 : RSt, s6 = rsA s5 3 ((5 * (s1.1 7)) + 2).toNatClampNeg v3 → vp_in ((5 * (s1.1 7)) + 3) 40 ∧ ∀ s7 : RSt, s7 = rsA s6 3 ((5 * (s1.1 7)) + 3).toNatClampNeg v4 → vp_in ((5 * (s1.1 7)) + 4) 40 ∧ ∀ s8 : RSt, s8 = rsA s7 3 ((5 * (s1.1 7)) + 4).toNatClampNeg v5 → ∀ s9 : RSt, s9 = rsI s8 7 ((s8.1 7) + 1) → post ((s9.1 7) - 1) s9) ∧ (¬ r2 = 0 → post 0 s1)) s w1 3
def wpR_lift_76 (post : Int32 → RSt → Prop) (s : RSt) (v1 : Int32) (v2 : Int32) (v3 : Int32) (v4 : Int32) (v5 : Int32) (w1 : Int32) : Prop := wpR_throwsIf_0 (fun r11 s10 => (¬ r11 = 0 → post 0 s10) ∧ (r11 = 0 → (¬ (s10.1 7) = 8 → wpR_lift_98 post s10 v1 v2 v3 v4 v5 0) ∧ ((s10.1 7) = 8 → wpR_lift_98 post s10 v1 v2 v3 v4 v5 1))) s w1 2
def wpR_lift_71 (post : Int32 → RSt → Prop) (s : RSt) (v1 : Int32) (v2 : Int32) (v3 : Int32) (v4 : Int32) (v5 : Int32) : Prop := wpR_lift_76 post s v1 v2 v3 v4 v5 1
def wpR_lift_25 (post : Int32 → RSt → Prop) (s : RSt) (v1 : Int32) (v2 : Int32) (v3 : Int32) (v4 : Int32) (v5 : Int32) (w1 : Int32) : Prop := wpR_throwsIf_0 (fun r15 s14 => (¬ r15 = 0 → post 0 s14) ∧ (r15 = 0 → wpR_in_0 (fun r17 => (r17 = 0 → wpR_lift_71 post s14 v1 v2 v3 v4 v5) ∧ (¬ r17 = 0 → wpR_in_0 (fun r19 => (r19 = 0 → wpR_lift_71 post s14 v1 v2 v3 v4 v5) ∧ (¬ r19 = 0 → wpR_in_0 (fun r21 => (¬ r21 = 0 → wpR_lift_76 post s14 v1 v2 v3 v4 v5 0) ∧ (r21 = 0 → wpR_lift_71 post s14 v1 v2 v3 v4 v5)) v5.toInt64 0 200)) v4.toInt64 1 30)) v3.toInt64 1 20)) s w1 1
def wpR_lift_20 (post : Int32 → RSt → Prop) (s : RSt) (v1 : Int32) (v2 : Int32) (v3 : Int32) (v4 : Int32) (v5 : Int32) : Prop := wpR_lift_25 post s v1 v2 v3 v4 v5 1
def wpR_lift_0 (post : Int32 → RSt → Prop) (s : RSt) (v1 : Int32) (v2 : Int32) (v3 : Int32) (v4 : Int32) (v5 : Int32) : Prop := ∀ s23 : RSt, s23 = rsI s 0 0 → wpR_noPlace_0 (fun r24 => (¬ r24 = 0 → wpR_lift_20 post s23 v1 v2 v3 v4 v5) ∧ (r24 = 0 → wpR_noPlace_0 (fun r26 => (r26 = 0 → wpR_lift_25 post s23 v1 v2 v3 v4 v5 0) ∧ (¬ r26 = 0 → wpR_lift_20 post s23 v1 v2 v3 v4 v5)) v2)) v1
theorem wkR_lift_98 {X : gT} {G : rG} {A : Nat → Prop} {H0 : Heap} {Q : State → Prop} (C : rC X cX8_lift 7 G A) (hsz : H0 = (g_s X).heap) (hR : 2 ≤ (g_R X).frames ∧ 45 ≤ (g_R X).locals) {post : Int32 → RSt → Prop} (hret : ∀ (r : Int32) (τ : RSt) (lv : List (Nat × Value)) (pc : Nat), post r τ → narrow .int (.int r) = .int r → decode cX8_lift pc = .ok (.ireturn, 1) → gJ X (rWd G A H0) Q 0 0 τ lv pc [.int r]) (s : RSt) (v1 : Int32) (v2 : Int32) (v3 : Int32) (v4 : Int32) (v5 : Int32) (w1 : Int32) (hw : wpR_lift_98 post s v1 v2 v3 v4 v5 w1) : gJ X (rWd G A H0) Q 0 0 s [(0, .ref (G.2.2.1 0)), (1, .int v1), (2, .int v2), (3, .int v3), (4, .int v4), (5, .int v5)] 98 [.int w1, .ref (G.2.2.1 0)] := by
  refine g_iconst (v := 3) C.1 dX8_lift_98 (by decide) ?_
  refine r_calli C hsz (cR_throwsIf (g_l X) G s _ _ _ hw) kR_65 kR_66 kR_67 kR_42 hdR_throwsIf ⟨Nat.le_trans (Nat.le_of_ble_eq_true rfl) hR.1, Nat.le_trans (Nat.le_of_ble_eq_true rfl) hR.2⟩ dX8_lift_99 rfl (Nat.le_of_ble_eq_true rfl) (fun r2 s1 hw => ?_)
  refine g_if_eq (tgt := 107) C.1 dX8_lift_102 (by decide) (fun h3 => ?_) (fun h3 => ?_)
  · replace hw := hw.1 h3
    refine g_iconst (v := 5) C.1 dX8_lift_107 (by decide) ?_
    refine g_aload_n C.1 0 dX8_lift_108 rfl rfl ?_
    refine r_g7 C dX8_lift_109 ?_
    refine g_imul C.1 dX8_lift_112 ?_
    refine g_istore (lv' := [(6, .int (5 * (s1.1 7))), (0, .ref (G.2.2.1 0)), (1, .int v1), (2, .int v2), (3, .int v3), (4, .int v4), (5, .int v5)]) C.1 dX8_lift_113 (by decide) rfl ?_
    refine g_aload_n C.1 1 dX8_lift_115 rfl rfl ?_
    refine r_g3 C dX8_lift_116 ?_
    refine g_iload C.1 0 dX8_lift_119 rfl ?_
    refine g_iload_n C.1 2 dX8_lift_121 rfl rfl ?_
    refine r_st3 C hw.1 dX8_lift_122 ?_
    replace hw := hw.2
    refine gJ.nm (fun s4 es4 => ?_)
    replace hw := hw s4 es4
    refine g_aload_n C.1 1 dX8_lift_123 rfl rfl ?_
    refine r_g3 C dX8_lift_124 ?_
    refine g_iload C.1 0 dX8_lift_127 rfl ?_
    refine g_iconst (v := 1) C.1 dX8_lift_129 (by decide) ?_
    refine g_iadd C.1 dX8_lift_130 ?_
    refine g_iload_n C.1 3 dX8_lift_131 rfl rfl ?_
    refine r_st3 C hw.1 dX8_lift_132 ?_
    replace hw := hw.2
    refine gJ.nm (fun s5 es5 => ?_)
    replace hw := hw s5 es5
    refine g_aload_n C.1 1 dX8_lift_133 rfl rfl ?_
    refine r_g3 C dX8_lift_134 ?_
    refine g_iload C.1 0 dX8_lift_137 rfl ?_
    refine g_iconst (v := 2) C.1 dX8_lift_139 (by decide) ?_
    refine g_iadd C.1 dX8_lift_140 ?_
    refine g_iload_n C.1 4 dX8_lift_141 rfl rfl ?_
    refine r_st3 C hw.1 dX8_lift_142 ?_
    replace hw := hw.2
    refine gJ.nm (fun s6 es6 => ?_)
    replace hw := hw s6 es6
    refine g_aload_n C.1 1 dX8_lift_143 rfl rfl ?_
    refine r_g3 C dX8_lift_144 ?_
    refine g_iload C.1 0 dX8_lift_147 rfl ?_
    refine g_iconst (v := 3) C.1 dX8_lift_149 (by decide) ?_
    refine g_iadd C.1 dX8_lift_150 ?_
    refine g_iload C.1 5 dX8_lift_151 rfl ?_
    refine r_st3 C hw.1 dX8_lift_153 ?_
    replace hw := hw.2
    refine gJ.nm (fun s7 es7 => ?_)
    replace hw := hw s7 es7
    refine g_aload_n C.1 1 dX8_lift_154 rfl rfl ?_
    refine r_g3 C dX8_lift_155 ?_
    refine g_iload C.1 0 dX8_lift_158 rfl ?_
    refine g_iconst (v := 4) C.1 dX8_lift_160 (by decide) ?_
    refine g_iadd C.1 dX8_lift_161 ?_
    refine g_iload C.1 6 dX8_lift_162 rfl ?_
    refine r_st3 C hw.1 dX8_lift_164 ?_
    replace hw := hw.2
    refine gJ.nm (fun s8 es8 => ?_)
    replace hw := hw s8 es8
    refine g_aload_n C.1 1 dX8_lift_165 rfl rfl ?_
    refine g_dup C.1 dX8_lift_166 rfl ?_
    refine r_g7 C dX8_lift_167 ?_
    refine g_iconst (v := 1) C.1 dX8_lift_170 (by decide) ?_
    refine g_iadd C.1 dX8_lift_171 ?_
    refine r_p7 C dX8_lift_172 ?_
    refine gJ.nm (fun s9 es9 => ?_)
    replace hw := hw s9 es9
    refine g_aload_n C.1 1 dX8_lift_175 rfl rfl ?_
    refine r_g7 C dX8_lift_176 ?_
    refine g_iconst (v := 1) C.1 dX8_lift_179 (by decide) ?_
    refine g_isub C.1 dX8_lift_180 ?_
    exact hret _ _ _ _ hw rfl dX8_lift_181
  · replace hw := hw.2 h3
    refine g_iconst (v := 0) C.1 dX8_lift_105 (by decide) ?_
    exact hret _ _ _ _ hw rfl dX8_lift_106
theorem wkR_lift_76 {X : gT} {G : rG} {A : Nat → Prop} {H0 : Heap} {Q : State → Prop} (C : rC X cX8_lift 7 G A) (hsz : H0 = (g_s X).heap) (hR : 2 ≤ (g_R X).frames ∧ 45 ≤ (g_R X).locals) {post : Int32 → RSt → Prop} (hret : ∀ (r : Int32) (τ : RSt) (lv : List (Nat × Value)) (pc : Nat), post r τ → narrow .int (.int r) = .int r → decode cX8_lift pc = .ok (.ireturn, 1) → gJ X (rWd G A H0) Q 0 0 τ lv pc [.int r]) (s : RSt) (v1 : Int32) (v2 : Int32) (v3 : Int32) (v4 : Int32) (v5 : Int32) (w1 : Int32) (hw : wpR_lift_76 post s v1 v2 v3 v4 v5 w1) : gJ X (rWd G A H0) Q 0 0 s [(0, .ref (G.2.2.1 0)), (1, .int v1), (2, .int v2), (3, .int v3), (4, .int v4), (5, .int v5)] 76 [.int w1, .ref (G.2.2.1 0)] := by
  refine g_iconst (v := 2) C.1 dX8_lift_76 (by decide) ?_
  refine r_calli C hsz (cR_throwsIf (g_l X) G s _ _ _ hw) kR_65 kR_66 kR_67 kR_42 hdR_throwsIf ⟨Nat.le_trans (Nat.le_of_ble_eq_true rfl) hR.1, Nat.le_trans (Nat.le_of_ble_eq_true rfl) hR.2⟩ dX8_lift_77 rfl (Nat.le_of_ble_eq_true rfl) (fun r11 s10 hw => ?_)
  refine g_if_ne (tgt := 105) C.1 dX8_lift_80 (by decide) (fun h12 => ?_) (fun h12 => ?_)
  · replace hw := hw.1 h12
    refine g_iconst (v := 0) C.1 dX8_lift_105 (by decide) ?_
    exact hret _ _ _ _ hw rfl dX8_lift_106
  · replace hw := hw.2 h12
    refine g_aload_n C.1 0 dX8_lift_83 rfl rfl ?_
    refine g_aload_n C.1 0 dX8_lift_84 rfl rfl ?_
    refine r_g7 C dX8_lift_85 ?_
    refine g_bipush (v := 8) C.1 dX8_lift_88 (by decide) ?_
    refine g_icmp_ne (tgt := 97) C.1 dX8_lift_90 (by decide) (fun h13 => ?_) (fun h13 => ?_)
    · replace hw := hw.1 h13
      refine g_iconst (v := 0) C.1 dX8_lift_97 (by decide) ?_
      exact wkR_lift_98 C hsz hR hret _ _ _ _ _ _ _ hw
    · replace hw := hw.2 h13
      refine g_iconst (v := 1) C.1 dX8_lift_93 (by decide) ?_
      refine g_goto (tgt := 98) C.1 dX8_lift_94 (by decide) ?_
      exact wkR_lift_98 C hsz hR hret _ _ _ _ _ _ _ hw
theorem wkR_lift_71 {X : gT} {G : rG} {A : Nat → Prop} {H0 : Heap} {Q : State → Prop} (C : rC X cX8_lift 7 G A) (hsz : H0 = (g_s X).heap) (hR : 2 ≤ (g_R X).frames ∧ 45 ≤ (g_R X).locals) {post : Int32 → RSt → Prop} (hret : ∀ (r : Int32) (τ : RSt) (lv : List (Nat × Value)) (pc : Nat), post r τ → narrow .int (.int r) = .int r → decode cX8_lift pc = .ok (.ireturn, 1) → gJ X (rWd G A H0) Q 0 0 τ lv pc [.int r]) (s : RSt) (v1 : Int32) (v2 : Int32) (v3 : Int32) (v4 : Int32) (v5 : Int32) (hw : wpR_lift_71 post s v1 v2 v3 v4 v5) : gJ X (rWd G A H0) Q 0 0 s [(0, .ref (G.2.2.1 0)), (1, .int v1), (2, .int v2), (3, .int v3), (4, .int v4), (5, .int v5)] 71 [.ref (G.2.2.1 0)] := by
  refine g_iconst (v := 1) C.1 dX8_lift_71 (by decide) ?_
  refine g_goto (tgt := 76) C.1 dX8_lift_72 (by decide) ?_
  exact wkR_lift_76 C hsz hR hret _ _ _ _ _ _ _ hw
theorem wkR_lift_25 {X : gT} {G : rG} {A : Nat → Prop} {H0 : Heap} {Q : State → Prop} (C : rC X cX8_lift 7 G A) (hsz : H0 = (g_s X).heap) (hR : 2 ≤ (g_R X).frames ∧ 45 ≤ (g_R X).locals) {post : Int32 → RSt → Prop} (hret : ∀ (r : Int32) (τ : RSt) (lv : List (Nat × Value)) (pc : Nat), post r τ → narrow .int (.int r) = .int r → decode cX8_lift pc = .ok (.ireturn, 1) → gJ X (rWd G A H0) Q 0 0 τ lv pc [.int r]) (s : RSt) (v1 : Int32) (v2 : Int32) (v3 : Int32) (v4 : Int32) (v5 : Int32) (w1 : Int32) (hw : wpR_lift_25 post s v1 v2 v3 v4 v5 w1) : gJ X (rWd G A H0) Q 0 0 s [(0, .ref (G.2.2.1 0)), (1, .int v1), (2, .int v2), (3, .int v3), (4, .int v4), (5, .int v5)] 25 [.int w1, .ref (G.2.2.1 0)] := by
  refine g_iconst (v := 1) C.1 dX8_lift_25 (by decide) ?_
  refine r_calli C hsz (cR_throwsIf (g_l X) G s _ _ _ hw) kR_65 kR_66 kR_67 kR_42 hdR_throwsIf ⟨Nat.le_trans (Nat.le_of_ble_eq_true rfl) hR.1, Nat.le_trans (Nat.le_of_ble_eq_true rfl) hR.2⟩ dX8_lift_26 rfl (Nat.le_of_ble_eq_true rfl) (fun r15 s14 hw => ?_)
  refine g_if_ne (tgt := 105) C.1 dX8_lift_29 (by decide) (fun h16 => ?_) (fun h16 => ?_)
  · replace hw := hw.1 h16
    refine g_iconst (v := 0) C.1 dX8_lift_105 (by decide) ?_
    exact hret _ _ _ _ hw rfl dX8_lift_106
  · replace hw := hw.2 h16
    refine g_aload_n C.1 0 dX8_lift_32 rfl rfl ?_
    refine g_iload_n C.1 3 dX8_lift_33 rfl rfl ?_
    refine g_i2l C.1 dX8_lift_34 ?_
    refine g_lconst (v := 1) C.1 dX8_lift_35 (by decide) ?_
    refine g_ldc2 (v := 20) C.1 C.2.1 (C.2.2.1 _ kR_60) dX8_lift_36 ?_
    refine g_callSi (rC.s C) (cR_in (g_l X) _ _ _ _ hw) kR_45 kR_46 kR_43 hdR_in ⟨Nat.le_trans (Nat.le_of_ble_eq_true rfl) hR.1, Nat.le_trans (Nat.le_of_ble_eq_true rfl) hR.2⟩ dX8_lift_39 rfl (Nat.le_of_ble_eq_true rfl) (fun r17 hw => ?_)
    refine g_if_eq (tgt := 71) C.1 dX8_lift_42 (by decide) (fun h18 => ?_) (fun h18 => ?_)
    · replace hw := hw.1 h18
      exact wkR_lift_71 C hsz hR hret _ _ _ _ _ _ hw
    · replace hw := hw.2 h18
      refine g_iload C.1 4 dX8_lift_45 rfl ?_
      refine g_i2l C.1 dX8_lift_47 ?_
      refine g_lconst (v := 1) C.1 dX8_lift_48 (by decide) ?_
      refine g_ldc2 (v := 30) C.1 C.2.1 (C.2.2.1 _ kR_61) dX8_lift_49 ?_
      refine g_callSi (rC.s C) (cR_in (g_l X) _ _ _ _ hw) kR_45 kR_46 kR_43 hdR_in ⟨Nat.le_trans (Nat.le_of_ble_eq_true rfl) hR.1, Nat.le_trans (Nat.le_of_ble_eq_true rfl) hR.2⟩ dX8_lift_52 rfl (Nat.le_of_ble_eq_true rfl) (fun r19 hw => ?_)
      refine g_if_eq (tgt := 71) C.1 dX8_lift_55 (by decide) (fun h20 => ?_) (fun h20 => ?_)
      · replace hw := hw.1 h20
        exact wkR_lift_71 C hsz hR hret _ _ _ _ _ _ hw
      · replace hw := hw.2 h20
        refine g_iload C.1 5 dX8_lift_58 rfl ?_
        refine g_i2l C.1 dX8_lift_60 ?_
        refine g_lconst (v := 0) C.1 dX8_lift_61 (by decide) ?_
        refine g_ldc2 (v := 200) C.1 C.2.1 (C.2.2.1 _ kR_62) dX8_lift_62 ?_
        refine g_callSi (rC.s C) (cR_in (g_l X) _ _ _ _ hw) kR_45 kR_46 kR_43 hdR_in ⟨Nat.le_trans (Nat.le_of_ble_eq_true rfl) hR.1, Nat.le_trans (Nat.le_of_ble_eq_true rfl) hR.2⟩ dX8_lift_65 rfl (Nat.le_of_ble_eq_true rfl) (fun r21 hw => ?_)
        refine g_if_ne (tgt := 75) C.1 dX8_lift_68 (by decide) (fun h22 => ?_) (fun h22 => ?_)
        · replace hw := hw.1 h22
          refine g_iconst (v := 0) C.1 dX8_lift_75 (by decide) ?_
          exact wkR_lift_76 C hsz hR hret _ _ _ _ _ _ _ hw
        · replace hw := hw.2 h22
          exact wkR_lift_71 C hsz hR hret _ _ _ _ _ _ hw
theorem wkR_lift_20 {X : gT} {G : rG} {A : Nat → Prop} {H0 : Heap} {Q : State → Prop} (C : rC X cX8_lift 7 G A) (hsz : H0 = (g_s X).heap) (hR : 2 ≤ (g_R X).frames ∧ 45 ≤ (g_R X).locals) {post : Int32 → RSt → Prop} (hret : ∀ (r : Int32) (τ : RSt) (lv : List (Nat × Value)) (pc : Nat), post r τ → narrow .int (.int r) = .int r → decode cX8_lift pc = .ok (.ireturn, 1) → gJ X (rWd G A H0) Q 0 0 τ lv pc [.int r]) (s : RSt) (v1 : Int32) (v2 : Int32) (v3 : Int32) (v4 : Int32) (v5 : Int32) (hw : wpR_lift_20 post s v1 v2 v3 v4 v5) : gJ X (rWd G A H0) Q 0 0 s [(0, .ref (G.2.2.1 0)), (1, .int v1), (2, .int v2), (3, .int v3), (4, .int v4), (5, .int v5)] 20 [.ref (G.2.2.1 0)] := by
  refine g_iconst (v := 1) C.1 dX8_lift_20 (by decide) ?_
  refine g_goto (tgt := 25) C.1 dX8_lift_21 (by decide) ?_
  exact wkR_lift_25 C hsz hR hret _ _ _ _ _ _ _ hw
theorem wkR_lift_0 {X : gT} {G : rG} {A : Nat → Prop} {H0 : Heap} {Q : State → Prop} (C : rC X cX8_lift 7 G A) (hsz : H0 = (g_s X).heap) (hR : 2 ≤ (g_R X).frames ∧ 45 ≤ (g_R X).locals) {post : Int32 → RSt → Prop} (hret : ∀ (r : Int32) (τ : RSt) (lv : List (Nat × Value)) (pc : Nat), post r τ → narrow .int (.int r) = .int r → decode cX8_lift pc = .ok (.ireturn, 1) → gJ X (rWd G A H0) Q 0 0 τ lv pc [.int r]) (s : RSt) (v1 : Int32) (v2 : Int32) (v3 : Int32) (v4 : Int32) (v5 : Int32) (hw : wpR_lift_0 post s v1 v2 v3 v4 v5) : gJ X (rWd G A H0) Q 0 0 s [(0, .ref (G.2.2.1 0)), (1, .int v1), (2, .int v2), (3, .int v3), (4, .int v4), (5, .int v5)] 0 [] := by
  refine g_aload_n C.1 0 dX8_lift_0 rfl rfl ?_
  refine g_iconst (v := 0) C.1 dX8_lift_1 (by decide) ?_
  refine r_p0 C dX8_lift_2 ?_
  refine gJ.nm (fun s23 es23 => ?_)
  replace hw := hw s23 es23
  refine g_aload_n C.1 0 dX8_lift_5 rfl rfl ?_
  refine g_iload_n C.1 1 dX8_lift_6 rfl rfl ?_
  refine g_callSi (rC.s C) (cR_noPlace (g_l X) _ _ hw) kR_63 kR_64 kR_56 hdR_noPlace ⟨Nat.le_trans (Nat.le_of_ble_eq_true rfl) hR.1, Nat.le_trans (Nat.le_of_ble_eq_true rfl) hR.2⟩ dX8_lift_7 rfl (Nat.le_of_ble_eq_true rfl) (fun r24 hw => ?_)
  refine g_if_ne (tgt := 20) C.1 dX8_lift_10 (by decide) (fun h25 => ?_) (fun h25 => ?_)
  · replace hw := hw.1 h25
    exact wkR_lift_20 C hsz hR hret _ _ _ _ _ _ hw
  · replace hw := hw.2 h25
    refine g_iload_n C.1 2 dX8_lift_13 rfl rfl ?_
    refine g_callSi (rC.s C) (cR_noPlace (g_l X) _ _ hw) kR_63 kR_64 kR_56 hdR_noPlace ⟨Nat.le_trans (Nat.le_of_ble_eq_true rfl) hR.1, Nat.le_trans (Nat.le_of_ble_eq_true rfl) hR.2⟩ dX8_lift_14 rfl (Nat.le_of_ble_eq_true rfl) (fun r26 hw => ?_)
    refine g_if_eq (tgt := 24) C.1 dX8_lift_17 (by decide) (fun h27 => ?_) (fun h27 => ?_)
    · replace hw := hw.1 h27
      refine g_iconst (v := 0) C.1 dX8_lift_24 (by decide) ?_
      exact wkR_lift_25 C hsz hR hret _ _ _ _ _ _ _ hw
    · replace hw := hw.2 h27
      exact wkR_lift_20 C hsz hR hret _ _ _ _ _ _ hw
theorem hdR_lift : yX8_lift.cls = RX8 ∧ yX8_lift.cls ≠ "java/lang/invoke/MethodHandle" ∧ yX8_lift.cls ≠ "java/lang/invoke/VarHandle" ∧ (parseMethodDescriptor yX8_lift.desc).map (fun d => d.parameters.length) = some 5 := by decide +kernel
theorem cR_lift (l : Launch) (G : rG) (s : RSt) (v1 : Int32) (v2 : Int32) (v3 : Int32) (v4 : Int32) (v5 : Int32) (post : Int32 → RSt → Prop) (hw : wpR_lift_0 post s v1 v2 v3 v4 v5) : rMi l yX8_lift cX8_lift 7 .int 2 45 G s [.int v1, .int v2, .int v3, .int v4, .int v5] post := rMi_of (by decide +kernel) rfl (Nat.le_of_ble_eq_true rfl) (fun X A H0 Q hl hR hsz C hret => wkR_lift_0 C hsz hR hret s v1 v2 v3 v4 v5 hw)
def wpR_slope_194_F (post : Int32 → RSt → Prop) (K194 : RSt → Int32 → Int32 → Prop) (s : RSt) (v5 : Int32) (v7 : Int32) : Prop := (v5 ≤ v7 → ∀ s2 : RSt, s2 = rsI s 14 ((s.1 14) + v5) → ∀ s3 : RSt, s3 = rsI s2 9 ((s2.1 9) + 1) → post ((s3.1 9) - 1) s3) ∧ (¬ v5 ≤ v7 → vp_in ((s.1 14) + v7) 40 ∧ ∀ s4 : RSt, s4 = rsA s 11 ((s.1 14) + v7).toNatClampNeg (s.1 9) → K194 s4 v5 (v7 + 1))
def wpR_slope_194 (post : Int32 → RSt → Prop) (s : RSt) (v5 : Int32) (v7 : Int32) : Prop := gLP (fun (K : RSt × Int32 × Int32 → Prop) (x : RSt × Int32 × Int32) => wpR_slope_194_F post (fun s v5 v7 => K (s, v5, v7)) x.1 x.2.1 x.2.2) (s, v5, v7)
def wpR_slope_110 (post : Int32 → RSt → Prop) (s : RSt) (v1 : Int32) (v2 : Int32) (v3 : Int32) (v4 : Int32) (v5 : Int32) (w1 : Int32) : Prop := wpR_throwsIf_0 (fun r6 s5 => (r6 = 0 → vp_in (6 * (s5.1 9)) 60 ∧ ∀ s8 : RSt, s8 = rsA s5 8 (6 * (s5.1 9)).toNatClampNeg v1 → vp_in ((6 * (s5.1 9)) + 1) 60 ∧ ∀ s9 : RSt, s9 = rsA s8 8 ((6 * (s5.1 9)) + 1).toNatClampNeg v2 → vp_in ((6 * (s5.1 9)) + 2) 60 ∧ ∀ s10 : RSt, s10 = rsA s9 8 ((6 * (s5.1 9)) + 2).toNatClampNeg v3 → vp_in ((6 * (s5.1 9)) + 3) 60 ∧ ∀ s11 : RSt, s11 = rsA s10 8 ((6 * (s5.1 9)) + 3).toNatClampNeg v4 → vp_in ((6 * (s5.1 9)) + 4) 60 ∧ ∀ s12 : RSt, s12 = rsA s11 8 ((6 * (s5.1 9)) + 4).toNatClampNeg (s11.1 14) → vp_in ((6 * (s5.1 9)) + 5) 60 ∧ ∀ s13 : RSt, s13 = rsA s12 8 ((6 * (s5.1 9)) + 5).toNatClampNeg v5 → wpR_slope_194 post s13 v5 0) ∧ (¬ r6 = 0 → post 0 s5)) s w1 3
def wpR_slope_105 (post : Int32 → RSt → Prop) (s : RSt) (v1 : Int32) (v2 : Int32) (v3 : Int32) (v4 : Int32) (v5 : Int32) : Prop := wpR_slope_110 post s v1 v2 v3 v4 v5 1
def wpR_slope_76 (post : Int32 → RSt → Prop) (s : RSt) (v1 : Int32) (v2 : Int32) (v3 : Int32) (v4 : Int32) (v5 : Int32) (w1 : Int32) : Prop := wpR_throwsIf_0 (fun r15 s14 => (¬ r15 = 0 → post 0 s14) ∧ (r15 = 0 → ((s14.1 9) = 10 → wpR_slope_105 post s14 v1 v2 v3 v4 v5) ∧ (¬ (s14.1 9) = 10 → (((s14.1 14) + v5) ≤ 40 → wpR_slope_110 post s14 v1 v2 v3 v4 v5 0) ∧ (¬ ((s14.1 14) + v5) ≤ 40 → wpR_slope_105 post s14 v1 v2 v3 v4 v5)))) s w1 2
def wpR_slope_71 (post : Int32 → RSt → Prop) (s : RSt) (v1 : Int32) (v2 : Int32) (v3 : Int32) (v4 : Int32) (v5 : Int32) : Prop := wpR_slope_76 post s v1 v2 v3 v4 v5 1
def wpR_slope_25 (post : Int32 → RSt → Prop) (s : RSt) (v1 : Int32) (v2 : Int32) (v3 : Int32) (v4 : Int32) (v5 : Int32) (w1 : Int32) : Prop := wpR_throwsIf_0 (fun r20 s19 => (¬ r20 = 0 → post 0 s19) ∧ (r20 = 0 → wpR_in_0 (fun r22 => (r22 = 0 → wpR_slope_71 post s19 v1 v2 v3 v4 v5) ∧ (¬ r22 = 0 → wpR_in_0 (fun r24 => (r24 = 0 → wpR_slope_71 post s19 v1 v2 v3 v4 v5) ∧ (¬ r24 = 0 → wpR_in_0 (fun r26 => (¬ r26 = 0 → wpR_slope_76 post s19 v1 v2 v3 v4 v5 0) ∧ (r26 = 0 → wpR_slope_71 post s19 v1 v2 v3 v4 v5)) v5.toInt64 1 4)) v4.toInt64 0 9)) v3.toInt64 1 20)) s w1 1
def wpR_slope_20 (post : Int32 → RSt → Prop) (s : RSt) (v1 : Int32) (v2 : Int32) (v3 : Int32) (v4 : Int32) (v5 : Int32) : Prop := wpR_slope_25 post s v1 v2 v3 v4 v5 1
def wpR_slope_0 (post : Int32 → RSt → Prop) (s : RSt) (v1 : Int32) (v2 : Int32) (v3 : Int32) (v4 : Int32) (v5 : Int32) : Prop := ∀ s28 : RSt, s28 = rsI s 0 0 → wpR_noPlace_0 (fun r29 => (¬ r29 = 0 → wpR_slope_20 post s28 v1 v2 v3 v4 v5) ∧ (r29 = 0 → wpR_noPlace_0 (fun r31 => (r31 = 0 → wpR_slope_25 post s28 v1 v2 v3 v4 v5 0) ∧ (¬ r31 = 0 → wpR_slope_20 post s28 v1 v2 v3 v4 v5)) v2)) v1
theorem wkR_slope_194_F {X : gT} {G : rG} {A : Nat → Prop} {H0 : Heap} {Q : State → Prop} (C : rC X cX8_slope 8 G A) (hsz : H0 = (g_s X).heap) (hR : 2 ≤ (g_R X).frames ∧ 45 ≤ (g_R X).locals) {post : Int32 → RSt → Prop} (hret : ∀ (r : Int32) (τ : RSt) (lv : List (Nat × Value)) (pc : Nat), post r τ → narrow .int (.int r) = .int r → decode cX8_slope pc = .ok (.ireturn, 1) → gJ X (rWd G A H0) Q 0 0 τ lv pc [.int r]) {K194 : RSt → Int32 → Int32 → Prop} (hK194 : ∀ (s : RSt) (v5 : Int32) (v7 : Int32), K194 s v5 v7 → gJ X (rWd G A H0) Q 0 0 s [(0, .ref (G.2.2.1 0)), (5, .int v5), (7, .int v7)] 194 []) (s : RSt) (v5 : Int32) (v7 : Int32) (hw : wpR_slope_194_F post K194 s v5 v7) : gJ X (rWd G A H0) Q 0 0 s [(0, .ref (G.2.2.1 0)), (5, .int v5), (7, .int v7)] 194 [] := by
  refine g_iload C.1 2 dX8_slope_194 rfl ?_
  refine g_iload C.1 1 dX8_slope_196 rfl ?_
  refine g_icmp_ge (tgt := 223) C.1 dX8_slope_198 (by decide) (fun h1 => ?_) (fun h1 => ?_)
  · replace hw := hw.1 h1
    refine g_aload_n C.1 0 dX8_slope_223 rfl rfl ?_
    refine g_dup C.1 dX8_slope_224 rfl ?_
    refine r_g14 C dX8_slope_225 ?_
    refine g_iload C.1 1 dX8_slope_228 rfl ?_
    refine g_iadd C.1 dX8_slope_230 ?_
    refine r_p14 C dX8_slope_231 ?_
    refine gJ.nm (fun s2 es2 => ?_)
    replace hw := hw s2 es2
    refine g_aload_n C.1 0 dX8_slope_234 rfl rfl ?_
    refine g_dup C.1 dX8_slope_235 rfl ?_
    refine r_g9 C dX8_slope_236 ?_
    refine g_iconst (v := 1) C.1 dX8_slope_239 (by decide) ?_
    refine g_iadd C.1 dX8_slope_240 ?_
    refine r_p9 C dX8_slope_241 ?_
    refine gJ.nm (fun s3 es3 => ?_)
    replace hw := hw s3 es3
    refine g_aload_n C.1 0 dX8_slope_244 rfl rfl ?_
    refine r_g9 C dX8_slope_245 ?_
    refine g_iconst (v := 1) C.1 dX8_slope_248 (by decide) ?_
    refine g_isub C.1 dX8_slope_249 ?_
    exact hret _ _ _ _ hw rfl dX8_slope_250
  · replace hw := hw.2 h1
    refine g_aload_n C.1 0 dX8_slope_201 rfl rfl ?_
    refine r_g11 C dX8_slope_202 ?_
    refine g_aload_n C.1 0 dX8_slope_205 rfl rfl ?_
    refine r_g14 C dX8_slope_206 ?_
    refine g_iload C.1 2 dX8_slope_209 rfl ?_
    refine g_iadd C.1 dX8_slope_211 ?_
    refine g_aload_n C.1 0 dX8_slope_212 rfl rfl ?_
    refine r_g9 C dX8_slope_213 ?_
    refine r_st11 C hw.1 dX8_slope_216 ?_
    replace hw := hw.2
    refine gJ.nm (fun s4 es4 => ?_)
    replace hw := hw s4 es4
    refine g_iinc (v := v7 + 1) (lv' := [(7, .int (v7 + 1)), (0, .ref (G.2.2.1 0)), (5, .int v5)]) C.1 2 dX8_slope_217 rfl rfl (by decide) rfl ?_
    refine g_goto (tgt := 194) C.1 dX8_slope_220 (by decide) ?_
    refine gJ.sub [1, 2, 0] rfl ?_
    exact hK194 _ _ _ hw
theorem wkR_slope_194 {X : gT} {G : rG} {A : Nat → Prop} {H0 : Heap} {Q : State → Prop} (C : rC X cX8_slope 8 G A) (hsz : H0 = (g_s X).heap) (hR : 2 ≤ (g_R X).frames ∧ 45 ≤ (g_R X).locals) {post : Int32 → RSt → Prop} (hret : ∀ (r : Int32) (τ : RSt) (lv : List (Nat × Value)) (pc : Nat), post r τ → narrow .int (.int r) = .int r → decode cX8_slope pc = .ok (.ireturn, 1) → gJ X (rWd G A H0) Q 0 0 τ lv pc [.int r]) (s : RSt) (v5 : Int32) (v7 : Int32) (hw : wpR_slope_194 post s v5 v7) : gJ X (rWd G A H0) Q 0 0 s [(0, .ref (G.2.2.1 0)), (5, .int v5), (7, .int v7)] 194 [] := 
  hw (fun (x : RSt × Int32 × Int32) => (fun s v5 v7 => gJ X (rWd G A H0) Q 0 0 s [(0, .ref (G.2.2.1 0)), (5, .int v5), (7, .int v7)] 194 []) x.1 x.2.1 x.2.2) (fun x hx => wkR_slope_194_F C hsz hR hret (K194 := (fun s v5 v7 => gJ X (rWd G A H0) Q 0 0 s [(0, .ref (G.2.2.1 0)), (5, .int v5), (7, .int v7)] 194 [])) (fun _ _ _ h => h) x.1 x.2.1 x.2.2 hx)
theorem wkR_slope_110 {X : gT} {G : rG} {A : Nat → Prop} {H0 : Heap} {Q : State → Prop} (C : rC X cX8_slope 8 G A) (hsz : H0 = (g_s X).heap) (hR : 2 ≤ (g_R X).frames ∧ 45 ≤ (g_R X).locals) {post : Int32 → RSt → Prop} (hret : ∀ (r : Int32) (τ : RSt) (lv : List (Nat × Value)) (pc : Nat), post r τ → narrow .int (.int r) = .int r → decode cX8_slope pc = .ok (.ireturn, 1) → gJ X (rWd G A H0) Q 0 0 τ lv pc [.int r]) (s : RSt) (v1 : Int32) (v2 : Int32) (v3 : Int32) (v4 : Int32) (v5 : Int32) (w1 : Int32) (hw : wpR_slope_110 post s v1 v2 v3 v4 v5 w1) : gJ X (rWd G A H0) Q 0 0 s [(0, .ref (G.2.2.1 0)), (1, .int v1), (2, .int v2), (3, .int v3), (4, .int v4), (5, .int v5)] 110 [.int w1, .ref (G.2.2.1 0)] := by
  refine g_iconst (v := 3) C.1 dX8_slope_110 (by decide) ?_
  refine r_calli C hsz (cR_throwsIf (g_l X) G s _ _ _ hw) kR_65 kR_66 kR_67 kR_42 hdR_throwsIf ⟨Nat.le_trans (Nat.le_of_ble_eq_true rfl) hR.1, Nat.le_trans (Nat.le_of_ble_eq_true rfl) hR.2⟩ dX8_slope_111 rfl (Nat.le_of_ble_eq_true rfl) (fun r6 s5 hw => ?_)
  refine g_if_eq (tgt := 119) C.1 dX8_slope_114 (by decide) (fun h7 => ?_) (fun h7 => ?_)
  · replace hw := hw.1 h7
    refine g_bipush (v := 6) C.1 dX8_slope_119 (by decide) ?_
    refine g_aload_n C.1 0 dX8_slope_121 rfl rfl ?_
    refine r_g9 C dX8_slope_122 ?_
    refine g_imul C.1 dX8_slope_125 ?_
    refine g_istore (lv' := [(6, .int (6 * (s5.1 9))), (0, .ref (G.2.2.1 0)), (1, .int v1), (2, .int v2), (3, .int v3), (4, .int v4), (5, .int v5)]) C.1 dX8_slope_126 (by decide) rfl ?_
    refine g_aload_n C.1 1 dX8_slope_128 rfl rfl ?_
    refine r_g8 C dX8_slope_129 ?_
    refine g_iload C.1 0 dX8_slope_132 rfl ?_
    refine g_iload_n C.1 2 dX8_slope_134 rfl rfl ?_
    refine r_st8 C hw.1 dX8_slope_135 ?_
    replace hw := hw.2
    refine gJ.nm (fun s8 es8 => ?_)
    replace hw := hw s8 es8
    refine g_aload_n C.1 1 dX8_slope_136 rfl rfl ?_
    refine r_g8 C dX8_slope_137 ?_
    refine g_iload C.1 0 dX8_slope_140 rfl ?_
    refine g_iconst (v := 1) C.1 dX8_slope_142 (by decide) ?_
    refine g_iadd C.1 dX8_slope_143 ?_
    refine g_iload_n C.1 3 dX8_slope_144 rfl rfl ?_
    refine r_st8 C hw.1 dX8_slope_145 ?_
    replace hw := hw.2
    refine gJ.nm (fun s9 es9 => ?_)
    replace hw := hw s9 es9
    refine g_aload_n C.1 1 dX8_slope_146 rfl rfl ?_
    refine r_g8 C dX8_slope_147 ?_
    refine g_iload C.1 0 dX8_slope_150 rfl ?_
    refine g_iconst (v := 2) C.1 dX8_slope_152 (by decide) ?_
    refine g_iadd C.1 dX8_slope_153 ?_
    refine g_iload_n C.1 4 dX8_slope_154 rfl rfl ?_
    refine r_st8 C hw.1 dX8_slope_155 ?_
    replace hw := hw.2
    refine gJ.nm (fun s10 es10 => ?_)
    replace hw := hw s10 es10
    refine g_aload_n C.1 1 dX8_slope_156 rfl rfl ?_
    refine r_g8 C dX8_slope_157 ?_
    refine g_iload C.1 0 dX8_slope_160 rfl ?_
    refine g_iconst (v := 3) C.1 dX8_slope_162 (by decide) ?_
    refine g_iadd C.1 dX8_slope_163 ?_
    refine g_iload C.1 5 dX8_slope_164 rfl ?_
    refine r_st8 C hw.1 dX8_slope_166 ?_
    replace hw := hw.2
    refine gJ.nm (fun s11 es11 => ?_)
    replace hw := hw s11 es11
    refine g_aload_n C.1 1 dX8_slope_167 rfl rfl ?_
    refine r_g8 C dX8_slope_168 ?_
    refine g_iload C.1 0 dX8_slope_171 rfl ?_
    refine g_iconst (v := 4) C.1 dX8_slope_173 (by decide) ?_
    refine g_iadd C.1 dX8_slope_174 ?_
    refine g_aload_n C.1 1 dX8_slope_175 rfl rfl ?_
    refine r_g14 C dX8_slope_176 ?_
    refine r_st8 C hw.1 dX8_slope_179 ?_
    replace hw := hw.2
    refine gJ.nm (fun s12 es12 => ?_)
    replace hw := hw s12 es12
    refine g_aload_n C.1 1 dX8_slope_180 rfl rfl ?_
    refine r_g8 C dX8_slope_181 ?_
    refine g_iload C.1 0 dX8_slope_184 rfl ?_
    refine g_iconst (v := 5) C.1 dX8_slope_186 (by decide) ?_
    refine g_iadd C.1 dX8_slope_187 ?_
    refine g_iload C.1 6 dX8_slope_188 rfl ?_
    refine r_st8 C hw.1 dX8_slope_190 ?_
    replace hw := hw.2
    refine gJ.nm (fun s13 es13 => ?_)
    replace hw := hw s13 es13
    refine g_iconst (v := 0) C.1 dX8_slope_191 (by decide) ?_
    refine g_istore (lv' := [(7, .int 0), (6, .int (6 * (s5.1 9))), (0, .ref (G.2.2.1 0)), (1, .int v1), (2, .int v2), (3, .int v3), (4, .int v4), (5, .int v5)]) C.1 dX8_slope_192 (by decide) rfl ?_
    refine gJ.sub [2, 7, 0] rfl ?_
    exact wkR_slope_194 C hsz hR hret _ _ _ hw
  · replace hw := hw.2 h7
    refine g_iconst (v := 0) C.1 dX8_slope_117 (by decide) ?_
    exact hret _ _ _ _ hw rfl dX8_slope_118
theorem wkR_slope_105 {X : gT} {G : rG} {A : Nat → Prop} {H0 : Heap} {Q : State → Prop} (C : rC X cX8_slope 8 G A) (hsz : H0 = (g_s X).heap) (hR : 2 ≤ (g_R X).frames ∧ 45 ≤ (g_R X).locals) {post : Int32 → RSt → Prop} (hret : ∀ (r : Int32) (τ : RSt) (lv : List (Nat × Value)) (pc : Nat), post r τ → narrow .int (.int r) = .int r → decode cX8_slope pc = .ok (.ireturn, 1) → gJ X (rWd G A H0) Q 0 0 τ lv pc [.int r]) (s : RSt) (v1 : Int32) (v2 : Int32) (v3 : Int32) (v4 : Int32) (v5 : Int32) (hw : wpR_slope_105 post s v1 v2 v3 v4 v5) : gJ X (rWd G A H0) Q 0 0 s [(0, .ref (G.2.2.1 0)), (1, .int v1), (2, .int v2), (3, .int v3), (4, .int v4), (5, .int v5)] 105 [.ref (G.2.2.1 0)] := by
  refine g_iconst (v := 1) C.1 dX8_slope_105 (by decide) ?_
  refine g_goto (tgt := 110) C.1 dX8_slope_106 (by decide) ?_
  exact wkR_slope_110 C hsz hR hret _ _ _ _ _ _ _ hw
theorem wkR_slope_76 {X : gT} {G : rG} {A : Nat → Prop} {H0 : Heap} {Q : State → Prop} (C : rC X cX8_slope 8 G A) (hsz : H0 = (g_s X).heap) (hR : 2 ≤ (g_R X).frames ∧ 45 ≤ (g_R X).locals) {post : Int32 → RSt → Prop} (hret : ∀ (r : Int32) (τ : RSt) (lv : List (Nat × Value)) (pc : Nat), post r τ → narrow .int (.int r) = .int r → decode cX8_slope pc = .ok (.ireturn, 1) → gJ X (rWd G A H0) Q 0 0 τ lv pc [.int r]) (s : RSt) (v1 : Int32) (v2 : Int32) (v3 : Int32) (v4 : Int32) (v5 : Int32) (w1 : Int32) (hw : wpR_slope_76 post s v1 v2 v3 v4 v5 w1) : gJ X (rWd G A H0) Q 0 0 s [(0, .ref (G.2.2.1 0)), (1, .int v1), (2, .int v2), (3, .int v3), (4, .int v4), (5, .int v5)] 76 [.int w1, .ref (G.2.2.1 0)] := by
  refine g_iconst (v := 2) C.1 dX8_slope_76 (by decide) ?_
  refine r_calli C hsz (cR_throwsIf (g_l X) G s _ _ _ hw) kR_65 kR_66 kR_67 kR_42 hdR_throwsIf ⟨Nat.le_trans (Nat.le_of_ble_eq_true rfl) hR.1, Nat.le_trans (Nat.le_of_ble_eq_true rfl) hR.2⟩ dX8_slope_77 rfl (Nat.le_of_ble_eq_true rfl) (fun r15 s14 hw => ?_)
  refine g_if_ne (tgt := 117) C.1 dX8_slope_80 (by decide) (fun h16 => ?_) (fun h16 => ?_)
  · replace hw := hw.1 h16
    refine g_iconst (v := 0) C.1 dX8_slope_117 (by decide) ?_
    exact hret _ _ _ _ hw rfl dX8_slope_118
  · replace hw := hw.2 h16
    refine g_aload_n C.1 0 dX8_slope_83 rfl rfl ?_
    refine g_aload_n C.1 0 dX8_slope_84 rfl rfl ?_
    refine r_g9 C dX8_slope_85 ?_
    refine g_bipush (v := 10) C.1 dX8_slope_88 (by decide) ?_
    refine g_icmp_eq (tgt := 105) C.1 dX8_slope_90 (by decide) (fun h17 => ?_) (fun h17 => ?_)
    · replace hw := hw.1 h17
      exact wkR_slope_105 C hsz hR hret _ _ _ _ _ _ hw
    · replace hw := hw.2 h17
      refine g_aload_n C.1 0 dX8_slope_93 rfl rfl ?_
      refine r_g14 C dX8_slope_94 ?_
      refine g_iload C.1 5 dX8_slope_97 rfl ?_
      refine g_iadd C.1 dX8_slope_99 ?_
      refine g_bipush (v := 40) C.1 dX8_slope_100 (by decide) ?_
      refine g_icmp_le (tgt := 109) C.1 dX8_slope_102 (by decide) (fun h18 => ?_) (fun h18 => ?_)
      · replace hw := hw.1 h18
        refine g_iconst (v := 0) C.1 dX8_slope_109 (by decide) ?_
        exact wkR_slope_110 C hsz hR hret _ _ _ _ _ _ _ hw
      · replace hw := hw.2 h18
        exact wkR_slope_105 C hsz hR hret _ _ _ _ _ _ hw
theorem wkR_slope_71 {X : gT} {G : rG} {A : Nat → Prop} {H0 : Heap} {Q : State → Prop} (C : rC X cX8_slope 8 G A) (hsz : H0 = (g_s X).heap) (hR : 2 ≤ (g_R X).frames ∧ 45 ≤ (g_R X).locals) {post : Int32 → RSt → Prop} (hret : ∀ (r : Int32) (τ : RSt) (lv : List (Nat × Value)) (pc : Nat), post r τ → narrow .int (.int r) = .int r → decode cX8_slope pc = .ok (.ireturn, 1) → gJ X (rWd G A H0) Q 0 0 τ lv pc [.int r]) (s : RSt) (v1 : Int32) (v2 : Int32) (v3 : Int32) (v4 : Int32) (v5 : Int32) (hw : wpR_slope_71 post s v1 v2 v3 v4 v5) : gJ X (rWd G A H0) Q 0 0 s [(0, .ref (G.2.2.1 0)), (1, .int v1), (2, .int v2), (3, .int v3), (4, .int v4), (5, .int v5)] 71 [.ref (G.2.2.1 0)] := by
  refine g_iconst (v := 1) C.1 dX8_slope_71 (by decide) ?_
  refine g_goto (tgt := 76) C.1 dX8_slope_72 (by decide) ?_
  exact wkR_slope_76 C hsz hR hret _ _ _ _ _ _ _ hw
theorem wkR_slope_25 {X : gT} {G : rG} {A : Nat → Prop} {H0 : Heap} {Q : State → Prop} (C : rC X cX8_slope 8 G A) (hsz : H0 = (g_s X).heap) (hR : 2 ≤ (g_R X).frames ∧ 45 ≤ (g_R X).locals) {post : Int32 → RSt → Prop} (hret : ∀ (r : Int32) (τ : RSt) (lv : List (Nat × Value)) (pc : Nat), post r τ → narrow .int (.int r) = .int r → decode cX8_slope pc = .ok (.ireturn, 1) → gJ X (rWd G A H0) Q 0 0 τ lv pc [.int r]) (s : RSt) (v1 : Int32) (v2 : Int32) (v3 : Int32) (v4 : Int32) (v5 : Int32) (w1 : Int32) (hw : wpR_slope_25 post s v1 v2 v3 v4 v5 w1) : gJ X (rWd G A H0) Q 0 0 s [(0, .ref (G.2.2.1 0)), (1, .int v1), (2, .int v2), (3, .int v3), (4, .int v4), (5, .int v5)] 25 [.int w1, .ref (G.2.2.1 0)] := by
  refine g_iconst (v := 1) C.1 dX8_slope_25 (by decide) ?_
  refine r_calli C hsz (cR_throwsIf (g_l X) G s _ _ _ hw) kR_65 kR_66 kR_67 kR_42 hdR_throwsIf ⟨Nat.le_trans (Nat.le_of_ble_eq_true rfl) hR.1, Nat.le_trans (Nat.le_of_ble_eq_true rfl) hR.2⟩ dX8_slope_26 rfl (Nat.le_of_ble_eq_true rfl) (fun r20 s19 hw => ?_)
  refine g_if_ne (tgt := 117) C.1 dX8_slope_29 (by decide) (fun h21 => ?_) (fun h21 => ?_)
  · replace hw := hw.1 h21
    refine g_iconst (v := 0) C.1 dX8_slope_117 (by decide) ?_
    exact hret _ _ _ _ hw rfl dX8_slope_118
  · replace hw := hw.2 h21
    refine g_aload_n C.1 0 dX8_slope_32 rfl rfl ?_
    refine g_iload_n C.1 3 dX8_slope_33 rfl rfl ?_
    refine g_i2l C.1 dX8_slope_34 ?_
    refine g_lconst (v := 1) C.1 dX8_slope_35 (by decide) ?_
    refine g_ldc2 (v := 20) C.1 C.2.1 (C.2.2.1 _ kR_60) dX8_slope_36 ?_
    refine g_callSi (rC.s C) (cR_in (g_l X) _ _ _ _ hw) kR_45 kR_46 kR_43 hdR_in ⟨Nat.le_trans (Nat.le_of_ble_eq_true rfl) hR.1, Nat.le_trans (Nat.le_of_ble_eq_true rfl) hR.2⟩ dX8_slope_39 rfl (Nat.le_of_ble_eq_true rfl) (fun r22 hw => ?_)
    refine g_if_eq (tgt := 71) C.1 dX8_slope_42 (by decide) (fun h23 => ?_) (fun h23 => ?_)
    · replace hw := hw.1 h23
      exact wkR_slope_71 C hsz hR hret _ _ _ _ _ _ hw
    · replace hw := hw.2 h23
      refine g_iload C.1 4 dX8_slope_45 rfl ?_
      refine g_i2l C.1 dX8_slope_47 ?_
      refine g_lconst (v := 0) C.1 dX8_slope_48 (by decide) ?_
      refine g_ldc2 (v := 9) C.1 C.2.1 (C.2.2.1 _ kR_55) dX8_slope_49 ?_
      refine g_callSi (rC.s C) (cR_in (g_l X) _ _ _ _ hw) kR_45 kR_46 kR_43 hdR_in ⟨Nat.le_trans (Nat.le_of_ble_eq_true rfl) hR.1, Nat.le_trans (Nat.le_of_ble_eq_true rfl) hR.2⟩ dX8_slope_52 rfl (Nat.le_of_ble_eq_true rfl) (fun r24 hw => ?_)
      refine g_if_eq (tgt := 71) C.1 dX8_slope_55 (by decide) (fun h25 => ?_) (fun h25 => ?_)
      · replace hw := hw.1 h25
        exact wkR_slope_71 C hsz hR hret _ _ _ _ _ _ hw
      · replace hw := hw.2 h25
        refine g_iload C.1 5 dX8_slope_58 rfl ?_
        refine g_i2l C.1 dX8_slope_60 ?_
        refine g_lconst (v := 1) C.1 dX8_slope_61 (by decide) ?_
        refine g_ldc2 (v := 4) C.1 C.2.1 (C.2.2.1 _ kR_69) dX8_slope_62 ?_
        refine g_callSi (rC.s C) (cR_in (g_l X) _ _ _ _ hw) kR_45 kR_46 kR_43 hdR_in ⟨Nat.le_trans (Nat.le_of_ble_eq_true rfl) hR.1, Nat.le_trans (Nat.le_of_ble_eq_true rfl) hR.2⟩ dX8_slope_65 rfl (Nat.le_of_ble_eq_true rfl) (fun r26 hw => ?_)
        refine g_if_ne (tgt := 75) C.1 dX8_slope_68 (by decide) (fun h27 => ?_) (fun h27 => ?_)
        · replace hw := hw.1 h27
          refine g_iconst (v := 0) C.1 dX8_slope_75 (by decide) ?_
          exact wkR_slope_76 C hsz hR hret _ _ _ _ _ _ _ hw
        · replace hw := hw.2 h27
          exact wkR_slope_71 C hsz hR hret _ _ _ _ _ _ hw
theorem wkR_slope_20 {X : gT} {G : rG} {A : Nat → Prop} {H0 : Heap} {Q : State → Prop} (C : rC X cX8_slope 8 G A) (hsz : H0 = (g_s X).heap) (hR : 2 ≤ (g_R X).frames ∧ 45 ≤ (g_R X).locals) {post : Int32 → RSt → Prop} (hret : ∀ (r : Int32) (τ : RSt) (lv : List (Nat × Value)) (pc : Nat), post r τ → narrow .int (.int r) = .int r → decode cX8_slope pc = .ok (.ireturn, 1) → gJ X (rWd G A H0) Q 0 0 τ lv pc [.int r]) (s : RSt) (v1 : Int32) (v2 : Int32) (v3 : Int32) (v4 : Int32) (v5 : Int32) (hw : wpR_slope_20 post s v1 v2 v3 v4 v5) : gJ X (rWd G A H0) Q 0 0 s [(0, .ref (G.2.2.1 0)), (1, .int v1), (2, .int v2), (3, .int v3), (4, .int v4), (5, .int v5)] 20 [.ref (G.2.2.1 0)] := by
  refine g_iconst (v := 1) C.1 dX8_slope_20 (by decide) ?_
  refine g_goto (tgt := 25) C.1 dX8_slope_21 (by decide) ?_
  exact wkR_slope_25 C hsz hR hret _ _ _ _ _ _ _ hw
theorem wkR_slope_0 {X : gT} {G : rG} {A : Nat → Prop} {H0 : Heap} {Q : State → Prop} (C : rC X cX8_slope 8 G A) (hsz : H0 = (g_s X).heap) (hR : 2 ≤ (g_R X).frames ∧ 45 ≤ (g_R X).locals) {post : Int32 → RSt → Prop} (hret : ∀ (r : Int32) (τ : RSt) (lv : List (Nat × Value)) (pc : Nat), post r τ → narrow .int (.int r) = .int r → decode cX8_slope pc = .ok (.ireturn, 1) → gJ X (rWd G A H0) Q 0 0 τ lv pc [.int r]) (s : RSt) (v1 : Int32) (v2 : Int32) (v3 : Int32) (v4 : Int32) (v5 : Int32) (hw : wpR_slope_0 post s v1 v2 v3 v4 v5) : gJ X (rWd G A H0) Q 0 0 s [(0, .ref (G.2.2.1 0)), (1, .int v1), (2, .int v2), (3, .int v3), (4, .int v4), (5, .int v5)] 0 [] := by
  refine g_aload_n C.1 0 dX8_slope_0 rfl rfl ?_
  refine g_iconst (v := 0) C.1 dX8_slope_1 (by decide) ?_
  refine r_p0 C dX8_slope_2 ?_
  refine gJ.nm (fun s28 es28 => ?_)
  replace hw := hw s28 es28
  refine g_aload_n C.1 0 dX8_slope_5 rfl rfl ?_
  refine g_iload_n C.1 1 dX8_slope_6 rfl rfl ?_
  refine g_callSi (rC.s C) (cR_noPlace (g_l X) _ _ hw) kR_63 kR_64 kR_56 hdR_noPlace ⟨Nat.le_trans (Nat.le_of_ble_eq_true rfl) hR.1, Nat.le_trans (Nat.le_of_ble_eq_true rfl) hR.2⟩ dX8_slope_7 rfl (Nat.le_of_ble_eq_true rfl) (fun r29 hw => ?_)
  refine g_if_ne (tgt := 20) C.1 dX8_slope_10 (by decide) (fun h30 => ?_) (fun h30 => ?_)
  · replace hw := hw.1 h30
    exact wkR_slope_20 C hsz hR hret _ _ _ _ _ _ hw
  · replace hw := hw.2 h30
    refine g_iload_n C.1 2 dX8_slope_13 rfl rfl ?_
    refine g_callSi (rC.s C) (cR_noPlace (g_l X) _ _ hw) kR_63 kR_64 kR_56 hdR_noPlace ⟨Nat.le_trans (Nat.le_of_ble_eq_true rfl) hR.1, Nat.le_trans (Nat.le_of_ble_eq_true rfl) hR.2⟩ dX8_slope_14 rfl (Nat.le_of_ble_eq_true rfl) (fun r31 hw => ?_)
    refine g_if_eq (tgt := 24) C.1 dX8_slope_17 (by decide) (fun h32 => ?_) (fun h32 => ?_)
    · replace hw := hw.1 h32
      refine g_iconst (v := 0) C.1 dX8_slope_24 (by decide) ?_
      exact wkR_slope_25 C hsz hR hret _ _ _ _ _ _ _ hw
    · replace hw := hw.2 h32
      exact wkR_slope_20 C hsz hR hret _ _ _ _ _ _ hw
theorem hdR_slope : yX8_slope.cls = RX8 ∧ yX8_slope.cls ≠ "java/lang/invoke/MethodHandle" ∧ yX8_slope.cls ≠ "java/lang/invoke/VarHandle" ∧ (parseMethodDescriptor yX8_slope.desc).map (fun d => d.parameters.length) = some 5 := by decide +kernel
theorem cR_slope (l : Launch) (G : rG) (s : RSt) (v1 : Int32) (v2 : Int32) (v3 : Int32) (v4 : Int32) (v5 : Int32) (post : Int32 → RSt → Prop) (hw : wpR_slope_0 post s v1 v2 v3 v4 v5) : rMi l yX8_slope cX8_slope 8 .int 2 45 G s [.int v1, .int v2, .int v3, .int v4, .int v5] post := rMi_of (by decide +kernel) rfl (Nat.le_of_ble_eq_true rfl) (fun X A H0 Q hl hR hsz C hret => wkR_slope_0 C hsz hR hret s v1 v2 v3 v4 v5 hw)
def wpR_unrule_0 (post : Int32 → RSt → Prop) (s : RSt) (v1 : Int32) : Prop := ∀ s1 : RSt, s1 = rsI s 0 0 → wpR_noSlope_0 (fun r3 s2 => wpR_throwsIf_0 (fun r5 s4 => (r5 = 0 → vp_in v1 10 ∧ vp_in v1 10 ∧ ∀ s7 : RSt, s7 = rsA s4 18 v1.toNatClampNeg (vp_nar .boolean 0) → narrow .boolean (.int (s4.2.1 18 v1.toNatClampNeg)) = .int (s4.2.1 18 v1.toNatClampNeg) ∧ post (s4.2.1 18 v1.toNatClampNeg) s7) ∧ (¬ r5 = 0 → post 0 s4)) s2 r3 1) s1 v1
theorem wkR_unrule_0 {X : gT} {G : rG} {A : Nat → Prop} {H0 : Heap} {Q : State → Prop} (C : rC X cX8_unrule 3 G A) (hsz : H0 = (g_s X).heap) (hR : 2 ≤ (g_R X).frames ∧ 46 ≤ (g_R X).locals) {post : Int32 → RSt → Prop} (hret : ∀ (r : Int32) (τ : RSt) (lv : List (Nat × Value)) (pc : Nat), post r τ → narrow .boolean (.int r) = .int r → decode cX8_unrule pc = .ok (.ireturn, 1) → gJ X (rWd G A H0) Q 0 0 τ lv pc [.int r]) (s : RSt) (v1 : Int32) (hw : wpR_unrule_0 post s v1) : gJ X (rWd G A H0) Q 0 0 s [(0, .ref (G.2.2.1 0)), (1, .int v1)] 0 [] := by
  refine g_aload_n C.1 0 dX8_unrule_0 rfl rfl ?_
  refine g_iconst (v := 0) C.1 dX8_unrule_1 (by decide) ?_
  refine r_p0 C dX8_unrule_2 ?_
  refine gJ.nm (fun s1 es1 => ?_)
  replace hw := hw s1 es1
  refine g_aload_n C.1 0 dX8_unrule_5 rfl rfl ?_
  refine g_aload_n C.1 0 dX8_unrule_6 rfl rfl ?_
  refine g_iload_n C.1 1 dX8_unrule_7 rfl rfl ?_
  refine r_calli C hsz (cR_noSlope (g_l X) G s1 _ _ hw) kR_145 kR_146 kR_147 kR_50 hdR_noSlope ⟨Nat.le_trans (Nat.le_of_ble_eq_true rfl) hR.1, Nat.le_trans (Nat.le_of_ble_eq_true rfl) hR.2⟩ dX8_unrule_8 rfl (Nat.le_of_ble_eq_true rfl) (fun r3 s2 hw => ?_)
  refine g_iconst (v := 1) C.1 dX8_unrule_11 (by decide) ?_
  refine r_calli C hsz (cR_throwsIf (g_l X) G s2 _ _ _ hw) kR_65 kR_66 kR_67 kR_42 hdR_throwsIf ⟨Nat.le_trans (Nat.le_of_ble_eq_true rfl) hR.1, Nat.le_trans (Nat.le_of_ble_eq_true rfl) hR.2⟩ dX8_unrule_12 rfl (Nat.le_of_ble_eq_true rfl) (fun r5 s4 hw => ?_)
  refine g_if_eq (tgt := 20) C.1 dX8_unrule_15 (by decide) (fun h6 => ?_) (fun h6 => ?_)
  · replace hw := hw.1 h6
    refine g_aload_n C.1 0 dX8_unrule_20 rfl rfl ?_
    refine r_g18 C dX8_unrule_21 ?_
    refine g_iload_n C.1 1 dX8_unrule_24 rfl rfl ?_
    refine r_ld18 C hw.1 dX8_unrule_25 ?_
    replace hw := hw.2
    refine g_istore_n (lv' := [(2, .int (s4.2.1 18 v1.toNatClampNeg)), (0, .ref (G.2.2.1 0)), (1, .int v1)]) C.1 dX8_unrule_26 rfl (by decide) rfl ?_
    refine g_aload_n C.1 1 dX8_unrule_27 rfl rfl ?_
    refine r_g18 C dX8_unrule_28 ?_
    refine g_iload_n C.1 2 dX8_unrule_31 rfl rfl ?_
    refine g_iconst (v := 0) C.1 dX8_unrule_32 (by decide) ?_
    refine r_st18 C hw.1 dX8_unrule_33 ?_
    replace hw := hw.2
    refine gJ.nm (fun s7 es7 => ?_)
    replace hw := hw s7 es7
    refine g_iload_n C.1 0 dX8_unrule_34 rfl rfl ?_
    exact hret _ _ _ _ hw.2 hw.1 dX8_unrule_35
  · replace hw := hw.2 h6
    refine g_iconst (v := 0) C.1 dX8_unrule_18 (by decide) ?_
    exact hret _ _ _ _ hw rfl dX8_unrule_19
theorem hdR_unrule : yX8_unrule.cls = RX8 ∧ yX8_unrule.cls ≠ "java/lang/invoke/MethodHandle" ∧ yX8_unrule.cls ≠ "java/lang/invoke/VarHandle" ∧ (parseMethodDescriptor yX8_unrule.desc).map (fun d => d.parameters.length) = some 1 := by decide +kernel
theorem cR_unrule (l : Launch) (G : rG) (s : RSt) (v1 : Int32) (post : Int32 → RSt → Prop) (hw : wpR_unrule_0 post s v1) : rMi l yX8_unrule cX8_unrule 3 .boolean 2 46 G s [.int v1] post := rMi_of (by decide +kernel) rfl (Nat.le_of_ble_eq_true rfl) (fun X A H0 Q hl hR hsz C hret => wkR_unrule_0 C hsz hR hret s v1 hw)
def wpR_fault_0 (post : Int32 → RSt → Prop) (s : RSt) (v1 : Int32) : Prop := ∀ s1 : RSt, s1 = rsI s 0 0 → (¬ v1 = 0 → (¬ v1 = 1 → post (-1) s1) ∧ (v1 = 1 → post (s1.1 20) s1)) ∧ (v1 = 0 → post (s1.1 19) s1)
theorem wkR_fault_0 {X : gT} {G : rG} {A : Nat → Prop} {H0 : Heap} {Q : State → Prop} (C : rC X cX8_fault 2 G A) (hsz : H0 = (g_s X).heap) (hR : 0 ≤ (g_R X).frames ∧ 0 ≤ (g_R X).locals) {post : Int32 → RSt → Prop} (hret : ∀ (r : Int32) (τ : RSt) (lv : List (Nat × Value)) (pc : Nat), post r τ → narrow .int (.int r) = .int r → decode cX8_fault pc = .ok (.ireturn, 1) → gJ X (rWd G A H0) Q 0 0 τ lv pc [.int r]) (s : RSt) (v1 : Int32) (hw : wpR_fault_0 post s v1) : gJ X (rWd G A H0) Q 0 0 s [(0, .ref (G.2.2.1 0)), (1, .int v1)] 0 [] := by
  refine g_aload_n C.1 0 dX8_fault_0 rfl rfl ?_
  refine g_iconst (v := 0) C.1 dX8_fault_1 (by decide) ?_
  refine r_p0 C dX8_fault_2 ?_
  refine gJ.nm (fun s1 es1 => ?_)
  replace hw := hw s1 es1
  refine g_iload_n C.1 1 dX8_fault_5 rfl rfl ?_
  refine g_if_ne (tgt := 16) C.1 dX8_fault_6 (by decide) (fun h2 => ?_) (fun h2 => ?_)
  · replace hw := hw.1 h2
    refine g_iload_n C.1 1 dX8_fault_16 rfl rfl ?_
    refine g_iconst (v := 1) C.1 dX8_fault_17 (by decide) ?_
    refine g_icmp_ne (tgt := 28) C.1 dX8_fault_18 (by decide) (fun h3 => ?_) (fun h3 => ?_)
    · replace hw := hw.1 h3
      refine g_iconst (v := (-1)) C.1 dX8_fault_28 (by decide) ?_
      exact hret _ _ _ _ hw rfl dX8_fault_29
    · replace hw := hw.2 h3
      refine g_aload_n C.1 0 dX8_fault_21 rfl rfl ?_
      refine r_g20 C dX8_fault_22 ?_
      refine g_goto (tgt := 29) C.1 dX8_fault_25 (by decide) ?_
      exact hret _ _ _ _ hw rfl dX8_fault_29
  · replace hw := hw.2 h2
    refine g_aload_n C.1 0 dX8_fault_9 rfl rfl ?_
    refine r_g19 C dX8_fault_10 ?_
    refine g_goto (tgt := 29) C.1 dX8_fault_13 (by decide) ?_
    exact hret _ _ _ _ hw rfl dX8_fault_29
theorem hdR_fault : yX8_fault.cls = RX8 ∧ yX8_fault.cls ≠ "java/lang/invoke/MethodHandle" ∧ yX8_fault.cls ≠ "java/lang/invoke/VarHandle" ∧ (parseMethodDescriptor yX8_fault.desc).map (fun d => d.parameters.length) = some 1 := by decide +kernel
theorem cR_fault (l : Launch) (G : rG) (s : RSt) (v1 : Int32) (post : Int32 → RSt → Prop) (hw : wpR_fault_0 post s v1) : rMi l yX8_fault cX8_fault 2 .int 0 0 G s [.int v1] post := rMi_of (by decide +kernel) rfl (Nat.le_of_ble_eq_true rfl) (fun X A H0 Q hl hR hsz C hret => wkR_fault_0 C hsz hR hret s v1 hw)
def wpR_open_0 (post : Int32 → RSt → Prop) (s : RSt) (v1 : Int32) : Prop := ∀ s1 : RSt, s1 = rsI s 0 0 → wpR_noSlope_0 (fun r3 s2 => wpR_throwsIf_0 (fun r5 s4 => (r5 = 0 → wpR_opens_0 (fun s7 => vp_in v1 10 ∧ narrow .boolean (.int (s7.2.1 40 v1.toNatClampNeg)) = .int (s7.2.1 40 v1.toNatClampNeg) ∧ post (s7.2.1 40 v1.toNatClampNeg) s7) s4) ∧ (¬ r5 = 0 → post 0 s4)) s2 r3 1) s1 v1
theorem wkR_open_0 {X : gT} {G : rG} {A : Nat → Prop} {H0 : Heap} {Q : State → Prop} (C : rC X cX8_open 2 G A) (hsz : H0 = (g_s X).heap) (hR : 4 ≤ (g_R X).frames ∧ 93 ≤ (g_R X).locals) {post : Int32 → RSt → Prop} (hret : ∀ (r : Int32) (τ : RSt) (lv : List (Nat × Value)) (pc : Nat), post r τ → narrow .boolean (.int r) = .int r → decode cX8_open pc = .ok (.ireturn, 1) → gJ X (rWd G A H0) Q 0 0 τ lv pc [.int r]) (s : RSt) (v1 : Int32) (hw : wpR_open_0 post s v1) : gJ X (rWd G A H0) Q 0 0 s [(0, .ref (G.2.2.1 0)), (1, .int v1)] 0 [] := by
  refine g_aload_n C.1 0 dX8_open_0 rfl rfl ?_
  refine g_iconst (v := 0) C.1 dX8_open_1 (by decide) ?_
  refine r_p0 C dX8_open_2 ?_
  refine gJ.nm (fun s1 es1 => ?_)
  replace hw := hw s1 es1
  refine g_aload_n C.1 0 dX8_open_5 rfl rfl ?_
  refine g_aload_n C.1 0 dX8_open_6 rfl rfl ?_
  refine g_iload_n C.1 1 dX8_open_7 rfl rfl ?_
  refine r_calli C hsz (cR_noSlope (g_l X) G s1 _ _ hw) kR_145 kR_146 kR_147 kR_50 hdR_noSlope ⟨Nat.le_trans (Nat.le_of_ble_eq_true rfl) hR.1, Nat.le_trans (Nat.le_of_ble_eq_true rfl) hR.2⟩ dX8_open_8 rfl (Nat.le_of_ble_eq_true rfl) (fun r3 s2 hw => ?_)
  refine g_iconst (v := 1) C.1 dX8_open_11 (by decide) ?_
  refine r_calli C hsz (cR_throwsIf (g_l X) G s2 _ _ _ hw) kR_65 kR_66 kR_67 kR_42 hdR_throwsIf ⟨Nat.le_trans (Nat.le_of_ble_eq_true rfl) hR.1, Nat.le_trans (Nat.le_of_ble_eq_true rfl) hR.2⟩ dX8_open_12 rfl (Nat.le_of_ble_eq_true rfl) (fun r5 s4 hw => ?_)
  refine g_if_eq (tgt := 20) C.1 dX8_open_15 (by decide) (fun h6 => ?_) (fun h6 => ?_)
  · replace hw := hw.1 h6
    refine g_aload_n C.1 0 dX8_open_20 rfl rfl ?_
    refine r_callv C hsz (cR_opens (g_l X) G s4 _ hw) kR_217 kR_218 kR_219 kR_216 hdR_opens ⟨Nat.le_trans (Nat.le_of_ble_eq_true rfl) hR.1, Nat.le_trans (Nat.le_of_ble_eq_true rfl) hR.2⟩ dX8_open_21 rfl (Nat.le_of_ble_eq_true rfl) (fun s7 hw => ?_)
    refine g_aload_n C.1 0 dX8_open_24 rfl rfl ?_
    refine r_g40 C dX8_open_25 ?_
    refine g_iload_n C.1 1 dX8_open_28 rfl rfl ?_
    refine r_ld40 C hw.1 dX8_open_29 ?_
    replace hw := hw.2
    exact hret _ _ _ _ hw.2 hw.1 dX8_open_30
  · replace hw := hw.2 h6
    refine g_iconst (v := 0) C.1 dX8_open_18 (by decide) ?_
    exact hret _ _ _ _ hw rfl dX8_open_19
theorem hdR_open : yX8_open.cls = RX8 ∧ yX8_open.cls ≠ "java/lang/invoke/MethodHandle" ∧ yX8_open.cls ≠ "java/lang/invoke/VarHandle" ∧ (parseMethodDescriptor yX8_open.desc).map (fun d => d.parameters.length) = some 1 := by decide +kernel
theorem cR_open (l : Launch) (G : rG) (s : RSt) (v1 : Int32) (post : Int32 → RSt → Prop) (hw : wpR_open_0 post s v1) : rMi l yX8_open cX8_open 2 .boolean 4 93 G s [.int v1] post := rMi_of (by decide +kernel) rfl (Nat.le_of_ble_eq_true rfl) (fun X A H0 Q hl hR hsz C hret => wkR_open_0 C hsz hR hret s v1 hw)
def wpR_runs_0 (post : Int32 → RSt → Prop) (s : RSt) (v1 : Int32) : Prop := ∀ s1 : RSt, s1 = rsI s 0 0 → wpR_noLift_0 (fun r3 s2 => wpR_throwsIf_0 (fun r5 s4 => (¬ r5 = 0 → post 0 s4) ∧ (r5 = 0 → wpR_isRunning_0 (fun r8 s7 => (r8 = 0 → post 0 s7) ∧ (¬ r8 = 0 → post 1 s7)) s4 v1)) s2 r3 1) s1 v1
theorem wkR_runs_0 {X : gT} {G : rG} {A : Nat → Prop} {H0 : Heap} {Q : State → Prop} (C : rC X cX8_runs 2 G A) (hsz : H0 = (g_s X).heap) (hR : 2 ≤ (g_R X).frames ∧ 46 ≤ (g_R X).locals) {post : Int32 → RSt → Prop} (hret : ∀ (r : Int32) (τ : RSt) (lv : List (Nat × Value)) (pc : Nat), post r τ → narrow .boolean (.int r) = .int r → decode cX8_runs pc = .ok (.ireturn, 1) → gJ X (rWd G A H0) Q 0 0 τ lv pc [.int r]) (s : RSt) (v1 : Int32) (hw : wpR_runs_0 post s v1) : gJ X (rWd G A H0) Q 0 0 s [(0, .ref (G.2.2.1 0)), (1, .int v1)] 0 [] := by
  refine g_aload_n C.1 0 dX8_runs_0 rfl rfl ?_
  refine g_iconst (v := 0) C.1 dX8_runs_1 (by decide) ?_
  refine r_p0 C dX8_runs_2 ?_
  refine gJ.nm (fun s1 es1 => ?_)
  replace hw := hw s1 es1
  refine g_aload_n C.1 0 dX8_runs_5 rfl rfl ?_
  refine g_aload_n C.1 0 dX8_runs_6 rfl rfl ?_
  refine g_iload_n C.1 1 dX8_runs_7 rfl rfl ?_
  refine r_calli C hsz (cR_noLift (g_l X) G s1 _ _ hw) kR_148 kR_149 kR_150 kR_48 hdR_noLift ⟨Nat.le_trans (Nat.le_of_ble_eq_true rfl) hR.1, Nat.le_trans (Nat.le_of_ble_eq_true rfl) hR.2⟩ dX8_runs_8 rfl (Nat.le_of_ble_eq_true rfl) (fun r3 s2 hw => ?_)
  refine g_iconst (v := 1) C.1 dX8_runs_11 (by decide) ?_
  refine r_calli C hsz (cR_throwsIf (g_l X) G s2 _ _ _ hw) kR_65 kR_66 kR_67 kR_42 hdR_throwsIf ⟨Nat.le_trans (Nat.le_of_ble_eq_true rfl) hR.1, Nat.le_trans (Nat.le_of_ble_eq_true rfl) hR.2⟩ dX8_runs_12 rfl (Nat.le_of_ble_eq_true rfl) (fun r5 s4 hw => ?_)
  refine g_if_ne (tgt := 30) C.1 dX8_runs_15 (by decide) (fun h6 => ?_) (fun h6 => ?_)
  · replace hw := hw.1 h6
    refine g_iconst (v := 0) C.1 dX8_runs_30 (by decide) ?_
    exact hret _ _ _ _ hw rfl dX8_runs_31
  · replace hw := hw.2 h6
    refine g_aload_n C.1 0 dX8_runs_18 rfl rfl ?_
    refine g_iload_n C.1 1 dX8_runs_19 rfl rfl ?_
    refine r_calli C hsz (cR_isRunning (g_l X) G s4 _ _ hw) kR_200 kR_201 kR_202 kR_72 hdR_isRunning ⟨Nat.le_trans (Nat.le_of_ble_eq_true rfl) hR.1, Nat.le_trans (Nat.le_of_ble_eq_true rfl) hR.2⟩ dX8_runs_20 rfl (Nat.le_of_ble_eq_true rfl) (fun r8 s7 hw => ?_)
    refine g_if_eq (tgt := 30) C.1 dX8_runs_23 (by decide) (fun h9 => ?_) (fun h9 => ?_)
    · replace hw := hw.1 h9
      refine g_iconst (v := 0) C.1 dX8_runs_30 (by decide) ?_
      exact hret _ _ _ _ hw rfl dX8_runs_31
    · replace hw := hw.2 h9
      refine g_iconst (v := 1) C.1 dX8_runs_26 (by decide) ?_
      refine g_goto (tgt := 31) C.1 dX8_runs_27 (by decide) ?_
      exact hret _ _ _ _ hw rfl dX8_runs_31
theorem hdR_runs : yX8_runs.cls = RX8 ∧ yX8_runs.cls ≠ "java/lang/invoke/MethodHandle" ∧ yX8_runs.cls ≠ "java/lang/invoke/VarHandle" ∧ (parseMethodDescriptor yX8_runs.desc).map (fun d => d.parameters.length) = some 1 := by decide +kernel
theorem cR_runs (l : Launch) (G : rG) (s : RSt) (v1 : Int32) (post : Int32 → RSt → Prop) (hw : wpR_runs_0 post s v1) : rMi l yX8_runs cX8_runs 2 .boolean 2 46 G s [.int v1] post := rMi_of (by decide +kernel) rfl (Nat.le_of_ble_eq_true rfl) (fun X A H0 Q hl hR hsz C hret => wkR_runs_0 C hsz hR hret s v1 hw)
def wpR_wind_23 (post : RSt → Prop) (s : RSt) (v1 : Int32) (w1 : Int32) : Prop := wpR_throwsIf_0 (fun r2 s1 => (r2 = 0 → ∀ s4 : RSt, s4 = rsI s1 27 v1 → post s4) ∧ (¬ r2 = 0 → post s1)) s w1 1
def wpR_wind_0 (post : RSt → Prop) (s : RSt) (v1 : Int32) : Prop := ∀ s5 : RSt, s5 = rsI s 0 0 → wpR_in_0 (fun r6 => (¬ r6 = 0 → wpR_wind_23 post s5 v1 0) ∧ (r6 = 0 → wpR_wind_23 post s5 v1 1)) v1.toInt64 0 300
theorem wkR_wind_23 {X : gT} {G : rG} {A : Nat → Prop} {H0 : Heap} {Q : State → Prop} (C : rC X cX8_wind 2 G A) (hsz : H0 = (g_s X).heap) (hR : 1 ≤ (g_R X).frames ∧ 25 ≤ (g_R X).locals) {post : RSt → Prop} (hret : ∀ (τ : RSt) (lv : List (Nat × Value)) (pc : Nat), post τ → decode cX8_wind pc = .ok (.return_, 1) → gJ X (rWd G A H0) Q 0 0 τ lv pc []) (s : RSt) (v1 : Int32) (w1 : Int32) (hw : wpR_wind_23 post s v1 w1) : gJ X (rWd G A H0) Q 0 0 s [(0, .ref (G.2.2.1 0)), (1, .int v1)] 23 [.int w1, .ref (G.2.2.1 0)] := by
  refine g_iconst (v := 1) C.1 dX8_wind_23 (by decide) ?_
  refine r_calli C hsz (cR_throwsIf (g_l X) G s _ _ _ hw) kR_65 kR_66 kR_67 kR_42 hdR_throwsIf ⟨Nat.le_trans (Nat.le_of_ble_eq_true rfl) hR.1, Nat.le_trans (Nat.le_of_ble_eq_true rfl) hR.2⟩ dX8_wind_24 rfl (Nat.le_of_ble_eq_true rfl) (fun r2 s1 hw => ?_)
  refine g_if_eq (tgt := 31) C.1 dX8_wind_27 (by decide) (fun h3 => ?_) (fun h3 => ?_)
  · replace hw := hw.1 h3
    refine g_aload_n C.1 0 dX8_wind_31 rfl rfl ?_
    refine g_iload_n C.1 1 dX8_wind_32 rfl rfl ?_
    refine r_p27 C dX8_wind_33 ?_
    refine gJ.nm (fun s4 es4 => ?_)
    replace hw := hw s4 es4
    exact hret _ _ _ hw dX8_wind_36
  · replace hw := hw.2 h3
    exact hret _ _ _ hw dX8_wind_30
theorem wkR_wind_0 {X : gT} {G : rG} {A : Nat → Prop} {H0 : Heap} {Q : State → Prop} (C : rC X cX8_wind 2 G A) (hsz : H0 = (g_s X).heap) (hR : 1 ≤ (g_R X).frames ∧ 25 ≤ (g_R X).locals) {post : RSt → Prop} (hret : ∀ (τ : RSt) (lv : List (Nat × Value)) (pc : Nat), post τ → decode cX8_wind pc = .ok (.return_, 1) → gJ X (rWd G A H0) Q 0 0 τ lv pc []) (s : RSt) (v1 : Int32) (hw : wpR_wind_0 post s v1) : gJ X (rWd G A H0) Q 0 0 s [(0, .ref (G.2.2.1 0)), (1, .int v1)] 0 [] := by
  refine g_aload_n C.1 0 dX8_wind_0 rfl rfl ?_
  refine g_iconst (v := 0) C.1 dX8_wind_1 (by decide) ?_
  refine r_p0 C dX8_wind_2 ?_
  refine gJ.nm (fun s5 es5 => ?_)
  replace hw := hw s5 es5
  refine g_aload_n C.1 0 dX8_wind_5 rfl rfl ?_
  refine g_iload_n C.1 1 dX8_wind_6 rfl rfl ?_
  refine g_i2l C.1 dX8_wind_7 ?_
  refine g_lconst (v := 0) C.1 dX8_wind_8 (by decide) ?_
  refine g_ldc2 (v := 300) C.1 C.2.1 (C.2.2.1 _ kR_222) dX8_wind_9 ?_
  refine g_callSi (rC.s C) (cR_in (g_l X) _ _ _ _ hw) kR_45 kR_46 kR_43 hdR_in ⟨Nat.le_trans (Nat.le_of_ble_eq_true rfl) hR.1, Nat.le_trans (Nat.le_of_ble_eq_true rfl) hR.2⟩ dX8_wind_12 rfl (Nat.le_of_ble_eq_true rfl) (fun r6 hw => ?_)
  refine g_if_ne (tgt := 22) C.1 dX8_wind_15 (by decide) (fun h7 => ?_) (fun h7 => ?_)
  · replace hw := hw.1 h7
    refine g_iconst (v := 0) C.1 dX8_wind_22 (by decide) ?_
    exact wkR_wind_23 C hsz hR hret _ _ _ hw
  · replace hw := hw.2 h7
    refine g_iconst (v := 1) C.1 dX8_wind_18 (by decide) ?_
    refine g_goto (tgt := 23) C.1 dX8_wind_19 (by decide) ?_
    exact wkR_wind_23 C hsz hR hret _ _ _ hw
theorem hdR_wind : yX8_wind.cls = RX8 ∧ yX8_wind.cls ≠ "java/lang/invoke/MethodHandle" ∧ yX8_wind.cls ≠ "java/lang/invoke/VarHandle" ∧ (parseMethodDescriptor yX8_wind.desc).map (fun d => d.parameters.length) = some 1 := by decide +kernel
theorem cR_wind (l : Launch) (G : rG) (s : RSt) (v1 : Int32) (post : RSt → Prop) (hw : wpR_wind_0 post s v1) : rMv l yX8_wind cX8_wind 2 1 25 G s [.int v1] post := rMv_of (by decide +kernel) rfl (Nat.le_of_ble_eq_true rfl) (fun X A H0 Q hl hR hsz C hret => wkR_wind_0 C hsz hR hret s v1 hw)
def wpR_stop_0 (post : Int32 → RSt → Prop) (s : RSt) (v1 : Int32) (v2 : Int32) : Prop := ∀ s1 : RSt, s1 = rsI s 0 0 → wpR_noLift_0 (fun r3 s2 => wpR_throwsIf_0 (fun r5 s4 => (r5 = 0 → vp_in v1 8 ∧ vp_in v1 8 ∧ ∀ s7 : RSt, s7 = rsA s4 4 v1.toNatClampNeg (vp_nar .boolean v2) → ((s4.2.1 4 v1.toNatClampNeg) = v2 → post 0 s7) ∧ (¬ (s4.2.1 4 v1.toNatClampNeg) = v2 → post 1 s7)) ∧ (¬ r5 = 0 → post 0 s4)) s2 r3 1) s1 v1
theorem wkR_stop_0 {X : gT} {G : rG} {A : Nat → Prop} {H0 : Heap} {Q : State → Prop} (C : rC X cX8_stop 4 G A) (hsz : H0 = (g_s X).heap) (hR : 2 ≤ (g_R X).frames ∧ 46 ≤ (g_R X).locals) {post : Int32 → RSt → Prop} (hret : ∀ (r : Int32) (τ : RSt) (lv : List (Nat × Value)) (pc : Nat), post r τ → narrow .boolean (.int r) = .int r → decode cX8_stop pc = .ok (.ireturn, 1) → gJ X (rWd G A H0) Q 0 0 τ lv pc [.int r]) (s : RSt) (v1 : Int32) (v2 : Int32) (hw : wpR_stop_0 post s v1 v2) : gJ X (rWd G A H0) Q 0 0 s [(0, .ref (G.2.2.1 0)), (1, .int v1), (2, .int v2)] 0 [] := by
  refine g_aload_n C.1 0 dX8_stop_0 rfl rfl ?_
  refine g_iconst (v := 0) C.1 dX8_stop_1 (by decide) ?_
  refine r_p0 C dX8_stop_2 ?_
  refine gJ.nm (fun s1 es1 => ?_)
  replace hw := hw s1 es1
  refine g_aload_n C.1 0 dX8_stop_5 rfl rfl ?_
  refine g_aload_n C.1 0 dX8_stop_6 rfl rfl ?_
  refine g_iload_n C.1 1 dX8_stop_7 rfl rfl ?_
  refine r_calli C hsz (cR_noLift (g_l X) G s1 _ _ hw) kR_148 kR_149 kR_150 kR_48 hdR_noLift ⟨Nat.le_trans (Nat.le_of_ble_eq_true rfl) hR.1, Nat.le_trans (Nat.le_of_ble_eq_true rfl) hR.2⟩ dX8_stop_8 rfl (Nat.le_of_ble_eq_true rfl) (fun r3 s2 hw => ?_)
  refine g_iconst (v := 1) C.1 dX8_stop_11 (by decide) ?_
  refine r_calli C hsz (cR_throwsIf (g_l X) G s2 _ _ _ hw) kR_65 kR_66 kR_67 kR_42 hdR_throwsIf ⟨Nat.le_trans (Nat.le_of_ble_eq_true rfl) hR.1, Nat.le_trans (Nat.le_of_ble_eq_true rfl) hR.2⟩ dX8_stop_12 rfl (Nat.le_of_ble_eq_true rfl) (fun r5 s4 hw => ?_)
  refine g_if_eq (tgt := 20) C.1 dX8_stop_15 (by decide) (fun h6 => ?_) (fun h6 => ?_)
  · replace hw := hw.1 h6
    refine g_aload_n C.1 0 dX8_stop_20 rfl rfl ?_
    refine r_g4 C dX8_stop_21 ?_
    refine g_iload_n C.1 1 dX8_stop_24 rfl rfl ?_
    refine r_ld4 C hw.1 dX8_stop_25 ?_
    replace hw := hw.2
    refine g_istore_n (lv' := [(3, .int (s4.2.1 4 v1.toNatClampNeg)), (0, .ref (G.2.2.1 0)), (1, .int v1), (2, .int v2)]) C.1 dX8_stop_26 rfl (by decide) rfl ?_
    refine g_aload_n C.1 1 dX8_stop_27 rfl rfl ?_
    refine r_g4 C dX8_stop_28 ?_
    refine g_iload_n C.1 2 dX8_stop_31 rfl rfl ?_
    refine g_iload_n C.1 3 dX8_stop_32 rfl rfl ?_
    refine r_st4 C hw.1 dX8_stop_33 ?_
    replace hw := hw.2
    refine gJ.nm (fun s7 es7 => ?_)
    replace hw := hw s7 es7
    refine g_iload_n C.1 0 dX8_stop_34 rfl rfl ?_
    refine g_iload_n C.1 3 dX8_stop_35 rfl rfl ?_
    refine g_icmp_eq (tgt := 43) C.1 dX8_stop_36 (by decide) (fun h8 => ?_) (fun h8 => ?_)
    · replace hw := hw.1 h8
      refine g_iconst (v := 0) C.1 dX8_stop_43 (by decide) ?_
      exact hret _ _ _ _ hw rfl dX8_stop_44
    · replace hw := hw.2 h8
      refine g_iconst (v := 1) C.1 dX8_stop_39 (by decide) ?_
      refine g_goto (tgt := 44) C.1 dX8_stop_40 (by decide) ?_
      exact hret _ _ _ _ hw rfl dX8_stop_44
  · replace hw := hw.2 h6
    refine g_iconst (v := 0) C.1 dX8_stop_18 (by decide) ?_
    exact hret _ _ _ _ hw rfl dX8_stop_19
theorem hdR_stop : yX8_stop.cls = RX8 ∧ yX8_stop.cls ≠ "java/lang/invoke/MethodHandle" ∧ yX8_stop.cls ≠ "java/lang/invoke/VarHandle" ∧ (parseMethodDescriptor yX8_stop.desc).map (fun d => d.parameters.length) = some 2 := by decide +kernel
theorem cR_stop (l : Launch) (G : rG) (s : RSt) (v1 : Int32) (v2 : Int32) (post : Int32 → RSt → Prop) (hw : wpR_stop_0 post s v1 v2) : rMi l yX8_stop cX8_stop 4 .boolean 2 46 G s [.int v1, .int v2] post := rMi_of (by decide +kernel) rfl (Nat.le_of_ble_eq_true rfl) (fun X A H0 Q hl hR hsz C hret => wkR_stop_0 C hsz hR hret s v1 v2 hw)
def wpR_group_69 (post : Int32 → RSt → Prop) (s : RSt) (v1 : Int32) (v2 : Int32) (v3 : Int32) (w1 : Int32) : Prop := wpR_throwsIf_0 (fun r2 s1 => (r2 = 0 → vp_in (7 * (s1.1 22)) 420 ∧ ∀ s4 : RSt, s4 = rsA s1 21 (7 * (s1.1 22)).toNatClampNeg v1 → vp_in ((7 * (s1.1 22)) + 1) 420 ∧ ∀ s5 : RSt, s5 = rsA s4 21 ((7 * (s1.1 22)) + 1).toNatClampNeg v2 → vp_in ((7 * (s1.1 22)) + 2) 420 ∧ ∀ s6 : RSt, s6 = rsA s5 21 ((7 * (s1.1 22)) + 2).toNatClampNeg 0 → vp_in ((7 * (s1.1 22)) + 3) 420 ∧ ∀ s7 : RSt, s7 = rsA s6 21 ((7 * (s1.1 22)) + 3).toNatClampNeg v3 → ∀ s8 : RSt, s8 = rsI s7 22 ((s7.1 22) + 1) → post ((s8.1 22) - 1) s8) ∧ (¬ r2 = 0 → post 0 s1)) s w1 3
def wpR_group_47 (post : Int32 → RSt → Prop) (s : RSt) (v1 : Int32) (v2 : Int32) (v3 : Int32) (w1 : Int32) : Prop := wpR_throwsIf_0 (fun r10 s9 => (¬ r10 = 0 → post 0 s9) ∧ (r10 = 0 → (¬ (s9.1 22) = 60 → wpR_group_69 post s9 v1 v2 v3 0) ∧ ((s9.1 22) = 60 → wpR_group_69 post s9 v1 v2 v3 1))) s w1 2
def wpR_group_42 (post : Int32 → RSt → Prop) (s : RSt) (v1 : Int32) (v2 : Int32) (v3 : Int32) : Prop := wpR_group_47 post s v1 v2 v3 1
def wpR_group_0 (post : Int32 → RSt → Prop) (s : RSt) (v1 : Int32) (v2 : Int32) (v3 : Int32) : Prop := ∀ s13 : RSt, s13 = rsI s 0 0 → wpR_noPlace_0 (fun r14 => wpR_throwsIf_0 (fun r16 s15 => (¬ r16 = 0 → post 0 s15) ∧ (r16 = 0 → wpR_in_0 (fun r18 => (r18 = 0 → wpR_group_42 post s15 v1 v2 v3) ∧ (¬ r18 = 0 → wpR_in_0 (fun r20 => (¬ r20 = 0 → wpR_group_47 post s15 v1 v2 v3 0) ∧ (r20 = 0 → wpR_group_42 post s15 v1 v2 v3)) v2.toInt64 0 9)) v1.toInt64 1 4)) s13 r14 1) v3
theorem wkR_group_69 {X : gT} {G : rG} {A : Nat → Prop} {H0 : Heap} {Q : State → Prop} (C : rC X cX8_group 5 G A) (hsz : H0 = (g_s X).heap) (hR : 2 ≤ (g_R X).frames ∧ 45 ≤ (g_R X).locals) {post : Int32 → RSt → Prop} (hret : ∀ (r : Int32) (τ : RSt) (lv : List (Nat × Value)) (pc : Nat), post r τ → narrow .int (.int r) = .int r → decode cX8_group pc = .ok (.ireturn, 1) → gJ X (rWd G A H0) Q 0 0 τ lv pc [.int r]) (s : RSt) (v1 : Int32) (v2 : Int32) (v3 : Int32) (w1 : Int32) (hw : wpR_group_69 post s v1 v2 v3 w1) : gJ X (rWd G A H0) Q 0 0 s [(0, .ref (G.2.2.1 0)), (1, .int v1), (2, .int v2), (3, .int v3)] 69 [.int w1, .ref (G.2.2.1 0)] := by
  refine g_iconst (v := 3) C.1 dX8_group_69 (by decide) ?_
  refine r_calli C hsz (cR_throwsIf (g_l X) G s _ _ _ hw) kR_65 kR_66 kR_67 kR_42 hdR_throwsIf ⟨Nat.le_trans (Nat.le_of_ble_eq_true rfl) hR.1, Nat.le_trans (Nat.le_of_ble_eq_true rfl) hR.2⟩ dX8_group_70 rfl (Nat.le_of_ble_eq_true rfl) (fun r2 s1 hw => ?_)
  refine g_if_eq (tgt := 78) C.1 dX8_group_73 (by decide) (fun h3 => ?_) (fun h3 => ?_)
  · replace hw := hw.1 h3
    refine g_bipush (v := 7) C.1 dX8_group_78 (by decide) ?_
    refine g_aload_n C.1 0 dX8_group_80 rfl rfl ?_
    refine r_g22 C dX8_group_81 ?_
    refine g_imul C.1 dX8_group_84 ?_
    refine g_istore (lv' := [(4, .int (7 * (s1.1 22))), (0, .ref (G.2.2.1 0)), (1, .int v1), (2, .int v2), (3, .int v3)]) C.1 dX8_group_85 (by decide) rfl ?_
    refine g_aload_n C.1 1 dX8_group_87 rfl rfl ?_
    refine r_g21 C dX8_group_88 ?_
    refine g_iload C.1 0 dX8_group_91 rfl ?_
    refine g_iload_n C.1 2 dX8_group_93 rfl rfl ?_
    refine r_st21 C hw.1 dX8_group_94 ?_
    replace hw := hw.2
    refine gJ.nm (fun s4 es4 => ?_)
    replace hw := hw s4 es4
    refine g_aload_n C.1 1 dX8_group_95 rfl rfl ?_
    refine r_g21 C dX8_group_96 ?_
    refine g_iload C.1 0 dX8_group_99 rfl ?_
    refine g_iconst (v := 1) C.1 dX8_group_101 (by decide) ?_
    refine g_iadd C.1 dX8_group_102 ?_
    refine g_iload_n C.1 3 dX8_group_103 rfl rfl ?_
    refine r_st21 C hw.1 dX8_group_104 ?_
    replace hw := hw.2
    refine gJ.nm (fun s5 es5 => ?_)
    replace hw := hw s5 es5
    refine g_aload_n C.1 1 dX8_group_105 rfl rfl ?_
    refine r_g21 C dX8_group_106 ?_
    refine g_iload C.1 0 dX8_group_109 rfl ?_
    refine g_iconst (v := 2) C.1 dX8_group_111 (by decide) ?_
    refine g_iadd C.1 dX8_group_112 ?_
    refine g_iconst (v := 0) C.1 dX8_group_113 (by decide) ?_
    refine r_st21 C hw.1 dX8_group_114 ?_
    replace hw := hw.2
    refine gJ.nm (fun s6 es6 => ?_)
    replace hw := hw s6 es6
    refine g_aload_n C.1 1 dX8_group_115 rfl rfl ?_
    refine r_g21 C dX8_group_116 ?_
    refine g_iload C.1 0 dX8_group_119 rfl ?_
    refine g_iconst (v := 3) C.1 dX8_group_121 (by decide) ?_
    refine g_iadd C.1 dX8_group_122 ?_
    refine g_iload_n C.1 4 dX8_group_123 rfl rfl ?_
    refine r_st21 C hw.1 dX8_group_124 ?_
    replace hw := hw.2
    refine gJ.nm (fun s7 es7 => ?_)
    replace hw := hw s7 es7
    refine g_aload_n C.1 1 dX8_group_125 rfl rfl ?_
    refine g_dup C.1 dX8_group_126 rfl ?_
    refine r_g22 C dX8_group_127 ?_
    refine g_iconst (v := 1) C.1 dX8_group_130 (by decide) ?_
    refine g_iadd C.1 dX8_group_131 ?_
    refine r_p22 C dX8_group_132 ?_
    refine gJ.nm (fun s8 es8 => ?_)
    replace hw := hw s8 es8
    refine g_aload_n C.1 1 dX8_group_135 rfl rfl ?_
    refine r_g22 C dX8_group_136 ?_
    refine g_iconst (v := 1) C.1 dX8_group_139 (by decide) ?_
    refine g_isub C.1 dX8_group_140 ?_
    exact hret _ _ _ _ hw rfl dX8_group_141
  · replace hw := hw.2 h3
    refine g_iconst (v := 0) C.1 dX8_group_76 (by decide) ?_
    exact hret _ _ _ _ hw rfl dX8_group_77
theorem wkR_group_47 {X : gT} {G : rG} {A : Nat → Prop} {H0 : Heap} {Q : State → Prop} (C : rC X cX8_group 5 G A) (hsz : H0 = (g_s X).heap) (hR : 2 ≤ (g_R X).frames ∧ 45 ≤ (g_R X).locals) {post : Int32 → RSt → Prop} (hret : ∀ (r : Int32) (τ : RSt) (lv : List (Nat × Value)) (pc : Nat), post r τ → narrow .int (.int r) = .int r → decode cX8_group pc = .ok (.ireturn, 1) → gJ X (rWd G A H0) Q 0 0 τ lv pc [.int r]) (s : RSt) (v1 : Int32) (v2 : Int32) (v3 : Int32) (w1 : Int32) (hw : wpR_group_47 post s v1 v2 v3 w1) : gJ X (rWd G A H0) Q 0 0 s [(0, .ref (G.2.2.1 0)), (1, .int v1), (2, .int v2), (3, .int v3)] 47 [.int w1, .ref (G.2.2.1 0)] := by
  refine g_iconst (v := 2) C.1 dX8_group_47 (by decide) ?_
  refine r_calli C hsz (cR_throwsIf (g_l X) G s _ _ _ hw) kR_65 kR_66 kR_67 kR_42 hdR_throwsIf ⟨Nat.le_trans (Nat.le_of_ble_eq_true rfl) hR.1, Nat.le_trans (Nat.le_of_ble_eq_true rfl) hR.2⟩ dX8_group_48 rfl (Nat.le_of_ble_eq_true rfl) (fun r10 s9 hw => ?_)
  refine g_if_ne (tgt := 76) C.1 dX8_group_51 (by decide) (fun h11 => ?_) (fun h11 => ?_)
  · replace hw := hw.1 h11
    refine g_iconst (v := 0) C.1 dX8_group_76 (by decide) ?_
    exact hret _ _ _ _ hw rfl dX8_group_77
  · replace hw := hw.2 h11
    refine g_aload_n C.1 0 dX8_group_54 rfl rfl ?_
    refine g_aload_n C.1 0 dX8_group_55 rfl rfl ?_
    refine r_g22 C dX8_group_56 ?_
    refine g_bipush (v := 60) C.1 dX8_group_59 (by decide) ?_
    refine g_icmp_ne (tgt := 68) C.1 dX8_group_61 (by decide) (fun h12 => ?_) (fun h12 => ?_)
    · replace hw := hw.1 h12
      refine g_iconst (v := 0) C.1 dX8_group_68 (by decide) ?_
      exact wkR_group_69 C hsz hR hret _ _ _ _ _ hw
    · replace hw := hw.2 h12
      refine g_iconst (v := 1) C.1 dX8_group_64 (by decide) ?_
      refine g_goto (tgt := 69) C.1 dX8_group_65 (by decide) ?_
      exact wkR_group_69 C hsz hR hret _ _ _ _ _ hw
theorem wkR_group_42 {X : gT} {G : rG} {A : Nat → Prop} {H0 : Heap} {Q : State → Prop} (C : rC X cX8_group 5 G A) (hsz : H0 = (g_s X).heap) (hR : 2 ≤ (g_R X).frames ∧ 45 ≤ (g_R X).locals) {post : Int32 → RSt → Prop} (hret : ∀ (r : Int32) (τ : RSt) (lv : List (Nat × Value)) (pc : Nat), post r τ → narrow .int (.int r) = .int r → decode cX8_group pc = .ok (.ireturn, 1) → gJ X (rWd G A H0) Q 0 0 τ lv pc [.int r]) (s : RSt) (v1 : Int32) (v2 : Int32) (v3 : Int32) (hw : wpR_group_42 post s v1 v2 v3) : gJ X (rWd G A H0) Q 0 0 s [(0, .ref (G.2.2.1 0)), (1, .int v1), (2, .int v2), (3, .int v3)] 42 [.ref (G.2.2.1 0)] := by
  refine g_iconst (v := 1) C.1 dX8_group_42 (by decide) ?_
  refine g_goto (tgt := 47) C.1 dX8_group_43 (by decide) ?_
  exact wkR_group_47 C hsz hR hret _ _ _ _ _ hw
theorem wkR_group_0 {X : gT} {G : rG} {A : Nat → Prop} {H0 : Heap} {Q : State → Prop} (C : rC X cX8_group 5 G A) (hsz : H0 = (g_s X).heap) (hR : 2 ≤ (g_R X).frames ∧ 45 ≤ (g_R X).locals) {post : Int32 → RSt → Prop} (hret : ∀ (r : Int32) (τ : RSt) (lv : List (Nat × Value)) (pc : Nat), post r τ → narrow .int (.int r) = .int r → decode cX8_group pc = .ok (.ireturn, 1) → gJ X (rWd G A H0) Q 0 0 τ lv pc [.int r]) (s : RSt) (v1 : Int32) (v2 : Int32) (v3 : Int32) (hw : wpR_group_0 post s v1 v2 v3) : gJ X (rWd G A H0) Q 0 0 s [(0, .ref (G.2.2.1 0)), (1, .int v1), (2, .int v2), (3, .int v3)] 0 [] := by
  refine g_aload_n C.1 0 dX8_group_0 rfl rfl ?_
  refine g_iconst (v := 0) C.1 dX8_group_1 (by decide) ?_
  refine r_p0 C dX8_group_2 ?_
  refine gJ.nm (fun s13 es13 => ?_)
  replace hw := hw s13 es13
  refine g_aload_n C.1 0 dX8_group_5 rfl rfl ?_
  refine g_iload_n C.1 3 dX8_group_6 rfl rfl ?_
  refine g_callSi (rC.s C) (cR_noPlace (g_l X) _ _ hw) kR_63 kR_64 kR_56 hdR_noPlace ⟨Nat.le_trans (Nat.le_of_ble_eq_true rfl) hR.1, Nat.le_trans (Nat.le_of_ble_eq_true rfl) hR.2⟩ dX8_group_7 rfl (Nat.le_of_ble_eq_true rfl) (fun r14 hw => ?_)
  refine g_iconst (v := 1) C.1 dX8_group_10 (by decide) ?_
  refine r_calli C hsz (cR_throwsIf (g_l X) G s13 _ _ _ hw) kR_65 kR_66 kR_67 kR_42 hdR_throwsIf ⟨Nat.le_trans (Nat.le_of_ble_eq_true rfl) hR.1, Nat.le_trans (Nat.le_of_ble_eq_true rfl) hR.2⟩ dX8_group_11 rfl (Nat.le_of_ble_eq_true rfl) (fun r16 s15 hw => ?_)
  refine g_if_ne (tgt := 76) C.1 dX8_group_14 (by decide) (fun h17 => ?_) (fun h17 => ?_)
  · replace hw := hw.1 h17
    refine g_iconst (v := 0) C.1 dX8_group_76 (by decide) ?_
    exact hret _ _ _ _ hw rfl dX8_group_77
  · replace hw := hw.2 h17
    refine g_aload_n C.1 0 dX8_group_17 rfl rfl ?_
    refine g_iload_n C.1 1 dX8_group_18 rfl rfl ?_
    refine g_i2l C.1 dX8_group_19 ?_
    refine g_lconst (v := 1) C.1 dX8_group_20 (by decide) ?_
    refine g_ldc2 (v := 4) C.1 C.2.1 (C.2.2.1 _ kR_69) dX8_group_21 ?_
    refine g_callSi (rC.s C) (cR_in (g_l X) _ _ _ _ hw) kR_45 kR_46 kR_43 hdR_in ⟨Nat.le_trans (Nat.le_of_ble_eq_true rfl) hR.1, Nat.le_trans (Nat.le_of_ble_eq_true rfl) hR.2⟩ dX8_group_24 rfl (Nat.le_of_ble_eq_true rfl) (fun r18 hw => ?_)
    refine g_if_eq (tgt := 42) C.1 dX8_group_27 (by decide) (fun h19 => ?_) (fun h19 => ?_)
    · replace hw := hw.1 h19
      exact wkR_group_42 C hsz hR hret _ _ _ _ hw
    · replace hw := hw.2 h19
      refine g_iload_n C.1 2 dX8_group_30 rfl rfl ?_
      refine g_i2l C.1 dX8_group_31 ?_
      refine g_lconst (v := 0) C.1 dX8_group_32 (by decide) ?_
      refine g_ldc2 (v := 9) C.1 C.2.1 (C.2.2.1 _ kR_55) dX8_group_33 ?_
      refine g_callSi (rC.s C) (cR_in (g_l X) _ _ _ _ hw) kR_45 kR_46 kR_43 hdR_in ⟨Nat.le_trans (Nat.le_of_ble_eq_true rfl) hR.1, Nat.le_trans (Nat.le_of_ble_eq_true rfl) hR.2⟩ dX8_group_36 rfl (Nat.le_of_ble_eq_true rfl) (fun r20 hw => ?_)
      refine g_if_ne (tgt := 46) C.1 dX8_group_39 (by decide) (fun h21 => ?_) (fun h21 => ?_)
      · replace hw := hw.1 h21
        refine g_iconst (v := 0) C.1 dX8_group_46 (by decide) ?_
        exact wkR_group_47 C hsz hR hret _ _ _ _ _ hw
      · replace hw := hw.2 h21
        exact wkR_group_42 C hsz hR hret _ _ _ _ hw
theorem hdR_group : yX8_group.cls = RX8 ∧ yX8_group.cls ≠ "java/lang/invoke/MethodHandle" ∧ yX8_group.cls ≠ "java/lang/invoke/VarHandle" ∧ (parseMethodDescriptor yX8_group.desc).map (fun d => d.parameters.length) = some 3 := by decide +kernel
theorem cR_group (l : Launch) (G : rG) (s : RSt) (v1 : Int32) (v2 : Int32) (v3 : Int32) (post : Int32 → RSt → Prop) (hw : wpR_group_0 post s v1 v2 v3) : rMi l yX8_group cX8_group 5 .int 2 45 G s [.int v1, .int v2, .int v3] post := rMi_of (by decide +kernel) rfl (Nat.le_of_ble_eq_true rfl) (fun X A H0 Q hl hR hsz C hret => wkR_group_0 C hsz hR hret s v1 v2 v3 hw)
def wpR_step_34_F (post : Int32 → RSt → Prop) (K34 : RSt → Int32 → Int32 → Prop) (s : RSt) (v1 : Int32) (v2 : Int32) : Prop := (v1 ≤ v2 → post (s.1 28) s) ∧ (¬ v1 ≤ v2 → wpR_passes_0 (fun s2 => K34 s2 v1 (v2 + 1)) s)
def wpR_step_34 (post : Int32 → RSt → Prop) (s : RSt) (v1 : Int32) (v2 : Int32) : Prop := gLP (fun (K : RSt × Int32 × Int32 → Prop) (x : RSt × Int32 × Int32) => wpR_step_34_F post (fun s v1 v2 => K (s, v1, v2)) x.1 x.2.1 x.2.2) (s, v1, v2)
def wpR_step_23 (post : Int32 → RSt → Prop) (s : RSt) (v1 : Int32) (w1 : Int32) : Prop := wpR_throwsIf_0 (fun r4 s3 => (r4 = 0 → wpR_step_34 post s3 v1 0) ∧ (¬ r4 = 0 → post 0 s3)) s w1 1
def wpR_step_0 (post : Int32 → RSt → Prop) (s : RSt) (v1 : Int32) : Prop := ∀ s6 : RSt, s6 = rsI s 0 0 → wpR_in_0 (fun r7 => (¬ r7 = 0 → wpR_step_23 post s6 v1 0) ∧ (r7 = 0 → wpR_step_23 post s6 v1 1)) v1.toInt64 0 600
theorem wkR_step_34_F {X : gT} {G : rG} {A : Nat → Prop} {H0 : Heap} {Q : State → Prop} (C : rC X cX8_step 3 G A) (hsz : H0 = (g_s X).heap) (hR : 5 ≤ (g_R X).frames ∧ 115 ≤ (g_R X).locals) {post : Int32 → RSt → Prop} (hret : ∀ (r : Int32) (τ : RSt) (lv : List (Nat × Value)) (pc : Nat), post r τ → narrow .int (.int r) = .int r → decode cX8_step pc = .ok (.ireturn, 1) → gJ X (rWd G A H0) Q 0 0 τ lv pc [.int r]) {K34 : RSt → Int32 → Int32 → Prop} (hK34 : ∀ (s : RSt) (v1 : Int32) (v2 : Int32), K34 s v1 v2 → gJ X (rWd G A H0) Q 0 0 s [(0, .ref (G.2.2.1 0)), (1, .int v1), (2, .int v2)] 34 []) (s : RSt) (v1 : Int32) (v2 : Int32) (hw : wpR_step_34_F post K34 s v1 v2) : gJ X (rWd G A H0) Q 0 0 s [(0, .ref (G.2.2.1 0)), (1, .int v1), (2, .int v2)] 34 [] := by
  refine g_iload_n C.1 2 dX8_step_34 rfl rfl ?_
  refine g_iload_n C.1 1 dX8_step_35 rfl rfl ?_
  refine g_icmp_ge (tgt := 49) C.1 dX8_step_36 (by decide) (fun h1 => ?_) (fun h1 => ?_)
  · replace hw := hw.1 h1
    refine g_aload_n C.1 0 dX8_step_49 rfl rfl ?_
    refine r_g28 C dX8_step_50 ?_
    exact hret _ _ _ _ hw rfl dX8_step_53
  · replace hw := hw.2 h1
    refine g_aload_n C.1 0 dX8_step_39 rfl rfl ?_
    refine r_callv C hsz (cR_passes (g_l X) G s _ hw) kR_244 kR_245 kR_246 kR_242 hdR_passes ⟨Nat.le_trans (Nat.le_of_ble_eq_true rfl) hR.1, Nat.le_trans (Nat.le_of_ble_eq_true rfl) hR.2⟩ dX8_step_40 rfl (Nat.le_of_ble_eq_true rfl) (fun s2 hw => ?_)
    refine g_iinc (v := v2 + 1) (lv' := [(2, .int (v2 + 1)), (0, .ref (G.2.2.1 0)), (1, .int v1)]) C.1 2 dX8_step_43 rfl rfl (by decide) rfl ?_
    refine g_goto (tgt := 34) C.1 dX8_step_46 (by decide) ?_
    refine gJ.sub [1, 2, 0] rfl ?_
    exact hK34 _ _ _ hw
theorem wkR_step_34 {X : gT} {G : rG} {A : Nat → Prop} {H0 : Heap} {Q : State → Prop} (C : rC X cX8_step 3 G A) (hsz : H0 = (g_s X).heap) (hR : 5 ≤ (g_R X).frames ∧ 115 ≤ (g_R X).locals) {post : Int32 → RSt → Prop} (hret : ∀ (r : Int32) (τ : RSt) (lv : List (Nat × Value)) (pc : Nat), post r τ → narrow .int (.int r) = .int r → decode cX8_step pc = .ok (.ireturn, 1) → gJ X (rWd G A H0) Q 0 0 τ lv pc [.int r]) (s : RSt) (v1 : Int32) (v2 : Int32) (hw : wpR_step_34 post s v1 v2) : gJ X (rWd G A H0) Q 0 0 s [(0, .ref (G.2.2.1 0)), (1, .int v1), (2, .int v2)] 34 [] := 
  hw (fun (x : RSt × Int32 × Int32) => (fun s v1 v2 => gJ X (rWd G A H0) Q 0 0 s [(0, .ref (G.2.2.1 0)), (1, .int v1), (2, .int v2)] 34 []) x.1 x.2.1 x.2.2) (fun x hx => wkR_step_34_F C hsz hR hret (K34 := (fun s v1 v2 => gJ X (rWd G A H0) Q 0 0 s [(0, .ref (G.2.2.1 0)), (1, .int v1), (2, .int v2)] 34 [])) (fun _ _ _ h => h) x.1 x.2.1 x.2.2 hx)
theorem wkR_step_23 {X : gT} {G : rG} {A : Nat → Prop} {H0 : Heap} {Q : State → Prop} (C : rC X cX8_step 3 G A) (hsz : H0 = (g_s X).heap) (hR : 5 ≤ (g_R X).frames ∧ 115 ≤ (g_R X).locals) {post : Int32 → RSt → Prop} (hret : ∀ (r : Int32) (τ : RSt) (lv : List (Nat × Value)) (pc : Nat), post r τ → narrow .int (.int r) = .int r → decode cX8_step pc = .ok (.ireturn, 1) → gJ X (rWd G A H0) Q 0 0 τ lv pc [.int r]) (s : RSt) (v1 : Int32) (w1 : Int32) (hw : wpR_step_23 post s v1 w1) : gJ X (rWd G A H0) Q 0 0 s [(0, .ref (G.2.2.1 0)), (1, .int v1)] 23 [.int w1, .ref (G.2.2.1 0)] := by
  refine g_iconst (v := 1) C.1 dX8_step_23 (by decide) ?_
  refine r_calli C hsz (cR_throwsIf (g_l X) G s _ _ _ hw) kR_65 kR_66 kR_67 kR_42 hdR_throwsIf ⟨Nat.le_trans (Nat.le_of_ble_eq_true rfl) hR.1, Nat.le_trans (Nat.le_of_ble_eq_true rfl) hR.2⟩ dX8_step_24 rfl (Nat.le_of_ble_eq_true rfl) (fun r4 s3 hw => ?_)
  refine g_if_eq (tgt := 32) C.1 dX8_step_27 (by decide) (fun h5 => ?_) (fun h5 => ?_)
  · replace hw := hw.1 h5
    refine g_iconst (v := 0) C.1 dX8_step_32 (by decide) ?_
    refine g_istore_n (lv' := [(2, .int 0), (0, .ref (G.2.2.1 0)), (1, .int v1)]) C.1 dX8_step_33 rfl (by decide) rfl ?_
    refine gJ.sub [1, 2, 0] rfl ?_
    exact wkR_step_34 C hsz hR hret _ _ _ hw
  · replace hw := hw.2 h5
    refine g_iconst (v := 0) C.1 dX8_step_30 (by decide) ?_
    exact hret _ _ _ _ hw rfl dX8_step_31
theorem wkR_step_0 {X : gT} {G : rG} {A : Nat → Prop} {H0 : Heap} {Q : State → Prop} (C : rC X cX8_step 3 G A) (hsz : H0 = (g_s X).heap) (hR : 5 ≤ (g_R X).frames ∧ 115 ≤ (g_R X).locals) {post : Int32 → RSt → Prop} (hret : ∀ (r : Int32) (τ : RSt) (lv : List (Nat × Value)) (pc : Nat), post r τ → narrow .int (.int r) = .int r → decode cX8_step pc = .ok (.ireturn, 1) → gJ X (rWd G A H0) Q 0 0 τ lv pc [.int r]) (s : RSt) (v1 : Int32) (hw : wpR_step_0 post s v1) : gJ X (rWd G A H0) Q 0 0 s [(0, .ref (G.2.2.1 0)), (1, .int v1)] 0 [] := by
  refine g_aload_n C.1 0 dX8_step_0 rfl rfl ?_
  refine g_iconst (v := 0) C.1 dX8_step_1 (by decide) ?_
  refine r_p0 C dX8_step_2 ?_
  refine gJ.nm (fun s6 es6 => ?_)
  replace hw := hw s6 es6
  refine g_aload_n C.1 0 dX8_step_5 rfl rfl ?_
  refine g_iload_n C.1 1 dX8_step_6 rfl rfl ?_
  refine g_i2l C.1 dX8_step_7 ?_
  refine g_lconst (v := 0) C.1 dX8_step_8 (by decide) ?_
  refine g_ldc2 (v := 600) C.1 C.2.1 (C.2.2.1 _ kR_243) dX8_step_9 ?_
  refine g_callSi (rC.s C) (cR_in (g_l X) _ _ _ _ hw) kR_45 kR_46 kR_43 hdR_in ⟨Nat.le_trans (Nat.le_of_ble_eq_true rfl) hR.1, Nat.le_trans (Nat.le_of_ble_eq_true rfl) hR.2⟩ dX8_step_12 rfl (Nat.le_of_ble_eq_true rfl) (fun r7 hw => ?_)
  refine g_if_ne (tgt := 22) C.1 dX8_step_15 (by decide) (fun h8 => ?_) (fun h8 => ?_)
  · replace hw := hw.1 h8
    refine g_iconst (v := 0) C.1 dX8_step_22 (by decide) ?_
    exact wkR_step_23 C hsz hR hret _ _ _ hw
  · replace hw := hw.2 h8
    refine g_iconst (v := 1) C.1 dX8_step_18 (by decide) ?_
    refine g_goto (tgt := 23) C.1 dX8_step_19 (by decide) ?_
    exact wkR_step_23 C hsz hR hret _ _ _ hw
theorem hdR_step : yX8_step.cls = RX8 ∧ yX8_step.cls ≠ "java/lang/invoke/MethodHandle" ∧ yX8_step.cls ≠ "java/lang/invoke/VarHandle" ∧ (parseMethodDescriptor yX8_step.desc).map (fun d => d.parameters.length) = some 1 := by decide +kernel
theorem cR_step (l : Launch) (G : rG) (s : RSt) (v1 : Int32) (post : Int32 → RSt → Prop) (hw : wpR_step_0 post s v1) : rMi l yX8_step cX8_step 3 .int 5 115 G s [.int v1] post := rMi_of (by decide +kernel) rfl (Nat.le_of_ble_eq_true rfl) (fun X A H0 Q hl hR hsz C hret => wkR_step_0 C hsz hR hret s v1 hw)
