def wpR_price_38 (post : RSt → Prop) (s : RSt) (v1 : Int32) (v2 : Int32) (w1 : Int32) : Prop := wpR_throwsIf_0 (fun r2 s1 => (r2 = 0 → vp_in v1 40 ∧ ∀ s4 : RSt, s4 = rsA s1 13 v1.toNatClampNeg v2 → post s4) ∧ (¬ r2 = 0 → post s1)) s w1 2
def wpR_price_0 (post : RSt → Prop) (s : RSt) (v1 : Int32) (v2 : Int32) : Prop := ∀ s5 : RSt, s5 = rsI s 0 0 → wpR_noCell_0 (fun r7 s6 => wpR_throwsIf_0 (fun r9 s8 => (¬ r9 = 0 → post s8) ∧ (r9 = 0 → wpR_in_0 (fun r11 => (¬ r11 = 0 → wpR_price_38 post s8 v1 v2 0) ∧ (r11 = 0 → wpR_price_38 post s8 v1 v2 1)) v2.toInt64 (-10000) 10000)) s6 r7 1) s5 v1
theorem wkR_price_38 {X : gT} {G : rG} {A : Nat → Prop} {H0 : Heap} {Q : State → Prop} (C : rC X cX8_price 3 G A) (hsz : H0 = (g_s X).heap) (hR : 2 ≤ (g_R X).frames ∧ 46 ≤ (g_R X).locals) {post : RSt → Prop} (hret : ∀ (τ : RSt) (lv : List (Nat × Value)) (pc : Nat), post τ → decode cX8_price pc = .ok (.return_, 1) → gJ X (rWd G A H0) Q 0 0 τ lv pc []) (s : RSt) (v1 : Int32) (v2 : Int32) (w1 : Int32) (hw : wpR_price_38 post s v1 v2 w1) : gJ X (rWd G A H0) Q 0 0 s [(0, .ref (G.2.2.1 0)), (1, .int v1), (2, .int v2)] 38 [.int w1, .ref (G.2.2.1 0)] := by
  refine g_iconst (v := 2) C.1 dX8_price_38 (by decide) ?_
  refine r_calli C hsz (cR_throwsIf (g_l X) G s _ _ _ hw) kR_65 kR_66 kR_67 kR_42 hdR_throwsIf ⟨Nat.le_trans (Nat.le_of_ble_eq_true rfl) hR.1, Nat.le_trans (Nat.le_of_ble_eq_true rfl) hR.2⟩ dX8_price_39 rfl (Nat.le_of_ble_eq_true rfl) (fun r2 s1 hw => ?_)
  refine g_if_eq (tgt := 46) C.1 dX8_price_42 (by decide) (fun h3 => ?_) (fun h3 => ?_)
  · replace hw := hw.1 h3
    refine g_aload_n C.1 0 dX8_price_46 rfl rfl ?_
    refine r_g13 C dX8_price_47 ?_
    refine g_iload_n C.1 1 dX8_price_50 rfl rfl ?_
    refine g_iload_n C.1 2 dX8_price_51 rfl rfl ?_
    refine r_st13 C hw.1 dX8_price_52 ?_
    replace hw := hw.2
    refine gJ.nm (fun s4 es4 => ?_)
    replace hw := hw s4 es4
    exact hret _ _ _ hw dX8_price_53
  · replace hw := hw.2 h3
    exact hret _ _ _ hw dX8_price_45
theorem wkR_price_0 {X : gT} {G : rG} {A : Nat → Prop} {H0 : Heap} {Q : State → Prop} (C : rC X cX8_price 3 G A) (hsz : H0 = (g_s X).heap) (hR : 2 ≤ (g_R X).frames ∧ 46 ≤ (g_R X).locals) {post : RSt → Prop} (hret : ∀ (τ : RSt) (lv : List (Nat × Value)) (pc : Nat), post τ → decode cX8_price pc = .ok (.return_, 1) → gJ X (rWd G A H0) Q 0 0 τ lv pc []) (s : RSt) (v1 : Int32) (v2 : Int32) (hw : wpR_price_0 post s v1 v2) : gJ X (rWd G A H0) Q 0 0 s [(0, .ref (G.2.2.1 0)), (1, .int v1), (2, .int v2)] 0 [] := by
  refine g_aload_n C.1 0 dX8_price_0 rfl rfl ?_
  refine g_iconst (v := 0) C.1 dX8_price_1 (by decide) ?_
  refine r_p0 C dX8_price_2 ?_
  refine gJ.nm (fun s5 es5 => ?_)
  replace hw := hw s5 es5
  refine g_aload_n C.1 0 dX8_price_5 rfl rfl ?_
  refine g_aload_n C.1 0 dX8_price_6 rfl rfl ?_
  refine g_iload_n C.1 1 dX8_price_7 rfl rfl ?_
  refine r_calli C hsz (cR_noCell (g_l X) G s5 _ _ hw) kR_255 kR_256 kR_257 kR_52 hdR_noCell ⟨Nat.le_trans (Nat.le_of_ble_eq_true rfl) hR.1, Nat.le_trans (Nat.le_of_ble_eq_true rfl) hR.2⟩ dX8_price_8 rfl (Nat.le_of_ble_eq_true rfl) (fun r7 s6 hw => ?_)
  refine g_iconst (v := 1) C.1 dX8_price_11 (by decide) ?_
  refine r_calli C hsz (cR_throwsIf (g_l X) G s6 _ _ _ hw) kR_65 kR_66 kR_67 kR_42 hdR_throwsIf ⟨Nat.le_trans (Nat.le_of_ble_eq_true rfl) hR.1, Nat.le_trans (Nat.le_of_ble_eq_true rfl) hR.2⟩ dX8_price_12 rfl (Nat.le_of_ble_eq_true rfl) (fun r9 s8 hw => ?_)
  refine g_if_ne (tgt := 45) C.1 dX8_price_15 (by decide) (fun h10 => ?_) (fun h10 => ?_)
  · replace hw := hw.1 h10
    exact hret _ _ _ hw dX8_price_45
  · replace hw := hw.2 h10
    refine g_aload_n C.1 0 dX8_price_18 rfl rfl ?_
    refine g_iload_n C.1 2 dX8_price_19 rfl rfl ?_
    refine g_i2l C.1 dX8_price_20 ?_
    refine g_ldc2 (v := (-10000)) C.1 C.2.1 (C.2.2.1 _ kR_286) dX8_price_21 ?_
    refine g_ldc2 (v := 10000) C.1 C.2.1 (C.2.2.1 _ kR_287) dX8_price_24 ?_
    refine g_callSi (rC.s C) (cR_in (g_l X) _ _ _ _ hw) kR_45 kR_46 kR_43 hdR_in ⟨Nat.le_trans (Nat.le_of_ble_eq_true rfl) hR.1, Nat.le_trans (Nat.le_of_ble_eq_true rfl) hR.2⟩ dX8_price_27 rfl (Nat.le_of_ble_eq_true rfl) (fun r11 hw => ?_)
    refine g_if_ne (tgt := 37) C.1 dX8_price_30 (by decide) (fun h12 => ?_) (fun h12 => ?_)
    · replace hw := hw.1 h12
      refine g_iconst (v := 0) C.1 dX8_price_37 (by decide) ?_
      exact wkR_price_38 C hsz hR hret _ _ _ _ hw
    · replace hw := hw.2 h12
      refine g_iconst (v := 1) C.1 dX8_price_33 (by decide) ?_
      refine g_goto (tgt := 38) C.1 dX8_price_34 (by decide) ?_
      exact wkR_price_38 C hsz hR hret _ _ _ _ hw
theorem hdR_price : yX8_price.cls = RX8 ∧ yX8_price.cls ≠ "java/lang/invoke/MethodHandle" ∧ yX8_price.cls ≠ "java/lang/invoke/VarHandle" ∧ (parseMethodDescriptor yX8_price.desc).map (fun d => d.parameters.length) = some 2 := by decide +kernel
theorem cR_price (l : Launch) (G : rG) (s : RSt) (v1 : Int32) (v2 : Int32) (post : RSt → Prop) (hw : wpR_price_0 post s v1 v2) : rMv l yX8_price cX8_price 3 2 46 G s [.int v1, .int v2] post := rMv_of (by decide +kernel) rfl (Nat.le_of_ble_eq_true rfl) (fun X A H0 Q hl hR hsz C hret => wkR_price_0 C hsz hR hret s v1 v2 hw)
def wpR_judge_151 (post : Int64 → RSt → Prop) (K92 : RSt → Int64 → Int32 → Prop) (s : RSt) (v4 : Int32) (w0 : Int64) (w1 : Int64) : Prop := K92 s (w0 - w1) (v4 + 1)
def wpR_judge_136 (post : Int64 → RSt → Prop) (K92 : RSt → Int64 → Int32 → Prop) (s : RSt) (v4 : Int32) (v5 : Int64) (w0 : Int64) : Prop := vp_in v4 40 ∧ wpR_judge_151 post K92 s v4 w0 (v5 * ((s.2.1 13 v4.toNatClampNeg).toInt64))
def wpR_judge_92_F (post : Int64 → RSt → Prop) (K92 : RSt → Int64 → Int32 → Prop) (s : RSt) (v2 : Int64) (v4 : Int32) : Prop := ((s.1 14) ≤ v4 → post v2 s) ∧ (¬ (s.1 14) ≤ v4 → wpR_depth_0 (fun r3 s2 => vp_in v4 40 ∧ ((lg_cmp ((r3 - (s2.2.1 12 v4.toNatClampNeg)).toInt64) 0) < 0 → wpR_judge_136 post K92 s2 v4 ((r3 - (s2.2.1 12 v4.toNatClampNeg)).toInt64) v2) ∧ (¬ (lg_cmp ((r3 - (s2.2.1 12 v4.toNatClampNeg)).toInt64) 0) < 0 → vp_in v4 40 ∧ ((s2.2.1 13 v4.toNatClampNeg) ≤ 0 → wpR_judge_151 post K92 s2 v4 v2 0) ∧ (¬ (s2.2.1 13 v4.toNatClampNeg) ≤ 0 → wpR_judge_136 post K92 s2 v4 ((r3 - (s2.2.1 12 v4.toNatClampNeg)).toInt64) v2))) s v4)
def wpR_judge_92 (post : Int64 → RSt → Prop) (s : RSt) (v2 : Int64) (v4 : Int32) : Prop := gLP (fun (K : RSt × Int64 × Int32 → Prop) (x : RSt × Int64 × Int32) => wpR_judge_92_F post (fun s v2 v4 => K (s, v2, v4)) x.1 x.2.1 x.2.2) (s, v2, v4)
def wpR_judge_78 (post : Int64 → RSt → Prop) (s : RSt) (w1 : Int32) : Prop := wpR_throwsIf_0 (fun r7 s6 => (r7 = 0 → wpR_judge_92 post s6 0 0) ∧ (¬ r7 = 0 → post 0 s6)) s w1 1
def wpR_judge_61 (post : Int64 → RSt → Prop) (K9 : RSt → Int32 → Int32 → Prop) (s : RSt) (v2 : Int32) (w0 : Int32) : Prop := K9 s w0 (v2 + 1)
def wpR_judge_60 (post : Int64 → RSt → Prop) (K9 : RSt → Int32 → Int32 → Prop) (s : RSt) (v2 : Int32) : Prop := wpR_judge_61 post K9 s v2 0
def wpR_judge_9_F (post : Int64 → RSt → Prop) (K9 : RSt → Int32 → Int32 → Prop) (s : RSt) (v1 : Int32) (v2 : Int32) : Prop := ((s.1 26) ≤ v2 → (¬ v1 = 0 → wpR_judge_78 post s 0) ∧ (v1 = 0 → wpR_judge_78 post s 1)) ∧ (¬ (s.1 26) ≤ v2 → (v1 = 0 → wpR_judge_60 post K9 s v2) ∧ (¬ v1 = 0 → vp_in v2 80 ∧ vp_in (s.2.1 23 v2.toNatClampNeg) 40 ∧ vp_in v2 80 ∧ vp_in (s.2.1 24 v2.toNatClampNeg) 40 ∧ ∀ x12 : Int32, x12 = (if 0 ≤ ((s.2.1 13 (s.2.1 23 v2.toNatClampNeg).toNatClampNeg) - (s.2.1 13 (s.2.1 24 v2.toNatClampNeg).toNatClampNeg)) then ((s.2.1 13 (s.2.1 23 v2.toNatClampNeg).toNatClampNeg) - (s.2.1 13 (s.2.1 24 v2.toNatClampNeg).toNatClampNeg)) else 0 - ((s.2.1 13 (s.2.1 23 v2.toNatClampNeg).toNatClampNeg) - (s.2.1 13 (s.2.1 24 v2.toNatClampNeg).toNatClampNeg))) → vp_in v2 80 ∧ ((s.2.1 25 v2.toNatClampNeg) < x12 → wpR_judge_60 post K9 s v2) ∧ (¬ (s.2.1 25 v2.toNatClampNeg) < x12 → wpR_judge_61 post K9 s v2 1)))
def wpR_judge_9 (post : Int64 → RSt → Prop) (s : RSt) (v1 : Int32) (v2 : Int32) : Prop := gLP (fun (K : RSt × Int32 × Int32 → Prop) (x : RSt × Int32 × Int32) => wpR_judge_9_F post (fun s v1 v2 => K (s, v1, v2)) x.1 x.2.1 x.2.2) (s, v1, v2)
def wpR_judge_0 (post : Int64 → RSt → Prop) (s : RSt) : Prop := ∀ s14 : RSt, s14 = rsI s 0 0 → wpR_judge_9 post s14 1 0
theorem wkR_judge_151 {X : gT} {G : rG} {A : Nat → Prop} {H0 : Heap} {Q : State → Prop} (C : rC X cX8_judge 7 G A) (hsz : H0 = (g_s X).heap) (hR : 1 ≤ (g_R X).frames ∧ 24 ≤ (g_R X).locals) {post : Int64 → RSt → Prop} (hret : ∀ (r : Int64) (τ : RSt) (lv : List (Nat × Value)) (pc : Nat), post r τ → decode cX8_judge pc = .ok (.lreturn, 1) → gJ X (rWd G A H0) Q 0 0 τ lv pc [.long r]) {K92 : RSt → Int64 → Int32 → Prop} (hK92 : ∀ (s : RSt) (v2 : Int64) (v4 : Int32), K92 s v2 v4 → gJ X (rWd G A H0) Q 0 0 s [(0, .ref (G.2.2.1 0)), (2, .long v2), (4, .int v4)] 92 []) (s : RSt) (v4 : Int32) (w0 : Int64) (w1 : Int64) (hw : wpR_judge_151 post K92 s v4 w0 w1) : gJ X (rWd G A H0) Q 0 0 s [(0, .ref (G.2.2.1 0)), (4, .int v4)] 151 [.long w1, .long w0] := by
  refine g_lsub C.1 dX8_judge_151 ?_
  refine g_lstore_n (lv' := [(2, .long (w0 - w1)), (0, .ref (G.2.2.1 0)), (4, .int v4)]) C.1 dX8_judge_152 rfl (by decide) rfl ?_
  refine g_iinc (v := v4 + 1) (lv' := [(4, .int (v4 + 1)), (2, .long (w0 - w1)), (0, .ref (G.2.2.1 0))]) C.1 2 dX8_judge_153 rfl rfl (by decide) rfl ?_
  refine g_goto (tgt := 92) C.1 dX8_judge_156 (by decide) ?_
  refine gJ.sub [2, 1, 0] rfl ?_
  exact hK92 _ _ _ hw
theorem wkR_judge_136 {X : gT} {G : rG} {A : Nat → Prop} {H0 : Heap} {Q : State → Prop} (C : rC X cX8_judge 7 G A) (hsz : H0 = (g_s X).heap) (hR : 1 ≤ (g_R X).frames ∧ 24 ≤ (g_R X).locals) {post : Int64 → RSt → Prop} (hret : ∀ (r : Int64) (τ : RSt) (lv : List (Nat × Value)) (pc : Nat), post r τ → decode cX8_judge pc = .ok (.lreturn, 1) → gJ X (rWd G A H0) Q 0 0 τ lv pc [.long r]) {K92 : RSt → Int64 → Int32 → Prop} (hK92 : ∀ (s : RSt) (v2 : Int64) (v4 : Int32), K92 s v2 v4 → gJ X (rWd G A H0) Q 0 0 s [(0, .ref (G.2.2.1 0)), (2, .long v2), (4, .int v4)] 92 []) (s : RSt) (v4 : Int32) (v5 : Int64) (w0 : Int64) (hw : wpR_judge_136 post K92 s v4 v5 w0) : gJ X (rWd G A H0) Q 0 0 s [(0, .ref (G.2.2.1 0)), (4, .int v4), (5, .long v5)] 136 [.long w0] := by
  refine g_lload C.1 2 dX8_judge_136 rfl ?_
  refine g_aload_n C.1 0 dX8_judge_138 rfl rfl ?_
  refine r_g13 C dX8_judge_139 ?_
  refine g_iload C.1 1 dX8_judge_142 rfl ?_
  refine r_ld13 C hw.1 dX8_judge_144 ?_
  replace hw := hw.2
  refine g_i2l C.1 dX8_judge_145 ?_
  refine g_lmul C.1 dX8_judge_146 ?_
  refine g_goto (tgt := 151) C.1 dX8_judge_147 (by decide) ?_
  refine gJ.sub [0, 1] rfl ?_
  exact wkR_judge_151 C hsz hR hret hK92 _ _ _ _ hw
theorem wkR_judge_92_F {X : gT} {G : rG} {A : Nat → Prop} {H0 : Heap} {Q : State → Prop} (C : rC X cX8_judge 7 G A) (hsz : H0 = (g_s X).heap) (hR : 1 ≤ (g_R X).frames ∧ 24 ≤ (g_R X).locals) {post : Int64 → RSt → Prop} (hret : ∀ (r : Int64) (τ : RSt) (lv : List (Nat × Value)) (pc : Nat), post r τ → decode cX8_judge pc = .ok (.lreturn, 1) → gJ X (rWd G A H0) Q 0 0 τ lv pc [.long r]) {K92 : RSt → Int64 → Int32 → Prop} (hK92 : ∀ (s : RSt) (v2 : Int64) (v4 : Int32), K92 s v2 v4 → gJ X (rWd G A H0) Q 0 0 s [(0, .ref (G.2.2.1 0)), (2, .long v2), (4, .int v4)] 92 []) (s : RSt) (v2 : Int64) (v4 : Int32) (hw : wpR_judge_92_F post K92 s v2 v4) : gJ X (rWd G A H0) Q 0 0 s [(0, .ref (G.2.2.1 0)), (2, .long v2), (4, .int v4)] 92 [] := by
  refine g_iload C.1 2 dX8_judge_92 rfl ?_
  refine g_aload_n C.1 0 dX8_judge_94 rfl rfl ?_
  refine r_g14 C dX8_judge_95 ?_
  refine g_icmp_ge (tgt := 159) C.1 dX8_judge_98 (by decide) (fun h1 => ?_) (fun h1 => ?_)
  · replace hw := hw.1 h1
    refine g_lload_n C.1 1 dX8_judge_159 rfl rfl ?_
    exact hret _ _ _ _ hw dX8_judge_160
  · replace hw := hw.2 h1
    refine g_aload_n C.1 0 dX8_judge_101 rfl rfl ?_
    refine g_iload C.1 2 dX8_judge_102 rfl ?_
    refine r_calli C hsz (cR_depth (g_l X) G s _ _ hw) kR_195 kR_196 kR_197 kR_193 hdR_depth ⟨Nat.le_trans (Nat.le_of_ble_eq_true rfl) hR.1, Nat.le_trans (Nat.le_of_ble_eq_true rfl) hR.2⟩ dX8_judge_104 rfl (Nat.le_of_ble_eq_true rfl) (fun r3 s2 hw => ?_)
    refine g_aload_n C.1 0 dX8_judge_107 rfl rfl ?_
    refine r_g12 C dX8_judge_108 ?_
    refine g_iload C.1 2 dX8_judge_111 rfl ?_
    refine r_ld12 C hw.1 dX8_judge_113 ?_
    replace hw := hw.2
    refine g_isub C.1 dX8_judge_114 ?_
    refine g_i2l C.1 dX8_judge_115 ?_
    refine g_lstore (lv' := [(5, .long ((r3 - (s2.2.1 12 v4.toNatClampNeg)).toInt64)), (0, .ref (G.2.2.1 0)), (2, .long v2), (4, .int v4)]) C.1 dX8_judge_116 (by decide) rfl ?_
    refine g_lload_n C.1 2 dX8_judge_118 rfl rfl ?_
    refine g_lload C.1 0 dX8_judge_119 rfl ?_
    refine g_lconst (v := 0) C.1 dX8_judge_121 (by decide) ?_
    refine g_lcmp C.1 dX8_judge_122 ?_
    refine g_if_lt (tgt := 136) C.1 dX8_judge_123 (by decide) (fun h4 => ?_) (fun h4 => ?_)
    · replace hw := hw.1 h4
      refine gJ.sub [1, 3, 0] rfl ?_
      exact wkR_judge_136 C hsz hR hret hK92 _ _ _ _ hw
    · replace hw := hw.2 h4
      refine g_aload_n C.1 1 dX8_judge_126 rfl rfl ?_
      refine r_g13 C dX8_judge_127 ?_
      refine g_iload C.1 3 dX8_judge_130 rfl ?_
      refine r_ld13 C hw.1 dX8_judge_132 ?_
      replace hw := hw.2
      refine g_if_le (tgt := 150) C.1 dX8_judge_133 (by decide) (fun h5 => ?_) (fun h5 => ?_)
      · replace hw := hw.1 h5
        refine g_lconst (v := 0) C.1 dX8_judge_150 (by decide) ?_
        refine gJ.sub [1, 3] rfl ?_
        exact wkR_judge_151 C hsz hR hret hK92 _ _ _ _ hw
      · replace hw := hw.2 h5
        refine gJ.sub [1, 3, 0] rfl ?_
        exact wkR_judge_136 C hsz hR hret hK92 _ _ _ _ hw
theorem wkR_judge_92 {X : gT} {G : rG} {A : Nat → Prop} {H0 : Heap} {Q : State → Prop} (C : rC X cX8_judge 7 G A) (hsz : H0 = (g_s X).heap) (hR : 1 ≤ (g_R X).frames ∧ 24 ≤ (g_R X).locals) {post : Int64 → RSt → Prop} (hret : ∀ (r : Int64) (τ : RSt) (lv : List (Nat × Value)) (pc : Nat), post r τ → decode cX8_judge pc = .ok (.lreturn, 1) → gJ X (rWd G A H0) Q 0 0 τ lv pc [.long r]) (s : RSt) (v2 : Int64) (v4 : Int32) (hw : wpR_judge_92 post s v2 v4) : gJ X (rWd G A H0) Q 0 0 s [(0, .ref (G.2.2.1 0)), (2, .long v2), (4, .int v4)] 92 [] := 
  hw (fun (x : RSt × Int64 × Int32) => (fun s v2 v4 => gJ X (rWd G A H0) Q 0 0 s [(0, .ref (G.2.2.1 0)), (2, .long v2), (4, .int v4)] 92 []) x.1 x.2.1 x.2.2) (fun x hx => wkR_judge_92_F C hsz hR hret (K92 := (fun s v2 v4 => gJ X (rWd G A H0) Q 0 0 s [(0, .ref (G.2.2.1 0)), (2, .long v2), (4, .int v4)] 92 [])) (fun _ _ _ h => h) x.1 x.2.1 x.2.2 hx)
theorem wkR_judge_78 {X : gT} {G : rG} {A : Nat → Prop} {H0 : Heap} {Q : State → Prop} (C : rC X cX8_judge 7 G A) (hsz : H0 = (g_s X).heap) (hR : 1 ≤ (g_R X).frames ∧ 24 ≤ (g_R X).locals) {post : Int64 → RSt → Prop} (hret : ∀ (r : Int64) (τ : RSt) (lv : List (Nat × Value)) (pc : Nat), post r τ → decode cX8_judge pc = .ok (.lreturn, 1) → gJ X (rWd G A H0) Q 0 0 τ lv pc [.long r]) (s : RSt) (w1 : Int32) (hw : wpR_judge_78 post s w1) : gJ X (rWd G A H0) Q 0 0 s [(0, .ref (G.2.2.1 0))] 78 [.int w1, .ref (G.2.2.1 0)] := by
  refine g_iconst (v := 1) C.1 dX8_judge_78 (by decide) ?_
  refine r_calli C hsz (cR_throwsIf (g_l X) G s _ _ _ hw) kR_65 kR_66 kR_67 kR_42 hdR_throwsIf ⟨Nat.le_trans (Nat.le_of_ble_eq_true rfl) hR.1, Nat.le_trans (Nat.le_of_ble_eq_true rfl) hR.2⟩ dX8_judge_79 rfl (Nat.le_of_ble_eq_true rfl) (fun r7 s6 hw => ?_)
  refine g_if_eq (tgt := 87) C.1 dX8_judge_82 (by decide) (fun h8 => ?_) (fun h8 => ?_)
  · replace hw := hw.1 h8
    refine g_lconst (v := 0) C.1 dX8_judge_87 (by decide) ?_
    refine g_lstore_n (lv' := [(2, .long 0), (0, .ref (G.2.2.1 0))]) C.1 dX8_judge_88 rfl (by decide) rfl ?_
    refine g_iconst (v := 0) C.1 dX8_judge_89 (by decide) ?_
    refine g_istore (lv' := [(4, .int 0), (2, .long 0), (0, .ref (G.2.2.1 0))]) C.1 dX8_judge_90 (by decide) rfl ?_
    refine gJ.sub [2, 1, 0] rfl ?_
    exact wkR_judge_92 C hsz hR hret _ _ _ hw
  · replace hw := hw.2 h8
    refine g_lconst (v := 0) C.1 dX8_judge_85 (by decide) ?_
    exact hret _ _ _ _ hw dX8_judge_86
theorem wkR_judge_61 {X : gT} {G : rG} {A : Nat → Prop} {H0 : Heap} {Q : State → Prop} (C : rC X cX8_judge 7 G A) (hsz : H0 = (g_s X).heap) (hR : 1 ≤ (g_R X).frames ∧ 24 ≤ (g_R X).locals) {post : Int64 → RSt → Prop} (hret : ∀ (r : Int64) (τ : RSt) (lv : List (Nat × Value)) (pc : Nat), post r τ → decode cX8_judge pc = .ok (.lreturn, 1) → gJ X (rWd G A H0) Q 0 0 τ lv pc [.long r]) {K9 : RSt → Int32 → Int32 → Prop} (hK9 : ∀ (s : RSt) (v1 : Int32) (v2 : Int32), K9 s v1 v2 → gJ X (rWd G A H0) Q 0 0 s [(0, .ref (G.2.2.1 0)), (1, .int v1), (2, .int v2)] 9 []) (s : RSt) (v2 : Int32) (w0 : Int32) (hw : wpR_judge_61 post K9 s v2 w0) : gJ X (rWd G A H0) Q 0 0 s [(0, .ref (G.2.2.1 0)), (2, .int v2)] 61 [.int w0] := by
  refine g_istore_n (lv' := [(1, .int w0), (0, .ref (G.2.2.1 0)), (2, .int v2)]) C.1 dX8_judge_61 rfl (by decide) rfl ?_
  refine g_iinc (v := v2 + 1) (lv' := [(2, .int (v2 + 1)), (1, .int w0), (0, .ref (G.2.2.1 0))]) C.1 2 dX8_judge_62 rfl rfl (by decide) rfl ?_
  refine g_goto (tgt := 9) C.1 dX8_judge_65 (by decide) ?_
  refine gJ.sub [2, 1, 0] rfl ?_
  exact hK9 _ _ _ hw
theorem wkR_judge_60 {X : gT} {G : rG} {A : Nat → Prop} {H0 : Heap} {Q : State → Prop} (C : rC X cX8_judge 7 G A) (hsz : H0 = (g_s X).heap) (hR : 1 ≤ (g_R X).frames ∧ 24 ≤ (g_R X).locals) {post : Int64 → RSt → Prop} (hret : ∀ (r : Int64) (τ : RSt) (lv : List (Nat × Value)) (pc : Nat), post r τ → decode cX8_judge pc = .ok (.lreturn, 1) → gJ X (rWd G A H0) Q 0 0 τ lv pc [.long r]) {K9 : RSt → Int32 → Int32 → Prop} (hK9 : ∀ (s : RSt) (v1 : Int32) (v2 : Int32), K9 s v1 v2 → gJ X (rWd G A H0) Q 0 0 s [(0, .ref (G.2.2.1 0)), (1, .int v1), (2, .int v2)] 9 []) (s : RSt) (v2 : Int32) (hw : wpR_judge_60 post K9 s v2) : gJ X (rWd G A H0) Q 0 0 s [(0, .ref (G.2.2.1 0)), (2, .int v2)] 60 [] := by
  refine g_iconst (v := 0) C.1 dX8_judge_60 (by decide) ?_
  exact wkR_judge_61 C hsz hR hret hK9 _ _ _ hw
theorem wkR_judge_9_F {X : gT} {G : rG} {A : Nat → Prop} {H0 : Heap} {Q : State → Prop} (C : rC X cX8_judge 7 G A) (hsz : H0 = (g_s X).heap) (hR : 1 ≤ (g_R X).frames ∧ 24 ≤ (g_R X).locals) {post : Int64 → RSt → Prop} (hret : ∀ (r : Int64) (τ : RSt) (lv : List (Nat × Value)) (pc : Nat), post r τ → decode cX8_judge pc = .ok (.lreturn, 1) → gJ X (rWd G A H0) Q 0 0 τ lv pc [.long r]) {K9 : RSt → Int32 → Int32 → Prop} (hK9 : ∀ (s : RSt) (v1 : Int32) (v2 : Int32), K9 s v1 v2 → gJ X (rWd G A H0) Q 0 0 s [(0, .ref (G.2.2.1 0)), (1, .int v1), (2, .int v2)] 9 []) (s : RSt) (v1 : Int32) (v2 : Int32) (hw : wpR_judge_9_F post K9 s v1 v2) : gJ X (rWd G A H0) Q 0 0 s [(0, .ref (G.2.2.1 0)), (1, .int v1), (2, .int v2)] 9 [] := by
  refine g_iload_n C.1 2 dX8_judge_9 rfl rfl ?_
  refine g_aload_n C.1 0 dX8_judge_10 rfl rfl ?_
  refine r_g26 C dX8_judge_11 ?_
  refine g_icmp_ge (tgt := 68) C.1 dX8_judge_14 (by decide) (fun h9 => ?_) (fun h9 => ?_)
  · replace hw := hw.1 h9
    refine g_aload_n C.1 0 dX8_judge_68 rfl rfl ?_
    refine g_iload_n C.1 1 dX8_judge_69 rfl rfl ?_
    refine g_if_ne (tgt := 77) C.1 dX8_judge_70 (by decide) (fun h10 => ?_) (fun h10 => ?_)
    · replace hw := hw.1 h10
      refine g_iconst (v := 0) C.1 dX8_judge_77 (by decide) ?_
      refine gJ.sub [0] rfl ?_
      exact wkR_judge_78 C hsz hR hret _ _ hw
    · replace hw := hw.2 h10
      refine g_iconst (v := 1) C.1 dX8_judge_73 (by decide) ?_
      refine g_goto (tgt := 78) C.1 dX8_judge_74 (by decide) ?_
      refine gJ.sub [0] rfl ?_
      exact wkR_judge_78 C hsz hR hret _ _ hw
  · replace hw := hw.2 h9
    refine g_iload_n C.1 1 dX8_judge_17 rfl rfl ?_
    refine g_if_eq (tgt := 60) C.1 dX8_judge_18 (by decide) (fun h11 => ?_) (fun h11 => ?_)
    · replace hw := hw.1 h11
      refine gJ.sub [0, 2] rfl ?_
      exact wkR_judge_60 C hsz hR hret hK9 _ _ hw
    · replace hw := hw.2 h11
      refine g_aload_n C.1 0 dX8_judge_21 rfl rfl ?_
      refine r_g13 C dX8_judge_22 ?_
      refine g_aload_n C.1 0 dX8_judge_25 rfl rfl ?_
      refine r_g23 C dX8_judge_26 ?_
      refine g_iload_n C.1 2 dX8_judge_29 rfl rfl ?_
      refine r_ld23 C hw.1 dX8_judge_30 ?_
      replace hw := hw.2
      refine r_ld13 C hw.1 dX8_judge_31 ?_
      replace hw := hw.2
      refine g_aload_n C.1 0 dX8_judge_32 rfl rfl ?_
      refine r_g13 C dX8_judge_33 ?_
      refine g_aload_n C.1 0 dX8_judge_36 rfl rfl ?_
      refine r_g24 C dX8_judge_37 ?_
      refine g_iload_n C.1 2 dX8_judge_40 rfl rfl ?_
      refine r_ld24 C hw.1 dX8_judge_41 ?_
      replace hw := hw.2
      refine r_ld13 C hw.1 dX8_judge_42 ?_
      replace hw := hw.2
      refine g_isub C.1 dX8_judge_43 ?_
      refine g_mabs C.1 C.2.1 (C.2.2.1 _ kR_289) (C.2.2.1 _ kR_290) (C.2.2.1 _ kR_272) (C.2.2.1 _ kR_291) (Nat.le_trans (Nat.le_of_ble_eq_true rfl) hR.1) (Nat.le_trans (Nat.le_of_ble_eq_true rfl) hR.2) (Nat.zero_le _) (Nat.zero_le _) dX8_judge_44 ?_
      refine g_topi (fun x12 ex12 => ?_)
      replace hw := hw x12 ex12
      refine g_aload_n C.1 0 dX8_judge_47 rfl rfl ?_
      refine r_g25 C dX8_judge_48 ?_
      refine g_iload_n C.1 2 dX8_judge_51 rfl rfl ?_
      refine r_ld25 C hw.1 dX8_judge_52 ?_
      replace hw := hw.2
      refine g_icmp_gt (tgt := 60) C.1 dX8_judge_53 (by decide) (fun h13 => ?_) (fun h13 => ?_)
      · replace hw := hw.1 h13
        refine gJ.sub [0, 2] rfl ?_
        exact wkR_judge_60 C hsz hR hret hK9 _ _ hw
      · replace hw := hw.2 h13
        refine g_iconst (v := 1) C.1 dX8_judge_56 (by decide) ?_
        refine g_goto (tgt := 61) C.1 dX8_judge_57 (by decide) ?_
        refine gJ.sub [0, 2] rfl ?_
        exact wkR_judge_61 C hsz hR hret hK9 _ _ _ hw
theorem wkR_judge_9 {X : gT} {G : rG} {A : Nat → Prop} {H0 : Heap} {Q : State → Prop} (C : rC X cX8_judge 7 G A) (hsz : H0 = (g_s X).heap) (hR : 1 ≤ (g_R X).frames ∧ 24 ≤ (g_R X).locals) {post : Int64 → RSt → Prop} (hret : ∀ (r : Int64) (τ : RSt) (lv : List (Nat × Value)) (pc : Nat), post r τ → decode cX8_judge pc = .ok (.lreturn, 1) → gJ X (rWd G A H0) Q 0 0 τ lv pc [.long r]) (s : RSt) (v1 : Int32) (v2 : Int32) (hw : wpR_judge_9 post s v1 v2) : gJ X (rWd G A H0) Q 0 0 s [(0, .ref (G.2.2.1 0)), (1, .int v1), (2, .int v2)] 9 [] := 
  hw (fun (x : RSt × Int32 × Int32) => (fun s v1 v2 => gJ X (rWd G A H0) Q 0 0 s [(0, .ref (G.2.2.1 0)), (1, .int v1), (2, .int v2)] 9 []) x.1 x.2.1 x.2.2) (fun x hx => wkR_judge_9_F C hsz hR hret (K9 := (fun s v1 v2 => gJ X (rWd G A H0) Q 0 0 s [(0, .ref (G.2.2.1 0)), (1, .int v1), (2, .int v2)] 9 [])) (fun _ _ _ h => h) x.1 x.2.1 x.2.2 hx)
theorem wkR_judge_0 {X : gT} {G : rG} {A : Nat → Prop} {H0 : Heap} {Q : State → Prop} (C : rC X cX8_judge 7 G A) (hsz : H0 = (g_s X).heap) (hR : 1 ≤ (g_R X).frames ∧ 24 ≤ (g_R X).locals) {post : Int64 → RSt → Prop} (hret : ∀ (r : Int64) (τ : RSt) (lv : List (Nat × Value)) (pc : Nat), post r τ → decode cX8_judge pc = .ok (.lreturn, 1) → gJ X (rWd G A H0) Q 0 0 τ lv pc [.long r]) (s : RSt) (hw : wpR_judge_0 post s) : gJ X (rWd G A H0) Q 0 0 s [(0, .ref (G.2.2.1 0))] 0 [] := by
  refine g_aload_n C.1 0 dX8_judge_0 rfl rfl ?_
  refine g_iconst (v := 0) C.1 dX8_judge_1 (by decide) ?_
  refine r_p0 C dX8_judge_2 ?_
  refine gJ.nm (fun s14 es14 => ?_)
  replace hw := hw s14 es14
  refine g_iconst (v := 1) C.1 dX8_judge_5 (by decide) ?_
  refine g_istore_n (lv' := [(1, .int 1), (0, .ref (G.2.2.1 0))]) C.1 dX8_judge_6 rfl (by decide) rfl ?_
  refine g_iconst (v := 0) C.1 dX8_judge_7 (by decide) ?_
  refine g_istore_n (lv' := [(2, .int 0), (1, .int 1), (0, .ref (G.2.2.1 0))]) C.1 dX8_judge_8 rfl (by decide) rfl ?_
  refine gJ.sub [2, 1, 0] rfl ?_
  exact wkR_judge_9 C hsz hR hret _ _ _ hw
theorem hdR_judge : yX8_judge.cls = RX8 ∧ yX8_judge.cls ≠ "java/lang/invoke/MethodHandle" ∧ yX8_judge.cls ≠ "java/lang/invoke/VarHandle" ∧ (parseMethodDescriptor yX8_judge.desc).map (fun d => d.parameters.length) = some 0 := by decide +kernel
theorem cR_judge (l : Launch) (G : rG) (s : RSt) (post : Int64 → RSt → Prop) (hw : wpR_judge_0 post s) : rMl l yX8_judge cX8_judge 7 1 24 G s [] post := rMl_of (by decide +kernel) rfl (Nat.le_of_ble_eq_true rfl) (fun X A H0 Q hl hR hsz C hret => wkR_judge_0 C hsz hR hret s hw)
def wpR_count_136_F (post : Int64 → RSt → Prop) (K136 : RSt → Int64 → Int32 → Prop) (s : RSt) (v2 : Int64) (v4 : Int32) : Prop := ((s.1 14) ≤ v4 → post v2 s) ∧ (¬ (s.1 14) ≤ v4 → wpR_depth_0 (fun r3 s2 => K136 s2 (v2 + r3.toInt64) (v4 + 1)) s v4)
def wpR_count_136 (post : Int64 → RSt → Prop) (s : RSt) (v2 : Int64) (v4 : Int32) : Prop := gLP (fun (K : RSt × Int64 × Int32 → Prop) (x : RSt × Int64 × Int32) => wpR_count_136_F post (fun s v2 v4 => K (s, v2, v4)) x.1 x.2.1 x.2.2) (s, v2, v4)
def wpR_count_0 (post : Int64 → RSt → Prop) (s : RSt) (v1 : Int32) : Prop := ∀ s4 : RSt, s4 = rsI s 0 0 → (v1 = 0 → post ((s4.1 7).toInt64) s4) ∧ (v1 = 1 → post ((s4.1 9).toInt64) s4) ∧ (v1 = 2 → post ((s4.1 14).toInt64) s4) ∧ (v1 = 3 → post ((s4.1 22).toInt64) s4) ∧ (v1 = 4 → post ((s4.1 28).toInt64) s4) ∧ (v1 = 5 → post ((s4.1 26).toInt64) s4) ∧ (v1 = 6 → post ((s4.1 27).toInt64) s4) ∧ (v1 = 7 → vp_in 0 5 ∧ post (s4.2.2 29 (0 : Int32).toNatClampNeg) s4) ∧ (v1 = 8 → vp_in 1 5 ∧ post (s4.2.2 29 (1 : Int32).toNatClampNeg) s4) ∧ (v1 = 9 → vp_in 2 5 ∧ post (s4.2.2 29 (2 : Int32).toNatClampNeg) s4) ∧ (v1 = 10 → wpR_count_136 post s4 0 0) ∧ (v1 = 11 → vp_in 4 5 ∧ post (s4.2.2 29 (4 : Int32).toNatClampNeg) s4) ∧ ((v1).toInt < 0 ∨ 11 < (v1).toInt → post (-1) s4)
theorem wkR_count_136_F {X : gT} {G : rG} {A : Nat → Prop} {H0 : Heap} {Q : State → Prop} (C : rC X cX8_count 5 G A) (hsz : H0 = (g_s X).heap) (hR : 1 ≤ (g_R X).frames ∧ 21 ≤ (g_R X).locals) {post : Int64 → RSt → Prop} (hret : ∀ (r : Int64) (τ : RSt) (lv : List (Nat × Value)) (pc : Nat), post r τ → decode cX8_count pc = .ok (.lreturn, 1) → gJ X (rWd G A H0) Q 0 0 τ lv pc [.long r]) {K136 : RSt → Int64 → Int32 → Prop} (hK136 : ∀ (s : RSt) (v2 : Int64) (v4 : Int32), K136 s v2 v4 → gJ X (rWd G A H0) Q 0 0 s [(0, .ref (G.2.2.1 0)), (2, .long v2), (4, .int v4)] 136 []) (s : RSt) (v2 : Int64) (v4 : Int32) (hw : wpR_count_136_F post K136 s v2 v4) : gJ X (rWd G A H0) Q 0 0 s [(0, .ref (G.2.2.1 0)), (2, .long v2), (4, .int v4)] 136 [] := by
  refine g_iload C.1 2 dX8_count_136 rfl ?_
  refine g_aload_n C.1 0 dX8_count_138 rfl rfl ?_
  refine r_g14 C dX8_count_139 ?_
  refine g_icmp_ge (tgt := 161) C.1 dX8_count_142 (by decide) (fun h1 => ?_) (fun h1 => ?_)
  · replace hw := hw.1 h1
    refine g_lload_n C.1 1 dX8_count_161 rfl rfl ?_
    exact hret _ _ _ _ hw dX8_count_162
  · replace hw := hw.2 h1
    refine g_lload_n C.1 1 dX8_count_145 rfl rfl ?_
    refine g_aload_n C.1 0 dX8_count_146 rfl rfl ?_
    refine g_iload C.1 2 dX8_count_147 rfl ?_
    refine r_calli C hsz (cR_depth (g_l X) G s _ _ hw) kR_195 kR_196 kR_197 kR_193 hdR_depth ⟨Nat.le_trans (Nat.le_of_ble_eq_true rfl) hR.1, Nat.le_trans (Nat.le_of_ble_eq_true rfl) hR.2⟩ dX8_count_149 rfl (Nat.le_of_ble_eq_true rfl) (fun r3 s2 hw => ?_)
    refine g_i2l C.1 dX8_count_152 ?_
    refine g_ladd C.1 dX8_count_153 ?_
    refine g_lstore_n (lv' := [(2, .long (v2 + r3.toInt64)), (0, .ref (G.2.2.1 0)), (4, .int v4)]) C.1 dX8_count_154 rfl (by decide) rfl ?_
    refine g_iinc (v := v4 + 1) (lv' := [(4, .int (v4 + 1)), (2, .long (v2 + r3.toInt64)), (0, .ref (G.2.2.1 0))]) C.1 2 dX8_count_155 rfl rfl (by decide) rfl ?_
    refine g_goto (tgt := 136) C.1 dX8_count_158 (by decide) ?_
    refine gJ.sub [2, 1, 0] rfl ?_
    exact hK136 _ _ _ hw
theorem wkR_count_136 {X : gT} {G : rG} {A : Nat → Prop} {H0 : Heap} {Q : State → Prop} (C : rC X cX8_count 5 G A) (hsz : H0 = (g_s X).heap) (hR : 1 ≤ (g_R X).frames ∧ 21 ≤ (g_R X).locals) {post : Int64 → RSt → Prop} (hret : ∀ (r : Int64) (τ : RSt) (lv : List (Nat × Value)) (pc : Nat), post r τ → decode cX8_count pc = .ok (.lreturn, 1) → gJ X (rWd G A H0) Q 0 0 τ lv pc [.long r]) (s : RSt) (v2 : Int64) (v4 : Int32) (hw : wpR_count_136 post s v2 v4) : gJ X (rWd G A H0) Q 0 0 s [(0, .ref (G.2.2.1 0)), (2, .long v2), (4, .int v4)] 136 [] := 
  hw (fun (x : RSt × Int64 × Int32) => (fun s v2 v4 => gJ X (rWd G A H0) Q 0 0 s [(0, .ref (G.2.2.1 0)), (2, .long v2), (4, .int v4)] 136 []) x.1 x.2.1 x.2.2) (fun x hx => wkR_count_136_F C hsz hR hret (K136 := (fun s v2 v4 => gJ X (rWd G A H0) Q 0 0 s [(0, .ref (G.2.2.1 0)), (2, .long v2), (4, .int v4)] 136 [])) (fun _ _ _ h => h) x.1 x.2.1 x.2.2 hx)
theorem wkR_count_0 {X : gT} {G : rG} {A : Nat → Prop} {H0 : Heap} {Q : State → Prop} (C : rC X cX8_count 5 G A) (hsz : H0 = (g_s X).heap) (hR : 1 ≤ (g_R X).frames ∧ 21 ≤ (g_R X).locals) {post : Int64 → RSt → Prop} (hret : ∀ (r : Int64) (τ : RSt) (lv : List (Nat × Value)) (pc : Nat), post r τ → decode cX8_count pc = .ok (.lreturn, 1) → gJ X (rWd G A H0) Q 0 0 τ lv pc [.long r]) (s : RSt) (v1 : Int32) (hw : wpR_count_0 post s v1) : gJ X (rWd G A H0) Q 0 0 s [(0, .ref (G.2.2.1 0)), (1, .int v1)] 0 [] := by
  refine g_aload_n C.1 0 dX8_count_0 rfl rfl ?_
  refine g_iconst (v := 0) C.1 dX8_count_1 (by decide) ?_
  refine r_p0 C dX8_count_2 ?_
  refine gJ.nm (fun s4 es4 => ?_)
  replace hw := hw s4 es4
  refine g_iload_n C.1 1 dX8_count_5 rfl rfl ?_
  by_cases h5a : (v1).toInt < 0
  · replace hw := hw.2.2.2.2.2.2.2.2.2.2.2.2 (Or.inl h5a)
    refine g_tableOut (tgt := 170) C.1 dX8_count_6 (Or.inl h5a) (by decide) ?_
    refine g_ldc2 (v := (-1)) C.1 C.2.1 (C.2.2.1 _ kR_275) dX8_count_170 ?_
    exact hret _ _ _ _ hw dX8_count_173
  by_cases h5b : 11 < (v1).toInt
  · replace hw := hw.2.2.2.2.2.2.2.2.2.2.2.2 (Or.inr h5b)
    refine g_tableOut (tgt := 170) C.1 dX8_count_6 (Or.inr h5b) (by decide) ?_
    refine g_ldc2 (v := (-1)) C.1 C.2.1 (C.2.2.1 _ kR_275) dX8_count_170 ?_
    exact hret _ _ _ _ hw dX8_count_173
  have h5c : (v1).toInt = 0 ∨ (v1).toInt = 1 ∨ (v1).toInt = 2 ∨ (v1).toInt = 3 ∨ (v1).toInt = 4 ∨ (v1).toInt = 5 ∨ (v1).toInt = 6 ∨ (v1).toInt = 7 ∨ (v1).toInt = 8 ∨ (v1).toInt = 9 ∨ (v1).toInt = 10 ∨ (v1).toInt = 11 := by omega
  rcases h5c with h5c | h5c | h5c | h5c | h5c | h5c | h5c | h5c | h5c | h5c | h5c | h5c
  · replace hw := hw.1 (i32_of h5c)
    refine g_tableIn (tgt := 68) (off := 62) C.1 dX8_count_6 h5a h5b (by rw [h5c]; rfl) (by decide) ?_
    refine g_aload_n C.1 0 dX8_count_68 rfl rfl ?_
    refine r_g7 C dX8_count_69 ?_
    refine g_i2l C.1 dX8_count_72 ?_
    exact hret _ _ _ _ hw dX8_count_73
  · replace hw := hw.2.1 (i32_of h5c)
    refine g_tableIn (tgt := 74) (off := 68) C.1 dX8_count_6 h5a h5b (by rw [h5c]; rfl) (by decide) ?_
    refine g_aload_n C.1 0 dX8_count_74 rfl rfl ?_
    refine r_g9 C dX8_count_75 ?_
    refine g_i2l C.1 dX8_count_78 ?_
    exact hret _ _ _ _ hw dX8_count_79
  · replace hw := hw.2.2.1 (i32_of h5c)
    refine g_tableIn (tgt := 80) (off := 74) C.1 dX8_count_6 h5a h5b (by rw [h5c]; rfl) (by decide) ?_
    refine g_aload_n C.1 0 dX8_count_80 rfl rfl ?_
    refine r_g14 C dX8_count_81 ?_
    refine g_i2l C.1 dX8_count_84 ?_
    exact hret _ _ _ _ hw dX8_count_85
  · replace hw := hw.2.2.2.1 (i32_of h5c)
    refine g_tableIn (tgt := 86) (off := 80) C.1 dX8_count_6 h5a h5b (by rw [h5c]; rfl) (by decide) ?_
    refine g_aload_n C.1 0 dX8_count_86 rfl rfl ?_
    refine r_g22 C dX8_count_87 ?_
    refine g_i2l C.1 dX8_count_90 ?_
    exact hret _ _ _ _ hw dX8_count_91
  · replace hw := hw.2.2.2.2.1 (i32_of h5c)
    refine g_tableIn (tgt := 92) (off := 86) C.1 dX8_count_6 h5a h5b (by rw [h5c]; rfl) (by decide) ?_
    refine g_aload_n C.1 0 dX8_count_92 rfl rfl ?_
    refine r_g28 C dX8_count_93 ?_
    refine g_i2l C.1 dX8_count_96 ?_
    exact hret _ _ _ _ hw dX8_count_97
  · replace hw := hw.2.2.2.2.2.1 (i32_of h5c)
    refine g_tableIn (tgt := 98) (off := 92) C.1 dX8_count_6 h5a h5b (by rw [h5c]; rfl) (by decide) ?_
    refine g_aload_n C.1 0 dX8_count_98 rfl rfl ?_
    refine r_g26 C dX8_count_99 ?_
    refine g_i2l C.1 dX8_count_102 ?_
    exact hret _ _ _ _ hw dX8_count_103
  · replace hw := hw.2.2.2.2.2.2.1 (i32_of h5c)
    refine g_tableIn (tgt := 104) (off := 98) C.1 dX8_count_6 h5a h5b (by rw [h5c]; rfl) (by decide) ?_
    refine g_aload_n C.1 0 dX8_count_104 rfl rfl ?_
    refine r_g27 C dX8_count_105 ?_
    refine g_i2l C.1 dX8_count_108 ?_
    exact hret _ _ _ _ hw dX8_count_109
  · replace hw := hw.2.2.2.2.2.2.2.1 (i32_of h5c)
    refine g_tableIn (tgt := 110) (off := 104) C.1 dX8_count_6 h5a h5b (by rw [h5c]; rfl) (by decide) ?_
    refine g_aload_n C.1 0 dX8_count_110 rfl rfl ?_
    refine r_g29 C dX8_count_111 ?_
    refine g_iconst (v := 0) C.1 dX8_count_114 (by decide) ?_
    refine r_ld29 C hw.1 dX8_count_115 ?_
    replace hw := hw.2
    exact hret _ _ _ _ hw dX8_count_116
  · replace hw := hw.2.2.2.2.2.2.2.2.1 (i32_of h5c)
    refine g_tableIn (tgt := 117) (off := 111) C.1 dX8_count_6 h5a h5b (by rw [h5c]; rfl) (by decide) ?_
    refine g_aload_n C.1 0 dX8_count_117 rfl rfl ?_
    refine r_g29 C dX8_count_118 ?_
    refine g_iconst (v := 1) C.1 dX8_count_121 (by decide) ?_
    refine r_ld29 C hw.1 dX8_count_122 ?_
    replace hw := hw.2
    exact hret _ _ _ _ hw dX8_count_123
  · replace hw := hw.2.2.2.2.2.2.2.2.2.1 (i32_of h5c)
    refine g_tableIn (tgt := 124) (off := 118) C.1 dX8_count_6 h5a h5b (by rw [h5c]; rfl) (by decide) ?_
    refine g_aload_n C.1 0 dX8_count_124 rfl rfl ?_
    refine r_g29 C dX8_count_125 ?_
    refine g_iconst (v := 2) C.1 dX8_count_128 (by decide) ?_
    refine r_ld29 C hw.1 dX8_count_129 ?_
    replace hw := hw.2
    exact hret _ _ _ _ hw dX8_count_130
  · replace hw := hw.2.2.2.2.2.2.2.2.2.2.1 (i32_of h5c)
    refine g_tableIn (tgt := 131) (off := 125) C.1 dX8_count_6 h5a h5b (by rw [h5c]; rfl) (by decide) ?_
    refine g_lconst (v := 0) C.1 dX8_count_131 (by decide) ?_
    refine g_lstore_n (lv' := [(2, .long 0), (0, .ref (G.2.2.1 0)), (1, .int v1)]) C.1 dX8_count_132 rfl (by decide) rfl ?_
    refine g_iconst (v := 0) C.1 dX8_count_133 (by decide) ?_
    refine g_istore (lv' := [(4, .int 0), (2, .long 0), (0, .ref (G.2.2.1 0)), (1, .int v1)]) C.1 dX8_count_134 (by decide) rfl ?_
    refine gJ.sub [2, 1, 0] rfl ?_
    exact wkR_count_136 C hsz hR hret _ _ _ hw
  · replace hw := hw.2.2.2.2.2.2.2.2.2.2.2.1 (i32_of h5c)
    refine g_tableIn (tgt := 163) (off := 157) C.1 dX8_count_6 h5a h5b (by rw [h5c]; rfl) (by decide) ?_
    refine g_aload_n C.1 0 dX8_count_163 rfl rfl ?_
    refine r_g29 C dX8_count_164 ?_
    refine g_iconst (v := 4) C.1 dX8_count_167 (by decide) ?_
    refine r_ld29 C hw.1 dX8_count_168 ?_
    replace hw := hw.2
    exact hret _ _ _ _ hw dX8_count_169
theorem hdR_count : yX8_count.cls = RX8 ∧ yX8_count.cls ≠ "java/lang/invoke/MethodHandle" ∧ yX8_count.cls ≠ "java/lang/invoke/VarHandle" ∧ (parseMethodDescriptor yX8_count.desc).map (fun d => d.parameters.length) = some 1 := by decide +kernel
theorem cR_count (l : Launch) (G : rG) (s : RSt) (v1 : Int32) (post : Int64 → RSt → Prop) (hw : wpR_count_0 post s v1) : rMl l yX8_count cX8_count 5 1 21 G s [.int v1] post := rMl_of (by decide +kernel) rfl (Nat.le_of_ble_eq_true rfl) (fun X A H0 Q hl hR hsz C hret => wkR_count_0 C hsz hR hret s v1 hw)
