def wpR_look_110 (post : Int32 → RSt → Prop) (s : RSt) (v1 : Int32) : Prop := vp_in ((7 * v1) + 4) 420 ∧ post (s.2.1 21 ((7 * v1) + 4).toNatClampNeg) s
def wpR_look_0 (post : Int32 → RSt → Prop) (s : RSt) (v1 : Int32) (v2 : Int32) : Prop := ∀ s1 : RSt, s1 = rsI s 0 0 → wpR_noGroup_0 (fun r3 s2 => wpR_throwsIf_0 (fun r5 s4 => (r5 = 0 → (v2 = 0 → vp_in ((7 * v1) + 2) 420 ∧ post (s4.2.1 21 ((7 * v1) + 2).toNatClampNeg) s4) ∧ (v2 = 1 → vp_in ((7 * v1) + 3) 420 ∧ post (s4.2.1 21 ((7 * v1) + 3).toNatClampNeg) s4) ∧ (v2 = 2 → vp_in ((7 * v1) + 2) 420 ∧ ((s4.2.1 21 ((7 * v1) + 2).toNatClampNeg) = 2 → wpR_look_110 post s4 v1) ∧ (¬ (s4.2.1 21 ((7 * v1) + 2).toNatClampNeg) = 2 → vp_in ((7 * v1) + 2) 420 ∧ (¬ (s4.2.1 21 ((7 * v1) + 2).toNatClampNeg) = 3 → post 0 s4) ∧ ((s4.2.1 21 ((7 * v1) + 2).toNatClampNeg) = 3 → wpR_look_110 post s4 v1))) ∧ (v2 = 3 → vp_in ((7 * v1) + 5) 420 ∧ post (s4.2.1 21 ((7 * v1) + 5).toNatClampNeg) s4) ∧ (v2 = 4 → vp_in ((7 * v1) + 6) 420 ∧ post (s4.2.1 21 ((7 * v1) + 6).toNatClampNeg) s4) ∧ ((v2).toInt < 0 ∨ 4 < (v2).toInt → ∀ s7 : RSt, s7 = rsI s4 0 2 → post 0 s7)) ∧ (¬ r5 = 0 → post 0 s4)) s2 r3 1) s1 v1
theorem wkR_look_110 {X : gT} {G : rG} {A : Nat → Prop} {H0 : Heap} {Q : State → Prop} (C : rC X cX8_look 3 G A) (hsz : H0 = (g_s X).heap) (hR : 2 ≤ (g_R X).frames ∧ 46 ≤ (g_R X).locals) {post : Int32 → RSt → Prop} (hret : ∀ (r : Int32) (τ : RSt) (lv : List (Nat × Value)) (pc : Nat), post r τ → narrow .int (.int r) = .int r → decode cX8_look pc = .ok (.ireturn, 1) → gJ X (rWd G A H0) Q 0 0 τ lv pc [.int r]) (s : RSt) (v1 : Int32) (hw : wpR_look_110 post s v1) : gJ X (rWd G A H0) Q 0 0 s [(0, .ref (G.2.2.1 0)), (1, .int v1)] 110 [] := by
  refine g_aload_n C.1 0 dX8_look_110 rfl rfl ?_
  refine r_g21 C dX8_look_111 ?_
  refine g_bipush (v := 7) C.1 dX8_look_114 (by decide) ?_
  refine g_iload_n C.1 1 dX8_look_116 rfl rfl ?_
  refine g_imul C.1 dX8_look_117 ?_
  refine g_iconst (v := 4) C.1 dX8_look_118 (by decide) ?_
  refine g_iadd C.1 dX8_look_119 ?_
  refine r_ld21 C hw.1 dX8_look_120 ?_
  replace hw := hw.2
  refine g_goto (tgt := 125) C.1 dX8_look_121 (by decide) ?_
  exact hret _ _ _ _ hw rfl dX8_look_125
theorem wkR_look_0 {X : gT} {G : rG} {A : Nat → Prop} {H0 : Heap} {Q : State → Prop} (C : rC X cX8_look 3 G A) (hsz : H0 = (g_s X).heap) (hR : 2 ≤ (g_R X).frames ∧ 46 ≤ (g_R X).locals) {post : Int32 → RSt → Prop} (hret : ∀ (r : Int32) (τ : RSt) (lv : List (Nat × Value)) (pc : Nat), post r τ → narrow .int (.int r) = .int r → decode cX8_look pc = .ok (.ireturn, 1) → gJ X (rWd G A H0) Q 0 0 τ lv pc [.int r]) (s : RSt) (v1 : Int32) (v2 : Int32) (hw : wpR_look_0 post s v1 v2) : gJ X (rWd G A H0) Q 0 0 s [(0, .ref (G.2.2.1 0)), (1, .int v1), (2, .int v2)] 0 [] := by
  refine g_aload_n C.1 0 dX8_look_0 rfl rfl ?_
  refine g_iconst (v := 0) C.1 dX8_look_1 (by decide) ?_
  refine r_p0 C dX8_look_2 ?_
  refine gJ.nm (fun s1 es1 => ?_)
  replace hw := hw s1 es1
  refine g_aload_n C.1 0 dX8_look_5 rfl rfl ?_
  refine g_aload_n C.1 0 dX8_look_6 rfl rfl ?_
  refine g_iload_n C.1 1 dX8_look_7 rfl rfl ?_
  refine r_calli C hsz (cR_noGroup (g_l X) G s1 _ _ hw) kR_248 kR_249 kR_250 kR_54 hdR_noGroup ⟨Nat.le_trans (Nat.le_of_ble_eq_true rfl) hR.1, Nat.le_trans (Nat.le_of_ble_eq_true rfl) hR.2⟩ dX8_look_8 rfl (Nat.le_of_ble_eq_true rfl) (fun r3 s2 hw => ?_)
  refine g_iconst (v := 1) C.1 dX8_look_11 (by decide) ?_
  refine r_calli C hsz (cR_throwsIf (g_l X) G s2 _ _ _ hw) kR_65 kR_66 kR_67 kR_42 hdR_throwsIf ⟨Nat.le_trans (Nat.le_of_ble_eq_true rfl) hR.1, Nat.le_trans (Nat.le_of_ble_eq_true rfl) hR.2⟩ dX8_look_12 rfl (Nat.le_of_ble_eq_true rfl) (fun r5 s4 hw => ?_)
  refine g_if_eq (tgt := 20) C.1 dX8_look_15 (by decide) (fun h6 => ?_) (fun h6 => ?_)
  · replace hw := hw.1 h6
    refine g_iload_n C.1 2 dX8_look_20 rfl rfl ?_
    by_cases h8a : (v2).toInt < 0
    · replace hw := hw.2.2.2.2.2 (Or.inl h8a)
      refine g_tableOut (tgt := 151) C.1 dX8_look_21 (Or.inl h8a) (by decide) ?_
      refine g_aload_n C.1 0 dX8_look_151 rfl rfl ?_
      refine g_iconst (v := 2) C.1 dX8_look_152 (by decide) ?_
      refine r_p0 C dX8_look_153 ?_
      refine gJ.nm (fun s7 es7 => ?_)
      replace hw := hw s7 es7
      refine g_iconst (v := 0) C.1 dX8_look_156 (by decide) ?_
      exact hret _ _ _ _ hw rfl dX8_look_157
    by_cases h8b : 4 < (v2).toInt
    · replace hw := hw.2.2.2.2.2 (Or.inr h8b)
      refine g_tableOut (tgt := 151) C.1 dX8_look_21 (Or.inr h8b) (by decide) ?_
      refine g_aload_n C.1 0 dX8_look_151 rfl rfl ?_
      refine g_iconst (v := 2) C.1 dX8_look_152 (by decide) ?_
      refine r_p0 C dX8_look_153 ?_
      refine gJ.nm (fun s7 es7 => ?_)
      replace hw := hw s7 es7
      refine g_iconst (v := 0) C.1 dX8_look_156 (by decide) ?_
      exact hret _ _ _ _ hw rfl dX8_look_157
    have h8c : (v2).toInt = 0 ∨ (v2).toInt = 1 ∨ (v2).toInt = 2 ∨ (v2).toInt = 3 ∨ (v2).toInt = 4 := by omega
    rcases h8c with h8c | h8c | h8c | h8c | h8c
    · replace hw := hw.1 (i32_of h8c)
      refine g_tableIn (tgt := 56) (off := 35) C.1 dX8_look_21 h8a h8b (by rw [h8c]; rfl) (by decide) ?_
      refine g_aload_n C.1 0 dX8_look_56 rfl rfl ?_
      refine r_g21 C dX8_look_57 ?_
      refine g_bipush (v := 7) C.1 dX8_look_60 (by decide) ?_
      refine g_iload_n C.1 1 dX8_look_62 rfl rfl ?_
      refine g_imul C.1 dX8_look_63 ?_
      refine g_iconst (v := 2) C.1 dX8_look_64 (by decide) ?_
      refine g_iadd C.1 dX8_look_65 ?_
      refine r_ld21 C hw.1 dX8_look_66 ?_
      replace hw := hw.2
      exact hret _ _ _ _ hw rfl dX8_look_67
    · replace hw := hw.2.1 (i32_of h8c)
      refine g_tableIn (tgt := 68) (off := 47) C.1 dX8_look_21 h8a h8b (by rw [h8c]; rfl) (by decide) ?_
      refine g_aload_n C.1 0 dX8_look_68 rfl rfl ?_
      refine r_g21 C dX8_look_69 ?_
      refine g_bipush (v := 7) C.1 dX8_look_72 (by decide) ?_
      refine g_iload_n C.1 1 dX8_look_74 rfl rfl ?_
      refine g_imul C.1 dX8_look_75 ?_
      refine g_iconst (v := 3) C.1 dX8_look_76 (by decide) ?_
      refine g_iadd C.1 dX8_look_77 ?_
      refine r_ld21 C hw.1 dX8_look_78 ?_
      replace hw := hw.2
      exact hret _ _ _ _ hw rfl dX8_look_79
    · replace hw := hw.2.2.1 (i32_of h8c)
      refine g_tableIn (tgt := 80) (off := 59) C.1 dX8_look_21 h8a h8b (by rw [h8c]; rfl) (by decide) ?_
      refine g_aload_n C.1 0 dX8_look_80 rfl rfl ?_
      refine r_g21 C dX8_look_81 ?_
      refine g_bipush (v := 7) C.1 dX8_look_84 (by decide) ?_
      refine g_iload_n C.1 1 dX8_look_86 rfl rfl ?_
      refine g_imul C.1 dX8_look_87 ?_
      refine g_iconst (v := 2) C.1 dX8_look_88 (by decide) ?_
      refine g_iadd C.1 dX8_look_89 ?_
      refine r_ld21 C hw.1 dX8_look_90 ?_
      replace hw := hw.2
      refine g_iconst (v := 2) C.1 dX8_look_91 (by decide) ?_
      refine g_icmp_eq (tgt := 110) C.1 dX8_look_92 (by decide) (fun h9 => ?_) (fun h9 => ?_)
      · replace hw := hw.1 h9
        refine gJ.sub [0, 1] rfl ?_
        exact wkR_look_110 C hsz hR hret _ _ hw
      · replace hw := hw.2 h9
        refine g_aload_n C.1 0 dX8_look_95 rfl rfl ?_
        refine r_g21 C dX8_look_96 ?_
        refine g_bipush (v := 7) C.1 dX8_look_99 (by decide) ?_
        refine g_iload_n C.1 1 dX8_look_101 rfl rfl ?_
        refine g_imul C.1 dX8_look_102 ?_
        refine g_iconst (v := 2) C.1 dX8_look_103 (by decide) ?_
        refine g_iadd C.1 dX8_look_104 ?_
        refine r_ld21 C hw.1 dX8_look_105 ?_
        replace hw := hw.2
        refine g_iconst (v := 3) C.1 dX8_look_106 (by decide) ?_
        refine g_icmp_ne (tgt := 124) C.1 dX8_look_107 (by decide) (fun h10 => ?_) (fun h10 => ?_)
        · replace hw := hw.1 h10
          refine g_iconst (v := 0) C.1 dX8_look_124 (by decide) ?_
          exact hret _ _ _ _ hw rfl dX8_look_125
        · replace hw := hw.2 h10
          refine gJ.sub [0, 1] rfl ?_
          exact wkR_look_110 C hsz hR hret _ _ hw
    · replace hw := hw.2.2.2.1 (i32_of h8c)
      refine g_tableIn (tgt := 126) (off := 105) C.1 dX8_look_21 h8a h8b (by rw [h8c]; rfl) (by decide) ?_
      refine g_aload_n C.1 0 dX8_look_126 rfl rfl ?_
      refine r_g21 C dX8_look_127 ?_
      refine g_bipush (v := 7) C.1 dX8_look_130 (by decide) ?_
      refine g_iload_n C.1 1 dX8_look_132 rfl rfl ?_
      refine g_imul C.1 dX8_look_133 ?_
      refine g_iconst (v := 5) C.1 dX8_look_134 (by decide) ?_
      refine g_iadd C.1 dX8_look_135 ?_
      refine r_ld21 C hw.1 dX8_look_136 ?_
      replace hw := hw.2
      exact hret _ _ _ _ hw rfl dX8_look_137
    · replace hw := hw.2.2.2.2.1 (i32_of h8c)
      refine g_tableIn (tgt := 138) (off := 117) C.1 dX8_look_21 h8a h8b (by rw [h8c]; rfl) (by decide) ?_
      refine g_aload_n C.1 0 dX8_look_138 rfl rfl ?_
      refine r_g21 C dX8_look_139 ?_
      refine g_bipush (v := 7) C.1 dX8_look_142 (by decide) ?_
      refine g_iload_n C.1 1 dX8_look_144 rfl rfl ?_
      refine g_imul C.1 dX8_look_145 ?_
      refine g_bipush (v := 6) C.1 dX8_look_146 (by decide) ?_
      refine g_iadd C.1 dX8_look_148 ?_
      refine r_ld21 C hw.1 dX8_look_149 ?_
      replace hw := hw.2
      exact hret _ _ _ _ hw rfl dX8_look_150
  · replace hw := hw.2 h6
    refine g_iconst (v := 0) C.1 dX8_look_18 (by decide) ?_
    exact hret _ _ _ _ hw rfl dX8_look_19
theorem hdR_look : yX8_look.cls = RX8 ∧ yX8_look.cls ≠ "java/lang/invoke/MethodHandle" ∧ yX8_look.cls ≠ "java/lang/invoke/VarHandle" ∧ (parseMethodDescriptor yX8_look.desc).map (fun d => d.parameters.length) = some 2 := by decide +kernel
theorem cR_look (l : Launch) (G : rG) (s : RSt) (v1 : Int32) (v2 : Int32) (post : Int32 → RSt → Prop) (hw : wpR_look_0 post s v1 v2) : rMi l yX8_look cX8_look 3 .int 2 46 G s [.int v1, .int v2] post := rMi_of (by decide +kernel) rfl (Nat.le_of_ble_eq_true rfl) (fun X A H0 Q hl hR hsz C hret => wkR_look_0 C hsz hR hret s v1 v2 hw)
def wpR_row_34 (post : Int32 → RSt → Prop) (s : RSt) : Prop := post (-1) s
def wpR_row_0 (post : Int32 → RSt → Prop) (s : RSt) (v1 : Int32) (v2 : Int32) : Prop := ∀ s1 : RSt, s1 = rsI s 0 0 → wpR_noLift_0 (fun r3 s2 => wpR_throwsIf_0 (fun r5 s4 => (r5 = 0 → (v2 < 0 → wpR_row_34 post s4) ∧ (¬ v2 < 0 → vp_in v1 8 ∧ (v2 < (s4.2.1 6 v1.toNatClampNeg) → vp_in ((60 * v1) + v2) 480 ∧ post (s4.2.1 5 ((60 * v1) + v2).toNatClampNeg) s4) ∧ (¬ v2 < (s4.2.1 6 v1.toNatClampNeg) → wpR_row_34 post s4))) ∧ (¬ r5 = 0 → post 0 s4)) s2 r3 1) s1 v1
theorem wkR_row_34 {X : gT} {G : rG} {A : Nat → Prop} {H0 : Heap} {Q : State → Prop} (C : rC X cX8_row 3 G A) (hsz : H0 = (g_s X).heap) (hR : 2 ≤ (g_R X).frames ∧ 46 ≤ (g_R X).locals) {post : Int32 → RSt → Prop} (hret : ∀ (r : Int32) (τ : RSt) (lv : List (Nat × Value)) (pc : Nat), post r τ → narrow .int (.int r) = .int r → decode cX8_row pc = .ok (.ireturn, 1) → gJ X (rWd G A H0) Q 0 0 τ lv pc [.int r]) (s : RSt) (hw : wpR_row_34 post s) : gJ X (rWd G A H0) Q 0 0 s [] 34 [] := by
  refine g_iconst (v := (-1)) C.1 dX8_row_34 (by decide) ?_
  refine g_goto (tgt := 49) C.1 dX8_row_35 (by decide) ?_
  exact hret _ _ _ _ hw rfl dX8_row_49
theorem wkR_row_0 {X : gT} {G : rG} {A : Nat → Prop} {H0 : Heap} {Q : State → Prop} (C : rC X cX8_row 3 G A) (hsz : H0 = (g_s X).heap) (hR : 2 ≤ (g_R X).frames ∧ 46 ≤ (g_R X).locals) {post : Int32 → RSt → Prop} (hret : ∀ (r : Int32) (τ : RSt) (lv : List (Nat × Value)) (pc : Nat), post r τ → narrow .int (.int r) = .int r → decode cX8_row pc = .ok (.ireturn, 1) → gJ X (rWd G A H0) Q 0 0 τ lv pc [.int r]) (s : RSt) (v1 : Int32) (v2 : Int32) (hw : wpR_row_0 post s v1 v2) : gJ X (rWd G A H0) Q 0 0 s [(0, .ref (G.2.2.1 0)), (1, .int v1), (2, .int v2)] 0 [] := by
  refine g_aload_n C.1 0 dX8_row_0 rfl rfl ?_
  refine g_iconst (v := 0) C.1 dX8_row_1 (by decide) ?_
  refine r_p0 C dX8_row_2 ?_
  refine gJ.nm (fun s1 es1 => ?_)
  replace hw := hw s1 es1
  refine g_aload_n C.1 0 dX8_row_5 rfl rfl ?_
  refine g_aload_n C.1 0 dX8_row_6 rfl rfl ?_
  refine g_iload_n C.1 1 dX8_row_7 rfl rfl ?_
  refine r_calli C hsz (cR_noLift (g_l X) G s1 _ _ hw) kR_148 kR_149 kR_150 kR_48 hdR_noLift ⟨Nat.le_trans (Nat.le_of_ble_eq_true rfl) hR.1, Nat.le_trans (Nat.le_of_ble_eq_true rfl) hR.2⟩ dX8_row_8 rfl (Nat.le_of_ble_eq_true rfl) (fun r3 s2 hw => ?_)
  refine g_iconst (v := 1) C.1 dX8_row_11 (by decide) ?_
  refine r_calli C hsz (cR_throwsIf (g_l X) G s2 _ _ _ hw) kR_65 kR_66 kR_67 kR_42 hdR_throwsIf ⟨Nat.le_trans (Nat.le_of_ble_eq_true rfl) hR.1, Nat.le_trans (Nat.le_of_ble_eq_true rfl) hR.2⟩ dX8_row_12 rfl (Nat.le_of_ble_eq_true rfl) (fun r5 s4 hw => ?_)
  refine g_if_eq (tgt := 20) C.1 dX8_row_15 (by decide) (fun h6 => ?_) (fun h6 => ?_)
  · replace hw := hw.1 h6
    refine g_iload_n C.1 2 dX8_row_20 rfl rfl ?_
    refine g_if_lt (tgt := 34) C.1 dX8_row_21 (by decide) (fun h7 => ?_) (fun h7 => ?_)
    · replace hw := hw.1 h7
      refine gJ.sub [] rfl ?_
      exact wkR_row_34 C hsz hR hret _ hw
    · replace hw := hw.2 h7
      refine g_iload_n C.1 2 dX8_row_24 rfl rfl ?_
      refine g_aload_n C.1 0 dX8_row_25 rfl rfl ?_
      refine r_g6 C dX8_row_26 ?_
      refine g_iload_n C.1 1 dX8_row_29 rfl rfl ?_
      refine r_ld6 C hw.1 dX8_row_30 ?_
      replace hw := hw.2
      refine g_icmp_lt (tgt := 38) C.1 dX8_row_31 (by decide) (fun h8 => ?_) (fun h8 => ?_)
      · replace hw := hw.1 h8
        refine g_aload_n C.1 0 dX8_row_38 rfl rfl ?_
        refine r_g5 C dX8_row_39 ?_
        refine g_bipush (v := 60) C.1 dX8_row_42 (by decide) ?_
        refine g_iload_n C.1 1 dX8_row_44 rfl rfl ?_
        refine g_imul C.1 dX8_row_45 ?_
        refine g_iload_n C.1 2 dX8_row_46 rfl rfl ?_
        refine g_iadd C.1 dX8_row_47 ?_
        refine r_ld5 C hw.1 dX8_row_48 ?_
        replace hw := hw.2
        exact hret _ _ _ _ hw rfl dX8_row_49
      · replace hw := hw.2 h8
        refine gJ.sub [] rfl ?_
        exact wkR_row_34 C hsz hR hret _ hw
  · replace hw := hw.2 h6
    refine g_iconst (v := 0) C.1 dX8_row_18 (by decide) ?_
    exact hret _ _ _ _ hw rfl dX8_row_19
theorem hdR_row : yX8_row.cls = RX8 ∧ yX8_row.cls ≠ "java/lang/invoke/MethodHandle" ∧ yX8_row.cls ≠ "java/lang/invoke/VarHandle" ∧ (parseMethodDescriptor yX8_row.desc).map (fun d => d.parameters.length) = some 2 := by decide +kernel
theorem cR_row (l : Launch) (G : rG) (s : RSt) (v1 : Int32) (v2 : Int32) (post : Int32 → RSt → Prop) (hw : wpR_row_0 post s v1 v2) : rMi l yX8_row cX8_row 3 .int 2 46 G s [.int v1, .int v2] post := rMi_of (by decide +kernel) rfl (Nat.le_of_ble_eq_true rfl) (fun X A H0 Q hl hR hsz C hret => wkR_row_0 C hsz hR hret s v1 v2 hw)
def wpR_people_57 (post : Int32 → RSt → Prop) (K20 : RSt → Int32 → Int32 → Int32 → Prop) (s : RSt) (v1 : Int32) (v3 : Int32) (w0 : Int32) (w1 : Int32) : Prop := K20 s v1 (w0 + w1) (v3 + 1)
def wpR_people_20_F (post : Int32 → RSt → Prop) (K20 : RSt → Int32 → Int32 → Int32 → Prop) (s : RSt) (v1 : Int32) (v2 : Int32) (v3 : Int32) : Prop := ((s.1 22) ≤ v3 → post v2 s) ∧ (¬ (s.1 22) ≤ v3 → vp_in ((7 * v3) + 2) 420 ∧ (¬ (s.2.1 21 ((7 * v3) + 2).toNatClampNeg) = v1 → wpR_people_57 post K20 s v1 v3 v2 0) ∧ ((s.2.1 21 ((7 * v3) + 2).toNatClampNeg) = v1 → vp_in (7 * v3) 420 ∧ wpR_people_57 post K20 s v1 v3 v2 (s.2.1 21 (7 * v3).toNatClampNeg)))
def wpR_people_20 (post : Int32 → RSt → Prop) (s : RSt) (v1 : Int32) (v2 : Int32) (v3 : Int32) : Prop := gLP (fun (K : RSt × Int32 × Int32 × Int32 → Prop) (x : RSt × Int32 × Int32 × Int32) => wpR_people_20_F post (fun s v1 v2 v3 => K (s, v1, v2, v3)) x.1 x.2.1 x.2.2.1 x.2.2.2) (s, v1, v2, v3)
def wpR_people_0 (post : Int32 → RSt → Prop) (s : RSt) (v1 : Int32) : Prop := ∀ s3 : RSt, s3 = rsI s 0 0 → (v1 < 0 → post (-1) s3) ∧ (¬ v1 < 0 → (v1 ≤ 3 → wpR_people_20 post s3 v1 0 0) ∧ (¬ v1 ≤ 3 → post (-1) s3))
theorem wkR_people_57 {X : gT} {G : rG} {A : Nat → Prop} {H0 : Heap} {Q : State → Prop} (C : rC X cX8_people 4 G A) (hsz : H0 = (g_s X).heap) (hR : 0 ≤ (g_R X).frames ∧ 0 ≤ (g_R X).locals) {post : Int32 → RSt → Prop} (hret : ∀ (r : Int32) (τ : RSt) (lv : List (Nat × Value)) (pc : Nat), post r τ → narrow .int (.int r) = .int r → decode cX8_people pc = .ok (.ireturn, 1) → gJ X (rWd G A H0) Q 0 0 τ lv pc [.int r]) {K20 : RSt → Int32 → Int32 → Int32 → Prop} (hK20 : ∀ (s : RSt) (v1 : Int32) (v2 : Int32) (v3 : Int32), K20 s v1 v2 v3 → gJ X (rWd G A H0) Q 0 0 s [(0, .ref (G.2.2.1 0)), (1, .int v1), (2, .int v2), (3, .int v3)] 20 []) (s : RSt) (v1 : Int32) (v3 : Int32) (w0 : Int32) (w1 : Int32) (hw : wpR_people_57 post K20 s v1 v3 w0 w1) : gJ X (rWd G A H0) Q 0 0 s [(0, .ref (G.2.2.1 0)), (1, .int v1), (3, .int v3)] 57 [.int w1, .int w0] := by
  refine g_iadd C.1 dX8_people_57 ?_
  refine g_istore_n (lv' := [(2, .int (w0 + w1)), (0, .ref (G.2.2.1 0)), (1, .int v1), (3, .int v3)]) C.1 dX8_people_58 rfl (by decide) rfl ?_
  refine g_iinc (v := v3 + 1) (lv' := [(3, .int (v3 + 1)), (2, .int (w0 + w1)), (0, .ref (G.2.2.1 0)), (1, .int v1)]) C.1 3 dX8_people_59 rfl rfl (by decide) rfl ?_
  refine g_goto (tgt := 20) C.1 dX8_people_62 (by decide) ?_
  refine gJ.sub [2, 3, 1, 0] rfl ?_
  exact hK20 _ _ _ _ hw
theorem wkR_people_20_F {X : gT} {G : rG} {A : Nat → Prop} {H0 : Heap} {Q : State → Prop} (C : rC X cX8_people 4 G A) (hsz : H0 = (g_s X).heap) (hR : 0 ≤ (g_R X).frames ∧ 0 ≤ (g_R X).locals) {post : Int32 → RSt → Prop} (hret : ∀ (r : Int32) (τ : RSt) (lv : List (Nat × Value)) (pc : Nat), post r τ → narrow .int (.int r) = .int r → decode cX8_people pc = .ok (.ireturn, 1) → gJ X (rWd G A H0) Q 0 0 τ lv pc [.int r]) {K20 : RSt → Int32 → Int32 → Int32 → Prop} (hK20 : ∀ (s : RSt) (v1 : Int32) (v2 : Int32) (v3 : Int32), K20 s v1 v2 v3 → gJ X (rWd G A H0) Q 0 0 s [(0, .ref (G.2.2.1 0)), (1, .int v1), (2, .int v2), (3, .int v3)] 20 []) (s : RSt) (v1 : Int32) (v2 : Int32) (v3 : Int32) (hw : wpR_people_20_F post K20 s v1 v2 v3) : gJ X (rWd G A H0) Q 0 0 s [(0, .ref (G.2.2.1 0)), (1, .int v1), (2, .int v2), (3, .int v3)] 20 [] := by
  refine g_iload_n C.1 3 dX8_people_20 rfl rfl ?_
  refine g_aload_n C.1 0 dX8_people_21 rfl rfl ?_
  refine r_g22 C dX8_people_22 ?_
  refine g_icmp_ge (tgt := 65) C.1 dX8_people_25 (by decide) (fun h1 => ?_) (fun h1 => ?_)
  · replace hw := hw.1 h1
    refine g_iload_n C.1 2 dX8_people_65 rfl rfl ?_
    exact hret _ _ _ _ hw rfl dX8_people_66
  · replace hw := hw.2 h1
    refine g_iload_n C.1 2 dX8_people_28 rfl rfl ?_
    refine g_aload_n C.1 0 dX8_people_29 rfl rfl ?_
    refine r_g21 C dX8_people_30 ?_
    refine g_bipush (v := 7) C.1 dX8_people_33 (by decide) ?_
    refine g_iload_n C.1 3 dX8_people_35 rfl rfl ?_
    refine g_imul C.1 dX8_people_36 ?_
    refine g_iconst (v := 2) C.1 dX8_people_37 (by decide) ?_
    refine g_iadd C.1 dX8_people_38 ?_
    refine r_ld21 C hw.1 dX8_people_39 ?_
    replace hw := hw.2
    refine g_iload_n C.1 1 dX8_people_40 rfl rfl ?_
    refine g_icmp_ne (tgt := 56) C.1 dX8_people_41 (by decide) (fun h2 => ?_) (fun h2 => ?_)
    · replace hw := hw.1 h2
      refine g_iconst (v := 0) C.1 dX8_people_56 (by decide) ?_
      refine gJ.sub [0, 1, 3] rfl ?_
      exact wkR_people_57 C hsz hR hret hK20 _ _ _ _ _ hw
    · replace hw := hw.2 h2
      refine g_aload_n C.1 0 dX8_people_44 rfl rfl ?_
      refine r_g21 C dX8_people_45 ?_
      refine g_bipush (v := 7) C.1 dX8_people_48 (by decide) ?_
      refine g_iload_n C.1 3 dX8_people_50 rfl rfl ?_
      refine g_imul C.1 dX8_people_51 ?_
      refine r_ld21 C hw.1 dX8_people_52 ?_
      replace hw := hw.2
      refine g_goto (tgt := 57) C.1 dX8_people_53 (by decide) ?_
      refine gJ.sub [0, 1, 3] rfl ?_
      exact wkR_people_57 C hsz hR hret hK20 _ _ _ _ _ hw
theorem wkR_people_20 {X : gT} {G : rG} {A : Nat → Prop} {H0 : Heap} {Q : State → Prop} (C : rC X cX8_people 4 G A) (hsz : H0 = (g_s X).heap) (hR : 0 ≤ (g_R X).frames ∧ 0 ≤ (g_R X).locals) {post : Int32 → RSt → Prop} (hret : ∀ (r : Int32) (τ : RSt) (lv : List (Nat × Value)) (pc : Nat), post r τ → narrow .int (.int r) = .int r → decode cX8_people pc = .ok (.ireturn, 1) → gJ X (rWd G A H0) Q 0 0 τ lv pc [.int r]) (s : RSt) (v1 : Int32) (v2 : Int32) (v3 : Int32) (hw : wpR_people_20 post s v1 v2 v3) : gJ X (rWd G A H0) Q 0 0 s [(0, .ref (G.2.2.1 0)), (1, .int v1), (2, .int v2), (3, .int v3)] 20 [] := 
  hw (fun (x : RSt × Int32 × Int32 × Int32) => (fun s v1 v2 v3 => gJ X (rWd G A H0) Q 0 0 s [(0, .ref (G.2.2.1 0)), (1, .int v1), (2, .int v2), (3, .int v3)] 20 []) x.1 x.2.1 x.2.2.1 x.2.2.2) (fun x hx => wkR_people_20_F C hsz hR hret (K20 := (fun s v1 v2 v3 => gJ X (rWd G A H0) Q 0 0 s [(0, .ref (G.2.2.1 0)), (1, .int v1), (2, .int v2), (3, .int v3)] 20 [])) (fun _ _ _ _ h => h) x.1 x.2.1 x.2.2.1 x.2.2.2 hx)
theorem wkR_people_0 {X : gT} {G : rG} {A : Nat → Prop} {H0 : Heap} {Q : State → Prop} (C : rC X cX8_people 4 G A) (hsz : H0 = (g_s X).heap) (hR : 0 ≤ (g_R X).frames ∧ 0 ≤ (g_R X).locals) {post : Int32 → RSt → Prop} (hret : ∀ (r : Int32) (τ : RSt) (lv : List (Nat × Value)) (pc : Nat), post r τ → narrow .int (.int r) = .int r → decode cX8_people pc = .ok (.ireturn, 1) → gJ X (rWd G A H0) Q 0 0 τ lv pc [.int r]) (s : RSt) (v1 : Int32) (hw : wpR_people_0 post s v1) : gJ X (rWd G A H0) Q 0 0 s [(0, .ref (G.2.2.1 0)), (1, .int v1)] 0 [] := by
  refine g_aload_n C.1 0 dX8_people_0 rfl rfl ?_
  refine g_iconst (v := 0) C.1 dX8_people_1 (by decide) ?_
  refine r_p0 C dX8_people_2 ?_
  refine gJ.nm (fun s3 es3 => ?_)
  replace hw := hw s3 es3
  refine g_iload_n C.1 1 dX8_people_5 rfl rfl ?_
  refine g_if_lt (tgt := 14) C.1 dX8_people_6 (by decide) (fun h4 => ?_) (fun h4 => ?_)
  · replace hw := hw.1 h4
    refine g_iconst (v := (-1)) C.1 dX8_people_14 (by decide) ?_
    exact hret _ _ _ _ hw rfl dX8_people_15
  · replace hw := hw.2 h4
    refine g_iload_n C.1 1 dX8_people_9 rfl rfl ?_
    refine g_iconst (v := 3) C.1 dX8_people_10 (by decide) ?_
    refine g_icmp_le (tgt := 16) C.1 dX8_people_11 (by decide) (fun h5 => ?_) (fun h5 => ?_)
    · replace hw := hw.1 h5
      refine g_iconst (v := 0) C.1 dX8_people_16 (by decide) ?_
      refine g_istore_n (lv' := [(2, .int 0), (0, .ref (G.2.2.1 0)), (1, .int v1)]) C.1 dX8_people_17 rfl (by decide) rfl ?_
      refine g_iconst (v := 0) C.1 dX8_people_18 (by decide) ?_
      refine g_istore_n (lv' := [(3, .int 0), (2, .int 0), (0, .ref (G.2.2.1 0)), (1, .int v1)]) C.1 dX8_people_19 rfl (by decide) rfl ?_
      refine gJ.sub [2, 3, 1, 0] rfl ?_
      exact wkR_people_20 C hsz hR hret _ _ _ _ hw
    · replace hw := hw.2 h5
      refine g_iconst (v := (-1)) C.1 dX8_people_14 (by decide) ?_
      exact hret _ _ _ _ hw rfl dX8_people_15
theorem hdR_people : yX8_people.cls = RX8 ∧ yX8_people.cls ≠ "java/lang/invoke/MethodHandle" ∧ yX8_people.cls ≠ "java/lang/invoke/VarHandle" ∧ (parseMethodDescriptor yX8_people.desc).map (fun d => d.parameters.length) = some 1 := by decide +kernel
theorem cR_people (l : Launch) (G : rG) (s : RSt) (v1 : Int32) (post : Int32 → RSt → Prop) (hw : wpR_people_0 post s v1) : rMi l yX8_people cX8_people 4 .int 0 0 G s [.int v1] post := rMi_of (by decide +kernel) rfl (Nat.le_of_ble_eq_true rfl) (fun X A H0 Q hl hR hsz C hret => wkR_people_0 C hsz hR hret s v1 hw)
def wpR_snow_80 (post : Int32 → RSt → Prop) (s : RSt) (v1 : Int32) (v3 : Int32) (w1 : Int32) : Prop := vp_in w1 5 ∧ vp_in w1 5 ∧ ∀ s1 : RSt, s1 = rsJ s 29 w1.toNatClampNeg ((s.2.2 29 w1.toNatClampNeg) + v3.toInt64) → wpR_depth_0 (fun r3 s2 => post r3 s2) s1 v1
def wpR_snow_61 (post : Int32 → RSt → Prop) (s : RSt) (v1 : Int32) (v2 : Int32) (v3 : Int32) (w1 : Int32) (w2 : Int32) : Prop := vp_in (w1 + w2) 160 ∧ vp_in (w1 + w2) 160 ∧ ∀ s4 : RSt, s4 = rsA s 10 (w1 + w2).toNatClampNeg ((s.2.1 10 (w1 + w2).toNatClampNeg) + v3) → (v2 = 0 → wpR_snow_80 post s4 v1 v3 0) ∧ (¬ v2 = 0 → wpR_snow_80 post s4 v1 v3 1)
def wpR_snow_36 (post : Int32 → RSt → Prop) (s : RSt) (v1 : Int32) (v2 : Int32) (v3 : Int32) (w1 : Int32) : Prop := wpR_throwsIf_0 (fun r7 s6 => (r7 = 0 → (v2 = 0 → wpR_snow_61 post s6 v1 v2 v3 (4 * v1) 0) ∧ (¬ v2 = 0 → wpR_snow_61 post s6 v1 v2 v3 (4 * v1) 1)) ∧ (¬ r7 = 0 → post 0 s6)) s w1 2
def wpR_snow_0 (post : Int32 → RSt → Prop) (s : RSt) (v1 : Int32) (v2 : Int32) (v3 : Int32) : Prop := ∀ s10 : RSt, s10 = rsI s 0 0 → wpR_noCell_0 (fun r12 s11 => wpR_throwsIf_0 (fun r14 s13 => (¬ r14 = 0 → post 0 s13) ∧ (r14 = 0 → wpR_in_0 (fun r16 => (¬ r16 = 0 → wpR_snow_36 post s13 v1 v2 v3 0) ∧ (r16 = 0 → wpR_snow_36 post s13 v1 v2 v3 1)) v3.toInt64 0 100000)) s11 r12 1) s10 v1
theorem wkR_snow_80 {X : gT} {G : rG} {A : Nat → Prop} {H0 : Heap} {Q : State → Prop} (C : rC X cX8_snow 4 G A) (hsz : H0 = (g_s X).heap) (hR : 2 ≤ (g_R X).frames ∧ 46 ≤ (g_R X).locals) {post : Int32 → RSt → Prop} (hret : ∀ (r : Int32) (τ : RSt) (lv : List (Nat × Value)) (pc : Nat), post r τ → narrow .int (.int r) = .int r → decode cX8_snow pc = .ok (.ireturn, 1) → gJ X (rWd G A H0) Q 0 0 τ lv pc [.int r]) (s : RSt) (v1 : Int32) (v3 : Int32) (w1 : Int32) (hw : wpR_snow_80 post s v1 v3 w1) : gJ X (rWd G A H0) Q 0 0 s [(0, .ref (G.2.2.1 0)), (1, .int v1), (3, .int v3)] 80 [.int w1, .ref (G.2.2.1 29)] := by
  refine g_dup2 C.1 dX8_snow_80 rfl rfl ?_
  refine r_ld29 C hw.1 dX8_snow_81 ?_
  replace hw := hw.2
  refine g_iload_n C.1 2 dX8_snow_82 rfl rfl ?_
  refine g_i2l C.1 dX8_snow_83 ?_
  refine g_ladd C.1 dX8_snow_84 ?_
  refine r_st29 C hw.1 dX8_snow_85 ?_
  replace hw := hw.2
  refine gJ.nm (fun s1 es1 => ?_)
  replace hw := hw s1 es1
  refine g_aload_n C.1 0 dX8_snow_86 rfl rfl ?_
  refine g_iload_n C.1 1 dX8_snow_87 rfl rfl ?_
  refine r_calli C hsz (cR_depth (g_l X) G s1 _ _ hw) kR_195 kR_196 kR_197 kR_193 hdR_depth ⟨Nat.le_trans (Nat.le_of_ble_eq_true rfl) hR.1, Nat.le_trans (Nat.le_of_ble_eq_true rfl) hR.2⟩ dX8_snow_88 rfl (Nat.le_of_ble_eq_true rfl) (fun r3 s2 hw => ?_)
  exact hret _ _ _ _ hw rfl dX8_snow_91
theorem wkR_snow_61 {X : gT} {G : rG} {A : Nat → Prop} {H0 : Heap} {Q : State → Prop} (C : rC X cX8_snow 4 G A) (hsz : H0 = (g_s X).heap) (hR : 2 ≤ (g_R X).frames ∧ 46 ≤ (g_R X).locals) {post : Int32 → RSt → Prop} (hret : ∀ (r : Int32) (τ : RSt) (lv : List (Nat × Value)) (pc : Nat), post r τ → narrow .int (.int r) = .int r → decode cX8_snow pc = .ok (.ireturn, 1) → gJ X (rWd G A H0) Q 0 0 τ lv pc [.int r]) (s : RSt) (v1 : Int32) (v2 : Int32) (v3 : Int32) (w1 : Int32) (w2 : Int32) (hw : wpR_snow_61 post s v1 v2 v3 w1 w2) : gJ X (rWd G A H0) Q 0 0 s [(0, .ref (G.2.2.1 0)), (1, .int v1), (2, .int v2), (3, .int v3)] 61 [.int w2, .int w1, .ref (G.2.2.1 10)] := by
  refine g_iadd C.1 dX8_snow_61 ?_
  refine g_dup2 C.1 dX8_snow_62 rfl rfl ?_
  refine r_ld10 C hw.1 dX8_snow_63 ?_
  replace hw := hw.2
  refine g_iload_n C.1 3 dX8_snow_64 rfl rfl ?_
  refine g_iadd C.1 dX8_snow_65 ?_
  refine r_st10 C hw.1 dX8_snow_66 ?_
  replace hw := hw.2
  refine gJ.nm (fun s4 es4 => ?_)
  replace hw := hw s4 es4
  refine g_aload_n C.1 0 dX8_snow_67 rfl rfl ?_
  refine r_g29 C dX8_snow_68 ?_
  refine g_iload_n C.1 2 dX8_snow_71 rfl rfl ?_
  refine g_if_eq (tgt := 79) C.1 dX8_snow_72 (by decide) (fun h5 => ?_) (fun h5 => ?_)
  · replace hw := hw.1 h5
    refine g_iconst (v := 0) C.1 dX8_snow_79 (by decide) ?_
    refine gJ.sub [0, 1, 3] rfl ?_
    exact wkR_snow_80 C hsz hR hret _ _ _ _ hw
  · replace hw := hw.2 h5
    refine g_iconst (v := 1) C.1 dX8_snow_75 (by decide) ?_
    refine g_goto (tgt := 80) C.1 dX8_snow_76 (by decide) ?_
    refine gJ.sub [0, 1, 3] rfl ?_
    exact wkR_snow_80 C hsz hR hret _ _ _ _ hw
theorem wkR_snow_36 {X : gT} {G : rG} {A : Nat → Prop} {H0 : Heap} {Q : State → Prop} (C : rC X cX8_snow 4 G A) (hsz : H0 = (g_s X).heap) (hR : 2 ≤ (g_R X).frames ∧ 46 ≤ (g_R X).locals) {post : Int32 → RSt → Prop} (hret : ∀ (r : Int32) (τ : RSt) (lv : List (Nat × Value)) (pc : Nat), post r τ → narrow .int (.int r) = .int r → decode cX8_snow pc = .ok (.ireturn, 1) → gJ X (rWd G A H0) Q 0 0 τ lv pc [.int r]) (s : RSt) (v1 : Int32) (v2 : Int32) (v3 : Int32) (w1 : Int32) (hw : wpR_snow_36 post s v1 v2 v3 w1) : gJ X (rWd G A H0) Q 0 0 s [(0, .ref (G.2.2.1 0)), (1, .int v1), (2, .int v2), (3, .int v3)] 36 [.int w1, .ref (G.2.2.1 0)] := by
  refine g_iconst (v := 2) C.1 dX8_snow_36 (by decide) ?_
  refine r_calli C hsz (cR_throwsIf (g_l X) G s _ _ _ hw) kR_65 kR_66 kR_67 kR_42 hdR_throwsIf ⟨Nat.le_trans (Nat.le_of_ble_eq_true rfl) hR.1, Nat.le_trans (Nat.le_of_ble_eq_true rfl) hR.2⟩ dX8_snow_37 rfl (Nat.le_of_ble_eq_true rfl) (fun r7 s6 hw => ?_)
  refine g_if_eq (tgt := 45) C.1 dX8_snow_40 (by decide) (fun h8 => ?_) (fun h8 => ?_)
  · replace hw := hw.1 h8
    refine g_aload_n C.1 0 dX8_snow_45 rfl rfl ?_
    refine r_g10 C dX8_snow_46 ?_
    refine g_iconst (v := 4) C.1 dX8_snow_49 (by decide) ?_
    refine g_iload_n C.1 1 dX8_snow_50 rfl rfl ?_
    refine g_imul C.1 dX8_snow_51 ?_
    refine g_iload_n C.1 2 dX8_snow_52 rfl rfl ?_
    refine g_if_eq (tgt := 60) C.1 dX8_snow_53 (by decide) (fun h9 => ?_) (fun h9 => ?_)
    · replace hw := hw.1 h9
      refine g_iconst (v := 0) C.1 dX8_snow_60 (by decide) ?_
      exact wkR_snow_61 C hsz hR hret _ _ _ _ _ _ hw
    · replace hw := hw.2 h9
      refine g_iconst (v := 1) C.1 dX8_snow_56 (by decide) ?_
      refine g_goto (tgt := 61) C.1 dX8_snow_57 (by decide) ?_
      exact wkR_snow_61 C hsz hR hret _ _ _ _ _ _ hw
  · replace hw := hw.2 h8
    refine g_iconst (v := 0) C.1 dX8_snow_43 (by decide) ?_
    exact hret _ _ _ _ hw rfl dX8_snow_44
theorem wkR_snow_0 {X : gT} {G : rG} {A : Nat → Prop} {H0 : Heap} {Q : State → Prop} (C : rC X cX8_snow 4 G A) (hsz : H0 = (g_s X).heap) (hR : 2 ≤ (g_R X).frames ∧ 46 ≤ (g_R X).locals) {post : Int32 → RSt → Prop} (hret : ∀ (r : Int32) (τ : RSt) (lv : List (Nat × Value)) (pc : Nat), post r τ → narrow .int (.int r) = .int r → decode cX8_snow pc = .ok (.ireturn, 1) → gJ X (rWd G A H0) Q 0 0 τ lv pc [.int r]) (s : RSt) (v1 : Int32) (v2 : Int32) (v3 : Int32) (hw : wpR_snow_0 post s v1 v2 v3) : gJ X (rWd G A H0) Q 0 0 s [(0, .ref (G.2.2.1 0)), (1, .int v1), (2, .int v2), (3, .int v3)] 0 [] := by
  refine g_aload_n C.1 0 dX8_snow_0 rfl rfl ?_
  refine g_iconst (v := 0) C.1 dX8_snow_1 (by decide) ?_
  refine r_p0 C dX8_snow_2 ?_
  refine gJ.nm (fun s10 es10 => ?_)
  replace hw := hw s10 es10
  refine g_aload_n C.1 0 dX8_snow_5 rfl rfl ?_
  refine g_aload_n C.1 0 dX8_snow_6 rfl rfl ?_
  refine g_iload_n C.1 1 dX8_snow_7 rfl rfl ?_
  refine r_calli C hsz (cR_noCell (g_l X) G s10 _ _ hw) kR_255 kR_256 kR_257 kR_52 hdR_noCell ⟨Nat.le_trans (Nat.le_of_ble_eq_true rfl) hR.1, Nat.le_trans (Nat.le_of_ble_eq_true rfl) hR.2⟩ dX8_snow_8 rfl (Nat.le_of_ble_eq_true rfl) (fun r12 s11 hw => ?_)
  refine g_iconst (v := 1) C.1 dX8_snow_11 (by decide) ?_
  refine r_calli C hsz (cR_throwsIf (g_l X) G s11 _ _ _ hw) kR_65 kR_66 kR_67 kR_42 hdR_throwsIf ⟨Nat.le_trans (Nat.le_of_ble_eq_true rfl) hR.1, Nat.le_trans (Nat.le_of_ble_eq_true rfl) hR.2⟩ dX8_snow_12 rfl (Nat.le_of_ble_eq_true rfl) (fun r14 s13 hw => ?_)
  refine g_if_ne (tgt := 43) C.1 dX8_snow_15 (by decide) (fun h15 => ?_) (fun h15 => ?_)
  · replace hw := hw.1 h15
    refine g_iconst (v := 0) C.1 dX8_snow_43 (by decide) ?_
    exact hret _ _ _ _ hw rfl dX8_snow_44
  · replace hw := hw.2 h15
    refine g_aload_n C.1 0 dX8_snow_18 rfl rfl ?_
    refine g_iload_n C.1 3 dX8_snow_19 rfl rfl ?_
    refine g_i2l C.1 dX8_snow_20 ?_
    refine g_lconst (v := 0) C.1 dX8_snow_21 (by decide) ?_
    refine g_ldc2 (v := 100000) C.1 C.2.1 (C.2.2.1 _ kR_254) dX8_snow_22 ?_
    refine g_callSi (rC.s C) (cR_in (g_l X) _ _ _ _ hw) kR_45 kR_46 kR_43 hdR_in ⟨Nat.le_trans (Nat.le_of_ble_eq_true rfl) hR.1, Nat.le_trans (Nat.le_of_ble_eq_true rfl) hR.2⟩ dX8_snow_25 rfl (Nat.le_of_ble_eq_true rfl) (fun r16 hw => ?_)
    refine g_if_ne (tgt := 35) C.1 dX8_snow_28 (by decide) (fun h17 => ?_) (fun h17 => ?_)
    · replace hw := hw.1 h17
      refine g_iconst (v := 0) C.1 dX8_snow_35 (by decide) ?_
      exact wkR_snow_36 C hsz hR hret _ _ _ _ _ hw
    · replace hw := hw.2 h17
      refine g_iconst (v := 1) C.1 dX8_snow_31 (by decide) ?_
      refine g_goto (tgt := 36) C.1 dX8_snow_32 (by decide) ?_
      exact wkR_snow_36 C hsz hR hret _ _ _ _ _ hw
theorem hdR_snow : yX8_snow.cls = RX8 ∧ yX8_snow.cls ≠ "java/lang/invoke/MethodHandle" ∧ yX8_snow.cls ≠ "java/lang/invoke/VarHandle" ∧ (parseMethodDescriptor yX8_snow.desc).map (fun d => d.parameters.length) = some 3 := by decide +kernel
theorem cR_snow (l : Launch) (G : rG) (s : RSt) (v1 : Int32) (v2 : Int32) (v3 : Int32) (post : Int32 → RSt → Prop) (hw : wpR_snow_0 post s v1 v2 v3) : rMi l yX8_snow cX8_snow 4 .int 2 46 G s [.int v1, .int v2, .int v3] post := rMi_of (by decide +kernel) rfl (Nat.le_of_ble_eq_true rfl) (fun X A H0 Q hl hR hsz C hret => wkR_snow_0 C hsz hR hret s v1 v2 v3 hw)
def wpR_melt_90 (post : Int32 → RSt → Prop) (K50 : RSt → Int32 → Int32 → Int32 → Int32 → Prop) (s : RSt) (v1 : Int32) (v2 : Int32) (v3 : Int32) (v4 : Int32) (w0 : Int32) : Prop := vp_in ((4 * v1) + v4) 160 ∧ vp_in ((4 * v1) + v4) 160 ∧ ∀ s1 : RSt, s1 = rsA s 10 ((4 * v1) + v4).toNatClampNeg ((s.2.1 10 ((4 * v1) + v4).toNatClampNeg) - w0) → K50 s1 v1 v2 (v3 + w0) (v4 + 1)
def wpR_melt_50_F (post : Int32 → RSt → Prop) (K50 : RSt → Int32 → Int32 → Int32 → Int32 → Prop) (s : RSt) (v1 : Int32) (v2 : Int32) (v3 : Int32) (v4 : Int32) : Prop := (4 ≤ v4 → vp_in 2 5 ∧ vp_in 2 5 ∧ ∀ s3 : RSt, s3 = rsJ s 29 (2 : Int32).toNatClampNeg ((s.2.2 29 (2 : Int32).toNatClampNeg) + v3.toInt64) → post v3 s3) ∧ (¬ 4 ≤ v4 → vp_in ((4 * v1) + v4) 160 ∧ ((s.2.1 10 ((4 * v1) + v4).toNatClampNeg) ≤ (v2 - v3) → vp_in ((4 * v1) + v4) 160 ∧ wpR_melt_90 post K50 s v1 v2 v3 v4 (s.2.1 10 ((4 * v1) + v4).toNatClampNeg)) ∧ (¬ (s.2.1 10 ((4 * v1) + v4).toNatClampNeg) ≤ (v2 - v3) → wpR_melt_90 post K50 s v1 v2 v3 v4 (v2 - v3)))
def wpR_melt_50 (post : Int32 → RSt → Prop) (s : RSt) (v1 : Int32) (v2 : Int32) (v3 : Int32) (v4 : Int32) : Prop := gLP (fun (K : RSt × Int32 × Int32 × Int32 × Int32 → Prop) (x : RSt × Int32 × Int32 × Int32 × Int32) => wpR_melt_50_F post (fun s v1 v2 v3 v4 => K (s, v1, v2, v3, v4)) x.1 x.2.1 x.2.2.1 x.2.2.2.1 x.2.2.2.2) (s, v1, v2, v3, v4)
def wpR_melt_36 (post : Int32 → RSt → Prop) (s : RSt) (v1 : Int32) (v2 : Int32) (w1 : Int32) : Prop := wpR_throwsIf_0 (fun r6 s5 => (r6 = 0 → wpR_melt_50 post s5 v1 v2 0 0) ∧ (¬ r6 = 0 → post 0 s5)) s w1 2
def wpR_melt_0 (post : Int32 → RSt → Prop) (s : RSt) (v1 : Int32) (v2 : Int32) : Prop := ∀ s8 : RSt, s8 = rsI s 0 0 → wpR_noCell_0 (fun r10 s9 => wpR_throwsIf_0 (fun r12 s11 => (¬ r12 = 0 → post 0 s11) ∧ (r12 = 0 → wpR_in_0 (fun r14 => (¬ r14 = 0 → wpR_melt_36 post s11 v1 v2 0) ∧ (r14 = 0 → wpR_melt_36 post s11 v1 v2 1)) v2.toInt64 0 1000000)) s9 r10 1) s8 v1
theorem wkR_melt_90 {X : gT} {G : rG} {A : Nat → Prop} {H0 : Heap} {Q : State → Prop} (C : rC X cX8_melt 6 G A) (hsz : H0 = (g_s X).heap) (hR : 2 ≤ (g_R X).frames ∧ 46 ≤ (g_R X).locals) {post : Int32 → RSt → Prop} (hret : ∀ (r : Int32) (τ : RSt) (lv : List (Nat × Value)) (pc : Nat), post r τ → narrow .int (.int r) = .int r → decode cX8_melt pc = .ok (.ireturn, 1) → gJ X (rWd G A H0) Q 0 0 τ lv pc [.int r]) {K50 : RSt → Int32 → Int32 → Int32 → Int32 → Prop} (hK50 : ∀ (s : RSt) (v1 : Int32) (v2 : Int32) (v3 : Int32) (v4 : Int32), K50 s v1 v2 v3 v4 → gJ X (rWd G A H0) Q 0 0 s [(0, .ref (G.2.2.1 0)), (1, .int v1), (2, .int v2), (3, .int v3), (4, .int v4)] 50 []) (s : RSt) (v1 : Int32) (v2 : Int32) (v3 : Int32) (v4 : Int32) (w0 : Int32) (hw : wpR_melt_90 post K50 s v1 v2 v3 v4 w0) : gJ X (rWd G A H0) Q 0 0 s [(0, .ref (G.2.2.1 0)), (1, .int v1), (2, .int v2), (3, .int v3), (4, .int v4)] 90 [.int w0] := by
  refine g_istore (lv' := [(5, .int w0), (0, .ref (G.2.2.1 0)), (1, .int v1), (2, .int v2), (3, .int v3), (4, .int v4)]) C.1 dX8_melt_90 (by decide) rfl ?_
  refine g_aload_n C.1 1 dX8_melt_92 rfl rfl ?_
  refine r_g10 C dX8_melt_93 ?_
  refine g_iconst (v := 4) C.1 dX8_melt_96 (by decide) ?_
  refine g_iload_n C.1 2 dX8_melt_97 rfl rfl ?_
  refine g_imul C.1 dX8_melt_98 ?_
  refine g_iload C.1 5 dX8_melt_99 rfl ?_
  refine g_iadd C.1 dX8_melt_101 ?_
  refine g_dup2 C.1 dX8_melt_102 rfl rfl ?_
  refine r_ld10 C hw.1 dX8_melt_103 ?_
  replace hw := hw.2
  refine g_iload C.1 0 dX8_melt_104 rfl ?_
  refine g_isub C.1 dX8_melt_106 ?_
  refine r_st10 C hw.1 dX8_melt_107 ?_
  replace hw := hw.2
  refine gJ.nm (fun s1 es1 => ?_)
  replace hw := hw s1 es1
  refine g_iload_n C.1 4 dX8_melt_108 rfl rfl ?_
  refine g_iload C.1 0 dX8_melt_109 rfl ?_
  refine g_iadd C.1 dX8_melt_111 ?_
  refine g_istore_n (lv' := [(3, .int (v3 + w0)), (5, .int w0), (0, .ref (G.2.2.1 0)), (1, .int v1), (2, .int v2), (4, .int v4)]) C.1 dX8_melt_112 rfl (by decide) rfl ?_
  refine g_iinc (v := v4 + 1) (lv' := [(4, .int (v4 + 1)), (3, .int (v3 + w0)), (5, .int w0), (0, .ref (G.2.2.1 0)), (1, .int v1), (2, .int v2)]) C.1 5 dX8_melt_113 rfl rfl (by decide) rfl ?_
  refine g_goto (tgt := 50) C.1 dX8_melt_116 (by decide) ?_
  refine gJ.sub [3, 4, 5, 1, 0] rfl ?_
  exact hK50 _ _ _ _ _ hw
theorem wkR_melt_50_F {X : gT} {G : rG} {A : Nat → Prop} {H0 : Heap} {Q : State → Prop} (C : rC X cX8_melt 6 G A) (hsz : H0 = (g_s X).heap) (hR : 2 ≤ (g_R X).frames ∧ 46 ≤ (g_R X).locals) {post : Int32 → RSt → Prop} (hret : ∀ (r : Int32) (τ : RSt) (lv : List (Nat × Value)) (pc : Nat), post r τ → narrow .int (.int r) = .int r → decode cX8_melt pc = .ok (.ireturn, 1) → gJ X (rWd G A H0) Q 0 0 τ lv pc [.int r]) {K50 : RSt → Int32 → Int32 → Int32 → Int32 → Prop} (hK50 : ∀ (s : RSt) (v1 : Int32) (v2 : Int32) (v3 : Int32) (v4 : Int32), K50 s v1 v2 v3 v4 → gJ X (rWd G A H0) Q 0 0 s [(0, .ref (G.2.2.1 0)), (1, .int v1), (2, .int v2), (3, .int v3), (4, .int v4)] 50 []) (s : RSt) (v1 : Int32) (v2 : Int32) (v3 : Int32) (v4 : Int32) (hw : wpR_melt_50_F post K50 s v1 v2 v3 v4) : gJ X (rWd G A H0) Q 0 0 s [(0, .ref (G.2.2.1 0)), (1, .int v1), (2, .int v2), (3, .int v3), (4, .int v4)] 50 [] := by
  refine g_iload C.1 4 dX8_melt_50 rfl ?_
  refine g_iconst (v := 4) C.1 dX8_melt_52 (by decide) ?_
  refine g_icmp_ge (tgt := 119) C.1 dX8_melt_53 (by decide) (fun h2 => ?_) (fun h2 => ?_)
  · replace hw := hw.1 h2
    refine g_aload_n C.1 0 dX8_melt_119 rfl rfl ?_
    refine r_g29 C dX8_melt_120 ?_
    refine g_iconst (v := 2) C.1 dX8_melt_123 (by decide) ?_
    refine g_dup2 C.1 dX8_melt_124 rfl rfl ?_
    refine r_ld29 C hw.1 dX8_melt_125 ?_
    replace hw := hw.2
    refine g_iload_n C.1 3 dX8_melt_126 rfl rfl ?_
    refine g_i2l C.1 dX8_melt_127 ?_
    refine g_ladd C.1 dX8_melt_128 ?_
    refine r_st29 C hw.1 dX8_melt_129 ?_
    replace hw := hw.2
    refine gJ.nm (fun s3 es3 => ?_)
    replace hw := hw s3 es3
    refine g_iload_n C.1 3 dX8_melt_130 rfl rfl ?_
    exact hret _ _ _ _ hw rfl dX8_melt_131
  · replace hw := hw.2 h2
    refine g_iload_n C.1 2 dX8_melt_56 rfl rfl ?_
    refine g_iload_n C.1 3 dX8_melt_57 rfl rfl ?_
    refine g_isub C.1 dX8_melt_58 ?_
    refine g_aload_n C.1 0 dX8_melt_59 rfl rfl ?_
    refine r_g10 C dX8_melt_60 ?_
    refine g_iconst (v := 4) C.1 dX8_melt_63 (by decide) ?_
    refine g_iload_n C.1 1 dX8_melt_64 rfl rfl ?_
    refine g_imul C.1 dX8_melt_65 ?_
    refine g_iload C.1 4 dX8_melt_66 rfl ?_
    refine g_iadd C.1 dX8_melt_68 ?_
    refine r_ld10 C hw.1 dX8_melt_69 ?_
    replace hw := hw.2
    refine g_icmp_ge (tgt := 79) C.1 dX8_melt_70 (by decide) (fun h4 => ?_) (fun h4 => ?_)
    · replace hw := hw.1 h4
      refine g_aload_n C.1 0 dX8_melt_79 rfl rfl ?_
      refine r_g10 C dX8_melt_80 ?_
      refine g_iconst (v := 4) C.1 dX8_melt_83 (by decide) ?_
      refine g_iload_n C.1 1 dX8_melt_84 rfl rfl ?_
      refine g_imul C.1 dX8_melt_85 ?_
      refine g_iload C.1 4 dX8_melt_86 rfl ?_
      refine g_iadd C.1 dX8_melt_88 ?_
      refine r_ld10 C hw.1 dX8_melt_89 ?_
      replace hw := hw.2
      exact wkR_melt_90 C hsz hR hret hK50 _ _ _ _ _ _ hw
    · replace hw := hw.2 h4
      refine g_iload_n C.1 2 dX8_melt_73 rfl rfl ?_
      refine g_iload_n C.1 3 dX8_melt_74 rfl rfl ?_
      refine g_isub C.1 dX8_melt_75 ?_
      refine g_goto (tgt := 90) C.1 dX8_melt_76 (by decide) ?_
      exact wkR_melt_90 C hsz hR hret hK50 _ _ _ _ _ _ hw
theorem wkR_melt_50 {X : gT} {G : rG} {A : Nat → Prop} {H0 : Heap} {Q : State → Prop} (C : rC X cX8_melt 6 G A) (hsz : H0 = (g_s X).heap) (hR : 2 ≤ (g_R X).frames ∧ 46 ≤ (g_R X).locals) {post : Int32 → RSt → Prop} (hret : ∀ (r : Int32) (τ : RSt) (lv : List (Nat × Value)) (pc : Nat), post r τ → narrow .int (.int r) = .int r → decode cX8_melt pc = .ok (.ireturn, 1) → gJ X (rWd G A H0) Q 0 0 τ lv pc [.int r]) (s : RSt) (v1 : Int32) (v2 : Int32) (v3 : Int32) (v4 : Int32) (hw : wpR_melt_50 post s v1 v2 v3 v4) : gJ X (rWd G A H0) Q 0 0 s [(0, .ref (G.2.2.1 0)), (1, .int v1), (2, .int v2), (3, .int v3), (4, .int v4)] 50 [] := 
  hw (fun (x : RSt × Int32 × Int32 × Int32 × Int32) => (fun s v1 v2 v3 v4 => gJ X (rWd G A H0) Q 0 0 s [(0, .ref (G.2.2.1 0)), (1, .int v1), (2, .int v2), (3, .int v3), (4, .int v4)] 50 []) x.1 x.2.1 x.2.2.1 x.2.2.2.1 x.2.2.2.2) (fun x hx => wkR_melt_50_F C hsz hR hret (K50 := (fun s v1 v2 v3 v4 => gJ X (rWd G A H0) Q 0 0 s [(0, .ref (G.2.2.1 0)), (1, .int v1), (2, .int v2), (3, .int v3), (4, .int v4)] 50 [])) (fun _ _ _ _ _ h => h) x.1 x.2.1 x.2.2.1 x.2.2.2.1 x.2.2.2.2 hx)
theorem wkR_melt_36 {X : gT} {G : rG} {A : Nat → Prop} {H0 : Heap} {Q : State → Prop} (C : rC X cX8_melt 6 G A) (hsz : H0 = (g_s X).heap) (hR : 2 ≤ (g_R X).frames ∧ 46 ≤ (g_R X).locals) {post : Int32 → RSt → Prop} (hret : ∀ (r : Int32) (τ : RSt) (lv : List (Nat × Value)) (pc : Nat), post r τ → narrow .int (.int r) = .int r → decode cX8_melt pc = .ok (.ireturn, 1) → gJ X (rWd G A H0) Q 0 0 τ lv pc [.int r]) (s : RSt) (v1 : Int32) (v2 : Int32) (w1 : Int32) (hw : wpR_melt_36 post s v1 v2 w1) : gJ X (rWd G A H0) Q 0 0 s [(0, .ref (G.2.2.1 0)), (1, .int v1), (2, .int v2)] 36 [.int w1, .ref (G.2.2.1 0)] := by
  refine g_iconst (v := 2) C.1 dX8_melt_36 (by decide) ?_
  refine r_calli C hsz (cR_throwsIf (g_l X) G s _ _ _ hw) kR_65 kR_66 kR_67 kR_42 hdR_throwsIf ⟨Nat.le_trans (Nat.le_of_ble_eq_true rfl) hR.1, Nat.le_trans (Nat.le_of_ble_eq_true rfl) hR.2⟩ dX8_melt_37 rfl (Nat.le_of_ble_eq_true rfl) (fun r6 s5 hw => ?_)
  refine g_if_eq (tgt := 45) C.1 dX8_melt_40 (by decide) (fun h7 => ?_) (fun h7 => ?_)
  · replace hw := hw.1 h7
    refine g_iconst (v := 0) C.1 dX8_melt_45 (by decide) ?_
    refine g_istore_n (lv' := [(3, .int 0), (0, .ref (G.2.2.1 0)), (1, .int v1), (2, .int v2)]) C.1 dX8_melt_46 rfl (by decide) rfl ?_
    refine g_iconst (v := 0) C.1 dX8_melt_47 (by decide) ?_
    refine g_istore (lv' := [(4, .int 0), (3, .int 0), (0, .ref (G.2.2.1 0)), (1, .int v1), (2, .int v2)]) C.1 dX8_melt_48 (by decide) rfl ?_
    refine gJ.sub [2, 3, 4, 1, 0] rfl ?_
    exact wkR_melt_50 C hsz hR hret _ _ _ _ _ hw
  · replace hw := hw.2 h7
    refine g_iconst (v := 0) C.1 dX8_melt_43 (by decide) ?_
    exact hret _ _ _ _ hw rfl dX8_melt_44
theorem wkR_melt_0 {X : gT} {G : rG} {A : Nat → Prop} {H0 : Heap} {Q : State → Prop} (C : rC X cX8_melt 6 G A) (hsz : H0 = (g_s X).heap) (hR : 2 ≤ (g_R X).frames ∧ 46 ≤ (g_R X).locals) {post : Int32 → RSt → Prop} (hret : ∀ (r : Int32) (τ : RSt) (lv : List (Nat × Value)) (pc : Nat), post r τ → narrow .int (.int r) = .int r → decode cX8_melt pc = .ok (.ireturn, 1) → gJ X (rWd G A H0) Q 0 0 τ lv pc [.int r]) (s : RSt) (v1 : Int32) (v2 : Int32) (hw : wpR_melt_0 post s v1 v2) : gJ X (rWd G A H0) Q 0 0 s [(0, .ref (G.2.2.1 0)), (1, .int v1), (2, .int v2)] 0 [] := by
  refine g_aload_n C.1 0 dX8_melt_0 rfl rfl ?_
  refine g_iconst (v := 0) C.1 dX8_melt_1 (by decide) ?_
  refine r_p0 C dX8_melt_2 ?_
  refine gJ.nm (fun s8 es8 => ?_)
  replace hw := hw s8 es8
  refine g_aload_n C.1 0 dX8_melt_5 rfl rfl ?_
  refine g_aload_n C.1 0 dX8_melt_6 rfl rfl ?_
  refine g_iload_n C.1 1 dX8_melt_7 rfl rfl ?_
  refine r_calli C hsz (cR_noCell (g_l X) G s8 _ _ hw) kR_255 kR_256 kR_257 kR_52 hdR_noCell ⟨Nat.le_trans (Nat.le_of_ble_eq_true rfl) hR.1, Nat.le_trans (Nat.le_of_ble_eq_true rfl) hR.2⟩ dX8_melt_8 rfl (Nat.le_of_ble_eq_true rfl) (fun r10 s9 hw => ?_)
  refine g_iconst (v := 1) C.1 dX8_melt_11 (by decide) ?_
  refine r_calli C hsz (cR_throwsIf (g_l X) G s9 _ _ _ hw) kR_65 kR_66 kR_67 kR_42 hdR_throwsIf ⟨Nat.le_trans (Nat.le_of_ble_eq_true rfl) hR.1, Nat.le_trans (Nat.le_of_ble_eq_true rfl) hR.2⟩ dX8_melt_12 rfl (Nat.le_of_ble_eq_true rfl) (fun r12 s11 hw => ?_)
  refine g_if_ne (tgt := 43) C.1 dX8_melt_15 (by decide) (fun h13 => ?_) (fun h13 => ?_)
  · replace hw := hw.1 h13
    refine g_iconst (v := 0) C.1 dX8_melt_43 (by decide) ?_
    exact hret _ _ _ _ hw rfl dX8_melt_44
  · replace hw := hw.2 h13
    refine g_aload_n C.1 0 dX8_melt_18 rfl rfl ?_
    refine g_iload_n C.1 2 dX8_melt_19 rfl rfl ?_
    refine g_i2l C.1 dX8_melt_20 ?_
    refine g_lconst (v := 0) C.1 dX8_melt_21 (by decide) ?_
    refine g_ldc2 (v := 1000000) C.1 C.2.1 (C.2.2.1 _ kR_259) dX8_melt_22 ?_
    refine g_callSi (rC.s C) (cR_in (g_l X) _ _ _ _ hw) kR_45 kR_46 kR_43 hdR_in ⟨Nat.le_trans (Nat.le_of_ble_eq_true rfl) hR.1, Nat.le_trans (Nat.le_of_ble_eq_true rfl) hR.2⟩ dX8_melt_25 rfl (Nat.le_of_ble_eq_true rfl) (fun r14 hw => ?_)
    refine g_if_ne (tgt := 35) C.1 dX8_melt_28 (by decide) (fun h15 => ?_) (fun h15 => ?_)
    · replace hw := hw.1 h15
      refine g_iconst (v := 0) C.1 dX8_melt_35 (by decide) ?_
      exact wkR_melt_36 C hsz hR hret _ _ _ _ hw
    · replace hw := hw.2 h15
      refine g_iconst (v := 1) C.1 dX8_melt_31 (by decide) ?_
      refine g_goto (tgt := 36) C.1 dX8_melt_32 (by decide) ?_
      exact wkR_melt_36 C hsz hR hret _ _ _ _ hw
theorem hdR_melt : yX8_melt.cls = RX8 ∧ yX8_melt.cls ≠ "java/lang/invoke/MethodHandle" ∧ yX8_melt.cls ≠ "java/lang/invoke/VarHandle" ∧ (parseMethodDescriptor yX8_melt.desc).map (fun d => d.parameters.length) = some 2 := by decide +kernel
theorem cR_melt (l : Launch) (G : rG) (s : RSt) (v1 : Int32) (v2 : Int32) (post : Int32 → RSt → Prop) (hw : wpR_melt_0 post s v1 v2) : rMi l yX8_melt cX8_melt 6 .int 2 46 G s [.int v1, .int v2] post := rMi_of (by decide +kernel) rfl (Nat.le_of_ble_eq_true rfl) (fun X A H0 Q hl hR hsz C hret => wkR_melt_0 C hsz hR hret s v1 v2 hw)
def wpR_push_69 (post : Int32 → RSt → Prop) (K42 : RSt → Int32 → Int32 → Int32 → Int32 → Prop) (s : RSt) (v1 : Int32) (v2 : Int32) (v3 : Int32) (v4 : Int32) (w1 : Int32) (w2 : Int32) : Prop := vp_in w1 160 ∧ ∀ s1 : RSt, s1 = rsA s 10 w1.toNatClampNeg w2 → K42 s1 v1 v2 v3 (v4 + 1)
def wpR_push_42_F (post : Int32 → RSt → Prop) (K42 : RSt → Int32 → Int32 → Int32 → Int32 → Prop) (s : RSt) (v1 : Int32) (v2 : Int32) (v3 : Int32) (v4 : Int32) : Prop := (4 ≤ v4 → post v3 s) ∧ (¬ 4 ≤ v4 → (¬ v4 = 2 → wpR_push_69 post K42 s v1 v2 v3 v4 ((4 * v1) + v4) 0) ∧ (v4 = 2 → wpR_push_69 post K42 s v1 v2 v3 v4 ((4 * v1) + v4) v2))
def wpR_push_42 (post : Int32 → RSt → Prop) (s : RSt) (v1 : Int32) (v2 : Int32) (v3 : Int32) (v4 : Int32) : Prop := gLP (fun (K : RSt × Int32 × Int32 × Int32 × Int32 → Prop) (x : RSt × Int32 × Int32 × Int32 × Int32) => wpR_push_42_F post (fun s v1 v2 v3 v4 => K (s, v1, v2, v3, v4)) x.1 x.2.1 x.2.2.1 x.2.2.2.1 x.2.2.2.2) (s, v1, v2, v3, v4)
def wpR_push_0 (post : Int32 → RSt → Prop) (s : RSt) (v1 : Int32) : Prop := ∀ s4 : RSt, s4 = rsI s 0 0 → wpR_noCell_0 (fun r6 s5 => wpR_throwsIf_0 (fun r8 s7 => (r8 = 0 → wpR_depth_0 (fun r11 s10 => vp_in ((4 * v1) + 2) 160 ∧ wpR_push_42 post s10 v1 r11 (r11 - (s10.2.1 10 ((4 * v1) + 2).toNatClampNeg)) 0) s7 v1) ∧ (¬ r8 = 0 → post 0 s7)) s5 r6 1) s4 v1
theorem wkR_push_69 {X : gT} {G : rG} {A : Nat → Prop} {H0 : Heap} {Q : State → Prop} (C : rC X cX8_push 5 G A) (hsz : H0 = (g_s X).heap) (hR : 2 ≤ (g_R X).frames ∧ 46 ≤ (g_R X).locals) {post : Int32 → RSt → Prop} (hret : ∀ (r : Int32) (τ : RSt) (lv : List (Nat × Value)) (pc : Nat), post r τ → narrow .int (.int r) = .int r → decode cX8_push pc = .ok (.ireturn, 1) → gJ X (rWd G A H0) Q 0 0 τ lv pc [.int r]) {K42 : RSt → Int32 → Int32 → Int32 → Int32 → Prop} (hK42 : ∀ (s : RSt) (v1 : Int32) (v2 : Int32) (v3 : Int32) (v4 : Int32), K42 s v1 v2 v3 v4 → gJ X (rWd G A H0) Q 0 0 s [(0, .ref (G.2.2.1 0)), (1, .int v1), (2, .int v2), (3, .int v3), (4, .int v4)] 42 []) (s : RSt) (v1 : Int32) (v2 : Int32) (v3 : Int32) (v4 : Int32) (w1 : Int32) (w2 : Int32) (hw : wpR_push_69 post K42 s v1 v2 v3 v4 w1 w2) : gJ X (rWd G A H0) Q 0 0 s [(0, .ref (G.2.2.1 0)), (1, .int v1), (2, .int v2), (3, .int v3), (4, .int v4)] 69 [.int w2, .int w1, .ref (G.2.2.1 10)] := by
  refine r_st10 C hw.1 dX8_push_69 ?_
  replace hw := hw.2
  refine gJ.nm (fun s1 es1 => ?_)
  replace hw := hw s1 es1
  refine g_iinc (v := v4 + 1) (lv' := [(4, .int (v4 + 1)), (0, .ref (G.2.2.1 0)), (1, .int v1), (2, .int v2), (3, .int v3)]) C.1 4 dX8_push_70 rfl rfl (by decide) rfl ?_
  refine g_goto (tgt := 42) C.1 dX8_push_73 (by decide) ?_
  refine gJ.sub [1, 2, 3, 4, 0] rfl ?_
  exact hK42 _ _ _ _ _ hw
theorem wkR_push_42_F {X : gT} {G : rG} {A : Nat → Prop} {H0 : Heap} {Q : State → Prop} (C : rC X cX8_push 5 G A) (hsz : H0 = (g_s X).heap) (hR : 2 ≤ (g_R X).frames ∧ 46 ≤ (g_R X).locals) {post : Int32 → RSt → Prop} (hret : ∀ (r : Int32) (τ : RSt) (lv : List (Nat × Value)) (pc : Nat), post r τ → narrow .int (.int r) = .int r → decode cX8_push pc = .ok (.ireturn, 1) → gJ X (rWd G A H0) Q 0 0 τ lv pc [.int r]) {K42 : RSt → Int32 → Int32 → Int32 → Int32 → Prop} (hK42 : ∀ (s : RSt) (v1 : Int32) (v2 : Int32) (v3 : Int32) (v4 : Int32), K42 s v1 v2 v3 v4 → gJ X (rWd G A H0) Q 0 0 s [(0, .ref (G.2.2.1 0)), (1, .int v1), (2, .int v2), (3, .int v3), (4, .int v4)] 42 []) (s : RSt) (v1 : Int32) (v2 : Int32) (v3 : Int32) (v4 : Int32) (hw : wpR_push_42_F post K42 s v1 v2 v3 v4) : gJ X (rWd G A H0) Q 0 0 s [(0, .ref (G.2.2.1 0)), (1, .int v1), (2, .int v2), (3, .int v3), (4, .int v4)] 42 [] := by
  refine g_iload C.1 4 dX8_push_42 rfl ?_
  refine g_iconst (v := 4) C.1 dX8_push_44 (by decide) ?_
  refine g_icmp_ge (tgt := 76) C.1 dX8_push_45 (by decide) (fun h2 => ?_) (fun h2 => ?_)
  · replace hw := hw.1 h2
    refine g_iload_n C.1 3 dX8_push_76 rfl rfl ?_
    exact hret _ _ _ _ hw rfl dX8_push_77
  · replace hw := hw.2 h2
    refine g_aload_n C.1 0 dX8_push_48 rfl rfl ?_
    refine r_g10 C dX8_push_49 ?_
    refine g_iconst (v := 4) C.1 dX8_push_52 (by decide) ?_
    refine g_iload_n C.1 1 dX8_push_53 rfl rfl ?_
    refine g_imul C.1 dX8_push_54 ?_
    refine g_iload C.1 4 dX8_push_55 rfl ?_
    refine g_iadd C.1 dX8_push_57 ?_
    refine g_iload C.1 4 dX8_push_58 rfl ?_
    refine g_iconst (v := 2) C.1 dX8_push_60 (by decide) ?_
    refine g_icmp_ne (tgt := 68) C.1 dX8_push_61 (by decide) (fun h3 => ?_) (fun h3 => ?_)
    · replace hw := hw.1 h3
      refine g_iconst (v := 0) C.1 dX8_push_68 (by decide) ?_
      exact wkR_push_69 C hsz hR hret hK42 _ _ _ _ _ _ _ hw
    · replace hw := hw.2 h3
      refine g_iload_n C.1 2 dX8_push_64 rfl rfl ?_
      refine g_goto (tgt := 69) C.1 dX8_push_65 (by decide) ?_
      exact wkR_push_69 C hsz hR hret hK42 _ _ _ _ _ _ _ hw
theorem wkR_push_42 {X : gT} {G : rG} {A : Nat → Prop} {H0 : Heap} {Q : State → Prop} (C : rC X cX8_push 5 G A) (hsz : H0 = (g_s X).heap) (hR : 2 ≤ (g_R X).frames ∧ 46 ≤ (g_R X).locals) {post : Int32 → RSt → Prop} (hret : ∀ (r : Int32) (τ : RSt) (lv : List (Nat × Value)) (pc : Nat), post r τ → narrow .int (.int r) = .int r → decode cX8_push pc = .ok (.ireturn, 1) → gJ X (rWd G A H0) Q 0 0 τ lv pc [.int r]) (s : RSt) (v1 : Int32) (v2 : Int32) (v3 : Int32) (v4 : Int32) (hw : wpR_push_42 post s v1 v2 v3 v4) : gJ X (rWd G A H0) Q 0 0 s [(0, .ref (G.2.2.1 0)), (1, .int v1), (2, .int v2), (3, .int v3), (4, .int v4)] 42 [] := 
  hw (fun (x : RSt × Int32 × Int32 × Int32 × Int32) => (fun s v1 v2 v3 v4 => gJ X (rWd G A H0) Q 0 0 s [(0, .ref (G.2.2.1 0)), (1, .int v1), (2, .int v2), (3, .int v3), (4, .int v4)] 42 []) x.1 x.2.1 x.2.2.1 x.2.2.2.1 x.2.2.2.2) (fun x hx => wkR_push_42_F C hsz hR hret (K42 := (fun s v1 v2 v3 v4 => gJ X (rWd G A H0) Q 0 0 s [(0, .ref (G.2.2.1 0)), (1, .int v1), (2, .int v2), (3, .int v3), (4, .int v4)] 42 [])) (fun _ _ _ _ _ h => h) x.1 x.2.1 x.2.2.1 x.2.2.2.1 x.2.2.2.2 hx)
theorem wkR_push_0 {X : gT} {G : rG} {A : Nat → Prop} {H0 : Heap} {Q : State → Prop} (C : rC X cX8_push 5 G A) (hsz : H0 = (g_s X).heap) (hR : 2 ≤ (g_R X).frames ∧ 46 ≤ (g_R X).locals) {post : Int32 → RSt → Prop} (hret : ∀ (r : Int32) (τ : RSt) (lv : List (Nat × Value)) (pc : Nat), post r τ → narrow .int (.int r) = .int r → decode cX8_push pc = .ok (.ireturn, 1) → gJ X (rWd G A H0) Q 0 0 τ lv pc [.int r]) (s : RSt) (v1 : Int32) (hw : wpR_push_0 post s v1) : gJ X (rWd G A H0) Q 0 0 s [(0, .ref (G.2.2.1 0)), (1, .int v1)] 0 [] := by
  refine g_aload_n C.1 0 dX8_push_0 rfl rfl ?_
  refine g_iconst (v := 0) C.1 dX8_push_1 (by decide) ?_
  refine r_p0 C dX8_push_2 ?_
  refine gJ.nm (fun s4 es4 => ?_)
  replace hw := hw s4 es4
  refine g_aload_n C.1 0 dX8_push_5 rfl rfl ?_
  refine g_aload_n C.1 0 dX8_push_6 rfl rfl ?_
  refine g_iload_n C.1 1 dX8_push_7 rfl rfl ?_
  refine r_calli C hsz (cR_noCell (g_l X) G s4 _ _ hw) kR_255 kR_256 kR_257 kR_52 hdR_noCell ⟨Nat.le_trans (Nat.le_of_ble_eq_true rfl) hR.1, Nat.le_trans (Nat.le_of_ble_eq_true rfl) hR.2⟩ dX8_push_8 rfl (Nat.le_of_ble_eq_true rfl) (fun r6 s5 hw => ?_)
  refine g_iconst (v := 1) C.1 dX8_push_11 (by decide) ?_
  refine r_calli C hsz (cR_throwsIf (g_l X) G s5 _ _ _ hw) kR_65 kR_66 kR_67 kR_42 hdR_throwsIf ⟨Nat.le_trans (Nat.le_of_ble_eq_true rfl) hR.1, Nat.le_trans (Nat.le_of_ble_eq_true rfl) hR.2⟩ dX8_push_12 rfl (Nat.le_of_ble_eq_true rfl) (fun r8 s7 hw => ?_)
  refine g_if_eq (tgt := 20) C.1 dX8_push_15 (by decide) (fun h9 => ?_) (fun h9 => ?_)
  · replace hw := hw.1 h9
    refine g_aload_n C.1 0 dX8_push_20 rfl rfl ?_
    refine g_iload_n C.1 1 dX8_push_21 rfl rfl ?_
    refine r_calli C hsz (cR_depth (g_l X) G s7 _ _ hw) kR_195 kR_196 kR_197 kR_193 hdR_depth ⟨Nat.le_trans (Nat.le_of_ble_eq_true rfl) hR.1, Nat.le_trans (Nat.le_of_ble_eq_true rfl) hR.2⟩ dX8_push_22 rfl (Nat.le_of_ble_eq_true rfl) (fun r11 s10 hw => ?_)
    refine g_istore_n (lv' := [(2, .int r11), (0, .ref (G.2.2.1 0)), (1, .int v1)]) C.1 dX8_push_25 rfl (by decide) rfl ?_
    refine g_iload_n C.1 0 dX8_push_26 rfl rfl ?_
    refine g_aload_n C.1 1 dX8_push_27 rfl rfl ?_
    refine r_g10 C dX8_push_28 ?_
    refine g_iconst (v := 4) C.1 dX8_push_31 (by decide) ?_
    refine g_iload_n C.1 2 dX8_push_32 rfl rfl ?_
    refine g_imul C.1 dX8_push_33 ?_
    refine g_iconst (v := 2) C.1 dX8_push_34 (by decide) ?_
    refine g_iadd C.1 dX8_push_35 ?_
    refine r_ld10 C hw.1 dX8_push_36 ?_
    replace hw := hw.2
    refine g_isub C.1 dX8_push_37 ?_
    refine g_istore_n (lv' := [(3, .int (r11 - (s10.2.1 10 ((4 * v1) + 2).toNatClampNeg))), (2, .int r11), (0, .ref (G.2.2.1 0)), (1, .int v1)]) C.1 dX8_push_38 rfl (by decide) rfl ?_
    refine g_iconst (v := 0) C.1 dX8_push_39 (by decide) ?_
    refine g_istore (lv' := [(4, .int 0), (3, .int (r11 - (s10.2.1 10 ((4 * v1) + 2).toNatClampNeg))), (2, .int r11), (0, .ref (G.2.2.1 0)), (1, .int v1)]) C.1 dX8_push_40 (by decide) rfl ?_
    refine gJ.sub [3, 4, 2, 1, 0] rfl ?_
    exact wkR_push_42 C hsz hR hret _ _ _ _ _ hw
  · replace hw := hw.2 h9
    refine g_iconst (v := 0) C.1 dX8_push_18 (by decide) ?_
    exact hret _ _ _ _ hw rfl dX8_push_19
theorem hdR_push : yX8_push.cls = RX8 ∧ yX8_push.cls ≠ "java/lang/invoke/MethodHandle" ∧ yX8_push.cls ≠ "java/lang/invoke/VarHandle" ∧ (parseMethodDescriptor yX8_push.desc).map (fun d => d.parameters.length) = some 1 := by decide +kernel
theorem cR_push (l : Launch) (G : rG) (s : RSt) (v1 : Int32) (post : Int32 → RSt → Prop) (hw : wpR_push_0 post s v1) : rMi l yX8_push cX8_push 5 .int 2 46 G s [.int v1] post := rMi_of (by decide +kernel) rfl (Nat.le_of_ble_eq_true rfl) (fun X A H0 Q hl hR hsz C hret => wkR_push_0 C hsz hR hret s v1 hw)
def wpR_cell_68 (post : Int32 → RSt → Prop) (s : RSt) (v1 : Int32) (v2 : Int32) : Prop := vp_in ((4 * v1) + v2) 160 ∧ post (s.2.1 10 ((4 * v1) + v2).toNatClampNeg) s
def wpR_cell_0 (post : Int32 → RSt → Prop) (s : RSt) (v1 : Int32) (v2 : Int32) : Prop := ∀ s1 : RSt, s1 = rsI s 0 0 → wpR_noCell_0 (fun r3 s2 => wpR_throwsIf_0 (fun r5 s4 => (r5 = 0 → (v2 = 0 → wpR_cell_68 post s4 v1 v2) ∧ (v2 = 1 → wpR_cell_68 post s4 v1 v2) ∧ (v2 = 2 → wpR_cell_68 post s4 v1 v2) ∧ (v2 = 3 → wpR_cell_68 post s4 v1 v2) ∧ (v2 = 4 → wpR_depth_0 (fun r10 s9 => post r10 s9) s4 v1) ∧ (v2 = 5 → vp_in v1 40 ∧ post (s4.2.1 11 v1.toNatClampNeg) s4) ∧ (v2 = 6 → vp_in v1 40 ∧ post (s4.2.1 12 v1.toNatClampNeg) s4) ∧ (v2 = 7 → vp_in v1 40 ∧ post (s4.2.1 13 v1.toNatClampNeg) s4) ∧ ((v2).toInt < 0 ∨ 7 < (v2).toInt → ∀ s7 : RSt, s7 = rsI s4 0 2 → post 0 s7)) ∧ (¬ r5 = 0 → post 0 s4)) s2 r3 1) s1 v1
theorem wkR_cell_68 {X : gT} {G : rG} {A : Nat → Prop} {H0 : Heap} {Q : State → Prop} (C : rC X cX8_cell 3 G A) (hsz : H0 = (g_s X).heap) (hR : 2 ≤ (g_R X).frames ∧ 46 ≤ (g_R X).locals) {post : Int32 → RSt → Prop} (hret : ∀ (r : Int32) (τ : RSt) (lv : List (Nat × Value)) (pc : Nat), post r τ → narrow .int (.int r) = .int r → decode cX8_cell pc = .ok (.ireturn, 1) → gJ X (rWd G A H0) Q 0 0 τ lv pc [.int r]) (s : RSt) (v1 : Int32) (v2 : Int32) (hw : wpR_cell_68 post s v1 v2) : gJ X (rWd G A H0) Q 0 0 s [(0, .ref (G.2.2.1 0)), (1, .int v1), (2, .int v2)] 68 [] := by
  refine g_aload_n C.1 0 dX8_cell_68 rfl rfl ?_
  refine r_g10 C dX8_cell_69 ?_
  refine g_iconst (v := 4) C.1 dX8_cell_72 (by decide) ?_
  refine g_iload_n C.1 1 dX8_cell_73 rfl rfl ?_
  refine g_imul C.1 dX8_cell_74 ?_
  refine g_iload_n C.1 2 dX8_cell_75 rfl rfl ?_
  refine g_iadd C.1 dX8_cell_76 ?_
  refine r_ld10 C hw.1 dX8_cell_77 ?_
  replace hw := hw.2
  exact hret _ _ _ _ hw rfl dX8_cell_78
theorem wkR_cell_0 {X : gT} {G : rG} {A : Nat → Prop} {H0 : Heap} {Q : State → Prop} (C : rC X cX8_cell 3 G A) (hsz : H0 = (g_s X).heap) (hR : 2 ≤ (g_R X).frames ∧ 46 ≤ (g_R X).locals) {post : Int32 → RSt → Prop} (hret : ∀ (r : Int32) (τ : RSt) (lv : List (Nat × Value)) (pc : Nat), post r τ → narrow .int (.int r) = .int r → decode cX8_cell pc = .ok (.ireturn, 1) → gJ X (rWd G A H0) Q 0 0 τ lv pc [.int r]) (s : RSt) (v1 : Int32) (v2 : Int32) (hw : wpR_cell_0 post s v1 v2) : gJ X (rWd G A H0) Q 0 0 s [(0, .ref (G.2.2.1 0)), (1, .int v1), (2, .int v2)] 0 [] := by
  refine g_aload_n C.1 0 dX8_cell_0 rfl rfl ?_
  refine g_iconst (v := 0) C.1 dX8_cell_1 (by decide) ?_
  refine r_p0 C dX8_cell_2 ?_
  refine gJ.nm (fun s1 es1 => ?_)
  replace hw := hw s1 es1
  refine g_aload_n C.1 0 dX8_cell_5 rfl rfl ?_
  refine g_aload_n C.1 0 dX8_cell_6 rfl rfl ?_
  refine g_iload_n C.1 1 dX8_cell_7 rfl rfl ?_
  refine r_calli C hsz (cR_noCell (g_l X) G s1 _ _ hw) kR_255 kR_256 kR_257 kR_52 hdR_noCell ⟨Nat.le_trans (Nat.le_of_ble_eq_true rfl) hR.1, Nat.le_trans (Nat.le_of_ble_eq_true rfl) hR.2⟩ dX8_cell_8 rfl (Nat.le_of_ble_eq_true rfl) (fun r3 s2 hw => ?_)
  refine g_iconst (v := 1) C.1 dX8_cell_11 (by decide) ?_
  refine r_calli C hsz (cR_throwsIf (g_l X) G s2 _ _ _ hw) kR_65 kR_66 kR_67 kR_42 hdR_throwsIf ⟨Nat.le_trans (Nat.le_of_ble_eq_true rfl) hR.1, Nat.le_trans (Nat.le_of_ble_eq_true rfl) hR.2⟩ dX8_cell_12 rfl (Nat.le_of_ble_eq_true rfl) (fun r5 s4 hw => ?_)
  refine g_if_eq (tgt := 20) C.1 dX8_cell_15 (by decide) (fun h6 => ?_) (fun h6 => ?_)
  · replace hw := hw.1 h6
    refine g_iload_n C.1 2 dX8_cell_20 rfl rfl ?_
    by_cases h8a : (v2).toInt < 0
    · replace hw := hw.2.2.2.2.2.2.2.2 (Or.inl h8a)
      refine g_tableOut (tgt := 106) C.1 dX8_cell_21 (Or.inl h8a) (by decide) ?_
      refine g_aload_n C.1 0 dX8_cell_106 rfl rfl ?_
      refine g_iconst (v := 2) C.1 dX8_cell_107 (by decide) ?_
      refine r_p0 C dX8_cell_108 ?_
      refine gJ.nm (fun s7 es7 => ?_)
      replace hw := hw s7 es7
      refine g_iconst (v := 0) C.1 dX8_cell_111 (by decide) ?_
      exact hret _ _ _ _ hw rfl dX8_cell_112
    by_cases h8b : 7 < (v2).toInt
    · replace hw := hw.2.2.2.2.2.2.2.2 (Or.inr h8b)
      refine g_tableOut (tgt := 106) C.1 dX8_cell_21 (Or.inr h8b) (by decide) ?_
      refine g_aload_n C.1 0 dX8_cell_106 rfl rfl ?_
      refine g_iconst (v := 2) C.1 dX8_cell_107 (by decide) ?_
      refine r_p0 C dX8_cell_108 ?_
      refine gJ.nm (fun s7 es7 => ?_)
      replace hw := hw s7 es7
      refine g_iconst (v := 0) C.1 dX8_cell_111 (by decide) ?_
      exact hret _ _ _ _ hw rfl dX8_cell_112
    have h8c : (v2).toInt = 0 ∨ (v2).toInt = 1 ∨ (v2).toInt = 2 ∨ (v2).toInt = 3 ∨ (v2).toInt = 4 ∨ (v2).toInt = 5 ∨ (v2).toInt = 6 ∨ (v2).toInt = 7 := by omega
    rcases h8c with h8c | h8c | h8c | h8c | h8c | h8c | h8c | h8c
    · replace hw := hw.1 (i32_of h8c)
      refine g_tableIn (tgt := 68) (off := 47) C.1 dX8_cell_21 h8a h8b (by rw [h8c]; rfl) (by decide) ?_
      exact wkR_cell_68 C hsz hR hret _ _ _ hw
    · replace hw := hw.2.1 (i32_of h8c)
      refine g_tableIn (tgt := 68) (off := 47) C.1 dX8_cell_21 h8a h8b (by rw [h8c]; rfl) (by decide) ?_
      exact wkR_cell_68 C hsz hR hret _ _ _ hw
    · replace hw := hw.2.2.1 (i32_of h8c)
      refine g_tableIn (tgt := 68) (off := 47) C.1 dX8_cell_21 h8a h8b (by rw [h8c]; rfl) (by decide) ?_
      exact wkR_cell_68 C hsz hR hret _ _ _ hw
    · replace hw := hw.2.2.2.1 (i32_of h8c)
      refine g_tableIn (tgt := 68) (off := 47) C.1 dX8_cell_21 h8a h8b (by rw [h8c]; rfl) (by decide) ?_
      exact wkR_cell_68 C hsz hR hret _ _ _ hw
    · replace hw := hw.2.2.2.2.1 (i32_of h8c)
      refine g_tableIn (tgt := 79) (off := 58) C.1 dX8_cell_21 h8a h8b (by rw [h8c]; rfl) (by decide) ?_
      refine g_aload_n C.1 0 dX8_cell_79 rfl rfl ?_
      refine g_iload_n C.1 1 dX8_cell_80 rfl rfl ?_
      refine r_calli C hsz (cR_depth (g_l X) G s4 _ _ hw) kR_195 kR_196 kR_197 kR_193 hdR_depth ⟨Nat.le_trans (Nat.le_of_ble_eq_true rfl) hR.1, Nat.le_trans (Nat.le_of_ble_eq_true rfl) hR.2⟩ dX8_cell_81 rfl (Nat.le_of_ble_eq_true rfl) (fun r10 s9 hw => ?_)
      exact hret _ _ _ _ hw rfl dX8_cell_84
    · replace hw := hw.2.2.2.2.2.1 (i32_of h8c)
      refine g_tableIn (tgt := 85) (off := 64) C.1 dX8_cell_21 h8a h8b (by rw [h8c]; rfl) (by decide) ?_
      refine g_aload_n C.1 0 dX8_cell_85 rfl rfl ?_
      refine r_g11 C dX8_cell_86 ?_
      refine g_iload_n C.1 1 dX8_cell_89 rfl rfl ?_
      refine r_ld11 C hw.1 dX8_cell_90 ?_
      replace hw := hw.2
      exact hret _ _ _ _ hw rfl dX8_cell_91
    · replace hw := hw.2.2.2.2.2.2.1 (i32_of h8c)
      refine g_tableIn (tgt := 92) (off := 71) C.1 dX8_cell_21 h8a h8b (by rw [h8c]; rfl) (by decide) ?_
      refine g_aload_n C.1 0 dX8_cell_92 rfl rfl ?_
      refine r_g12 C dX8_cell_93 ?_
      refine g_iload_n C.1 1 dX8_cell_96 rfl rfl ?_
      refine r_ld12 C hw.1 dX8_cell_97 ?_
      replace hw := hw.2
      exact hret _ _ _ _ hw rfl dX8_cell_98
    · replace hw := hw.2.2.2.2.2.2.2.1 (i32_of h8c)
      refine g_tableIn (tgt := 99) (off := 78) C.1 dX8_cell_21 h8a h8b (by rw [h8c]; rfl) (by decide) ?_
      refine g_aload_n C.1 0 dX8_cell_99 rfl rfl ?_
      refine r_g13 C dX8_cell_100 ?_
      refine g_iload_n C.1 1 dX8_cell_103 rfl rfl ?_
      refine r_ld13 C hw.1 dX8_cell_104 ?_
      replace hw := hw.2
      exact hret _ _ _ _ hw rfl dX8_cell_105
  · replace hw := hw.2 h6
    refine g_iconst (v := 0) C.1 dX8_cell_18 (by decide) ?_
    exact hret _ _ _ _ hw rfl dX8_cell_19
theorem hdR_cell : yX8_cell.cls = RX8 ∧ yX8_cell.cls ≠ "java/lang/invoke/MethodHandle" ∧ yX8_cell.cls ≠ "java/lang/invoke/VarHandle" ∧ (parseMethodDescriptor yX8_cell.desc).map (fun d => d.parameters.length) = some 2 := by decide +kernel
theorem cR_cell (l : Launch) (G : rG) (s : RSt) (v1 : Int32) (v2 : Int32) (post : Int32 → RSt → Prop) (hw : wpR_cell_0 post s v1 v2) : rMi l yX8_cell cX8_cell 3 .int 2 46 G s [.int v1, .int v2] post := rMi_of (by decide +kernel) rfl (Nat.le_of_ble_eq_true rfl) (fun X A H0 Q hl hR hsz C hret => wkR_cell_0 C hsz hR hret s v1 v2 hw)
def wpR_link_79 (post : Int32 → RSt → Prop) (s : RSt) (v1 : Int32) (v2 : Int32) (v3 : Int32) (w1 : Int32) : Prop := wpR_throwsIf_0 (fun r2 s1 => (r2 = 0 → vp_in (s1.1 26) 80 ∧ ∀ s4 : RSt, s4 = rsA s1 23 (s1.1 26).toNatClampNeg v1 → vp_in (s4.1 26) 80 ∧ ∀ s5 : RSt, s5 = rsA s4 24 (s4.1 26).toNatClampNeg v2 → vp_in (s5.1 26) 80 ∧ ∀ s6 : RSt, s6 = rsA s5 25 (s5.1 26).toNatClampNeg v3 → ∀ s7 : RSt, s7 = rsI s6 26 ((s6.1 26) + 1) → post (s7.1 26) s7) ∧ (¬ r2 = 0 → post 0 s1)) s w1 3
def wpR_link_57 (post : Int32 → RSt → Prop) (s : RSt) (v1 : Int32) (v2 : Int32) (v3 : Int32) (w1 : Int32) : Prop := wpR_throwsIf_0 (fun r9 s8 => (¬ r9 = 0 → post 0 s8) ∧ (r9 = 0 → (¬ (s8.1 26) = 80 → wpR_link_79 post s8 v1 v2 v3 0) ∧ ((s8.1 26) = 80 → wpR_link_79 post s8 v1 v2 v3 1))) s w1 2
def wpR_link_52 (post : Int32 → RSt → Prop) (s : RSt) (v1 : Int32) (v2 : Int32) (v3 : Int32) : Prop := wpR_link_57 post s v1 v2 v3 1
def wpR_link_27 (post : Int32 → RSt → Prop) (s : RSt) (v1 : Int32) (v2 : Int32) (v3 : Int32) (w1 : Int32) : Prop := wpR_throwsIf_0 (fun r13 s12 => (¬ r13 = 0 → post 0 s12) ∧ (r13 = 0 → (v1 = v2 → wpR_link_52 post s12 v1 v2 v3) ∧ (¬ v1 = v2 → wpR_in_0 (fun r16 => (¬ r16 = 0 → wpR_link_57 post s12 v1 v2 v3 0) ∧ (r16 = 0 → wpR_link_52 post s12 v1 v2 v3)) v3.toInt64 1 100))) s w1 1
def wpR_link_22 (post : Int32 → RSt → Prop) (s : RSt) (v1 : Int32) (v2 : Int32) (v3 : Int32) : Prop := wpR_link_27 post s v1 v2 v3 1
def wpR_link_0 (post : Int32 → RSt → Prop) (s : RSt) (v1 : Int32) (v2 : Int32) (v3 : Int32) : Prop := ∀ s18 : RSt, s18 = rsI s 0 0 → wpR_noCell_0 (fun r20 s19 => (¬ r20 = 0 → wpR_link_22 post s19 v1 v2 v3) ∧ (r20 = 0 → wpR_noCell_0 (fun r23 s22 => (r23 = 0 → wpR_link_27 post s22 v1 v2 v3 0) ∧ (¬ r23 = 0 → wpR_link_22 post s22 v1 v2 v3)) s19 v2)) s18 v1
theorem wkR_link_79 {X : gT} {G : rG} {A : Nat → Prop} {H0 : Heap} {Q : State → Prop} (C : rC X cX8_link 4 G A) (hsz : H0 = (g_s X).heap) (hR : 2 ≤ (g_R X).frames ∧ 46 ≤ (g_R X).locals) {post : Int32 → RSt → Prop} (hret : ∀ (r : Int32) (τ : RSt) (lv : List (Nat × Value)) (pc : Nat), post r τ → narrow .int (.int r) = .int r → decode cX8_link pc = .ok (.ireturn, 1) → gJ X (rWd G A H0) Q 0 0 τ lv pc [.int r]) (s : RSt) (v1 : Int32) (v2 : Int32) (v3 : Int32) (w1 : Int32) (hw : wpR_link_79 post s v1 v2 v3 w1) : gJ X (rWd G A H0) Q 0 0 s [(0, .ref (G.2.2.1 0)), (1, .int v1), (2, .int v2), (3, .int v3)] 79 [.int w1, .ref (G.2.2.1 0)] := by
  refine g_iconst (v := 3) C.1 dX8_link_79 (by decide) ?_
  refine r_calli C hsz (cR_throwsIf (g_l X) G s _ _ _ hw) kR_65 kR_66 kR_67 kR_42 hdR_throwsIf ⟨Nat.le_trans (Nat.le_of_ble_eq_true rfl) hR.1, Nat.le_trans (Nat.le_of_ble_eq_true rfl) hR.2⟩ dX8_link_80 rfl (Nat.le_of_ble_eq_true rfl) (fun r2 s1 hw => ?_)
  refine g_if_eq (tgt := 88) C.1 dX8_link_83 (by decide) (fun h3 => ?_) (fun h3 => ?_)
  · replace hw := hw.1 h3
    refine g_aload_n C.1 0 dX8_link_88 rfl rfl ?_
    refine r_g23 C dX8_link_89 ?_
    refine g_aload_n C.1 0 dX8_link_92 rfl rfl ?_
    refine r_g26 C dX8_link_93 ?_
    refine g_iload_n C.1 1 dX8_link_96 rfl rfl ?_
    refine r_st23 C hw.1 dX8_link_97 ?_
    replace hw := hw.2
    refine gJ.nm (fun s4 es4 => ?_)
    replace hw := hw s4 es4
    refine g_aload_n C.1 0 dX8_link_98 rfl rfl ?_
    refine r_g24 C dX8_link_99 ?_
    refine g_aload_n C.1 0 dX8_link_102 rfl rfl ?_
    refine r_g26 C dX8_link_103 ?_
    refine g_iload_n C.1 2 dX8_link_106 rfl rfl ?_
    refine r_st24 C hw.1 dX8_link_107 ?_
    replace hw := hw.2
    refine gJ.nm (fun s5 es5 => ?_)
    replace hw := hw s5 es5
    refine g_aload_n C.1 0 dX8_link_108 rfl rfl ?_
    refine r_g25 C dX8_link_109 ?_
    refine g_aload_n C.1 0 dX8_link_112 rfl rfl ?_
    refine r_g26 C dX8_link_113 ?_
    refine g_iload_n C.1 3 dX8_link_116 rfl rfl ?_
    refine r_st25 C hw.1 dX8_link_117 ?_
    replace hw := hw.2
    refine gJ.nm (fun s6 es6 => ?_)
    replace hw := hw s6 es6
    refine g_aload_n C.1 0 dX8_link_118 rfl rfl ?_
    refine g_dup C.1 dX8_link_119 rfl ?_
    refine r_g26 C dX8_link_120 ?_
    refine g_iconst (v := 1) C.1 dX8_link_123 (by decide) ?_
    refine g_iadd C.1 dX8_link_124 ?_
    refine r_p26 C dX8_link_125 ?_
    refine gJ.nm (fun s7 es7 => ?_)
    replace hw := hw s7 es7
    refine g_aload_n C.1 0 dX8_link_128 rfl rfl ?_
    refine r_g26 C dX8_link_129 ?_
    exact hret _ _ _ _ hw rfl dX8_link_132
  · replace hw := hw.2 h3
    refine g_iconst (v := 0) C.1 dX8_link_86 (by decide) ?_
    exact hret _ _ _ _ hw rfl dX8_link_87
theorem wkR_link_57 {X : gT} {G : rG} {A : Nat → Prop} {H0 : Heap} {Q : State → Prop} (C : rC X cX8_link 4 G A) (hsz : H0 = (g_s X).heap) (hR : 2 ≤ (g_R X).frames ∧ 46 ≤ (g_R X).locals) {post : Int32 → RSt → Prop} (hret : ∀ (r : Int32) (τ : RSt) (lv : List (Nat × Value)) (pc : Nat), post r τ → narrow .int (.int r) = .int r → decode cX8_link pc = .ok (.ireturn, 1) → gJ X (rWd G A H0) Q 0 0 τ lv pc [.int r]) (s : RSt) (v1 : Int32) (v2 : Int32) (v3 : Int32) (w1 : Int32) (hw : wpR_link_57 post s v1 v2 v3 w1) : gJ X (rWd G A H0) Q 0 0 s [(0, .ref (G.2.2.1 0)), (1, .int v1), (2, .int v2), (3, .int v3)] 57 [.int w1, .ref (G.2.2.1 0)] := by
  refine g_iconst (v := 2) C.1 dX8_link_57 (by decide) ?_
  refine r_calli C hsz (cR_throwsIf (g_l X) G s _ _ _ hw) kR_65 kR_66 kR_67 kR_42 hdR_throwsIf ⟨Nat.le_trans (Nat.le_of_ble_eq_true rfl) hR.1, Nat.le_trans (Nat.le_of_ble_eq_true rfl) hR.2⟩ dX8_link_58 rfl (Nat.le_of_ble_eq_true rfl) (fun r9 s8 hw => ?_)
  refine g_if_ne (tgt := 86) C.1 dX8_link_61 (by decide) (fun h10 => ?_) (fun h10 => ?_)
  · replace hw := hw.1 h10
    refine g_iconst (v := 0) C.1 dX8_link_86 (by decide) ?_
    exact hret _ _ _ _ hw rfl dX8_link_87
  · replace hw := hw.2 h10
    refine g_aload_n C.1 0 dX8_link_64 rfl rfl ?_
    refine g_aload_n C.1 0 dX8_link_65 rfl rfl ?_
    refine r_g26 C dX8_link_66 ?_
    refine g_bipush (v := 80) C.1 dX8_link_69 (by decide) ?_
    refine g_icmp_ne (tgt := 78) C.1 dX8_link_71 (by decide) (fun h11 => ?_) (fun h11 => ?_)
    · replace hw := hw.1 h11
      refine g_iconst (v := 0) C.1 dX8_link_78 (by decide) ?_
      exact wkR_link_79 C hsz hR hret _ _ _ _ _ hw
    · replace hw := hw.2 h11
      refine g_iconst (v := 1) C.1 dX8_link_74 (by decide) ?_
      refine g_goto (tgt := 79) C.1 dX8_link_75 (by decide) ?_
      exact wkR_link_79 C hsz hR hret _ _ _ _ _ hw
theorem wkR_link_52 {X : gT} {G : rG} {A : Nat → Prop} {H0 : Heap} {Q : State → Prop} (C : rC X cX8_link 4 G A) (hsz : H0 = (g_s X).heap) (hR : 2 ≤ (g_R X).frames ∧ 46 ≤ (g_R X).locals) {post : Int32 → RSt → Prop} (hret : ∀ (r : Int32) (τ : RSt) (lv : List (Nat × Value)) (pc : Nat), post r τ → narrow .int (.int r) = .int r → decode cX8_link pc = .ok (.ireturn, 1) → gJ X (rWd G A H0) Q 0 0 τ lv pc [.int r]) (s : RSt) (v1 : Int32) (v2 : Int32) (v3 : Int32) (hw : wpR_link_52 post s v1 v2 v3) : gJ X (rWd G A H0) Q 0 0 s [(0, .ref (G.2.2.1 0)), (1, .int v1), (2, .int v2), (3, .int v3)] 52 [.ref (G.2.2.1 0)] := by
  refine g_iconst (v := 1) C.1 dX8_link_52 (by decide) ?_
  refine g_goto (tgt := 57) C.1 dX8_link_53 (by decide) ?_
  exact wkR_link_57 C hsz hR hret _ _ _ _ _ hw
theorem wkR_link_27 {X : gT} {G : rG} {A : Nat → Prop} {H0 : Heap} {Q : State → Prop} (C : rC X cX8_link 4 G A) (hsz : H0 = (g_s X).heap) (hR : 2 ≤ (g_R X).frames ∧ 46 ≤ (g_R X).locals) {post : Int32 → RSt → Prop} (hret : ∀ (r : Int32) (τ : RSt) (lv : List (Nat × Value)) (pc : Nat), post r τ → narrow .int (.int r) = .int r → decode cX8_link pc = .ok (.ireturn, 1) → gJ X (rWd G A H0) Q 0 0 τ lv pc [.int r]) (s : RSt) (v1 : Int32) (v2 : Int32) (v3 : Int32) (w1 : Int32) (hw : wpR_link_27 post s v1 v2 v3 w1) : gJ X (rWd G A H0) Q 0 0 s [(0, .ref (G.2.2.1 0)), (1, .int v1), (2, .int v2), (3, .int v3)] 27 [.int w1, .ref (G.2.2.1 0)] := by
  refine g_iconst (v := 1) C.1 dX8_link_27 (by decide) ?_
  refine r_calli C hsz (cR_throwsIf (g_l X) G s _ _ _ hw) kR_65 kR_66 kR_67 kR_42 hdR_throwsIf ⟨Nat.le_trans (Nat.le_of_ble_eq_true rfl) hR.1, Nat.le_trans (Nat.le_of_ble_eq_true rfl) hR.2⟩ dX8_link_28 rfl (Nat.le_of_ble_eq_true rfl) (fun r13 s12 hw => ?_)
  refine g_if_ne (tgt := 86) C.1 dX8_link_31 (by decide) (fun h14 => ?_) (fun h14 => ?_)
  · replace hw := hw.1 h14
    refine g_iconst (v := 0) C.1 dX8_link_86 (by decide) ?_
    exact hret _ _ _ _ hw rfl dX8_link_87
  · replace hw := hw.2 h14
    refine g_aload_n C.1 0 dX8_link_34 rfl rfl ?_
    refine g_iload_n C.1 1 dX8_link_35 rfl rfl ?_
    refine g_iload_n C.1 2 dX8_link_36 rfl rfl ?_
    refine g_icmp_eq (tgt := 52) C.1 dX8_link_37 (by decide) (fun h15 => ?_) (fun h15 => ?_)
    · replace hw := hw.1 h15
      exact wkR_link_52 C hsz hR hret _ _ _ _ hw
    · replace hw := hw.2 h15
      refine g_iload_n C.1 3 dX8_link_40 rfl rfl ?_
      refine g_i2l C.1 dX8_link_41 ?_
      refine g_lconst (v := 1) C.1 dX8_link_42 (by decide) ?_
      refine g_ldc2 (v := 100) C.1 C.2.1 (C.2.2.1 _ kR_263) dX8_link_43 ?_
      refine g_callSi (rC.s C) (cR_in (g_l X) _ _ _ _ hw) kR_45 kR_46 kR_43 hdR_in ⟨Nat.le_trans (Nat.le_of_ble_eq_true rfl) hR.1, Nat.le_trans (Nat.le_of_ble_eq_true rfl) hR.2⟩ dX8_link_46 rfl (Nat.le_of_ble_eq_true rfl) (fun r16 hw => ?_)
      refine g_if_ne (tgt := 56) C.1 dX8_link_49 (by decide) (fun h17 => ?_) (fun h17 => ?_)
      · replace hw := hw.1 h17
        refine g_iconst (v := 0) C.1 dX8_link_56 (by decide) ?_
        exact wkR_link_57 C hsz hR hret _ _ _ _ _ hw
      · replace hw := hw.2 h17
        exact wkR_link_52 C hsz hR hret _ _ _ _ hw
theorem wkR_link_22 {X : gT} {G : rG} {A : Nat → Prop} {H0 : Heap} {Q : State → Prop} (C : rC X cX8_link 4 G A) (hsz : H0 = (g_s X).heap) (hR : 2 ≤ (g_R X).frames ∧ 46 ≤ (g_R X).locals) {post : Int32 → RSt → Prop} (hret : ∀ (r : Int32) (τ : RSt) (lv : List (Nat × Value)) (pc : Nat), post r τ → narrow .int (.int r) = .int r → decode cX8_link pc = .ok (.ireturn, 1) → gJ X (rWd G A H0) Q 0 0 τ lv pc [.int r]) (s : RSt) (v1 : Int32) (v2 : Int32) (v3 : Int32) (hw : wpR_link_22 post s v1 v2 v3) : gJ X (rWd G A H0) Q 0 0 s [(0, .ref (G.2.2.1 0)), (1, .int v1), (2, .int v2), (3, .int v3)] 22 [.ref (G.2.2.1 0)] := by
  refine g_iconst (v := 1) C.1 dX8_link_22 (by decide) ?_
  refine g_goto (tgt := 27) C.1 dX8_link_23 (by decide) ?_
  exact wkR_link_27 C hsz hR hret _ _ _ _ _ hw
theorem wkR_link_0 {X : gT} {G : rG} {A : Nat → Prop} {H0 : Heap} {Q : State → Prop} (C : rC X cX8_link 4 G A) (hsz : H0 = (g_s X).heap) (hR : 2 ≤ (g_R X).frames ∧ 46 ≤ (g_R X).locals) {post : Int32 → RSt → Prop} (hret : ∀ (r : Int32) (τ : RSt) (lv : List (Nat × Value)) (pc : Nat), post r τ → narrow .int (.int r) = .int r → decode cX8_link pc = .ok (.ireturn, 1) → gJ X (rWd G A H0) Q 0 0 τ lv pc [.int r]) (s : RSt) (v1 : Int32) (v2 : Int32) (v3 : Int32) (hw : wpR_link_0 post s v1 v2 v3) : gJ X (rWd G A H0) Q 0 0 s [(0, .ref (G.2.2.1 0)), (1, .int v1), (2, .int v2), (3, .int v3)] 0 [] := by
  refine g_aload_n C.1 0 dX8_link_0 rfl rfl ?_
  refine g_iconst (v := 0) C.1 dX8_link_1 (by decide) ?_
  refine r_p0 C dX8_link_2 ?_
  refine gJ.nm (fun s18 es18 => ?_)
  replace hw := hw s18 es18
  refine g_aload_n C.1 0 dX8_link_5 rfl rfl ?_
  refine g_aload_n C.1 0 dX8_link_6 rfl rfl ?_
  refine g_iload_n C.1 1 dX8_link_7 rfl rfl ?_
  refine r_calli C hsz (cR_noCell (g_l X) G s18 _ _ hw) kR_255 kR_256 kR_257 kR_52 hdR_noCell ⟨Nat.le_trans (Nat.le_of_ble_eq_true rfl) hR.1, Nat.le_trans (Nat.le_of_ble_eq_true rfl) hR.2⟩ dX8_link_8 rfl (Nat.le_of_ble_eq_true rfl) (fun r20 s19 hw => ?_)
  refine g_if_ne (tgt := 22) C.1 dX8_link_11 (by decide) (fun h21 => ?_) (fun h21 => ?_)
  · replace hw := hw.1 h21
    exact wkR_link_22 C hsz hR hret _ _ _ _ hw
  · replace hw := hw.2 h21
    refine g_aload_n C.1 0 dX8_link_14 rfl rfl ?_
    refine g_iload_n C.1 2 dX8_link_15 rfl rfl ?_
    refine r_calli C hsz (cR_noCell (g_l X) G s19 _ _ hw) kR_255 kR_256 kR_257 kR_52 hdR_noCell ⟨Nat.le_trans (Nat.le_of_ble_eq_true rfl) hR.1, Nat.le_trans (Nat.le_of_ble_eq_true rfl) hR.2⟩ dX8_link_16 rfl (Nat.le_of_ble_eq_true rfl) (fun r23 s22 hw => ?_)
    refine g_if_eq (tgt := 26) C.1 dX8_link_19 (by decide) (fun h24 => ?_) (fun h24 => ?_)
    · replace hw := hw.1 h24
      refine g_iconst (v := 0) C.1 dX8_link_26 (by decide) ?_
      exact wkR_link_27 C hsz hR hret _ _ _ _ _ hw
    · replace hw := hw.2 h24
      exact wkR_link_22 C hsz hR hret _ _ _ _ hw
theorem hdR_link : yX8_link.cls = RX8 ∧ yX8_link.cls ≠ "java/lang/invoke/MethodHandle" ∧ yX8_link.cls ≠ "java/lang/invoke/VarHandle" ∧ (parseMethodDescriptor yX8_link.desc).map (fun d => d.parameters.length) = some 3 := by decide +kernel
theorem cR_link (l : Launch) (G : rG) (s : RSt) (v1 : Int32) (v2 : Int32) (v3 : Int32) (post : Int32 → RSt → Prop) (hw : wpR_link_0 post s v1 v2 v3) : rMi l yX8_link cX8_link 4 .int 2 46 G s [.int v1, .int v2, .int v3] post := rMi_of (by decide +kernel) rfl (Nat.le_of_ble_eq_true rfl) (fun X A H0 Q hl hR hsz C hret => wkR_link_0 C hsz hR hret s v1 v2 v3 hw)
def wpR_want_36 (post : RSt → Prop) (s : RSt) (v1 : Int32) (v2 : Int32) (w1 : Int32) : Prop := wpR_throwsIf_0 (fun r2 s1 => (r2 = 0 → vp_in v1 40 ∧ ∀ s4 : RSt, s4 = rsA s1 12 v1.toNatClampNeg v2 → post s4) ∧ (¬ r2 = 0 → post s1)) s w1 2
def wpR_want_0 (post : RSt → Prop) (s : RSt) (v1 : Int32) (v2 : Int32) : Prop := ∀ s5 : RSt, s5 = rsI s 0 0 → wpR_noCell_0 (fun r7 s6 => wpR_throwsIf_0 (fun r9 s8 => (¬ r9 = 0 → post s8) ∧ (r9 = 0 → wpR_in_0 (fun r11 => (¬ r11 = 0 → wpR_want_36 post s8 v1 v2 0) ∧ (r11 = 0 → wpR_want_36 post s8 v1 v2 1)) v2.toInt64 0 1000000)) s6 r7 1) s5 v1
theorem wkR_want_36 {X : gT} {G : rG} {A : Nat → Prop} {H0 : Heap} {Q : State → Prop} (C : rC X cX8_want 3 G A) (hsz : H0 = (g_s X).heap) (hR : 2 ≤ (g_R X).frames ∧ 46 ≤ (g_R X).locals) {post : RSt → Prop} (hret : ∀ (τ : RSt) (lv : List (Nat × Value)) (pc : Nat), post τ → decode cX8_want pc = .ok (.return_, 1) → gJ X (rWd G A H0) Q 0 0 τ lv pc []) (s : RSt) (v1 : Int32) (v2 : Int32) (w1 : Int32) (hw : wpR_want_36 post s v1 v2 w1) : gJ X (rWd G A H0) Q 0 0 s [(0, .ref (G.2.2.1 0)), (1, .int v1), (2, .int v2)] 36 [.int w1, .ref (G.2.2.1 0)] := by
  refine g_iconst (v := 2) C.1 dX8_want_36 (by decide) ?_
  refine r_calli C hsz (cR_throwsIf (g_l X) G s _ _ _ hw) kR_65 kR_66 kR_67 kR_42 hdR_throwsIf ⟨Nat.le_trans (Nat.le_of_ble_eq_true rfl) hR.1, Nat.le_trans (Nat.le_of_ble_eq_true rfl) hR.2⟩ dX8_want_37 rfl (Nat.le_of_ble_eq_true rfl) (fun r2 s1 hw => ?_)
  refine g_if_eq (tgt := 44) C.1 dX8_want_40 (by decide) (fun h3 => ?_) (fun h3 => ?_)
  · replace hw := hw.1 h3
    refine g_aload_n C.1 0 dX8_want_44 rfl rfl ?_
    refine r_g12 C dX8_want_45 ?_
    refine g_iload_n C.1 1 dX8_want_48 rfl rfl ?_
    refine g_iload_n C.1 2 dX8_want_49 rfl rfl ?_
    refine r_st12 C hw.1 dX8_want_50 ?_
    replace hw := hw.2
    refine gJ.nm (fun s4 es4 => ?_)
    replace hw := hw s4 es4
    exact hret _ _ _ hw dX8_want_51
  · replace hw := hw.2 h3
    exact hret _ _ _ hw dX8_want_43
theorem wkR_want_0 {X : gT} {G : rG} {A : Nat → Prop} {H0 : Heap} {Q : State → Prop} (C : rC X cX8_want 3 G A) (hsz : H0 = (g_s X).heap) (hR : 2 ≤ (g_R X).frames ∧ 46 ≤ (g_R X).locals) {post : RSt → Prop} (hret : ∀ (τ : RSt) (lv : List (Nat × Value)) (pc : Nat), post τ → decode cX8_want pc = .ok (.return_, 1) → gJ X (rWd G A H0) Q 0 0 τ lv pc []) (s : RSt) (v1 : Int32) (v2 : Int32) (hw : wpR_want_0 post s v1 v2) : gJ X (rWd G A H0) Q 0 0 s [(0, .ref (G.2.2.1 0)), (1, .int v1), (2, .int v2)] 0 [] := by
  refine g_aload_n C.1 0 dX8_want_0 rfl rfl ?_
  refine g_iconst (v := 0) C.1 dX8_want_1 (by decide) ?_
  refine r_p0 C dX8_want_2 ?_
  refine gJ.nm (fun s5 es5 => ?_)
  replace hw := hw s5 es5
  refine g_aload_n C.1 0 dX8_want_5 rfl rfl ?_
  refine g_aload_n C.1 0 dX8_want_6 rfl rfl ?_
  refine g_iload_n C.1 1 dX8_want_7 rfl rfl ?_
  refine r_calli C hsz (cR_noCell (g_l X) G s5 _ _ hw) kR_255 kR_256 kR_257 kR_52 hdR_noCell ⟨Nat.le_trans (Nat.le_of_ble_eq_true rfl) hR.1, Nat.le_trans (Nat.le_of_ble_eq_true rfl) hR.2⟩ dX8_want_8 rfl (Nat.le_of_ble_eq_true rfl) (fun r7 s6 hw => ?_)
  refine g_iconst (v := 1) C.1 dX8_want_11 (by decide) ?_
  refine r_calli C hsz (cR_throwsIf (g_l X) G s6 _ _ _ hw) kR_65 kR_66 kR_67 kR_42 hdR_throwsIf ⟨Nat.le_trans (Nat.le_of_ble_eq_true rfl) hR.1, Nat.le_trans (Nat.le_of_ble_eq_true rfl) hR.2⟩ dX8_want_12 rfl (Nat.le_of_ble_eq_true rfl) (fun r9 s8 hw => ?_)
  refine g_if_ne (tgt := 43) C.1 dX8_want_15 (by decide) (fun h10 => ?_) (fun h10 => ?_)
  · replace hw := hw.1 h10
    exact hret _ _ _ hw dX8_want_43
  · replace hw := hw.2 h10
    refine g_aload_n C.1 0 dX8_want_18 rfl rfl ?_
    refine g_iload_n C.1 2 dX8_want_19 rfl rfl ?_
    refine g_i2l C.1 dX8_want_20 ?_
    refine g_lconst (v := 0) C.1 dX8_want_21 (by decide) ?_
    refine g_ldc2 (v := 1000000) C.1 C.2.1 (C.2.2.1 _ kR_259) dX8_want_22 ?_
    refine g_callSi (rC.s C) (cR_in (g_l X) _ _ _ _ hw) kR_45 kR_46 kR_43 hdR_in ⟨Nat.le_trans (Nat.le_of_ble_eq_true rfl) hR.1, Nat.le_trans (Nat.le_of_ble_eq_true rfl) hR.2⟩ dX8_want_25 rfl (Nat.le_of_ble_eq_true rfl) (fun r11 hw => ?_)
    refine g_if_ne (tgt := 35) C.1 dX8_want_28 (by decide) (fun h12 => ?_) (fun h12 => ?_)
    · replace hw := hw.1 h12
      refine g_iconst (v := 0) C.1 dX8_want_35 (by decide) ?_
      exact wkR_want_36 C hsz hR hret _ _ _ _ hw
    · replace hw := hw.2 h12
      refine g_iconst (v := 1) C.1 dX8_want_31 (by decide) ?_
      refine g_goto (tgt := 36) C.1 dX8_want_32 (by decide) ?_
      exact wkR_want_36 C hsz hR hret _ _ _ _ hw
theorem hdR_want : yX8_want.cls = RX8 ∧ yX8_want.cls ≠ "java/lang/invoke/MethodHandle" ∧ yX8_want.cls ≠ "java/lang/invoke/VarHandle" ∧ (parseMethodDescriptor yX8_want.desc).map (fun d => d.parameters.length) = some 2 := by decide +kernel
theorem cR_want (l : Launch) (G : rG) (s : RSt) (v1 : Int32) (v2 : Int32) (post : RSt → Prop) (hw : wpR_want_0 post s v1 v2) : rMv l yX8_want cX8_want 3 2 46 G s [.int v1, .int v2] post := rMv_of (by decide +kernel) rfl (Nat.le_of_ble_eq_true rfl) (fun X A H0 Q hl hR hsz C hret => wkR_want_0 C hsz hR hret s v1 v2 hw)
def wpR_least_149_F (post : Int64 → RSt → Prop) (K149 : RSt → Int64 → Int32 → Prop) (s : RSt) (v3 : Int64) (v5 : Int32) : Prop := ((s.1 14) ≤ v5 → post v3 s) ∧ (¬ (s.1 14) ≤ v5 → vp_in v5 40 ∧ (0 ≤ (lg_cmp (s.2.2 44 v5.toNatClampNeg) 0) → K149 s v3 (v5 + 1)) ∧ (¬ 0 ≤ (lg_cmp (s.2.2 44 v5.toNatClampNeg) 0) → post (-1) s))
def wpR_least_149 (post : Int64 → RSt → Prop) (s : RSt) (v3 : Int64) (v5 : Int32) : Prop := gLP (fun (K : RSt × Int64 × Int32 → Prop) (x : RSt × Int64 × Int32) => wpR_least_149_F post (fun s v3 v5 => K (s, v3, v5)) x.1 x.2.1 x.2.2) (s, v3, v5)
def wpR_least_123_F (post : Int64 → RSt → Prop) (K123 : RSt → Int64 → Int32 → Prop) (s : RSt) (v3 : Int64) (v5 : Int32) : Prop := (v5 < 0 → wpR_least_149 post s v3 0) ∧ (¬ v5 < 0 → wpR_carries_0 (fun r5 s4 => wpR_seeks_0 (fun r7 s6 => K123 s6 (v3 + r5) r7) s4) s v5)
def wpR_least_123 (post : Int64 → RSt → Prop) (s : RSt) (v3 : Int64) (v5 : Int32) : Prop := gLP (fun (K : RSt × Int64 × Int32 → Prop) (x : RSt × Int64 × Int32) => wpR_least_123_F post (fun s v3 v5 => K (s, v3, v5)) x.1 x.2.1 x.2.2) (s, v3, v5)
def wpR_least_99 (post : Int64 → RSt → Prop) (K13 : RSt → Int64 → Int32 → Prop) (s : RSt) (v3 : Int32) (w0 : Int64) (w1 : Int64) : Prop := K13 s (w0 + w1) (v3 + 1)
def wpR_least_83 (post : Int64 → RSt → Prop) (K13 : RSt → Int64 → Int32 → Prop) (s : RSt) (v1 : Int64) (v3 : Int32) (w1 : Int32) (w2 : Int32) : Prop := vp_in w1 40 ∧ ∀ s8 : RSt, s8 = rsA s 48 w1.toNatClampNeg (vp_nar .boolean w2) → vp_in v3 40 ∧ ((s8.2.1 48 v3.toNatClampNeg) = 0 → wpR_least_99 post K13 s8 v3 v1 0) ∧ (¬ (s8.2.1 48 v3.toNatClampNeg) = 0 → wpR_least_99 post K13 s8 v3 v1 1)
def wpR_least_61 (post : Int64 → RSt → Prop) (K13 : RSt → Int64 → Int32 → Prop) (s : RSt) (v1 : Int64) (v3 : Int32) (w1 : Int32) (w2 : Int32) : Prop := vp_in w1 40 ∧ ∀ s10 : RSt, s10 = rsA s 47 w1.toNatClampNeg (vp_nar .boolean w2) → vp_in v3 40 ∧ (0 ≤ (lg_cmp (s10.2.2 44 v3.toNatClampNeg) 0) → wpR_least_83 post K13 s10 v1 v3 v3 0) ∧ (¬ 0 ≤ (lg_cmp (s10.2.2 44 v3.toNatClampNeg) 0) → wpR_least_83 post K13 s10 v1 v3 v3 1)
def wpR_least_13_F (post : Int64 → RSt → Prop) (K13 : RSt → Int64 → Int32 → Prop) (s : RSt) (v1 : Int64) (v3 : Int32) : Prop := ((s.1 14) ≤ v3 → (¬ (lg_cmp v1 0) = 0 → wpR_seeks_0 (fun r15 s14 => wpR_least_123 post s14 0 r15) s) ∧ ((lg_cmp v1 0) = 0 → post 0 s)) ∧ (¬ (s.1 14) ≤ v3 → wpR_depth_0 (fun r17 s16 => vp_in v3 40 ∧ vp_in v3 40 ∧ ∀ s18 : RSt, s18 = rsJ s16 44 v3.toNatClampNeg ((r17 - (s16.2.1 12 v3.toNatClampNeg)).toInt64) → vp_in v3 40 ∧ ((lg_cmp (s18.2.2 44 v3.toNatClampNeg) 0) ≤ 0 → wpR_least_61 post K13 s18 v1 v3 v3 0) ∧ (¬ (lg_cmp (s18.2.2 44 v3.toNatClampNeg) 0) ≤ 0 → wpR_least_61 post K13 s18 v1 v3 v3 1)) s v3)
def wpR_least_13 (post : Int64 → RSt → Prop) (s : RSt) (v1 : Int64) (v3 : Int32) : Prop := gLP (fun (K : RSt × Int64 × Int32 → Prop) (x : RSt × Int64 × Int32) => wpR_least_13_F post (fun s v1 v3 => K (s, v1, v3)) x.1 x.2.1 x.2.2) (s, v1, v3)
def wpR_least_0 (post : Int64 → RSt → Prop) (s : RSt) : Prop := ∀ s20 : RSt, s20 = rsI s 0 0 → wpR_ways_0 (fun s21 => wpR_least_13 post s21 0 0) s20
theorem wkR_least_149_F {X : gT} {G : rG} {A : Nat → Prop} {H0 : Heap} {Q : State → Prop} (C : rC X cX8_least 6 G A) (hsz : H0 = (g_s X).heap) (hR : 2 ≤ (g_R X).frames ∧ 51 ≤ (g_R X).locals) {post : Int64 → RSt → Prop} (hret : ∀ (r : Int64) (τ : RSt) (lv : List (Nat × Value)) (pc : Nat), post r τ → decode cX8_least pc = .ok (.lreturn, 1) → gJ X (rWd G A H0) Q 0 0 τ lv pc [.long r]) {K149 : RSt → Int64 → Int32 → Prop} (hK149 : ∀ (s : RSt) (v3 : Int64) (v5 : Int32), K149 s v3 v5 → gJ X (rWd G A H0) Q 0 0 s [(0, .ref (G.2.2.1 0)), (3, .long v3), (5, .int v5)] 149 []) (s : RSt) (v3 : Int64) (v5 : Int32) (hw : wpR_least_149_F post K149 s v3 v5) : gJ X (rWd G A H0) Q 0 0 s [(0, .ref (G.2.2.1 0)), (3, .long v3), (5, .int v5)] 149 [] := by
  refine g_iload C.1 2 dX8_least_149 rfl ?_
  refine g_aload_n C.1 0 dX8_least_151 rfl rfl ?_
  refine r_g14 C dX8_least_152 ?_
  refine g_icmp_ge (tgt := 180) C.1 dX8_least_155 (by decide) (fun h1 => ?_) (fun h1 => ?_)
  · replace hw := hw.1 h1
    refine g_lload_n C.1 1 dX8_least_180 rfl rfl ?_
    exact hret _ _ _ _ hw dX8_least_181
  · replace hw := hw.2 h1
    refine g_aload_n C.1 0 dX8_least_158 rfl rfl ?_
    refine r_g44 C dX8_least_159 ?_
    refine g_iload C.1 2 dX8_least_162 rfl ?_
    refine r_ld44 C hw.1 dX8_least_164 ?_
    replace hw := hw.2
    refine g_lconst (v := 0) C.1 dX8_least_165 (by decide) ?_
    refine g_lcmp C.1 dX8_least_166 ?_
    refine g_if_ge (tgt := 174) C.1 dX8_least_167 (by decide) (fun h2 => ?_) (fun h2 => ?_)
    · replace hw := hw.1 h2
      refine g_iinc (v := v5 + 1) (lv' := [(5, .int (v5 + 1)), (0, .ref (G.2.2.1 0)), (3, .long v3)]) C.1 2 dX8_least_174 rfl rfl (by decide) rfl ?_
      refine g_goto (tgt := 149) C.1 dX8_least_177 (by decide) ?_
      refine gJ.sub [1, 2, 0] rfl ?_
      exact hK149 _ _ _ hw
    · replace hw := hw.2 h2
      refine g_ldc2 (v := (-1)) C.1 C.2.1 (C.2.2.1 _ kR_275) dX8_least_170 ?_
      exact hret _ _ _ _ hw dX8_least_173
theorem wkR_least_149 {X : gT} {G : rG} {A : Nat → Prop} {H0 : Heap} {Q : State → Prop} (C : rC X cX8_least 6 G A) (hsz : H0 = (g_s X).heap) (hR : 2 ≤ (g_R X).frames ∧ 51 ≤ (g_R X).locals) {post : Int64 → RSt → Prop} (hret : ∀ (r : Int64) (τ : RSt) (lv : List (Nat × Value)) (pc : Nat), post r τ → decode cX8_least pc = .ok (.lreturn, 1) → gJ X (rWd G A H0) Q 0 0 τ lv pc [.long r]) (s : RSt) (v3 : Int64) (v5 : Int32) (hw : wpR_least_149 post s v3 v5) : gJ X (rWd G A H0) Q 0 0 s [(0, .ref (G.2.2.1 0)), (3, .long v3), (5, .int v5)] 149 [] := 
  hw (fun (x : RSt × Int64 × Int32) => (fun s v3 v5 => gJ X (rWd G A H0) Q 0 0 s [(0, .ref (G.2.2.1 0)), (3, .long v3), (5, .int v5)] 149 []) x.1 x.2.1 x.2.2) (fun x hx => wkR_least_149_F C hsz hR hret (K149 := (fun s v3 v5 => gJ X (rWd G A H0) Q 0 0 s [(0, .ref (G.2.2.1 0)), (3, .long v3), (5, .int v5)] 149 [])) (fun _ _ _ h => h) x.1 x.2.1 x.2.2 hx)
theorem wkR_least_123_F {X : gT} {G : rG} {A : Nat → Prop} {H0 : Heap} {Q : State → Prop} (C : rC X cX8_least 6 G A) (hsz : H0 = (g_s X).heap) (hR : 2 ≤ (g_R X).frames ∧ 51 ≤ (g_R X).locals) {post : Int64 → RSt → Prop} (hret : ∀ (r : Int64) (τ : RSt) (lv : List (Nat × Value)) (pc : Nat), post r τ → decode cX8_least pc = .ok (.lreturn, 1) → gJ X (rWd G A H0) Q 0 0 τ lv pc [.long r]) {K123 : RSt → Int64 → Int32 → Prop} (hK123 : ∀ (s : RSt) (v3 : Int64) (v5 : Int32), K123 s v3 v5 → gJ X (rWd G A H0) Q 0 0 s [(0, .ref (G.2.2.1 0)), (3, .long v3), (5, .int v5)] 123 []) (s : RSt) (v3 : Int64) (v5 : Int32) (hw : wpR_least_123_F post K123 s v3 v5) : gJ X (rWd G A H0) Q 0 0 s [(0, .ref (G.2.2.1 0)), (3, .long v3), (5, .int v5)] 123 [] := by
  refine g_iload C.1 2 dX8_least_123 rfl ?_
  refine g_if_lt (tgt := 146) C.1 dX8_least_125 (by decide) (fun h3 => ?_) (fun h3 => ?_)
  · replace hw := hw.1 h3
    refine g_iconst (v := 0) C.1 dX8_least_146 (by decide) ?_
    refine g_istore (lv' := [(5, .int 0), (0, .ref (G.2.2.1 0)), (3, .long v3)]) C.1 dX8_least_147 (by decide) rfl ?_
    refine gJ.sub [1, 2, 0] rfl ?_
    exact wkR_least_149 C hsz hR hret _ _ _ hw
  · replace hw := hw.2 h3
    refine g_lload_n C.1 1 dX8_least_128 rfl rfl ?_
    refine g_aload_n C.1 0 dX8_least_129 rfl rfl ?_
    refine g_iload C.1 2 dX8_least_130 rfl ?_
    refine r_calll C hsz (cR_carries (g_l X) G s _ _ hw) kR_282 kR_283 kR_284 kR_274 hdR_carries ⟨Nat.le_trans (Nat.le_of_ble_eq_true rfl) hR.1, Nat.le_trans (Nat.le_of_ble_eq_true rfl) hR.2⟩ dX8_least_132 rfl (Nat.le_of_ble_eq_true rfl) (fun r5 s4 hw => ?_)
    refine g_ladd C.1 dX8_least_135 ?_
    refine g_lstore_n (lv' := [(3, .long (v3 + r5)), (0, .ref (G.2.2.1 0)), (5, .int v5)]) C.1 dX8_least_136 rfl (by decide) rfl ?_
    refine g_aload_n C.1 1 dX8_least_137 rfl rfl ?_
    refine r_calli C hsz (cR_seeks (g_l X) G s4 _ hw) kR_279 kR_280 kR_281 kR_269 hdR_seeks ⟨Nat.le_trans (Nat.le_of_ble_eq_true rfl) hR.1, Nat.le_trans (Nat.le_of_ble_eq_true rfl) hR.2⟩ dX8_least_138 rfl (Nat.le_of_ble_eq_true rfl) (fun r7 s6 hw => ?_)
    refine g_istore (lv' := [(5, .int r7), (3, .long (v3 + r5)), (0, .ref (G.2.2.1 0))]) C.1 dX8_least_141 (by decide) rfl ?_
    refine g_goto (tgt := 123) C.1 dX8_least_143 (by decide) ?_
    refine gJ.sub [2, 1, 0] rfl ?_
    exact hK123 _ _ _ hw
theorem wkR_least_123 {X : gT} {G : rG} {A : Nat → Prop} {H0 : Heap} {Q : State → Prop} (C : rC X cX8_least 6 G A) (hsz : H0 = (g_s X).heap) (hR : 2 ≤ (g_R X).frames ∧ 51 ≤ (g_R X).locals) {post : Int64 → RSt → Prop} (hret : ∀ (r : Int64) (τ : RSt) (lv : List (Nat × Value)) (pc : Nat), post r τ → decode cX8_least pc = .ok (.lreturn, 1) → gJ X (rWd G A H0) Q 0 0 τ lv pc [.long r]) (s : RSt) (v3 : Int64) (v5 : Int32) (hw : wpR_least_123 post s v3 v5) : gJ X (rWd G A H0) Q 0 0 s [(0, .ref (G.2.2.1 0)), (3, .long v3), (5, .int v5)] 123 [] := 
  hw (fun (x : RSt × Int64 × Int32) => (fun s v3 v5 => gJ X (rWd G A H0) Q 0 0 s [(0, .ref (G.2.2.1 0)), (3, .long v3), (5, .int v5)] 123 []) x.1 x.2.1 x.2.2) (fun x hx => wkR_least_123_F C hsz hR hret (K123 := (fun s v3 v5 => gJ X (rWd G A H0) Q 0 0 s [(0, .ref (G.2.2.1 0)), (3, .long v3), (5, .int v5)] 123 [])) (fun _ _ _ h => h) x.1 x.2.1 x.2.2 hx)
theorem wkR_least_99 {X : gT} {G : rG} {A : Nat → Prop} {H0 : Heap} {Q : State → Prop} (C : rC X cX8_least 6 G A) (hsz : H0 = (g_s X).heap) (hR : 2 ≤ (g_R X).frames ∧ 51 ≤ (g_R X).locals) {post : Int64 → RSt → Prop} (hret : ∀ (r : Int64) (τ : RSt) (lv : List (Nat × Value)) (pc : Nat), post r τ → decode cX8_least pc = .ok (.lreturn, 1) → gJ X (rWd G A H0) Q 0 0 τ lv pc [.long r]) {K13 : RSt → Int64 → Int32 → Prop} (hK13 : ∀ (s : RSt) (v1 : Int64) (v3 : Int32), K13 s v1 v3 → gJ X (rWd G A H0) Q 0 0 s [(0, .ref (G.2.2.1 0)), (1, .long v1), (3, .int v3)] 13 []) (s : RSt) (v3 : Int32) (w0 : Int64) (w1 : Int64) (hw : wpR_least_99 post K13 s v3 w0 w1) : gJ X (rWd G A H0) Q 0 0 s [(0, .ref (G.2.2.1 0)), (3, .int v3)] 99 [.long w1, .long w0] := by
  refine g_ladd C.1 dX8_least_99 ?_
  refine g_lstore_n (lv' := [(1, .long (w0 + w1)), (0, .ref (G.2.2.1 0)), (3, .int v3)]) C.1 dX8_least_100 rfl (by decide) rfl ?_
  refine g_iinc (v := v3 + 1) (lv' := [(3, .int (v3 + 1)), (1, .long (w0 + w1)), (0, .ref (G.2.2.1 0))]) C.1 2 dX8_least_101 rfl rfl (by decide) rfl ?_
  refine g_goto (tgt := 13) C.1 dX8_least_104 (by decide) ?_
  refine gJ.sub [2, 1, 0] rfl ?_
  exact hK13 _ _ _ hw
theorem wkR_least_83 {X : gT} {G : rG} {A : Nat → Prop} {H0 : Heap} {Q : State → Prop} (C : rC X cX8_least 6 G A) (hsz : H0 = (g_s X).heap) (hR : 2 ≤ (g_R X).frames ∧ 51 ≤ (g_R X).locals) {post : Int64 → RSt → Prop} (hret : ∀ (r : Int64) (τ : RSt) (lv : List (Nat × Value)) (pc : Nat), post r τ → decode cX8_least pc = .ok (.lreturn, 1) → gJ X (rWd G A H0) Q 0 0 τ lv pc [.long r]) {K13 : RSt → Int64 → Int32 → Prop} (hK13 : ∀ (s : RSt) (v1 : Int64) (v3 : Int32), K13 s v1 v3 → gJ X (rWd G A H0) Q 0 0 s [(0, .ref (G.2.2.1 0)), (1, .long v1), (3, .int v3)] 13 []) (s : RSt) (v1 : Int64) (v3 : Int32) (w1 : Int32) (w2 : Int32) (hw : wpR_least_83 post K13 s v1 v3 w1 w2) : gJ X (rWd G A H0) Q 0 0 s [(0, .ref (G.2.2.1 0)), (1, .long v1), (3, .int v3)] 83 [.int w2, .int w1, .ref (G.2.2.1 48)] := by
  refine r_st48 C hw.1 dX8_least_83 ?_
  replace hw := hw.2
  refine gJ.nm (fun s8 es8 => ?_)
  replace hw := hw s8 es8
  refine g_lload_n C.1 1 dX8_least_84 rfl rfl ?_
  refine g_aload_n C.1 0 dX8_least_85 rfl rfl ?_
  refine r_g48 C dX8_least_86 ?_
  refine g_iload_n C.1 2 dX8_least_89 rfl rfl ?_
  refine r_ld48 C hw.1 dX8_least_90 ?_
  replace hw := hw.2
  refine g_if_eq (tgt := 98) C.1 dX8_least_91 (by decide) (fun h9 => ?_) (fun h9 => ?_)
  · replace hw := hw.1 h9
    refine g_lconst (v := 0) C.1 dX8_least_98 (by decide) ?_
    refine gJ.sub [0, 2] rfl ?_
    exact wkR_least_99 C hsz hR hret hK13 _ _ _ _ hw
  · replace hw := hw.2 h9
    refine g_lconst (v := 1) C.1 dX8_least_94 (by decide) ?_
    refine g_goto (tgt := 99) C.1 dX8_least_95 (by decide) ?_
    refine gJ.sub [0, 2] rfl ?_
    exact wkR_least_99 C hsz hR hret hK13 _ _ _ _ hw
theorem wkR_least_61 {X : gT} {G : rG} {A : Nat → Prop} {H0 : Heap} {Q : State → Prop} (C : rC X cX8_least 6 G A) (hsz : H0 = (g_s X).heap) (hR : 2 ≤ (g_R X).frames ∧ 51 ≤ (g_R X).locals) {post : Int64 → RSt → Prop} (hret : ∀ (r : Int64) (τ : RSt) (lv : List (Nat × Value)) (pc : Nat), post r τ → decode cX8_least pc = .ok (.lreturn, 1) → gJ X (rWd G A H0) Q 0 0 τ lv pc [.long r]) {K13 : RSt → Int64 → Int32 → Prop} (hK13 : ∀ (s : RSt) (v1 : Int64) (v3 : Int32), K13 s v1 v3 → gJ X (rWd G A H0) Q 0 0 s [(0, .ref (G.2.2.1 0)), (1, .long v1), (3, .int v3)] 13 []) (s : RSt) (v1 : Int64) (v3 : Int32) (w1 : Int32) (w2 : Int32) (hw : wpR_least_61 post K13 s v1 v3 w1 w2) : gJ X (rWd G A H0) Q 0 0 s [(0, .ref (G.2.2.1 0)), (1, .long v1), (3, .int v3)] 61 [.int w2, .int w1, .ref (G.2.2.1 47)] := by
  refine r_st47 C hw.1 dX8_least_61 ?_
  replace hw := hw.2
  refine gJ.nm (fun s10 es10 => ?_)
  replace hw := hw s10 es10
  refine g_aload_n C.1 0 dX8_least_62 rfl rfl ?_
  refine r_g48 C dX8_least_63 ?_
  refine g_iload_n C.1 2 dX8_least_66 rfl rfl ?_
  refine g_aload_n C.1 0 dX8_least_67 rfl rfl ?_
  refine r_g44 C dX8_least_68 ?_
  refine g_iload_n C.1 2 dX8_least_71 rfl rfl ?_
  refine r_ld44 C hw.1 dX8_least_72 ?_
  replace hw := hw.2
  refine g_lconst (v := 0) C.1 dX8_least_73 (by decide) ?_
  refine g_lcmp C.1 dX8_least_74 ?_
  refine g_if_ge (tgt := 82) C.1 dX8_least_75 (by decide) (fun h11 => ?_) (fun h11 => ?_)
  · replace hw := hw.1 h11
    refine g_iconst (v := 0) C.1 dX8_least_82 (by decide) ?_
    exact wkR_least_83 C hsz hR hret hK13 _ _ _ _ _ hw
  · replace hw := hw.2 h11
    refine g_iconst (v := 1) C.1 dX8_least_78 (by decide) ?_
    refine g_goto (tgt := 83) C.1 dX8_least_79 (by decide) ?_
    exact wkR_least_83 C hsz hR hret hK13 _ _ _ _ _ hw
theorem wkR_least_13_F {X : gT} {G : rG} {A : Nat → Prop} {H0 : Heap} {Q : State → Prop} (C : rC X cX8_least 6 G A) (hsz : H0 = (g_s X).heap) (hR : 2 ≤ (g_R X).frames ∧ 51 ≤ (g_R X).locals) {post : Int64 → RSt → Prop} (hret : ∀ (r : Int64) (τ : RSt) (lv : List (Nat × Value)) (pc : Nat), post r τ → decode cX8_least pc = .ok (.lreturn, 1) → gJ X (rWd G A H0) Q 0 0 τ lv pc [.long r]) {K13 : RSt → Int64 → Int32 → Prop} (hK13 : ∀ (s : RSt) (v1 : Int64) (v3 : Int32), K13 s v1 v3 → gJ X (rWd G A H0) Q 0 0 s [(0, .ref (G.2.2.1 0)), (1, .long v1), (3, .int v3)] 13 []) (s : RSt) (v1 : Int64) (v3 : Int32) (hw : wpR_least_13_F post K13 s v1 v3) : gJ X (rWd G A H0) Q 0 0 s [(0, .ref (G.2.2.1 0)), (1, .long v1), (3, .int v3)] 13 [] := by
  refine g_iload_n C.1 2 dX8_least_13 rfl rfl ?_
  refine g_aload_n C.1 0 dX8_least_14 rfl rfl ?_
  refine r_g14 C dX8_least_15 ?_
  refine g_icmp_ge (tgt := 107) C.1 dX8_least_18 (by decide) (fun h12 => ?_) (fun h12 => ?_)
  · replace hw := hw.1 h12
    refine g_lload_n C.1 1 dX8_least_107 rfl rfl ?_
    refine g_lconst (v := 0) C.1 dX8_least_108 (by decide) ?_
    refine g_lcmp C.1 dX8_least_109 ?_
    refine g_if_ne (tgt := 115) C.1 dX8_least_110 (by decide) (fun h13 => ?_) (fun h13 => ?_)
    · replace hw := hw.1 h13
      refine g_lconst (v := 0) C.1 dX8_least_115 (by decide) ?_
      refine g_lstore_n (lv' := [(3, .long 0), (0, .ref (G.2.2.1 0)), (1, .long v1)]) C.1 dX8_least_116 rfl (by decide) rfl ?_
      refine g_aload_n C.1 1 dX8_least_117 rfl rfl ?_
      refine r_calli C hsz (cR_seeks (g_l X) G s _ hw) kR_279 kR_280 kR_281 kR_269 hdR_seeks ⟨Nat.le_trans (Nat.le_of_ble_eq_true rfl) hR.1, Nat.le_trans (Nat.le_of_ble_eq_true rfl) hR.2⟩ dX8_least_118 rfl (Nat.le_of_ble_eq_true rfl) (fun r15 s14 hw => ?_)
      refine g_istore (lv' := [(5, .int r15), (3, .long 0), (0, .ref (G.2.2.1 0)), (1, .long v1)]) C.1 dX8_least_121 (by decide) rfl ?_
      refine gJ.sub [2, 1, 0] rfl ?_
      exact wkR_least_123 C hsz hR hret _ _ _ hw
    · replace hw := hw.2 h13
      refine g_lconst (v := 0) C.1 dX8_least_113 (by decide) ?_
      exact hret _ _ _ _ hw dX8_least_114
  · replace hw := hw.2 h12
    refine g_aload_n C.1 0 dX8_least_21 rfl rfl ?_
    refine r_g44 C dX8_least_22 ?_
    refine g_iload_n C.1 2 dX8_least_25 rfl rfl ?_
    refine g_aload_n C.1 0 dX8_least_26 rfl rfl ?_
    refine g_iload_n C.1 2 dX8_least_27 rfl rfl ?_
    refine r_calli C hsz (cR_depth (g_l X) G s _ _ hw) kR_195 kR_196 kR_197 kR_193 hdR_depth ⟨Nat.le_trans (Nat.le_of_ble_eq_true rfl) hR.1, Nat.le_trans (Nat.le_of_ble_eq_true rfl) hR.2⟩ dX8_least_28 rfl (Nat.le_of_ble_eq_true rfl) (fun r17 s16 hw => ?_)
    refine g_aload_n C.1 0 dX8_least_31 rfl rfl ?_
    refine r_g12 C dX8_least_32 ?_
    refine g_iload_n C.1 2 dX8_least_35 rfl rfl ?_
    refine r_ld12 C hw.1 dX8_least_36 ?_
    replace hw := hw.2
    refine g_isub C.1 dX8_least_37 ?_
    refine g_i2l C.1 dX8_least_38 ?_
    refine r_st44 C hw.1 dX8_least_39 ?_
    replace hw := hw.2
    refine gJ.nm (fun s18 es18 => ?_)
    replace hw := hw s18 es18
    refine g_aload_n C.1 0 dX8_least_40 rfl rfl ?_
    refine r_g47 C dX8_least_41 ?_
    refine g_iload_n C.1 2 dX8_least_44 rfl rfl ?_
    refine g_aload_n C.1 0 dX8_least_45 rfl rfl ?_
    refine r_g44 C dX8_least_46 ?_
    refine g_iload_n C.1 2 dX8_least_49 rfl rfl ?_
    refine r_ld44 C hw.1 dX8_least_50 ?_
    replace hw := hw.2
    refine g_lconst (v := 0) C.1 dX8_least_51 (by decide) ?_
    refine g_lcmp C.1 dX8_least_52 ?_
    refine g_if_le (tgt := 60) C.1 dX8_least_53 (by decide) (fun h19 => ?_) (fun h19 => ?_)
    · replace hw := hw.1 h19
      refine g_iconst (v := 0) C.1 dX8_least_60 (by decide) ?_
      exact wkR_least_61 C hsz hR hret hK13 _ _ _ _ _ hw
    · replace hw := hw.2 h19
      refine g_iconst (v := 1) C.1 dX8_least_56 (by decide) ?_
      refine g_goto (tgt := 61) C.1 dX8_least_57 (by decide) ?_
      exact wkR_least_61 C hsz hR hret hK13 _ _ _ _ _ hw
theorem wkR_least_13 {X : gT} {G : rG} {A : Nat → Prop} {H0 : Heap} {Q : State → Prop} (C : rC X cX8_least 6 G A) (hsz : H0 = (g_s X).heap) (hR : 2 ≤ (g_R X).frames ∧ 51 ≤ (g_R X).locals) {post : Int64 → RSt → Prop} (hret : ∀ (r : Int64) (τ : RSt) (lv : List (Nat × Value)) (pc : Nat), post r τ → decode cX8_least pc = .ok (.lreturn, 1) → gJ X (rWd G A H0) Q 0 0 τ lv pc [.long r]) (s : RSt) (v1 : Int64) (v3 : Int32) (hw : wpR_least_13 post s v1 v3) : gJ X (rWd G A H0) Q 0 0 s [(0, .ref (G.2.2.1 0)), (1, .long v1), (3, .int v3)] 13 [] := 
  hw (fun (x : RSt × Int64 × Int32) => (fun s v1 v3 => gJ X (rWd G A H0) Q 0 0 s [(0, .ref (G.2.2.1 0)), (1, .long v1), (3, .int v3)] 13 []) x.1 x.2.1 x.2.2) (fun x hx => wkR_least_13_F C hsz hR hret (K13 := (fun s v1 v3 => gJ X (rWd G A H0) Q 0 0 s [(0, .ref (G.2.2.1 0)), (1, .long v1), (3, .int v3)] 13 [])) (fun _ _ _ h => h) x.1 x.2.1 x.2.2 hx)
theorem wkR_least_0 {X : gT} {G : rG} {A : Nat → Prop} {H0 : Heap} {Q : State → Prop} (C : rC X cX8_least 6 G A) (hsz : H0 = (g_s X).heap) (hR : 2 ≤ (g_R X).frames ∧ 51 ≤ (g_R X).locals) {post : Int64 → RSt → Prop} (hret : ∀ (r : Int64) (τ : RSt) (lv : List (Nat × Value)) (pc : Nat), post r τ → decode cX8_least pc = .ok (.lreturn, 1) → gJ X (rWd G A H0) Q 0 0 τ lv pc [.long r]) (s : RSt) (hw : wpR_least_0 post s) : gJ X (rWd G A H0) Q 0 0 s [(0, .ref (G.2.2.1 0))] 0 [] := by
  refine g_aload_n C.1 0 dX8_least_0 rfl rfl ?_
  refine g_iconst (v := 0) C.1 dX8_least_1 (by decide) ?_
  refine r_p0 C dX8_least_2 ?_
  refine gJ.nm (fun s20 es20 => ?_)
  replace hw := hw s20 es20
  refine g_aload_n C.1 0 dX8_least_5 rfl rfl ?_
  refine r_callv C hsz (cR_ways (g_l X) G s20 _ hw) kR_276 kR_277 kR_278 kR_268 hdR_ways ⟨Nat.le_trans (Nat.le_of_ble_eq_true rfl) hR.1, Nat.le_trans (Nat.le_of_ble_eq_true rfl) hR.2⟩ dX8_least_6 rfl (Nat.le_of_ble_eq_true rfl) (fun s21 hw => ?_)
  refine g_lconst (v := 0) C.1 dX8_least_9 (by decide) ?_
  refine g_lstore_n (lv' := [(1, .long 0), (0, .ref (G.2.2.1 0))]) C.1 dX8_least_10 rfl (by decide) rfl ?_
  refine g_iconst (v := 0) C.1 dX8_least_11 (by decide) ?_
  refine g_istore_n (lv' := [(3, .int 0), (1, .long 0), (0, .ref (G.2.2.1 0))]) C.1 dX8_least_12 rfl (by decide) rfl ?_
  refine gJ.sub [2, 1, 0] rfl ?_
  exact wkR_least_13 C hsz hR hret _ _ _ hw
theorem hdR_least : yX8_least.cls = RX8 ∧ yX8_least.cls ≠ "java/lang/invoke/MethodHandle" ∧ yX8_least.cls ≠ "java/lang/invoke/VarHandle" ∧ (parseMethodDescriptor yX8_least.desc).map (fun d => d.parameters.length) = some 0 := by decide +kernel
theorem cR_least (l : Launch) (G : rG) (s : RSt) (post : Int64 → RSt → Prop) (hw : wpR_least_0 post s) : rMl l yX8_least cX8_least 6 2 51 G s [] post := rMl_of (by decide +kernel) rfl (Nat.le_of_ble_eq_true rfl) (fun X A H0 Q hl hR hsz C hret => wkR_least_0 C hsz hR hret s hw)
