def wpR_part_88 (P_either : (RSt → Prop) → RSt → Prop) (P_part : (RSt → Prop) → RSt → Prop) (post : RSt → Prop) (s : RSt) (v1 : Int32) : Prop := ((s.1 37) < 0 → ∀ s2 : RSt, s2 = rsI s 36 ((s.1 36) - 1) → (v1 = 0 → wpR_is_0 (fun r5 s4 => (r5 = 0 → wpR_fail_0 (fun s7 => post s7) s4 (s4.1 34)) ∧ (¬ r5 = 0 → wpR_next_0 (fun s8 => post s8) s4)) s2 3 41) ∧ (¬ v1 = 0 → wpR_emit_0 (fun s9 => post s9) s2 14 0)) ∧ (¬ (s.1 37) < 0 → post s)
def wpR_part_58 (P_either : (RSt → Prop) → RSt → Prop) (P_part : (RSt → Prop) → RSt → Prop) (post : RSt → Prop) (s : RSt) (w0 : Int32) : Prop := ∀ s10 : RSt, s10 = rsI s 36 ((s.1 36) + 1) → wpR_next_0 (fun s11 => (w0 = 0 → P_either (fun s13 => wpR_part_88 P_either P_part post s13 w0) s11) ∧ (¬ w0 = 0 → P_part (fun s14 => wpR_part_88 P_either P_part post s14 w0) s11)) s10
def wpR_part_27 (P_either : (RSt → Prop) → RSt → Prop) (P_part : (RSt → Prop) → RSt → Prop) (post : RSt → Prop) (s : RSt) : Prop := (¬ (s.1 36) = 20 → (¬ (s.1 33) = 1 → wpR_part_58 P_either P_part post s 0) ∧ ((s.1 33) = 1 → wpR_part_58 P_either P_part post s 1)) ∧ ((s.1 36) = 20 → wpR_fail_0 (fun s17 => post s17) s (s.1 34))
def wpR_part_162 (P_either : (RSt → Prop) → RSt → Prop) (P_part : (RSt → Prop) → RSt → Prop) (post : RSt → Prop) (s : RSt) : Prop := wpR_fail_0 (fun s18 => post s18) s (s.1 34)
def wpR_part_0 (P_either : (RSt → Prop) → RSt → Prop) (P_part : (RSt → Prop) → RSt → Prop) (post : RSt → Prop) (s : RSt) : Prop := ((s.1 37) < 0 → wpR_is_0 (fun r21 s20 => (¬ r21 = 0 → wpR_part_27 P_either P_part post s20) ∧ (r21 = 0 → wpR_is_0 (fun r24 s23 => (r24 = 0 → (¬ (s23.1 33) = 1 → wpR_part_162 P_either P_part post s23) ∧ ((s23.1 33) = 1 → (4 ≤ (s23.1 35) → wpR_test_0 (fun s28 => post s28) s23 (s23.1 35)) ∧ (¬ 4 ≤ (s23.1 35) → wpR_part_162 P_either P_part post s23))) ∧ (¬ r24 = 0 → wpR_part_27 P_either P_part post s23)) s20 3 40)) s 1 3) ∧ (¬ (s.1 37) < 0 → post s)
theorem wkR_part_88 {X : gT} {G : rG} {A : Nat → Prop} {H0 : Heap} {Q : State → Prop} (C : rC X cX8_part 2 G A) (hsz : H0 = (g_s X).heap) (hR : 7 ≤ (g_R X).frames ∧ 152 ≤ (g_R X).locals) {P_either : (RSt → Prop) → RSt → Prop} {f_either c_either : Nat} (hq_either : ∀ (post : RSt → Prop) (s : RSt), P_either post s → rMv (g_l X) yX8_either cX8_either 1 f_either c_either G s [] post) (hr_either : f_either + 1 ≤ (g_R X).frames ∧ 8 + (1 + 11) + c_either ≤ (g_R X).locals) {P_part : (RSt → Prop) → RSt → Prop} {f_part c_part : Nat} (hq_part : ∀ (post : RSt → Prop) (s : RSt), P_part post s → rMv (g_l X) yX8_part cX8_part 2 f_part c_part G s [] post) (hr_part : f_part + 1 ≤ (g_R X).frames ∧ 8 + (2 + 11) + c_part ≤ (g_R X).locals) {post : RSt → Prop} (hret : ∀ (τ : RSt) (lv : List (Nat × Value)) (pc : Nat), post τ → decode cX8_part pc = .ok (.return_, 1) → gJ X (rWd G A H0) Q 0 0 τ lv pc []) (s : RSt) (v1 : Int32) (hw : wpR_part_88 P_either P_part post s v1) : gJ X (rWd G A H0) Q 0 0 s [(0, .ref (G.2.2.1 0)), (1, .int v1)] 88 [] := by
  refine g_aload_n C.1 0 dX8_part_88 rfl rfl ?_
  refine r_g37 C dX8_part_89 ?_
  refine g_if_lt (tgt := 96) C.1 dX8_part_92 (by decide) (fun h1 => ?_) (fun h1 => ?_)
  · replace hw := hw.1 h1
    refine g_aload_n C.1 0 dX8_part_96 rfl rfl ?_
    refine g_dup C.1 dX8_part_97 rfl ?_
    refine r_g36 C dX8_part_98 ?_
    refine g_iconst (v := 1) C.1 dX8_part_101 (by decide) ?_
    refine g_isub C.1 dX8_part_102 ?_
    refine r_p36 C dX8_part_103 ?_
    refine gJ.nm (fun s2 es2 => ?_)
    replace hw := hw s2 es2
    refine g_iload_n C.1 1 dX8_part_106 rfl rfl ?_
    refine g_if_eq (tgt := 120) C.1 dX8_part_107 (by decide) (fun h3 => ?_) (fun h3 => ?_)
    · replace hw := hw.1 h3
      refine g_aload_n C.1 0 dX8_part_120 rfl rfl ?_
      refine g_iconst (v := 3) C.1 dX8_part_121 (by decide) ?_
      refine g_bipush (v := 41) C.1 dX8_part_122 (by decide) ?_
      refine r_calli C hsz (cR_is (g_l X) G s2 _ _ _ hw) kR_158 kR_159 kR_160 kR_141 hdR_is ⟨Nat.le_trans (Nat.le_of_ble_eq_true rfl) hR.1, Nat.le_trans (Nat.le_of_ble_eq_true rfl) hR.2⟩ dX8_part_124 rfl (Nat.le_of_ble_eq_true rfl) (fun r5 s4 hw => ?_)
      refine g_if_eq (tgt := 137) C.1 dX8_part_127 (by decide) (fun h6 => ?_) (fun h6 => ?_)
      · replace hw := hw.1 h6
        refine g_aload_n C.1 0 dX8_part_137 rfl rfl ?_
        refine g_aload_n C.1 0 dX8_part_138 rfl rfl ?_
        refine r_g34 C dX8_part_139 ?_
        refine r_callv C hsz (cR_fail (g_l X) G s4 _ _ hw) kR_136 kR_137 kR_138 kR_75 hdR_fail ⟨Nat.le_trans (Nat.le_of_ble_eq_true rfl) hR.1, Nat.le_trans (Nat.le_of_ble_eq_true rfl) hR.2⟩ dX8_part_142 rfl (Nat.le_of_ble_eq_true rfl) (fun s7 hw => ?_)
        exact hret _ _ _ hw dX8_part_145
      · replace hw := hw.2 h6
        refine g_aload_n C.1 0 dX8_part_130 rfl rfl ?_
        refine r_callv C hsz (cR_next (g_l X) G s4 _ hw) kR_142 kR_143 kR_144 kR_139 hdR_next ⟨Nat.le_trans (Nat.le_of_ble_eq_true rfl) hR.1, Nat.le_trans (Nat.le_of_ble_eq_true rfl) hR.2⟩ dX8_part_131 rfl (Nat.le_of_ble_eq_true rfl) (fun s8 hw => ?_)
        refine g_goto (tgt := 145) C.1 dX8_part_134 (by decide) ?_
        exact hret _ _ _ hw dX8_part_145
    · replace hw := hw.2 h3
      refine g_aload_n C.1 0 dX8_part_110 rfl rfl ?_
      refine g_bipush (v := 14) C.1 dX8_part_111 (by decide) ?_
      refine g_iconst (v := 0) C.1 dX8_part_113 (by decide) ?_
      refine r_callv C hsz (cR_emit (g_l X) G s2 _ _ _ hw) kR_151 kR_152 kR_153 kR_140 hdR_emit ⟨Nat.le_trans (Nat.le_of_ble_eq_true rfl) hR.1, Nat.le_trans (Nat.le_of_ble_eq_true rfl) hR.2⟩ dX8_part_114 rfl (Nat.le_of_ble_eq_true rfl) (fun s9 hw => ?_)
      refine g_goto (tgt := 145) C.1 dX8_part_117 (by decide) ?_
      exact hret _ _ _ hw dX8_part_145
  · replace hw := hw.2 h1
    exact hret _ _ _ hw dX8_part_95
theorem wkR_part_58 {X : gT} {G : rG} {A : Nat → Prop} {H0 : Heap} {Q : State → Prop} (C : rC X cX8_part 2 G A) (hsz : H0 = (g_s X).heap) (hR : 7 ≤ (g_R X).frames ∧ 152 ≤ (g_R X).locals) {P_either : (RSt → Prop) → RSt → Prop} {f_either c_either : Nat} (hq_either : ∀ (post : RSt → Prop) (s : RSt), P_either post s → rMv (g_l X) yX8_either cX8_either 1 f_either c_either G s [] post) (hr_either : f_either + 1 ≤ (g_R X).frames ∧ 8 + (1 + 11) + c_either ≤ (g_R X).locals) {P_part : (RSt → Prop) → RSt → Prop} {f_part c_part : Nat} (hq_part : ∀ (post : RSt → Prop) (s : RSt), P_part post s → rMv (g_l X) yX8_part cX8_part 2 f_part c_part G s [] post) (hr_part : f_part + 1 ≤ (g_R X).frames ∧ 8 + (2 + 11) + c_part ≤ (g_R X).locals) {post : RSt → Prop} (hret : ∀ (τ : RSt) (lv : List (Nat × Value)) (pc : Nat), post τ → decode cX8_part pc = .ok (.return_, 1) → gJ X (rWd G A H0) Q 0 0 τ lv pc []) (s : RSt) (w0 : Int32) (hw : wpR_part_58 P_either P_part post s w0) : gJ X (rWd G A H0) Q 0 0 s [(0, .ref (G.2.2.1 0))] 58 [.int w0] := by
  refine g_istore_n (lv' := [(1, .int w0), (0, .ref (G.2.2.1 0))]) C.1 dX8_part_58 rfl (by decide) rfl ?_
  refine g_aload_n C.1 1 dX8_part_59 rfl rfl ?_
  refine g_dup C.1 dX8_part_60 rfl ?_
  refine r_g36 C dX8_part_61 ?_
  refine g_iconst (v := 1) C.1 dX8_part_64 (by decide) ?_
  refine g_iadd C.1 dX8_part_65 ?_
  refine r_p36 C dX8_part_66 ?_
  refine gJ.nm (fun s10 es10 => ?_)
  replace hw := hw s10 es10
  refine g_aload_n C.1 1 dX8_part_69 rfl rfl ?_
  refine r_callv C hsz (cR_next (g_l X) G s10 _ hw) kR_142 kR_143 kR_144 kR_139 hdR_next ⟨Nat.le_trans (Nat.le_of_ble_eq_true rfl) hR.1, Nat.le_trans (Nat.le_of_ble_eq_true rfl) hR.2⟩ dX8_part_70 rfl (Nat.le_of_ble_eq_true rfl) (fun s11 hw => ?_)
  refine g_iload_n C.1 0 dX8_part_73 rfl rfl ?_
  refine g_if_eq (tgt := 84) C.1 dX8_part_74 (by decide) (fun h12 => ?_) (fun h12 => ?_)
  · replace hw := hw.1 h12
    refine g_aload_n C.1 1 dX8_part_84 rfl rfl ?_
    refine r_callv (vs := []) C hsz (hq_either _ _ hw) kR_167 kR_168 kR_169 kR_161 hdR_either hr_either dX8_part_85 rfl (Nat.le_of_ble_eq_true rfl) (fun s13 hw => ?_)
    refine gJ.sub [1, 0] rfl ?_
    exact wkR_part_88 C hsz hR hq_either hr_either hq_part hr_part hret _ _ hw
  · replace hw := hw.2 h12
    refine g_aload_n C.1 1 dX8_part_77 rfl rfl ?_
    refine r_callv (vs := []) C hsz (hq_part _ _ hw) kR_155 kR_156 kR_157 kR_165 hdR_part hr_part dX8_part_78 rfl (Nat.le_of_ble_eq_true rfl) (fun s14 hw => ?_)
    refine g_goto (tgt := 88) C.1 dX8_part_81 (by decide) ?_
    refine gJ.sub [1, 0] rfl ?_
    exact wkR_part_88 C hsz hR hq_either hr_either hq_part hr_part hret _ _ hw
theorem wkR_part_27 {X : gT} {G : rG} {A : Nat → Prop} {H0 : Heap} {Q : State → Prop} (C : rC X cX8_part 2 G A) (hsz : H0 = (g_s X).heap) (hR : 7 ≤ (g_R X).frames ∧ 152 ≤ (g_R X).locals) {P_either : (RSt → Prop) → RSt → Prop} {f_either c_either : Nat} (hq_either : ∀ (post : RSt → Prop) (s : RSt), P_either post s → rMv (g_l X) yX8_either cX8_either 1 f_either c_either G s [] post) (hr_either : f_either + 1 ≤ (g_R X).frames ∧ 8 + (1 + 11) + c_either ≤ (g_R X).locals) {P_part : (RSt → Prop) → RSt → Prop} {f_part c_part : Nat} (hq_part : ∀ (post : RSt → Prop) (s : RSt), P_part post s → rMv (g_l X) yX8_part cX8_part 2 f_part c_part G s [] post) (hr_part : f_part + 1 ≤ (g_R X).frames ∧ 8 + (2 + 11) + c_part ≤ (g_R X).locals) {post : RSt → Prop} (hret : ∀ (τ : RSt) (lv : List (Nat × Value)) (pc : Nat), post τ → decode cX8_part pc = .ok (.return_, 1) → gJ X (rWd G A H0) Q 0 0 τ lv pc []) (s : RSt) (hw : wpR_part_27 P_either P_part post s) : gJ X (rWd G A H0) Q 0 0 s [(0, .ref (G.2.2.1 0))] 27 [] := by
  refine g_aload_n C.1 0 dX8_part_27 rfl rfl ?_
  refine r_g36 C dX8_part_28 ?_
  refine g_bipush (v := 20) C.1 dX8_part_31 (by decide) ?_
  refine g_icmp_ne (tgt := 45) C.1 dX8_part_33 (by decide) (fun h15 => ?_) (fun h15 => ?_)
  · replace hw := hw.1 h15
    refine g_aload_n C.1 0 dX8_part_45 rfl rfl ?_
    refine r_g33 C dX8_part_46 ?_
    refine g_iconst (v := 1) C.1 dX8_part_49 (by decide) ?_
    refine g_icmp_ne (tgt := 57) C.1 dX8_part_50 (by decide) (fun h16 => ?_) (fun h16 => ?_)
    · replace hw := hw.1 h16
      refine g_iconst (v := 0) C.1 dX8_part_57 (by decide) ?_
      exact wkR_part_58 C hsz hR hq_either hr_either hq_part hr_part hret _ _ hw
    · replace hw := hw.2 h16
      refine g_iconst (v := 1) C.1 dX8_part_53 (by decide) ?_
      refine g_goto (tgt := 58) C.1 dX8_part_54 (by decide) ?_
      exact wkR_part_58 C hsz hR hq_either hr_either hq_part hr_part hret _ _ hw
  · replace hw := hw.2 h15
    refine g_aload_n C.1 0 dX8_part_36 rfl rfl ?_
    refine g_aload_n C.1 0 dX8_part_37 rfl rfl ?_
    refine r_g34 C dX8_part_38 ?_
    refine r_callv C hsz (cR_fail (g_l X) G s _ _ hw) kR_136 kR_137 kR_138 kR_75 hdR_fail ⟨Nat.le_trans (Nat.le_of_ble_eq_true rfl) hR.1, Nat.le_trans (Nat.le_of_ble_eq_true rfl) hR.2⟩ dX8_part_41 rfl (Nat.le_of_ble_eq_true rfl) (fun s17 hw => ?_)
    exact hret _ _ _ hw dX8_part_44
theorem wkR_part_162 {X : gT} {G : rG} {A : Nat → Prop} {H0 : Heap} {Q : State → Prop} (C : rC X cX8_part 2 G A) (hsz : H0 = (g_s X).heap) (hR : 7 ≤ (g_R X).frames ∧ 152 ≤ (g_R X).locals) {P_either : (RSt → Prop) → RSt → Prop} {f_either c_either : Nat} (hq_either : ∀ (post : RSt → Prop) (s : RSt), P_either post s → rMv (g_l X) yX8_either cX8_either 1 f_either c_either G s [] post) (hr_either : f_either + 1 ≤ (g_R X).frames ∧ 8 + (1 + 11) + c_either ≤ (g_R X).locals) {P_part : (RSt → Prop) → RSt → Prop} {f_part c_part : Nat} (hq_part : ∀ (post : RSt → Prop) (s : RSt), P_part post s → rMv (g_l X) yX8_part cX8_part 2 f_part c_part G s [] post) (hr_part : f_part + 1 ≤ (g_R X).frames ∧ 8 + (2 + 11) + c_part ≤ (g_R X).locals) {post : RSt → Prop} (hret : ∀ (τ : RSt) (lv : List (Nat × Value)) (pc : Nat), post τ → decode cX8_part pc = .ok (.return_, 1) → gJ X (rWd G A H0) Q 0 0 τ lv pc []) (s : RSt) (hw : wpR_part_162 P_either P_part post s) : gJ X (rWd G A H0) Q 0 0 s [(0, .ref (G.2.2.1 0))] 162 [] := by
  refine g_aload_n C.1 0 dX8_part_162 rfl rfl ?_
  refine g_aload_n C.1 0 dX8_part_163 rfl rfl ?_
  refine r_g34 C dX8_part_164 ?_
  refine r_callv C hsz (cR_fail (g_l X) G s _ _ hw) kR_136 kR_137 kR_138 kR_75 hdR_fail ⟨Nat.le_trans (Nat.le_of_ble_eq_true rfl) hR.1, Nat.le_trans (Nat.le_of_ble_eq_true rfl) hR.2⟩ dX8_part_167 rfl (Nat.le_of_ble_eq_true rfl) (fun s18 hw => ?_)
  exact hret _ _ _ hw dX8_part_170
theorem wkR_part_0 {X : gT} {G : rG} {A : Nat → Prop} {H0 : Heap} {Q : State → Prop} (C : rC X cX8_part 2 G A) (hsz : H0 = (g_s X).heap) (hR : 7 ≤ (g_R X).frames ∧ 152 ≤ (g_R X).locals) {P_either : (RSt → Prop) → RSt → Prop} {f_either c_either : Nat} (hq_either : ∀ (post : RSt → Prop) (s : RSt), P_either post s → rMv (g_l X) yX8_either cX8_either 1 f_either c_either G s [] post) (hr_either : f_either + 1 ≤ (g_R X).frames ∧ 8 + (1 + 11) + c_either ≤ (g_R X).locals) {P_part : (RSt → Prop) → RSt → Prop} {f_part c_part : Nat} (hq_part : ∀ (post : RSt → Prop) (s : RSt), P_part post s → rMv (g_l X) yX8_part cX8_part 2 f_part c_part G s [] post) (hr_part : f_part + 1 ≤ (g_R X).frames ∧ 8 + (2 + 11) + c_part ≤ (g_R X).locals) {post : RSt → Prop} (hret : ∀ (τ : RSt) (lv : List (Nat × Value)) (pc : Nat), post τ → decode cX8_part pc = .ok (.return_, 1) → gJ X (rWd G A H0) Q 0 0 τ lv pc []) (s : RSt) (hw : wpR_part_0 P_either P_part post s) : gJ X (rWd G A H0) Q 0 0 s [(0, .ref (G.2.2.1 0))] 0 [] := by
  refine g_aload_n C.1 0 dX8_part_0 rfl rfl ?_
  refine r_g37 C dX8_part_1 ?_
  refine g_if_lt (tgt := 8) C.1 dX8_part_4 (by decide) (fun h19 => ?_) (fun h19 => ?_)
  · replace hw := hw.1 h19
    refine g_aload_n C.1 0 dX8_part_8 rfl rfl ?_
    refine g_iconst (v := 1) C.1 dX8_part_9 (by decide) ?_
    refine g_iconst (v := 3) C.1 dX8_part_10 (by decide) ?_
    refine r_calli C hsz (cR_is (g_l X) G s _ _ _ hw) kR_158 kR_159 kR_160 kR_141 hdR_is ⟨Nat.le_trans (Nat.le_of_ble_eq_true rfl) hR.1, Nat.le_trans (Nat.le_of_ble_eq_true rfl) hR.2⟩ dX8_part_11 rfl (Nat.le_of_ble_eq_true rfl) (fun r21 s20 hw => ?_)
    refine g_if_ne (tgt := 27) C.1 dX8_part_14 (by decide) (fun h22 => ?_) (fun h22 => ?_)
    · replace hw := hw.1 h22
      exact wkR_part_27 C hsz hR hq_either hr_either hq_part hr_part hret _ hw
    · replace hw := hw.2 h22
      refine g_aload_n C.1 0 dX8_part_17 rfl rfl ?_
      refine g_iconst (v := 3) C.1 dX8_part_18 (by decide) ?_
      refine g_bipush (v := 40) C.1 dX8_part_19 (by decide) ?_
      refine r_calli C hsz (cR_is (g_l X) G s20 _ _ _ hw) kR_158 kR_159 kR_160 kR_141 hdR_is ⟨Nat.le_trans (Nat.le_of_ble_eq_true rfl) hR.1, Nat.le_trans (Nat.le_of_ble_eq_true rfl) hR.2⟩ dX8_part_21 rfl (Nat.le_of_ble_eq_true rfl) (fun r24 s23 hw => ?_)
      refine g_if_eq (tgt := 146) C.1 dX8_part_24 (by decide) (fun h25 => ?_) (fun h25 => ?_)
      · replace hw := hw.1 h25
        refine g_aload_n C.1 0 dX8_part_146 rfl rfl ?_
        refine r_g33 C dX8_part_147 ?_
        refine g_iconst (v := 1) C.1 dX8_part_150 (by decide) ?_
        refine g_icmp_ne (tgt := 162) C.1 dX8_part_151 (by decide) (fun h26 => ?_) (fun h26 => ?_)
        · replace hw := hw.1 h26
          exact wkR_part_162 C hsz hR hq_either hr_either hq_part hr_part hret _ hw
        · replace hw := hw.2 h26
          refine g_aload_n C.1 0 dX8_part_154 rfl rfl ?_
          refine r_g35 C dX8_part_155 ?_
          refine g_iconst (v := 4) C.1 dX8_part_158 (by decide) ?_
          refine g_icmp_ge (tgt := 171) C.1 dX8_part_159 (by decide) (fun h27 => ?_) (fun h27 => ?_)
          · replace hw := hw.1 h27
            refine g_aload_n C.1 0 dX8_part_171 rfl rfl ?_
            refine g_aload_n C.1 0 dX8_part_172 rfl rfl ?_
            refine r_g35 C dX8_part_173 ?_
            refine r_callv C hsz (cR_test (g_l X) G s23 _ _ hw) kR_170 kR_171 kR_172 kR_154 hdR_test ⟨Nat.le_trans (Nat.le_of_ble_eq_true rfl) hR.1, Nat.le_trans (Nat.le_of_ble_eq_true rfl) hR.2⟩ dX8_part_176 rfl (Nat.le_of_ble_eq_true rfl) (fun s28 hw => ?_)
            exact hret _ _ _ hw dX8_part_179
          · replace hw := hw.2 h27
            exact wkR_part_162 C hsz hR hq_either hr_either hq_part hr_part hret _ hw
      · replace hw := hw.2 h25
        exact wkR_part_27 C hsz hR hq_either hr_either hq_part hr_part hret _ hw
  · replace hw := hw.2 h19
    exact hret _ _ _ hw dX8_part_7
def wpR_both_4_F (P_part : (RSt → Prop) → RSt → Prop) (post : RSt → Prop) (K4 : RSt → Prop) (s : RSt) : Prop := wpR_is_0 (fun r2 s1 => (r2 = 0 → post s1) ∧ (¬ r2 = 0 → wpR_next_0 (fun s4 => P_part (fun s5 => (0 ≤ (s5.1 37) → K4 s5) ∧ (¬ 0 ≤ (s5.1 37) → wpR_emit_0 (fun s7 => K4 s7) s5 15 0)) s4) s1)) s 1 2
def wpR_both_4 (P_part : (RSt → Prop) → RSt → Prop) (post : RSt → Prop) (s : RSt) : Prop := gLP (fun (K : RSt → Prop) (x : RSt) => wpR_both_4_F P_part post (fun s => K s) x) s
def wpR_both_0 (P_part : (RSt → Prop) → RSt → Prop) (post : RSt → Prop) (s : RSt) : Prop := P_part (fun s8 => wpR_both_4 P_part post s8) s
theorem wkR_both_4_F {X : gT} {G : rG} {A : Nat → Prop} {H0 : Heap} {Q : State → Prop} (C : rC X cX8_both 1 G A) (hsz : H0 = (g_s X).heap) (hR : 6 ≤ (g_R X).frames ∧ 130 ≤ (g_R X).locals) {P_part : (RSt → Prop) → RSt → Prop} {f_part c_part : Nat} (hq_part : ∀ (post : RSt → Prop) (s : RSt), P_part post s → rMv (g_l X) yX8_part cX8_part 2 f_part c_part G s [] post) (hr_part : f_part + 1 ≤ (g_R X).frames ∧ 8 + (2 + 11) + c_part ≤ (g_R X).locals) {post : RSt → Prop} (hret : ∀ (τ : RSt) (lv : List (Nat × Value)) (pc : Nat), post τ → decode cX8_both pc = .ok (.return_, 1) → gJ X (rWd G A H0) Q 0 0 τ lv pc []) {K4 : RSt → Prop} (hK4 : ∀ (s : RSt), K4 s → gJ X (rWd G A H0) Q 0 0 s [(0, .ref (G.2.2.1 0))] 4 []) (s : RSt) (hw : wpR_both_4_F P_part post K4 s) : gJ X (rWd G A H0) Q 0 0 s [(0, .ref (G.2.2.1 0))] 4 [] := by
  refine g_aload_n C.1 0 dX8_both_4 rfl rfl ?_
  refine g_iconst (v := 1) C.1 dX8_both_5 (by decide) ?_
  refine g_iconst (v := 2) C.1 dX8_both_6 (by decide) ?_
  refine r_calli C hsz (cR_is (g_l X) G s _ _ _ hw) kR_158 kR_159 kR_160 kR_141 hdR_is ⟨Nat.le_trans (Nat.le_of_ble_eq_true rfl) hR.1, Nat.le_trans (Nat.le_of_ble_eq_true rfl) hR.2⟩ dX8_both_7 rfl (Nat.le_of_ble_eq_true rfl) (fun r2 s1 hw => ?_)
  refine g_if_eq (tgt := 38) C.1 dX8_both_10 (by decide) (fun h3 => ?_) (fun h3 => ?_)
  · replace hw := hw.1 h3
    exact hret _ _ _ hw dX8_both_38
  · replace hw := hw.2 h3
    refine g_aload_n C.1 0 dX8_both_13 rfl rfl ?_
    refine r_callv C hsz (cR_next (g_l X) G s1 _ hw) kR_142 kR_143 kR_144 kR_139 hdR_next ⟨Nat.le_trans (Nat.le_of_ble_eq_true rfl) hR.1, Nat.le_trans (Nat.le_of_ble_eq_true rfl) hR.2⟩ dX8_both_14 rfl (Nat.le_of_ble_eq_true rfl) (fun s4 hw => ?_)
    refine g_aload_n C.1 0 dX8_both_17 rfl rfl ?_
    refine r_callv (vs := []) C hsz (hq_part _ _ hw) kR_155 kR_156 kR_157 kR_165 hdR_part hr_part dX8_both_18 rfl (Nat.le_of_ble_eq_true rfl) (fun s5 hw => ?_)
    refine g_aload_n C.1 0 dX8_both_21 rfl rfl ?_
    refine r_g37 C dX8_both_22 ?_
    refine g_if_ge (tgt := 4) C.1 dX8_both_25 (by decide) (fun h6 => ?_) (fun h6 => ?_)
    · replace hw := hw.1 h6
      exact hK4 _ hw
    · replace hw := hw.2 h6
      refine g_aload_n C.1 0 dX8_both_28 rfl rfl ?_
      refine g_bipush (v := 15) C.1 dX8_both_29 (by decide) ?_
      refine g_iconst (v := 0) C.1 dX8_both_31 (by decide) ?_
      refine r_callv C hsz (cR_emit (g_l X) G s5 _ _ _ hw) kR_151 kR_152 kR_153 kR_140 hdR_emit ⟨Nat.le_trans (Nat.le_of_ble_eq_true rfl) hR.1, Nat.le_trans (Nat.le_of_ble_eq_true rfl) hR.2⟩ dX8_both_32 rfl (Nat.le_of_ble_eq_true rfl) (fun s7 hw => ?_)
      refine g_goto (tgt := 4) C.1 dX8_both_35 (by decide) ?_
      exact hK4 _ hw
theorem wkR_both_4 {X : gT} {G : rG} {A : Nat → Prop} {H0 : Heap} {Q : State → Prop} (C : rC X cX8_both 1 G A) (hsz : H0 = (g_s X).heap) (hR : 6 ≤ (g_R X).frames ∧ 130 ≤ (g_R X).locals) {P_part : (RSt → Prop) → RSt → Prop} {f_part c_part : Nat} (hq_part : ∀ (post : RSt → Prop) (s : RSt), P_part post s → rMv (g_l X) yX8_part cX8_part 2 f_part c_part G s [] post) (hr_part : f_part + 1 ≤ (g_R X).frames ∧ 8 + (2 + 11) + c_part ≤ (g_R X).locals) {post : RSt → Prop} (hret : ∀ (τ : RSt) (lv : List (Nat × Value)) (pc : Nat), post τ → decode cX8_both pc = .ok (.return_, 1) → gJ X (rWd G A H0) Q 0 0 τ lv pc []) (s : RSt) (hw : wpR_both_4 P_part post s) : gJ X (rWd G A H0) Q 0 0 s [(0, .ref (G.2.2.1 0))] 4 [] := 
  hw (fun (x : RSt) => (fun s => gJ X (rWd G A H0) Q 0 0 s [(0, .ref (G.2.2.1 0))] 4 []) x) (fun x hx => wkR_both_4_F C hsz hR hq_part hr_part hret (K4 := (fun s => gJ X (rWd G A H0) Q 0 0 s [(0, .ref (G.2.2.1 0))] 4 [])) (fun _ h => h) x hx)
theorem wkR_both_0 {X : gT} {G : rG} {A : Nat → Prop} {H0 : Heap} {Q : State → Prop} (C : rC X cX8_both 1 G A) (hsz : H0 = (g_s X).heap) (hR : 6 ≤ (g_R X).frames ∧ 130 ≤ (g_R X).locals) {P_part : (RSt → Prop) → RSt → Prop} {f_part c_part : Nat} (hq_part : ∀ (post : RSt → Prop) (s : RSt), P_part post s → rMv (g_l X) yX8_part cX8_part 2 f_part c_part G s [] post) (hr_part : f_part + 1 ≤ (g_R X).frames ∧ 8 + (2 + 11) + c_part ≤ (g_R X).locals) {post : RSt → Prop} (hret : ∀ (τ : RSt) (lv : List (Nat × Value)) (pc : Nat), post τ → decode cX8_both pc = .ok (.return_, 1) → gJ X (rWd G A H0) Q 0 0 τ lv pc []) (s : RSt) (hw : wpR_both_0 P_part post s) : gJ X (rWd G A H0) Q 0 0 s [(0, .ref (G.2.2.1 0))] 0 [] := by
  refine g_aload_n C.1 0 dX8_both_0 rfl rfl ?_
  refine r_callv (vs := []) C hsz (hq_part _ _ hw) kR_155 kR_156 kR_157 kR_165 hdR_part hr_part dX8_both_1 rfl (Nat.le_of_ble_eq_true rfl) (fun s8 hw => ?_)
  exact wkR_both_4 C hsz hR hq_part hr_part hret _ hw
def wpR_either_4_F (P_both : (RSt → Prop) → RSt → Prop) (post : RSt → Prop) (K4 : RSt → Prop) (s : RSt) : Prop := wpR_is_0 (fun r2 s1 => (r2 = 0 → post s1) ∧ (¬ r2 = 0 → wpR_next_0 (fun s4 => P_both (fun s5 => (0 ≤ (s5.1 37) → K4 s5) ∧ (¬ 0 ≤ (s5.1 37) → wpR_emit_0 (fun s7 => K4 s7) s5 16 0)) s4) s1)) s 1 1
def wpR_either_4 (P_both : (RSt → Prop) → RSt → Prop) (post : RSt → Prop) (s : RSt) : Prop := gLP (fun (K : RSt → Prop) (x : RSt) => wpR_either_4_F P_both post (fun s => K s) x) s
def wpR_either_0 (P_both : (RSt → Prop) → RSt → Prop) (post : RSt → Prop) (s : RSt) : Prop := P_both (fun s8 => wpR_either_4 P_both post s8) s
theorem wkR_either_4_F {X : gT} {G : rG} {A : Nat → Prop} {H0 : Heap} {Q : State → Prop} (C : rC X cX8_either 1 G A) (hsz : H0 = (g_s X).heap) (hR : 6 ≤ (g_R X).frames ∧ 130 ≤ (g_R X).locals) {P_both : (RSt → Prop) → RSt → Prop} {f_both c_both : Nat} (hq_both : ∀ (post : RSt → Prop) (s : RSt), P_both post s → rMv (g_l X) yX8_both cX8_both 1 f_both c_both G s [] post) (hr_both : f_both + 1 ≤ (g_R X).frames ∧ 8 + (1 + 11) + c_both ≤ (g_R X).locals) {post : RSt → Prop} (hret : ∀ (τ : RSt) (lv : List (Nat × Value)) (pc : Nat), post τ → decode cX8_either pc = .ok (.return_, 1) → gJ X (rWd G A H0) Q 0 0 τ lv pc []) {K4 : RSt → Prop} (hK4 : ∀ (s : RSt), K4 s → gJ X (rWd G A H0) Q 0 0 s [(0, .ref (G.2.2.1 0))] 4 []) (s : RSt) (hw : wpR_either_4_F P_both post K4 s) : gJ X (rWd G A H0) Q 0 0 s [(0, .ref (G.2.2.1 0))] 4 [] := by
  refine g_aload_n C.1 0 dX8_either_4 rfl rfl ?_
  refine g_iconst (v := 1) C.1 dX8_either_5 (by decide) ?_
  refine g_iconst (v := 1) C.1 dX8_either_6 (by decide) ?_
  refine r_calli C hsz (cR_is (g_l X) G s _ _ _ hw) kR_158 kR_159 kR_160 kR_141 hdR_is ⟨Nat.le_trans (Nat.le_of_ble_eq_true rfl) hR.1, Nat.le_trans (Nat.le_of_ble_eq_true rfl) hR.2⟩ dX8_either_7 rfl (Nat.le_of_ble_eq_true rfl) (fun r2 s1 hw => ?_)
  refine g_if_eq (tgt := 38) C.1 dX8_either_10 (by decide) (fun h3 => ?_) (fun h3 => ?_)
  · replace hw := hw.1 h3
    exact hret _ _ _ hw dX8_either_38
  · replace hw := hw.2 h3
    refine g_aload_n C.1 0 dX8_either_13 rfl rfl ?_
    refine r_callv C hsz (cR_next (g_l X) G s1 _ hw) kR_142 kR_143 kR_144 kR_139 hdR_next ⟨Nat.le_trans (Nat.le_of_ble_eq_true rfl) hR.1, Nat.le_trans (Nat.le_of_ble_eq_true rfl) hR.2⟩ dX8_either_14 rfl (Nat.le_of_ble_eq_true rfl) (fun s4 hw => ?_)
    refine g_aload_n C.1 0 dX8_either_17 rfl rfl ?_
    refine r_callv (vs := []) C hsz (hq_both _ _ hw) kR_162 kR_163 kR_164 kR_173 hdR_both hr_both dX8_either_18 rfl (Nat.le_of_ble_eq_true rfl) (fun s5 hw => ?_)
    refine g_aload_n C.1 0 dX8_either_21 rfl rfl ?_
    refine r_g37 C dX8_either_22 ?_
    refine g_if_ge (tgt := 4) C.1 dX8_either_25 (by decide) (fun h6 => ?_) (fun h6 => ?_)
    · replace hw := hw.1 h6
      exact hK4 _ hw
    · replace hw := hw.2 h6
      refine g_aload_n C.1 0 dX8_either_28 rfl rfl ?_
      refine g_bipush (v := 16) C.1 dX8_either_29 (by decide) ?_
      refine g_iconst (v := 0) C.1 dX8_either_31 (by decide) ?_
      refine r_callv C hsz (cR_emit (g_l X) G s5 _ _ _ hw) kR_151 kR_152 kR_153 kR_140 hdR_emit ⟨Nat.le_trans (Nat.le_of_ble_eq_true rfl) hR.1, Nat.le_trans (Nat.le_of_ble_eq_true rfl) hR.2⟩ dX8_either_32 rfl (Nat.le_of_ble_eq_true rfl) (fun s7 hw => ?_)
      refine g_goto (tgt := 4) C.1 dX8_either_35 (by decide) ?_
      exact hK4 _ hw
theorem wkR_either_4 {X : gT} {G : rG} {A : Nat → Prop} {H0 : Heap} {Q : State → Prop} (C : rC X cX8_either 1 G A) (hsz : H0 = (g_s X).heap) (hR : 6 ≤ (g_R X).frames ∧ 130 ≤ (g_R X).locals) {P_both : (RSt → Prop) → RSt → Prop} {f_both c_both : Nat} (hq_both : ∀ (post : RSt → Prop) (s : RSt), P_both post s → rMv (g_l X) yX8_both cX8_both 1 f_both c_both G s [] post) (hr_both : f_both + 1 ≤ (g_R X).frames ∧ 8 + (1 + 11) + c_both ≤ (g_R X).locals) {post : RSt → Prop} (hret : ∀ (τ : RSt) (lv : List (Nat × Value)) (pc : Nat), post τ → decode cX8_either pc = .ok (.return_, 1) → gJ X (rWd G A H0) Q 0 0 τ lv pc []) (s : RSt) (hw : wpR_either_4 P_both post s) : gJ X (rWd G A H0) Q 0 0 s [(0, .ref (G.2.2.1 0))] 4 [] := 
  hw (fun (x : RSt) => (fun s => gJ X (rWd G A H0) Q 0 0 s [(0, .ref (G.2.2.1 0))] 4 []) x) (fun x hx => wkR_either_4_F C hsz hR hq_both hr_both hret (K4 := (fun s => gJ X (rWd G A H0) Q 0 0 s [(0, .ref (G.2.2.1 0))] 4 [])) (fun _ h => h) x hx)
theorem wkR_either_0 {X : gT} {G : rG} {A : Nat → Prop} {H0 : Heap} {Q : State → Prop} (C : rC X cX8_either 1 G A) (hsz : H0 = (g_s X).heap) (hR : 6 ≤ (g_R X).frames ∧ 130 ≤ (g_R X).locals) {P_both : (RSt → Prop) → RSt → Prop} {f_both c_both : Nat} (hq_both : ∀ (post : RSt → Prop) (s : RSt), P_both post s → rMv (g_l X) yX8_both cX8_both 1 f_both c_both G s [] post) (hr_both : f_both + 1 ≤ (g_R X).frames ∧ 8 + (1 + 11) + c_both ≤ (g_R X).locals) {post : RSt → Prop} (hret : ∀ (τ : RSt) (lv : List (Nat × Value)) (pc : Nat), post τ → decode cX8_either pc = .ok (.return_, 1) → gJ X (rWd G A H0) Q 0 0 τ lv pc []) (s : RSt) (hw : wpR_either_0 P_both post s) : gJ X (rWd G A H0) Q 0 0 s [(0, .ref (G.2.2.1 0))] 0 [] := by
  refine g_aload_n C.1 0 dX8_either_0 rfl rfl ?_
  refine r_callv (vs := []) C hsz (hq_both _ _ hw) kR_162 kR_163 kR_164 kR_173 hdR_both hr_both dX8_either_1 rfl (Nat.le_of_ble_eq_true rfl) (fun s8 hw => ?_)
  exact wkR_either_4 C hsz hR hq_both hr_both hret _ hw
/-- the parser of the reference, d levels of parentheses and nots deep -/
def wPart : Nat → (RSt → Prop) → RSt → Prop
  | 0 => wpR_part_0 (fun _ _ => False) (fun _ _ => False)
  | d + 1 => wpR_part_0 (wpR_either_0 (wpR_both_0 (wPart d))) (wPart d)
theorem cR_partD (l : Launch) (G : rG) : ∀ (d : Nat) (post : RSt → Prop) (s : RSt), wPart d post s → rMv l yX8_part cX8_part 2 (7 + 3 * d) (152 + 61 * d) G s [] post
  | 0, post, s, hw => rMv_of (by decide +kernel) rfl (Nat.le_of_ble_eq_true rfl) (fun X A H0 Q hl hR hsz C hret => wkR_part_0 C hsz ⟨Nat.le_trans (Nat.le_of_ble_eq_true rfl) hR.1, Nat.le_trans (Nat.le_of_ble_eq_true rfl) hR.2⟩ (P_either := fun _ _ => False) (P_part := fun _ _ => False) (f_either := 0) (c_either := 0) (f_part := 0) (c_part := 0) (fun _ _ h => h.elim) ⟨Nat.le_trans (by omega) hR.1, Nat.le_trans (by omega) hR.2⟩ (fun _ _ h => h.elim) ⟨Nat.le_trans (by omega) hR.1, Nat.le_trans (by omega) hR.2⟩ hret s hw)
  | d + 1, post, s, hw => rMv_of (by decide +kernel) rfl (Nat.le_of_ble_eq_true rfl) (fun X A H0 Q hl hR hsz C hret => wkR_part_0 C hsz ⟨Nat.le_trans (by omega) hR.1, Nat.le_trans (by omega) hR.2⟩ (f_either := 7 + 3 * d + 2) (c_either := 152 + 61 * d + 41) (f_part := 7 + 3 * d) (c_part := 152 + 61 * d)
      (fun post s hw => rMv_of (by decide +kernel) rfl (Nat.le_of_ble_eq_true rfl) (fun X A H0 Q hl hR hsz C hret => wkR_either_0 C hsz ⟨Nat.le_trans (by omega) hR.1, Nat.le_trans (by omega) hR.2⟩ (f_both := 7 + 3 * d + 1) (c_both := 152 + 61 * d + 21)
        (fun post s hw => rMv_of (by decide +kernel) rfl (Nat.le_of_ble_eq_true rfl) (fun X A H0 Q hl hR hsz C hret => wkR_both_0 C hsz ⟨Nat.le_trans (by omega) hR.1, Nat.le_trans (by omega) hR.2⟩ (f_part := 7 + 3 * d) (c_part := 152 + 61 * d) (fun post s hw => cR_partD (g_l X) G d post s hw) ⟨Nat.le_trans (by omega) hR.1, Nat.le_trans (by omega) hR.2⟩ hret s hw)) ⟨Nat.le_trans (by omega) hR.1, Nat.le_trans (by omega) hR.2⟩ hret s hw))
      ⟨Nat.le_trans (by omega) hR.1, Nat.le_trans (by omega) hR.2⟩ (fun post s hw => cR_partD (g_l X) G d post s hw) ⟨Nat.le_trans (by omega) hR.1, Nat.le_trans (by omega) hR.2⟩ hret s hw)
def wpR_eitherD_0 : (RSt → Prop) → RSt → Prop := wpR_either_0 (wpR_both_0 (wPart 21))
theorem cR_eitherD (l : Launch) (G : rG) (s : RSt) (post : RSt → Prop) (hw : wpR_eitherD_0 post s) : rMv l yX8_either cX8_either 1 72 1474 G s [] post :=
  rMv_of (by decide +kernel) rfl (Nat.le_of_ble_eq_true rfl) (fun X A H0 Q hl hR hsz C hret => wkR_either_0 C hsz ⟨Nat.le_trans (Nat.le_of_ble_eq_true rfl) hR.1, Nat.le_trans (Nat.le_of_ble_eq_true rfl) hR.2⟩ (f_both := 71) (c_both := 1454)
        (fun post s hw => rMv_of (by decide +kernel) rfl (Nat.le_of_ble_eq_true rfl) (fun X A H0 Q hl hR hsz C hret => wkR_both_0 C hsz ⟨Nat.le_trans (Nat.le_of_ble_eq_true rfl) hR.1, Nat.le_trans (Nat.le_of_ble_eq_true rfl) hR.2⟩ (f_part := 7 + 3 * 21) (c_part := 152 + 61 * 21) (fun post s hw => cR_partD (g_l X) G 21 post s hw) ⟨Nat.le_trans (Nat.le_of_ble_eq_true rfl) hR.1, Nat.le_trans (Nat.le_of_ble_eq_true rfl) hR.2⟩ hret s hw)) ⟨Nat.le_trans (Nat.le_of_ble_eq_true rfl) hR.1, Nat.le_trans (Nat.le_of_ble_eq_true rfl) hR.2⟩ hret s hw)
def wpR_measure_133 (post : Int32 → RSt → Prop) (K64 : RSt → Int32 → Int32 → Int32 → Int32 → Int32 → Prop) (s : RSt) (v1 : Int32) (v2 : Int32) (v3 : Int32) (v4 : Int32) (v5 : Int32) : Prop := K64 s v1 v2 v3 v4 (v5 + 1)
def wpR_measure_129 (post : Int32 → RSt → Prop) (K64 : RSt → Int32 → Int32 → Int32 → Int32 → Int32 → Prop) (s : RSt) (v1 : Int32) (v2 : Int32) (v3 : Int32) (v5 : Int32) (v6 : Int32) : Prop := wpR_measure_133 post K64 s v1 v2 v3 v6 v5
def wpR_measure_106 (post : Int32 → RSt → Prop) (K64 : RSt → Int32 → Int32 → Int32 → Int32 → Int32 → Prop) (s : RSt) (v1 : Int32) (v2 : Int32) (v3 : Int32) (v4 : Int32) (v5 : Int32) (w0 : Int32) : Prop := (¬ v2 = 0 → (w0 ≤ v4 → wpR_measure_133 post K64 s v1 v2 v3 v4 v5) ∧ (¬ w0 ≤ v4 → wpR_measure_129 post K64 s v1 v2 v3 v5 w0)) ∧ (v2 = 0 → (v4 ≤ w0 → wpR_measure_133 post K64 s v1 v2 v3 v4 v5) ∧ (¬ v4 ≤ w0 → wpR_measure_129 post K64 s v1 v2 v3 v5 w0))
def wpR_measure_64_F (post : Int32 → RSt → Prop) (K64 : RSt → Int32 → Int32 → Int32 → Int32 → Int32 → Prop) (s : RSt) (v1 : Int32) (v2 : Int32) (v3 : Int32) (v4 : Int32) (v5 : Int32) : Prop := vp_in ((6 * v1) + 5) 60 ∧ ((v3 + (s.2.1 8 ((6 * v1) + 5).toNatClampNeg)) ≤ v5 → post (v4 / 100) s) ∧ (¬ (v3 + (s.2.1 8 ((6 * v1) + 5).toNatClampNeg)) ≤ v5 → (¬ v2 = 0 → vp_in ((4 * v5) + 3) 160 ∧ wpR_measure_106 post K64 s v1 v2 v3 v4 v5 (s.2.1 10 ((4 * v5) + 3).toNatClampNeg)) ∧ (v2 = 0 → wpR_depth_0 (fun r7 s6 => wpR_measure_106 post K64 s6 v1 v2 v3 v4 v5 r7) s v5))
def wpR_measure_64 (post : Int32 → RSt → Prop) (s : RSt) (v1 : Int32) (v2 : Int32) (v3 : Int32) (v4 : Int32) (v5 : Int32) : Prop := gLP (fun (K : RSt × Int32 × Int32 × Int32 × Int32 × Int32 → Prop) (x : RSt × Int32 × Int32 × Int32 × Int32 × Int32) => wpR_measure_64_F post (fun s v1 v2 v3 v4 v5 => K (s, v1, v2, v3, v4, v5)) x.1 x.2.1 x.2.2.1 x.2.2.2.1 x.2.2.2.2.1 x.2.2.2.2.2) (s, v1, v2, v3, v4, v5)
def wpR_measure_57 (post : Int32 → RSt → Prop) (s : RSt) (v1 : Int32) (v2 : Int32) (v3 : Int32) (w0 : Int32) : Prop := wpR_measure_64 post s v1 v2 v3 w0 (v3 + 1)
def wpR_measure_0 (post : Int32 → RSt → Prop) (s : RSt) (v1 : Int32) (v2 : Int32) : Prop := (¬ v2 = 1 → (¬ v2 = 2 → vp_in ((6 * v1) + 4) 60 ∧ (¬ v2 = 0 → vp_in ((4 * (s.2.1 8 ((6 * v1) + 4).toNatClampNeg)) + 3) 160 ∧ wpR_measure_57 post s v1 v2 (s.2.1 8 ((6 * v1) + 4).toNatClampNeg) (s.2.1 10 ((4 * (s.2.1 8 ((6 * v1) + 4).toNatClampNeg)) + 3).toNatClampNeg)) ∧ (v2 = 0 → wpR_depth_0 (fun r12 s11 => wpR_measure_57 post s11 v1 v2 (s.2.1 8 ((6 * v1) + 4).toNatClampNeg) r12) s (s.2.1 8 ((6 * v1) + 4).toNatClampNeg))) ∧ (v2 = 2 → post ((s.1 28) / 60) s)) ∧ (v2 = 1 → post (s.1 27) s)
theorem wkR_measure_133 {X : gT} {G : rG} {A : Nat → Prop} {H0 : Heap} {Q : State → Prop} (C : rC X cX8_measure 7 G A) (hsz : H0 = (g_s X).heap) (hR : 1 ≤ (g_R X).frames ∧ 21 ≤ (g_R X).locals) {post : Int32 → RSt → Prop} (hret : ∀ (r : Int32) (τ : RSt) (lv : List (Nat × Value)) (pc : Nat), post r τ → narrow .int (.int r) = .int r → decode cX8_measure pc = .ok (.ireturn, 1) → gJ X (rWd G A H0) Q 0 0 τ lv pc [.int r]) {K64 : RSt → Int32 → Int32 → Int32 → Int32 → Int32 → Prop} (hK64 : ∀ (s : RSt) (v1 : Int32) (v2 : Int32) (v3 : Int32) (v4 : Int32) (v5 : Int32), K64 s v1 v2 v3 v4 v5 → gJ X (rWd G A H0) Q 0 0 s [(0, .ref (G.2.2.1 0)), (1, .int v1), (2, .int v2), (3, .int v3), (4, .int v4), (5, .int v5)] 64 []) (s : RSt) (v1 : Int32) (v2 : Int32) (v3 : Int32) (v4 : Int32) (v5 : Int32) (hw : wpR_measure_133 post K64 s v1 v2 v3 v4 v5) : gJ X (rWd G A H0) Q 0 0 s [(0, .ref (G.2.2.1 0)), (1, .int v1), (2, .int v2), (3, .int v3), (4, .int v4), (5, .int v5)] 133 [] := by
  refine g_iinc (v := v5 + 1) (lv' := [(5, .int (v5 + 1)), (0, .ref (G.2.2.1 0)), (1, .int v1), (2, .int v2), (3, .int v3), (4, .int v4)]) C.1 5 dX8_measure_133 rfl rfl (by decide) rfl ?_
  refine g_goto (tgt := 64) C.1 dX8_measure_136 (by decide) ?_
  refine gJ.sub [1, 2, 3, 4, 5, 0] rfl ?_
  exact hK64 _ _ _ _ _ _ hw
theorem wkR_measure_129 {X : gT} {G : rG} {A : Nat → Prop} {H0 : Heap} {Q : State → Prop} (C : rC X cX8_measure 7 G A) (hsz : H0 = (g_s X).heap) (hR : 1 ≤ (g_R X).frames ∧ 21 ≤ (g_R X).locals) {post : Int32 → RSt → Prop} (hret : ∀ (r : Int32) (τ : RSt) (lv : List (Nat × Value)) (pc : Nat), post r τ → narrow .int (.int r) = .int r → decode cX8_measure pc = .ok (.ireturn, 1) → gJ X (rWd G A H0) Q 0 0 τ lv pc [.int r]) {K64 : RSt → Int32 → Int32 → Int32 → Int32 → Int32 → Prop} (hK64 : ∀ (s : RSt) (v1 : Int32) (v2 : Int32) (v3 : Int32) (v4 : Int32) (v5 : Int32), K64 s v1 v2 v3 v4 v5 → gJ X (rWd G A H0) Q 0 0 s [(0, .ref (G.2.2.1 0)), (1, .int v1), (2, .int v2), (3, .int v3), (4, .int v4), (5, .int v5)] 64 []) (s : RSt) (v1 : Int32) (v2 : Int32) (v3 : Int32) (v5 : Int32) (v6 : Int32) (hw : wpR_measure_129 post K64 s v1 v2 v3 v5 v6) : gJ X (rWd G A H0) Q 0 0 s [(0, .ref (G.2.2.1 0)), (1, .int v1), (2, .int v2), (3, .int v3), (5, .int v5), (6, .int v6)] 129 [] := by
  refine g_iload C.1 5 dX8_measure_129 rfl ?_
  refine g_istore (lv' := [(4, .int v6), (0, .ref (G.2.2.1 0)), (1, .int v1), (2, .int v2), (3, .int v3), (5, .int v5), (6, .int v6)]) C.1 dX8_measure_131 (by decide) rfl ?_
  refine gJ.sub [1, 2, 3, 4, 0, 5] rfl ?_
  exact wkR_measure_133 C hsz hR hret hK64 _ _ _ _ _ _ hw
theorem wkR_measure_106 {X : gT} {G : rG} {A : Nat → Prop} {H0 : Heap} {Q : State → Prop} (C : rC X cX8_measure 7 G A) (hsz : H0 = (g_s X).heap) (hR : 1 ≤ (g_R X).frames ∧ 21 ≤ (g_R X).locals) {post : Int32 → RSt → Prop} (hret : ∀ (r : Int32) (τ : RSt) (lv : List (Nat × Value)) (pc : Nat), post r τ → narrow .int (.int r) = .int r → decode cX8_measure pc = .ok (.ireturn, 1) → gJ X (rWd G A H0) Q 0 0 τ lv pc [.int r]) {K64 : RSt → Int32 → Int32 → Int32 → Int32 → Int32 → Prop} (hK64 : ∀ (s : RSt) (v1 : Int32) (v2 : Int32) (v3 : Int32) (v4 : Int32) (v5 : Int32), K64 s v1 v2 v3 v4 v5 → gJ X (rWd G A H0) Q 0 0 s [(0, .ref (G.2.2.1 0)), (1, .int v1), (2, .int v2), (3, .int v3), (4, .int v4), (5, .int v5)] 64 []) (s : RSt) (v1 : Int32) (v2 : Int32) (v3 : Int32) (v4 : Int32) (v5 : Int32) (w0 : Int32) (hw : wpR_measure_106 post K64 s v1 v2 v3 v4 v5 w0) : gJ X (rWd G A H0) Q 0 0 s [(0, .ref (G.2.2.1 0)), (1, .int v1), (2, .int v2), (3, .int v3), (4, .int v4), (5, .int v5)] 106 [.int w0] := by
  refine g_istore (lv' := [(6, .int w0), (0, .ref (G.2.2.1 0)), (1, .int v1), (2, .int v2), (3, .int v3), (4, .int v4), (5, .int v5)]) C.1 dX8_measure_106 (by decide) rfl ?_
  refine g_iload_n C.1 3 dX8_measure_108 rfl rfl ?_
  refine g_if_ne (tgt := 122) C.1 dX8_measure_109 (by decide) (fun h1 => ?_) (fun h1 => ?_)
  · replace hw := hw.1 h1
    refine g_iload C.1 0 dX8_measure_122 rfl ?_
    refine g_iload C.1 5 dX8_measure_124 rfl ?_
    refine g_icmp_le (tgt := 133) C.1 dX8_measure_126 (by decide) (fun h2 => ?_) (fun h2 => ?_)
    · replace hw := hw.1 h2
      refine gJ.sub [1, 2, 3, 4, 5, 6] rfl ?_
      exact wkR_measure_133 C hsz hR hret hK64 _ _ _ _ _ _ hw
    · replace hw := hw.2 h2
      refine gJ.sub [1, 2, 3, 4, 6, 0] rfl ?_
      exact wkR_measure_129 C hsz hR hret hK64 _ _ _ _ _ _ hw
  · replace hw := hw.2 h1
    refine g_iload C.1 0 dX8_measure_112 rfl ?_
    refine g_iload C.1 5 dX8_measure_114 rfl ?_
    refine g_icmp_ge (tgt := 133) C.1 dX8_measure_116 (by decide) (fun h3 => ?_) (fun h3 => ?_)
    · replace hw := hw.1 h3
      refine gJ.sub [1, 2, 3, 4, 5, 6] rfl ?_
      exact wkR_measure_133 C hsz hR hret hK64 _ _ _ _ _ _ hw
    · replace hw := hw.2 h3
      refine g_goto (tgt := 129) C.1 dX8_measure_119 (by decide) ?_
      refine gJ.sub [1, 2, 3, 4, 6, 0] rfl ?_
      exact wkR_measure_129 C hsz hR hret hK64 _ _ _ _ _ _ hw
theorem wkR_measure_64_F {X : gT} {G : rG} {A : Nat → Prop} {H0 : Heap} {Q : State → Prop} (C : rC X cX8_measure 7 G A) (hsz : H0 = (g_s X).heap) (hR : 1 ≤ (g_R X).frames ∧ 21 ≤ (g_R X).locals) {post : Int32 → RSt → Prop} (hret : ∀ (r : Int32) (τ : RSt) (lv : List (Nat × Value)) (pc : Nat), post r τ → narrow .int (.int r) = .int r → decode cX8_measure pc = .ok (.ireturn, 1) → gJ X (rWd G A H0) Q 0 0 τ lv pc [.int r]) {K64 : RSt → Int32 → Int32 → Int32 → Int32 → Int32 → Prop} (hK64 : ∀ (s : RSt) (v1 : Int32) (v2 : Int32) (v3 : Int32) (v4 : Int32) (v5 : Int32), K64 s v1 v2 v3 v4 v5 → gJ X (rWd G A H0) Q 0 0 s [(0, .ref (G.2.2.1 0)), (1, .int v1), (2, .int v2), (3, .int v3), (4, .int v4), (5, .int v5)] 64 []) (s : RSt) (v1 : Int32) (v2 : Int32) (v3 : Int32) (v4 : Int32) (v5 : Int32) (hw : wpR_measure_64_F post K64 s v1 v2 v3 v4 v5) : gJ X (rWd G A H0) Q 0 0 s [(0, .ref (G.2.2.1 0)), (1, .int v1), (2, .int v2), (3, .int v3), (4, .int v4), (5, .int v5)] 64 [] := by
  refine g_iload C.1 5 dX8_measure_64 rfl ?_
  refine g_iload_n C.1 3 dX8_measure_66 rfl rfl ?_
  refine g_aload_n C.1 0 dX8_measure_67 rfl rfl ?_
  refine r_g8 C dX8_measure_68 ?_
  refine g_bipush (v := 6) C.1 dX8_measure_71 (by decide) ?_
  refine g_iload_n C.1 1 dX8_measure_73 rfl rfl ?_
  refine g_imul C.1 dX8_measure_74 ?_
  refine g_iconst (v := 5) C.1 dX8_measure_75 (by decide) ?_
  refine g_iadd C.1 dX8_measure_76 ?_
  refine r_ld8 C hw.1 dX8_measure_77 ?_
  replace hw := hw.2
  refine g_iadd C.1 dX8_measure_78 ?_
  refine g_icmp_ge (tgt := 139) C.1 dX8_measure_79 (by decide) (fun h4 => ?_) (fun h4 => ?_)
  · replace hw := hw.1 h4
    refine g_iload C.1 4 dX8_measure_139 rfl ?_
    refine g_bipush (v := 100) C.1 dX8_measure_141 (by decide) ?_
    refine g_idiv C.1 dX8_measure_143 (by decide) ?_
    exact hret _ _ _ _ hw rfl dX8_measure_144
  · replace hw := hw.2 h4
    refine g_iload_n C.1 2 dX8_measure_82 rfl rfl ?_
    refine g_if_ne (tgt := 95) C.1 dX8_measure_83 (by decide) (fun h5 => ?_) (fun h5 => ?_)
    · replace hw := hw.1 h5
      refine g_aload_n C.1 0 dX8_measure_95 rfl rfl ?_
      refine r_g10 C dX8_measure_96 ?_
      refine g_iconst (v := 4) C.1 dX8_measure_99 (by decide) ?_
      refine g_iload C.1 5 dX8_measure_100 rfl ?_
      refine g_imul C.1 dX8_measure_102 ?_
      refine g_iconst (v := 3) C.1 dX8_measure_103 (by decide) ?_
      refine g_iadd C.1 dX8_measure_104 ?_
      refine r_ld10 C hw.1 dX8_measure_105 ?_
      replace hw := hw.2
      exact wkR_measure_106 C hsz hR hret hK64 _ _ _ _ _ _ _ hw
    · replace hw := hw.2 h5
      refine g_aload_n C.1 0 dX8_measure_86 rfl rfl ?_
      refine g_iload C.1 5 dX8_measure_87 rfl ?_
      refine r_calli C hsz (cR_depth (g_l X) G s _ _ hw) kR_195 kR_196 kR_197 kR_193 hdR_depth ⟨Nat.le_trans (Nat.le_of_ble_eq_true rfl) hR.1, Nat.le_trans (Nat.le_of_ble_eq_true rfl) hR.2⟩ dX8_measure_89 rfl (Nat.le_of_ble_eq_true rfl) (fun r7 s6 hw => ?_)
      refine g_goto (tgt := 106) C.1 dX8_measure_92 (by decide) ?_
      exact wkR_measure_106 C hsz hR hret hK64 _ _ _ _ _ _ _ hw
theorem wkR_measure_64 {X : gT} {G : rG} {A : Nat → Prop} {H0 : Heap} {Q : State → Prop} (C : rC X cX8_measure 7 G A) (hsz : H0 = (g_s X).heap) (hR : 1 ≤ (g_R X).frames ∧ 21 ≤ (g_R X).locals) {post : Int32 → RSt → Prop} (hret : ∀ (r : Int32) (τ : RSt) (lv : List (Nat × Value)) (pc : Nat), post r τ → narrow .int (.int r) = .int r → decode cX8_measure pc = .ok (.ireturn, 1) → gJ X (rWd G A H0) Q 0 0 τ lv pc [.int r]) (s : RSt) (v1 : Int32) (v2 : Int32) (v3 : Int32) (v4 : Int32) (v5 : Int32) (hw : wpR_measure_64 post s v1 v2 v3 v4 v5) : gJ X (rWd G A H0) Q 0 0 s [(0, .ref (G.2.2.1 0)), (1, .int v1), (2, .int v2), (3, .int v3), (4, .int v4), (5, .int v5)] 64 [] := 
  hw (fun (x : RSt × Int32 × Int32 × Int32 × Int32 × Int32) => (fun s v1 v2 v3 v4 v5 => gJ X (rWd G A H0) Q 0 0 s [(0, .ref (G.2.2.1 0)), (1, .int v1), (2, .int v2), (3, .int v3), (4, .int v4), (5, .int v5)] 64 []) x.1 x.2.1 x.2.2.1 x.2.2.2.1 x.2.2.2.2.1 x.2.2.2.2.2) (fun x hx => wkR_measure_64_F C hsz hR hret (K64 := (fun s v1 v2 v3 v4 v5 => gJ X (rWd G A H0) Q 0 0 s [(0, .ref (G.2.2.1 0)), (1, .int v1), (2, .int v2), (3, .int v3), (4, .int v4), (5, .int v5)] 64 [])) (fun _ _ _ _ _ _ h => h) x.1 x.2.1 x.2.2.1 x.2.2.2.1 x.2.2.2.2.1 x.2.2.2.2.2 hx)
theorem wkR_measure_57 {X : gT} {G : rG} {A : Nat → Prop} {H0 : Heap} {Q : State → Prop} (C : rC X cX8_measure 7 G A) (hsz : H0 = (g_s X).heap) (hR : 1 ≤ (g_R X).frames ∧ 21 ≤ (g_R X).locals) {post : Int32 → RSt → Prop} (hret : ∀ (r : Int32) (τ : RSt) (lv : List (Nat × Value)) (pc : Nat), post r τ → narrow .int (.int r) = .int r → decode cX8_measure pc = .ok (.ireturn, 1) → gJ X (rWd G A H0) Q 0 0 τ lv pc [.int r]) (s : RSt) (v1 : Int32) (v2 : Int32) (v3 : Int32) (w0 : Int32) (hw : wpR_measure_57 post s v1 v2 v3 w0) : gJ X (rWd G A H0) Q 0 0 s [(0, .ref (G.2.2.1 0)), (1, .int v1), (2, .int v2), (3, .int v3)] 57 [.int w0] := by
  refine g_istore (lv' := [(4, .int w0), (0, .ref (G.2.2.1 0)), (1, .int v1), (2, .int v2), (3, .int v3)]) C.1 dX8_measure_57 (by decide) rfl ?_
  refine g_iload_n C.1 4 dX8_measure_59 rfl rfl ?_
  refine g_iconst (v := 1) C.1 dX8_measure_60 (by decide) ?_
  refine g_iadd C.1 dX8_measure_61 ?_
  refine g_istore (lv' := [(5, .int (v3 + 1)), (4, .int w0), (0, .ref (G.2.2.1 0)), (1, .int v1), (2, .int v2), (3, .int v3)]) C.1 dX8_measure_62 (by decide) rfl ?_
  refine gJ.sub [2, 3, 4, 5, 1, 0] rfl ?_
  exact wkR_measure_64 C hsz hR hret _ _ _ _ _ _ hw
theorem wkR_measure_0 {X : gT} {G : rG} {A : Nat → Prop} {H0 : Heap} {Q : State → Prop} (C : rC X cX8_measure 7 G A) (hsz : H0 = (g_s X).heap) (hR : 1 ≤ (g_R X).frames ∧ 21 ≤ (g_R X).locals) {post : Int32 → RSt → Prop} (hret : ∀ (r : Int32) (τ : RSt) (lv : List (Nat × Value)) (pc : Nat), post r τ → narrow .int (.int r) = .int r → decode cX8_measure pc = .ok (.ireturn, 1) → gJ X (rWd G A H0) Q 0 0 τ lv pc [.int r]) (s : RSt) (v1 : Int32) (v2 : Int32) (hw : wpR_measure_0 post s v1 v2) : gJ X (rWd G A H0) Q 0 0 s [(0, .ref (G.2.2.1 0)), (1, .int v1), (2, .int v2)] 0 [] := by
  refine g_iload_n C.1 2 dX8_measure_0 rfl rfl ?_
  refine g_iconst (v := 1) C.1 dX8_measure_1 (by decide) ?_
  refine g_icmp_ne (tgt := 10) C.1 dX8_measure_2 (by decide) (fun h8 => ?_) (fun h8 => ?_)
  · replace hw := hw.1 h8
    refine g_iload_n C.1 2 dX8_measure_10 rfl rfl ?_
    refine g_iconst (v := 2) C.1 dX8_measure_11 (by decide) ?_
    refine g_icmp_ne (tgt := 23) C.1 dX8_measure_12 (by decide) (fun h9 => ?_) (fun h9 => ?_)
    · replace hw := hw.1 h9
      refine g_aload_n C.1 0 dX8_measure_23 rfl rfl ?_
      refine r_g8 C dX8_measure_24 ?_
      refine g_bipush (v := 6) C.1 dX8_measure_27 (by decide) ?_
      refine g_iload_n C.1 1 dX8_measure_29 rfl rfl ?_
      refine g_imul C.1 dX8_measure_30 ?_
      refine g_iconst (v := 4) C.1 dX8_measure_31 (by decide) ?_
      refine g_iadd C.1 dX8_measure_32 ?_
      refine r_ld8 C hw.1 dX8_measure_33 ?_
      replace hw := hw.2
      refine g_istore_n (lv' := [(3, .int (s.2.1 8 ((6 * v1) + 4).toNatClampNeg)), (0, .ref (G.2.2.1 0)), (1, .int v1), (2, .int v2)]) C.1 dX8_measure_34 rfl (by decide) rfl ?_
      refine g_iload_n C.1 3 dX8_measure_35 rfl rfl ?_
      refine g_if_ne (tgt := 47) C.1 dX8_measure_36 (by decide) (fun h10 => ?_) (fun h10 => ?_)
      · replace hw := hw.1 h10
        refine g_aload_n C.1 1 dX8_measure_47 rfl rfl ?_
        refine r_g10 C dX8_measure_48 ?_
        refine g_iconst (v := 4) C.1 dX8_measure_51 (by decide) ?_
        refine g_iload_n C.1 0 dX8_measure_52 rfl rfl ?_
        refine g_imul C.1 dX8_measure_53 ?_
        refine g_iconst (v := 3) C.1 dX8_measure_54 (by decide) ?_
        refine g_iadd C.1 dX8_measure_55 ?_
        refine r_ld10 C hw.1 dX8_measure_56 ?_
        replace hw := hw.2
        refine gJ.sub [1, 2, 3, 0] rfl ?_
        exact wkR_measure_57 C hsz hR hret _ _ _ _ _ hw
      · replace hw := hw.2 h10
        refine g_aload_n C.1 1 dX8_measure_39 rfl rfl ?_
        refine g_iload_n C.1 0 dX8_measure_40 rfl rfl ?_
        refine r_calli C hsz (cR_depth (g_l X) G s _ _ hw) kR_195 kR_196 kR_197 kR_193 hdR_depth ⟨Nat.le_trans (Nat.le_of_ble_eq_true rfl) hR.1, Nat.le_trans (Nat.le_of_ble_eq_true rfl) hR.2⟩ dX8_measure_41 rfl (Nat.le_of_ble_eq_true rfl) (fun r12 s11 hw => ?_)
        refine g_goto (tgt := 57) C.1 dX8_measure_44 (by decide) ?_
        refine gJ.sub [1, 2, 3, 0] rfl ?_
        exact wkR_measure_57 C hsz hR hret _ _ _ _ _ hw
    · replace hw := hw.2 h9
      refine g_aload_n C.1 0 dX8_measure_15 rfl rfl ?_
      refine r_g28 C dX8_measure_16 ?_
      refine g_bipush (v := 60) C.1 dX8_measure_19 (by decide) ?_
      refine g_idiv C.1 dX8_measure_21 (by decide) ?_
      exact hret _ _ _ _ hw rfl dX8_measure_22
  · replace hw := hw.2 h8
    refine g_aload_n C.1 0 dX8_measure_5 rfl rfl ?_
    refine r_g27 C dX8_measure_6 ?_
    exact hret _ _ _ _ hw rfl dX8_measure_9
theorem hdR_measure : yX8_measure.cls = RX8 ∧ yX8_measure.cls ≠ "java/lang/invoke/MethodHandle" ∧ yX8_measure.cls ≠ "java/lang/invoke/VarHandle" ∧ (parseMethodDescriptor yX8_measure.desc).map (fun d => d.parameters.length) = some 2 := by decide +kernel
theorem cR_measure (l : Launch) (G : rG) (s : RSt) (v1 : Int32) (v2 : Int32) (post : Int32 → RSt → Prop) (hw : wpR_measure_0 post s v1 v2) : rMi l yX8_measure cX8_measure 7 .int 1 21 G s [.int v1, .int v2] post := rMi_of (by decide +kernel) rfl (Nat.le_of_ble_eq_true rfl) (fun X A H0 Q hl hR hsz C hret => wkR_measure_0 C hsz hR hret s v1 v2 hw)
def wpR_names_48 (post : Int32 → RSt → Prop) (K4 : RSt → Int32 → Int32 → Int32 → Prop) (s : RSt) (v1 : Int32) (v2 : Int32) (v3 : Int32) : Prop := K4 s v1 v2 (v3 + 1)
def wpR_names_4_F (post : Int32 → RSt → Prop) (K4 : RSt → Int32 → Int32 → Int32 → Prop) (s : RSt) (v1 : Int32) (v2 : Int32) (v3 : Int32) : Prop := vp_in v1 11 ∧ ((s.2.1 17 v1.toNatClampNeg) ≤ v3 → post v2 s) ∧ (¬ (s.2.1 17 v1.toNatClampNeg) ≤ v3 → vp_in ((400 * v1) + v3) 4400 ∧ (¬ (s.2.1 15 ((400 * v1) + v3).toNatClampNeg) = 12 → wpR_names_48 post K4 s v1 v2 v3) ∧ ((s.2.1 15 ((400 * v1) + v3).toNatClampNeg) = 12 → vp_in ((400 * v1) + v3) 4400 ∧ ∀ x3 : Int32, x3 = v2 ||| (1 <<< ((s.2.1 16 ((400 * v1) + v3).toNatClampNeg) &&& 31)) → wpR_names_48 post K4 s v1 x3 v3))
def wpR_names_4 (post : Int32 → RSt → Prop) (s : RSt) (v1 : Int32) (v2 : Int32) (v3 : Int32) : Prop := gLP (fun (K : RSt × Int32 × Int32 × Int32 → Prop) (x : RSt × Int32 × Int32 × Int32) => wpR_names_4_F post (fun s v1 v2 v3 => K (s, v1, v2, v3)) x.1 x.2.1 x.2.2.1 x.2.2.2) (s, v1, v2, v3)
def wpR_names_0 (post : Int32 → RSt → Prop) (s : RSt) (v1 : Int32) : Prop := wpR_names_4 post s v1 0 0
theorem wkR_names_48 {X : gT} {G : rG} {A : Nat → Prop} {H0 : Heap} {Q : State → Prop} (C : rC X cX8_names 4 G A) (hsz : H0 = (g_s X).heap) (hR : 0 ≤ (g_R X).frames ∧ 0 ≤ (g_R X).locals) {post : Int32 → RSt → Prop} (hret : ∀ (r : Int32) (τ : RSt) (lv : List (Nat × Value)) (pc : Nat), post r τ → narrow .int (.int r) = .int r → decode cX8_names pc = .ok (.ireturn, 1) → gJ X (rWd G A H0) Q 0 0 τ lv pc [.int r]) {K4 : RSt → Int32 → Int32 → Int32 → Prop} (hK4 : ∀ (s : RSt) (v1 : Int32) (v2 : Int32) (v3 : Int32), K4 s v1 v2 v3 → gJ X (rWd G A H0) Q 0 0 s [(0, .ref (G.2.2.1 0)), (1, .int v1), (2, .int v2), (3, .int v3)] 4 []) (s : RSt) (v1 : Int32) (v2 : Int32) (v3 : Int32) (hw : wpR_names_48 post K4 s v1 v2 v3) : gJ X (rWd G A H0) Q 0 0 s [(0, .ref (G.2.2.1 0)), (1, .int v1), (2, .int v2), (3, .int v3)] 48 [] := by
  refine g_iinc (v := v3 + 1) (lv' := [(3, .int (v3 + 1)), (0, .ref (G.2.2.1 0)), (1, .int v1), (2, .int v2)]) C.1 3 dX8_names_48 rfl rfl (by decide) rfl ?_
  refine g_goto (tgt := 4) C.1 dX8_names_51 (by decide) ?_
  refine gJ.sub [1, 2, 3, 0] rfl ?_
  exact hK4 _ _ _ _ hw
theorem wkR_names_4_F {X : gT} {G : rG} {A : Nat → Prop} {H0 : Heap} {Q : State → Prop} (C : rC X cX8_names 4 G A) (hsz : H0 = (g_s X).heap) (hR : 0 ≤ (g_R X).frames ∧ 0 ≤ (g_R X).locals) {post : Int32 → RSt → Prop} (hret : ∀ (r : Int32) (τ : RSt) (lv : List (Nat × Value)) (pc : Nat), post r τ → narrow .int (.int r) = .int r → decode cX8_names pc = .ok (.ireturn, 1) → gJ X (rWd G A H0) Q 0 0 τ lv pc [.int r]) {K4 : RSt → Int32 → Int32 → Int32 → Prop} (hK4 : ∀ (s : RSt) (v1 : Int32) (v2 : Int32) (v3 : Int32), K4 s v1 v2 v3 → gJ X (rWd G A H0) Q 0 0 s [(0, .ref (G.2.2.1 0)), (1, .int v1), (2, .int v2), (3, .int v3)] 4 []) (s : RSt) (v1 : Int32) (v2 : Int32) (v3 : Int32) (hw : wpR_names_4_F post K4 s v1 v2 v3) : gJ X (rWd G A H0) Q 0 0 s [(0, .ref (G.2.2.1 0)), (1, .int v1), (2, .int v2), (3, .int v3)] 4 [] := by
  refine g_iload_n C.1 3 dX8_names_4 rfl rfl ?_
  refine g_aload_n C.1 0 dX8_names_5 rfl rfl ?_
  refine r_g17 C dX8_names_6 ?_
  refine g_iload_n C.1 1 dX8_names_9 rfl rfl ?_
  refine r_ld17 C hw.1 dX8_names_10 ?_
  replace hw := hw.2
  refine g_icmp_ge (tgt := 54) C.1 dX8_names_11 (by decide) (fun h1 => ?_) (fun h1 => ?_)
  · replace hw := hw.1 h1
    refine g_iload_n C.1 2 dX8_names_54 rfl rfl ?_
    exact hret _ _ _ _ hw rfl dX8_names_55
  · replace hw := hw.2 h1
    refine g_aload_n C.1 0 dX8_names_14 rfl rfl ?_
    refine r_g15 C dX8_names_15 ?_
    refine g_sipush (v := 400) C.1 dX8_names_18 (by decide) ?_
    refine g_iload_n C.1 1 dX8_names_21 rfl rfl ?_
    refine g_imul C.1 dX8_names_22 ?_
    refine g_iload_n C.1 3 dX8_names_23 rfl rfl ?_
    refine g_iadd C.1 dX8_names_24 ?_
    refine r_ld15 C hw.1 dX8_names_25 ?_
    replace hw := hw.2
    refine g_bipush (v := 12) C.1 dX8_names_26 (by decide) ?_
    refine g_icmp_ne (tgt := 48) C.1 dX8_names_28 (by decide) (fun h2 => ?_) (fun h2 => ?_)
    · replace hw := hw.1 h2
      exact wkR_names_48 C hsz hR hret hK4 _ _ _ _ hw
    · replace hw := hw.2 h2
      refine g_iload_n C.1 2 dX8_names_31 rfl rfl ?_
      refine g_iconst (v := 1) C.1 dX8_names_32 (by decide) ?_
      refine g_aload_n C.1 0 dX8_names_33 rfl rfl ?_
      refine r_g16 C dX8_names_34 ?_
      refine g_sipush (v := 400) C.1 dX8_names_37 (by decide) ?_
      refine g_iload_n C.1 1 dX8_names_40 rfl rfl ?_
      refine g_imul C.1 dX8_names_41 ?_
      refine g_iload_n C.1 3 dX8_names_42 rfl rfl ?_
      refine g_iadd C.1 dX8_names_43 ?_
      refine r_ld16 C hw.1 dX8_names_44 ?_
      replace hw := hw.2
      refine g_ishl C.1 dX8_names_45 ?_
      refine g_ior C.1 dX8_names_46 ?_
      refine g_topi (fun x3 ex3 => ?_)
      replace hw := hw x3 ex3
      refine g_istore_n (lv' := [(2, .int x3), (0, .ref (G.2.2.1 0)), (1, .int v1), (3, .int v3)]) C.1 dX8_names_47 rfl (by decide) rfl ?_
      refine gJ.sub [1, 2, 0, 3] rfl ?_
      exact wkR_names_48 C hsz hR hret hK4 _ _ _ _ hw
theorem wkR_names_4 {X : gT} {G : rG} {A : Nat → Prop} {H0 : Heap} {Q : State → Prop} (C : rC X cX8_names 4 G A) (hsz : H0 = (g_s X).heap) (hR : 0 ≤ (g_R X).frames ∧ 0 ≤ (g_R X).locals) {post : Int32 → RSt → Prop} (hret : ∀ (r : Int32) (τ : RSt) (lv : List (Nat × Value)) (pc : Nat), post r τ → narrow .int (.int r) = .int r → decode cX8_names pc = .ok (.ireturn, 1) → gJ X (rWd G A H0) Q 0 0 τ lv pc [.int r]) (s : RSt) (v1 : Int32) (v2 : Int32) (v3 : Int32) (hw : wpR_names_4 post s v1 v2 v3) : gJ X (rWd G A H0) Q 0 0 s [(0, .ref (G.2.2.1 0)), (1, .int v1), (2, .int v2), (3, .int v3)] 4 [] := 
  hw (fun (x : RSt × Int32 × Int32 × Int32) => (fun s v1 v2 v3 => gJ X (rWd G A H0) Q 0 0 s [(0, .ref (G.2.2.1 0)), (1, .int v1), (2, .int v2), (3, .int v3)] 4 []) x.1 x.2.1 x.2.2.1 x.2.2.2) (fun x hx => wkR_names_4_F C hsz hR hret (K4 := (fun s v1 v2 v3 => gJ X (rWd G A H0) Q 0 0 s [(0, .ref (G.2.2.1 0)), (1, .int v1), (2, .int v2), (3, .int v3)] 4 [])) (fun _ _ _ _ h => h) x.1 x.2.1 x.2.2.1 x.2.2.2 hx)
theorem wkR_names_0 {X : gT} {G : rG} {A : Nat → Prop} {H0 : Heap} {Q : State → Prop} (C : rC X cX8_names 4 G A) (hsz : H0 = (g_s X).heap) (hR : 0 ≤ (g_R X).frames ∧ 0 ≤ (g_R X).locals) {post : Int32 → RSt → Prop} (hret : ∀ (r : Int32) (τ : RSt) (lv : List (Nat × Value)) (pc : Nat), post r τ → narrow .int (.int r) = .int r → decode cX8_names pc = .ok (.ireturn, 1) → gJ X (rWd G A H0) Q 0 0 τ lv pc [.int r]) (s : RSt) (v1 : Int32) (hw : wpR_names_0 post s v1) : gJ X (rWd G A H0) Q 0 0 s [(0, .ref (G.2.2.1 0)), (1, .int v1)] 0 [] := by
  refine g_iconst (v := 0) C.1 dX8_names_0 (by decide) ?_
  refine g_istore_n (lv' := [(2, .int 0), (0, .ref (G.2.2.1 0)), (1, .int v1)]) C.1 dX8_names_1 rfl (by decide) rfl ?_
  refine g_iconst (v := 0) C.1 dX8_names_2 (by decide) ?_
  refine g_istore_n (lv' := [(3, .int 0), (2, .int 0), (0, .ref (G.2.2.1 0)), (1, .int v1)]) C.1 dX8_names_3 rfl (by decide) rfl ?_
  refine gJ.sub [2, 3, 1, 0] rfl ?_
  exact wkR_names_4 C hsz hR hret _ _ _ _ hw
theorem hdR_names : yX8_names.cls = RX8 ∧ yX8_names.cls ≠ "java/lang/invoke/MethodHandle" ∧ yX8_names.cls ≠ "java/lang/invoke/VarHandle" ∧ (parseMethodDescriptor yX8_names.desc).map (fun d => d.parameters.length) = some 1 := by decide +kernel
theorem cR_names (l : Launch) (G : rG) (s : RSt) (v1 : Int32) (post : Int32 → RSt → Prop) (hw : wpR_names_0 post s v1) : rMi l yX8_names cX8_names 4 .int 0 0 G s [.int v1] post := rMi_of (by decide +kernel) rfl (Nat.le_of_ble_eq_true rfl) (fun X A H0 Q hl hR hsz C hret => wkR_names_0 C hsz hR hret s v1 hw)
def wpR_ring_137_F (post : Int32 → RSt → Prop) (K137 : RSt → Int32 → Int32 → Prop) (s : RSt) (v2 : Int32) (v3 : Int32) : Prop := ((s.1 9) ≤ v3 → post v2 s) ∧ (¬ (s.1 9) ≤ v3 → vp_in v3 10 ∧ K137 s (v2 ||| ((s.2.1 38 v3.toNatClampNeg) &&& (1 <<< (v3 &&& 31)))) (v3 + 1))
def wpR_ring_137 (post : Int32 → RSt → Prop) (s : RSt) (v2 : Int32) (v3 : Int32) : Prop := gLP (fun (K : RSt × Int32 × Int32 → Prop) (x : RSt × Int32 × Int32) => wpR_ring_137_F post (fun s v2 v3 => K (s, v2, v3)) x.1 x.2.1 x.2.2) (s, v2, v3)
def wpR_ring_115 (post : Int32 → RSt → Prop) (K56 : RSt → Int32 → Prop) (K64 : RSt → Int32 → Int32 → Prop) (K75 : RSt → Int32 → Int32 → Int32 → Prop) (s : RSt) (v2 : Int32) (v3 : Int32) (v4 : Int32) : Prop := K75 s v2 v3 (v4 + 1)
def wpR_ring_75_F (post : Int32 → RSt → Prop) (K56 : RSt → Int32 → Prop) (K64 : RSt → Int32 → Int32 → Prop) (K75 : RSt → Int32 → Int32 → Int32 → Prop) (s : RSt) (v2 : Int32) (v3 : Int32) (v4 : Int32) : Prop := ((s.1 9) ≤ v4 → K64 s v2 (v3 + 1)) ∧ (¬ (s.1 9) ≤ v4 → vp_in v3 10 ∧ (¬ (((s.2.1 38 v3.toNatClampNeg) >>> (v4 &&& 31)) &&& 1) = 1 → wpR_ring_115 post K56 K64 K75 s v2 v3 v4) ∧ ((((s.2.1 38 v3.toNatClampNeg) >>> (v4 &&& 31)) &&& 1) = 1 → vp_in v3 10 ∧ vp_in v4 10 ∧ vp_in v3 10 ∧ ∀ s4 : RSt, s4 = rsA s 38 v3.toNatClampNeg ((s.2.1 38 v3.toNatClampNeg) ||| (s.2.1 38 v4.toNatClampNeg)) → wpR_ring_115 post K56 K64 K75 s4 v2 v3 v4))
def wpR_ring_75 (post : Int32 → RSt → Prop) (K56 : RSt → Int32 → Prop) (K64 : RSt → Int32 → Int32 → Prop) (s : RSt) (v2 : Int32) (v3 : Int32) (v4 : Int32) : Prop := gLP (fun (K : RSt × Int32 × Int32 × Int32 → Prop) (x : RSt × Int32 × Int32 × Int32) => wpR_ring_75_F post K56 K64 (fun s v2 v3 v4 => K (s, v2, v3, v4)) x.1 x.2.1 x.2.2.1 x.2.2.2) (s, v2, v3, v4)
def wpR_ring_64_F (post : Int32 → RSt → Prop) (K56 : RSt → Int32 → Prop) (K64 : RSt → Int32 → Int32 → Prop) (s : RSt) (v2 : Int32) (v3 : Int32) : Prop := ((s.1 9) ≤ v3 → K56 s (v2 + 1)) ∧ (¬ (s.1 9) ≤ v3 → wpR_ring_75 post K56 K64 s v2 v3 0)
def wpR_ring_64 (post : Int32 → RSt → Prop) (K56 : RSt → Int32 → Prop) (s : RSt) (v2 : Int32) (v3 : Int32) : Prop := gLP (fun (K : RSt × Int32 × Int32 → Prop) (x : RSt × Int32 × Int32) => wpR_ring_64_F post K56 (fun s v2 v3 => K (s, v2, v3)) x.1 x.2.1 x.2.2) (s, v2, v3)
def wpR_ring_56_F (post : Int32 → RSt → Prop) (K56 : RSt → Int32 → Prop) (s : RSt) (v2 : Int32) : Prop := (10 ≤ v2 → wpR_ring_137 post s 0 0) ∧ (¬ 10 ≤ v2 → wpR_ring_64 post K56 s v2 0)
def wpR_ring_56 (post : Int32 → RSt → Prop) (s : RSt) (v2 : Int32) : Prop := gLP (fun (K : RSt × Int32 → Prop) (x : RSt × Int32) => wpR_ring_56_F post (fun s v2 => K (s, v2)) x.1 x.2) (s, v2)
def wpR_ring_47 (post : Int32 → RSt → Prop) (K2 : RSt → Int32 → Int32 → Prop) (s : RSt) (v1 : Int32) (v2 : Int32) (w1 : Int32) (w2 : Int32) : Prop := vp_in w1 10 ∧ ∀ s7 : RSt, s7 = rsA s 38 w1.toNatClampNeg w2 → K2 s7 v1 (v2 + 1)
def wpR_ring_2_F (post : Int32 → RSt → Prop) (K2 : RSt → Int32 → Int32 → Prop) (s : RSt) (v1 : Int32) (v2 : Int32) : Prop := ((s.1 9) ≤ v2 → wpR_ring_56 post s 0) ∧ (¬ (s.1 9) ≤ v2 → (¬ v2 = v1 → vp_in v2 10 ∧ ((s.2.1 18 v2.toNatClampNeg) = 0 → wpR_ring_47 post K2 s v1 v2 v2 0) ∧ (¬ (s.2.1 18 v2.toNatClampNeg) = 0 → wpR_names_0 (fun r12 s11 => wpR_ring_47 post K2 s11 v1 v2 v2 r12) s v2)) ∧ (v2 = v1 → wpR_names_0 (fun r14 s13 => wpR_ring_47 post K2 s13 v1 v2 v2 r14) s 10))
def wpR_ring_2 (post : Int32 → RSt → Prop) (s : RSt) (v1 : Int32) (v2 : Int32) : Prop := gLP (fun (K : RSt × Int32 × Int32 → Prop) (x : RSt × Int32 × Int32) => wpR_ring_2_F post (fun s v1 v2 => K (s, v1, v2)) x.1 x.2.1 x.2.2) (s, v1, v2)
def wpR_ring_0 (post : Int32 → RSt → Prop) (s : RSt) (v1 : Int32) : Prop := wpR_ring_2 post s v1 0
theorem wkR_ring_137_F {X : gT} {G : rG} {A : Nat → Prop} {H0 : Heap} {Q : State → Prop} (C : rC X cX8_ring 5 G A) (hsz : H0 = (g_s X).heap) (hR : 1 ≤ (g_R X).frames ∧ 23 ≤ (g_R X).locals) {post : Int32 → RSt → Prop} (hret : ∀ (r : Int32) (τ : RSt) (lv : List (Nat × Value)) (pc : Nat), post r τ → narrow .int (.int r) = .int r → decode cX8_ring pc = .ok (.ireturn, 1) → gJ X (rWd G A H0) Q 0 0 τ lv pc [.int r]) {K137 : RSt → Int32 → Int32 → Prop} (hK137 : ∀ (s : RSt) (v2 : Int32) (v3 : Int32), K137 s v2 v3 → gJ X (rWd G A H0) Q 0 0 s [(0, .ref (G.2.2.1 0)), (2, .int v2), (3, .int v3)] 137 []) (s : RSt) (v2 : Int32) (v3 : Int32) (hw : wpR_ring_137_F post K137 s v2 v3) : gJ X (rWd G A H0) Q 0 0 s [(0, .ref (G.2.2.1 0)), (2, .int v2), (3, .int v3)] 137 [] := by
  refine g_iload_n C.1 2 dX8_ring_137 rfl rfl ?_
  refine g_aload_n C.1 0 dX8_ring_138 rfl rfl ?_
  refine r_g9 C dX8_ring_139 ?_
  refine g_icmp_ge (tgt := 164) C.1 dX8_ring_142 (by decide) (fun h1 => ?_) (fun h1 => ?_)
  · replace hw := hw.1 h1
    refine g_iload_n C.1 1 dX8_ring_164 rfl rfl ?_
    exact hret _ _ _ _ hw rfl dX8_ring_165
  · replace hw := hw.2 h1
    refine g_iload_n C.1 1 dX8_ring_145 rfl rfl ?_
    refine g_aload_n C.1 0 dX8_ring_146 rfl rfl ?_
    refine r_g38 C dX8_ring_147 ?_
    refine g_iload_n C.1 2 dX8_ring_150 rfl rfl ?_
    refine r_ld38 C hw.1 dX8_ring_151 ?_
    replace hw := hw.2
    refine g_iconst (v := 1) C.1 dX8_ring_152 (by decide) ?_
    refine g_iload_n C.1 2 dX8_ring_153 rfl rfl ?_
    refine g_ishl C.1 dX8_ring_154 ?_
    refine g_iand C.1 dX8_ring_155 ?_
    refine g_ior C.1 dX8_ring_156 ?_
    refine g_istore_n (lv' := [(2, .int (v2 ||| ((s.2.1 38 v3.toNatClampNeg) &&& (1 <<< (v3 &&& 31))))), (0, .ref (G.2.2.1 0)), (3, .int v3)]) C.1 dX8_ring_157 rfl (by decide) rfl ?_
    refine g_iinc (v := v3 + 1) (lv' := [(3, .int (v3 + 1)), (2, .int (v2 ||| ((s.2.1 38 v3.toNatClampNeg) &&& (1 <<< (v3 &&& 31))))), (0, .ref (G.2.2.1 0))]) C.1 2 dX8_ring_158 rfl rfl (by decide) rfl ?_
    refine g_goto (tgt := 137) C.1 dX8_ring_161 (by decide) ?_
    refine gJ.sub [2, 1, 0] rfl ?_
    exact hK137 _ _ _ hw
theorem wkR_ring_137 {X : gT} {G : rG} {A : Nat → Prop} {H0 : Heap} {Q : State → Prop} (C : rC X cX8_ring 5 G A) (hsz : H0 = (g_s X).heap) (hR : 1 ≤ (g_R X).frames ∧ 23 ≤ (g_R X).locals) {post : Int32 → RSt → Prop} (hret : ∀ (r : Int32) (τ : RSt) (lv : List (Nat × Value)) (pc : Nat), post r τ → narrow .int (.int r) = .int r → decode cX8_ring pc = .ok (.ireturn, 1) → gJ X (rWd G A H0) Q 0 0 τ lv pc [.int r]) (s : RSt) (v2 : Int32) (v3 : Int32) (hw : wpR_ring_137 post s v2 v3) : gJ X (rWd G A H0) Q 0 0 s [(0, .ref (G.2.2.1 0)), (2, .int v2), (3, .int v3)] 137 [] := 
  hw (fun (x : RSt × Int32 × Int32) => (fun s v2 v3 => gJ X (rWd G A H0) Q 0 0 s [(0, .ref (G.2.2.1 0)), (2, .int v2), (3, .int v3)] 137 []) x.1 x.2.1 x.2.2) (fun x hx => wkR_ring_137_F C hsz hR hret (K137 := (fun s v2 v3 => gJ X (rWd G A H0) Q 0 0 s [(0, .ref (G.2.2.1 0)), (2, .int v2), (3, .int v3)] 137 [])) (fun _ _ _ h => h) x.1 x.2.1 x.2.2 hx)
theorem wkR_ring_115 {X : gT} {G : rG} {A : Nat → Prop} {H0 : Heap} {Q : State → Prop} (C : rC X cX8_ring 5 G A) (hsz : H0 = (g_s X).heap) (hR : 1 ≤ (g_R X).frames ∧ 23 ≤ (g_R X).locals) {post : Int32 → RSt → Prop} (hret : ∀ (r : Int32) (τ : RSt) (lv : List (Nat × Value)) (pc : Nat), post r τ → narrow .int (.int r) = .int r → decode cX8_ring pc = .ok (.ireturn, 1) → gJ X (rWd G A H0) Q 0 0 τ lv pc [.int r]) {K56 : RSt → Int32 → Prop} {K64 : RSt → Int32 → Int32 → Prop} {K75 : RSt → Int32 → Int32 → Int32 → Prop} (hK56 : ∀ (s : RSt) (v2 : Int32), K56 s v2 → gJ X (rWd G A H0) Q 0 0 s [(0, .ref (G.2.2.1 0)), (2, .int v2)] 56 []) (hK64 : ∀ (s : RSt) (v2 : Int32) (v3 : Int32), K64 s v2 v3 → gJ X (rWd G A H0) Q 0 0 s [(0, .ref (G.2.2.1 0)), (2, .int v2), (3, .int v3)] 64 []) (hK75 : ∀ (s : RSt) (v2 : Int32) (v3 : Int32) (v4 : Int32), K75 s v2 v3 v4 → gJ X (rWd G A H0) Q 0 0 s [(0, .ref (G.2.2.1 0)), (2, .int v2), (3, .int v3), (4, .int v4)] 75 []) (s : RSt) (v2 : Int32) (v3 : Int32) (v4 : Int32) (hw : wpR_ring_115 post K56 K64 K75 s v2 v3 v4) : gJ X (rWd G A H0) Q 0 0 s [(0, .ref (G.2.2.1 0)), (2, .int v2), (3, .int v3), (4, .int v4)] 115 [] := by
  refine g_iinc (v := v4 + 1) (lv' := [(4, .int (v4 + 1)), (0, .ref (G.2.2.1 0)), (2, .int v2), (3, .int v3)]) C.1 3 dX8_ring_115 rfl rfl (by decide) rfl ?_
  refine g_goto (tgt := 75) C.1 dX8_ring_118 (by decide) ?_
  refine gJ.sub [1, 2, 3, 0] rfl ?_
  exact hK75 _ _ _ _ hw
theorem wkR_ring_75_F {X : gT} {G : rG} {A : Nat → Prop} {H0 : Heap} {Q : State → Prop} (C : rC X cX8_ring 5 G A) (hsz : H0 = (g_s X).heap) (hR : 1 ≤ (g_R X).frames ∧ 23 ≤ (g_R X).locals) {post : Int32 → RSt → Prop} (hret : ∀ (r : Int32) (τ : RSt) (lv : List (Nat × Value)) (pc : Nat), post r τ → narrow .int (.int r) = .int r → decode cX8_ring pc = .ok (.ireturn, 1) → gJ X (rWd G A H0) Q 0 0 τ lv pc [.int r]) {K56 : RSt → Int32 → Prop} {K64 : RSt → Int32 → Int32 → Prop} {K75 : RSt → Int32 → Int32 → Int32 → Prop} (hK56 : ∀ (s : RSt) (v2 : Int32), K56 s v2 → gJ X (rWd G A H0) Q 0 0 s [(0, .ref (G.2.2.1 0)), (2, .int v2)] 56 []) (hK64 : ∀ (s : RSt) (v2 : Int32) (v3 : Int32), K64 s v2 v3 → gJ X (rWd G A H0) Q 0 0 s [(0, .ref (G.2.2.1 0)), (2, .int v2), (3, .int v3)] 64 []) (hK75 : ∀ (s : RSt) (v2 : Int32) (v3 : Int32) (v4 : Int32), K75 s v2 v3 v4 → gJ X (rWd G A H0) Q 0 0 s [(0, .ref (G.2.2.1 0)), (2, .int v2), (3, .int v3), (4, .int v4)] 75 []) (s : RSt) (v2 : Int32) (v3 : Int32) (v4 : Int32) (hw : wpR_ring_75_F post K56 K64 K75 s v2 v3 v4) : gJ X (rWd G A H0) Q 0 0 s [(0, .ref (G.2.2.1 0)), (2, .int v2), (3, .int v3), (4, .int v4)] 75 [] := by
  refine g_iload C.1 3 dX8_ring_75 rfl ?_
  refine g_aload_n C.1 0 dX8_ring_77 rfl rfl ?_
  refine r_g9 C dX8_ring_78 ?_
  refine g_icmp_ge (tgt := 121) C.1 dX8_ring_81 (by decide) (fun h2 => ?_) (fun h2 => ?_)
  · replace hw := hw.1 h2
    refine g_iinc (v := v3 + 1) (lv' := [(3, .int (v3 + 1)), (0, .ref (G.2.2.1 0)), (2, .int v2), (4, .int v4)]) C.1 2 dX8_ring_121 rfl rfl (by decide) rfl ?_
    refine g_goto (tgt := 64) C.1 dX8_ring_124 (by decide) ?_
    refine gJ.sub [1, 2, 0] rfl ?_
    exact hK64 _ _ _ hw
  · replace hw := hw.2 h2
    refine g_aload_n C.1 0 dX8_ring_84 rfl rfl ?_
    refine r_g38 C dX8_ring_85 ?_
    refine g_iload_n C.1 2 dX8_ring_88 rfl rfl ?_
    refine r_ld38 C hw.1 dX8_ring_89 ?_
    replace hw := hw.2
    refine g_iload C.1 3 dX8_ring_90 rfl ?_
    refine g_ishr C.1 dX8_ring_92 ?_
    refine g_iconst (v := 1) C.1 dX8_ring_93 (by decide) ?_
    refine g_iand C.1 dX8_ring_94 ?_
    refine g_iconst (v := 1) C.1 dX8_ring_95 (by decide) ?_
    refine g_icmp_ne (tgt := 115) C.1 dX8_ring_96 (by decide) (fun h3 => ?_) (fun h3 => ?_)
    · replace hw := hw.1 h3
      exact wkR_ring_115 C hsz hR hret hK56 hK64 hK75 _ _ _ _ hw
    · replace hw := hw.2 h3
      refine g_aload_n C.1 0 dX8_ring_99 rfl rfl ?_
      refine r_g38 C dX8_ring_100 ?_
      refine g_iload_n C.1 2 dX8_ring_103 rfl rfl ?_
      refine g_dup2 C.1 dX8_ring_104 rfl rfl ?_
      refine r_ld38 C hw.1 dX8_ring_105 ?_
      replace hw := hw.2
      refine g_aload_n C.1 0 dX8_ring_106 rfl rfl ?_
      refine r_g38 C dX8_ring_107 ?_
      refine g_iload C.1 3 dX8_ring_110 rfl ?_
      refine r_ld38 C hw.1 dX8_ring_112 ?_
      replace hw := hw.2
      refine g_ior C.1 dX8_ring_113 ?_
      refine r_st38 C hw.1 dX8_ring_114 ?_
      replace hw := hw.2
      refine gJ.nm (fun s4 es4 => ?_)
      replace hw := hw s4 es4
      exact wkR_ring_115 C hsz hR hret hK56 hK64 hK75 _ _ _ _ hw
theorem wkR_ring_75 {X : gT} {G : rG} {A : Nat → Prop} {H0 : Heap} {Q : State → Prop} (C : rC X cX8_ring 5 G A) (hsz : H0 = (g_s X).heap) (hR : 1 ≤ (g_R X).frames ∧ 23 ≤ (g_R X).locals) {post : Int32 → RSt → Prop} (hret : ∀ (r : Int32) (τ : RSt) (lv : List (Nat × Value)) (pc : Nat), post r τ → narrow .int (.int r) = .int r → decode cX8_ring pc = .ok (.ireturn, 1) → gJ X (rWd G A H0) Q 0 0 τ lv pc [.int r]) {K56 : RSt → Int32 → Prop} {K64 : RSt → Int32 → Int32 → Prop} (hK56 : ∀ (s : RSt) (v2 : Int32), K56 s v2 → gJ X (rWd G A H0) Q 0 0 s [(0, .ref (G.2.2.1 0)), (2, .int v2)] 56 []) (hK64 : ∀ (s : RSt) (v2 : Int32) (v3 : Int32), K64 s v2 v3 → gJ X (rWd G A H0) Q 0 0 s [(0, .ref (G.2.2.1 0)), (2, .int v2), (3, .int v3)] 64 []) (s : RSt) (v2 : Int32) (v3 : Int32) (v4 : Int32) (hw : wpR_ring_75 post K56 K64 s v2 v3 v4) : gJ X (rWd G A H0) Q 0 0 s [(0, .ref (G.2.2.1 0)), (2, .int v2), (3, .int v3), (4, .int v4)] 75 [] := 
  hw (fun (x : RSt × Int32 × Int32 × Int32) => (fun s v2 v3 v4 => gJ X (rWd G A H0) Q 0 0 s [(0, .ref (G.2.2.1 0)), (2, .int v2), (3, .int v3), (4, .int v4)] 75 []) x.1 x.2.1 x.2.2.1 x.2.2.2) (fun x hx => wkR_ring_75_F C hsz hR hret hK56 hK64 (K75 := (fun s v2 v3 v4 => gJ X (rWd G A H0) Q 0 0 s [(0, .ref (G.2.2.1 0)), (2, .int v2), (3, .int v3), (4, .int v4)] 75 [])) (fun _ _ _ _ h => h) x.1 x.2.1 x.2.2.1 x.2.2.2 hx)
theorem wkR_ring_64_F {X : gT} {G : rG} {A : Nat → Prop} {H0 : Heap} {Q : State → Prop} (C : rC X cX8_ring 5 G A) (hsz : H0 = (g_s X).heap) (hR : 1 ≤ (g_R X).frames ∧ 23 ≤ (g_R X).locals) {post : Int32 → RSt → Prop} (hret : ∀ (r : Int32) (τ : RSt) (lv : List (Nat × Value)) (pc : Nat), post r τ → narrow .int (.int r) = .int r → decode cX8_ring pc = .ok (.ireturn, 1) → gJ X (rWd G A H0) Q 0 0 τ lv pc [.int r]) {K56 : RSt → Int32 → Prop} {K64 : RSt → Int32 → Int32 → Prop} (hK56 : ∀ (s : RSt) (v2 : Int32), K56 s v2 → gJ X (rWd G A H0) Q 0 0 s [(0, .ref (G.2.2.1 0)), (2, .int v2)] 56 []) (hK64 : ∀ (s : RSt) (v2 : Int32) (v3 : Int32), K64 s v2 v3 → gJ X (rWd G A H0) Q 0 0 s [(0, .ref (G.2.2.1 0)), (2, .int v2), (3, .int v3)] 64 []) (s : RSt) (v2 : Int32) (v3 : Int32) (hw : wpR_ring_64_F post K56 K64 s v2 v3) : gJ X (rWd G A H0) Q 0 0 s [(0, .ref (G.2.2.1 0)), (2, .int v2), (3, .int v3)] 64 [] := by
  refine g_iload_n C.1 2 dX8_ring_64 rfl rfl ?_
  refine g_aload_n C.1 0 dX8_ring_65 rfl rfl ?_
  refine r_g9 C dX8_ring_66 ?_
  refine g_icmp_ge (tgt := 127) C.1 dX8_ring_69 (by decide) (fun h5 => ?_) (fun h5 => ?_)
  · replace hw := hw.1 h5
    refine g_iinc (v := v2 + 1) (lv' := [(2, .int (v2 + 1)), (0, .ref (G.2.2.1 0)), (3, .int v3)]) C.1 1 dX8_ring_127 rfl rfl (by decide) rfl ?_
    refine g_goto (tgt := 56) C.1 dX8_ring_130 (by decide) ?_
    refine gJ.sub [1, 0] rfl ?_
    exact hK56 _ _ hw
  · replace hw := hw.2 h5
    refine g_iconst (v := 0) C.1 dX8_ring_72 (by decide) ?_
    refine g_istore (lv' := [(4, .int 0), (0, .ref (G.2.2.1 0)), (2, .int v2), (3, .int v3)]) C.1 dX8_ring_73 (by decide) rfl ?_
    refine gJ.sub [1, 2, 3, 0] rfl ?_
    exact wkR_ring_75 C hsz hR hret hK56 hK64 _ _ _ _ hw
theorem wkR_ring_64 {X : gT} {G : rG} {A : Nat → Prop} {H0 : Heap} {Q : State → Prop} (C : rC X cX8_ring 5 G A) (hsz : H0 = (g_s X).heap) (hR : 1 ≤ (g_R X).frames ∧ 23 ≤ (g_R X).locals) {post : Int32 → RSt → Prop} (hret : ∀ (r : Int32) (τ : RSt) (lv : List (Nat × Value)) (pc : Nat), post r τ → narrow .int (.int r) = .int r → decode cX8_ring pc = .ok (.ireturn, 1) → gJ X (rWd G A H0) Q 0 0 τ lv pc [.int r]) {K56 : RSt → Int32 → Prop} (hK56 : ∀ (s : RSt) (v2 : Int32), K56 s v2 → gJ X (rWd G A H0) Q 0 0 s [(0, .ref (G.2.2.1 0)), (2, .int v2)] 56 []) (s : RSt) (v2 : Int32) (v3 : Int32) (hw : wpR_ring_64 post K56 s v2 v3) : gJ X (rWd G A H0) Q 0 0 s [(0, .ref (G.2.2.1 0)), (2, .int v2), (3, .int v3)] 64 [] := 
  hw (fun (x : RSt × Int32 × Int32) => (fun s v2 v3 => gJ X (rWd G A H0) Q 0 0 s [(0, .ref (G.2.2.1 0)), (2, .int v2), (3, .int v3)] 64 []) x.1 x.2.1 x.2.2) (fun x hx => wkR_ring_64_F C hsz hR hret hK56 (K64 := (fun s v2 v3 => gJ X (rWd G A H0) Q 0 0 s [(0, .ref (G.2.2.1 0)), (2, .int v2), (3, .int v3)] 64 [])) (fun _ _ _ h => h) x.1 x.2.1 x.2.2 hx)
theorem wkR_ring_56_F {X : gT} {G : rG} {A : Nat → Prop} {H0 : Heap} {Q : State → Prop} (C : rC X cX8_ring 5 G A) (hsz : H0 = (g_s X).heap) (hR : 1 ≤ (g_R X).frames ∧ 23 ≤ (g_R X).locals) {post : Int32 → RSt → Prop} (hret : ∀ (r : Int32) (τ : RSt) (lv : List (Nat × Value)) (pc : Nat), post r τ → narrow .int (.int r) = .int r → decode cX8_ring pc = .ok (.ireturn, 1) → gJ X (rWd G A H0) Q 0 0 τ lv pc [.int r]) {K56 : RSt → Int32 → Prop} (hK56 : ∀ (s : RSt) (v2 : Int32), K56 s v2 → gJ X (rWd G A H0) Q 0 0 s [(0, .ref (G.2.2.1 0)), (2, .int v2)] 56 []) (s : RSt) (v2 : Int32) (hw : wpR_ring_56_F post K56 s v2) : gJ X (rWd G A H0) Q 0 0 s [(0, .ref (G.2.2.1 0)), (2, .int v2)] 56 [] := by
  refine g_iload_n C.1 1 dX8_ring_56 rfl rfl ?_
  refine g_bipush (v := 10) C.1 dX8_ring_57 (by decide) ?_
  refine g_icmp_ge (tgt := 133) C.1 dX8_ring_59 (by decide) (fun h6 => ?_) (fun h6 => ?_)
  · replace hw := hw.1 h6
    refine g_iconst (v := 0) C.1 dX8_ring_133 (by decide) ?_
    refine g_istore_n (lv' := [(2, .int 0), (0, .ref (G.2.2.1 0))]) C.1 dX8_ring_134 rfl (by decide) rfl ?_
    refine g_iconst (v := 0) C.1 dX8_ring_135 (by decide) ?_
    refine g_istore_n (lv' := [(3, .int 0), (2, .int 0), (0, .ref (G.2.2.1 0))]) C.1 dX8_ring_136 rfl (by decide) rfl ?_
    refine gJ.sub [2, 1, 0] rfl ?_
    exact wkR_ring_137 C hsz hR hret _ _ _ hw
  · replace hw := hw.2 h6
    refine g_iconst (v := 0) C.1 dX8_ring_62 (by decide) ?_
    refine g_istore_n (lv' := [(3, .int 0), (0, .ref (G.2.2.1 0)), (2, .int v2)]) C.1 dX8_ring_63 rfl (by decide) rfl ?_
    refine gJ.sub [1, 2, 0] rfl ?_
    exact wkR_ring_64 C hsz hR hret hK56 _ _ _ hw
theorem wkR_ring_56 {X : gT} {G : rG} {A : Nat → Prop} {H0 : Heap} {Q : State → Prop} (C : rC X cX8_ring 5 G A) (hsz : H0 = (g_s X).heap) (hR : 1 ≤ (g_R X).frames ∧ 23 ≤ (g_R X).locals) {post : Int32 → RSt → Prop} (hret : ∀ (r : Int32) (τ : RSt) (lv : List (Nat × Value)) (pc : Nat), post r τ → narrow .int (.int r) = .int r → decode cX8_ring pc = .ok (.ireturn, 1) → gJ X (rWd G A H0) Q 0 0 τ lv pc [.int r]) (s : RSt) (v2 : Int32) (hw : wpR_ring_56 post s v2) : gJ X (rWd G A H0) Q 0 0 s [(0, .ref (G.2.2.1 0)), (2, .int v2)] 56 [] := 
  hw (fun (x : RSt × Int32) => (fun s v2 => gJ X (rWd G A H0) Q 0 0 s [(0, .ref (G.2.2.1 0)), (2, .int v2)] 56 []) x.1 x.2) (fun x hx => wkR_ring_56_F C hsz hR hret (K56 := (fun s v2 => gJ X (rWd G A H0) Q 0 0 s [(0, .ref (G.2.2.1 0)), (2, .int v2)] 56 [])) (fun _ _ h => h) x.1 x.2 hx)
theorem wkR_ring_47 {X : gT} {G : rG} {A : Nat → Prop} {H0 : Heap} {Q : State → Prop} (C : rC X cX8_ring 5 G A) (hsz : H0 = (g_s X).heap) (hR : 1 ≤ (g_R X).frames ∧ 23 ≤ (g_R X).locals) {post : Int32 → RSt → Prop} (hret : ∀ (r : Int32) (τ : RSt) (lv : List (Nat × Value)) (pc : Nat), post r τ → narrow .int (.int r) = .int r → decode cX8_ring pc = .ok (.ireturn, 1) → gJ X (rWd G A H0) Q 0 0 τ lv pc [.int r]) {K2 : RSt → Int32 → Int32 → Prop} (hK2 : ∀ (s : RSt) (v1 : Int32) (v2 : Int32), K2 s v1 v2 → gJ X (rWd G A H0) Q 0 0 s [(0, .ref (G.2.2.1 0)), (1, .int v1), (2, .int v2)] 2 []) (s : RSt) (v1 : Int32) (v2 : Int32) (w1 : Int32) (w2 : Int32) (hw : wpR_ring_47 post K2 s v1 v2 w1 w2) : gJ X (rWd G A H0) Q 0 0 s [(0, .ref (G.2.2.1 0)), (1, .int v1), (2, .int v2)] 47 [.int w2, .int w1, .ref (G.2.2.1 38)] := by
  refine r_st38 C hw.1 dX8_ring_47 ?_
  replace hw := hw.2
  refine gJ.nm (fun s7 es7 => ?_)
  replace hw := hw s7 es7
  refine g_iinc (v := v2 + 1) (lv' := [(2, .int (v2 + 1)), (0, .ref (G.2.2.1 0)), (1, .int v1)]) C.1 2 dX8_ring_48 rfl rfl (by decide) rfl ?_
  refine g_goto (tgt := 2) C.1 dX8_ring_51 (by decide) ?_
  refine gJ.sub [1, 2, 0] rfl ?_
  exact hK2 _ _ _ hw
theorem wkR_ring_2_F {X : gT} {G : rG} {A : Nat → Prop} {H0 : Heap} {Q : State → Prop} (C : rC X cX8_ring 5 G A) (hsz : H0 = (g_s X).heap) (hR : 1 ≤ (g_R X).frames ∧ 23 ≤ (g_R X).locals) {post : Int32 → RSt → Prop} (hret : ∀ (r : Int32) (τ : RSt) (lv : List (Nat × Value)) (pc : Nat), post r τ → narrow .int (.int r) = .int r → decode cX8_ring pc = .ok (.ireturn, 1) → gJ X (rWd G A H0) Q 0 0 τ lv pc [.int r]) {K2 : RSt → Int32 → Int32 → Prop} (hK2 : ∀ (s : RSt) (v1 : Int32) (v2 : Int32), K2 s v1 v2 → gJ X (rWd G A H0) Q 0 0 s [(0, .ref (G.2.2.1 0)), (1, .int v1), (2, .int v2)] 2 []) (s : RSt) (v1 : Int32) (v2 : Int32) (hw : wpR_ring_2_F post K2 s v1 v2) : gJ X (rWd G A H0) Q 0 0 s [(0, .ref (G.2.2.1 0)), (1, .int v1), (2, .int v2)] 2 [] := by
  refine g_iload_n C.1 2 dX8_ring_2 rfl rfl ?_
  refine g_aload_n C.1 0 dX8_ring_3 rfl rfl ?_
  refine r_g9 C dX8_ring_4 ?_
  refine g_icmp_ge (tgt := 54) C.1 dX8_ring_7 (by decide) (fun h8 => ?_) (fun h8 => ?_)
  · replace hw := hw.1 h8
    refine g_iconst (v := 0) C.1 dX8_ring_54 (by decide) ?_
    refine g_istore_n (lv' := [(2, .int 0), (0, .ref (G.2.2.1 0)), (1, .int v1)]) C.1 dX8_ring_55 rfl (by decide) rfl ?_
    refine gJ.sub [1, 0] rfl ?_
    exact wkR_ring_56 C hsz hR hret _ _ hw
  · replace hw := hw.2 h8
    refine g_aload_n C.1 0 dX8_ring_10 rfl rfl ?_
    refine r_g38 C dX8_ring_11 ?_
    refine g_iload_n C.1 2 dX8_ring_14 rfl rfl ?_
    refine g_iload_n C.1 2 dX8_ring_15 rfl rfl ?_
    refine g_iload_n C.1 1 dX8_ring_16 rfl rfl ?_
    refine g_icmp_ne (tgt := 29) C.1 dX8_ring_17 (by decide) (fun h9 => ?_) (fun h9 => ?_)
    · replace hw := hw.1 h9
      refine g_aload_n C.1 0 dX8_ring_29 rfl rfl ?_
      refine r_g18 C dX8_ring_30 ?_
      refine g_iload_n C.1 2 dX8_ring_33 rfl rfl ?_
      refine r_ld18 C hw.1 dX8_ring_34 ?_
      replace hw := hw.2
      refine g_if_eq (tgt := 46) C.1 dX8_ring_35 (by decide) (fun h10 => ?_) (fun h10 => ?_)
      · replace hw := hw.1 h10
        refine g_iconst (v := 0) C.1 dX8_ring_46 (by decide) ?_
        exact wkR_ring_47 C hsz hR hret hK2 _ _ _ _ _ hw
      · replace hw := hw.2 h10
        refine g_aload_n C.1 0 dX8_ring_38 rfl rfl ?_
        refine g_iload_n C.1 2 dX8_ring_39 rfl rfl ?_
        refine r_calli C hsz (cR_names (g_l X) G s _ _ hw) kR_175 kR_176 kR_177 kR_174 hdR_names ⟨Nat.le_trans (Nat.le_of_ble_eq_true rfl) hR.1, Nat.le_trans (Nat.le_of_ble_eq_true rfl) hR.2⟩ dX8_ring_40 rfl (Nat.le_of_ble_eq_true rfl) (fun r12 s11 hw => ?_)
        refine g_goto (tgt := 47) C.1 dX8_ring_43 (by decide) ?_
        exact wkR_ring_47 C hsz hR hret hK2 _ _ _ _ _ hw
    · replace hw := hw.2 h9
      refine g_aload_n C.1 0 dX8_ring_20 rfl rfl ?_
      refine g_bipush (v := 10) C.1 dX8_ring_21 (by decide) ?_
      refine r_calli C hsz (cR_names (g_l X) G s _ _ hw) kR_175 kR_176 kR_177 kR_174 hdR_names ⟨Nat.le_trans (Nat.le_of_ble_eq_true rfl) hR.1, Nat.le_trans (Nat.le_of_ble_eq_true rfl) hR.2⟩ dX8_ring_23 rfl (Nat.le_of_ble_eq_true rfl) (fun r14 s13 hw => ?_)
      refine g_goto (tgt := 47) C.1 dX8_ring_26 (by decide) ?_
      exact wkR_ring_47 C hsz hR hret hK2 _ _ _ _ _ hw
theorem wkR_ring_2 {X : gT} {G : rG} {A : Nat → Prop} {H0 : Heap} {Q : State → Prop} (C : rC X cX8_ring 5 G A) (hsz : H0 = (g_s X).heap) (hR : 1 ≤ (g_R X).frames ∧ 23 ≤ (g_R X).locals) {post : Int32 → RSt → Prop} (hret : ∀ (r : Int32) (τ : RSt) (lv : List (Nat × Value)) (pc : Nat), post r τ → narrow .int (.int r) = .int r → decode cX8_ring pc = .ok (.ireturn, 1) → gJ X (rWd G A H0) Q 0 0 τ lv pc [.int r]) (s : RSt) (v1 : Int32) (v2 : Int32) (hw : wpR_ring_2 post s v1 v2) : gJ X (rWd G A H0) Q 0 0 s [(0, .ref (G.2.2.1 0)), (1, .int v1), (2, .int v2)] 2 [] := 
  hw (fun (x : RSt × Int32 × Int32) => (fun s v1 v2 => gJ X (rWd G A H0) Q 0 0 s [(0, .ref (G.2.2.1 0)), (1, .int v1), (2, .int v2)] 2 []) x.1 x.2.1 x.2.2) (fun x hx => wkR_ring_2_F C hsz hR hret (K2 := (fun s v1 v2 => gJ X (rWd G A H0) Q 0 0 s [(0, .ref (G.2.2.1 0)), (1, .int v1), (2, .int v2)] 2 [])) (fun _ _ _ h => h) x.1 x.2.1 x.2.2 hx)
theorem wkR_ring_0 {X : gT} {G : rG} {A : Nat → Prop} {H0 : Heap} {Q : State → Prop} (C : rC X cX8_ring 5 G A) (hsz : H0 = (g_s X).heap) (hR : 1 ≤ (g_R X).frames ∧ 23 ≤ (g_R X).locals) {post : Int32 → RSt → Prop} (hret : ∀ (r : Int32) (τ : RSt) (lv : List (Nat × Value)) (pc : Nat), post r τ → narrow .int (.int r) = .int r → decode cX8_ring pc = .ok (.ireturn, 1) → gJ X (rWd G A H0) Q 0 0 τ lv pc [.int r]) (s : RSt) (v1 : Int32) (hw : wpR_ring_0 post s v1) : gJ X (rWd G A H0) Q 0 0 s [(0, .ref (G.2.2.1 0)), (1, .int v1)] 0 [] := by
  refine g_iconst (v := 0) C.1 dX8_ring_0 (by decide) ?_
  refine g_istore_n (lv' := [(2, .int 0), (0, .ref (G.2.2.1 0)), (1, .int v1)]) C.1 dX8_ring_1 rfl (by decide) rfl ?_
  refine gJ.sub [1, 2, 0] rfl ?_
  exact wkR_ring_2 C hsz hR hret _ _ _ hw
theorem hdR_ring : yX8_ring.cls = RX8 ∧ yX8_ring.cls ≠ "java/lang/invoke/MethodHandle" ∧ yX8_ring.cls ≠ "java/lang/invoke/VarHandle" ∧ (parseMethodDescriptor yX8_ring.desc).map (fun d => d.parameters.length) = some 1 := by decide +kernel
theorem cR_ring (l : Launch) (G : rG) (s : RSt) (v1 : Int32) (post : Int32 → RSt → Prop) (hw : wpR_ring_0 post s v1) : rMi l yX8_ring cX8_ring 5 .int 1 23 G s [.int v1] post := rMi_of (by decide +kernel) rfl (Nat.le_of_ble_eq_true rfl) (fun X A H0 Q hl hR hsz C hret => wkR_ring_0 C hsz hR hret s v1 hw)
def wpR_areKnown_38 (post : Int32 → RSt → Prop) (K4 : RSt → Int32 → Int32 → Int32 → Prop) (s : RSt) (v1 : Int32) (v3 : Int32) (w0 : Int32) : Prop := K4 s v1 w0 (v3 + 1)
def wpR_areKnown_37 (post : Int32 → RSt → Prop) (K4 : RSt → Int32 → Int32 → Int32 → Prop) (s : RSt) (v1 : Int32) (v3 : Int32) : Prop := wpR_areKnown_38 post K4 s v1 v3 0
def wpR_areKnown_33 (post : Int32 → RSt → Prop) (K4 : RSt → Int32 → Int32 → Int32 → Prop) (s : RSt) (v1 : Int32) (v3 : Int32) : Prop := wpR_areKnown_38 post K4 s v1 v3 1
def wpR_areKnown_4_F (post : Int32 → RSt → Prop) (K4 : RSt → Int32 → Int32 → Int32 → Prop) (s : RSt) (v1 : Int32) (v2 : Int32) (v3 : Int32) : Prop := ((s.1 9) ≤ v3 → narrow .boolean (.int v2) = .int v2 ∧ post v2 s) ∧ (¬ (s.1 9) ≤ v3 → (v2 = 0 → wpR_areKnown_37 post K4 s v1 v3) ∧ (¬ v2 = 0 → (((v1 >>> (v3 &&& 31)) &&& 1) = 0 → wpR_areKnown_33 post K4 s v1 v3) ∧ (¬ ((v1 >>> (v3 &&& 31)) &&& 1) = 0 → vp_in v3 10 ∧ ((s.2.1 39 v3.toNatClampNeg) = 0 → wpR_areKnown_37 post K4 s v1 v3) ∧ (¬ (s.2.1 39 v3.toNatClampNeg) = 0 → wpR_areKnown_33 post K4 s v1 v3))))
def wpR_areKnown_4 (post : Int32 → RSt → Prop) (s : RSt) (v1 : Int32) (v2 : Int32) (v3 : Int32) : Prop := gLP (fun (K : RSt × Int32 × Int32 × Int32 → Prop) (x : RSt × Int32 × Int32 × Int32) => wpR_areKnown_4_F post (fun s v1 v2 v3 => K (s, v1, v2, v3)) x.1 x.2.1 x.2.2.1 x.2.2.2) (s, v1, v2, v3)
def wpR_areKnown_0 (post : Int32 → RSt → Prop) (s : RSt) (v1 : Int32) : Prop := wpR_areKnown_4 post s v1 1 0
theorem wkR_areKnown_38 {X : gT} {G : rG} {A : Nat → Prop} {H0 : Heap} {Q : State → Prop} (C : rC X cX8_areKnown 4 G A) (hsz : H0 = (g_s X).heap) (hR : 0 ≤ (g_R X).frames ∧ 0 ≤ (g_R X).locals) {post : Int32 → RSt → Prop} (hret : ∀ (r : Int32) (τ : RSt) (lv : List (Nat × Value)) (pc : Nat), post r τ → narrow .boolean (.int r) = .int r → decode cX8_areKnown pc = .ok (.ireturn, 1) → gJ X (rWd G A H0) Q 0 0 τ lv pc [.int r]) {K4 : RSt → Int32 → Int32 → Int32 → Prop} (hK4 : ∀ (s : RSt) (v1 : Int32) (v2 : Int32) (v3 : Int32), K4 s v1 v2 v3 → gJ X (rWd G A H0) Q 0 0 s [(0, .ref (G.2.2.1 0)), (1, .int v1), (2, .int v2), (3, .int v3)] 4 []) (s : RSt) (v1 : Int32) (v3 : Int32) (w0 : Int32) (hw : wpR_areKnown_38 post K4 s v1 v3 w0) : gJ X (rWd G A H0) Q 0 0 s [(0, .ref (G.2.2.1 0)), (1, .int v1), (3, .int v3)] 38 [.int w0] := by
  refine g_istore_n (lv' := [(2, .int w0), (0, .ref (G.2.2.1 0)), (1, .int v1), (3, .int v3)]) C.1 dX8_areKnown_38 rfl (by decide) rfl ?_
  refine g_iinc (v := v3 + 1) (lv' := [(3, .int (v3 + 1)), (2, .int w0), (0, .ref (G.2.2.1 0)), (1, .int v1)]) C.1 3 dX8_areKnown_39 rfl rfl (by decide) rfl ?_
  refine g_goto (tgt := 4) C.1 dX8_areKnown_42 (by decide) ?_
  refine gJ.sub [2, 3, 1, 0] rfl ?_
  exact hK4 _ _ _ _ hw
theorem wkR_areKnown_37 {X : gT} {G : rG} {A : Nat → Prop} {H0 : Heap} {Q : State → Prop} (C : rC X cX8_areKnown 4 G A) (hsz : H0 = (g_s X).heap) (hR : 0 ≤ (g_R X).frames ∧ 0 ≤ (g_R X).locals) {post : Int32 → RSt → Prop} (hret : ∀ (r : Int32) (τ : RSt) (lv : List (Nat × Value)) (pc : Nat), post r τ → narrow .boolean (.int r) = .int r → decode cX8_areKnown pc = .ok (.ireturn, 1) → gJ X (rWd G A H0) Q 0 0 τ lv pc [.int r]) {K4 : RSt → Int32 → Int32 → Int32 → Prop} (hK4 : ∀ (s : RSt) (v1 : Int32) (v2 : Int32) (v3 : Int32), K4 s v1 v2 v3 → gJ X (rWd G A H0) Q 0 0 s [(0, .ref (G.2.2.1 0)), (1, .int v1), (2, .int v2), (3, .int v3)] 4 []) (s : RSt) (v1 : Int32) (v3 : Int32) (hw : wpR_areKnown_37 post K4 s v1 v3) : gJ X (rWd G A H0) Q 0 0 s [(0, .ref (G.2.2.1 0)), (1, .int v1), (3, .int v3)] 37 [] := by
  refine g_iconst (v := 0) C.1 dX8_areKnown_37 (by decide) ?_
  exact wkR_areKnown_38 C hsz hR hret hK4 _ _ _ _ hw
theorem wkR_areKnown_33 {X : gT} {G : rG} {A : Nat → Prop} {H0 : Heap} {Q : State → Prop} (C : rC X cX8_areKnown 4 G A) (hsz : H0 = (g_s X).heap) (hR : 0 ≤ (g_R X).frames ∧ 0 ≤ (g_R X).locals) {post : Int32 → RSt → Prop} (hret : ∀ (r : Int32) (τ : RSt) (lv : List (Nat × Value)) (pc : Nat), post r τ → narrow .boolean (.int r) = .int r → decode cX8_areKnown pc = .ok (.ireturn, 1) → gJ X (rWd G A H0) Q 0 0 τ lv pc [.int r]) {K4 : RSt → Int32 → Int32 → Int32 → Prop} (hK4 : ∀ (s : RSt) (v1 : Int32) (v2 : Int32) (v3 : Int32), K4 s v1 v2 v3 → gJ X (rWd G A H0) Q 0 0 s [(0, .ref (G.2.2.1 0)), (1, .int v1), (2, .int v2), (3, .int v3)] 4 []) (s : RSt) (v1 : Int32) (v3 : Int32) (hw : wpR_areKnown_33 post K4 s v1 v3) : gJ X (rWd G A H0) Q 0 0 s [(0, .ref (G.2.2.1 0)), (1, .int v1), (3, .int v3)] 33 [] := by
  refine g_iconst (v := 1) C.1 dX8_areKnown_33 (by decide) ?_
  refine g_goto (tgt := 38) C.1 dX8_areKnown_34 (by decide) ?_
  exact wkR_areKnown_38 C hsz hR hret hK4 _ _ _ _ hw
theorem wkR_areKnown_4_F {X : gT} {G : rG} {A : Nat → Prop} {H0 : Heap} {Q : State → Prop} (C : rC X cX8_areKnown 4 G A) (hsz : H0 = (g_s X).heap) (hR : 0 ≤ (g_R X).frames ∧ 0 ≤ (g_R X).locals) {post : Int32 → RSt → Prop} (hret : ∀ (r : Int32) (τ : RSt) (lv : List (Nat × Value)) (pc : Nat), post r τ → narrow .boolean (.int r) = .int r → decode cX8_areKnown pc = .ok (.ireturn, 1) → gJ X (rWd G A H0) Q 0 0 τ lv pc [.int r]) {K4 : RSt → Int32 → Int32 → Int32 → Prop} (hK4 : ∀ (s : RSt) (v1 : Int32) (v2 : Int32) (v3 : Int32), K4 s v1 v2 v3 → gJ X (rWd G A H0) Q 0 0 s [(0, .ref (G.2.2.1 0)), (1, .int v1), (2, .int v2), (3, .int v3)] 4 []) (s : RSt) (v1 : Int32) (v2 : Int32) (v3 : Int32) (hw : wpR_areKnown_4_F post K4 s v1 v2 v3) : gJ X (rWd G A H0) Q 0 0 s [(0, .ref (G.2.2.1 0)), (1, .int v1), (2, .int v2), (3, .int v3)] 4 [] := by
  refine g_iload_n C.1 3 dX8_areKnown_4 rfl rfl ?_
  refine g_aload_n C.1 0 dX8_areKnown_5 rfl rfl ?_
  refine r_g9 C dX8_areKnown_6 ?_
  refine g_icmp_ge (tgt := 45) C.1 dX8_areKnown_9 (by decide) (fun h1 => ?_) (fun h1 => ?_)
  · replace hw := hw.1 h1
    refine g_iload_n C.1 2 dX8_areKnown_45 rfl rfl ?_
    exact hret _ _ _ _ hw.2 hw.1 dX8_areKnown_46
  · replace hw := hw.2 h1
    refine g_iload_n C.1 2 dX8_areKnown_12 rfl rfl ?_
    refine g_if_eq (tgt := 37) C.1 dX8_areKnown_13 (by decide) (fun h2 => ?_) (fun h2 => ?_)
    · replace hw := hw.1 h2
      refine gJ.sub [0, 1, 3] rfl ?_
      exact wkR_areKnown_37 C hsz hR hret hK4 _ _ _ hw
    · replace hw := hw.2 h2
      refine g_iload_n C.1 1 dX8_areKnown_16 rfl rfl ?_
      refine g_iload_n C.1 3 dX8_areKnown_17 rfl rfl ?_
      refine g_ishr C.1 dX8_areKnown_18 ?_
      refine g_iconst (v := 1) C.1 dX8_areKnown_19 (by decide) ?_
      refine g_iand C.1 dX8_areKnown_20 ?_
      refine g_if_eq (tgt := 33) C.1 dX8_areKnown_21 (by decide) (fun h3 => ?_) (fun h3 => ?_)
      · replace hw := hw.1 h3
        refine gJ.sub [0, 1, 3] rfl ?_
        exact wkR_areKnown_33 C hsz hR hret hK4 _ _ _ hw
      · replace hw := hw.2 h3
        refine g_aload_n C.1 0 dX8_areKnown_24 rfl rfl ?_
        refine r_g39 C dX8_areKnown_25 ?_
        refine g_iload_n C.1 3 dX8_areKnown_28 rfl rfl ?_
        refine r_ld39 C hw.1 dX8_areKnown_29 ?_
        replace hw := hw.2
        refine g_if_eq (tgt := 37) C.1 dX8_areKnown_30 (by decide) (fun h4 => ?_) (fun h4 => ?_)
        · replace hw := hw.1 h4
          refine gJ.sub [0, 1, 3] rfl ?_
          exact wkR_areKnown_37 C hsz hR hret hK4 _ _ _ hw
        · replace hw := hw.2 h4
          refine gJ.sub [0, 1, 3] rfl ?_
          exact wkR_areKnown_33 C hsz hR hret hK4 _ _ _ hw
theorem wkR_areKnown_4 {X : gT} {G : rG} {A : Nat → Prop} {H0 : Heap} {Q : State → Prop} (C : rC X cX8_areKnown 4 G A) (hsz : H0 = (g_s X).heap) (hR : 0 ≤ (g_R X).frames ∧ 0 ≤ (g_R X).locals) {post : Int32 → RSt → Prop} (hret : ∀ (r : Int32) (τ : RSt) (lv : List (Nat × Value)) (pc : Nat), post r τ → narrow .boolean (.int r) = .int r → decode cX8_areKnown pc = .ok (.ireturn, 1) → gJ X (rWd G A H0) Q 0 0 τ lv pc [.int r]) (s : RSt) (v1 : Int32) (v2 : Int32) (v3 : Int32) (hw : wpR_areKnown_4 post s v1 v2 v3) : gJ X (rWd G A H0) Q 0 0 s [(0, .ref (G.2.2.1 0)), (1, .int v1), (2, .int v2), (3, .int v3)] 4 [] := 
  hw (fun (x : RSt × Int32 × Int32 × Int32) => (fun s v1 v2 v3 => gJ X (rWd G A H0) Q 0 0 s [(0, .ref (G.2.2.1 0)), (1, .int v1), (2, .int v2), (3, .int v3)] 4 []) x.1 x.2.1 x.2.2.1 x.2.2.2) (fun x hx => wkR_areKnown_4_F C hsz hR hret (K4 := (fun s v1 v2 v3 => gJ X (rWd G A H0) Q 0 0 s [(0, .ref (G.2.2.1 0)), (1, .int v1), (2, .int v2), (3, .int v3)] 4 [])) (fun _ _ _ _ h => h) x.1 x.2.1 x.2.2.1 x.2.2.2 hx)
theorem wkR_areKnown_0 {X : gT} {G : rG} {A : Nat → Prop} {H0 : Heap} {Q : State → Prop} (C : rC X cX8_areKnown 4 G A) (hsz : H0 = (g_s X).heap) (hR : 0 ≤ (g_R X).frames ∧ 0 ≤ (g_R X).locals) {post : Int32 → RSt → Prop} (hret : ∀ (r : Int32) (τ : RSt) (lv : List (Nat × Value)) (pc : Nat), post r τ → narrow .boolean (.int r) = .int r → decode cX8_areKnown pc = .ok (.ireturn, 1) → gJ X (rWd G A H0) Q 0 0 τ lv pc [.int r]) (s : RSt) (v1 : Int32) (hw : wpR_areKnown_0 post s v1) : gJ X (rWd G A H0) Q 0 0 s [(0, .ref (G.2.2.1 0)), (1, .int v1)] 0 [] := by
  refine g_iconst (v := 1) C.1 dX8_areKnown_0 (by decide) ?_
  refine g_istore_n (lv' := [(2, .int 1), (0, .ref (G.2.2.1 0)), (1, .int v1)]) C.1 dX8_areKnown_1 rfl (by decide) rfl ?_
  refine g_iconst (v := 0) C.1 dX8_areKnown_2 (by decide) ?_
  refine g_istore_n (lv' := [(3, .int 0), (2, .int 1), (0, .ref (G.2.2.1 0)), (1, .int v1)]) C.1 dX8_areKnown_3 rfl (by decide) rfl ?_
  refine gJ.sub [2, 3, 1, 0] rfl ?_
  exact wkR_areKnown_4 C hsz hR hret _ _ _ _ hw
theorem hdR_areKnown : yX8_areKnown.cls = RX8 ∧ yX8_areKnown.cls ≠ "java/lang/invoke/MethodHandle" ∧ yX8_areKnown.cls ≠ "java/lang/invoke/VarHandle" ∧ (parseMethodDescriptor yX8_areKnown.desc).map (fun d => d.parameters.length) = some 1 := by decide +kernel
theorem cR_areKnown (l : Launch) (G : rG) (s : RSt) (v1 : Int32) (post : Int32 → RSt → Prop) (hw : wpR_areKnown_0 post s v1) : rMi l yX8_areKnown cX8_areKnown 4 .boolean 0 0 G s [.int v1] post := rMi_of (by decide +kernel) rfl (Nat.le_of_ble_eq_true rfl) (fun X A H0 Q hl hR hsz C hret => wkR_areKnown_0 C hsz hR hret s v1 hw)
def wpR_holds_226 (post : Int32 → RSt → Prop) (K8 : RSt → Int32 → Int32 → Int32 → Prop) (s : RSt) (v1 : Int32) (v2 : Int32) (v3 : Int32) : Prop := K8 s v1 v2 (v3 + 1)
def wpR_holds_150 (post : Int32 → RSt → Prop) (K8 : RSt → Int32 → Int32 → Int32 → Prop) (s : RSt) (v1 : Int32) (v2 : Int32) (v3 : Int32) (w1 : Int32) (w2 : Int32) : Prop := vp_in w1 400 ∧ ∀ s1 : RSt, s1 = rsA s 41 w1.toNatClampNeg (vp_nar .boolean w2) → wpR_holds_226 post K8 s1 v1 v2 v3
def wpR_holds_145 (post : Int32 → RSt → Prop) (K8 : RSt → Int32 → Int32 → Int32 → Prop) (s : RSt) (v1 : Int32) (v2 : Int32) (v3 : Int32) (w1 : Int32) : Prop := wpR_holds_150 post K8 s v1 v2 v3 w1 1
def wpR_holds_121 (post : Int32 → RSt → Prop) (K8 : RSt → Int32 → Int32 → Int32 → Prop) (s : RSt) (v1 : Int32) (v2 : Int32) (v3 : Int32) (w1 : Int32) : Prop := wpR_holds_150 post K8 s v1 v2 v3 w1 0
def wpR_holds_80 (post : Int32 → RSt → Prop) (K8 : RSt → Int32 → Int32 → Int32 → Prop) (s : RSt) (v1 : Int32) (v2 : Int32) (v3 : Int32) (v4 : Int32) : Prop := (¬ v4 = 15 → vp_in ((v2 + (-1)) - 1) 400 ∧ (¬ (s.2.1 41 ((v2 + (-1)) - 1).toNatClampNeg) = 0 → wpR_holds_145 post K8 s v1 (v2 + (-1)) v3 ((v2 + (-1)) - 1)) ∧ ((s.2.1 41 ((v2 + (-1)) - 1).toNatClampNeg) = 0 → vp_in (v2 + (-1)) 400 ∧ ((s.2.1 41 (v2 + (-1)).toNatClampNeg) = 0 → wpR_holds_150 post K8 s v1 (v2 + (-1)) v3 ((v2 + (-1)) - 1) 0) ∧ (¬ (s.2.1 41 (v2 + (-1)).toNatClampNeg) = 0 → wpR_holds_145 post K8 s v1 (v2 + (-1)) v3 ((v2 + (-1)) - 1)))) ∧ (v4 = 15 → vp_in ((v2 + (-1)) - 1) 400 ∧ ((s.2.1 41 ((v2 + (-1)) - 1).toNatClampNeg) = 0 → wpR_holds_121 post K8 s v1 (v2 + (-1)) v3 ((v2 + (-1)) - 1)) ∧ (¬ (s.2.1 41 ((v2 + (-1)) - 1).toNatClampNeg) = 0 → vp_in (v2 + (-1)) 400 ∧ ((s.2.1 41 (v2 + (-1)).toNatClampNeg) = 0 → wpR_holds_121 post K8 s v1 (v2 + (-1)) v3 ((v2 + (-1)) - 1)) ∧ (¬ (s.2.1 41 (v2 + (-1)).toNatClampNeg) = 0 → wpR_holds_150 post K8 s v1 (v2 + (-1)) v3 ((v2 + (-1)) - 1) 1)))
def wpR_holds_222 (post : Int32 → RSt → Prop) (K8 : RSt → Int32 → Int32 → Int32 → Prop) (s : RSt) (v1 : Int32) (v2 : Int32) (v3 : Int32) (w1 : Int32) (w2 : Int32) : Prop := vp_in w1 400 ∧ ∀ s7 : RSt, s7 = rsA s 41 w1.toNatClampNeg (vp_nar .boolean w2) → wpR_holds_226 post K8 s7 v1 (v2 + 1) v3
def wpR_holds_62 (post : Int32 → RSt → Prop) (K8 : RSt → Int32 → Int32 → Int32 → Prop) (s : RSt) (v1 : Int32) (v2 : Int32) (v3 : Int32) (w1 : Int32) (w2 : Int32) : Prop := vp_in w1 400 ∧ ∀ s8 : RSt, s8 = rsA s 41 w1.toNatClampNeg (vp_nar .boolean w2) → wpR_holds_226 post K8 s8 v1 v2 v3
def wpR_holds_8_F (post : Int32 → RSt → Prop) (K8 : RSt → Int32 → Int32 → Int32 → Prop) (s : RSt) (v1 : Int32) (v2 : Int32) (v3 : Int32) : Prop := vp_in v1 11 ∧ (((400 * v1) + (s.2.1 17 v1.toNatClampNeg)) ≤ v3 → vp_in 0 400 ∧ narrow .boolean (.int (s.2.1 41 (0 : Int32).toNatClampNeg)) = .int (s.2.1 41 (0 : Int32).toNatClampNeg) ∧ post (s.2.1 41 (0 : Int32).toNatClampNeg) s) ∧ (¬ ((400 * v1) + (s.2.1 17 v1.toNatClampNeg)) ≤ v3 → vp_in v3 4400 ∧ (¬ (s.2.1 15 v3.toNatClampNeg) = 14 → ((s.2.1 15 v3.toNatClampNeg) = 15 → wpR_holds_80 post K8 s v1 v2 v3 (s.2.1 15 v3.toNatClampNeg)) ∧ (¬ (s.2.1 15 v3.toNatClampNeg) = 15 → (¬ (s.2.1 15 v3.toNatClampNeg) = 16 → (¬ (s.2.1 15 v3.toNatClampNeg) = 12 → (¬ (s.2.1 15 v3.toNatClampNeg) = 13 → wpR_measure_0 (fun r16 s15 => vp_in v3 4400 ∧ wpR_compares_0 (fun r17 => wpR_holds_222 post K8 s15 v1 v2 v3 v2 r17) r16 ((s.2.1 15 v3.toNatClampNeg) - (s.2.1 15 v3.toNatClampNeg) / 3 * 3) (s15.2.1 16 v3.toNatClampNeg)) s v1 ((s.2.1 15 v3.toNatClampNeg) / 3)) ∧ ((s.2.1 15 v3.toNatClampNeg) = 13 → vp_in v3 4400 ∧ wpR_isRunning_0 (fun r19 s18 => wpR_holds_222 post K8 s18 v1 v2 v3 v2 r19) s (s.2.1 16 v3.toNatClampNeg))) ∧ ((s.2.1 15 v3.toNatClampNeg) = 12 → vp_in v3 4400 ∧ vp_in (s.2.1 16 v3.toNatClampNeg) 10 ∧ wpR_holds_222 post K8 s v1 v2 v3 v2 (s.2.1 40 (s.2.1 16 v3.toNatClampNeg).toNatClampNeg))) ∧ ((s.2.1 15 v3.toNatClampNeg) = 16 → wpR_holds_80 post K8 s v1 v2 v3 (s.2.1 15 v3.toNatClampNeg)))) ∧ ((s.2.1 15 v3.toNatClampNeg) = 14 → vp_in (v2 - 1) 400 ∧ (¬ (s.2.1 41 (v2 - 1).toNatClampNeg) = 0 → wpR_holds_62 post K8 s v1 v2 v3 (v2 - 1) 0) ∧ ((s.2.1 41 (v2 - 1).toNatClampNeg) = 0 → wpR_holds_62 post K8 s v1 v2 v3 (v2 - 1) 1)))
def wpR_holds_8 (post : Int32 → RSt → Prop) (s : RSt) (v1 : Int32) (v2 : Int32) (v3 : Int32) : Prop := gLP (fun (K : RSt × Int32 × Int32 × Int32 → Prop) (x : RSt × Int32 × Int32 × Int32) => wpR_holds_8_F post (fun s v1 v2 v3 => K (s, v1, v2, v3)) x.1 x.2.1 x.2.2.1 x.2.2.2) (s, v1, v2, v3)
def wpR_holds_0 (post : Int32 → RSt → Prop) (s : RSt) (v1 : Int32) : Prop := wpR_holds_8 post s v1 0 (400 * v1)
theorem wkR_holds_226 {X : gT} {G : rG} {A : Nat → Prop} {H0 : Heap} {Q : State → Prop} (C : rC X cX8_holds 5 G A) (hsz : H0 = (g_s X).heap) (hR : 2 ≤ (g_R X).frames ∧ 47 ≤ (g_R X).locals) {post : Int32 → RSt → Prop} (hret : ∀ (r : Int32) (τ : RSt) (lv : List (Nat × Value)) (pc : Nat), post r τ → narrow .boolean (.int r) = .int r → decode cX8_holds pc = .ok (.ireturn, 1) → gJ X (rWd G A H0) Q 0 0 τ lv pc [.int r]) {K8 : RSt → Int32 → Int32 → Int32 → Prop} (hK8 : ∀ (s : RSt) (v1 : Int32) (v2 : Int32) (v3 : Int32), K8 s v1 v2 v3 → gJ X (rWd G A H0) Q 0 0 s [(0, .ref (G.2.2.1 0)), (1, .int v1), (2, .int v2), (3, .int v3)] 8 []) (s : RSt) (v1 : Int32) (v2 : Int32) (v3 : Int32) (hw : wpR_holds_226 post K8 s v1 v2 v3) : gJ X (rWd G A H0) Q 0 0 s [(0, .ref (G.2.2.1 0)), (1, .int v1), (2, .int v2), (3, .int v3)] 226 [] := by
  refine g_iinc (v := v3 + 1) (lv' := [(3, .int (v3 + 1)), (0, .ref (G.2.2.1 0)), (1, .int v1), (2, .int v2)]) C.1 3 dX8_holds_226 rfl rfl (by decide) rfl ?_
  refine g_goto (tgt := 8) C.1 dX8_holds_229 (by decide) ?_
  refine gJ.sub [1, 2, 3, 0] rfl ?_
  exact hK8 _ _ _ _ hw
theorem wkR_holds_150 {X : gT} {G : rG} {A : Nat → Prop} {H0 : Heap} {Q : State → Prop} (C : rC X cX8_holds 5 G A) (hsz : H0 = (g_s X).heap) (hR : 2 ≤ (g_R X).frames ∧ 47 ≤ (g_R X).locals) {post : Int32 → RSt → Prop} (hret : ∀ (r : Int32) (τ : RSt) (lv : List (Nat × Value)) (pc : Nat), post r τ → narrow .boolean (.int r) = .int r → decode cX8_holds pc = .ok (.ireturn, 1) → gJ X (rWd G A H0) Q 0 0 τ lv pc [.int r]) {K8 : RSt → Int32 → Int32 → Int32 → Prop} (hK8 : ∀ (s : RSt) (v1 : Int32) (v2 : Int32) (v3 : Int32), K8 s v1 v2 v3 → gJ X (rWd G A H0) Q 0 0 s [(0, .ref (G.2.2.1 0)), (1, .int v1), (2, .int v2), (3, .int v3)] 8 []) (s : RSt) (v1 : Int32) (v2 : Int32) (v3 : Int32) (w1 : Int32) (w2 : Int32) (hw : wpR_holds_150 post K8 s v1 v2 v3 w1 w2) : gJ X (rWd G A H0) Q 0 0 s [(0, .ref (G.2.2.1 0)), (1, .int v1), (2, .int v2), (3, .int v3)] 150 [.int w2, .int w1, .ref (G.2.2.1 41)] := by
  refine r_st41 C hw.1 dX8_holds_150 ?_
  replace hw := hw.2
  refine gJ.nm (fun s1 es1 => ?_)
  replace hw := hw s1 es1
  refine g_goto (tgt := 226) C.1 dX8_holds_151 (by decide) ?_
  exact wkR_holds_226 C hsz hR hret hK8 _ _ _ _ hw
theorem wkR_holds_145 {X : gT} {G : rG} {A : Nat → Prop} {H0 : Heap} {Q : State → Prop} (C : rC X cX8_holds 5 G A) (hsz : H0 = (g_s X).heap) (hR : 2 ≤ (g_R X).frames ∧ 47 ≤ (g_R X).locals) {post : Int32 → RSt → Prop} (hret : ∀ (r : Int32) (τ : RSt) (lv : List (Nat × Value)) (pc : Nat), post r τ → narrow .boolean (.int r) = .int r → decode cX8_holds pc = .ok (.ireturn, 1) → gJ X (rWd G A H0) Q 0 0 τ lv pc [.int r]) {K8 : RSt → Int32 → Int32 → Int32 → Prop} (hK8 : ∀ (s : RSt) (v1 : Int32) (v2 : Int32) (v3 : Int32), K8 s v1 v2 v3 → gJ X (rWd G A H0) Q 0 0 s [(0, .ref (G.2.2.1 0)), (1, .int v1), (2, .int v2), (3, .int v3)] 8 []) (s : RSt) (v1 : Int32) (v2 : Int32) (v3 : Int32) (w1 : Int32) (hw : wpR_holds_145 post K8 s v1 v2 v3 w1) : gJ X (rWd G A H0) Q 0 0 s [(0, .ref (G.2.2.1 0)), (1, .int v1), (2, .int v2), (3, .int v3)] 145 [.int w1, .ref (G.2.2.1 41)] := by
  refine g_iconst (v := 1) C.1 dX8_holds_145 (by decide) ?_
  refine g_goto (tgt := 150) C.1 dX8_holds_146 (by decide) ?_
  exact wkR_holds_150 C hsz hR hret hK8 _ _ _ _ _ _ hw
theorem wkR_holds_121 {X : gT} {G : rG} {A : Nat → Prop} {H0 : Heap} {Q : State → Prop} (C : rC X cX8_holds 5 G A) (hsz : H0 = (g_s X).heap) (hR : 2 ≤ (g_R X).frames ∧ 47 ≤ (g_R X).locals) {post : Int32 → RSt → Prop} (hret : ∀ (r : Int32) (τ : RSt) (lv : List (Nat × Value)) (pc : Nat), post r τ → narrow .boolean (.int r) = .int r → decode cX8_holds pc = .ok (.ireturn, 1) → gJ X (rWd G A H0) Q 0 0 τ lv pc [.int r]) {K8 : RSt → Int32 → Int32 → Int32 → Prop} (hK8 : ∀ (s : RSt) (v1 : Int32) (v2 : Int32) (v3 : Int32), K8 s v1 v2 v3 → gJ X (rWd G A H0) Q 0 0 s [(0, .ref (G.2.2.1 0)), (1, .int v1), (2, .int v2), (3, .int v3)] 8 []) (s : RSt) (v1 : Int32) (v2 : Int32) (v3 : Int32) (w1 : Int32) (hw : wpR_holds_121 post K8 s v1 v2 v3 w1) : gJ X (rWd G A H0) Q 0 0 s [(0, .ref (G.2.2.1 0)), (1, .int v1), (2, .int v2), (3, .int v3)] 121 [.int w1, .ref (G.2.2.1 41)] := by
  refine g_iconst (v := 0) C.1 dX8_holds_121 (by decide) ?_
  refine g_goto (tgt := 150) C.1 dX8_holds_122 (by decide) ?_
  exact wkR_holds_150 C hsz hR hret hK8 _ _ _ _ _ _ hw
theorem wkR_holds_80 {X : gT} {G : rG} {A : Nat → Prop} {H0 : Heap} {Q : State → Prop} (C : rC X cX8_holds 5 G A) (hsz : H0 = (g_s X).heap) (hR : 2 ≤ (g_R X).frames ∧ 47 ≤ (g_R X).locals) {post : Int32 → RSt → Prop} (hret : ∀ (r : Int32) (τ : RSt) (lv : List (Nat × Value)) (pc : Nat), post r τ → narrow .boolean (.int r) = .int r → decode cX8_holds pc = .ok (.ireturn, 1) → gJ X (rWd G A H0) Q 0 0 τ lv pc [.int r]) {K8 : RSt → Int32 → Int32 → Int32 → Prop} (hK8 : ∀ (s : RSt) (v1 : Int32) (v2 : Int32) (v3 : Int32), K8 s v1 v2 v3 → gJ X (rWd G A H0) Q 0 0 s [(0, .ref (G.2.2.1 0)), (1, .int v1), (2, .int v2), (3, .int v3)] 8 []) (s : RSt) (v1 : Int32) (v2 : Int32) (v3 : Int32) (v4 : Int32) (hw : wpR_holds_80 post K8 s v1 v2 v3 v4) : gJ X (rWd G A H0) Q 0 0 s [(0, .ref (G.2.2.1 0)), (1, .int v1), (2, .int v2), (3, .int v3), (4, .int v4)] 80 [] := by
  refine g_iinc (v := v2 + (-1)) (lv' := [(2, .int (v2 + (-1))), (0, .ref (G.2.2.1 0)), (1, .int v1), (3, .int v3), (4, .int v4)]) C.1 2 dX8_holds_80 rfl rfl (by decide) rfl ?_
  refine g_aload_n C.1 1 dX8_holds_83 rfl rfl ?_
  refine r_g41 C dX8_holds_84 ?_
  refine g_iload_n C.1 0 dX8_holds_87 rfl rfl ?_
  refine g_iconst (v := 1) C.1 dX8_holds_88 (by decide) ?_
  refine g_isub C.1 dX8_holds_89 ?_
  refine g_iload C.1 4 dX8_holds_90 rfl ?_
  refine g_bipush (v := 15) C.1 dX8_holds_92 (by decide) ?_
  refine g_icmp_ne (tgt := 125) C.1 dX8_holds_94 (by decide) (fun h2 => ?_) (fun h2 => ?_)
  · replace hw := hw.1 h2
    refine g_aload_n C.1 1 dX8_holds_125 rfl rfl ?_
    refine r_g41 C dX8_holds_126 ?_
    refine g_iload_n C.1 0 dX8_holds_129 rfl rfl ?_
    refine g_iconst (v := 1) C.1 dX8_holds_130 (by decide) ?_
    refine g_isub C.1 dX8_holds_131 ?_
    refine r_ld41 C hw.1 dX8_holds_132 ?_
    replace hw := hw.2
    refine g_if_ne (tgt := 145) C.1 dX8_holds_133 (by decide) (fun h3 => ?_) (fun h3 => ?_)
    · replace hw := hw.1 h3
      refine gJ.sub [1, 2, 0, 3] rfl ?_
      exact wkR_holds_145 C hsz hR hret hK8 _ _ _ _ _ hw
    · replace hw := hw.2 h3
      refine g_aload_n C.1 1 dX8_holds_136 rfl rfl ?_
      refine r_g41 C dX8_holds_137 ?_
      refine g_iload_n C.1 0 dX8_holds_140 rfl rfl ?_
      refine r_ld41 C hw.1 dX8_holds_141 ?_
      replace hw := hw.2
      refine g_if_eq (tgt := 149) C.1 dX8_holds_142 (by decide) (fun h4 => ?_) (fun h4 => ?_)
      · replace hw := hw.1 h4
        refine g_iconst (v := 0) C.1 dX8_holds_149 (by decide) ?_
        refine gJ.sub [1, 2, 0, 3] rfl ?_
        exact wkR_holds_150 C hsz hR hret hK8 _ _ _ _ _ _ hw
      · replace hw := hw.2 h4
        refine gJ.sub [1, 2, 0, 3] rfl ?_
        exact wkR_holds_145 C hsz hR hret hK8 _ _ _ _ _ hw
  · replace hw := hw.2 h2
    refine g_aload_n C.1 1 dX8_holds_97 rfl rfl ?_
    refine r_g41 C dX8_holds_98 ?_
    refine g_iload_n C.1 0 dX8_holds_101 rfl rfl ?_
    refine g_iconst (v := 1) C.1 dX8_holds_102 (by decide) ?_
    refine g_isub C.1 dX8_holds_103 ?_
    refine r_ld41 C hw.1 dX8_holds_104 ?_
    replace hw := hw.2
    refine g_if_eq (tgt := 121) C.1 dX8_holds_105 (by decide) (fun h5 => ?_) (fun h5 => ?_)
    · replace hw := hw.1 h5
      refine gJ.sub [1, 2, 0, 3] rfl ?_
      exact wkR_holds_121 C hsz hR hret hK8 _ _ _ _ _ hw
    · replace hw := hw.2 h5
      refine g_aload_n C.1 1 dX8_holds_108 rfl rfl ?_
      refine r_g41 C dX8_holds_109 ?_
      refine g_iload_n C.1 0 dX8_holds_112 rfl rfl ?_
      refine r_ld41 C hw.1 dX8_holds_113 ?_
      replace hw := hw.2
      refine g_if_eq (tgt := 121) C.1 dX8_holds_114 (by decide) (fun h6 => ?_) (fun h6 => ?_)
      · replace hw := hw.1 h6
        refine gJ.sub [1, 2, 0, 3] rfl ?_
        exact wkR_holds_121 C hsz hR hret hK8 _ _ _ _ _ hw
      · replace hw := hw.2 h6
        refine g_iconst (v := 1) C.1 dX8_holds_117 (by decide) ?_
        refine g_goto (tgt := 150) C.1 dX8_holds_118 (by decide) ?_
        refine gJ.sub [1, 2, 0, 3] rfl ?_
        exact wkR_holds_150 C hsz hR hret hK8 _ _ _ _ _ _ hw
theorem wkR_holds_222 {X : gT} {G : rG} {A : Nat → Prop} {H0 : Heap} {Q : State → Prop} (C : rC X cX8_holds 5 G A) (hsz : H0 = (g_s X).heap) (hR : 2 ≤ (g_R X).frames ∧ 47 ≤ (g_R X).locals) {post : Int32 → RSt → Prop} (hret : ∀ (r : Int32) (τ : RSt) (lv : List (Nat × Value)) (pc : Nat), post r τ → narrow .boolean (.int r) = .int r → decode cX8_holds pc = .ok (.ireturn, 1) → gJ X (rWd G A H0) Q 0 0 τ lv pc [.int r]) {K8 : RSt → Int32 → Int32 → Int32 → Prop} (hK8 : ∀ (s : RSt) (v1 : Int32) (v2 : Int32) (v3 : Int32), K8 s v1 v2 v3 → gJ X (rWd G A H0) Q 0 0 s [(0, .ref (G.2.2.1 0)), (1, .int v1), (2, .int v2), (3, .int v3)] 8 []) (s : RSt) (v1 : Int32) (v2 : Int32) (v3 : Int32) (w1 : Int32) (w2 : Int32) (hw : wpR_holds_222 post K8 s v1 v2 v3 w1 w2) : gJ X (rWd G A H0) Q 0 0 s [(0, .ref (G.2.2.1 0)), (1, .int v1), (2, .int v2), (3, .int v3)] 222 [.int w2, .int w1, .ref (G.2.2.1 41)] := by
  refine r_st41 C hw.1 dX8_holds_222 ?_
  replace hw := hw.2
  refine gJ.nm (fun s7 es7 => ?_)
  replace hw := hw s7 es7
  refine g_iinc (v := v2 + 1) (lv' := [(2, .int (v2 + 1)), (0, .ref (G.2.2.1 0)), (1, .int v1), (3, .int v3)]) C.1 2 dX8_holds_223 rfl rfl (by decide) rfl ?_
  refine gJ.sub [1, 2, 0, 3] rfl ?_
  exact wkR_holds_226 C hsz hR hret hK8 _ _ _ _ hw
theorem wkR_holds_62 {X : gT} {G : rG} {A : Nat → Prop} {H0 : Heap} {Q : State → Prop} (C : rC X cX8_holds 5 G A) (hsz : H0 = (g_s X).heap) (hR : 2 ≤ (g_R X).frames ∧ 47 ≤ (g_R X).locals) {post : Int32 → RSt → Prop} (hret : ∀ (r : Int32) (τ : RSt) (lv : List (Nat × Value)) (pc : Nat), post r τ → narrow .boolean (.int r) = .int r → decode cX8_holds pc = .ok (.ireturn, 1) → gJ X (rWd G A H0) Q 0 0 τ lv pc [.int r]) {K8 : RSt → Int32 → Int32 → Int32 → Prop} (hK8 : ∀ (s : RSt) (v1 : Int32) (v2 : Int32) (v3 : Int32), K8 s v1 v2 v3 → gJ X (rWd G A H0) Q 0 0 s [(0, .ref (G.2.2.1 0)), (1, .int v1), (2, .int v2), (3, .int v3)] 8 []) (s : RSt) (v1 : Int32) (v2 : Int32) (v3 : Int32) (w1 : Int32) (w2 : Int32) (hw : wpR_holds_62 post K8 s v1 v2 v3 w1 w2) : gJ X (rWd G A H0) Q 0 0 s [(0, .ref (G.2.2.1 0)), (1, .int v1), (2, .int v2), (3, .int v3)] 62 [.int w2, .int w1, .ref (G.2.2.1 41)] := by
  refine r_st41 C hw.1 dX8_holds_62 ?_
  replace hw := hw.2
  refine gJ.nm (fun s8 es8 => ?_)
  replace hw := hw s8 es8
  refine g_goto (tgt := 226) C.1 dX8_holds_63 (by decide) ?_
  exact wkR_holds_226 C hsz hR hret hK8 _ _ _ _ hw
theorem wkR_holds_8_F {X : gT} {G : rG} {A : Nat → Prop} {H0 : Heap} {Q : State → Prop} (C : rC X cX8_holds 5 G A) (hsz : H0 = (g_s X).heap) (hR : 2 ≤ (g_R X).frames ∧ 47 ≤ (g_R X).locals) {post : Int32 → RSt → Prop} (hret : ∀ (r : Int32) (τ : RSt) (lv : List (Nat × Value)) (pc : Nat), post r τ → narrow .boolean (.int r) = .int r → decode cX8_holds pc = .ok (.ireturn, 1) → gJ X (rWd G A H0) Q 0 0 τ lv pc [.int r]) {K8 : RSt → Int32 → Int32 → Int32 → Prop} (hK8 : ∀ (s : RSt) (v1 : Int32) (v2 : Int32) (v3 : Int32), K8 s v1 v2 v3 → gJ X (rWd G A H0) Q 0 0 s [(0, .ref (G.2.2.1 0)), (1, .int v1), (2, .int v2), (3, .int v3)] 8 []) (s : RSt) (v1 : Int32) (v2 : Int32) (v3 : Int32) (hw : wpR_holds_8_F post K8 s v1 v2 v3) : gJ X (rWd G A H0) Q 0 0 s [(0, .ref (G.2.2.1 0)), (1, .int v1), (2, .int v2), (3, .int v3)] 8 [] := by
  refine g_iload_n C.1 3 dX8_holds_8 rfl rfl ?_
  refine g_sipush (v := 400) C.1 dX8_holds_9 (by decide) ?_
  refine g_iload_n C.1 1 dX8_holds_12 rfl rfl ?_
  refine g_imul C.1 dX8_holds_13 ?_
  refine g_aload_n C.1 0 dX8_holds_14 rfl rfl ?_
  refine r_g17 C dX8_holds_15 ?_
  refine g_iload_n C.1 1 dX8_holds_18 rfl rfl ?_
  refine r_ld17 C hw.1 dX8_holds_19 ?_
  replace hw := hw.2
  refine g_iadd C.1 dX8_holds_20 ?_
  refine g_icmp_ge (tgt := 232) C.1 dX8_holds_21 (by decide) (fun h9 => ?_) (fun h9 => ?_)
  · replace hw := hw.1 h9
    refine g_aload_n C.1 0 dX8_holds_232 rfl rfl ?_
    refine r_g41 C dX8_holds_233 ?_
    refine g_iconst (v := 0) C.1 dX8_holds_236 (by decide) ?_
    refine r_ld41 C hw.1 dX8_holds_237 ?_
    replace hw := hw.2
    exact hret _ _ _ _ hw.2 hw.1 dX8_holds_238
  · replace hw := hw.2 h9
    refine g_aload_n C.1 0 dX8_holds_24 rfl rfl ?_
    refine r_g15 C dX8_holds_25 ?_
    refine g_iload_n C.1 3 dX8_holds_28 rfl rfl ?_
    refine r_ld15 C hw.1 dX8_holds_29 ?_
    replace hw := hw.2
    refine g_istore (lv' := [(4, .int (s.2.1 15 v3.toNatClampNeg)), (0, .ref (G.2.2.1 0)), (1, .int v1), (2, .int v2), (3, .int v3)]) C.1 dX8_holds_30 (by decide) rfl ?_
    refine g_iload C.1 0 dX8_holds_32 rfl ?_
    refine g_bipush (v := 14) C.1 dX8_holds_34 (by decide) ?_
    refine g_icmp_ne (tgt := 66) C.1 dX8_holds_36 (by decide) (fun h10 => ?_) (fun h10 => ?_)
    · replace hw := hw.1 h10
      refine g_iload C.1 0 dX8_holds_66 rfl ?_
      refine g_bipush (v := 15) C.1 dX8_holds_68 (by decide) ?_
      refine g_icmp_eq (tgt := 80) C.1 dX8_holds_70 (by decide) (fun h11 => ?_) (fun h11 => ?_)
      · replace hw := hw.1 h11
        refine gJ.sub [1, 2, 3, 4, 0] rfl ?_
        exact wkR_holds_80 C hsz hR hret hK8 _ _ _ _ _ hw
      · replace hw := hw.2 h11
        refine g_iload C.1 0 dX8_holds_73 rfl ?_
        refine g_bipush (v := 16) C.1 dX8_holds_75 (by decide) ?_
        refine g_icmp_ne (tgt := 154) C.1 dX8_holds_77 (by decide) (fun h12 => ?_) (fun h12 => ?_)
        · replace hw := hw.1 h12
          refine g_aload_n C.1 1 dX8_holds_154 rfl rfl ?_
          refine r_g41 C dX8_holds_155 ?_
          refine g_iload_n C.1 3 dX8_holds_158 rfl rfl ?_
          refine g_iload C.1 0 dX8_holds_159 rfl ?_
          refine g_bipush (v := 12) C.1 dX8_holds_161 (by decide) ?_
          refine g_icmp_ne (tgt := 180) C.1 dX8_holds_163 (by decide) (fun h13 => ?_) (fun h13 => ?_)
          · replace hw := hw.1 h13
            refine g_iload C.1 0 dX8_holds_180 rfl ?_
            refine g_bipush (v := 13) C.1 dX8_holds_182 (by decide) ?_
            refine g_icmp_ne (tgt := 200) C.1 dX8_holds_184 (by decide) (fun h14 => ?_) (fun h14 => ?_)
            · replace hw := hw.1 h14
              refine g_aload_n C.1 1 dX8_holds_200 rfl rfl ?_
              refine g_iload_n C.1 2 dX8_holds_201 rfl rfl ?_
              refine g_iload C.1 0 dX8_holds_202 rfl ?_
              refine g_iconst (v := 3) C.1 dX8_holds_204 (by decide) ?_
              refine g_idiv C.1 dX8_holds_205 (by decide) ?_
              refine r_calli C hsz (cR_measure (g_l X) G s _ _ _ hw) kR_203 kR_204 kR_205 kR_198 hdR_measure ⟨Nat.le_trans (Nat.le_of_ble_eq_true rfl) hR.1, Nat.le_trans (Nat.le_of_ble_eq_true rfl) hR.2⟩ dX8_holds_206 rfl (Nat.le_of_ble_eq_true rfl) (fun r16 s15 hw => ?_)
              refine g_iload C.1 0 dX8_holds_209 rfl ?_
              refine g_iconst (v := 3) C.1 dX8_holds_211 (by decide) ?_
              refine g_irem C.1 dX8_holds_212 (by decide) ?_
              refine g_aload_n C.1 1 dX8_holds_213 rfl rfl ?_
              refine r_g16 C dX8_holds_214 ?_
              refine g_iload_n C.1 4 dX8_holds_217 rfl rfl ?_
              refine r_ld16 C hw.1 dX8_holds_218 ?_
              replace hw := hw.2
              refine g_callSi (rC.s C) (cR_compares (g_l X) _ _ _ _ hw) kR_206 kR_207 kR_199 hdR_compares ⟨Nat.le_trans (Nat.le_of_ble_eq_true rfl) hR.1, Nat.le_trans (Nat.le_of_ble_eq_true rfl) hR.2⟩ dX8_holds_219 rfl (Nat.le_of_ble_eq_true rfl) (fun r17 hw => ?_)
              refine gJ.sub [1, 2, 3, 4] rfl ?_
              exact wkR_holds_222 C hsz hR hret hK8 _ _ _ _ _ _ hw
            · replace hw := hw.2 h14
              refine g_aload_n C.1 1 dX8_holds_187 rfl rfl ?_
              refine g_aload_n C.1 1 dX8_holds_188 rfl rfl ?_
              refine r_g16 C dX8_holds_189 ?_
              refine g_iload_n C.1 4 dX8_holds_192 rfl rfl ?_
              refine r_ld16 C hw.1 dX8_holds_193 ?_
              replace hw := hw.2
              refine r_calli C hsz (cR_isRunning (g_l X) G s _ _ hw) kR_200 kR_201 kR_202 kR_72 hdR_isRunning ⟨Nat.le_trans (Nat.le_of_ble_eq_true rfl) hR.1, Nat.le_trans (Nat.le_of_ble_eq_true rfl) hR.2⟩ dX8_holds_194 rfl (Nat.le_of_ble_eq_true rfl) (fun r19 s18 hw => ?_)
              refine g_goto (tgt := 222) C.1 dX8_holds_197 (by decide) ?_
              refine gJ.sub [1, 2, 3, 4] rfl ?_
              exact wkR_holds_222 C hsz hR hret hK8 _ _ _ _ _ _ hw
          · replace hw := hw.2 h13
            refine g_aload_n C.1 1 dX8_holds_166 rfl rfl ?_
            refine r_g40 C dX8_holds_167 ?_
            refine g_aload_n C.1 1 dX8_holds_170 rfl rfl ?_
            refine r_g16 C dX8_holds_171 ?_
            refine g_iload_n C.1 4 dX8_holds_174 rfl rfl ?_
            refine r_ld16 C hw.1 dX8_holds_175 ?_
            replace hw := hw.2
            refine r_ld40 C hw.1 dX8_holds_176 ?_
            replace hw := hw.2
            refine g_goto (tgt := 222) C.1 dX8_holds_177 (by decide) ?_
            refine gJ.sub [1, 2, 3, 4] rfl ?_
            exact wkR_holds_222 C hsz hR hret hK8 _ _ _ _ _ _ hw
        · replace hw := hw.2 h12
          refine gJ.sub [1, 2, 3, 4, 0] rfl ?_
          exact wkR_holds_80 C hsz hR hret hK8 _ _ _ _ _ hw
    · replace hw := hw.2 h10
      refine g_aload_n C.1 1 dX8_holds_39 rfl rfl ?_
      refine r_g41 C dX8_holds_40 ?_
      refine g_iload_n C.1 3 dX8_holds_43 rfl rfl ?_
      refine g_iconst (v := 1) C.1 dX8_holds_44 (by decide) ?_
      refine g_isub C.1 dX8_holds_45 ?_
      refine g_aload_n C.1 1 dX8_holds_46 rfl rfl ?_
      refine r_g41 C dX8_holds_47 ?_
      refine g_iload_n C.1 3 dX8_holds_50 rfl rfl ?_
      refine g_iconst (v := 1) C.1 dX8_holds_51 (by decide) ?_
      refine g_isub C.1 dX8_holds_52 ?_
      refine r_ld41 C hw.1 dX8_holds_53 ?_
      replace hw := hw.2
      refine g_if_ne (tgt := 61) C.1 dX8_holds_54 (by decide) (fun h20 => ?_) (fun h20 => ?_)
      · replace hw := hw.1 h20
        refine g_iconst (v := 0) C.1 dX8_holds_61 (by decide) ?_
        refine gJ.sub [1, 2, 3, 4] rfl ?_
        exact wkR_holds_62 C hsz hR hret hK8 _ _ _ _ _ _ hw
      · replace hw := hw.2 h20
        refine g_iconst (v := 1) C.1 dX8_holds_57 (by decide) ?_
        refine g_goto (tgt := 62) C.1 dX8_holds_58 (by decide) ?_
        refine gJ.sub [1, 2, 3, 4] rfl ?_
        exact wkR_holds_62 C hsz hR hret hK8 _ _ _ _ _ _ hw
theorem wkR_holds_8 {X : gT} {G : rG} {A : Nat → Prop} {H0 : Heap} {Q : State → Prop} (C : rC X cX8_holds 5 G A) (hsz : H0 = (g_s X).heap) (hR : 2 ≤ (g_R X).frames ∧ 47 ≤ (g_R X).locals) {post : Int32 → RSt → Prop} (hret : ∀ (r : Int32) (τ : RSt) (lv : List (Nat × Value)) (pc : Nat), post r τ → narrow .boolean (.int r) = .int r → decode cX8_holds pc = .ok (.ireturn, 1) → gJ X (rWd G A H0) Q 0 0 τ lv pc [.int r]) (s : RSt) (v1 : Int32) (v2 : Int32) (v3 : Int32) (hw : wpR_holds_8 post s v1 v2 v3) : gJ X (rWd G A H0) Q 0 0 s [(0, .ref (G.2.2.1 0)), (1, .int v1), (2, .int v2), (3, .int v3)] 8 [] := 
  hw (fun (x : RSt × Int32 × Int32 × Int32) => (fun s v1 v2 v3 => gJ X (rWd G A H0) Q 0 0 s [(0, .ref (G.2.2.1 0)), (1, .int v1), (2, .int v2), (3, .int v3)] 8 []) x.1 x.2.1 x.2.2.1 x.2.2.2) (fun x hx => wkR_holds_8_F C hsz hR hret (K8 := (fun s v1 v2 v3 => gJ X (rWd G A H0) Q 0 0 s [(0, .ref (G.2.2.1 0)), (1, .int v1), (2, .int v2), (3, .int v3)] 8 [])) (fun _ _ _ _ h => h) x.1 x.2.1 x.2.2.1 x.2.2.2 hx)
theorem wkR_holds_0 {X : gT} {G : rG} {A : Nat → Prop} {H0 : Heap} {Q : State → Prop} (C : rC X cX8_holds 5 G A) (hsz : H0 = (g_s X).heap) (hR : 2 ≤ (g_R X).frames ∧ 47 ≤ (g_R X).locals) {post : Int32 → RSt → Prop} (hret : ∀ (r : Int32) (τ : RSt) (lv : List (Nat × Value)) (pc : Nat), post r τ → narrow .boolean (.int r) = .int r → decode cX8_holds pc = .ok (.ireturn, 1) → gJ X (rWd G A H0) Q 0 0 τ lv pc [.int r]) (s : RSt) (v1 : Int32) (hw : wpR_holds_0 post s v1) : gJ X (rWd G A H0) Q 0 0 s [(0, .ref (G.2.2.1 0)), (1, .int v1)] 0 [] := by
  refine g_iconst (v := 0) C.1 dX8_holds_0 (by decide) ?_
  refine g_istore_n (lv' := [(2, .int 0), (0, .ref (G.2.2.1 0)), (1, .int v1)]) C.1 dX8_holds_1 rfl (by decide) rfl ?_
  refine g_sipush (v := 400) C.1 dX8_holds_2 (by decide) ?_
  refine g_iload_n C.1 2 dX8_holds_5 rfl rfl ?_
  refine g_imul C.1 dX8_holds_6 ?_
  refine g_istore_n (lv' := [(3, .int (400 * v1)), (2, .int 0), (0, .ref (G.2.2.1 0)), (1, .int v1)]) C.1 dX8_holds_7 rfl (by decide) rfl ?_
  refine gJ.sub [2, 3, 1, 0] rfl ?_
  exact wkR_holds_8 C hsz hR hret _ _ _ _ hw
theorem hdR_holds : yX8_holds.cls = RX8 ∧ yX8_holds.cls ≠ "java/lang/invoke/MethodHandle" ∧ yX8_holds.cls ≠ "java/lang/invoke/VarHandle" ∧ (parseMethodDescriptor yX8_holds.desc).map (fun d => d.parameters.length) = some 1 := by decide +kernel
theorem cR_holds (l : Launch) (G : rG) (s : RSt) (v1 : Int32) (post : Int32 → RSt → Prop) (hw : wpR_holds_0 post s v1) : rMi l yX8_holds cX8_holds 5 .boolean 2 47 G s [.int v1] post := rMi_of (by decide +kernel) rfl (Nat.le_of_ble_eq_true rfl) (fun X A H0 Q hl hR hsz C hret => wkR_holds_0 C hsz hR hret s v1 hw)
