def wpC_J7_copyOf_1904c_0 (post : Option Nat → CSt → Prop) (s : CSt) (v0 : Nat) (v1 : Int32) : Prop := cAt s 10 v0 ∧ wpC_J7_copyOf_6403c_0 (fun r2 s1 => post r2 s1) s v0 v1 ((cZ s).2)
theorem wkC_J7_copyOf_1904c_0 {X : gT} {G : cG} {A : Nat → Prop} {H0 : Heap} {Q : State → Prop} (C : cC X cJ7_copyOf_1904c 2 RJ7 G A) (hsz : H0 = (g_s X).heap) (hR : 2 ≤ (g_R X).frames ∧ 83 ≤ (g_R X).locals ∧ 1 ≤ (g_R X).cells ∧ 109 ≤ (g_R X).slots) {post : Option Nat → CSt → Prop} (hret : ∀ (r : Option Nat) (τ : CSt) (lv : List (Nat × Value)) (pc : Nat), post r τ → decode cJ7_copyOf_1904c pc = .ok (.areturn, 1) → gJ X (cWd G A H0) Q 1 109 τ lv pc [va_rf r]) (s : CSt) (v0 : Nat) (v1 : Int32) (hw : wpC_J7_copyOf_1904c_0 post s v0 v1) : gJ X (cWd G A H0) Q 0 0 s [(0, .ref v0), (1, .int v1)] 0 [] := by
  refine g_aload_n C.1 0 dJ7_copyOf_1904c_0 rfl rfl ?_
  refine g_iload_n C.1 1 dJ7_copyOf_1904c_1 rfl rfl ?_
  refine g_aload_n C.1 0 dJ7_copyOf_1904c_2 rfl rfl ?_
  refine c_getC C hw.1 kC_191 kC_192 kC_193 kC_194 (Nat.le_trans (Nat.le_of_ble_eq_true rfl) hR.1) (Nat.le_trans (Nat.le_of_ble_eq_true rfl) hR.2.1) dJ7_copyOf_1904c_3 ?_
  replace hw := hw.2
  refine c_callSq (vs := [.ref v0, .int v1, .ref ((cZ s).2)]) C hsz (cC_J7_copyOf_6403c (g_l X) G s _ _ _ _ hw) kC_189 kC_195 kC_196 kC_197 hdC_J7_copyOf_6403c ⟨(Nat.le_trans (Nat.le_of_ble_eq_true rfl) hR.1), (Nat.le_trans (Nat.le_of_ble_eq_true rfl) hR.2.1)⟩ ⟨(Nat.le_trans (Nat.le_of_ble_eq_true rfl) hR.2.2.1), (Nat.le_trans (Nat.le_of_ble_eq_true rfl) hR.2.2.2)⟩ dJ7_copyOf_1904c_6 rfl (Nat.le_of_ble_eq_true rfl) (fun r2 s1 hw => ?_)
  exact hret r2 _ _ _ hw dJ7_copyOf_1904c_9
theorem hdC_J7_copyOf_1904c : yJ7_copyOf_1904c.cls = RJ7 ∧ yJ7_copyOf_1904c.cls ≠ "java/lang/invoke/MethodHandle" ∧ yJ7_copyOf_1904c.cls ≠ "java/lang/invoke/VarHandle" ∧ (parseMethodDescriptor yJ7_copyOf_1904c.desc).map (fun d => d.parameters.length) = some 2 := by decide +kernel
theorem cC_J7_copyOf_1904c (l : Launch) (G : cG) (s : CSt) (v0 : Nat) (v1 : Int32) (post : Option Nat → CSt → Prop) (hw : wpC_J7_copyOf_1904c_0 post s v0 v1) : cMq l yJ7_copyOf_1904c cJ7_copyOf_1904c 2 (.array (.object "java/lang/Object")) 2 83 1 109 G s [.ref v0, .int v1] post := cMq_of (by decide +kernel) rfl (by first | exact Or.inl ⟨_, rfl⟩ | exact Or.inr ⟨_, rfl⟩) (Nat.le_of_ble_eq_true rfl) (fun X A H0 Q hl hR hsz hnm C hret => wkC_J7_copyOf_1904c_0 C hsz hR hret s v0 v1 hw)
def wpC_Jx4a65c_grow_92f84_20 (mc ms : Nat) (post : Option Nat → CSt → Prop) (s : CSt) (k : Nat) (n : Nat) (v0 : Nat) (v1 : Int32) (v2 : Int32) : Prop := wpC_J8_newLength_cabcc_0 (fun r2 s1 => cAt s1 0 v0 ∧ ∃ a3 : Nat, cR s1 1 v0 = some a3 ∧ k + 1 ≤ mc ∧ n + 109 ≤ ms ∧ wpC_J7_copyOf_1904c_0 (fun r6 s4 => cAt s4 0 v0 ∧ ∀ s7 : CSt, s7 = csR s4 1 v0 r6 → k + 1 ≤ mc ∧ n + 109 ≤ ms ∧ post r6 s7) s1 a3 r2) s v2 (v1 - v2) (v2 >>> (1 &&& 31))
def wpC_Jx4a65c_grow_92f84_0 (mc ms : Nat) (post : Option Nat → CSt → Prop) (s : CSt) (v0 : Nat) (v1 : Int32) : Prop := cAt s 0 v0 ∧ ∃ a8 : Nat, cR s 1 v0 = some a8 ∧ (a8 = (cZ s).1 ∨ (a8 ≠ (cZ s).1 ∧ cAt s 10 a8)) ∧ (0 < (nI (cNq s a8)) → wpC_Jx4a65c_grow_92f84_20 mc ms post s 0 0 v0 v1 (nI (cNq s a8))) ∧ (¬ 0 < (nI (cNq s a8)) → cAt s 0 v0 ∧ ∃ a10 : Nat, cR s 1 v0 = some a10 ∧ (a10 = ((cZ s).1) → ∀ x11 : Int32, x11 = (if 10 < v1 then v1 else 10) → 0 + 1 ≤ mc ∧ 0 + 109 ≤ ms ∧ ¬ x11 < 0 ∧ x11.toNatClampNeg ≤ 109 ∧ ∀ q12 : Nat, q12 ∉ cL s → q12 ≠ (cZ s).1 → ∀ s13 : CSt, s13 = csA s q12 10 x11.toNatClampNeg → cAt s13 0 v0 ∧ ∀ s15 : CSt, s15 = csR s13 1 v0 (some q12) → 0 + 1 ≤ mc ∧ 0 + 109 ≤ ms ∧ post (some q12) s15) ∧ (¬ a10 = ((cZ s).1) → wpC_Jx4a65c_grow_92f84_20 mc ms post s 0 0 v0 v1 (nI (cNq s a8))))
theorem wkC_Jx4a65c_grow_92f84_20 {mc ms : Nat} {X : gT} {G : cG} {A : Nat → Prop} {H0 : Heap} {Q : State → Prop} (C : cC X cJx4a65c_grow_92f84 4 RJx4a65c G A) (hsz : H0 = (g_s X).heap) (hR : 3 ≤ (g_R X).frames ∧ 104 ≤ (g_R X).locals ∧ mc ≤ (g_R X).cells ∧ ms ≤ (g_R X).slots) {post : Option Nat → CSt → Prop} (hret : ∀ (r : Option Nat) (τ : CSt) (lv : List (Nat × Value)) (pc : Nat), post r τ → decode cJx4a65c_grow_92f84 pc = .ok (.areturn, 1) → gJ X (cWd G A H0) Q mc ms τ lv pc [va_rf r]) (s : CSt) (k : Nat) (n : Nat) (v0 : Nat) (v1 : Int32) (v2 : Int32) (hk : k ≤ mc ∧ n ≤ ms) (hw : wpC_Jx4a65c_grow_92f84_20 mc ms post s k n v0 v1 v2) : gJ X (cWd G A H0) Q k n s [(0, .ref v0), (1, .int v1), (2, .int v2)] 20 [] := by
  refine g_iload_n C.1 2 dJx4a65c_grow_92f84_20 rfl rfl ?_
  refine g_iload_n C.1 1 dJx4a65c_grow_92f84_21 rfl rfl ?_
  refine g_iload_n C.1 2 dJx4a65c_grow_92f84_22 rfl rfl ?_
  refine g_isub C.1 dJx4a65c_grow_92f84_23 ?_
  refine g_iload_n C.1 2 dJx4a65c_grow_92f84_24 rfl rfl ?_
  refine g_iconst (v := 1) C.1 dJx4a65c_grow_92f84_25 (by decide) ?_
  refine g_ishr C.1 dJx4a65c_grow_92f84_26 ?_
  refine c_callSi (vs := [.int v2, .int (v1 - v2), .int (v2 >>> (1 &&& 31))]) C hsz (cC_J8_newLength_cabcc (g_l X) G s _ _ _ _ hw) kC_180 kC_178 kC_179 kC_181 hdC_J8_newLength_cabcc ⟨(Nat.le_trans (Nat.le_of_ble_eq_true rfl) hR.1), (Nat.le_trans (Nat.le_of_ble_eq_true rfl) hR.2.1)⟩ ⟨Nat.le_trans hk.1 hR.2.2.1, Nat.le_trans hk.2 hR.2.2.2⟩ dJx4a65c_grow_92f84_27 rfl (Nat.le_of_ble_eq_true rfl) (fun r2 s1 hw => ?_)
  refine g_istore_n (lv' := [(3, .int r2), (0, .ref v0), (1, .int v1), (2, .int v2)]) C.1 dJx4a65c_grow_92f84_30 rfl (by decide) rfl ?_
  refine g_aload_n C.1 1 dJx4a65c_grow_92f84_31 rfl rfl ?_
  refine g_aload_n C.1 1 dJx4a65c_grow_92f84_32 rfl rfl ?_
  refine c_get0 C hw.1 1 (by decide) kC_32 (fun _ h => h) rfl dJx4a65c_grow_92f84_33 ?_
  replace hw := hw.2
  obtain ⟨a3, ha3, hw⟩ := hw
  rw [ha3]
  refine g_iload_n C.1 0 dJx4a65c_grow_92f84_36 rfl rfl ?_
  have hk5 : k + 1 ≤ mc ∧ n + 109 ≤ ms := ⟨hw.1, hw.2.1⟩
  replace hw := hw.2.2
  refine c_callSq (vs := [.ref a3, .int r2]) C hsz (cC_J7_copyOf_1904c (g_l X) G s1 _ _ _ hw) kC_189 kC_187 kC_188 kC_190 hdC_J7_copyOf_1904c ⟨(Nat.le_trans (Nat.le_of_ble_eq_true rfl) hR.1), (Nat.le_trans (Nat.le_of_ble_eq_true rfl) hR.2.1)⟩ ⟨Nat.le_trans hk5.1 hR.2.2.1, Nat.le_trans hk5.2 hR.2.2.2⟩ dJx4a65c_grow_92f84_37 rfl (Nat.le_of_ble_eq_true rfl) (fun r6 s4 hw => ?_)
  refine g_dup_x1 C.1 dJx4a65c_grow_92f84_40 (va_rf_cat _) rfl ?_
  refine c_put0 C (τ := csR s4 1 v0 r6) hw.1 1 (by decide) kC_32 (fun _ h => h) rfl (ty := .array (.object "java/lang/Object")) (by decide +kernel) (c_nqA _) (c_fqA _) rfl hw.1.2 rfl (cx_0_1 _ _ r6) (fun _ hb => csR_o hb) dJx4a65c_grow_92f84_41 ?_
  replace hw := hw.2
  refine gJ.nm (fun s7 es7 => ?_)
  replace hw := hw s7 es7
  refine gJ.widen hw.1 hw.2.1 ?_
  replace hw := hw.2.2
  exact hret r6 _ _ _ hw dJx4a65c_grow_92f84_44
theorem wkC_Jx4a65c_grow_92f84_0 {mc ms : Nat} {X : gT} {G : cG} {A : Nat → Prop} {H0 : Heap} {Q : State → Prop} (C : cC X cJx4a65c_grow_92f84 4 RJx4a65c G A) (hsz : H0 = (g_s X).heap) (hR : 3 ≤ (g_R X).frames ∧ 104 ≤ (g_R X).locals ∧ mc ≤ (g_R X).cells ∧ ms ≤ (g_R X).slots) {post : Option Nat → CSt → Prop} (hret : ∀ (r : Option Nat) (τ : CSt) (lv : List (Nat × Value)) (pc : Nat), post r τ → decode cJx4a65c_grow_92f84 pc = .ok (.areturn, 1) → gJ X (cWd G A H0) Q mc ms τ lv pc [va_rf r]) (s : CSt) (v0 : Nat) (v1 : Int32) (hw : wpC_Jx4a65c_grow_92f84_0 mc ms post s v0 v1) : gJ X (cWd G A H0) Q 0 0 s [(0, .ref v0), (1, .int v1)] 0 [] := by
  refine g_aload_n C.1 0 dJx4a65c_grow_92f84_0 rfl rfl ?_
  refine c_get0 C hw.1 1 (by decide) kC_32 (fun _ h => h) rfl dJx4a65c_grow_92f84_1 ?_
  replace hw := hw.2
  obtain ⟨a8, ha8, hw⟩ := hw
  rw [ha8]
  refine c_elen C hsz hw.1 dJx4a65c_grow_92f84_4 ?_
  replace hw := hw.2
  refine g_istore_n (lv' := [(2, .int (nI (cNq s a8))), (0, .ref v0), (1, .int v1)]) C.1 dJx4a65c_grow_92f84_5 rfl (by decide) rfl ?_
  refine g_iload_n C.1 0 dJx4a65c_grow_92f84_6 rfl rfl ?_
  refine g_if_gt (tgt := 20) C.1 dJx4a65c_grow_92f84_7 (by decide) (fun h9 => ?_) (fun h9 => ?_)
  · replace hw := hw.1 h9
    refine gJ.sub [1, 2, 0] rfl ?_
    exact wkC_Jx4a65c_grow_92f84_20 C hsz hR hret _ _ _ _ _ _ (k0_ mc ms) hw
  · replace hw := hw.2 h9
    refine g_aload_n C.1 1 dJx4a65c_grow_92f84_10 rfl rfl ?_
    refine c_get0 C hw.1 1 (by decide) kC_32 (fun _ h => h) rfl dJx4a65c_grow_92f84_11 ?_
    replace hw := hw.2
    obtain ⟨a10, ha10, hw⟩ := hw
    rw [ha10]
    refine c_empty C hsz kC_144 dJx4a65c_grow_92f84_14 ?_
    refine g_acmp_eq (rx := some a10) (ry := some ((cZ s).1)) (tgt := 45) C.1 dJx4a65c_grow_92f84_17 (by decide) (fun h16 => ?_) (fun h16 => ?_)
    · replace hw := hw.1 (Option.some.inj h16)
      refine g_aload_n C.1 1 dJx4a65c_grow_92f84_45 rfl rfl ?_
      refine g_bipush (v := 10) C.1 dJx4a65c_grow_92f84_46 (by decide) ?_
      refine g_iload_n C.1 2 dJx4a65c_grow_92f84_48 rfl rfl ?_
      refine g_mmax C.1 C.2.1 (C.2.2.1 _ kC_176) (C.2.2.1 _ kC_3) (C.2.2.1 _ kC_4) (C.2.2.1 _ kC_5) (Nat.le_trans (Nat.le_of_ble_eq_true rfl) hR.1) (Nat.le_trans (Nat.le_of_ble_eq_true rfl) hR.2.1) (Nat.le_trans (k0_ mc ms).1 hR.2.2.1) (Nat.le_trans (k0_ mc ms).2 hR.2.2.2) dJx4a65c_grow_92f84_49 ?_
      refine g_topi (fun x11 ex11 => ?_)
      replace hw := hw x11 ex11
      have hk14 : 0 + 1 ≤ mc ∧ 0 + 109 ≤ ms := ⟨hw.1, hw.2.1⟩
      replace hw := hw.2.2
      refine c_newQ (B := 109) C hsz kC_177 hw.1 hw.2.1 (Nat.le_of_ble_eq_true rfl) (Nat.le_trans hk14.1 hR.2.2.1) (Nat.le_trans hk14.2 hR.2.2.2) dJx4a65c_grow_92f84_52 (fun q12 hq12 zq12 => ?_)
      replace hw := hw.2.2 q12 hq12 zq12
      refine gJ.nm (fun s13 es13 => ?_)
      replace hw := hw s13 es13
      refine g_dup_x1 C.1 dJx4a65c_grow_92f84_55 rfl rfl ?_
      refine c_put0 C (τ := csR s13 1 v0 (some q12)) hw.1 1 (by decide) kC_32 (fun _ h => h) rfl (ty := .array (.object "java/lang/Object")) (by decide +kernel) rfl rfl rfl hw.1.2 rfl (cx_0_1 _ _ (some q12)) (fun _ hb => csR_o hb) dJx4a65c_grow_92f84_56 ?_
      replace hw := hw.2
      refine gJ.nm (fun s15 es15 => ?_)
      replace hw := hw s15 es15
      refine gJ.widen hw.1 hw.2.1 ?_
      replace hw := hw.2.2
      exact hret (some q12) _ _ _ hw dJx4a65c_grow_92f84_59
    · replace hw := hw.2 (fun e => h16 (congrArg some e))
      refine gJ.sub [1, 2, 0] rfl ?_
      exact wkC_Jx4a65c_grow_92f84_20 C hsz hR hret _ _ _ _ _ _ (k0_ mc ms) hw
theorem hdC_Jx4a65c_grow_92f84 : yJx4a65c_grow_92f84.cls = RJx4a65c ∧ yJx4a65c_grow_92f84.cls ≠ "java/lang/invoke/MethodHandle" ∧ yJx4a65c_grow_92f84.cls ≠ "java/lang/invoke/VarHandle" ∧ (parseMethodDescriptor yJx4a65c_grow_92f84.desc).map (fun d => d.parameters.length) = some 1 := by decide +kernel
theorem cC_Jx4a65c_grow_92f84 (mc ms : Nat) (l : Launch) (G : cG) (s : CSt) (v0 : Nat) (v1 : Int32) (post : Option Nat → CSt → Prop) (hw : wpC_Jx4a65c_grow_92f84_0 mc ms post s v0 v1) : cMq l yJx4a65c_grow_92f84 cJx4a65c_grow_92f84 4 (.array (.object "java/lang/Object")) 3 104 mc ms G s [.ref v0, .int v1] post := cMq_of (by decide +kernel) rfl (by first | exact Or.inl ⟨_, rfl⟩ | exact Or.inr ⟨_, rfl⟩) (Nat.le_of_ble_eq_true rfl) (fun X A H0 Q hl hR hsz hnm C hret => wkC_Jx4a65c_grow_92f84_0 C hsz hR hret s v0 v1 hw)
def wpC_Jx4a65c_grow_d5877_0 (mc ms : Nat) (post : Option Nat → CSt → Prop) (s : CSt) (v0 : Nat) : Prop := cAt s 0 v0 ∧ ∃ m1 m2 : Nat, 0 + m1 ≤ mc ∧ 0 + m2 ≤ ms ∧ cAt s 0 v0 ∧ wpC_Jx4a65c_grow_92f84_0 m1 m2 (fun r5 s3 => 0 + m1 ≤ mc ∧ 0 + m2 ≤ ms ∧ post r5 s3) s v0 ((cI s 2 v0) + 1)
theorem wkC_Jx4a65c_grow_d5877_0 {mc ms : Nat} {X : gT} {G : cG} {A : Nat → Prop} {H0 : Heap} {Q : State → Prop} (C : cC X cJx4a65c_grow_d5877 1 RJx4a65c G A) (hsz : H0 = (g_s X).heap) (hR : 4 ≤ (g_R X).frames ∧ 127 ≤ (g_R X).locals ∧ mc ≤ (g_R X).cells ∧ ms ≤ (g_R X).slots) {post : Option Nat → CSt → Prop} (hret : ∀ (r : Option Nat) (τ : CSt) (lv : List (Nat × Value)) (pc : Nat), post r τ → decode cJx4a65c_grow_d5877 pc = .ok (.areturn, 1) → gJ X (cWd G A H0) Q mc ms τ lv pc [va_rf r]) (s : CSt) (v0 : Nat) (hw : wpC_Jx4a65c_grow_d5877_0 mc ms post s v0) : gJ X (cWd G A H0) Q 0 0 s [(0, .ref v0)] 0 [] := by
  refine g_aload_n C.1 0 dJx4a65c_grow_d5877_0 rfl rfl ?_
  refine g_aload_n C.1 0 dJx4a65c_grow_d5877_1 rfl rfl ?_
  refine c_get0 C hw.1 2 (by decide) kC_15 (fun _ h => h) rfl dJx4a65c_grow_d5877_2 ?_
  replace hw := hw.2
  refine g_iconst (v := 1) C.1 dJx4a65c_grow_d5877_5 (by decide) ?_
  refine g_iadd C.1 dJx4a65c_grow_d5877_6 ?_
  obtain ⟨m1, m2, gm1, gm2, hw⟩ := hw
  have hk4 : 0 + m1 ≤ mc ∧ 0 + m2 ≤ ms := ⟨gm1, gm2⟩
  refine c_callVq (vs := [.int ((cI s 2 v0) + 1)]) C hsz (cC_Jx4a65c_grow_92f84 m1 m2 (g_l X) G s _ _ _ hw.2) kC_13 kC_172 kC_173 kC_174 kC_175 hdC_Jx4a65c_grow_92f84 (c_recv0 C hw.1) ⟨(Nat.le_trans (Nat.le_of_ble_eq_true rfl) hR.1), (Nat.le_trans (Nat.le_of_ble_eq_true rfl) hR.2.1)⟩ ⟨Nat.le_trans hk4.1 hR.2.2.1, Nat.le_trans hk4.2 hR.2.2.2⟩ dJx4a65c_grow_d5877_7 rfl (Nat.le_of_ble_eq_true rfl) (fun r5 s3 hw => ?_)
  refine gJ.widen hw.1 hw.2.1 ?_
  replace hw := hw.2.2
  exact hret r5 _ _ _ hw dJx4a65c_grow_d5877_10
theorem hdC_Jx4a65c_grow_d5877 : yJx4a65c_grow_d5877.cls = RJx4a65c ∧ yJx4a65c_grow_d5877.cls ≠ "java/lang/invoke/MethodHandle" ∧ yJx4a65c_grow_d5877.cls ≠ "java/lang/invoke/VarHandle" ∧ (parseMethodDescriptor yJx4a65c_grow_d5877.desc).map (fun d => d.parameters.length) = some 0 := by decide +kernel
theorem cC_Jx4a65c_grow_d5877 (mc ms : Nat) (l : Launch) (G : cG) (s : CSt) (v0 : Nat) (post : Option Nat → CSt → Prop) (hw : wpC_Jx4a65c_grow_d5877_0 mc ms post s v0) : cMq l yJx4a65c_grow_d5877 cJx4a65c_grow_d5877 1 (.array (.object "java/lang/Object")) 4 127 mc ms G s [.ref v0] post := cMq_of (by decide +kernel) rfl (by first | exact Or.inl ⟨_, rfl⟩ | exact Or.inr ⟨_, rfl⟩) (Nat.le_of_ble_eq_true rfl) (fun X A H0 Q hl hR hsz hnm C hret => wkC_Jx4a65c_grow_d5877_0 C hsz hR hret s v0 hw)
def wpC_Jx4a65c_add_72be8_11 (mc ms : Nat) (post : CSt → Prop) (s : CSt) (k : Nat) (n : Nat) (v0 : Nat) (v1 : Nat) (v2 : Option Nat) (v3 : Int32) : Prop := ∃ a1 : Nat, v2 = some a1 ∧ cAt s 10 a1 ∧ cElm s v1 ∧ vp_in v3 (cN s a1) ∧ ∀ s2 : CSt, s2 = csE s a1 (va_up (cE s a1) v3.toNatClampNeg (some v1)) → cAt s2 0 v0 ∧ ∀ s3 : CSt, s3 = csI s2 2 v0 (v3 + 1) → k ≤ mc ∧ n ≤ ms ∧ post s3
def wpC_Jx4a65c_add_72be8_0 (mc ms : Nat) (post : CSt → Prop) (s : CSt) (v0 : Nat) (v1 : Nat) (v2 : Nat) (v3 : Int32) : Prop := (v2 = (cZ s).1 ∨ (v2 ≠ (cZ s).1 ∧ cAt s 10 v2)) ∧ (¬ v3 = (nI (cNq s v2)) → wpC_Jx4a65c_add_72be8_11 mc ms post s 0 0 v0 v1 (some v2) v3) ∧ (v3 = (nI (cNq s v2)) → ∃ m5 m6 : Nat, 0 + m5 ≤ mc ∧ 0 + m6 ≤ ms ∧ cAt s 0 v0 ∧ wpC_Jx4a65c_grow_d5877_0 m5 m6 (fun r9 s7 => wpC_Jx4a65c_add_72be8_11 mc ms post s7 (0 + m5) (0 + m6) v0 v1 r9 v3) s v0)
theorem wkC_Jx4a65c_add_72be8_11 {mc ms : Nat} {X : gT} {G : cG} {A : Nat → Prop} {H0 : Heap} {Q : State → Prop} (C : cC X cJx4a65c_add_72be8 4 RJx4a65c G A) (hsz : H0 = (g_s X).heap) (hR : 5 ≤ (g_R X).frames ∧ 147 ≤ (g_R X).locals ∧ mc ≤ (g_R X).cells ∧ ms ≤ (g_R X).slots) {post : CSt → Prop} (hret : ∀ (τ : CSt) (lv : List (Nat × Value)) (pc : Nat), post τ → decode cJx4a65c_add_72be8 pc = .ok (.return_, 1) → gJ X (cWd G A H0) Q mc ms τ lv pc []) (s : CSt) (k : Nat) (n : Nat) (v0 : Nat) (v1 : Nat) (v2 : Option Nat) (v3 : Int32) (hk : k ≤ mc ∧ n ≤ ms) (hw : wpC_Jx4a65c_add_72be8_11 mc ms post s k n v0 v1 v2 v3) : gJ X (cWd G A H0) Q k n s [(0, .ref v0), (1, .ref v1), (2, va_rf v2), (3, .int v3)] 11 [] := by
  refine g_qload_n C.1 2 dJx4a65c_add_72be8_11 rfl rfl ?_
  refine g_iload_n C.1 3 dJx4a65c_add_72be8_12 rfl rfl ?_
  refine g_aload_n C.1 1 dJx4a65c_add_72be8_13 rfl rfl ?_
  obtain ⟨a1, ha1, hw⟩ := hw
  rw [ha1]
  refine c_aast C hw.1 hw.2.1 hw.2.2.1 dJx4a65c_add_72be8_14 ?_
  replace hw := hw.2.2.2
  refine gJ.nm (fun s2 es2 => ?_)
  replace hw := hw s2 es2
  refine g_aload_n C.1 0 dJx4a65c_add_72be8_15 rfl rfl ?_
  refine g_iload_n C.1 3 dJx4a65c_add_72be8_16 rfl rfl ?_
  refine g_iconst (v := 1) C.1 dJx4a65c_add_72be8_17 (by decide) ?_
  refine g_iadd C.1 dJx4a65c_add_72be8_18 ?_
  refine c_put0 C (τ := csI s2 2 v0 (v3 + 1)) hw.1 2 (by decide) kC_15 (fun _ h => h) rfl (ty := .int) (by decide +kernel) rfl rfl rfl hw.1.2 rfl (cx_0_2 _ _ _) (fun _ hb => csI_o hb) dJx4a65c_add_72be8_19 ?_
  replace hw := hw.2
  refine gJ.nm (fun s3 es3 => ?_)
  replace hw := hw s3 es3
  refine gJ.widen hw.1 hw.2.1 ?_
  replace hw := hw.2.2
  exact hret _ _ _ hw dJx4a65c_add_72be8_22
theorem wkC_Jx4a65c_add_72be8_0 {mc ms : Nat} {X : gT} {G : cG} {A : Nat → Prop} {H0 : Heap} {Q : State → Prop} (C : cC X cJx4a65c_add_72be8 4 RJx4a65c G A) (hsz : H0 = (g_s X).heap) (hR : 5 ≤ (g_R X).frames ∧ 147 ≤ (g_R X).locals ∧ mc ≤ (g_R X).cells ∧ ms ≤ (g_R X).slots) {post : CSt → Prop} (hret : ∀ (τ : CSt) (lv : List (Nat × Value)) (pc : Nat), post τ → decode cJx4a65c_add_72be8 pc = .ok (.return_, 1) → gJ X (cWd G A H0) Q mc ms τ lv pc []) (s : CSt) (v0 : Nat) (v1 : Nat) (v2 : Nat) (v3 : Int32) (hw : wpC_Jx4a65c_add_72be8_0 mc ms post s v0 v1 v2 v3) : gJ X (cWd G A H0) Q 0 0 s [(0, .ref v0), (1, .ref v1), (2, .ref v2), (3, .int v3)] 0 [] := by
  refine g_iload_n C.1 3 dJx4a65c_add_72be8_0 rfl rfl ?_
  refine g_aload_n C.1 2 dJx4a65c_add_72be8_1 rfl rfl ?_
  refine c_elen C hsz hw.1 dJx4a65c_add_72be8_2 ?_
  replace hw := hw.2
  refine g_icmp_ne (tgt := 11) C.1 dJx4a65c_add_72be8_3 (by decide) (fun h4 => ?_) (fun h4 => ?_)
  · replace hw := hw.1 h4
    exact wkC_Jx4a65c_add_72be8_11 C hsz hR hret _ _ _ _ _ _ _ (k0_ mc ms) hw
  · replace hw := hw.2 h4
    refine g_aload_n C.1 0 dJx4a65c_add_72be8_6 rfl rfl ?_
    obtain ⟨m5, m6, gm5, gm6, hw⟩ := hw
    have hk8 : 0 + m5 ≤ mc ∧ 0 + m6 ≤ ms := ⟨gm5, gm6⟩
    refine c_callVq (vs := []) C hsz (cC_Jx4a65c_grow_d5877 m5 m6 (g_l X) G s _ _ hw.2) kC_13 kC_168 kC_169 kC_170 kC_171 hdC_Jx4a65c_grow_d5877 (c_recv0 C hw.1) ⟨(Nat.le_trans (Nat.le_of_ble_eq_true rfl) hR.1), (Nat.le_trans (Nat.le_of_ble_eq_true rfl) hR.2.1)⟩ ⟨Nat.le_trans hk8.1 hR.2.2.1, Nat.le_trans hk8.2 hR.2.2.2⟩ dJx4a65c_add_72be8_7 rfl (Nat.le_of_ble_eq_true rfl) (fun r9 s7 hw => ?_)
    refine g_qstore_n (lv' := [(2, va_rf r9), (0, .ref v0), (1, .ref v1), (3, .int v3)]) C.1 dJx4a65c_add_72be8_10 rfl (by decide) rfl ?_
    refine gJ.sub [1, 2, 0, 3] rfl ?_
    exact wkC_Jx4a65c_add_72be8_11 C hsz hR hret _ _ _ _ _ _ _ hk8 hw
theorem hdC_Jx4a65c_add_72be8 : yJx4a65c_add_72be8.cls = RJx4a65c ∧ yJx4a65c_add_72be8.cls ≠ "java/lang/invoke/MethodHandle" ∧ yJx4a65c_add_72be8.cls ≠ "java/lang/invoke/VarHandle" ∧ (parseMethodDescriptor yJx4a65c_add_72be8.desc).map (fun d => d.parameters.length) = some 3 := by decide +kernel
theorem cC_Jx4a65c_add_72be8 (mc ms : Nat) (l : Launch) (G : cG) (s : CSt) (v0 : Nat) (v1 : Nat) (v2 : Nat) (v3 : Int32) (post : CSt → Prop) (hw : wpC_Jx4a65c_add_72be8_0 mc ms post s v0 v1 v2 v3) : cMv l yJx4a65c_add_72be8 cJx4a65c_add_72be8 4 5 147 mc ms G s [.ref v0, .ref v1, .ref v2, .int v3] post := cMv_of (by decide +kernel) rfl (Nat.le_of_ble_eq_true rfl) (fun X A H0 Q hl hR hsz hnm C hret => wkC_Jx4a65c_add_72be8_0 C hsz hR hret s v0 v1 v2 v3 hw)
def wpC_Jx4a65c_add_9ea2d_0 (mc ms : Nat) (post : Int32 → CSt → Prop) (s : CSt) (v0 : Nat) (v1 : Nat) : Prop := cAt s 0 v0 ∧ cAt s 0 v0 ∧ ∀ s1 : CSt, s1 = csI s 0 v0 ((cI s 0 v0) + 1) → cAt s1 0 v0 ∧ ∃ a2 : Nat, cR s1 1 v0 = some a2 ∧ cAt s1 0 v0 ∧ ∃ m3 m4 : Nat, 0 + m3 ≤ mc ∧ 0 + m4 ≤ ms ∧ cAt s1 0 v0 ∧ wpC_Jx4a65c_add_72be8_0 m3 m4 (fun s5 => 0 + m3 ≤ mc ∧ 0 + m4 ≤ ms ∧ post 1 s5) s1 v0 v1 a2 (cI s1 2 v0)
theorem wkC_Jx4a65c_add_9ea2d_0 {mc ms : Nat} {X : gT} {G : cG} {A : Nat → Prop} {H0 : Heap} {Q : State → Prop} (C : cC X cJx4a65c_add_9ea2d 2 RJx4a65c G A) (hsz : H0 = (g_s X).heap) (hR : 6 ≤ (g_R X).frames ∧ 170 ≤ (g_R X).locals ∧ mc ≤ (g_R X).cells ∧ ms ≤ (g_R X).slots) {post : Int32 → CSt → Prop} (hret : ∀ (r : Int32) (τ : CSt) (lv : List (Nat × Value)) (pc : Nat), post r τ → narrow .boolean (.int r) = .int r → decode cJx4a65c_add_9ea2d pc = .ok (.ireturn, 1) → gJ X (cWd G A H0) Q mc ms τ lv pc [.int r]) (s : CSt) (v0 : Nat) (v1 : Nat) (hw : wpC_Jx4a65c_add_9ea2d_0 mc ms post s v0 v1) : gJ X (cWd G A H0) Q 0 0 s [(0, .ref v0), (1, .ref v1)] 0 [] := by
  refine g_aload_n C.1 0 dJx4a65c_add_9ea2d_0 rfl rfl ?_
  refine g_dup C.1 dJx4a65c_add_9ea2d_1 rfl ?_
  refine c_get0 C hw.1 0 (by decide) kC_162 (u_same (C.2.2.1 _ kC_163)) rfl dJx4a65c_add_9ea2d_2 ?_
  replace hw := hw.2
  refine g_iconst (v := 1) C.1 dJx4a65c_add_9ea2d_5 (by decide) ?_
  refine g_iadd C.1 dJx4a65c_add_9ea2d_6 ?_
  refine c_put0 C (τ := csI s 0 v0 ((cI s 0 v0) + 1)) hw.1 0 (by decide) kC_162 (u_same (C.2.2.1 _ kC_163)) rfl (ty := .int) (by decide +kernel) rfl rfl rfl hw.1.2 rfl (cx_0_0 _ _ _) (fun _ hb => csI_o hb) dJx4a65c_add_9ea2d_7 ?_
  replace hw := hw.2
  refine gJ.nm (fun s1 es1 => ?_)
  replace hw := hw s1 es1
  refine g_aload_n C.1 0 dJx4a65c_add_9ea2d_10 rfl rfl ?_
  refine g_aload_n C.1 1 dJx4a65c_add_9ea2d_11 rfl rfl ?_
  refine g_aload_n C.1 0 dJx4a65c_add_9ea2d_12 rfl rfl ?_
  refine c_get0 C hw.1 1 (by decide) kC_32 (fun _ h => h) rfl dJx4a65c_add_9ea2d_13 ?_
  replace hw := hw.2
  obtain ⟨a2, ha2, hw⟩ := hw
  rw [ha2]
  refine g_aload_n C.1 0 dJx4a65c_add_9ea2d_16 rfl rfl ?_
  refine c_get0 C hw.1 2 (by decide) kC_15 (fun _ h => h) rfl dJx4a65c_add_9ea2d_17 ?_
  replace hw := hw.2
  obtain ⟨m3, m4, gm3, gm4, hw⟩ := hw
  have hk6 : 0 + m3 ≤ mc ∧ 0 + m4 ≤ ms := ⟨gm3, gm4⟩
  refine c_callVv (vs := [.ref v1, .ref a2, .int (cI s1 2 v0)]) C hsz (cC_Jx4a65c_add_72be8 m3 m4 (g_l X) G s1 _ _ _ _ _ hw.2) kC_13 kC_164 kC_165 kC_166 kC_167 hdC_Jx4a65c_add_72be8 (c_recv0 C hw.1) ⟨(Nat.le_trans (Nat.le_of_ble_eq_true rfl) hR.1), (Nat.le_trans (Nat.le_of_ble_eq_true rfl) hR.2.1)⟩ ⟨Nat.le_trans hk6.1 hR.2.2.1, Nat.le_trans hk6.2 hR.2.2.2⟩ dJx4a65c_add_9ea2d_20 rfl (Nat.le_of_ble_eq_true rfl) (fun s5 hw => ?_)
  refine g_iconst (v := 1) C.1 dJx4a65c_add_9ea2d_23 (by decide) ?_
  refine gJ.widen hw.1 hw.2.1 ?_
  replace hw := hw.2.2
  exact hret _ _ _ _ hw rfl dJx4a65c_add_9ea2d_24
theorem hdC_Jx4a65c_add_9ea2d : yJx4a65c_add_9ea2d.cls = RJx4a65c ∧ yJx4a65c_add_9ea2d.cls ≠ "java/lang/invoke/MethodHandle" ∧ yJx4a65c_add_9ea2d.cls ≠ "java/lang/invoke/VarHandle" ∧ (parseMethodDescriptor yJx4a65c_add_9ea2d.desc).map (fun d => d.parameters.length) = some 1 := by decide +kernel
theorem cC_Jx4a65c_add_9ea2d (mc ms : Nat) (l : Launch) (G : cG) (s : CSt) (v0 : Nat) (v1 : Nat) (post : Int32 → CSt → Prop) (hw : wpC_Jx4a65c_add_9ea2d_0 mc ms post s v0 v1) : cMi l yJx4a65c_add_9ea2d cJx4a65c_add_9ea2d 2 .boolean 6 170 mc ms G s [.ref v0, .ref v1] post := cMi_of (by decide +kernel) rfl (Nat.le_of_ble_eq_true rfl) (fun X A H0 Q hl hR hsz hnm C hret => wkC_Jx4a65c_add_9ea2d_0 C hsz hR hret s v0 v1 hw)
def wpC_Jx4a65c_fastRemove_b59b0_34 (post : CSt → Prop) (s : CSt) (v0 : Nat) (v1 : Nat) (v3 : Int32) : Prop := cAt s 0 v0 ∧ ∀ s1 : CSt, s1 = csI s 2 v0 v3 → cAt s1 10 v1 ∧ vp_in v3 (cN s1 v1) ∧ ∀ s2 : CSt, s2 = csE s1 v1 (va_up (cE s1 v1) v3.toNatClampNeg none) → post s2
def wpC_Jx4a65c_fastRemove_b59b0_0 (post : CSt → Prop) (s : CSt) (v0 : Nat) (v1 : Nat) (v2 : Int32) : Prop := cAt s 0 v0 ∧ cAt s 0 v0 ∧ ∀ s3 : CSt, s3 = csI s 0 v0 ((cI s 0 v0) + 1) → cAt s3 0 v0 ∧ (((cI s3 2 v0) - 1) ≤ v2 → wpC_Jx4a65c_fastRemove_b59b0_34 post s3 v0 v1 ((cI s3 2 v0) - 1)) ∧ (¬ ((cI s3 2 v0) - 1) ≤ v2 → cAt s3 10 v1 ∧ cAt s3 10 v1 ∧ ¬ (v2 + 1) < 0 ∧ ¬ v2 < 0 ∧ ¬ (((cI s3 2 v0) - 1) - v2) < 0 ∧ (v2 + 1).toNatClampNeg + (((cI s3 2 v0) - 1) - v2).toNatClampNeg ≤ cN s3 v1 ∧ v2.toNatClampNeg + (((cI s3 2 v0) - 1) - v2).toNatClampNeg ≤ cN s3 v1 ∧ (∀ i : Nat, i < (((cI s3 2 v0) - 1) - v2).toNatClampNeg → ∀ y : Nat, cE s3 v1 ((v2 + 1).toNatClampNeg + i) = some y → cElm s3 y) ∧ ∀ s5 : CSt, s5 = csE s3 v1 (va_cpy (cE s3 v1) (cE s3 v1) (v2 + 1).toNatClampNeg v2.toNatClampNeg (((cI s3 2 v0) - 1) - v2).toNatClampNeg) → wpC_Jx4a65c_fastRemove_b59b0_34 post s5 v0 v1 ((cI s3 2 v0) - 1))
theorem wkC_Jx4a65c_fastRemove_b59b0_34 {X : gT} {G : cG} {A : Nat → Prop} {H0 : Heap} {Q : State → Prop} (C : cC X cJx4a65c_fastRemove_b59b0 4 RJx4a65c G A) (hsz : H0 = (g_s X).heap) (hR : 1 ≤ (g_R X).frames ∧ 60 ≤ (g_R X).locals ∧ 0 ≤ (g_R X).cells ∧ 0 ≤ (g_R X).slots) {post : CSt → Prop} (hret : ∀ (τ : CSt) (lv : List (Nat × Value)) (pc : Nat), post τ → decode cJx4a65c_fastRemove_b59b0 pc = .ok (.return_, 1) → gJ X (cWd G A H0) Q 0 0 τ lv pc []) (s : CSt) (v0 : Nat) (v1 : Nat) (v3 : Int32) (hw : wpC_Jx4a65c_fastRemove_b59b0_34 post s v0 v1 v3) : gJ X (cWd G A H0) Q 0 0 s [(0, .ref v0), (1, .ref v1), (3, .int v3)] 34 [] := by
  refine g_aload_n C.1 1 dJx4a65c_fastRemove_b59b0_34 rfl rfl ?_
  refine g_aload_n C.1 0 dJx4a65c_fastRemove_b59b0_35 rfl rfl ?_
  refine g_iload_n C.1 2 dJx4a65c_fastRemove_b59b0_36 rfl rfl ?_
  refine g_dup_x1 C.1 dJx4a65c_fastRemove_b59b0_37 rfl rfl ?_
  refine c_put0 C (τ := csI s 2 v0 v3) hw.1 2 (by decide) kC_15 (fun _ h => h) rfl (ty := .int) (by decide +kernel) rfl rfl rfl hw.1.2 rfl (cx_0_2 _ _ _) (fun _ hb => csI_o hb) dJx4a65c_fastRemove_b59b0_38 ?_
  replace hw := hw.2
  refine gJ.nm (fun s1 es1 => ?_)
  replace hw := hw s1 es1
  refine g_null C.1 dJx4a65c_fastRemove_b59b0_41 ?_
  refine c_aastN C hw.1 hw.2.1 dJx4a65c_fastRemove_b59b0_42 ?_
  replace hw := hw.2.2
  refine gJ.nm (fun s2 es2 => ?_)
  replace hw := hw s2 es2
  exact hret _ _ _ hw dJx4a65c_fastRemove_b59b0_43
theorem wkC_Jx4a65c_fastRemove_b59b0_0 {X : gT} {G : cG} {A : Nat → Prop} {H0 : Heap} {Q : State → Prop} (C : cC X cJx4a65c_fastRemove_b59b0 4 RJx4a65c G A) (hsz : H0 = (g_s X).heap) (hR : 1 ≤ (g_R X).frames ∧ 60 ≤ (g_R X).locals ∧ 0 ≤ (g_R X).cells ∧ 0 ≤ (g_R X).slots) {post : CSt → Prop} (hret : ∀ (τ : CSt) (lv : List (Nat × Value)) (pc : Nat), post τ → decode cJx4a65c_fastRemove_b59b0 pc = .ok (.return_, 1) → gJ X (cWd G A H0) Q 0 0 τ lv pc []) (s : CSt) (v0 : Nat) (v1 : Nat) (v2 : Int32) (hw : wpC_Jx4a65c_fastRemove_b59b0_0 post s v0 v1 v2) : gJ X (cWd G A H0) Q 0 0 s [(0, .ref v0), (1, .ref v1), (2, .int v2)] 0 [] := by
  refine g_aload_n C.1 0 dJx4a65c_fastRemove_b59b0_0 rfl rfl ?_
  refine g_dup C.1 dJx4a65c_fastRemove_b59b0_1 rfl ?_
  refine c_get0 C hw.1 0 (by decide) kC_162 (u_same (C.2.2.1 _ kC_163)) rfl dJx4a65c_fastRemove_b59b0_2 ?_
  replace hw := hw.2
  refine g_iconst (v := 1) C.1 dJx4a65c_fastRemove_b59b0_5 (by decide) ?_
  refine g_iadd C.1 dJx4a65c_fastRemove_b59b0_6 ?_
  refine c_put0 C (τ := csI s 0 v0 ((cI s 0 v0) + 1)) hw.1 0 (by decide) kC_162 (u_same (C.2.2.1 _ kC_163)) rfl (ty := .int) (by decide +kernel) rfl rfl rfl hw.1.2 rfl (cx_0_0 _ _ _) (fun _ hb => csI_o hb) dJx4a65c_fastRemove_b59b0_7 ?_
  replace hw := hw.2
  refine gJ.nm (fun s3 es3 => ?_)
  replace hw := hw s3 es3
  refine g_aload_n C.1 0 dJx4a65c_fastRemove_b59b0_10 rfl rfl ?_
  refine c_get0 C hw.1 2 (by decide) kC_15 (fun _ h => h) rfl dJx4a65c_fastRemove_b59b0_11 ?_
  replace hw := hw.2
  refine g_iconst (v := 1) C.1 dJx4a65c_fastRemove_b59b0_14 (by decide) ?_
  refine g_isub C.1 dJx4a65c_fastRemove_b59b0_15 ?_
  refine g_dup C.1 dJx4a65c_fastRemove_b59b0_16 rfl ?_
  refine g_istore_n (lv' := [(3, .int ((cI s3 2 v0) - 1)), (0, .ref v0), (1, .ref v1), (2, .int v2)]) C.1 dJx4a65c_fastRemove_b59b0_17 rfl (by decide) rfl ?_
  refine g_iload_n C.1 3 dJx4a65c_fastRemove_b59b0_18 rfl rfl ?_
  refine g_icmp_le (tgt := 34) C.1 dJx4a65c_fastRemove_b59b0_19 (by decide) (fun h4 => ?_) (fun h4 => ?_)
  · replace hw := hw.1 h4
    refine gJ.sub [1, 2, 0] rfl ?_
    exact wkC_Jx4a65c_fastRemove_b59b0_34 C hsz hR hret _ _ _ _ hw
  · replace hw := hw.2 h4
    refine g_aload_n C.1 2 dJx4a65c_fastRemove_b59b0_22 rfl rfl ?_
    refine g_iload_n C.1 3 dJx4a65c_fastRemove_b59b0_23 rfl rfl ?_
    refine g_iconst (v := 1) C.1 dJx4a65c_fastRemove_b59b0_24 (by decide) ?_
    refine g_iadd C.1 dJx4a65c_fastRemove_b59b0_25 ?_
    refine g_aload_n C.1 2 dJx4a65c_fastRemove_b59b0_26 rfl rfl ?_
    refine g_iload_n C.1 3 dJx4a65c_fastRemove_b59b0_27 rfl rfl ?_
    refine g_iload_n C.1 0 dJx4a65c_fastRemove_b59b0_28 rfl rfl ?_
    refine g_iload_n C.1 3 dJx4a65c_fastRemove_b59b0_29 rfl rfl ?_
    refine g_isub C.1 dJx4a65c_fastRemove_b59b0_30 ?_
    refine c_copyA C hw.1 hw.2.1 kC_220 hw.2.2.1 hw.2.2.2.1 hw.2.2.2.2.1 hw.2.2.2.2.2.1 hw.2.2.2.2.2.2.1 hw.2.2.2.2.2.2.2.1 (Nat.le_trans (Nat.le_of_ble_eq_true rfl) hR.1) (Nat.le_trans (Nat.le_of_ble_eq_true rfl) hR.2.1) dJx4a65c_fastRemove_b59b0_31 ?_
    replace hw := hw.2.2.2.2.2.2.2.2
    refine gJ.nm (fun s5 es5 => ?_)
    replace hw := hw s5 es5
    refine gJ.sub [1, 2, 0] rfl ?_
    exact wkC_Jx4a65c_fastRemove_b59b0_34 C hsz hR hret _ _ _ _ hw
theorem hdC_Jx4a65c_fastRemove_b59b0 : yJx4a65c_fastRemove_b59b0.cls = RJx4a65c ∧ yJx4a65c_fastRemove_b59b0.cls ≠ "java/lang/invoke/MethodHandle" ∧ yJx4a65c_fastRemove_b59b0.cls ≠ "java/lang/invoke/VarHandle" ∧ (parseMethodDescriptor yJx4a65c_fastRemove_b59b0.desc).map (fun d => d.parameters.length) = some 2 := by decide +kernel
theorem cC_Jx4a65c_fastRemove_b59b0 (l : Launch) (G : cG) (s : CSt) (v0 : Nat) (v1 : Nat) (v2 : Int32) (post : CSt → Prop) (hw : wpC_Jx4a65c_fastRemove_b59b0_0 post s v0 v1 v2) : cMv l yJx4a65c_fastRemove_b59b0 cJx4a65c_fastRemove_b59b0 4 1 60 0 0 G s [.ref v0, .ref v1, .int v2] post := cMv_of (by decide +kernel) rfl (Nat.le_of_ble_eq_true rfl) (fun X A H0 Q hl hR hsz hnm C hret => wkC_Jx4a65c_fastRemove_b59b0_0 C hsz hR hret s v0 v1 v2 hw)
def wpC_Jx4a65c_remove_915e3_0 (post : Option Nat → CSt → Prop) (s : CSt) (v0 : Nat) (v1 : Int32) : Prop := cAt s 0 v0 ∧ wpC_J15_checkIndex_7cf53_0 (fun r2 s1 => cAt s1 0 v0 ∧ ∃ a3 : Nat, cR s1 1 v0 = some a3 ∧ cAt s1 10 a3 ∧ vp_in v1 (cN s1 a3) ∧ cAt s1 0 v0 ∧ wpC_Jx4a65c_fastRemove_b59b0_0 (fun s4 => post (cE s1 a3 v1.toNatClampNeg) s4) s1 v0 a3 v1) s v1 (cI s 2 v0)
theorem wkC_Jx4a65c_remove_915e3_0 {X : gT} {G : cG} {A : Nat → Prop} {H0 : Heap} {Q : State → Prop} (C : cC X cJx4a65c_remove_915e3 4 RJx4a65c G A) (hsz : H0 = (g_s X).heap) (hR : 2 ≤ (g_R X).frames ∧ 83 ≤ (g_R X).locals ∧ 0 ≤ (g_R X).cells ∧ 0 ≤ (g_R X).slots) {post : Option Nat → CSt → Prop} (hret : ∀ (r : Option Nat) (τ : CSt) (lv : List (Nat × Value)) (pc : Nat), post r τ → decode cJx4a65c_remove_915e3 pc = .ok (.areturn, 1) → gJ X (cWd G A H0) Q 0 0 τ lv pc [va_rf r]) (s : CSt) (v0 : Nat) (v1 : Int32) (hw : wpC_Jx4a65c_remove_915e3_0 post s v0 v1) : gJ X (cWd G A H0) Q 0 0 s [(0, .ref v0), (1, .int v1)] 0 [] := by
  refine g_iload_n C.1 1 dJx4a65c_remove_915e3_0 rfl rfl ?_
  refine g_aload_n C.1 0 dJx4a65c_remove_915e3_1 rfl rfl ?_
  refine c_get0 C hw.1 2 (by decide) kC_15 (fun _ h => h) rfl dJx4a65c_remove_915e3_2 ?_
  replace hw := hw.2
  refine c_callSi (vs := [.int v1, .int (cI s 2 v0)]) C hsz (cC_J15_checkIndex_7cf53 (g_l X) G s _ _ _ hw) kC_22 kC_20 kC_21 kC_23 hdC_J15_checkIndex_7cf53 ⟨(Nat.le_trans (Nat.le_of_ble_eq_true rfl) hR.1), (Nat.le_trans (Nat.le_of_ble_eq_true rfl) hR.2.1)⟩ ⟨(Nat.le_trans (Nat.le_of_ble_eq_true rfl) hR.2.2.1), (Nat.le_trans (Nat.le_of_ble_eq_true rfl) hR.2.2.2)⟩ dJx4a65c_remove_915e3_5 rfl (Nat.le_of_ble_eq_true rfl) (fun r2 s1 hw => ?_)
  refine g_pop C.1 dJx4a65c_remove_915e3_8 rfl ?_
  refine g_aload_n C.1 0 dJx4a65c_remove_915e3_9 rfl rfl ?_
  refine c_get0 C hw.1 1 (by decide) kC_32 (fun _ h => h) rfl dJx4a65c_remove_915e3_10 ?_
  replace hw := hw.2
  obtain ⟨a3, ha3, hw⟩ := hw
  rw [ha3]
  refine g_astore_n (lv' := [(2, .ref a3), (0, .ref v0), (1, .int v1)]) C.1 dJx4a65c_remove_915e3_13 rfl (by decide) rfl ?_
  refine g_aload_n C.1 0 dJx4a65c_remove_915e3_14 rfl rfl ?_
  refine g_iload_n C.1 2 dJx4a65c_remove_915e3_15 rfl rfl ?_
  refine c_aald C hw.1 hw.2.1 dJx4a65c_remove_915e3_16 ?_
  replace hw := hw.2.2
  refine g_qstore_n (lv' := [(3, va_rf (cE s1 a3 v1.toNatClampNeg)), (2, .ref a3), (0, .ref v0), (1, .int v1)]) C.1 dJx4a65c_remove_915e3_17 rfl (by decide) rfl ?_
  refine g_aload_n C.1 2 dJx4a65c_remove_915e3_18 rfl rfl ?_
  refine g_aload_n C.1 1 dJx4a65c_remove_915e3_19 rfl rfl ?_
  refine g_iload_n C.1 3 dJx4a65c_remove_915e3_20 rfl rfl ?_
  refine c_callVv (vs := [.ref a3, .int v1]) C hsz (cC_Jx4a65c_fastRemove_b59b0 (g_l X) G s1 _ _ _ _ hw.2) kC_13 kC_216 kC_217 kC_218 kC_219 hdC_Jx4a65c_fastRemove_b59b0 (c_recv0 C hw.1) ⟨(Nat.le_trans (Nat.le_of_ble_eq_true rfl) hR.1), (Nat.le_trans (Nat.le_of_ble_eq_true rfl) hR.2.1)⟩ ⟨(Nat.le_trans (Nat.le_of_ble_eq_true rfl) hR.2.2.1), (Nat.le_trans (Nat.le_of_ble_eq_true rfl) hR.2.2.2)⟩ dJx4a65c_remove_915e3_21 rfl (Nat.le_of_ble_eq_true rfl) (fun s4 hw => ?_)
  refine g_qload_n C.1 0 dJx4a65c_remove_915e3_24 rfl rfl ?_
  exact hret (cE s1 a3 v1.toNatClampNeg) _ _ _ hw dJx4a65c_remove_915e3_25
theorem hdC_Jx4a65c_remove_915e3 : yJx4a65c_remove_915e3.cls = RJx4a65c ∧ yJx4a65c_remove_915e3.cls ≠ "java/lang/invoke/MethodHandle" ∧ yJx4a65c_remove_915e3.cls ≠ "java/lang/invoke/VarHandle" ∧ (parseMethodDescriptor yJx4a65c_remove_915e3.desc).map (fun d => d.parameters.length) = some 1 := by decide +kernel
theorem cC_Jx4a65c_remove_915e3 (l : Launch) (G : cG) (s : CSt) (v0 : Nat) (v1 : Int32) (post : Option Nat → CSt → Prop) (hw : wpC_Jx4a65c_remove_915e3_0 post s v0 v1) : cMq l yJx4a65c_remove_915e3 cJx4a65c_remove_915e3 4 (.object "java/lang/Object") 2 83 0 0 G s [.ref v0, .int v1] post := cMq_of (by decide +kernel) rfl (by first | exact Or.inl ⟨_, rfl⟩ | exact Or.inr ⟨_, rfl⟩) (Nat.le_of_ble_eq_true rfl) (fun X A H0 Q hl hR hsz hnm C hret => wkC_Jx4a65c_remove_915e3_0 C hsz hR hret s v0 v1 hw)
def wpC_Jxa1e45_init_da8c8_0 (post : CSt → Prop) (s : CSt) (v0 : Nat) : Prop := post s
theorem wkC_Jxa1e45_init_da8c8_0 {X : gT} {G : cG} {A : Nat → Prop} {H0 : Heap} {Q : State → Prop} (C : cC X cJxa1e45_init_da8c8 1 RJxa1e45 G A) (hsz : H0 = (g_s X).heap) (hR : 1 ≤ (g_R X).frames ∧ 24 ≤ (g_R X).locals ∧ 0 ≤ (g_R X).cells ∧ 0 ≤ (g_R X).slots) (hnm : (g_me X).name = "<init>") {post : CSt → Prop} (hret : ∀ (τ : CSt) (lv : List (Nat × Value)) (pc : Nat), post τ → decode cJxa1e45_init_da8c8 pc = .ok (.return_, 1) → gJ X (cWd G A H0) Q 0 0 τ lv pc []) (s : CSt) (v0 : Nat) (hw : wpC_Jxa1e45_init_da8c8_0 post s v0) : gJ X (cWd G A H0) Q 0 0 s [(0, .ref v0)] 0 [] := by
  refine g_aload_n C.1 0 dJxa1e45_init_da8c8_0 rfl rfl ?_
  refine g_objInit C.1 C.2.1 (C.2.2.1 _ kC_154) (C.2.2.1 _ kC_93) (C.2.2.1 _ kC_94) (Nat.le_trans (Nat.le_of_ble_eq_true rfl) hR.1) (Nat.le_trans (Nat.le_of_ble_eq_true rfl) hR.2.1) dJxa1e45_init_da8c8_1 ?_
  exact hret _ _ _ hw dJxa1e45_init_da8c8_4
theorem hdC_Jxa1e45_init_da8c8 : yJxa1e45_init_da8c8.cls = RJxa1e45 ∧ yJxa1e45_init_da8c8.cls ≠ "java/lang/invoke/MethodHandle" ∧ yJxa1e45_init_da8c8.cls ≠ "java/lang/invoke/VarHandle" ∧ (parseMethodDescriptor yJxa1e45_init_da8c8.desc).map (fun d => d.parameters.length) = some 0 := by decide +kernel
theorem cC_Jxa1e45_init_da8c8 (l : Launch) (G : cG) (s : CSt) (v0 : Nat) (post : CSt → Prop) (hw : wpC_Jxa1e45_init_da8c8_0 post s v0) : cMv l yJxa1e45_init_da8c8 cJxa1e45_init_da8c8 1 1 24 0 0 G s [.ref v0] post := cMv_of (by decide +kernel) rfl (Nat.le_of_ble_eq_true rfl) (fun X A H0 Q hl hR hsz hnm C hret => wkC_Jxa1e45_init_da8c8_0 C hsz hR hnm hret s v0 hw)
def wpC_Jxc12de_init_da8c8_0 (post : CSt → Prop) (s : CSt) (v0 : Nat) : Prop := wpC_Jxa1e45_init_da8c8_0 (fun s1 => cAt s1 0 v0 ∧ ∀ s2 : CSt, s2 = csI s1 0 v0 0 → post s2) s v0
theorem wkC_Jxc12de_init_da8c8_0 {X : gT} {G : cG} {A : Nat → Prop} {H0 : Heap} {Q : State → Prop} (C : cC X cJxc12de_init_da8c8 1 RJxc12de G A) (hsz : H0 = (g_s X).heap) (hR : 2 ≤ (g_R X).frames ∧ 44 ≤ (g_R X).locals ∧ 0 ≤ (g_R X).cells ∧ 0 ≤ (g_R X).slots) (hnm : (g_me X).name = "<init>") {post : CSt → Prop} (hret : ∀ (τ : CSt) (lv : List (Nat × Value)) (pc : Nat), post τ → decode cJxc12de_init_da8c8 pc = .ok (.return_, 1) → gJ X (cWd G A H0) Q 0 0 τ lv pc []) (s : CSt) (v0 : Nat) (hw : wpC_Jxc12de_init_da8c8_0 post s v0) : gJ X (cWd G A H0) Q 0 0 s [(0, .ref v0)] 0 [] := by
  refine g_aload_n C.1 0 dJxc12de_init_da8c8_0 rfl rfl ?_
  refine c_callIv (vs := []) C hsz (cC_Jxa1e45_init_da8c8 (g_l X) G s _ _ hw) kC_152 kC_150 kC_151 kC_153 rfl hdC_Jxa1e45_init_da8c8 ⟨(Nat.le_trans (Nat.le_of_ble_eq_true rfl) hR.1), (Nat.le_trans (Nat.le_of_ble_eq_true rfl) hR.2.1)⟩ ⟨(Nat.le_trans (Nat.le_of_ble_eq_true rfl) hR.2.2.1), (Nat.le_trans (Nat.le_of_ble_eq_true rfl) hR.2.2.2)⟩ dJxc12de_init_da8c8_1 rfl (Nat.le_of_ble_eq_true rfl) (fun s1 hw => ?_)
  refine g_aload_n C.1 0 dJxc12de_init_da8c8_4 rfl rfl ?_
  refine g_iconst (v := 0) C.1 dJxc12de_init_da8c8_5 (by decide) ?_
  refine c_put0 C (τ := csI s1 0 v0 0) hw.1 0 (by decide) kC_149 (fun _ h => h) rfl (ty := .int) (by decide +kernel) rfl rfl rfl hw.1.2 rfl (cx_0_0 _ _ _) (fun _ hb => csI_o hb) dJxc12de_init_da8c8_6 ?_
  replace hw := hw.2
  refine gJ.nm (fun s2 es2 => ?_)
  replace hw := hw s2 es2
  exact hret _ _ _ hw dJxc12de_init_da8c8_9
theorem hdC_Jxc12de_init_da8c8 : yJxc12de_init_da8c8.cls = RJxc12de ∧ yJxc12de_init_da8c8.cls ≠ "java/lang/invoke/MethodHandle" ∧ yJxc12de_init_da8c8.cls ≠ "java/lang/invoke/VarHandle" ∧ (parseMethodDescriptor yJxc12de_init_da8c8.desc).map (fun d => d.parameters.length) = some 0 := by decide +kernel
theorem cC_Jxc12de_init_da8c8 (l : Launch) (G : cG) (s : CSt) (v0 : Nat) (post : CSt → Prop) (hw : wpC_Jxc12de_init_da8c8_0 post s v0) : cMv l yJxc12de_init_da8c8 cJxc12de_init_da8c8 1 2 44 0 0 G s [.ref v0] post := cMv_of (by decide +kernel) rfl (Nat.le_of_ble_eq_true rfl) (fun X A H0 Q hl hR hsz hnm C hret => wkC_Jxc12de_init_da8c8_0 C hsz hR hnm hret s v0 hw)
def wpC_Jx4a65c_init_da8c8_0 (post : CSt → Prop) (s : CSt) (v0 : Nat) : Prop := wpC_Jxc12de_init_da8c8_0 (fun s1 => cAt s1 0 v0 ∧ ∀ s2 : CSt, s2 = csR s1 1 v0 (some ((cZ s1).1)) → post s2) s v0
theorem wkC_Jx4a65c_init_da8c8_0 {X : gT} {G : cG} {A : Nat → Prop} {H0 : Heap} {Q : State → Prop} (C : cC X cJx4a65c_init_da8c8 1 RJx4a65c G A) (hsz : H0 = (g_s X).heap) (hR : 3 ≤ (g_R X).frames ∧ 64 ≤ (g_R X).locals ∧ 0 ≤ (g_R X).cells ∧ 0 ≤ (g_R X).slots) (hnm : (g_me X).name = "<init>") {post : CSt → Prop} (hret : ∀ (τ : CSt) (lv : List (Nat × Value)) (pc : Nat), post τ → decode cJx4a65c_init_da8c8 pc = .ok (.return_, 1) → gJ X (cWd G A H0) Q 0 0 τ lv pc []) (s : CSt) (v0 : Nat) (hw : wpC_Jx4a65c_init_da8c8_0 post s v0) : gJ X (cWd G A H0) Q 0 0 s [(0, .ref v0)] 0 [] := by
  refine g_aload_n C.1 0 dJx4a65c_init_da8c8_0 rfl rfl ?_
  refine c_callIv (vs := []) C hsz (cC_Jxc12de_init_da8c8 (g_l X) G s _ _ hw) kC_147 kC_145 kC_146 kC_148 rfl hdC_Jxc12de_init_da8c8 ⟨(Nat.le_trans (Nat.le_of_ble_eq_true rfl) hR.1), (Nat.le_trans (Nat.le_of_ble_eq_true rfl) hR.2.1)⟩ ⟨(Nat.le_trans (Nat.le_of_ble_eq_true rfl) hR.2.2.1), (Nat.le_trans (Nat.le_of_ble_eq_true rfl) hR.2.2.2)⟩ dJx4a65c_init_da8c8_1 rfl (Nat.le_of_ble_eq_true rfl) (fun s1 hw => ?_)
  refine g_aload_n C.1 0 dJx4a65c_init_da8c8_4 rfl rfl ?_
  refine c_empty C hsz kC_144 dJx4a65c_init_da8c8_5 ?_
  refine c_put0 C (τ := csR s1 1 v0 (some ((cZ s1).1))) hw.1 1 (by decide) kC_32 (fun _ h => h) rfl (ty := .array (.object "java/lang/Object")) (by decide +kernel) rfl rfl rfl hw.1.2 rfl (cx_0_1 _ _ (some ((cZ s1).1))) (fun _ hb => csR_o hb) dJx4a65c_init_da8c8_8 ?_
  replace hw := hw.2
  refine gJ.nm (fun s2 es2 => ?_)
  replace hw := hw s2 es2
  exact hret _ _ _ hw dJx4a65c_init_da8c8_11
theorem hdC_Jx4a65c_init_da8c8 : yJx4a65c_init_da8c8.cls = RJx4a65c ∧ yJx4a65c_init_da8c8.cls ≠ "java/lang/invoke/MethodHandle" ∧ yJx4a65c_init_da8c8.cls ≠ "java/lang/invoke/VarHandle" ∧ (parseMethodDescriptor yJx4a65c_init_da8c8.desc).map (fun d => d.parameters.length) = some 0 := by decide +kernel
theorem cC_Jx4a65c_init_da8c8 (l : Launch) (G : cG) (s : CSt) (v0 : Nat) (post : CSt → Prop) (hw : wpC_Jx4a65c_init_da8c8_0 post s v0) : cMv l yJx4a65c_init_da8c8 cJx4a65c_init_da8c8 1 3 64 0 0 G s [.ref v0] post := cMv_of (by decide +kernel) rfl (Nat.le_of_ble_eq_true rfl) (fun X A H0 Q hl hR hsz hnm C hret => wkC_Jx4a65c_init_da8c8_0 C hsz hR hnm hret s v0 hw)
def wpC_J7_copyOf_59c91_0 (post : Option Nat → CSt → Prop) (s : CSt) (v0 : Nat) (v1 : Int32) : Prop := cAt s 9 v0 ∧ (¬ v1 = (nI (cN s v0)) → ¬ v1 < 0 ∧ v1.toNatClampNeg ≤ 400 ∧ ∀ q2 : Nat, q2 ∉ cL s → ∀ s3 : CSt, s3 = csA s q2 9 v1.toNatClampNeg → cAt s3 9 v0 ∧ ∀ x4 : Int32, x4 = (if v1 < (nI (cN s3 v0)) then v1 else (nI (cN s3 v0))) → cAt s3 9 v0 ∧ cAt s3 9 q2 ∧ ¬ (0 : Int32) < 0 ∧ ¬ (0 : Int32) < 0 ∧ ¬ x4 < 0 ∧ (0 : Int32).toNatClampNeg + x4.toNatClampNeg ≤ cN s3 v0 ∧ (0 : Int32).toNatClampNeg + x4.toNatClampNeg ≤ cN s3 q2 ∧ ∀ s5 : CSt, s5 = csV s3 q2 (va_cpy (cV s3 v0) (cV s3 q2) (0 : Int32).toNatClampNeg (0 : Int32).toNatClampNeg x4.toNatClampNeg) → post (some q2) s5) ∧ (v1 = (nI (cN s v0)) → False)
theorem wkC_J7_copyOf_59c91_0 {X : gT} {G : cG} {A : Nat → Prop} {H0 : Heap} {Q : State → Prop} (C : cC X cJ7_copyOf_59c91 3 RJ7 G A) (hsz : H0 = (g_s X).heap) (hR : 1 ≤ (g_R X).frames ∧ 60 ≤ (g_R X).locals ∧ 1 ≤ (g_R X).cells ∧ 400 ≤ (g_R X).slots) {post : Option Nat → CSt → Prop} (hret : ∀ (r : Option Nat) (τ : CSt) (lv : List (Nat × Value)) (pc : Nat), post r τ → decode cJ7_copyOf_59c91 pc = .ok (.areturn, 1) → gJ X (cWd G A H0) Q 1 400 τ lv pc [va_rf r]) (s : CSt) (v0 : Nat) (v1 : Int32) (hw : wpC_J7_copyOf_59c91_0 post s v0 v1) : gJ X (cWd G A H0) Q 0 0 s [(0, .ref v0), (1, .int v1)] 0 [] := by
  refine g_iload_n C.1 1 dJ7_copyOf_59c91_0 rfl rfl ?_
  refine g_aload_n C.1 0 dJ7_copyOf_59c91_1 rfl rfl ?_
  refine c_ilen C hw.1 dJ7_copyOf_59c91_2 ?_
  replace hw := hw.2
  refine g_icmp_ne (tgt := 14) C.1 dJ7_copyOf_59c91_3 (by decide) (fun h1 => ?_) (fun h1 => ?_)
  · replace hw := hw.1 h1
    refine g_iload_n C.1 1 dJ7_copyOf_59c91_14 rfl rfl ?_
    refine c_newI (B := 400) C hsz hw.1 hw.2.1 (Nat.le_of_ble_eq_true rfl) (Nat.le_trans (Nat.le_of_ble_eq_true rfl) hR.2.2.1) (Nat.le_trans (Nat.le_of_ble_eq_true rfl) hR.2.2.2) dJ7_copyOf_59c91_15 (fun q2 hq2 => ?_)
    replace hw := hw.2.2 q2 hq2
    refine gJ.nm (fun s3 es3 => ?_)
    replace hw := hw s3 es3
    refine g_astore_n (lv' := [(2, .ref q2), (0, .ref v0), (1, .int v1)]) C.1 dJ7_copyOf_59c91_17 rfl (by decide) rfl ?_
    refine g_aload_n C.1 1 dJ7_copyOf_59c91_18 rfl rfl ?_
    refine g_iconst (v := 0) C.1 dJ7_copyOf_59c91_19 (by decide) ?_
    refine g_aload_n C.1 0 dJ7_copyOf_59c91_20 rfl rfl ?_
    refine g_iconst (v := 0) C.1 dJ7_copyOf_59c91_21 (by decide) ?_
    refine g_aload_n C.1 1 dJ7_copyOf_59c91_22 rfl rfl ?_
    refine c_ilen C hw.1 dJ7_copyOf_59c91_23 ?_
    replace hw := hw.2
    refine g_iload_n C.1 2 dJ7_copyOf_59c91_24 rfl rfl ?_
    refine g_mmin C.1 C.2.1 (C.2.2.1 _ kC_200) (C.2.2.1 _ kC_66) (C.2.2.1 _ kC_4) (C.2.2.1 _ kC_67) (Nat.le_trans (Nat.le_of_ble_eq_true rfl) hR.1) (Nat.le_trans (Nat.le_of_ble_eq_true rfl) hR.2.1) (Nat.le_trans (Nat.le_of_ble_eq_true rfl) hR.2.2.1) (Nat.le_trans (Nat.le_of_ble_eq_true rfl) hR.2.2.2) dJ7_copyOf_59c91_25 ?_
    refine g_topi (fun x4 ex4 => ?_)
    replace hw := hw x4 ex4
    refine c_copyI C hw.1 hw.2.1 kC_201 hw.2.2.1 hw.2.2.2.1 hw.2.2.2.2.1 hw.2.2.2.2.2.1 hw.2.2.2.2.2.2.1 (Nat.le_trans (Nat.le_of_ble_eq_true rfl) hR.1) (Nat.le_trans (Nat.le_of_ble_eq_true rfl) hR.2.1) dJ7_copyOf_59c91_28 ?_
    replace hw := hw.2.2.2.2.2.2.2
    refine gJ.nm (fun s5 es5 => ?_)
    replace hw := hw s5 es5
    refine g_aload_n C.1 0 dJ7_copyOf_59c91_31 rfl rfl ?_
    exact hret (some q2) _ _ _ hw dJ7_copyOf_59c91_32
  · replace hw := hw.2 h1
    refine g_aload_n C.1 0 dJ7_copyOf_59c91_6 rfl rfl ?_
    exact hw.elim
theorem hdC_J7_copyOf_59c91 : yJ7_copyOf_59c91.cls = RJ7 ∧ yJ7_copyOf_59c91.cls ≠ "java/lang/invoke/MethodHandle" ∧ yJ7_copyOf_59c91.cls ≠ "java/lang/invoke/VarHandle" ∧ (parseMethodDescriptor yJ7_copyOf_59c91.desc).map (fun d => d.parameters.length) = some 2 := by decide +kernel
theorem cC_J7_copyOf_59c91 (l : Launch) (G : cG) (s : CSt) (v0 : Nat) (v1 : Int32) (post : Option Nat → CSt → Prop) (hw : wpC_J7_copyOf_59c91_0 post s v0 v1) : cMq l yJ7_copyOf_59c91 cJ7_copyOf_59c91 3 (.array .int) 1 60 1 400 G s [.ref v0, .int v1] post := cMq_of (by decide +kernel) rfl (by first | exact Or.inl ⟨_, rfl⟩ | exact Or.inr ⟨_, rfl⟩) (Nat.le_of_ble_eq_true rfl) (fun X A H0 Q hl hR hsz hnm C hret => wkC_J7_copyOf_59c91_0 C hsz hR hret s v0 v1 hw)
def wpC_J6_bitCount_0f7a4_0 (post : Int32 → CSt → Prop) (s : CSt) (v0 : Int32) : Prop := ∀ x1 : Int32, x1 = v0 - ((((v0).toUInt32 >>> ((1).toUInt32 &&& Int32.toUInt32 31)).toInt32) &&& 1431655765) → ∀ x2 : Int32, x2 = (x1 &&& 858993459) + ((((x1).toUInt32 >>> ((2).toUInt32 &&& Int32.toUInt32 31)).toInt32) &&& 858993459) → ∀ x3 : Int32, x3 = (x2 + (((x2).toUInt32 >>> ((4).toUInt32 &&& Int32.toUInt32 31)).toInt32)) &&& 252645135 → ∀ x4 : Int32, x4 = x3 + (((x3).toUInt32 >>> ((8).toUInt32 &&& Int32.toUInt32 31)).toInt32) → ∀ x5 : Int32, x5 = x4 + (((x4).toUInt32 >>> ((16).toUInt32 &&& Int32.toUInt32 31)).toInt32) → post (x5 &&& 63) s
theorem wkC_J6_bitCount_0f7a4_0 {X : gT} {G : cG} {A : Nat → Prop} {H0 : Heap} {Q : State → Prop} (C : cC X cJ6_bitCount_0f7a4 1 RJ6 G A) (hsz : H0 = (g_s X).heap) (hR : 0 ≤ (g_R X).frames ∧ 0 ≤ (g_R X).locals ∧ 0 ≤ (g_R X).cells ∧ 0 ≤ (g_R X).slots) {post : Int32 → CSt → Prop} (hret : ∀ (r : Int32) (τ : CSt) (lv : List (Nat × Value)) (pc : Nat), post r τ → narrow .int (.int r) = .int r → decode cJ6_bitCount_0f7a4 pc = .ok (.ireturn, 1) → gJ X (cWd G A H0) Q 0 0 τ lv pc [.int r]) (s : CSt) (v0 : Int32) (hw : wpC_J6_bitCount_0f7a4_0 post s v0) : gJ X (cWd G A H0) Q 0 0 s [(0, .int v0)] 0 [] := by
  refine g_iload_n C.1 0 dJ6_bitCount_0f7a4_0 rfl rfl ?_
  refine g_iload_n C.1 0 dJ6_bitCount_0f7a4_1 rfl rfl ?_
  refine g_iconst (v := 1) C.1 dJ6_bitCount_0f7a4_2 (by decide) ?_
  refine g_iushr C.1 dJ6_bitCount_0f7a4_3 ?_
  refine g_ldcw (v := 1431655765) C.1 C.2.1 (C.2.2.1 _ kC_501) dJ6_bitCount_0f7a4_4 ?_
  refine g_iand C.1 dJ6_bitCount_0f7a4_7 ?_
  refine g_isub C.1 dJ6_bitCount_0f7a4_8 ?_
  refine g_topi (fun x1 ex1 => ?_)
  replace hw := hw x1 ex1
  refine g_istore_n (lv' := [(0, .int x1)]) C.1 dJ6_bitCount_0f7a4_9 rfl (by decide) rfl ?_
  refine g_iload_n C.1 0 dJ6_bitCount_0f7a4_10 rfl rfl ?_
  refine g_ldcw (v := 858993459) C.1 C.2.1 (C.2.2.1 _ kC_502) dJ6_bitCount_0f7a4_11 ?_
  refine g_iand C.1 dJ6_bitCount_0f7a4_14 ?_
  refine g_iload_n C.1 0 dJ6_bitCount_0f7a4_15 rfl rfl ?_
  refine g_iconst (v := 2) C.1 dJ6_bitCount_0f7a4_16 (by decide) ?_
  refine g_iushr C.1 dJ6_bitCount_0f7a4_17 ?_
  refine g_ldcw (v := 858993459) C.1 C.2.1 (C.2.2.1 _ kC_502) dJ6_bitCount_0f7a4_18 ?_
  refine g_iand C.1 dJ6_bitCount_0f7a4_21 ?_
  refine g_iadd C.1 dJ6_bitCount_0f7a4_22 ?_
  refine g_topi (fun x2 ex2 => ?_)
  replace hw := hw x2 ex2
  refine g_istore_n (lv' := [(0, .int x2)]) C.1 dJ6_bitCount_0f7a4_23 rfl (by decide) rfl ?_
  refine g_iload_n C.1 0 dJ6_bitCount_0f7a4_24 rfl rfl ?_
  refine g_iload_n C.1 0 dJ6_bitCount_0f7a4_25 rfl rfl ?_
  refine g_iconst (v := 4) C.1 dJ6_bitCount_0f7a4_26 (by decide) ?_
  refine g_iushr C.1 dJ6_bitCount_0f7a4_27 ?_
  refine g_iadd C.1 dJ6_bitCount_0f7a4_28 ?_
  refine g_ldcw (v := 252645135) C.1 C.2.1 (C.2.2.1 _ kC_503) dJ6_bitCount_0f7a4_29 ?_
  refine g_iand C.1 dJ6_bitCount_0f7a4_32 ?_
  refine g_topi (fun x3 ex3 => ?_)
  replace hw := hw x3 ex3
  refine g_istore_n (lv' := [(0, .int x3)]) C.1 dJ6_bitCount_0f7a4_33 rfl (by decide) rfl ?_
  refine g_iload_n C.1 0 dJ6_bitCount_0f7a4_34 rfl rfl ?_
  refine g_iload_n C.1 0 dJ6_bitCount_0f7a4_35 rfl rfl ?_
  refine g_bipush (v := 8) C.1 dJ6_bitCount_0f7a4_36 (by decide) ?_
  refine g_iushr C.1 dJ6_bitCount_0f7a4_38 ?_
  refine g_iadd C.1 dJ6_bitCount_0f7a4_39 ?_
  refine g_topi (fun x4 ex4 => ?_)
  replace hw := hw x4 ex4
  refine g_istore_n (lv' := [(0, .int x4)]) C.1 dJ6_bitCount_0f7a4_40 rfl (by decide) rfl ?_
  refine g_iload_n C.1 0 dJ6_bitCount_0f7a4_41 rfl rfl ?_
  refine g_iload_n C.1 0 dJ6_bitCount_0f7a4_42 rfl rfl ?_
  refine g_bipush (v := 16) C.1 dJ6_bitCount_0f7a4_43 (by decide) ?_
  refine g_iushr C.1 dJ6_bitCount_0f7a4_45 ?_
  refine g_iadd C.1 dJ6_bitCount_0f7a4_46 ?_
  refine g_topi (fun x5 ex5 => ?_)
  replace hw := hw x5 ex5
  refine g_istore_n (lv' := [(0, .int x5)]) C.1 dJ6_bitCount_0f7a4_47 rfl (by decide) rfl ?_
  refine g_iload_n C.1 0 dJ6_bitCount_0f7a4_48 rfl rfl ?_
  refine g_bipush (v := 63) C.1 dJ6_bitCount_0f7a4_49 (by decide) ?_
  refine g_iand C.1 dJ6_bitCount_0f7a4_51 ?_
  exact hret _ _ _ _ hw rfl dJ6_bitCount_0f7a4_52
theorem hdC_J6_bitCount_0f7a4 : yJ6_bitCount_0f7a4.cls = RJ6 ∧ yJ6_bitCount_0f7a4.cls ≠ "java/lang/invoke/MethodHandle" ∧ yJ6_bitCount_0f7a4.cls ≠ "java/lang/invoke/VarHandle" ∧ (parseMethodDescriptor yJ6_bitCount_0f7a4.desc).map (fun d => d.parameters.length) = some 1 := by decide +kernel
theorem cC_J6_bitCount_0f7a4 (l : Launch) (G : cG) (s : CSt) (v0 : Int32) (post : Int32 → CSt → Prop) (hw : wpC_J6_bitCount_0f7a4_0 post s v0) : cMi l yJ6_bitCount_0f7a4 cJ6_bitCount_0f7a4 1 .int 0 0 0 0 G s [.int v0] post := cMi_of (by decide +kernel) rfl (Nat.le_of_ble_eq_true rfl) (fun X A H0 Q hl hR hsz hnm C hret => wkC_J6_bitCount_0f7a4_0 C hsz hR hret s v0 hw)
def wpC_X1_init_0 (post : CSt → Prop) (s : CSt) (v0 : Nat) (v1 : Int32) : Prop := ∀ q1 : Nat, q1 ∉ cL s → ∀ s2 : CSt, s2 = csA s q1 9 (4 : Int32).toNatClampNeg → cAt s2 1 v0 ∧ ∀ s3 : CSt, s3 = csR s2 17 v0 (some q1) → cAt s3 1 v0 ∧ ∀ s4 : CSt, s4 = csI s3 16 v0 v1 → post s4
theorem wkC_X1_init_0 {X : gT} {G : cG} {A : Nat → Prop} {H0 : Heap} {Q : State → Prop} (C : cC X cX1_init 2 RX1 G A) (hsz : H0 = (g_s X).heap) (hR : 1 ≤ (g_R X).frames ∧ 24 ≤ (g_R X).locals ∧ 1 ≤ (g_R X).cells ∧ 4 ≤ (g_R X).slots) (hnm : (g_me X).name = "<init>") {post : CSt → Prop} (hret : ∀ (τ : CSt) (lv : List (Nat × Value)) (pc : Nat), post τ → decode cX1_init pc = .ok (.return_, 1) → gJ X (cWd G A H0) Q 1 4 τ lv pc []) (s : CSt) (v0 : Nat) (v1 : Int32) (hw : wpC_X1_init_0 post s v0 v1) : gJ X (cWd G A H0) Q 0 0 s [(0, .ref v0), (1, .int v1)] 0 [] := by
  refine g_aload_n C.1 0 dX1_init_0 rfl rfl ?_
  refine g_objInit C.1 C.2.1 (C.2.2.1 _ kC_92) (C.2.2.1 _ kC_93) (C.2.2.1 _ kC_94) (Nat.le_trans (Nat.le_of_ble_eq_true rfl) hR.1) (Nat.le_trans (Nat.le_of_ble_eq_true rfl) hR.2.1) dX1_init_1 ?_
  refine g_aload_n C.1 0 dX1_init_4 rfl rfl ?_
  refine g_iconst (v := 4) C.1 dX1_init_5 (by decide) ?_
  refine c_newI (B := 4) C hsz (by decide) (by decide) (Nat.le_of_ble_eq_true rfl) (Nat.le_trans (Nat.le_of_ble_eq_true rfl) hR.2.2.1) (Nat.le_trans (Nat.le_of_ble_eq_true rfl) hR.2.2.2) dX1_init_6 (fun q1 hq1 => ?_)
  replace hw := hw q1 hq1
  refine gJ.nm (fun s2 es2 => ?_)
  replace hw := hw s2 es2
  refine c_putF1 C (τ := csR s2 17 v0 (some q1)) hw.1 1 (by decide) kC_38 (fun _ h => h) rfl hnm rfl (ty := .array .int) (by decide +kernel) rfl rfl rfl hw.1.2 rfl (cx_1_1 _ _ (some q1)) (fun _ hb => csR_o hb) dX1_init_8 ?_
  replace hw := hw.2
  refine gJ.nm (fun s3 es3 => ?_)
  replace hw := hw s3 es3
  refine g_aload_n C.1 0 dX1_init_11 rfl rfl ?_
  refine g_iload_n C.1 1 dX1_init_12 rfl rfl ?_
  refine c_putF1 C (τ := csI s3 16 v0 v1) hw.1 0 (by decide) kC_96 (fun _ h => h) rfl hnm rfl (ty := .int) (by decide +kernel) rfl rfl rfl hw.1.2 rfl (cx_1_0 _ _ _) (fun _ hb => csI_o hb) dX1_init_13 ?_
  replace hw := hw.2
  refine gJ.nm (fun s4 es4 => ?_)
  replace hw := hw s4 es4
  exact hret _ _ _ hw dX1_init_16
theorem hdC_X1_init : yX1_init.cls = RX1 ∧ yX1_init.cls ≠ "java/lang/invoke/MethodHandle" ∧ yX1_init.cls ≠ "java/lang/invoke/VarHandle" ∧ (parseMethodDescriptor yX1_init.desc).map (fun d => d.parameters.length) = some 1 := by decide +kernel
theorem cC_X1_init (l : Launch) (G : cG) (s : CSt) (v0 : Nat) (v1 : Int32) (post : CSt → Prop) (hw : wpC_X1_init_0 post s v0 v1) : cMv l yX1_init cX1_init 2 1 24 1 4 G s [.ref v0, .int v1] post := cMv_of (by decide +kernel) rfl (Nat.le_of_ble_eq_true rfl) (fun X A H0 Q hl hR hsz hnm C hret => wkC_X1_init_0 C hsz hR hnm hret s v0 v1 hw)
def wpC_X2_init_0 (post : CSt → Prop) (s : CSt) (v0 : Nat) (v1 : Int32) (v2 : Int32) (v3 : Int32) (v4 : Int32) : Prop := cAt s 2 v0 ∧ ∀ s1 : CSt, s1 = csI s 35 v0 0 → cAt s1 2 v0 ∧ ∀ s2 : CSt, s2 = csI s1 32 v0 v1 → cAt s2 2 v0 ∧ ∀ s3 : CSt, s3 = csI s2 33 v0 v2 → cAt s3 2 v0 ∧ ∀ s4 : CSt, s4 = csI s3 34 v0 v3 → cAt s4 2 v0 ∧ ∀ s5 : CSt, s5 = csI s4 36 v0 v4 → post s5
theorem wkC_X2_init_0 {X : gT} {G : cG} {A : Nat → Prop} {H0 : Heap} {Q : State → Prop} (C : cC X cX2_init 5 RX2 G A) (hsz : H0 = (g_s X).heap) (hR : 1 ≤ (g_R X).frames ∧ 24 ≤ (g_R X).locals ∧ 0 ≤ (g_R X).cells ∧ 0 ≤ (g_R X).slots) (hnm : (g_me X).name = "<init>") {post : CSt → Prop} (hret : ∀ (τ : CSt) (lv : List (Nat × Value)) (pc : Nat), post τ → decode cX2_init pc = .ok (.return_, 1) → gJ X (cWd G A H0) Q 0 0 τ lv pc []) (s : CSt) (v0 : Nat) (v1 : Int32) (v2 : Int32) (v3 : Int32) (v4 : Int32) (hw : wpC_X2_init_0 post s v0 v1 v2 v3 v4) : gJ X (cWd G A H0) Q 0 0 s [(0, .ref v0), (1, .int v1), (2, .int v2), (3, .int v3), (4, .int v4)] 0 [] := by
  refine g_aload_n C.1 0 dX2_init_0 rfl rfl ?_
  refine g_objInit C.1 C.2.1 (C.2.2.1 _ kC_110) (C.2.2.1 _ kC_93) (C.2.2.1 _ kC_94) (Nat.le_trans (Nat.le_of_ble_eq_true rfl) hR.1) (Nat.le_trans (Nat.le_of_ble_eq_true rfl) hR.2.1) dX2_init_1 ?_
  refine g_aload_n C.1 0 dX2_init_4 rfl rfl ?_
  refine g_iconst (v := 0) C.1 dX2_init_5 (by decide) ?_
  refine c_put2 C (τ := csI s 35 v0 0) hw.1 3 (by decide) kC_111 (fun _ h => h) rfl (ty := .int) (by decide +kernel) rfl rfl rfl hw.1.2 rfl (cx_2_3 _ _ _) (fun _ hb => csI_o hb) dX2_init_6 ?_
  replace hw := hw.2
  refine gJ.nm (fun s1 es1 => ?_)
  replace hw := hw s1 es1
  refine g_aload_n C.1 0 dX2_init_9 rfl rfl ?_
  refine g_iload_n C.1 1 dX2_init_10 rfl rfl ?_
  refine c_putF2 C (τ := csI s1 32 v0 v1) hw.1 0 (by decide) kC_112 (fun _ h => h) rfl hnm rfl (ty := .int) (by decide +kernel) rfl rfl rfl hw.1.2 rfl (cx_2_0 _ _ _) (fun _ hb => csI_o hb) dX2_init_11 ?_
  replace hw := hw.2
  refine gJ.nm (fun s2 es2 => ?_)
  replace hw := hw s2 es2
  refine g_aload_n C.1 0 dX2_init_14 rfl rfl ?_
  refine g_iload_n C.1 2 dX2_init_15 rfl rfl ?_
  refine c_putF2 C (τ := csI s2 33 v0 v2) hw.1 1 (by decide) kC_113 (fun _ h => h) rfl hnm rfl (ty := .int) (by decide +kernel) rfl rfl rfl hw.1.2 rfl (cx_2_1 _ _ _) (fun _ hb => csI_o hb) dX2_init_16 ?_
  replace hw := hw.2
  refine gJ.nm (fun s3 es3 => ?_)
  replace hw := hw s3 es3
  refine g_aload_n C.1 0 dX2_init_19 rfl rfl ?_
  refine g_iload_n C.1 3 dX2_init_20 rfl rfl ?_
  refine c_putF2 C (τ := csI s3 34 v0 v3) hw.1 2 (by decide) kC_114 (fun _ h => h) rfl hnm rfl (ty := .int) (by decide +kernel) rfl rfl rfl hw.1.2 rfl (cx_2_2 _ _ _) (fun _ hb => csI_o hb) dX2_init_21 ?_
  replace hw := hw.2
  refine gJ.nm (fun s4 es4 => ?_)
  replace hw := hw s4 es4
  refine g_aload_n C.1 0 dX2_init_24 rfl rfl ?_
  refine g_iload C.1 4 dX2_init_25 rfl ?_
  refine c_put2 C (τ := csI s4 36 v0 v4) hw.1 4 (by decide) kC_115 (fun _ h => h) rfl (ty := .int) (by decide +kernel) rfl rfl rfl hw.1.2 rfl (cx_2_4 _ _ _) (fun _ hb => csI_o hb) dX2_init_27 ?_
  replace hw := hw.2
  refine gJ.nm (fun s5 es5 => ?_)
  replace hw := hw s5 es5
  exact hret _ _ _ hw dX2_init_30
theorem hdC_X2_init : yX2_init.cls = RX2 ∧ yX2_init.cls ≠ "java/lang/invoke/MethodHandle" ∧ yX2_init.cls ≠ "java/lang/invoke/VarHandle" ∧ (parseMethodDescriptor yX2_init.desc).map (fun d => d.parameters.length) = some 4 := by decide +kernel
theorem cC_X2_init (l : Launch) (G : cG) (s : CSt) (v0 : Nat) (v1 : Int32) (v2 : Int32) (v3 : Int32) (v4 : Int32) (post : CSt → Prop) (hw : wpC_X2_init_0 post s v0 v1 v2 v3 v4) : cMv l yX2_init cX2_init 5 1 24 0 0 G s [.ref v0, .int v1, .int v2, .int v3, .int v4] post := cMv_of (by decide +kernel) rfl (Nat.le_of_ble_eq_true rfl) (fun X A H0 Q hl hR hsz hnm C hret => wkC_X2_init_0 C hsz hR hnm hret s v0 v1 v2 v3 v4 hw)
def wpC_X3_init_0 (post : CSt → Prop) (s : CSt) (v0 : Nat) (v1 : Int32) (v2 : Int32) (v3 : Int32) (v4 : Int32) (v5 : Int32) (v6 : Int32) : Prop := ∀ q1 : Nat, q1 ∉ cL s → ∀ s2 : CSt, s2 = csO s q1 0 → wpC_Jx4a65c_init_da8c8_0 (fun s3 => cAt s3 3 v0 ∧ ∀ s4 : CSt, s4 = csR s3 54 v0 (some q1) → cAt s4 3 v0 ∧ ∀ s5 : CSt, s5 = csI s4 48 v0 v1 → cAt s5 3 v0 ∧ ∀ s6 : CSt, s6 = csI s5 49 v0 v2 → cAt s6 3 v0 ∧ ∀ s7 : CSt, s7 = csI s6 50 v0 v3 → cAt s7 3 v0 ∧ ∀ s8 : CSt, s8 = csI s7 51 v0 v4 → cAt s8 3 v0 ∧ ∀ s9 : CSt, s9 = csI s8 52 v0 v5 → cAt s9 3 v0 ∧ ∀ s10 : CSt, s10 = csI s9 53 v0 v6 → post s10) s2 q1
theorem wkC_X3_init_0 {X : gT} {G : cG} {A : Nat → Prop} {H0 : Heap} {Q : State → Prop} (C : cC X cX3_init 7 RX3 G A) (hsz : H0 = (g_s X).heap) (hR : 4 ≤ (g_R X).frames ∧ 84 ≤ (g_R X).locals ∧ 1 ≤ (g_R X).cells ∧ 3 ≤ (g_R X).slots) (hnm : (g_me X).name = "<init>") {post : CSt → Prop} (hret : ∀ (τ : CSt) (lv : List (Nat × Value)) (pc : Nat), post τ → decode cX3_init pc = .ok (.return_, 1) → gJ X (cWd G A H0) Q 1 3 τ lv pc []) (s : CSt) (v0 : Nat) (v1 : Int32) (v2 : Int32) (v3 : Int32) (v4 : Int32) (v5 : Int32) (v6 : Int32) (hw : wpC_X3_init_0 post s v0 v1 v2 v3 v4 v5 v6) : gJ X (cWd G A H0) Q 0 0 s [(0, .ref v0), (1, .int v1), (2, .int v2), (3, .int v3), (4, .int v4), (5, .int v5), (6, .int v6)] 0 [] := by
  refine g_aload_n C.1 0 dX3_init_0 rfl rfl ?_
  refine g_objInit C.1 C.2.1 (C.2.2.1 _ kC_131) (C.2.2.1 _ kC_93) (C.2.2.1 _ kC_94) (Nat.le_trans (Nat.le_of_ble_eq_true rfl) hR.1) (Nat.le_trans (Nat.le_of_ble_eq_true rfl) hR.2.1) dX3_init_1 ?_
  refine g_aload_n C.1 0 dX3_init_4 rfl rfl ?_
  refine c_new0 C hsz kC_132 kC_133 kC_13 (Nat.le_trans (Nat.le_of_ble_eq_true rfl) hR.2.2.1) (Nat.le_trans (Nat.le_of_ble_eq_true rfl) hR.2.2.2) dX3_init_5 (fun q1 hq1 => ?_)
  replace hw := hw q1 hq1
  refine gJ.nm (fun s2 es2 => ?_)
  replace hw := hw s2 es2
  refine g_dup C.1 dX3_init_8 rfl ?_
  refine c_callIv (vs := []) C hsz (cC_Jx4a65c_init_da8c8 (g_l X) G s2 _ _ hw) kC_13 kC_141 kC_142 kC_143 rfl hdC_Jx4a65c_init_da8c8 ⟨(Nat.le_trans (Nat.le_of_ble_eq_true rfl) hR.1), (Nat.le_trans (Nat.le_of_ble_eq_true rfl) hR.2.1)⟩ ⟨(Nat.le_trans (Nat.le_of_ble_eq_true rfl) hR.2.2.1), (Nat.le_trans (Nat.le_of_ble_eq_true rfl) hR.2.2.2)⟩ dX3_init_9 rfl (Nat.le_of_ble_eq_true rfl) (fun s3 hw => ?_)
  refine c_putF3 C (τ := csR s3 54 v0 (some q1)) hw.1 6 (by decide) kC_134 (fun _ h => h) rfl hnm rfl (ty := .object "java/util/ArrayList") (by decide +kernel) rfl rfl rfl hw.1.2 rfl (cx_3_6 _ _ (some q1)) (fun _ hb => csR_o hb) dX3_init_12 ?_
  replace hw := hw.2
  refine gJ.nm (fun s4 es4 => ?_)
  replace hw := hw s4 es4
  refine g_aload_n C.1 0 dX3_init_15 rfl rfl ?_
  refine g_iload_n C.1 1 dX3_init_16 rfl rfl ?_
  refine c_putF3 C (τ := csI s4 48 v0 v1) hw.1 0 (by decide) kC_135 (fun _ h => h) rfl hnm rfl (ty := .int) (by decide +kernel) rfl rfl rfl hw.1.2 rfl (cx_3_0 _ _ _) (fun _ hb => csI_o hb) dX3_init_17 ?_
  replace hw := hw.2
  refine gJ.nm (fun s5 es5 => ?_)
  replace hw := hw s5 es5
  refine g_aload_n C.1 0 dX3_init_20 rfl rfl ?_
  refine g_iload_n C.1 2 dX3_init_21 rfl rfl ?_
  refine c_putF3 C (τ := csI s5 49 v0 v2) hw.1 1 (by decide) kC_136 (fun _ h => h) rfl hnm rfl (ty := .int) (by decide +kernel) rfl rfl rfl hw.1.2 rfl (cx_3_1 _ _ _) (fun _ hb => csI_o hb) dX3_init_22 ?_
  replace hw := hw.2
  refine gJ.nm (fun s6 es6 => ?_)
  replace hw := hw s6 es6
  refine g_aload_n C.1 0 dX3_init_25 rfl rfl ?_
  refine g_iload_n C.1 3 dX3_init_26 rfl rfl ?_
  refine c_putF3 C (τ := csI s6 50 v0 v3) hw.1 2 (by decide) kC_137 (fun _ h => h) rfl hnm rfl (ty := .int) (by decide +kernel) rfl rfl rfl hw.1.2 rfl (cx_3_2 _ _ _) (fun _ hb => csI_o hb) dX3_init_27 ?_
  replace hw := hw.2
  refine gJ.nm (fun s7 es7 => ?_)
  replace hw := hw s7 es7
  refine g_aload_n C.1 0 dX3_init_30 rfl rfl ?_
  refine g_iload C.1 4 dX3_init_31 rfl ?_
  refine c_putF3 C (τ := csI s7 51 v0 v4) hw.1 3 (by decide) kC_138 (fun _ h => h) rfl hnm rfl (ty := .int) (by decide +kernel) rfl rfl rfl hw.1.2 rfl (cx_3_3 _ _ _) (fun _ hb => csI_o hb) dX3_init_33 ?_
  replace hw := hw.2
  refine gJ.nm (fun s8 es8 => ?_)
  replace hw := hw s8 es8
  refine g_aload_n C.1 0 dX3_init_36 rfl rfl ?_
  refine g_iload C.1 5 dX3_init_37 rfl ?_
  refine c_putF3 C (τ := csI s8 52 v0 v5) hw.1 4 (by decide) kC_139 (fun _ h => h) rfl hnm rfl (ty := .int) (by decide +kernel) rfl rfl rfl hw.1.2 rfl (cx_3_4 _ _ _) (fun _ hb => csI_o hb) dX3_init_39 ?_
  replace hw := hw.2
  refine gJ.nm (fun s9 es9 => ?_)
  replace hw := hw s9 es9
  refine g_aload_n C.1 0 dX3_init_42 rfl rfl ?_
  refine g_iload C.1 6 dX3_init_43 rfl ?_
  refine c_putF3 C (τ := csI s9 53 v0 v6) hw.1 5 (by decide) kC_140 (fun _ h => h) rfl hnm rfl (ty := .int) (by decide +kernel) rfl rfl rfl hw.1.2 rfl (cx_3_5 _ _ _) (fun _ hb => csI_o hb) dX3_init_45 ?_
  replace hw := hw.2
  refine gJ.nm (fun s10 es10 => ?_)
  replace hw := hw s10 es10
  exact hret _ _ _ hw dX3_init_48
theorem hdC_X3_init : yX3_init.cls = RX3 ∧ yX3_init.cls ≠ "java/lang/invoke/MethodHandle" ∧ yX3_init.cls ≠ "java/lang/invoke/VarHandle" ∧ (parseMethodDescriptor yX3_init.desc).map (fun d => d.parameters.length) = some 6 := by decide +kernel
theorem cC_X3_init (l : Launch) (G : cG) (s : CSt) (v0 : Nat) (v1 : Int32) (v2 : Int32) (v3 : Int32) (v4 : Int32) (v5 : Int32) (v6 : Int32) (post : CSt → Prop) (hw : wpC_X3_init_0 post s v0 v1 v2 v3 v4 v5 v6) : cMv l yX3_init cX3_init 7 4 84 1 3 G s [.ref v0, .int v1, .int v2, .int v3, .int v4, .int v5, .int v6] post := cMv_of (by decide +kernel) rfl (Nat.le_of_ble_eq_true rfl) (fun X A H0 Q hl hR hsz hnm C hret => wkC_X3_init_0 C hsz hR hnm hret s v0 v1 v2 v3 v4 v5 v6 hw)
def wpC_X4_init_0 (post : CSt → Prop) (s : CSt) (v0 : Nat) (v1 : Nat) (v2 : Nat) (v3 : Int32) : Prop := cAt s 4 v0 ∧ ∀ s1 : CSt, s1 = csR s 64 v0 (some v1) → cAt s1 4 v0 ∧ ∀ s2 : CSt, s2 = csR s1 65 v0 (some v2) → cAt s2 4 v0 ∧ ∀ s3 : CSt, s3 = csI s2 66 v0 v3 → post s3
theorem wkC_X4_init_0 {X : gT} {G : cG} {A : Nat → Prop} {H0 : Heap} {Q : State → Prop} (C : cC X cX4_init 4 RX4 G A) (hsz : H0 = (g_s X).heap) (hR : 1 ≤ (g_R X).frames ∧ 24 ≤ (g_R X).locals ∧ 0 ≤ (g_R X).cells ∧ 0 ≤ (g_R X).slots) (hnm : (g_me X).name = "<init>") {post : CSt → Prop} (hret : ∀ (τ : CSt) (lv : List (Nat × Value)) (pc : Nat), post τ → decode cX4_init pc = .ok (.return_, 1) → gJ X (cWd G A H0) Q 0 0 τ lv pc []) (s : CSt) (v0 : Nat) (v1 : Nat) (v2 : Nat) (v3 : Int32) (hw : wpC_X4_init_0 post s v0 v1 v2 v3) : gJ X (cWd G A H0) Q 0 0 s [(0, .ref v0), (1, .ref v1), (2, .ref v2), (3, .int v3)] 0 [] := by
  refine g_aload_n C.1 0 dX4_init_0 rfl rfl ?_
  refine g_objInit C.1 C.2.1 (C.2.2.1 _ kC_226) (C.2.2.1 _ kC_93) (C.2.2.1 _ kC_94) (Nat.le_trans (Nat.le_of_ble_eq_true rfl) hR.1) (Nat.le_trans (Nat.le_of_ble_eq_true rfl) hR.2.1) dX4_init_1 ?_
  refine g_aload_n C.1 0 dX4_init_4 rfl rfl ?_
  refine g_aload_n C.1 1 dX4_init_5 rfl rfl ?_
  refine c_putF4 C (τ := csR s 64 v0 (some v1)) hw.1 0 (by decide) kC_50 (fun _ h => h) rfl hnm rfl (ty := .object "SkiHill$Cell") (by decide +kernel) rfl rfl rfl hw.1.2 rfl (cx_4_0 _ _ (some v1)) (fun _ hb => csR_o hb) dX4_init_6 ?_
  replace hw := hw.2
  refine gJ.nm (fun s1 es1 => ?_)
  replace hw := hw s1 es1
  refine g_aload_n C.1 0 dX4_init_9 rfl rfl ?_
  refine g_aload_n C.1 2 dX4_init_10 rfl rfl ?_
  refine c_putF4 C (τ := csR s1 65 v0 (some v2)) hw.1 1 (by decide) kC_51 (fun _ h => h) rfl hnm rfl (ty := .object "SkiHill$Cell") (by decide +kernel) rfl rfl rfl hw.1.2 rfl (cx_4_1 _ _ (some v2)) (fun _ hb => csR_o hb) dX4_init_11 ?_
  replace hw := hw.2
  refine gJ.nm (fun s2 es2 => ?_)
  replace hw := hw s2 es2
  refine g_aload_n C.1 0 dX4_init_14 rfl rfl ?_
  refine g_iload_n C.1 3 dX4_init_15 rfl rfl ?_
  refine c_putF4 C (τ := csI s2 66 v0 v3) hw.1 2 (by decide) kC_227 (fun _ h => h) rfl hnm rfl (ty := .int) (by decide +kernel) rfl rfl rfl hw.1.2 rfl (cx_4_2 _ _ _) (fun _ hb => csI_o hb) dX4_init_16 ?_
  replace hw := hw.2
  refine gJ.nm (fun s3 es3 => ?_)
  replace hw := hw s3 es3
  exact hret _ _ _ hw dX4_init_19
theorem hdC_X4_init : yX4_init.cls = RX4 ∧ yX4_init.cls ≠ "java/lang/invoke/MethodHandle" ∧ yX4_init.cls ≠ "java/lang/invoke/VarHandle" ∧ (parseMethodDescriptor yX4_init.desc).map (fun d => d.parameters.length) = some 3 := by decide +kernel
theorem cC_X4_init (l : Launch) (G : cG) (s : CSt) (v0 : Nat) (v1 : Nat) (v2 : Nat) (v3 : Int32) (post : CSt → Prop) (hw : wpC_X4_init_0 post s v0 v1 v2 v3) : cMv l yX4_init cX4_init 4 1 24 0 0 G s [.ref v0, .ref v1, .ref v2, .int v3] post := cMv_of (by decide +kernel) rfl (Nat.le_of_ble_eq_true rfl) (fun X A H0 Q hl hR hsz hnm C hret => wkC_X4_init_0 C hsz hR hnm hret s v0 v1 v2 v3 hw)
def wpC_X5_init_0 (post : CSt → Prop) (s : CSt) (v0 : Nat) : Prop := ∀ q1 : Nat, q1 ∉ cL s → ∀ s2 : CSt, s2 = csA s q1 9 (400 : Int32).toNatClampNeg → cAt s2 5 v0 ∧ ∀ s3 : CSt, s3 = csR s2 82 v0 (some q1) → ∀ q4 : Nat, q4 ∉ cL s3 → ∀ s5 : CSt, s5 = csA s3 q4 8 (0 : Int32).toNatClampNeg → cAt s5 5 v0 ∧ ∀ s6 : CSt, s6 = csR s5 84 v0 (some q4) → post s6
theorem wkC_X5_init_0 {X : gT} {G : cG} {A : Nat → Prop} {H0 : Heap} {Q : State → Prop} (C : cC X cX5_init 1 RX5 G A) (hsz : H0 = (g_s X).heap) (hR : 1 ≤ (g_R X).frames ∧ 24 ≤ (g_R X).locals ∧ 2 ≤ (g_R X).cells ∧ 800 ≤ (g_R X).slots) (hnm : (g_me X).name = "<init>") {post : CSt → Prop} (hret : ∀ (τ : CSt) (lv : List (Nat × Value)) (pc : Nat), post τ → decode cX5_init pc = .ok (.return_, 1) → gJ X (cWd G A H0) Q 2 800 τ lv pc []) (s : CSt) (v0 : Nat) (hw : wpC_X5_init_0 post s v0) : gJ X (cWd G A H0) Q 0 0 s [(0, .ref v0)] 0 [] := by
  refine g_aload_n C.1 0 dX5_init_0 rfl rfl ?_
  refine g_objInit C.1 C.2.1 (C.2.2.1 _ kC_232) (C.2.2.1 _ kC_93) (C.2.2.1 _ kC_94) (Nat.le_trans (Nat.le_of_ble_eq_true rfl) hR.1) (Nat.le_trans (Nat.le_of_ble_eq_true rfl) hR.2.1) dX5_init_1 ?_
  refine g_aload_n C.1 0 dX5_init_4 rfl rfl ?_
  refine g_sipush (v := 400) C.1 dX5_init_5 (by decide) ?_
  refine c_newI (B := 400) C hsz (by decide) (by decide) (Nat.le_of_ble_eq_true rfl) (Nat.le_trans (Nat.le_of_ble_eq_true rfl) hR.2.2.1) (Nat.le_trans (Nat.le_of_ble_eq_true rfl) hR.2.2.2) dX5_init_8 (fun q1 hq1 => ?_)
  replace hw := hw q1 hq1
  refine gJ.nm (fun s2 es2 => ?_)
  replace hw := hw s2 es2
  refine c_putF5 C (τ := csR s2 82 v0 (some q1)) hw.1 2 (by decide) kC_233 (fun _ h => h) rfl hnm rfl (ty := .array .int) (by decide +kernel) rfl rfl rfl hw.1.2 rfl (cx_5_2 _ _ (some q1)) (fun _ hb => csR_o hb) dX5_init_10 ?_
  replace hw := hw.2
  refine gJ.nm (fun s3 es3 => ?_)
  replace hw := hw s3 es3
  refine g_aload_n C.1 0 dX5_init_13 rfl rfl ?_
  refine g_iconst (v := 0) C.1 dX5_init_14 (by decide) ?_
  refine c_newB (B := 400) C hsz (by decide) (by decide) (Nat.le_of_ble_eq_true rfl) (Nat.le_trans (Nat.le_of_ble_eq_true rfl) hR.2.2.1) (Nat.le_trans (Nat.le_of_ble_eq_true rfl) hR.2.2.2) dX5_init_15 (fun q4 hq4 => ?_)
  replace hw := hw q4 hq4
  refine gJ.nm (fun s5 es5 => ?_)
  replace hw := hw s5 es5
  refine c_put5 C (τ := csR s5 84 v0 (some q4)) hw.1 4 (by decide) kC_235 (fun _ h => h) rfl (ty := .array .byte) (by decide +kernel) rfl rfl rfl hw.1.2 rfl (cx_5_4 _ _ (some q4)) (fun _ hb => csR_o hb) dX5_init_17 ?_
  replace hw := hw.2
  refine gJ.nm (fun s6 es6 => ?_)
  replace hw := hw s6 es6
  exact hret _ _ _ hw dX5_init_20
theorem hdC_X5_init : yX5_init.cls = RX5 ∧ yX5_init.cls ≠ "java/lang/invoke/MethodHandle" ∧ yX5_init.cls ≠ "java/lang/invoke/VarHandle" ∧ (parseMethodDescriptor yX5_init.desc).map (fun d => d.parameters.length) = some 0 := by decide +kernel
theorem cC_X5_init (l : Launch) (G : cG) (s : CSt) (v0 : Nat) (post : CSt → Prop) (hw : wpC_X5_init_0 post s v0) : cMv l yX5_init cX5_init 1 1 24 2 800 G s [.ref v0] post := cMv_of (by decide +kernel) rfl (Nat.le_of_ble_eq_true rfl) (fun X A H0 Q hl hR hsz hnm C hret => wkC_X5_init_0 C hsz hR hnm hret s v0 hw)
def wpC_X6_init_0 (post : CSt → Prop) (s : CSt) (v0 : Nat) (v1 : Int32) (v2 : Int32) (v3 : Int32) (v4 : Int32) (v5 : Int32) : Prop := ∀ q1 : Nat, q1 ∉ cL s → ∀ s2 : CSt, s2 = csO s q1 0 → wpC_Jx4a65c_init_da8c8_0 (fun s3 => cAt s3 6 v0 ∧ ∀ s4 : CSt, s4 = csR s3 101 v0 (some q1) → ∀ q5 : Nat, q5 ∉ cL s4 → ∀ s6 : CSt, s6 = csA s4 q5 9 (0 : Int32).toNatClampNeg → cAt s6 6 v0 ∧ ∀ s7 : CSt, s7 = csR s6 104 v0 (some q5) → cAt s7 6 v0 ∧ ∀ s8 : CSt, s8 = csI s7 96 v0 v1 → cAt s8 6 v0 ∧ ∀ s9 : CSt, s9 = csI s8 97 v0 v2 → cAt s9 6 v0 ∧ ∀ s10 : CSt, s10 = csI s9 98 v0 v3 → cAt s10 6 v0 ∧ ∀ s11 : CSt, s11 = csI s10 99 v0 v4 → cAt s11 6 v0 ∧ ∀ s12 : CSt, s12 = csI s11 100 v0 v5 → post s12) s2 q1
theorem wkC_X6_init_0 {X : gT} {G : cG} {A : Nat → Prop} {H0 : Heap} {Q : State → Prop} (C : cC X cX6_init 6 RX6 G A) (hsz : H0 = (g_s X).heap) (hR : 4 ≤ (g_R X).frames ∧ 84 ≤ (g_R X).locals ∧ 2 ≤ (g_R X).cells ∧ 3 ≤ (g_R X).slots) (hnm : (g_me X).name = "<init>") {post : CSt → Prop} (hret : ∀ (τ : CSt) (lv : List (Nat × Value)) (pc : Nat), post τ → decode cX6_init pc = .ok (.return_, 1) → gJ X (cWd G A H0) Q 2 3 τ lv pc []) (s : CSt) (v0 : Nat) (v1 : Int32) (v2 : Int32) (v3 : Int32) (v4 : Int32) (v5 : Int32) (hw : wpC_X6_init_0 post s v0 v1 v2 v3 v4 v5) : gJ X (cWd G A H0) Q 0 0 s [(0, .ref v0), (1, .int v1), (2, .int v2), (3, .int v3), (4, .int v4), (5, .int v5)] 0 [] := by
  refine g_aload_n C.1 0 dX6_init_0 rfl rfl ?_
  refine g_objInit C.1 C.2.1 (C.2.2.1 _ kC_367) (C.2.2.1 _ kC_93) (C.2.2.1 _ kC_94) (Nat.le_trans (Nat.le_of_ble_eq_true rfl) hR.1) (Nat.le_trans (Nat.le_of_ble_eq_true rfl) hR.2.1) dX6_init_1 ?_
  refine g_aload_n C.1 0 dX6_init_4 rfl rfl ?_
  refine c_new0 C hsz kC_368 kC_133 kC_13 (Nat.le_trans (Nat.le_of_ble_eq_true rfl) hR.2.2.1) (Nat.le_trans (Nat.le_of_ble_eq_true rfl) hR.2.2.2) dX6_init_5 (fun q1 hq1 => ?_)
  replace hw := hw q1 hq1
  refine gJ.nm (fun s2 es2 => ?_)
  replace hw := hw s2 es2
  refine g_dup C.1 dX6_init_8 rfl ?_
  refine c_callIv (vs := []) C hsz (cC_Jx4a65c_init_da8c8 (g_l X) G s2 _ _ hw) kC_13 kC_376 kC_142 kC_143 rfl hdC_Jx4a65c_init_da8c8 ⟨(Nat.le_trans (Nat.le_of_ble_eq_true rfl) hR.1), (Nat.le_trans (Nat.le_of_ble_eq_true rfl) hR.2.1)⟩ ⟨(Nat.le_trans (Nat.le_of_ble_eq_true rfl) hR.2.2.1), (Nat.le_trans (Nat.le_of_ble_eq_true rfl) hR.2.2.2)⟩ dX6_init_9 rfl (Nat.le_of_ble_eq_true rfl) (fun s3 hw => ?_)
  refine c_putF6 C (τ := csR s3 101 v0 (some q1)) hw.1 5 (by decide) kC_369 (fun _ h => h) rfl hnm rfl (ty := .object "java/util/ArrayList") (by decide +kernel) rfl rfl rfl hw.1.2 rfl (cx_6_5 _ _ (some q1)) (fun _ hb => csR_o hb) dX6_init_12 ?_
  replace hw := hw.2
  refine gJ.nm (fun s4 es4 => ?_)
  replace hw := hw s4 es4
  refine g_aload_n C.1 0 dX6_init_15 rfl rfl ?_
  refine g_iconst (v := 0) C.1 dX6_init_16 (by decide) ?_
  refine c_newI (B := 0) C hsz (by decide) (by decide) (Nat.le_of_ble_eq_true rfl) (Nat.le_trans (Nat.le_of_ble_eq_true rfl) hR.2.2.1) (Nat.le_trans (Nat.le_of_ble_eq_true rfl) hR.2.2.2) dX6_init_17 (fun q5 hq5 => ?_)
  replace hw := hw q5 hq5
  refine gJ.nm (fun s6 es6 => ?_)
  replace hw := hw s6 es6
  refine c_put6 C (τ := csR s6 104 v0 (some q5)) hw.1 8 (by decide) kC_370 (fun _ h => h) rfl (ty := .array .int) (by decide +kernel) rfl rfl rfl hw.1.2 rfl (cx_6_8 _ _ (some q5)) (fun _ hb => csR_o hb) dX6_init_19 ?_
  replace hw := hw.2
  refine gJ.nm (fun s7 es7 => ?_)
  replace hw := hw s7 es7
  refine g_aload_n C.1 0 dX6_init_22 rfl rfl ?_
  refine g_iload_n C.1 1 dX6_init_23 rfl rfl ?_
  refine c_putF6 C (τ := csI s7 96 v0 v1) hw.1 0 (by decide) kC_371 (fun _ h => h) rfl hnm rfl (ty := .int) (by decide +kernel) rfl rfl rfl hw.1.2 rfl (cx_6_0 _ _ _) (fun _ hb => csI_o hb) dX6_init_24 ?_
  replace hw := hw.2
  refine gJ.nm (fun s8 es8 => ?_)
  replace hw := hw s8 es8
  refine g_aload_n C.1 0 dX6_init_27 rfl rfl ?_
  refine g_iload_n C.1 2 dX6_init_28 rfl rfl ?_
  refine c_putF6 C (τ := csI s8 97 v0 v2) hw.1 1 (by decide) kC_372 (fun _ h => h) rfl hnm rfl (ty := .int) (by decide +kernel) rfl rfl rfl hw.1.2 rfl (cx_6_1 _ _ _) (fun _ hb => csI_o hb) dX6_init_29 ?_
  replace hw := hw.2
  refine gJ.nm (fun s9 es9 => ?_)
  replace hw := hw s9 es9
  refine g_aload_n C.1 0 dX6_init_32 rfl rfl ?_
  refine g_iload_n C.1 3 dX6_init_33 rfl rfl ?_
  refine c_putF6 C (τ := csI s9 98 v0 v3) hw.1 2 (by decide) kC_373 (fun _ h => h) rfl hnm rfl (ty := .int) (by decide +kernel) rfl rfl rfl hw.1.2 rfl (cx_6_2 _ _ _) (fun _ hb => csI_o hb) dX6_init_34 ?_
  replace hw := hw.2
  refine gJ.nm (fun s10 es10 => ?_)
  replace hw := hw s10 es10
  refine g_aload_n C.1 0 dX6_init_37 rfl rfl ?_
  refine g_iload C.1 4 dX6_init_38 rfl ?_
  refine c_putF6 C (τ := csI s10 99 v0 v4) hw.1 3 (by decide) kC_374 (fun _ h => h) rfl hnm rfl (ty := .int) (by decide +kernel) rfl rfl rfl hw.1.2 rfl (cx_6_3 _ _ _) (fun _ hb => csI_o hb) dX6_init_40 ?_
  replace hw := hw.2
  refine gJ.nm (fun s11 es11 => ?_)
  replace hw := hw s11 es11
  refine g_aload_n C.1 0 dX6_init_43 rfl rfl ?_
  refine g_iload C.1 5 dX6_init_44 rfl ?_
  refine c_putF6 C (τ := csI s11 100 v0 v5) hw.1 4 (by decide) kC_375 (fun _ h => h) rfl hnm rfl (ty := .int) (by decide +kernel) rfl rfl rfl hw.1.2 rfl (cx_6_4 _ _ _) (fun _ hb => csI_o hb) dX6_init_46 ?_
  replace hw := hw.2
  refine gJ.nm (fun s12 es12 => ?_)
  replace hw := hw s12 es12
  exact hret _ _ _ hw dX6_init_49
theorem hdC_X6_init : yX6_init.cls = RX6 ∧ yX6_init.cls ≠ "java/lang/invoke/MethodHandle" ∧ yX6_init.cls ≠ "java/lang/invoke/VarHandle" ∧ (parseMethodDescriptor yX6_init.desc).map (fun d => d.parameters.length) = some 5 := by decide +kernel
theorem cC_X6_init (l : Launch) (G : cG) (s : CSt) (v0 : Nat) (v1 : Int32) (v2 : Int32) (v3 : Int32) (v4 : Int32) (v5 : Int32) (post : CSt → Prop) (hw : wpC_X6_init_0 post s v0 v1 v2 v3 v4 v5) : cMv l yX6_init cX6_init 6 4 84 2 3 G s [.ref v0, .int v1, .int v2, .int v3, .int v4, .int v5] post := cMv_of (by decide +kernel) rfl (Nat.le_of_ble_eq_true rfl) (fun X A H0 Q hl hR hsz hnm C hret => wkC_X6_init_0 C hsz hR hnm hret s v0 v1 v2 v3 v4 v5 hw)
def wpC_X3_takeLast_0 (mc ms : Nat) (post : CSt → Prop) (s : CSt) (v0 : Nat) (v1 : Nat) : Prop := cAt s 3 v0 ∧ ∃ a1 : Nat, cR s 54 v0 = some a1 ∧ ∃ m2 m3 : Nat, 0 + m2 ≤ mc ∧ 0 + m3 ≤ ms ∧ cAt s 0 a1 ∧ wpC_Jx4a65c_add_9ea2d_0 m2 m3 (fun r6 s4 => cAt s4 3 v0 ∧ cAt s4 2 v1 ∧ cAt s4 3 v0 ∧ ∀ s7 : CSt, s7 = csI s4 55 v0 ((cI s4 55 v0) + (cI s4 33 v1)) → 0 + m2 ≤ mc ∧ 0 + m3 ≤ ms ∧ post s7) s a1 v1
theorem wkC_X3_takeLast_0 {mc ms : Nat} {X : gT} {G : cG} {A : Nat → Prop} {H0 : Heap} {Q : State → Prop} (C : cC X cX3_takeLast 2 RX3 G A) (hsz : H0 = (g_s X).heap) (hR : 7 ≤ (g_R X).frames ∧ 191 ≤ (g_R X).locals ∧ mc ≤ (g_R X).cells ∧ ms ≤ (g_R X).slots) {post : CSt → Prop} (hret : ∀ (τ : CSt) (lv : List (Nat × Value)) (pc : Nat), post τ → decode cX3_takeLast pc = .ok (.return_, 1) → gJ X (cWd G A H0) Q mc ms τ lv pc []) (s : CSt) (v0 : Nat) (v1 : Nat) (hw : wpC_X3_takeLast_0 mc ms post s v0 v1) : gJ X (cWd G A H0) Q 0 0 s [(0, .ref v0), (1, .ref v1)] 0 [] := by
  refine g_aload_n C.1 0 dX3_takeLast_0 rfl rfl ?_
  refine c_get3 C hw.1 6 (by decide) kC_134 (fun _ h => h) rfl dX3_takeLast_1 ?_
  replace hw := hw.2
  obtain ⟨a1, ha1, hw⟩ := hw
  rw [ha1]
  refine g_aload_n C.1 1 dX3_takeLast_4 rfl rfl ?_
  obtain ⟨m2, m3, gm2, gm3, hw⟩ := hw
  have hk5 : 0 + m2 ≤ mc ∧ 0 + m3 ≤ ms := ⟨gm2, gm3⟩
  refine c_callVi (vs := [.ref v1]) C hsz (cC_Jx4a65c_add_9ea2d m2 m3 (g_l X) G s _ _ _ hw.2) kC_13 kC_158 kC_159 kC_160 kC_161 hdC_Jx4a65c_add_9ea2d (c_recv0 C hw.1) ⟨(Nat.le_trans (Nat.le_of_ble_eq_true rfl) hR.1), (Nat.le_trans (Nat.le_of_ble_eq_true rfl) hR.2.1)⟩ ⟨Nat.le_trans hk5.1 hR.2.2.1, Nat.le_trans hk5.2 hR.2.2.2⟩ dX3_takeLast_5 rfl (Nat.le_of_ble_eq_true rfl) (fun r6 s4 hw => ?_)
  refine g_pop C.1 dX3_takeLast_8 rfl ?_
  refine g_aload_n C.1 0 dX3_takeLast_9 rfl rfl ?_
  refine g_dup C.1 dX3_takeLast_10 rfl ?_
  refine c_get3 C hw.1 7 (by decide) kC_156 (fun _ h => h) rfl dX3_takeLast_11 ?_
  replace hw := hw.2
  refine g_aload_n C.1 1 dX3_takeLast_14 rfl rfl ?_
  refine c_get2 C hw.1 1 (by decide) kC_157 (fun _ h => h) rfl dX3_takeLast_15 ?_
  replace hw := hw.2
  refine g_iadd C.1 dX3_takeLast_18 ?_
  refine c_put3 C (τ := csI s4 55 v0 ((cI s4 55 v0) + (cI s4 33 v1))) hw.1 7 (by decide) kC_156 (fun _ h => h) rfl (ty := .int) (by decide +kernel) rfl rfl rfl hw.1.2 rfl (cx_3_7 _ _ _) (fun _ hb => csI_o hb) dX3_takeLast_19 ?_
  replace hw := hw.2
  refine gJ.nm (fun s7 es7 => ?_)
  replace hw := hw s7 es7
  refine gJ.widen hw.1 hw.2.1 ?_
  replace hw := hw.2.2
  exact hret _ _ _ hw dX3_takeLast_22
theorem hdC_X3_takeLast : yX3_takeLast.cls = RX3 ∧ yX3_takeLast.cls ≠ "java/lang/invoke/MethodHandle" ∧ yX3_takeLast.cls ≠ "java/lang/invoke/VarHandle" ∧ (parseMethodDescriptor yX3_takeLast.desc).map (fun d => d.parameters.length) = some 1 := by decide +kernel
theorem cC_X3_takeLast (mc ms : Nat) (l : Launch) (G : cG) (s : CSt) (v0 : Nat) (v1 : Nat) (post : CSt → Prop) (hw : wpC_X3_takeLast_0 mc ms post s v0 v1) : cMv l yX3_takeLast cX3_takeLast 2 7 191 mc ms G s [.ref v0, .ref v1] post := cMv_of (by decide +kernel) rfl (Nat.le_of_ble_eq_true rfl) (fun X A H0 Q hl hR hsz hnm C hret => wkC_X3_takeLast_0 C hsz hR hret s v0 v1 hw)
def wpC_X3_fill_7_F (post : CSt → Prop) (K7 : CSt → Nat → Int32 → Int32 → Prop) (s : CSt) (v0 : Nat) (v1 : Int32) (v2 : Int32) : Prop := (60 ≤ v2 → post s) ∧ (¬ 60 ≤ v2 → cAt s 3 v0 ∧ ∃ a2 : Nat, cR s 54 v0 = some a2 ∧ cAt s 0 a2 ∧ wpC_Jx4a65c_isEmpty_aae02_0 (fun r4 s3 => (¬ r4 = 0 → post s3) ∧ (r4 = 0 → cAt s3 3 v0 ∧ ∃ a6 : Nat, cR s3 54 v0 = some a6 ∧ cAt s3 0 a6 ∧ wpC_Jx4a65c_get_915e3_0 (fun r8 s7 => ∃ a9 : Nat, r8 = some a9 ∧ cAt s7 2 a9 ∧ cAt s7 2 a9 ∧ (v1 < (cI s7 33 a9) → post s7) ∧ (¬ v1 < (cI s7 33 a9) → cAt s7 3 v0 ∧ ∃ a11 : Nat, cR s7 54 v0 = some a11 ∧ cAt s7 0 a11 ∧ wpC_Jx4a65c_remove_915e3_0 (fun r13 s12 => ∃ a14 : Nat, r13 = some a14 ∧ cAt s12 2 a14 ∧ cAt s12 2 a14 ∧ cAt s12 3 v0 ∧ cAt s12 2 a14 ∧ cAt s12 3 v0 ∧ ∀ s15 : CSt, s15 = csI s12 55 v0 ((cI s12 55 v0) - (cI s12 33 a14)) → cAt s15 2 a14 ∧ wpC_X2_rideOn_0 (fun s16 => K7 s16 v0 (v1 - (cI s12 33 a14)) (v2 + 1)) s15 a14 v0) s7 a11 0)) s3 a6 0)) s a2)
def wpC_X3_fill_7 (post : CSt → Prop) (s : CSt) (v0 : Nat) (v1 : Int32) (v2 : Int32) : Prop := gLP (fun (K : CSt × Nat × Int32 × Int32 → Prop) (x : CSt × Nat × Int32 × Int32) => wpC_X3_fill_7_F post (fun s v0 v1 v2 => K (s, v0, v1, v2)) x.1 x.2.1 x.2.2.1 x.2.2.2) (s, v0, v1, v2)
def wpC_X3_fill_0 (post : CSt → Prop) (s : CSt) (v0 : Nat) : Prop := cAt s 3 v0 ∧ wpC_X3_fill_7 post s v0 (cI s 51 v0) 0
theorem wkC_X3_fill_7_F {X : gT} {G : cG} {A : Nat → Prop} {H0 : Heap} {Q : State → Prop} (C : cC X cX3_fill 4 RX3 G A) (hsz : H0 = (g_s X).heap) (hR : 3 ≤ (g_R X).frames ∧ 106 ≤ (g_R X).locals ∧ 0 ≤ (g_R X).cells ∧ 0 ≤ (g_R X).slots) {post : CSt → Prop} (hret : ∀ (τ : CSt) (lv : List (Nat × Value)) (pc : Nat), post τ → decode cX3_fill pc = .ok (.return_, 1) → gJ X (cWd G A H0) Q 0 0 τ lv pc []) {K7 : CSt → Nat → Int32 → Int32 → Prop} (hK7 : ∀ (s : CSt) (v0 : Nat) (v1 : Int32) (v2 : Int32), K7 s v0 v1 v2 → gJ X (cWd G A H0) Q 0 0 s [(0, .ref v0), (1, .int v1), (2, .int v2)] 7 []) (s : CSt) (v0 : Nat) (v1 : Int32) (v2 : Int32) (hw : wpC_X3_fill_7_F post K7 s v0 v1 v2) : gJ X (cWd G A H0) Q 0 0 s [(0, .ref v0), (1, .int v1), (2, .int v2)] 7 [] := by
  refine g_iload_n C.1 2 dX3_fill_7 rfl rfl ?_
  refine g_bipush (v := 60) C.1 dX3_fill_8 (by decide) ?_
  refine g_icmp_ge (tgt := 84) C.1 dX3_fill_10 (by decide) (fun h1 => ?_) (fun h1 => ?_)
  · replace hw := hw.1 h1
    exact hret _ _ _ hw dX3_fill_84
  · replace hw := hw.2 h1
    refine g_aload_n C.1 0 dX3_fill_13 rfl rfl ?_
    refine c_get3 C hw.1 6 (by decide) kC_134 (fun _ h => h) rfl dX3_fill_14 ?_
    replace hw := hw.2
    obtain ⟨a2, ha2, hw⟩ := hw
    rw [ha2]
    refine c_callVi (vs := []) C hsz (cC_Jx4a65c_isEmpty_aae02 (g_l X) G s _ _ hw.2) kC_13 kC_207 kC_208 kC_209 kC_210 hdC_Jx4a65c_isEmpty_aae02 (c_recv0 C hw.1) ⟨(Nat.le_trans (Nat.le_of_ble_eq_true rfl) hR.1), (Nat.le_trans (Nat.le_of_ble_eq_true rfl) hR.2.1)⟩ ⟨(Nat.le_trans (Nat.le_of_ble_eq_true rfl) hR.2.2.1), (Nat.le_trans (Nat.le_of_ble_eq_true rfl) hR.2.2.2)⟩ dX3_fill_17 rfl (Nat.le_of_ble_eq_true rfl) (fun r4 s3 hw => ?_)
    refine g_if_ne (tgt := 84) C.1 dX3_fill_20 (by decide) (fun h5 => ?_) (fun h5 => ?_)
    · replace hw := hw.1 h5
      exact hret _ _ _ hw dX3_fill_84
    · replace hw := hw.2 h5
      refine g_aload_n C.1 0 dX3_fill_23 rfl rfl ?_
      refine c_get3 C hw.1 6 (by decide) kC_134 (fun _ h => h) rfl dX3_fill_24 ?_
      replace hw := hw.2
      obtain ⟨a6, ha6, hw⟩ := hw
      rw [ha6]
      refine g_iconst (v := 0) C.1 dX3_fill_27 (by decide) ?_
      refine c_callVq (vs := [.int 0]) C hsz (cC_Jx4a65c_get_915e3 (g_l X) G s3 _ _ _ hw.2) kC_13 kC_211 kC_17 kC_18 kC_19 hdC_Jx4a65c_get_915e3 (c_recv0 C hw.1) ⟨(Nat.le_trans (Nat.le_of_ble_eq_true rfl) hR.1), (Nat.le_trans (Nat.le_of_ble_eq_true rfl) hR.2.1)⟩ ⟨(Nat.le_trans (Nat.le_of_ble_eq_true rfl) hR.2.2.1), (Nat.le_trans (Nat.le_of_ble_eq_true rfl) hR.2.2.2)⟩ dX3_fill_28 rfl (Nat.le_of_ble_eq_true rfl) (fun r8 s7 hw => ?_)
      obtain ⟨a9, ha9, hw⟩ := hw
      rw [ha9]
      refine c_cast2 C hw.1 kC_206 dX3_fill_31 ?_
      replace hw := hw.2
      refine c_get2 C hw.1 1 (by decide) kC_157 (fun _ h => h) rfl dX3_fill_34 ?_
      replace hw := hw.2
      refine g_iload_n C.1 1 dX3_fill_37 rfl rfl ?_
      refine g_icmp_gt (tgt := 84) C.1 dX3_fill_38 (by decide) (fun h10 => ?_) (fun h10 => ?_)
      · replace hw := hw.1 h10
        exact hret _ _ _ hw dX3_fill_84
      · replace hw := hw.2 h10
        refine g_aload_n C.1 0 dX3_fill_41 rfl rfl ?_
        refine c_get3 C hw.1 6 (by decide) kC_134 (fun _ h => h) rfl dX3_fill_42 ?_
        replace hw := hw.2
        obtain ⟨a11, ha11, hw⟩ := hw
        rw [ha11]
        refine g_iconst (v := 0) C.1 dX3_fill_45 (by decide) ?_
        refine c_callVq (vs := [.int 0]) C hsz (cC_Jx4a65c_remove_915e3 (g_l X) G s7 _ _ _ hw.2) kC_13 kC_212 kC_213 kC_214 kC_215 hdC_Jx4a65c_remove_915e3 (c_recv0 C hw.1) ⟨(Nat.le_trans (Nat.le_of_ble_eq_true rfl) hR.1), (Nat.le_trans (Nat.le_of_ble_eq_true rfl) hR.2.1)⟩ ⟨(Nat.le_trans (Nat.le_of_ble_eq_true rfl) hR.2.2.1), (Nat.le_trans (Nat.le_of_ble_eq_true rfl) hR.2.2.2)⟩ dX3_fill_46 rfl (Nat.le_of_ble_eq_true rfl) (fun r13 s12 hw => ?_)
        obtain ⟨a14, ha14, hw⟩ := hw
        rw [ha14]
        refine c_cast2 C hw.1 kC_206 dX3_fill_49 ?_
        replace hw := hw.2
        refine g_astore_n (lv' := [(3, .ref a14), (0, .ref v0), (1, .int v1), (2, .int v2)]) C.1 dX3_fill_52 rfl (by decide) rfl ?_
        refine g_iload_n C.1 2 dX3_fill_53 rfl rfl ?_
        refine g_aload_n C.1 0 dX3_fill_54 rfl rfl ?_
        refine c_get2 C hw.1 1 (by decide) kC_157 (fun _ h => h) rfl dX3_fill_55 ?_
        replace hw := hw.2
        refine g_isub C.1 dX3_fill_58 ?_
        refine g_istore_n (lv' := [(1, .int (v1 - (cI s12 33 a14))), (3, .ref a14), (0, .ref v0), (2, .int v2)]) C.1 dX3_fill_59 rfl (by decide) rfl ?_
        refine g_aload_n C.1 2 dX3_fill_60 rfl rfl ?_
        refine g_dup C.1 dX3_fill_61 rfl ?_
        refine c_get3 C hw.1 7 (by decide) kC_156 (fun _ h => h) rfl dX3_fill_62 ?_
        replace hw := hw.2
        refine g_aload_n C.1 1 dX3_fill_65 rfl rfl ?_
        refine c_get2 C hw.1 1 (by decide) kC_157 (fun _ h => h) rfl dX3_fill_66 ?_
        replace hw := hw.2
        refine g_isub C.1 dX3_fill_69 ?_
        refine c_put3 C (τ := csI s12 55 v0 ((cI s12 55 v0) - (cI s12 33 a14))) hw.1 7 (by decide) kC_156 (fun _ h => h) rfl (ty := .int) (by decide +kernel) rfl rfl rfl hw.1.2 rfl (cx_3_7 _ _ _) (fun _ hb => csI_o hb) dX3_fill_70 ?_
        replace hw := hw.2
        refine gJ.nm (fun s15 es15 => ?_)
        replace hw := hw s15 es15
        refine g_aload_n C.1 1 dX3_fill_73 rfl rfl ?_
        refine g_aload_n C.1 2 dX3_fill_74 rfl rfl ?_
        refine c_callVv (vs := [.ref v0]) C hsz (cC_X2_rideOn (g_l X) G s15 _ _ _ hw.2) kC_224 kC_221 kC_222 kC_223 kC_130 hdC_X2_rideOn (c_recv2 C hw.1) ⟨(Nat.le_trans (Nat.le_of_ble_eq_true rfl) hR.1), (Nat.le_trans (Nat.le_of_ble_eq_true rfl) hR.2.1)⟩ ⟨(Nat.le_trans (Nat.le_of_ble_eq_true rfl) hR.2.2.1), (Nat.le_trans (Nat.le_of_ble_eq_true rfl) hR.2.2.2)⟩ dX3_fill_75 rfl (Nat.le_of_ble_eq_true rfl) (fun s16 hw => ?_)
        refine g_iinc (v := v2 + 1) (lv' := [(2, .int (v2 + 1)), (1, .int (v1 - (cI s12 33 a14))), (3, .ref a14), (0, .ref v0)]) C.1 3 dX3_fill_78 rfl rfl (by decide) rfl ?_
        refine g_goto (tgt := 7) C.1 dX3_fill_81 (by decide) ?_
        refine gJ.sub [3, 1, 0] rfl ?_
        exact hK7 _ _ _ _ hw
theorem wkC_X3_fill_7 {X : gT} {G : cG} {A : Nat → Prop} {H0 : Heap} {Q : State → Prop} (C : cC X cX3_fill 4 RX3 G A) (hsz : H0 = (g_s X).heap) (hR : 3 ≤ (g_R X).frames ∧ 106 ≤ (g_R X).locals ∧ 0 ≤ (g_R X).cells ∧ 0 ≤ (g_R X).slots) {post : CSt → Prop} (hret : ∀ (τ : CSt) (lv : List (Nat × Value)) (pc : Nat), post τ → decode cX3_fill pc = .ok (.return_, 1) → gJ X (cWd G A H0) Q 0 0 τ lv pc []) (s : CSt) (v0 : Nat) (v1 : Int32) (v2 : Int32) (hw : wpC_X3_fill_7 post s v0 v1 v2) : gJ X (cWd G A H0) Q 0 0 s [(0, .ref v0), (1, .int v1), (2, .int v2)] 7 [] := 
  hw (fun (x : CSt × Nat × Int32 × Int32) => (fun s v0 v1 v2 => gJ X (cWd G A H0) Q 0 0 s [(0, .ref v0), (1, .int v1), (2, .int v2)] 7 []) x.1 x.2.1 x.2.2.1 x.2.2.2) (fun x hx => wkC_X3_fill_7_F C hsz hR hret (K7 := (fun s v0 v1 v2 => gJ X (cWd G A H0) Q 0 0 s [(0, .ref v0), (1, .int v1), (2, .int v2)] 7 [])) (fun _ _ _ _ h => h) x.1 x.2.1 x.2.2.1 x.2.2.2 hx)
theorem wkC_X3_fill_0 {X : gT} {G : cG} {A : Nat → Prop} {H0 : Heap} {Q : State → Prop} (C : cC X cX3_fill 4 RX3 G A) (hsz : H0 = (g_s X).heap) (hR : 3 ≤ (g_R X).frames ∧ 106 ≤ (g_R X).locals ∧ 0 ≤ (g_R X).cells ∧ 0 ≤ (g_R X).slots) {post : CSt → Prop} (hret : ∀ (τ : CSt) (lv : List (Nat × Value)) (pc : Nat), post τ → decode cX3_fill pc = .ok (.return_, 1) → gJ X (cWd G A H0) Q 0 0 τ lv pc []) (s : CSt) (v0 : Nat) (hw : wpC_X3_fill_0 post s v0) : gJ X (cWd G A H0) Q 0 0 s [(0, .ref v0)] 0 [] := by
  refine g_aload_n C.1 0 dX3_fill_0 rfl rfl ?_
  refine c_get3 C hw.1 3 (by decide) kC_138 (fun _ h => h) rfl dX3_fill_1 ?_
  replace hw := hw.2
  refine g_istore_n (lv' := [(1, .int (cI s 51 v0)), (0, .ref v0)]) C.1 dX3_fill_4 rfl (by decide) rfl ?_
  refine g_iconst (v := 0) C.1 dX3_fill_5 (by decide) ?_
  refine g_istore_n (lv' := [(2, .int 0), (1, .int (cI s 51 v0)), (0, .ref v0)]) C.1 dX3_fill_6 rfl (by decide) rfl ?_
  refine gJ.sub [2, 1, 0] rfl ?_
  exact wkC_X3_fill_7 C hsz hR hret _ _ _ _ hw
theorem hdC_X3_fill : yX3_fill.cls = RX3 ∧ yX3_fill.cls ≠ "java/lang/invoke/MethodHandle" ∧ yX3_fill.cls ≠ "java/lang/invoke/VarHandle" ∧ (parseMethodDescriptor yX3_fill.desc).map (fun d => d.parameters.length) = some 0 := by decide +kernel
theorem cC_X3_fill (l : Launch) (G : cG) (s : CSt) (v0 : Nat) (post : CSt → Prop) (hw : wpC_X3_fill_0 post s v0) : cMv l yX3_fill cX3_fill 4 3 106 0 0 G s [.ref v0] post := cMv_of (by decide +kernel) rfl (Nat.le_of_ble_eq_true rfl) (fun X A H0 Q hl hR hsz hnm C hret => wkC_X3_fill_0 C hsz hR hret s v0 hw)
