def wpC_X5_readNaming_38 (post : Int32 → CSt → Prop) (s : CSt) (v0 : Nat) : Prop := cAt s 5 v0 ∧ wpC_X5_fails_0 (fun r2 s1 => narrow .boolean (.int r2) = .int r2 ∧ post r2 s1) s v0
def wpC_X5_readNaming_63 (post : Int32 → CSt → Prop) (s : CSt) (v0 : Nat) (v1 : Int32) : Prop := cAt s 5 v0 ∧ cAt s 5 v0 ∧ wpC_X5_write_0 (fun s3 => cAt s3 5 v0 ∧ wpC_X5_advance_0 (fun s4 => post 1 s4) s3 v0) s v0 v1 0 (cI s 91 v0)
def wpC_X5_readNaming_20 (post : Int32 → CSt → Prop) (s : CSt) (v0 : Nat) (v1 : Int32) (w0 : Int32) : Prop := cAt s 5 v0 ∧ (¬ (cI s 90 v0) = 14 → wpC_X5_readNaming_38 post s v0) ∧ ((cI s 90 v0) = 14 → cAt s 5 v0 ∧ ((cI s 91 v0) < w0 → (¬ v1 = 4 → wpC_X5_readNaming_63 post s v0 v1) ∧ (v1 = 4 → cAt s 5 v0 ∧ cAt s 5 v0 ∧ cAt s 5 v0 ∧ ∀ s8 : CSt, s8 = csI s 81 v0 ((cI s 81 v0) ||| (1 <<< ((cI s 91 v0) &&& 31))) → wpC_X5_readNaming_63 post s8 v0 v1)) ∧ (¬ (cI s 91 v0) < w0 → wpC_X5_readNaming_38 post s v0))
def wpC_X5_readNaming_0 (post : Int32 → CSt → Prop) (s : CSt) (v0 : Nat) (v1 : Int32) : Prop := cAt s 5 v0 ∧ wpC_X5_advance_0 (fun s9 => (¬ v1 = 4 → cAt s9 5 v0 ∧ wpC_X5_readNaming_20 post s9 v0 v1 (cI s9 87 v0)) ∧ (v1 = 4 → cAt s9 5 v0 ∧ wpC_X5_readNaming_20 post s9 v0 v1 (cI s9 86 v0))) s v0
theorem wkC_X5_readNaming_38 {X : gT} {G : cG} {A : Nat → Prop} {H0 : Heap} {Q : State → Prop} (C : cC X cX5_readNaming 3 RX5 G A) (hsz : H0 = (g_s X).heap) (hR : 7 ≤ (g_R X).frames ∧ 147 ≤ (g_R X).locals ∧ 0 ≤ (g_R X).cells ∧ 0 ≤ (g_R X).slots) {post : Int32 → CSt → Prop} (hret : ∀ (r : Int32) (τ : CSt) (lv : List (Nat × Value)) (pc : Nat), post r τ → narrow .boolean (.int r) = .int r → decode cX5_readNaming pc = .ok (.ireturn, 1) → gJ X (cWd G A H0) Q 0 0 τ lv pc [.int r]) (s : CSt) (v0 : Nat) (hw : wpC_X5_readNaming_38 post s v0) : gJ X (cWd G A H0) Q 0 0 s [(0, .ref v0)] 38 [] := by
  refine g_aload_n C.1 0 dX5_readNaming_38 rfl rfl ?_
  refine c_callVi (vs := []) C hsz (cC_X5_fails (g_l X) G s _ _ hw.2) kC_256 kC_325 kC_326 kC_327 kC_318 hdC_X5_fails (c_recv5 C hw.1) ⟨(Nat.le_trans (Nat.le_of_ble_eq_true rfl) hR.1), (Nat.le_trans (Nat.le_of_ble_eq_true rfl) hR.2.1)⟩ ⟨(Nat.le_trans (Nat.le_of_ble_eq_true rfl) hR.2.2.1), (Nat.le_trans (Nat.le_of_ble_eq_true rfl) hR.2.2.2)⟩ dX5_readNaming_39 rfl (Nat.le_of_ble_eq_true rfl) (fun r2 s1 hw => ?_)
  exact hret _ _ _ _ hw.2 hw.1 dX5_readNaming_42
theorem wkC_X5_readNaming_63 {X : gT} {G : cG} {A : Nat → Prop} {H0 : Heap} {Q : State → Prop} (C : cC X cX5_readNaming 3 RX5 G A) (hsz : H0 = (g_s X).heap) (hR : 7 ≤ (g_R X).frames ∧ 147 ≤ (g_R X).locals ∧ 0 ≤ (g_R X).cells ∧ 0 ≤ (g_R X).slots) {post : Int32 → CSt → Prop} (hret : ∀ (r : Int32) (τ : CSt) (lv : List (Nat × Value)) (pc : Nat), post r τ → narrow .boolean (.int r) = .int r → decode cX5_readNaming pc = .ok (.ireturn, 1) → gJ X (cWd G A H0) Q 0 0 τ lv pc [.int r]) (s : CSt) (v0 : Nat) (v1 : Int32) (hw : wpC_X5_readNaming_63 post s v0 v1) : gJ X (cWd G A H0) Q 0 0 s [(0, .ref v0), (1, .int v1)] 63 [] := by
  refine g_aload_n C.1 0 dX5_readNaming_63 rfl rfl ?_
  refine g_iload_n C.1 1 dX5_readNaming_64 rfl rfl ?_
  refine g_iconst (v := 0) C.1 dX5_readNaming_65 (by decide) ?_
  refine g_aload_n C.1 0 dX5_readNaming_66 rfl rfl ?_
  refine c_get5 C hw.1 11 (by decide) kC_297 (fun _ h => h) rfl dX5_readNaming_67 ?_
  replace hw := hw.2
  refine c_callVv (vs := [.int v1, .int 0, .int (cI s 91 v0)]) C hsz (cC_X5_write (g_l X) G s _ _ _ _ _ hw.2) kC_256 kC_328 kC_329 kC_330 kC_316 hdC_X5_write (c_recv5 C hw.1) ⟨(Nat.le_trans (Nat.le_of_ble_eq_true rfl) hR.1), (Nat.le_trans (Nat.le_of_ble_eq_true rfl) hR.2.1)⟩ ⟨(Nat.le_trans (Nat.le_of_ble_eq_true rfl) hR.2.2.1), (Nat.le_trans (Nat.le_of_ble_eq_true rfl) hR.2.2.2)⟩ dX5_readNaming_70 rfl (Nat.le_of_ble_eq_true rfl) (fun s3 hw => ?_)
  refine g_aload_n C.1 0 dX5_readNaming_73 rfl rfl ?_
  refine c_callVv (vs := []) C hsz (cC_X5_advance (g_l X) G s3 _ _ hw.2) kC_256 kC_322 kC_323 kC_324 kC_314 hdC_X5_advance (c_recv5 C hw.1) ⟨(Nat.le_trans (Nat.le_of_ble_eq_true rfl) hR.1), (Nat.le_trans (Nat.le_of_ble_eq_true rfl) hR.2.1)⟩ ⟨(Nat.le_trans (Nat.le_of_ble_eq_true rfl) hR.2.2.1), (Nat.le_trans (Nat.le_of_ble_eq_true rfl) hR.2.2.2)⟩ dX5_readNaming_74 rfl (Nat.le_of_ble_eq_true rfl) (fun s4 hw => ?_)
  refine g_iconst (v := 1) C.1 dX5_readNaming_77 (by decide) ?_
  exact hret _ _ _ _ hw rfl dX5_readNaming_78
theorem wkC_X5_readNaming_20 {X : gT} {G : cG} {A : Nat → Prop} {H0 : Heap} {Q : State → Prop} (C : cC X cX5_readNaming 3 RX5 G A) (hsz : H0 = (g_s X).heap) (hR : 7 ≤ (g_R X).frames ∧ 147 ≤ (g_R X).locals ∧ 0 ≤ (g_R X).cells ∧ 0 ≤ (g_R X).slots) {post : Int32 → CSt → Prop} (hret : ∀ (r : Int32) (τ : CSt) (lv : List (Nat × Value)) (pc : Nat), post r τ → narrow .boolean (.int r) = .int r → decode cX5_readNaming pc = .ok (.ireturn, 1) → gJ X (cWd G A H0) Q 0 0 τ lv pc [.int r]) (s : CSt) (v0 : Nat) (v1 : Int32) (w0 : Int32) (hw : wpC_X5_readNaming_20 post s v0 v1 w0) : gJ X (cWd G A H0) Q 0 0 s [(0, .ref v0), (1, .int v1)] 20 [.int w0] := by
  refine g_istore_n (lv' := [(2, .int w0), (0, .ref v0), (1, .int v1)]) C.1 dX5_readNaming_20 rfl (by decide) rfl ?_
  refine g_aload_n C.1 1 dX5_readNaming_21 rfl rfl ?_
  refine c_get5 C hw.1 10 (by decide) kC_299 (fun _ h => h) rfl dX5_readNaming_22 ?_
  replace hw := hw.2
  refine g_bipush (v := 14) C.1 dX5_readNaming_25 (by decide) ?_
  refine g_icmp_ne (tgt := 38) C.1 dX5_readNaming_27 (by decide) (fun h5 => ?_) (fun h5 => ?_)
  · replace hw := hw.1 h5
    refine gJ.sub [1] rfl ?_
    exact wkC_X5_readNaming_38 C hsz hR hret _ _ hw
  · replace hw := hw.2 h5
    refine g_aload_n C.1 1 dX5_readNaming_30 rfl rfl ?_
    refine c_get5 C hw.1 11 (by decide) kC_297 (fun _ h => h) rfl dX5_readNaming_31 ?_
    replace hw := hw.2
    refine g_iload_n C.1 0 dX5_readNaming_34 rfl rfl ?_
    refine g_icmp_lt (tgt := 43) C.1 dX5_readNaming_35 (by decide) (fun h6 => ?_) (fun h6 => ?_)
    · replace hw := hw.1 h6
      refine g_iload_n C.1 2 dX5_readNaming_43 rfl rfl ?_
      refine g_iconst (v := 4) C.1 dX5_readNaming_44 (by decide) ?_
      refine g_icmp_ne (tgt := 63) C.1 dX5_readNaming_45 (by decide) (fun h7 => ?_) (fun h7 => ?_)
      · replace hw := hw.1 h7
        refine gJ.sub [1, 2] rfl ?_
        exact wkC_X5_readNaming_63 C hsz hR hret _ _ _ hw
      · replace hw := hw.2 h7
        refine g_aload_n C.1 1 dX5_readNaming_48 rfl rfl ?_
        refine g_dup C.1 dX5_readNaming_49 rfl ?_
        refine c_get5 C hw.1 1 (by decide) kC_321 (fun _ h => h) rfl dX5_readNaming_50 ?_
        replace hw := hw.2
        refine g_iconst (v := 1) C.1 dX5_readNaming_53 (by decide) ?_
        refine g_aload_n C.1 1 dX5_readNaming_54 rfl rfl ?_
        refine c_get5 C hw.1 11 (by decide) kC_297 (fun _ h => h) rfl dX5_readNaming_55 ?_
        replace hw := hw.2
        refine g_ishl C.1 dX5_readNaming_58 ?_
        refine g_ior C.1 dX5_readNaming_59 ?_
        refine c_put5 C (τ := csI s 81 v0 ((cI s 81 v0) ||| (1 <<< ((cI s 91 v0) &&& 31)))) hw.1 1 (by decide) kC_321 (fun _ h => h) rfl (ty := .int) (by decide +kernel) rfl rfl rfl hw.1.2 rfl (cx_5_1 _ _ _) (fun _ hb => csI_o hb) dX5_readNaming_60 ?_
        replace hw := hw.2
        refine gJ.nm (fun s8 es8 => ?_)
        replace hw := hw s8 es8
        refine gJ.sub [1, 2] rfl ?_
        exact wkC_X5_readNaming_63 C hsz hR hret _ _ _ hw
    · replace hw := hw.2 h6
      refine gJ.sub [1] rfl ?_
      exact wkC_X5_readNaming_38 C hsz hR hret _ _ hw
theorem wkC_X5_readNaming_0 {X : gT} {G : cG} {A : Nat → Prop} {H0 : Heap} {Q : State → Prop} (C : cC X cX5_readNaming 3 RX5 G A) (hsz : H0 = (g_s X).heap) (hR : 7 ≤ (g_R X).frames ∧ 147 ≤ (g_R X).locals ∧ 0 ≤ (g_R X).cells ∧ 0 ≤ (g_R X).slots) {post : Int32 → CSt → Prop} (hret : ∀ (r : Int32) (τ : CSt) (lv : List (Nat × Value)) (pc : Nat), post r τ → narrow .boolean (.int r) = .int r → decode cX5_readNaming pc = .ok (.ireturn, 1) → gJ X (cWd G A H0) Q 0 0 τ lv pc [.int r]) (s : CSt) (v0 : Nat) (v1 : Int32) (hw : wpC_X5_readNaming_0 post s v0 v1) : gJ X (cWd G A H0) Q 0 0 s [(0, .ref v0), (1, .int v1)] 0 [] := by
  refine g_aload_n C.1 0 dX5_readNaming_0 rfl rfl ?_
  refine c_callVv (vs := []) C hsz (cC_X5_advance (g_l X) G s _ _ hw.2) kC_256 kC_322 kC_323 kC_324 kC_314 hdC_X5_advance (c_recv5 C hw.1) ⟨(Nat.le_trans (Nat.le_of_ble_eq_true rfl) hR.1), (Nat.le_trans (Nat.le_of_ble_eq_true rfl) hR.2.1)⟩ ⟨(Nat.le_trans (Nat.le_of_ble_eq_true rfl) hR.2.2.1), (Nat.le_trans (Nat.le_of_ble_eq_true rfl) hR.2.2.2)⟩ dX5_readNaming_1 rfl (Nat.le_of_ble_eq_true rfl) (fun s9 hw => ?_)
  refine g_iload_n C.1 1 dX5_readNaming_4 rfl rfl ?_
  refine g_iconst (v := 4) C.1 dX5_readNaming_5 (by decide) ?_
  refine g_icmp_ne (tgt := 16) C.1 dX5_readNaming_6 (by decide) (fun h10 => ?_) (fun h10 => ?_)
  · replace hw := hw.1 h10
    refine g_aload_n C.1 0 dX5_readNaming_16 rfl rfl ?_
    refine c_get5 C hw.1 7 (by decide) kC_320 (fun _ h => h) rfl dX5_readNaming_17 ?_
    replace hw := hw.2
    exact wkC_X5_readNaming_20 C hsz hR hret _ _ _ _ hw
  · replace hw := hw.2 h10
    refine g_aload_n C.1 0 dX5_readNaming_9 rfl rfl ?_
    refine c_get5 C hw.1 6 (by decide) kC_319 (fun _ h => h) rfl dX5_readNaming_10 ?_
    replace hw := hw.2
    refine g_goto (tgt := 20) C.1 dX5_readNaming_13 (by decide) ?_
    exact wkC_X5_readNaming_20 C hsz hR hret _ _ _ _ hw
theorem hdC_X5_readNaming : yX5_readNaming.cls = RX5 ∧ yX5_readNaming.cls ≠ "java/lang/invoke/MethodHandle" ∧ yX5_readNaming.cls ≠ "java/lang/invoke/VarHandle" ∧ (parseMethodDescriptor yX5_readNaming.desc).map (fun d => d.parameters.length) = some 1 := by decide +kernel
theorem cC_X5_readNaming (l : Launch) (G : cG) (s : CSt) (v0 : Nat) (v1 : Int32) (post : Int32 → CSt → Prop) (hw : wpC_X5_readNaming_0 post s v0 v1) : cMi l yX5_readNaming cX5_readNaming 3 .boolean 7 147 0 0 G s [.ref v0, .int v1] post := cMi_of (by decide +kernel) rfl (Nat.le_of_ble_eq_true rfl) (fun X A H0 Q hl hR hsz hnm C hret => wkC_X5_readNaming_0 C hsz hR hret s v0 v1 hw)
def wpC_X5_readComparing_32 (post : Int32 → CSt → Prop) (s : CSt) (v0 : Nat) (v1 : Int32) (v2 : Int32) : Prop := cAt s 5 v0 ∧ wpC_X5_advance_0 (fun s1 => cAt s1 5 v0 ∧ ((cI s1 90 v0) = 14 → cAt s1 5 v0 ∧ cAt s1 5 v0 ∧ wpC_X5_write_0 (fun s3 => cAt s3 5 v0 ∧ wpC_X5_advance_0 (fun s4 => post 1 s4) s3 v0) s1 v0 v1 v2 (cI s1 91 v0)) ∧ (¬ (cI s1 90 v0) = 14 → cAt s1 5 v0 ∧ wpC_X5_fails_0 (fun r6 s5 => narrow .boolean (.int r6) = .int r6 ∧ post r6 s5) s1 v0)) s v0
def wpC_X5_readComparing_0 (post : Int32 → CSt → Prop) (s : CSt) (v0 : Nat) (v1 : Int32) : Prop := cAt s 5 v0 ∧ wpC_X5_advance_0 (fun s7 => cAt s7 5 v0 ∧ ((cI s7 90 v0) = 9 → wpC_X5_readComparing_32 post s7 v0 v1 (cI s7 90 v0)) ∧ (¬ (cI s7 90 v0) = 9 → ((cI s7 90 v0) = 10 → wpC_X5_readComparing_32 post s7 v0 v1 (cI s7 90 v0)) ∧ (¬ (cI s7 90 v0) = 10 → ((cI s7 90 v0) = 11 → wpC_X5_readComparing_32 post s7 v0 v1 (cI s7 90 v0)) ∧ (¬ (cI s7 90 v0) = 11 → cAt s7 5 v0 ∧ wpC_X5_fails_0 (fun r12 s11 => narrow .boolean (.int r12) = .int r12 ∧ post r12 s11) s7 v0)))) s v0
theorem wkC_X5_readComparing_32 {X : gT} {G : cG} {A : Nat → Prop} {H0 : Heap} {Q : State → Prop} (C : cC X cX5_readComparing 3 RX5 G A) (hsz : H0 = (g_s X).heap) (hR : 7 ≤ (g_R X).frames ∧ 147 ≤ (g_R X).locals ∧ 0 ≤ (g_R X).cells ∧ 0 ≤ (g_R X).slots) {post : Int32 → CSt → Prop} (hret : ∀ (r : Int32) (τ : CSt) (lv : List (Nat × Value)) (pc : Nat), post r τ → narrow .boolean (.int r) = .int r → decode cX5_readComparing pc = .ok (.ireturn, 1) → gJ X (cWd G A H0) Q 0 0 τ lv pc [.int r]) (s : CSt) (v0 : Nat) (v1 : Int32) (v2 : Int32) (hw : wpC_X5_readComparing_32 post s v0 v1 v2) : gJ X (cWd G A H0) Q 0 0 s [(0, .ref v0), (1, .int v1), (2, .int v2)] 32 [] := by
  refine g_aload_n C.1 0 dX5_readComparing_32 rfl rfl ?_
  refine c_callVv (vs := []) C hsz (cC_X5_advance (g_l X) G s _ _ hw.2) kC_256 kC_322 kC_323 kC_324 kC_314 hdC_X5_advance (c_recv5 C hw.1) ⟨(Nat.le_trans (Nat.le_of_ble_eq_true rfl) hR.1), (Nat.le_trans (Nat.le_of_ble_eq_true rfl) hR.2.1)⟩ ⟨(Nat.le_trans (Nat.le_of_ble_eq_true rfl) hR.2.2.1), (Nat.le_trans (Nat.le_of_ble_eq_true rfl) hR.2.2.2)⟩ dX5_readComparing_33 rfl (Nat.le_of_ble_eq_true rfl) (fun s1 hw => ?_)
  refine g_aload_n C.1 0 dX5_readComparing_36 rfl rfl ?_
  refine c_get5 C hw.1 10 (by decide) kC_299 (fun _ h => h) rfl dX5_readComparing_37 ?_
  replace hw := hw.2
  refine g_bipush (v := 14) C.1 dX5_readComparing_40 (by decide) ?_
  refine g_icmp_eq (tgt := 50) C.1 dX5_readComparing_42 (by decide) (fun h2 => ?_) (fun h2 => ?_)
  · replace hw := hw.1 h2
    refine g_aload_n C.1 0 dX5_readComparing_50 rfl rfl ?_
    refine g_iload_n C.1 1 dX5_readComparing_51 rfl rfl ?_
    refine g_iload_n C.1 2 dX5_readComparing_52 rfl rfl ?_
    refine g_aload_n C.1 0 dX5_readComparing_53 rfl rfl ?_
    refine c_get5 C hw.1 11 (by decide) kC_297 (fun _ h => h) rfl dX5_readComparing_54 ?_
    replace hw := hw.2
    refine c_callVv (vs := [.int v1, .int v2, .int (cI s1 91 v0)]) C hsz (cC_X5_write (g_l X) G s1 _ _ _ _ _ hw.2) kC_256 kC_328 kC_329 kC_330 kC_316 hdC_X5_write (c_recv5 C hw.1) ⟨(Nat.le_trans (Nat.le_of_ble_eq_true rfl) hR.1), (Nat.le_trans (Nat.le_of_ble_eq_true rfl) hR.2.1)⟩ ⟨(Nat.le_trans (Nat.le_of_ble_eq_true rfl) hR.2.2.1), (Nat.le_trans (Nat.le_of_ble_eq_true rfl) hR.2.2.2)⟩ dX5_readComparing_57 rfl (Nat.le_of_ble_eq_true rfl) (fun s3 hw => ?_)
    refine g_aload_n C.1 0 dX5_readComparing_60 rfl rfl ?_
    refine c_callVv (vs := []) C hsz (cC_X5_advance (g_l X) G s3 _ _ hw.2) kC_256 kC_322 kC_323 kC_324 kC_314 hdC_X5_advance (c_recv5 C hw.1) ⟨(Nat.le_trans (Nat.le_of_ble_eq_true rfl) hR.1), (Nat.le_trans (Nat.le_of_ble_eq_true rfl) hR.2.1)⟩ ⟨(Nat.le_trans (Nat.le_of_ble_eq_true rfl) hR.2.2.1), (Nat.le_trans (Nat.le_of_ble_eq_true rfl) hR.2.2.2)⟩ dX5_readComparing_61 rfl (Nat.le_of_ble_eq_true rfl) (fun s4 hw => ?_)
    refine g_iconst (v := 1) C.1 dX5_readComparing_64 (by decide) ?_
    exact hret _ _ _ _ hw rfl dX5_readComparing_65
  · replace hw := hw.2 h2
    refine g_aload_n C.1 0 dX5_readComparing_45 rfl rfl ?_
    refine c_callVi (vs := []) C hsz (cC_X5_fails (g_l X) G s1 _ _ hw.2) kC_256 kC_325 kC_326 kC_327 kC_318 hdC_X5_fails (c_recv5 C hw.1) ⟨(Nat.le_trans (Nat.le_of_ble_eq_true rfl) hR.1), (Nat.le_trans (Nat.le_of_ble_eq_true rfl) hR.2.1)⟩ ⟨(Nat.le_trans (Nat.le_of_ble_eq_true rfl) hR.2.2.1), (Nat.le_trans (Nat.le_of_ble_eq_true rfl) hR.2.2.2)⟩ dX5_readComparing_46 rfl (Nat.le_of_ble_eq_true rfl) (fun r6 s5 hw => ?_)
    exact hret _ _ _ _ hw.2 hw.1 dX5_readComparing_49
theorem wkC_X5_readComparing_0 {X : gT} {G : cG} {A : Nat → Prop} {H0 : Heap} {Q : State → Prop} (C : cC X cX5_readComparing 3 RX5 G A) (hsz : H0 = (g_s X).heap) (hR : 7 ≤ (g_R X).frames ∧ 147 ≤ (g_R X).locals ∧ 0 ≤ (g_R X).cells ∧ 0 ≤ (g_R X).slots) {post : Int32 → CSt → Prop} (hret : ∀ (r : Int32) (τ : CSt) (lv : List (Nat × Value)) (pc : Nat), post r τ → narrow .boolean (.int r) = .int r → decode cX5_readComparing pc = .ok (.ireturn, 1) → gJ X (cWd G A H0) Q 0 0 τ lv pc [.int r]) (s : CSt) (v0 : Nat) (v1 : Int32) (hw : wpC_X5_readComparing_0 post s v0 v1) : gJ X (cWd G A H0) Q 0 0 s [(0, .ref v0), (1, .int v1)] 0 [] := by
  refine g_aload_n C.1 0 dX5_readComparing_0 rfl rfl ?_
  refine c_callVv (vs := []) C hsz (cC_X5_advance (g_l X) G s _ _ hw.2) kC_256 kC_322 kC_323 kC_324 kC_314 hdC_X5_advance (c_recv5 C hw.1) ⟨(Nat.le_trans (Nat.le_of_ble_eq_true rfl) hR.1), (Nat.le_trans (Nat.le_of_ble_eq_true rfl) hR.2.1)⟩ ⟨(Nat.le_trans (Nat.le_of_ble_eq_true rfl) hR.2.2.1), (Nat.le_trans (Nat.le_of_ble_eq_true rfl) hR.2.2.2)⟩ dX5_readComparing_1 rfl (Nat.le_of_ble_eq_true rfl) (fun s7 hw => ?_)
  refine g_aload_n C.1 0 dX5_readComparing_4 rfl rfl ?_
  refine c_get5 C hw.1 10 (by decide) kC_299 (fun _ h => h) rfl dX5_readComparing_5 ?_
  replace hw := hw.2
  refine g_istore_n (lv' := [(2, .int (cI s7 90 v0)), (0, .ref v0), (1, .int v1)]) C.1 dX5_readComparing_8 rfl (by decide) rfl ?_
  refine g_iload_n C.1 0 dX5_readComparing_9 rfl rfl ?_
  refine g_bipush (v := 9) C.1 dX5_readComparing_10 (by decide) ?_
  refine g_icmp_eq (tgt := 32) C.1 dX5_readComparing_12 (by decide) (fun h8 => ?_) (fun h8 => ?_)
  · replace hw := hw.1 h8
    refine gJ.sub [1, 2, 0] rfl ?_
    exact wkC_X5_readComparing_32 C hsz hR hret _ _ _ _ hw
  · replace hw := hw.2 h8
    refine g_iload_n C.1 0 dX5_readComparing_15 rfl rfl ?_
    refine g_bipush (v := 10) C.1 dX5_readComparing_16 (by decide) ?_
    refine g_icmp_eq (tgt := 32) C.1 dX5_readComparing_18 (by decide) (fun h9 => ?_) (fun h9 => ?_)
    · replace hw := hw.1 h9
      refine gJ.sub [1, 2, 0] rfl ?_
      exact wkC_X5_readComparing_32 C hsz hR hret _ _ _ _ hw
    · replace hw := hw.2 h9
      refine g_iload_n C.1 0 dX5_readComparing_21 rfl rfl ?_
      refine g_bipush (v := 11) C.1 dX5_readComparing_22 (by decide) ?_
      refine g_icmp_eq (tgt := 32) C.1 dX5_readComparing_24 (by decide) (fun h10 => ?_) (fun h10 => ?_)
      · replace hw := hw.1 h10
        refine gJ.sub [1, 2, 0] rfl ?_
        exact wkC_X5_readComparing_32 C hsz hR hret _ _ _ _ hw
      · replace hw := hw.2 h10
        refine g_aload_n C.1 1 dX5_readComparing_27 rfl rfl ?_
        refine c_callVi (vs := []) C hsz (cC_X5_fails (g_l X) G s7 _ _ hw.2) kC_256 kC_325 kC_326 kC_327 kC_318 hdC_X5_fails (c_recv5 C hw.1) ⟨(Nat.le_trans (Nat.le_of_ble_eq_true rfl) hR.1), (Nat.le_trans (Nat.le_of_ble_eq_true rfl) hR.2.1)⟩ ⟨(Nat.le_trans (Nat.le_of_ble_eq_true rfl) hR.2.2.1), (Nat.le_trans (Nat.le_of_ble_eq_true rfl) hR.2.2.2)⟩ dX5_readComparing_28 rfl (Nat.le_of_ble_eq_true rfl) (fun r12 s11 hw => ?_)
        exact hret _ _ _ _ hw.2 hw.1 dX5_readComparing_31
theorem hdC_X5_readComparing : yX5_readComparing.cls = RX5 ∧ yX5_readComparing.cls ≠ "java/lang/invoke/MethodHandle" ∧ yX5_readComparing.cls ≠ "java/lang/invoke/VarHandle" ∧ (parseMethodDescriptor yX5_readComparing.desc).map (fun d => d.parameters.length) = some 1 := by decide +kernel
theorem cC_X5_readComparing (l : Launch) (G : cG) (s : CSt) (v0 : Nat) (v1 : Int32) (post : Int32 → CSt → Prop) (hw : wpC_X5_readComparing_0 post s v0 v1) : cMi l yX5_readComparing cX5_readComparing 3 .boolean 7 147 0 0 G s [.ref v0, .int v1] post := cMi_of (by decide +kernel) rfl (Nat.le_of_ble_eq_true rfl) (fun X A H0 Q hl hR hsz hnm C hret => wkC_X5_readComparing_0 C hsz hR hret s v0 v1 hw)
theorem hdC_X5_readPart : yX5_readPart.cls = RX5 ∧ yX5_readPart.cls ≠ "java/lang/invoke/MethodHandle" ∧ yX5_readPart.cls ≠ "java/lang/invoke/VarHandle" ∧ (parseMethodDescriptor yX5_readPart.desc).map (fun d => d.parameters.length) = some 1 := by decide +kernel
theorem hdC_X5_readNested : yX5_readNested.cls = RX5 ∧ yX5_readNested.cls ≠ "java/lang/invoke/MethodHandle" ∧ yX5_readNested.cls ≠ "java/lang/invoke/VarHandle" ∧ (parseMethodDescriptor yX5_readNested.desc).map (fun d => d.parameters.length) = some 1 := by decide +kernel
theorem hdC_X5_readBoth : yX5_readBoth.cls = RX5 ∧ yX5_readBoth.cls ≠ "java/lang/invoke/MethodHandle" ∧ yX5_readBoth.cls ≠ "java/lang/invoke/VarHandle" ∧ (parseMethodDescriptor yX5_readBoth.desc).map (fun d => d.parameters.length) = some 1 := by decide +kernel
theorem hdC_X5_readEither : yX5_readEither.cls = RX5 ∧ yX5_readEither.cls ≠ "java/lang/invoke/MethodHandle" ∧ yX5_readEither.cls ≠ "java/lang/invoke/VarHandle" ∧ (parseMethodDescriptor yX5_readEither.desc).map (fun d => d.parameters.length) = some 1 := by decide +kernel
def wpC_X5_readPart_18 (P_X5_readNested : (Int32 → CSt → Prop) → CSt → Nat → Int32 → Prop) (post : Int32 → CSt → Prop) (s : CSt) (v0 : Nat) (v1 : Int32) : Prop := (20 ≤ v1 → cAt s 5 v0 ∧ wpC_X5_fails_0 (fun r3 s2 => narrow .boolean (.int r3) = .int r3 ∧ post r3 s2) s v0) ∧ (¬ 20 ≤ v1 → cAt s 5 v0 ∧ P_X5_readNested (fun r5 s4 => narrow .boolean (.int r5) = .int r5 ∧ post r5 s4) s v0 (v1 + 1))
def wpC_X5_readPart_55 (P_X5_readNested : (Int32 → CSt → Prop) → CSt → Nat → Int32 → Prop) (post : Int32 → CSt → Prop) (s : CSt) (v0 : Nat) : Prop := cAt s 5 v0 ∧ cAt s 5 v0 ∧ wpC_X5_readNaming_0 (fun r7 s6 => narrow .boolean (.int r7) = .int r7 ∧ post r7 s6) s v0 (cI s 90 v0)
def wpC_X5_readPart_100 (P_X5_readNested : (Int32 → CSt → Prop) → CSt → Nat → Int32 → Prop) (post : Int32 → CSt → Prop) (s : CSt) (v0 : Nat) (w0 : Int32) : Prop := (w0 = 0 → cAt s 5 v0 ∧ wpC_X5_fails_0 (fun r10 s9 => narrow .boolean (.int r10) = .int r10 ∧ post r10 s9) s v0) ∧ (¬ w0 = 0 → cAt s 5 v0 ∧ cAt s 5 v0 ∧ wpC_X5_readComparing_0 (fun r12 s11 => narrow .boolean (.int r12) = .int r12 ∧ post r12 s11) s v0 (cI s 90 v0))
def wpC_X5_readPart_95 (P_X5_readNested : (Int32 → CSt → Prop) → CSt → Nat → Int32 → Prop) (post : Int32 → CSt → Prop) (s : CSt) (v0 : Nat) : Prop := wpC_X5_readPart_100 P_X5_readNested post s v0 1
def wpC_X5_readPart_0 (P_X5_readNested : (Int32 → CSt → Prop) → CSt → Nat → Int32 → Prop) (post : Int32 → CSt → Prop) (s : CSt) (v0 : Nat) (v1 : Int32) : Prop := cAt s 5 v0 ∧ ((cI s 90 v0) = 6 → wpC_X5_readPart_18 P_X5_readNested post s v0 v1) ∧ (¬ (cI s 90 v0) = 6 → cAt s 5 v0 ∧ (¬ (cI s 90 v0) = 12 → cAt s 5 v0 ∧ ((cI s 90 v0) = 4 → wpC_X5_readPart_55 P_X5_readNested post s v0) ∧ (¬ (cI s 90 v0) = 4 → cAt s 5 v0 ∧ (¬ (cI s 90 v0) = 5 → cAt s 5 v0 ∧ ((cI s 90 v0) = 0 → wpC_X5_readPart_95 P_X5_readNested post s v0) ∧ (¬ (cI s 90 v0) = 0 → cAt s 5 v0 ∧ ((cI s 90 v0) = 1 → wpC_X5_readPart_95 P_X5_readNested post s v0) ∧ (¬ (cI s 90 v0) = 1 → cAt s 5 v0 ∧ ((cI s 90 v0) = 2 → wpC_X5_readPart_95 P_X5_readNested post s v0) ∧ (¬ (cI s 90 v0) = 2 → cAt s 5 v0 ∧ (¬ (cI s 90 v0) = 3 → wpC_X5_readPart_100 P_X5_readNested post s v0 0) ∧ ((cI s 90 v0) = 3 → wpC_X5_readPart_95 P_X5_readNested post s v0))))) ∧ ((cI s 90 v0) = 5 → wpC_X5_readPart_55 P_X5_readNested post s v0))) ∧ ((cI s 90 v0) = 12 → wpC_X5_readPart_18 P_X5_readNested post s v0 v1))
theorem wkC_X5_readPart_18 {X : gT} {G : cG} {A : Nat → Prop} {H0 : Heap} {Q : State → Prop} (C : cC X cX5_readPart 3 RX5 G A) (hsz : H0 = (g_s X).heap) (hR : 8 ≤ (g_R X).frames ∧ 169 ≤ (g_R X).locals ∧ 0 ≤ (g_R X).cells ∧ 0 ≤ (g_R X).slots) {P_X5_readNested : (Int32 → CSt → Prop) → CSt → Nat → Int32 → Prop} {f_X5_readNested c_X5_readNested : Nat} (hq_X5_readNested : ∀ (post : Int32 → CSt → Prop) (s : CSt) (v0 : Nat) (v1 : Int32), P_X5_readNested post s v0 v1 → cMi (g_l X) yX5_readNested cX5_readNested 4 .boolean f_X5_readNested c_X5_readNested 0 0 G s [.ref v0, .int v1] post) (hr_X5_readNested : f_X5_readNested + 1 ≤ (g_R X).frames ∧ 8 + (4 + 11) + c_X5_readNested ≤ (g_R X).locals) {post : Int32 → CSt → Prop} (hret : ∀ (r : Int32) (τ : CSt) (lv : List (Nat × Value)) (pc : Nat), post r τ → narrow .boolean (.int r) = .int r → decode cX5_readPart pc = .ok (.ireturn, 1) → gJ X (cWd G A H0) Q 0 0 τ lv pc [.int r]) (s : CSt) (v0 : Nat) (v1 : Int32) (hw : wpC_X5_readPart_18 P_X5_readNested post s v0 v1) : gJ X (cWd G A H0) Q 0 0 s [(0, .ref v0), (1, .int v1)] 18 [] := by
  refine g_iload_n C.1 1 dX5_readPart_18 rfl rfl ?_
  refine g_bipush (v := 20) C.1 dX5_readPart_19 (by decide) ?_
  refine g_icmp_ge (tgt := 34) C.1 dX5_readPart_21 (by decide) (fun h1 => ?_) (fun h1 => ?_)
  · replace hw := hw.1 h1
    refine g_aload_n C.1 0 dX5_readPart_34 rfl rfl ?_
    refine c_callVi (vs := []) C hsz (cC_X5_fails (g_l X) G s _ _ hw.2) kC_256 kC_325 kC_326 kC_327 kC_318 hdC_X5_fails (c_recv5 C hw.1) ⟨(Nat.le_trans (Nat.le_of_ble_eq_true rfl) hR.1), (Nat.le_trans (Nat.le_of_ble_eq_true rfl) hR.2.1)⟩ ⟨(Nat.le_trans (Nat.le_of_ble_eq_true rfl) hR.2.2.1), (Nat.le_trans (Nat.le_of_ble_eq_true rfl) hR.2.2.2)⟩ dX5_readPart_35 rfl (Nat.le_of_ble_eq_true rfl) (fun r3 s2 hw => ?_)
    exact hret _ _ _ _ hw.2 hw.1 dX5_readPart_38
  · replace hw := hw.2 h1
    refine g_aload_n C.1 0 dX5_readPart_24 rfl rfl ?_
    refine g_iload_n C.1 1 dX5_readPart_25 rfl rfl ?_
    refine g_iconst (v := 1) C.1 dX5_readPart_26 (by decide) ?_
    refine g_iadd C.1 dX5_readPart_27 ?_
    refine c_callVi (vs := [.int (v1 + 1)]) C hsz (hq_X5_readNested _ _ _ _ hw.2) kC_256 kC_345 kC_346 kC_347 kC_340 hdC_X5_readNested (c_recv5 C hw.1) hr_X5_readNested ⟨(Nat.le_trans (Nat.le_of_ble_eq_true rfl) hR.2.2.1), (Nat.le_trans (Nat.le_of_ble_eq_true rfl) hR.2.2.2)⟩ dX5_readPart_28 rfl (Nat.le_of_ble_eq_true rfl) (fun r5 s4 hw => ?_)
    refine g_goto (tgt := 38) C.1 dX5_readPart_31 (by decide) ?_
    exact hret _ _ _ _ hw.2 hw.1 dX5_readPart_38
theorem wkC_X5_readPart_55 {X : gT} {G : cG} {A : Nat → Prop} {H0 : Heap} {Q : State → Prop} (C : cC X cX5_readPart 3 RX5 G A) (hsz : H0 = (g_s X).heap) (hR : 8 ≤ (g_R X).frames ∧ 169 ≤ (g_R X).locals ∧ 0 ≤ (g_R X).cells ∧ 0 ≤ (g_R X).slots) {P_X5_readNested : (Int32 → CSt → Prop) → CSt → Nat → Int32 → Prop} {f_X5_readNested c_X5_readNested : Nat} (hq_X5_readNested : ∀ (post : Int32 → CSt → Prop) (s : CSt) (v0 : Nat) (v1 : Int32), P_X5_readNested post s v0 v1 → cMi (g_l X) yX5_readNested cX5_readNested 4 .boolean f_X5_readNested c_X5_readNested 0 0 G s [.ref v0, .int v1] post) (hr_X5_readNested : f_X5_readNested + 1 ≤ (g_R X).frames ∧ 8 + (4 + 11) + c_X5_readNested ≤ (g_R X).locals) {post : Int32 → CSt → Prop} (hret : ∀ (r : Int32) (τ : CSt) (lv : List (Nat × Value)) (pc : Nat), post r τ → narrow .boolean (.int r) = .int r → decode cX5_readPart pc = .ok (.ireturn, 1) → gJ X (cWd G A H0) Q 0 0 τ lv pc [.int r]) (s : CSt) (v0 : Nat) (hw : wpC_X5_readPart_55 P_X5_readNested post s v0) : gJ X (cWd G A H0) Q 0 0 s [(0, .ref v0)] 55 [] := by
  refine g_aload_n C.1 0 dX5_readPart_55 rfl rfl ?_
  refine g_aload_n C.1 0 dX5_readPart_56 rfl rfl ?_
  refine c_get5 C hw.1 10 (by decide) kC_299 (fun _ h => h) rfl dX5_readPart_57 ?_
  replace hw := hw.2
  refine c_callVi (vs := [.int (cI s 90 v0)]) C hsz (cC_X5_readNaming (g_l X) G s _ _ _ hw.2) kC_256 kC_348 kC_349 kC_350 kC_331 hdC_X5_readNaming (c_recv5 C hw.1) ⟨(Nat.le_trans (Nat.le_of_ble_eq_true rfl) hR.1), (Nat.le_trans (Nat.le_of_ble_eq_true rfl) hR.2.1)⟩ ⟨(Nat.le_trans (Nat.le_of_ble_eq_true rfl) hR.2.2.1), (Nat.le_trans (Nat.le_of_ble_eq_true rfl) hR.2.2.2)⟩ dX5_readPart_60 rfl (Nat.le_of_ble_eq_true rfl) (fun r7 s6 hw => ?_)
  exact hret _ _ _ _ hw.2 hw.1 dX5_readPart_63
theorem wkC_X5_readPart_100 {X : gT} {G : cG} {A : Nat → Prop} {H0 : Heap} {Q : State → Prop} (C : cC X cX5_readPart 3 RX5 G A) (hsz : H0 = (g_s X).heap) (hR : 8 ≤ (g_R X).frames ∧ 169 ≤ (g_R X).locals ∧ 0 ≤ (g_R X).cells ∧ 0 ≤ (g_R X).slots) {P_X5_readNested : (Int32 → CSt → Prop) → CSt → Nat → Int32 → Prop} {f_X5_readNested c_X5_readNested : Nat} (hq_X5_readNested : ∀ (post : Int32 → CSt → Prop) (s : CSt) (v0 : Nat) (v1 : Int32), P_X5_readNested post s v0 v1 → cMi (g_l X) yX5_readNested cX5_readNested 4 .boolean f_X5_readNested c_X5_readNested 0 0 G s [.ref v0, .int v1] post) (hr_X5_readNested : f_X5_readNested + 1 ≤ (g_R X).frames ∧ 8 + (4 + 11) + c_X5_readNested ≤ (g_R X).locals) {post : Int32 → CSt → Prop} (hret : ∀ (r : Int32) (τ : CSt) (lv : List (Nat × Value)) (pc : Nat), post r τ → narrow .boolean (.int r) = .int r → decode cX5_readPart pc = .ok (.ireturn, 1) → gJ X (cWd G A H0) Q 0 0 τ lv pc [.int r]) (s : CSt) (v0 : Nat) (w0 : Int32) (hw : wpC_X5_readPart_100 P_X5_readNested post s v0 w0) : gJ X (cWd G A H0) Q 0 0 s [(0, .ref v0)] 100 [.int w0] := by
  refine g_istore_n (lv' := [(2, .int w0), (0, .ref v0)]) C.1 dX5_readPart_100 rfl (by decide) rfl ?_
  refine g_iload_n C.1 0 dX5_readPart_101 rfl rfl ?_
  refine g_if_eq (tgt := 116) C.1 dX5_readPart_102 (by decide) (fun h8 => ?_) (fun h8 => ?_)
  · replace hw := hw.1 h8
    refine g_aload_n C.1 1 dX5_readPart_116 rfl rfl ?_
    refine c_callVi (vs := []) C hsz (cC_X5_fails (g_l X) G s _ _ hw.2) kC_256 kC_325 kC_326 kC_327 kC_318 hdC_X5_fails (c_recv5 C hw.1) ⟨(Nat.le_trans (Nat.le_of_ble_eq_true rfl) hR.1), (Nat.le_trans (Nat.le_of_ble_eq_true rfl) hR.2.1)⟩ ⟨(Nat.le_trans (Nat.le_of_ble_eq_true rfl) hR.2.2.1), (Nat.le_trans (Nat.le_of_ble_eq_true rfl) hR.2.2.2)⟩ dX5_readPart_117 rfl (Nat.le_of_ble_eq_true rfl) (fun r10 s9 hw => ?_)
    exact hret _ _ _ _ hw.2 hw.1 dX5_readPart_120
  · replace hw := hw.2 h8
    refine g_aload_n C.1 1 dX5_readPart_105 rfl rfl ?_
    refine g_aload_n C.1 1 dX5_readPart_106 rfl rfl ?_
    refine c_get5 C hw.1 10 (by decide) kC_299 (fun _ h => h) rfl dX5_readPart_107 ?_
    replace hw := hw.2
    refine c_callVi (vs := [.int (cI s 90 v0)]) C hsz (cC_X5_readComparing (g_l X) G s _ _ _ hw.2) kC_256 kC_351 kC_352 kC_353 kC_332 hdC_X5_readComparing (c_recv5 C hw.1) ⟨(Nat.le_trans (Nat.le_of_ble_eq_true rfl) hR.1), (Nat.le_trans (Nat.le_of_ble_eq_true rfl) hR.2.1)⟩ ⟨(Nat.le_trans (Nat.le_of_ble_eq_true rfl) hR.2.2.1), (Nat.le_trans (Nat.le_of_ble_eq_true rfl) hR.2.2.2)⟩ dX5_readPart_110 rfl (Nat.le_of_ble_eq_true rfl) (fun r12 s11 hw => ?_)
    refine g_goto (tgt := 120) C.1 dX5_readPart_113 (by decide) ?_
    exact hret _ _ _ _ hw.2 hw.1 dX5_readPart_120
theorem wkC_X5_readPart_95 {X : gT} {G : cG} {A : Nat → Prop} {H0 : Heap} {Q : State → Prop} (C : cC X cX5_readPart 3 RX5 G A) (hsz : H0 = (g_s X).heap) (hR : 8 ≤ (g_R X).frames ∧ 169 ≤ (g_R X).locals ∧ 0 ≤ (g_R X).cells ∧ 0 ≤ (g_R X).slots) {P_X5_readNested : (Int32 → CSt → Prop) → CSt → Nat → Int32 → Prop} {f_X5_readNested c_X5_readNested : Nat} (hq_X5_readNested : ∀ (post : Int32 → CSt → Prop) (s : CSt) (v0 : Nat) (v1 : Int32), P_X5_readNested post s v0 v1 → cMi (g_l X) yX5_readNested cX5_readNested 4 .boolean f_X5_readNested c_X5_readNested 0 0 G s [.ref v0, .int v1] post) (hr_X5_readNested : f_X5_readNested + 1 ≤ (g_R X).frames ∧ 8 + (4 + 11) + c_X5_readNested ≤ (g_R X).locals) {post : Int32 → CSt → Prop} (hret : ∀ (r : Int32) (τ : CSt) (lv : List (Nat × Value)) (pc : Nat), post r τ → narrow .boolean (.int r) = .int r → decode cX5_readPart pc = .ok (.ireturn, 1) → gJ X (cWd G A H0) Q 0 0 τ lv pc [.int r]) (s : CSt) (v0 : Nat) (hw : wpC_X5_readPart_95 P_X5_readNested post s v0) : gJ X (cWd G A H0) Q 0 0 s [(0, .ref v0)] 95 [] := by
  refine g_iconst (v := 1) C.1 dX5_readPart_95 (by decide) ?_
  refine g_goto (tgt := 100) C.1 dX5_readPart_96 (by decide) ?_
  exact wkC_X5_readPart_100 C hsz hR hq_X5_readNested hr_X5_readNested hret _ _ _ hw
theorem wkC_X5_readPart_0 {X : gT} {G : cG} {A : Nat → Prop} {H0 : Heap} {Q : State → Prop} (C : cC X cX5_readPart 3 RX5 G A) (hsz : H0 = (g_s X).heap) (hR : 8 ≤ (g_R X).frames ∧ 169 ≤ (g_R X).locals ∧ 0 ≤ (g_R X).cells ∧ 0 ≤ (g_R X).slots) {P_X5_readNested : (Int32 → CSt → Prop) → CSt → Nat → Int32 → Prop} {f_X5_readNested c_X5_readNested : Nat} (hq_X5_readNested : ∀ (post : Int32 → CSt → Prop) (s : CSt) (v0 : Nat) (v1 : Int32), P_X5_readNested post s v0 v1 → cMi (g_l X) yX5_readNested cX5_readNested 4 .boolean f_X5_readNested c_X5_readNested 0 0 G s [.ref v0, .int v1] post) (hr_X5_readNested : f_X5_readNested + 1 ≤ (g_R X).frames ∧ 8 + (4 + 11) + c_X5_readNested ≤ (g_R X).locals) {post : Int32 → CSt → Prop} (hret : ∀ (r : Int32) (τ : CSt) (lv : List (Nat × Value)) (pc : Nat), post r τ → narrow .boolean (.int r) = .int r → decode cX5_readPart pc = .ok (.ireturn, 1) → gJ X (cWd G A H0) Q 0 0 τ lv pc [.int r]) (s : CSt) (v0 : Nat) (v1 : Int32) (hw : wpC_X5_readPart_0 P_X5_readNested post s v0 v1) : gJ X (cWd G A H0) Q 0 0 s [(0, .ref v0), (1, .int v1)] 0 [] := by
  refine g_aload_n C.1 0 dX5_readPart_0 rfl rfl ?_
  refine c_get5 C hw.1 10 (by decide) kC_299 (fun _ h => h) rfl dX5_readPart_1 ?_
  replace hw := hw.2
  refine g_bipush (v := 6) C.1 dX5_readPart_4 (by decide) ?_
  refine g_icmp_eq (tgt := 18) C.1 dX5_readPart_6 (by decide) (fun h13 => ?_) (fun h13 => ?_)
  · replace hw := hw.1 h13
    exact wkC_X5_readPart_18 C hsz hR hq_X5_readNested hr_X5_readNested hret _ _ _ hw
  · replace hw := hw.2 h13
    refine g_aload_n C.1 0 dX5_readPart_9 rfl rfl ?_
    refine c_get5 C hw.1 10 (by decide) kC_299 (fun _ h => h) rfl dX5_readPart_10 ?_
    replace hw := hw.2
    refine g_bipush (v := 12) C.1 dX5_readPart_13 (by decide) ?_
    refine g_icmp_ne (tgt := 39) C.1 dX5_readPart_15 (by decide) (fun h14 => ?_) (fun h14 => ?_)
    · replace hw := hw.1 h14
      refine g_aload_n C.1 0 dX5_readPart_39 rfl rfl ?_
      refine c_get5 C hw.1 10 (by decide) kC_299 (fun _ h => h) rfl dX5_readPart_40 ?_
      replace hw := hw.2
      refine g_iconst (v := 4) C.1 dX5_readPart_43 (by decide) ?_
      refine g_icmp_eq (tgt := 55) C.1 dX5_readPart_44 (by decide) (fun h15 => ?_) (fun h15 => ?_)
      · replace hw := hw.1 h15
        refine gJ.sub [0] rfl ?_
        exact wkC_X5_readPart_55 C hsz hR hq_X5_readNested hr_X5_readNested hret _ _ hw
      · replace hw := hw.2 h15
        refine g_aload_n C.1 0 dX5_readPart_47 rfl rfl ?_
        refine c_get5 C hw.1 10 (by decide) kC_299 (fun _ h => h) rfl dX5_readPart_48 ?_
        replace hw := hw.2
        refine g_iconst (v := 5) C.1 dX5_readPart_51 (by decide) ?_
        refine g_icmp_ne (tgt := 64) C.1 dX5_readPart_52 (by decide) (fun h16 => ?_) (fun h16 => ?_)
        · replace hw := hw.1 h16
          refine g_aload_n C.1 0 dX5_readPart_64 rfl rfl ?_
          refine c_get5 C hw.1 10 (by decide) kC_299 (fun _ h => h) rfl dX5_readPart_65 ?_
          replace hw := hw.2
          refine g_if_eq (tgt := 95) C.1 dX5_readPart_68 (by decide) (fun h17 => ?_) (fun h17 => ?_)
          · replace hw := hw.1 h17
            refine gJ.sub [0] rfl ?_
            exact wkC_X5_readPart_95 C hsz hR hq_X5_readNested hr_X5_readNested hret _ _ hw
          · replace hw := hw.2 h17
            refine g_aload_n C.1 0 dX5_readPart_71 rfl rfl ?_
            refine c_get5 C hw.1 10 (by decide) kC_299 (fun _ h => h) rfl dX5_readPart_72 ?_
            replace hw := hw.2
            refine g_iconst (v := 1) C.1 dX5_readPart_75 (by decide) ?_
            refine g_icmp_eq (tgt := 95) C.1 dX5_readPart_76 (by decide) (fun h18 => ?_) (fun h18 => ?_)
            · replace hw := hw.1 h18
              refine gJ.sub [0] rfl ?_
              exact wkC_X5_readPart_95 C hsz hR hq_X5_readNested hr_X5_readNested hret _ _ hw
            · replace hw := hw.2 h18
              refine g_aload_n C.1 0 dX5_readPart_79 rfl rfl ?_
              refine c_get5 C hw.1 10 (by decide) kC_299 (fun _ h => h) rfl dX5_readPart_80 ?_
              replace hw := hw.2
              refine g_iconst (v := 2) C.1 dX5_readPart_83 (by decide) ?_
              refine g_icmp_eq (tgt := 95) C.1 dX5_readPart_84 (by decide) (fun h19 => ?_) (fun h19 => ?_)
              · replace hw := hw.1 h19
                refine gJ.sub [0] rfl ?_
                exact wkC_X5_readPart_95 C hsz hR hq_X5_readNested hr_X5_readNested hret _ _ hw
              · replace hw := hw.2 h19
                refine g_aload_n C.1 0 dX5_readPart_87 rfl rfl ?_
                refine c_get5 C hw.1 10 (by decide) kC_299 (fun _ h => h) rfl dX5_readPart_88 ?_
                replace hw := hw.2
                refine g_iconst (v := 3) C.1 dX5_readPart_91 (by decide) ?_
                refine g_icmp_ne (tgt := 99) C.1 dX5_readPart_92 (by decide) (fun h20 => ?_) (fun h20 => ?_)
                · replace hw := hw.1 h20
                  refine g_iconst (v := 0) C.1 dX5_readPart_99 (by decide) ?_
                  refine gJ.sub [0] rfl ?_
                  exact wkC_X5_readPart_100 C hsz hR hq_X5_readNested hr_X5_readNested hret _ _ _ hw
                · replace hw := hw.2 h20
                  refine gJ.sub [0] rfl ?_
                  exact wkC_X5_readPart_95 C hsz hR hq_X5_readNested hr_X5_readNested hret _ _ hw
        · replace hw := hw.2 h16
          refine gJ.sub [0] rfl ?_
          exact wkC_X5_readPart_55 C hsz hR hq_X5_readNested hr_X5_readNested hret _ _ hw
    · replace hw := hw.2 h14
      exact wkC_X5_readPart_18 C hsz hR hq_X5_readNested hr_X5_readNested hret _ _ _ hw
def wpC_X5_readNested_14 (P_X5_readEither : (Int32 → CSt → Prop) → CSt → Nat → Int32 → Prop) (P_X5_readPart : (Int32 → CSt → Prop) → CSt → Nat → Int32 → Prop) (post : Int32 → CSt → Prop) (s : CSt) (v0 : Nat) (v1 : Int32) (w0 : Int32) : Prop := cAt s 5 v0 ∧ wpC_X5_advance_0 (fun s1 => (w0 = 0 → cAt s1 5 v0 ∧ P_X5_readEither (fun r4 s3 => (¬ r4 = 0 → cAt s3 5 v0 ∧ ((cI s3 90 v0) = 13 → cAt s3 5 v0 ∧ wpC_X5_advance_0 (fun s7 => post 1 s7) s3 v0) ∧ (¬ (cI s3 90 v0) = 13 → cAt s3 5 v0 ∧ wpC_X5_fails_0 (fun r9 s8 => narrow .boolean (.int r9) = .int r9 ∧ post r9 s8) s3 v0)) ∧ (r4 = 0 → post 0 s3)) s1 v0 v1) ∧ (¬ w0 = 0 → cAt s1 5 v0 ∧ P_X5_readPart (fun r11 s10 => cAt s10 5 v0 ∧ wpC_X5_write_0 (fun s12 => narrow .boolean (.int r11) = .int r11 ∧ post r11 s12) s10 v0 6 0 0) s1 v0 v1)) s v0
def wpC_X5_readNested_0 (P_X5_readEither : (Int32 → CSt → Prop) → CSt → Nat → Int32 → Prop) (P_X5_readPart : (Int32 → CSt → Prop) → CSt → Nat → Int32 → Prop) (post : Int32 → CSt → Prop) (s : CSt) (v0 : Nat) (v1 : Int32) : Prop := cAt s 5 v0 ∧ (¬ (cI s 90 v0) = 6 → wpC_X5_readNested_14 P_X5_readEither P_X5_readPart post s v0 v1 0) ∧ ((cI s 90 v0) = 6 → wpC_X5_readNested_14 P_X5_readEither P_X5_readPart post s v0 v1 1)
theorem wkC_X5_readNested_14 {X : gT} {G : cG} {A : Nat → Prop} {H0 : Heap} {Q : State → Prop} (C : cC X cX5_readNested 4 RX5 G A) (hsz : H0 = (g_s X).heap) (hR : 7 ≤ (g_R X).frames ∧ 147 ≤ (g_R X).locals ∧ 0 ≤ (g_R X).cells ∧ 0 ≤ (g_R X).slots) {P_X5_readEither : (Int32 → CSt → Prop) → CSt → Nat → Int32 → Prop} {f_X5_readEither c_X5_readEither : Nat} (hq_X5_readEither : ∀ (post : Int32 → CSt → Prop) (s : CSt) (v0 : Nat) (v1 : Int32), P_X5_readEither post s v0 v1 → cMi (g_l X) yX5_readEither cX5_readEither 4 .boolean f_X5_readEither c_X5_readEither 0 0 G s [.ref v0, .int v1] post) (hr_X5_readEither : f_X5_readEither + 1 ≤ (g_R X).frames ∧ 8 + (4 + 11) + c_X5_readEither ≤ (g_R X).locals) {P_X5_readPart : (Int32 → CSt → Prop) → CSt → Nat → Int32 → Prop} {f_X5_readPart c_X5_readPart : Nat} (hq_X5_readPart : ∀ (post : Int32 → CSt → Prop) (s : CSt) (v0 : Nat) (v1 : Int32), P_X5_readPart post s v0 v1 → cMi (g_l X) yX5_readPart cX5_readPart 3 .boolean f_X5_readPart c_X5_readPart 0 0 G s [.ref v0, .int v1] post) (hr_X5_readPart : f_X5_readPart + 1 ≤ (g_R X).frames ∧ 8 + (3 + 11) + c_X5_readPart ≤ (g_R X).locals) {post : Int32 → CSt → Prop} (hret : ∀ (r : Int32) (τ : CSt) (lv : List (Nat × Value)) (pc : Nat), post r τ → narrow .boolean (.int r) = .int r → decode cX5_readNested pc = .ok (.ireturn, 1) → gJ X (cWd G A H0) Q 0 0 τ lv pc [.int r]) (s : CSt) (v0 : Nat) (v1 : Int32) (w0 : Int32) (hw : wpC_X5_readNested_14 P_X5_readEither P_X5_readPart post s v0 v1 w0) : gJ X (cWd G A H0) Q 0 0 s [(0, .ref v0), (1, .int v1)] 14 [.int w0] := by
  refine g_istore_n (lv' := [(2, .int w0), (0, .ref v0), (1, .int v1)]) C.1 dX5_readNested_14 rfl (by decide) rfl ?_
  refine g_aload_n C.1 1 dX5_readNested_15 rfl rfl ?_
  refine c_callVv (vs := []) C hsz (cC_X5_advance (g_l X) G s _ _ hw.2) kC_256 kC_322 kC_323 kC_324 kC_314 hdC_X5_advance (c_recv5 C hw.1) ⟨(Nat.le_trans (Nat.le_of_ble_eq_true rfl) hR.1), (Nat.le_trans (Nat.le_of_ble_eq_true rfl) hR.2.1)⟩ ⟨(Nat.le_trans (Nat.le_of_ble_eq_true rfl) hR.2.2.1), (Nat.le_trans (Nat.le_of_ble_eq_true rfl) hR.2.2.2)⟩ dX5_readNested_16 rfl (Nat.le_of_ble_eq_true rfl) (fun s1 hw => ?_)
  refine g_iload_n C.1 0 dX5_readNested_19 rfl rfl ?_
  refine g_if_eq (tgt := 39) C.1 dX5_readNested_20 (by decide) (fun h2 => ?_) (fun h2 => ?_)
  · replace hw := hw.1 h2
    refine g_aload_n C.1 1 dX5_readNested_39 rfl rfl ?_
    refine g_iload_n C.1 2 dX5_readNested_40 rfl rfl ?_
    refine c_callVi (vs := [.int v1]) C hsz (hq_X5_readEither _ _ _ _ hw.2) kC_256 kC_341 kC_342 kC_343 kC_336 hdC_X5_readEither (c_recv5 C hw.1) hr_X5_readEither ⟨(Nat.le_trans (Nat.le_of_ble_eq_true rfl) hR.2.2.1), (Nat.le_trans (Nat.le_of_ble_eq_true rfl) hR.2.2.2)⟩ dX5_readNested_41 rfl (Nat.le_of_ble_eq_true rfl) (fun r4 s3 hw => ?_)
    refine g_if_ne (tgt := 49) C.1 dX5_readNested_44 (by decide) (fun h5 => ?_) (fun h5 => ?_)
    · replace hw := hw.1 h5
      refine g_aload_n C.1 1 dX5_readNested_49 rfl rfl ?_
      refine c_get5 C hw.1 10 (by decide) kC_299 (fun _ h => h) rfl dX5_readNested_50 ?_
      replace hw := hw.2
      refine g_bipush (v := 13) C.1 dX5_readNested_53 (by decide) ?_
      refine g_icmp_eq (tgt := 63) C.1 dX5_readNested_55 (by decide) (fun h6 => ?_) (fun h6 => ?_)
      · replace hw := hw.1 h6
        refine g_aload_n C.1 1 dX5_readNested_63 rfl rfl ?_
        refine c_callVv (vs := []) C hsz (cC_X5_advance (g_l X) G s3 _ _ hw.2) kC_256 kC_322 kC_323 kC_324 kC_314 hdC_X5_advance (c_recv5 C hw.1) ⟨(Nat.le_trans (Nat.le_of_ble_eq_true rfl) hR.1), (Nat.le_trans (Nat.le_of_ble_eq_true rfl) hR.2.1)⟩ ⟨(Nat.le_trans (Nat.le_of_ble_eq_true rfl) hR.2.2.1), (Nat.le_trans (Nat.le_of_ble_eq_true rfl) hR.2.2.2)⟩ dX5_readNested_64 rfl (Nat.le_of_ble_eq_true rfl) (fun s7 hw => ?_)
        refine g_iconst (v := 1) C.1 dX5_readNested_67 (by decide) ?_
        exact hret _ _ _ _ hw rfl dX5_readNested_68
      · replace hw := hw.2 h6
        refine g_aload_n C.1 1 dX5_readNested_58 rfl rfl ?_
        refine c_callVi (vs := []) C hsz (cC_X5_fails (g_l X) G s3 _ _ hw.2) kC_256 kC_325 kC_326 kC_327 kC_318 hdC_X5_fails (c_recv5 C hw.1) ⟨(Nat.le_trans (Nat.le_of_ble_eq_true rfl) hR.1), (Nat.le_trans (Nat.le_of_ble_eq_true rfl) hR.2.1)⟩ ⟨(Nat.le_trans (Nat.le_of_ble_eq_true rfl) hR.2.2.1), (Nat.le_trans (Nat.le_of_ble_eq_true rfl) hR.2.2.2)⟩ dX5_readNested_59 rfl (Nat.le_of_ble_eq_true rfl) (fun r9 s8 hw => ?_)
        exact hret _ _ _ _ hw.2 hw.1 dX5_readNested_62
    · replace hw := hw.2 h5
      refine g_iconst (v := 0) C.1 dX5_readNested_47 (by decide) ?_
      exact hret _ _ _ _ hw rfl dX5_readNested_48
  · replace hw := hw.2 h2
    refine g_aload_n C.1 1 dX5_readNested_23 rfl rfl ?_
    refine g_iload_n C.1 2 dX5_readNested_24 rfl rfl ?_
    refine c_callVi (vs := [.int v1]) C hsz (hq_X5_readPart _ _ _ _ hw.2) kC_256 kC_333 kC_334 kC_335 kC_344 hdC_X5_readPart (c_recv5 C hw.1) hr_X5_readPart ⟨(Nat.le_trans (Nat.le_of_ble_eq_true rfl) hR.2.2.1), (Nat.le_trans (Nat.le_of_ble_eq_true rfl) hR.2.2.2)⟩ dX5_readNested_25 rfl (Nat.le_of_ble_eq_true rfl) (fun r11 s10 hw => ?_)
    refine g_istore_n (lv' := [(3, .int r11), (2, .int w0), (0, .ref v0), (1, .int v1)]) C.1 dX5_readNested_28 rfl (by decide) rfl ?_
    refine g_aload_n C.1 2 dX5_readNested_29 rfl rfl ?_
    refine g_bipush (v := 6) C.1 dX5_readNested_30 (by decide) ?_
    refine g_iconst (v := 0) C.1 dX5_readNested_32 (by decide) ?_
    refine g_iconst (v := 0) C.1 dX5_readNested_33 (by decide) ?_
    refine c_callVv (vs := [.int 6, .int 0, .int 0]) C hsz (cC_X5_write (g_l X) G s10 _ _ _ _ _ hw.2) kC_256 kC_328 kC_329 kC_330 kC_316 hdC_X5_write (c_recv5 C hw.1) ⟨(Nat.le_trans (Nat.le_of_ble_eq_true rfl) hR.1), (Nat.le_trans (Nat.le_of_ble_eq_true rfl) hR.2.1)⟩ ⟨(Nat.le_trans (Nat.le_of_ble_eq_true rfl) hR.2.2.1), (Nat.le_trans (Nat.le_of_ble_eq_true rfl) hR.2.2.2)⟩ dX5_readNested_34 rfl (Nat.le_of_ble_eq_true rfl) (fun s12 hw => ?_)
    refine g_iload_n C.1 0 dX5_readNested_37 rfl rfl ?_
    exact hret _ _ _ _ hw.2 hw.1 dX5_readNested_38
theorem wkC_X5_readNested_0 {X : gT} {G : cG} {A : Nat → Prop} {H0 : Heap} {Q : State → Prop} (C : cC X cX5_readNested 4 RX5 G A) (hsz : H0 = (g_s X).heap) (hR : 7 ≤ (g_R X).frames ∧ 147 ≤ (g_R X).locals ∧ 0 ≤ (g_R X).cells ∧ 0 ≤ (g_R X).slots) {P_X5_readEither : (Int32 → CSt → Prop) → CSt → Nat → Int32 → Prop} {f_X5_readEither c_X5_readEither : Nat} (hq_X5_readEither : ∀ (post : Int32 → CSt → Prop) (s : CSt) (v0 : Nat) (v1 : Int32), P_X5_readEither post s v0 v1 → cMi (g_l X) yX5_readEither cX5_readEither 4 .boolean f_X5_readEither c_X5_readEither 0 0 G s [.ref v0, .int v1] post) (hr_X5_readEither : f_X5_readEither + 1 ≤ (g_R X).frames ∧ 8 + (4 + 11) + c_X5_readEither ≤ (g_R X).locals) {P_X5_readPart : (Int32 → CSt → Prop) → CSt → Nat → Int32 → Prop} {f_X5_readPart c_X5_readPart : Nat} (hq_X5_readPart : ∀ (post : Int32 → CSt → Prop) (s : CSt) (v0 : Nat) (v1 : Int32), P_X5_readPart post s v0 v1 → cMi (g_l X) yX5_readPart cX5_readPart 3 .boolean f_X5_readPart c_X5_readPart 0 0 G s [.ref v0, .int v1] post) (hr_X5_readPart : f_X5_readPart + 1 ≤ (g_R X).frames ∧ 8 + (3 + 11) + c_X5_readPart ≤ (g_R X).locals) {post : Int32 → CSt → Prop} (hret : ∀ (r : Int32) (τ : CSt) (lv : List (Nat × Value)) (pc : Nat), post r τ → narrow .boolean (.int r) = .int r → decode cX5_readNested pc = .ok (.ireturn, 1) → gJ X (cWd G A H0) Q 0 0 τ lv pc [.int r]) (s : CSt) (v0 : Nat) (v1 : Int32) (hw : wpC_X5_readNested_0 P_X5_readEither P_X5_readPart post s v0 v1) : gJ X (cWd G A H0) Q 0 0 s [(0, .ref v0), (1, .int v1)] 0 [] := by
  refine g_aload_n C.1 0 dX5_readNested_0 rfl rfl ?_
  refine c_get5 C hw.1 10 (by decide) kC_299 (fun _ h => h) rfl dX5_readNested_1 ?_
  replace hw := hw.2
  refine g_bipush (v := 6) C.1 dX5_readNested_4 (by decide) ?_
  refine g_icmp_ne (tgt := 13) C.1 dX5_readNested_6 (by decide) (fun h13 => ?_) (fun h13 => ?_)
  · replace hw := hw.1 h13
    refine g_iconst (v := 0) C.1 dX5_readNested_13 (by decide) ?_
    exact wkC_X5_readNested_14 C hsz hR hq_X5_readEither hr_X5_readEither hq_X5_readPart hr_X5_readPart hret _ _ _ _ hw
  · replace hw := hw.2 h13
    refine g_iconst (v := 1) C.1 dX5_readNested_9 (by decide) ?_
    refine g_goto (tgt := 14) C.1 dX5_readNested_10 (by decide) ?_
    exact wkC_X5_readNested_14 C hsz hR hq_X5_readEither hr_X5_readEither hq_X5_readPart hr_X5_readPart hret _ _ _ _ hw
def wpC_X5_readBoth_8_F (P_X5_readPart : (Int32 → CSt → Prop) → CSt → Nat → Int32 → Prop) (post : Int32 → CSt → Prop) (K8 : CSt → Nat → Int32 → Int32 → Int32 → Prop) (s : CSt) (v0 : Nat) (v1 : Int32) (v2 : Int32) (v3 : Int32) : Prop := (400 ≤ v3 → narrow .boolean (.int v2) = .int v2 ∧ post v2 s) ∧ (¬ 400 ≤ v3 → (v2 = 0 → narrow .boolean (.int v2) = .int v2 ∧ post v2 s) ∧ (¬ v2 = 0 → cAt s 5 v0 ∧ (¬ (cI s 90 v0) = 7 → narrow .boolean (.int v2) = .int v2 ∧ post v2 s) ∧ ((cI s 90 v0) = 7 → cAt s 5 v0 ∧ wpC_X5_advance_0 (fun s4 => cAt s4 5 v0 ∧ P_X5_readPart (fun r6 s5 => cAt s5 5 v0 ∧ wpC_X5_write_0 (fun s7 => K8 s7 v0 v1 r6 (v3 + 1)) s5 v0 7 0 0) s4 v0 v1) s v0)))
def wpC_X5_readBoth_8 (P_X5_readPart : (Int32 → CSt → Prop) → CSt → Nat → Int32 → Prop) (post : Int32 → CSt → Prop) (s : CSt) (v0 : Nat) (v1 : Int32) (v2 : Int32) (v3 : Int32) : Prop := gLP (fun (K : CSt × Nat × Int32 × Int32 × Int32 → Prop) (x : CSt × Nat × Int32 × Int32 × Int32) => wpC_X5_readBoth_8_F P_X5_readPart post (fun s v0 v1 v2 v3 => K (s, v0, v1, v2, v3)) x.1 x.2.1 x.2.2.1 x.2.2.2.1 x.2.2.2.2) (s, v0, v1, v2, v3)
def wpC_X5_readBoth_0 (P_X5_readPart : (Int32 → CSt → Prop) → CSt → Nat → Int32 → Prop) (post : Int32 → CSt → Prop) (s : CSt) (v0 : Nat) (v1 : Int32) : Prop := cAt s 5 v0 ∧ P_X5_readPart (fun r9 s8 => wpC_X5_readBoth_8 P_X5_readPart post s8 v0 v1 r9 0) s v0 v1
theorem wkC_X5_readBoth_8_F {X : gT} {G : cG} {A : Nat → Prop} {H0 : Heap} {Q : State → Prop} (C : cC X cX5_readBoth 4 RX5 G A) (hsz : H0 = (g_s X).heap) (hR : 7 ≤ (g_R X).frames ∧ 147 ≤ (g_R X).locals ∧ 0 ≤ (g_R X).cells ∧ 0 ≤ (g_R X).slots) {P_X5_readPart : (Int32 → CSt → Prop) → CSt → Nat → Int32 → Prop} {f_X5_readPart c_X5_readPart : Nat} (hq_X5_readPart : ∀ (post : Int32 → CSt → Prop) (s : CSt) (v0 : Nat) (v1 : Int32), P_X5_readPart post s v0 v1 → cMi (g_l X) yX5_readPart cX5_readPart 3 .boolean f_X5_readPart c_X5_readPart 0 0 G s [.ref v0, .int v1] post) (hr_X5_readPart : f_X5_readPart + 1 ≤ (g_R X).frames ∧ 8 + (3 + 11) + c_X5_readPart ≤ (g_R X).locals) {post : Int32 → CSt → Prop} (hret : ∀ (r : Int32) (τ : CSt) (lv : List (Nat × Value)) (pc : Nat), post r τ → narrow .boolean (.int r) = .int r → decode cX5_readBoth pc = .ok (.ireturn, 1) → gJ X (cWd G A H0) Q 0 0 τ lv pc [.int r]) {K8 : CSt → Nat → Int32 → Int32 → Int32 → Prop} (hK8 : ∀ (s : CSt) (v0 : Nat) (v1 : Int32) (v2 : Int32) (v3 : Int32), K8 s v0 v1 v2 v3 → gJ X (cWd G A H0) Q 0 0 s [(0, .ref v0), (1, .int v1), (2, .int v2), (3, .int v3)] 8 []) (s : CSt) (v0 : Nat) (v1 : Int32) (v2 : Int32) (v3 : Int32) (hw : wpC_X5_readBoth_8_F P_X5_readPart post K8 s v0 v1 v2 v3) : gJ X (cWd G A H0) Q 0 0 s [(0, .ref v0), (1, .int v1), (2, .int v2), (3, .int v3)] 8 [] := by
  refine g_iload_n C.1 3 dX5_readBoth_8 rfl rfl ?_
  refine g_sipush (v := 400) C.1 dX5_readBoth_9 (by decide) ?_
  refine g_icmp_ge (tgt := 52) C.1 dX5_readBoth_12 (by decide) (fun h1 => ?_) (fun h1 => ?_)
  · replace hw := hw.1 h1
    refine g_iload_n C.1 2 dX5_readBoth_52 rfl rfl ?_
    exact hret _ _ _ _ hw.2 hw.1 dX5_readBoth_53
  · replace hw := hw.2 h1
    refine g_iload_n C.1 2 dX5_readBoth_15 rfl rfl ?_
    refine g_if_eq (tgt := 52) C.1 dX5_readBoth_16 (by decide) (fun h2 => ?_) (fun h2 => ?_)
    · replace hw := hw.1 h2
      refine g_iload_n C.1 2 dX5_readBoth_52 rfl rfl ?_
      exact hret _ _ _ _ hw.2 hw.1 dX5_readBoth_53
    · replace hw := hw.2 h2
      refine g_aload_n C.1 0 dX5_readBoth_19 rfl rfl ?_
      refine c_get5 C hw.1 10 (by decide) kC_299 (fun _ h => h) rfl dX5_readBoth_20 ?_
      replace hw := hw.2
      refine g_bipush (v := 7) C.1 dX5_readBoth_23 (by decide) ?_
      refine g_icmp_ne (tgt := 52) C.1 dX5_readBoth_25 (by decide) (fun h3 => ?_) (fun h3 => ?_)
      · replace hw := hw.1 h3
        refine g_iload_n C.1 2 dX5_readBoth_52 rfl rfl ?_
        exact hret _ _ _ _ hw.2 hw.1 dX5_readBoth_53
      · replace hw := hw.2 h3
        refine g_aload_n C.1 0 dX5_readBoth_28 rfl rfl ?_
        refine c_callVv (vs := []) C hsz (cC_X5_advance (g_l X) G s _ _ hw.2) kC_256 kC_322 kC_323 kC_324 kC_314 hdC_X5_advance (c_recv5 C hw.1) ⟨(Nat.le_trans (Nat.le_of_ble_eq_true rfl) hR.1), (Nat.le_trans (Nat.le_of_ble_eq_true rfl) hR.2.1)⟩ ⟨(Nat.le_trans (Nat.le_of_ble_eq_true rfl) hR.2.2.1), (Nat.le_trans (Nat.le_of_ble_eq_true rfl) hR.2.2.2)⟩ dX5_readBoth_29 rfl (Nat.le_of_ble_eq_true rfl) (fun s4 hw => ?_)
        refine g_aload_n C.1 0 dX5_readBoth_32 rfl rfl ?_
        refine g_iload_n C.1 1 dX5_readBoth_33 rfl rfl ?_
        refine c_callVi (vs := [.int v1]) C hsz (hq_X5_readPart _ _ _ _ hw.2) kC_256 kC_333 kC_334 kC_335 kC_344 hdC_X5_readPart (c_recv5 C hw.1) hr_X5_readPart ⟨(Nat.le_trans (Nat.le_of_ble_eq_true rfl) hR.2.2.1), (Nat.le_trans (Nat.le_of_ble_eq_true rfl) hR.2.2.2)⟩ dX5_readBoth_34 rfl (Nat.le_of_ble_eq_true rfl) (fun r6 s5 hw => ?_)
        refine g_istore_n (lv' := [(2, .int r6), (0, .ref v0), (1, .int v1), (3, .int v3)]) C.1 dX5_readBoth_37 rfl (by decide) rfl ?_
        refine g_aload_n C.1 1 dX5_readBoth_38 rfl rfl ?_
        refine g_bipush (v := 7) C.1 dX5_readBoth_39 (by decide) ?_
        refine g_iconst (v := 0) C.1 dX5_readBoth_41 (by decide) ?_
        refine g_iconst (v := 0) C.1 dX5_readBoth_42 (by decide) ?_
        refine c_callVv (vs := [.int 7, .int 0, .int 0]) C hsz (cC_X5_write (g_l X) G s5 _ _ _ _ _ hw.2) kC_256 kC_328 kC_329 kC_330 kC_316 hdC_X5_write (c_recv5 C hw.1) ⟨(Nat.le_trans (Nat.le_of_ble_eq_true rfl) hR.1), (Nat.le_trans (Nat.le_of_ble_eq_true rfl) hR.2.1)⟩ ⟨(Nat.le_trans (Nat.le_of_ble_eq_true rfl) hR.2.2.1), (Nat.le_trans (Nat.le_of_ble_eq_true rfl) hR.2.2.2)⟩ dX5_readBoth_43 rfl (Nat.le_of_ble_eq_true rfl) (fun s7 hw => ?_)
        refine g_iinc (v := v3 + 1) (lv' := [(3, .int (v3 + 1)), (2, .int r6), (0, .ref v0), (1, .int v1)]) C.1 3 dX5_readBoth_46 rfl rfl (by decide) rfl ?_
        refine g_goto (tgt := 8) C.1 dX5_readBoth_49 (by decide) ?_
        refine gJ.sub [2, 3, 1, 0] rfl ?_
        exact hK8 _ _ _ _ _ hw
theorem wkC_X5_readBoth_8 {X : gT} {G : cG} {A : Nat → Prop} {H0 : Heap} {Q : State → Prop} (C : cC X cX5_readBoth 4 RX5 G A) (hsz : H0 = (g_s X).heap) (hR : 7 ≤ (g_R X).frames ∧ 147 ≤ (g_R X).locals ∧ 0 ≤ (g_R X).cells ∧ 0 ≤ (g_R X).slots) {P_X5_readPart : (Int32 → CSt → Prop) → CSt → Nat → Int32 → Prop} {f_X5_readPart c_X5_readPart : Nat} (hq_X5_readPart : ∀ (post : Int32 → CSt → Prop) (s : CSt) (v0 : Nat) (v1 : Int32), P_X5_readPart post s v0 v1 → cMi (g_l X) yX5_readPart cX5_readPart 3 .boolean f_X5_readPart c_X5_readPart 0 0 G s [.ref v0, .int v1] post) (hr_X5_readPart : f_X5_readPart + 1 ≤ (g_R X).frames ∧ 8 + (3 + 11) + c_X5_readPart ≤ (g_R X).locals) {post : Int32 → CSt → Prop} (hret : ∀ (r : Int32) (τ : CSt) (lv : List (Nat × Value)) (pc : Nat), post r τ → narrow .boolean (.int r) = .int r → decode cX5_readBoth pc = .ok (.ireturn, 1) → gJ X (cWd G A H0) Q 0 0 τ lv pc [.int r]) (s : CSt) (v0 : Nat) (v1 : Int32) (v2 : Int32) (v3 : Int32) (hw : wpC_X5_readBoth_8 P_X5_readPart post s v0 v1 v2 v3) : gJ X (cWd G A H0) Q 0 0 s [(0, .ref v0), (1, .int v1), (2, .int v2), (3, .int v3)] 8 [] := 
  hw (fun (x : CSt × Nat × Int32 × Int32 × Int32) => (fun s v0 v1 v2 v3 => gJ X (cWd G A H0) Q 0 0 s [(0, .ref v0), (1, .int v1), (2, .int v2), (3, .int v3)] 8 []) x.1 x.2.1 x.2.2.1 x.2.2.2.1 x.2.2.2.2) (fun x hx => wkC_X5_readBoth_8_F C hsz hR hq_X5_readPart hr_X5_readPart hret (K8 := (fun s v0 v1 v2 v3 => gJ X (cWd G A H0) Q 0 0 s [(0, .ref v0), (1, .int v1), (2, .int v2), (3, .int v3)] 8 [])) (fun _ _ _ _ _ h => h) x.1 x.2.1 x.2.2.1 x.2.2.2.1 x.2.2.2.2 hx)
theorem wkC_X5_readBoth_0 {X : gT} {G : cG} {A : Nat → Prop} {H0 : Heap} {Q : State → Prop} (C : cC X cX5_readBoth 4 RX5 G A) (hsz : H0 = (g_s X).heap) (hR : 7 ≤ (g_R X).frames ∧ 147 ≤ (g_R X).locals ∧ 0 ≤ (g_R X).cells ∧ 0 ≤ (g_R X).slots) {P_X5_readPart : (Int32 → CSt → Prop) → CSt → Nat → Int32 → Prop} {f_X5_readPart c_X5_readPart : Nat} (hq_X5_readPart : ∀ (post : Int32 → CSt → Prop) (s : CSt) (v0 : Nat) (v1 : Int32), P_X5_readPart post s v0 v1 → cMi (g_l X) yX5_readPart cX5_readPart 3 .boolean f_X5_readPart c_X5_readPart 0 0 G s [.ref v0, .int v1] post) (hr_X5_readPart : f_X5_readPart + 1 ≤ (g_R X).frames ∧ 8 + (3 + 11) + c_X5_readPart ≤ (g_R X).locals) {post : Int32 → CSt → Prop} (hret : ∀ (r : Int32) (τ : CSt) (lv : List (Nat × Value)) (pc : Nat), post r τ → narrow .boolean (.int r) = .int r → decode cX5_readBoth pc = .ok (.ireturn, 1) → gJ X (cWd G A H0) Q 0 0 τ lv pc [.int r]) (s : CSt) (v0 : Nat) (v1 : Int32) (hw : wpC_X5_readBoth_0 P_X5_readPart post s v0 v1) : gJ X (cWd G A H0) Q 0 0 s [(0, .ref v0), (1, .int v1)] 0 [] := by
  refine g_aload_n C.1 0 dX5_readBoth_0 rfl rfl ?_
  refine g_iload_n C.1 1 dX5_readBoth_1 rfl rfl ?_
  refine c_callVi (vs := [.int v1]) C hsz (hq_X5_readPart _ _ _ _ hw.2) kC_256 kC_333 kC_334 kC_335 kC_344 hdC_X5_readPart (c_recv5 C hw.1) hr_X5_readPart ⟨(Nat.le_trans (Nat.le_of_ble_eq_true rfl) hR.2.2.1), (Nat.le_trans (Nat.le_of_ble_eq_true rfl) hR.2.2.2)⟩ dX5_readBoth_2 rfl (Nat.le_of_ble_eq_true rfl) (fun r9 s8 hw => ?_)
  refine g_istore_n (lv' := [(2, .int r9), (0, .ref v0), (1, .int v1)]) C.1 dX5_readBoth_5 rfl (by decide) rfl ?_
  refine g_iconst (v := 0) C.1 dX5_readBoth_6 (by decide) ?_
  refine g_istore_n (lv' := [(3, .int 0), (2, .int r9), (0, .ref v0), (1, .int v1)]) C.1 dX5_readBoth_7 rfl (by decide) rfl ?_
  refine gJ.sub [2, 3, 1, 0] rfl ?_
  exact wkC_X5_readBoth_8 C hsz hR hq_X5_readPart hr_X5_readPart hret _ _ _ _ _ hw
def wpC_X5_readEither_8_F (P_X5_readBoth : (Int32 → CSt → Prop) → CSt → Nat → Int32 → Prop) (post : Int32 → CSt → Prop) (K8 : CSt → Nat → Int32 → Int32 → Int32 → Prop) (s : CSt) (v0 : Nat) (v1 : Int32) (v2 : Int32) (v3 : Int32) : Prop := (400 ≤ v3 → narrow .boolean (.int v2) = .int v2 ∧ post v2 s) ∧ (¬ 400 ≤ v3 → (v2 = 0 → narrow .boolean (.int v2) = .int v2 ∧ post v2 s) ∧ (¬ v2 = 0 → cAt s 5 v0 ∧ (¬ (cI s 90 v0) = 8 → narrow .boolean (.int v2) = .int v2 ∧ post v2 s) ∧ ((cI s 90 v0) = 8 → cAt s 5 v0 ∧ wpC_X5_advance_0 (fun s4 => cAt s4 5 v0 ∧ P_X5_readBoth (fun r6 s5 => cAt s5 5 v0 ∧ wpC_X5_write_0 (fun s7 => K8 s7 v0 v1 r6 (v3 + 1)) s5 v0 8 0 0) s4 v0 v1) s v0)))
def wpC_X5_readEither_8 (P_X5_readBoth : (Int32 → CSt → Prop) → CSt → Nat → Int32 → Prop) (post : Int32 → CSt → Prop) (s : CSt) (v0 : Nat) (v1 : Int32) (v2 : Int32) (v3 : Int32) : Prop := gLP (fun (K : CSt × Nat × Int32 × Int32 × Int32 → Prop) (x : CSt × Nat × Int32 × Int32 × Int32) => wpC_X5_readEither_8_F P_X5_readBoth post (fun s v0 v1 v2 v3 => K (s, v0, v1, v2, v3)) x.1 x.2.1 x.2.2.1 x.2.2.2.1 x.2.2.2.2) (s, v0, v1, v2, v3)
def wpC_X5_readEither_0 (P_X5_readBoth : (Int32 → CSt → Prop) → CSt → Nat → Int32 → Prop) (post : Int32 → CSt → Prop) (s : CSt) (v0 : Nat) (v1 : Int32) : Prop := cAt s 5 v0 ∧ P_X5_readBoth (fun r9 s8 => wpC_X5_readEither_8 P_X5_readBoth post s8 v0 v1 r9 0) s v0 v1
theorem wkC_X5_readEither_8_F {X : gT} {G : cG} {A : Nat → Prop} {H0 : Heap} {Q : State → Prop} (C : cC X cX5_readEither 4 RX5 G A) (hsz : H0 = (g_s X).heap) (hR : 7 ≤ (g_R X).frames ∧ 147 ≤ (g_R X).locals ∧ 0 ≤ (g_R X).cells ∧ 0 ≤ (g_R X).slots) {P_X5_readBoth : (Int32 → CSt → Prop) → CSt → Nat → Int32 → Prop} {f_X5_readBoth c_X5_readBoth : Nat} (hq_X5_readBoth : ∀ (post : Int32 → CSt → Prop) (s : CSt) (v0 : Nat) (v1 : Int32), P_X5_readBoth post s v0 v1 → cMi (g_l X) yX5_readBoth cX5_readBoth 4 .boolean f_X5_readBoth c_X5_readBoth 0 0 G s [.ref v0, .int v1] post) (hr_X5_readBoth : f_X5_readBoth + 1 ≤ (g_R X).frames ∧ 8 + (4 + 11) + c_X5_readBoth ≤ (g_R X).locals) {post : Int32 → CSt → Prop} (hret : ∀ (r : Int32) (τ : CSt) (lv : List (Nat × Value)) (pc : Nat), post r τ → narrow .boolean (.int r) = .int r → decode cX5_readEither pc = .ok (.ireturn, 1) → gJ X (cWd G A H0) Q 0 0 τ lv pc [.int r]) {K8 : CSt → Nat → Int32 → Int32 → Int32 → Prop} (hK8 : ∀ (s : CSt) (v0 : Nat) (v1 : Int32) (v2 : Int32) (v3 : Int32), K8 s v0 v1 v2 v3 → gJ X (cWd G A H0) Q 0 0 s [(0, .ref v0), (1, .int v1), (2, .int v2), (3, .int v3)] 8 []) (s : CSt) (v0 : Nat) (v1 : Int32) (v2 : Int32) (v3 : Int32) (hw : wpC_X5_readEither_8_F P_X5_readBoth post K8 s v0 v1 v2 v3) : gJ X (cWd G A H0) Q 0 0 s [(0, .ref v0), (1, .int v1), (2, .int v2), (3, .int v3)] 8 [] := by
  refine g_iload_n C.1 3 dX5_readEither_8 rfl rfl ?_
  refine g_sipush (v := 400) C.1 dX5_readEither_9 (by decide) ?_
  refine g_icmp_ge (tgt := 52) C.1 dX5_readEither_12 (by decide) (fun h1 => ?_) (fun h1 => ?_)
  · replace hw := hw.1 h1
    refine g_iload_n C.1 2 dX5_readEither_52 rfl rfl ?_
    exact hret _ _ _ _ hw.2 hw.1 dX5_readEither_53
  · replace hw := hw.2 h1
    refine g_iload_n C.1 2 dX5_readEither_15 rfl rfl ?_
    refine g_if_eq (tgt := 52) C.1 dX5_readEither_16 (by decide) (fun h2 => ?_) (fun h2 => ?_)
    · replace hw := hw.1 h2
      refine g_iload_n C.1 2 dX5_readEither_52 rfl rfl ?_
      exact hret _ _ _ _ hw.2 hw.1 dX5_readEither_53
    · replace hw := hw.2 h2
      refine g_aload_n C.1 0 dX5_readEither_19 rfl rfl ?_
      refine c_get5 C hw.1 10 (by decide) kC_299 (fun _ h => h) rfl dX5_readEither_20 ?_
      replace hw := hw.2
      refine g_bipush (v := 8) C.1 dX5_readEither_23 (by decide) ?_
      refine g_icmp_ne (tgt := 52) C.1 dX5_readEither_25 (by decide) (fun h3 => ?_) (fun h3 => ?_)
      · replace hw := hw.1 h3
        refine g_iload_n C.1 2 dX5_readEither_52 rfl rfl ?_
        exact hret _ _ _ _ hw.2 hw.1 dX5_readEither_53
      · replace hw := hw.2 h3
        refine g_aload_n C.1 0 dX5_readEither_28 rfl rfl ?_
        refine c_callVv (vs := []) C hsz (cC_X5_advance (g_l X) G s _ _ hw.2) kC_256 kC_322 kC_323 kC_324 kC_314 hdC_X5_advance (c_recv5 C hw.1) ⟨(Nat.le_trans (Nat.le_of_ble_eq_true rfl) hR.1), (Nat.le_trans (Nat.le_of_ble_eq_true rfl) hR.2.1)⟩ ⟨(Nat.le_trans (Nat.le_of_ble_eq_true rfl) hR.2.2.1), (Nat.le_trans (Nat.le_of_ble_eq_true rfl) hR.2.2.2)⟩ dX5_readEither_29 rfl (Nat.le_of_ble_eq_true rfl) (fun s4 hw => ?_)
        refine g_aload_n C.1 0 dX5_readEither_32 rfl rfl ?_
        refine g_iload_n C.1 1 dX5_readEither_33 rfl rfl ?_
        refine c_callVi (vs := [.int v1]) C hsz (hq_X5_readBoth _ _ _ _ hw.2) kC_256 kC_337 kC_338 kC_339 kC_354 hdC_X5_readBoth (c_recv5 C hw.1) hr_X5_readBoth ⟨(Nat.le_trans (Nat.le_of_ble_eq_true rfl) hR.2.2.1), (Nat.le_trans (Nat.le_of_ble_eq_true rfl) hR.2.2.2)⟩ dX5_readEither_34 rfl (Nat.le_of_ble_eq_true rfl) (fun r6 s5 hw => ?_)
        refine g_istore_n (lv' := [(2, .int r6), (0, .ref v0), (1, .int v1), (3, .int v3)]) C.1 dX5_readEither_37 rfl (by decide) rfl ?_
        refine g_aload_n C.1 1 dX5_readEither_38 rfl rfl ?_
        refine g_bipush (v := 8) C.1 dX5_readEither_39 (by decide) ?_
        refine g_iconst (v := 0) C.1 dX5_readEither_41 (by decide) ?_
        refine g_iconst (v := 0) C.1 dX5_readEither_42 (by decide) ?_
        refine c_callVv (vs := [.int 8, .int 0, .int 0]) C hsz (cC_X5_write (g_l X) G s5 _ _ _ _ _ hw.2) kC_256 kC_328 kC_329 kC_330 kC_316 hdC_X5_write (c_recv5 C hw.1) ⟨(Nat.le_trans (Nat.le_of_ble_eq_true rfl) hR.1), (Nat.le_trans (Nat.le_of_ble_eq_true rfl) hR.2.1)⟩ ⟨(Nat.le_trans (Nat.le_of_ble_eq_true rfl) hR.2.2.1), (Nat.le_trans (Nat.le_of_ble_eq_true rfl) hR.2.2.2)⟩ dX5_readEither_43 rfl (Nat.le_of_ble_eq_true rfl) (fun s7 hw => ?_)
        refine g_iinc (v := v3 + 1) (lv' := [(3, .int (v3 + 1)), (2, .int r6), (0, .ref v0), (1, .int v1)]) C.1 3 dX5_readEither_46 rfl rfl (by decide) rfl ?_
        refine g_goto (tgt := 8) C.1 dX5_readEither_49 (by decide) ?_
        refine gJ.sub [2, 3, 1, 0] rfl ?_
        exact hK8 _ _ _ _ _ hw
theorem wkC_X5_readEither_8 {X : gT} {G : cG} {A : Nat → Prop} {H0 : Heap} {Q : State → Prop} (C : cC X cX5_readEither 4 RX5 G A) (hsz : H0 = (g_s X).heap) (hR : 7 ≤ (g_R X).frames ∧ 147 ≤ (g_R X).locals ∧ 0 ≤ (g_R X).cells ∧ 0 ≤ (g_R X).slots) {P_X5_readBoth : (Int32 → CSt → Prop) → CSt → Nat → Int32 → Prop} {f_X5_readBoth c_X5_readBoth : Nat} (hq_X5_readBoth : ∀ (post : Int32 → CSt → Prop) (s : CSt) (v0 : Nat) (v1 : Int32), P_X5_readBoth post s v0 v1 → cMi (g_l X) yX5_readBoth cX5_readBoth 4 .boolean f_X5_readBoth c_X5_readBoth 0 0 G s [.ref v0, .int v1] post) (hr_X5_readBoth : f_X5_readBoth + 1 ≤ (g_R X).frames ∧ 8 + (4 + 11) + c_X5_readBoth ≤ (g_R X).locals) {post : Int32 → CSt → Prop} (hret : ∀ (r : Int32) (τ : CSt) (lv : List (Nat × Value)) (pc : Nat), post r τ → narrow .boolean (.int r) = .int r → decode cX5_readEither pc = .ok (.ireturn, 1) → gJ X (cWd G A H0) Q 0 0 τ lv pc [.int r]) (s : CSt) (v0 : Nat) (v1 : Int32) (v2 : Int32) (v3 : Int32) (hw : wpC_X5_readEither_8 P_X5_readBoth post s v0 v1 v2 v3) : gJ X (cWd G A H0) Q 0 0 s [(0, .ref v0), (1, .int v1), (2, .int v2), (3, .int v3)] 8 [] := 
  hw (fun (x : CSt × Nat × Int32 × Int32 × Int32) => (fun s v0 v1 v2 v3 => gJ X (cWd G A H0) Q 0 0 s [(0, .ref v0), (1, .int v1), (2, .int v2), (3, .int v3)] 8 []) x.1 x.2.1 x.2.2.1 x.2.2.2.1 x.2.2.2.2) (fun x hx => wkC_X5_readEither_8_F C hsz hR hq_X5_readBoth hr_X5_readBoth hret (K8 := (fun s v0 v1 v2 v3 => gJ X (cWd G A H0) Q 0 0 s [(0, .ref v0), (1, .int v1), (2, .int v2), (3, .int v3)] 8 [])) (fun _ _ _ _ _ h => h) x.1 x.2.1 x.2.2.1 x.2.2.2.1 x.2.2.2.2 hx)
theorem wkC_X5_readEither_0 {X : gT} {G : cG} {A : Nat → Prop} {H0 : Heap} {Q : State → Prop} (C : cC X cX5_readEither 4 RX5 G A) (hsz : H0 = (g_s X).heap) (hR : 7 ≤ (g_R X).frames ∧ 147 ≤ (g_R X).locals ∧ 0 ≤ (g_R X).cells ∧ 0 ≤ (g_R X).slots) {P_X5_readBoth : (Int32 → CSt → Prop) → CSt → Nat → Int32 → Prop} {f_X5_readBoth c_X5_readBoth : Nat} (hq_X5_readBoth : ∀ (post : Int32 → CSt → Prop) (s : CSt) (v0 : Nat) (v1 : Int32), P_X5_readBoth post s v0 v1 → cMi (g_l X) yX5_readBoth cX5_readBoth 4 .boolean f_X5_readBoth c_X5_readBoth 0 0 G s [.ref v0, .int v1] post) (hr_X5_readBoth : f_X5_readBoth + 1 ≤ (g_R X).frames ∧ 8 + (4 + 11) + c_X5_readBoth ≤ (g_R X).locals) {post : Int32 → CSt → Prop} (hret : ∀ (r : Int32) (τ : CSt) (lv : List (Nat × Value)) (pc : Nat), post r τ → narrow .boolean (.int r) = .int r → decode cX5_readEither pc = .ok (.ireturn, 1) → gJ X (cWd G A H0) Q 0 0 τ lv pc [.int r]) (s : CSt) (v0 : Nat) (v1 : Int32) (hw : wpC_X5_readEither_0 P_X5_readBoth post s v0 v1) : gJ X (cWd G A H0) Q 0 0 s [(0, .ref v0), (1, .int v1)] 0 [] := by
  refine g_aload_n C.1 0 dX5_readEither_0 rfl rfl ?_
  refine g_iload_n C.1 1 dX5_readEither_1 rfl rfl ?_
  refine c_callVi (vs := [.int v1]) C hsz (hq_X5_readBoth _ _ _ _ hw.2) kC_256 kC_337 kC_338 kC_339 kC_354 hdC_X5_readBoth (c_recv5 C hw.1) hr_X5_readBoth ⟨(Nat.le_trans (Nat.le_of_ble_eq_true rfl) hR.2.2.1), (Nat.le_trans (Nat.le_of_ble_eq_true rfl) hR.2.2.2)⟩ dX5_readEither_2 rfl (Nat.le_of_ble_eq_true rfl) (fun r9 s8 hw => ?_)
  refine g_istore_n (lv' := [(2, .int r9), (0, .ref v0), (1, .int v1)]) C.1 dX5_readEither_5 rfl (by decide) rfl ?_
  refine g_iconst (v := 0) C.1 dX5_readEither_6 (by decide) ?_
  refine g_istore_n (lv' := [(3, .int 0), (2, .int r9), (0, .ref v0), (1, .int v1)]) C.1 dX5_readEither_7 rfl (by decide) rfl ?_
  refine gJ.sub [2, 3, 1, 0] rfl ?_
  exact wkC_X5_readEither_8 C hsz hR hq_X5_readBoth hr_X5_readBoth hret _ _ _ _ _ hw
/-- the class's reader, d levels deep -/
def wRP : Nat → (Int32 → CSt → Prop) → CSt → Nat → Int32 → Prop
  | 0 => wpC_X5_readPart_0 (fun _ _ _ _ => False)
  | d + 1 => wpC_X5_readPart_0 (wpC_X5_readNested_0 (wpC_X5_readEither_0 (wpC_X5_readBoth_0 (wRP d))) (wRP d))
theorem cC_readPartD (l : Launch) (G : cG) : ∀ (d : Nat) (post : Int32 → CSt → Prop) (s : CSt) (v0 : Nat) (v1 : Int32), wRP d post s v0 v1 → cMi l yX5_readPart cX5_readPart 3 .boolean (8 + 4 * d) (169 + 91 * d) 0 0 G s [.ref v0, .int v1] post
  | 0, post, s, v0, v1, hw => cMi_of (by decide +kernel) rfl (Nat.le_of_ble_eq_true rfl) (fun X A H0 Q hl hR hsz hnm C hret => wkC_X5_readPart_0 C hsz ⟨Nat.le_trans (by omega) hR.1, Nat.le_trans (by omega) hR.2.1, Nat.zero_le _, Nat.zero_le _⟩ (P_X5_readNested := fun _ _ _ _ => False) (f_X5_readNested := 0) (c_X5_readNested := 0) (fun _ _ _ _ h => h.elim) ⟨Nat.le_trans (by omega) hR.1, Nat.le_trans (by omega) hR.2.1⟩ hret s v0 v1 hw)
  | d + 1, post, s, v0, v1, hw => cMi_of (by decide +kernel) rfl (Nat.le_of_ble_eq_true rfl) (fun X A H0 Q hl hR hsz hnm C hret => wkC_X5_readPart_0 C hsz ⟨Nat.le_trans (by omega) hR.1, Nat.le_trans (by omega) hR.2.1, Nat.zero_le _, Nat.zero_le _⟩ (f_X5_readNested := 8 + 4 * d + 3) (c_X5_readNested := 169 + 91 * d + 68) (fun post s v0 v1 hw => cMi_of (by decide +kernel) rfl (Nat.le_of_ble_eq_true rfl) (fun X A H0 Q hl hR hsz hnm C hret => wkC_X5_readNested_0 C hsz ⟨Nat.le_trans (by omega) hR.1, Nat.le_trans (by omega) hR.2.1, Nat.zero_le _, Nat.zero_le _⟩ (f_X5_readEither := 8 + 4 * d + 2) (c_X5_readEither := 169 + 91 * d + 45) (f_X5_readPart := 8 + 4 * d) (c_X5_readPart := 169 + 91 * d) (fun post s v0 v1 hw => cMi_of (by decide +kernel) rfl (Nat.le_of_ble_eq_true rfl) (fun X A H0 Q hl hR hsz hnm C hret => wkC_X5_readEither_0 C hsz ⟨Nat.le_trans (by omega) hR.1, Nat.le_trans (by omega) hR.2.1, Nat.zero_le _, Nat.zero_le _⟩ (f_X5_readBoth := 8 + 4 * d + 1) (c_X5_readBoth := 169 + 91 * d + 22) (fun post s v0 v1 hw => cMi_of (by decide +kernel) rfl (Nat.le_of_ble_eq_true rfl) (fun X A H0 Q hl hR hsz hnm C hret => wkC_X5_readBoth_0 C hsz ⟨Nat.le_trans (by omega) hR.1, Nat.le_trans (by omega) hR.2.1, Nat.zero_le _, Nat.zero_le _⟩ (f_X5_readPart := 8 + 4 * d) (c_X5_readPart := 169 + 91 * d) (fun post s v0 v1 hw => cC_readPartD (g_l X) G d post s v0 v1 hw) ⟨Nat.le_trans (by omega) hR.1, Nat.le_trans (by omega) hR.2.1⟩ hret s v0 v1 hw)) ⟨Nat.le_trans (by omega) hR.1, Nat.le_trans (by omega) hR.2.1⟩ hret s v0 v1 hw)) ⟨Nat.le_trans (by omega) hR.1, Nat.le_trans (by omega) hR.2.1⟩ (fun post s v0 v1 hw => cC_readPartD (g_l X) G d post s v0 v1 hw) ⟨Nat.le_trans (by omega) hR.1, Nat.le_trans (by omega) hR.2.1⟩ hret s v0 v1 hw)) ⟨Nat.le_trans (by omega) hR.1, Nat.le_trans (by omega) hR.2.1⟩ hret s v0 v1 hw)
def wpC_X5_readEitherD_0 : (Int32 → CSt → Prop) → CSt → Nat → Int32 → Prop := wpC_X5_readEither_0 (wpC_X5_readBoth_0 (wRP 21))
theorem cC_X5_readEitherD (l : Launch) (G : cG) (s : CSt) (v0 : Nat) (v1 : Int32) (post : Int32 → CSt → Prop) (hw : wpC_X5_readEitherD_0 post s v0 v1) : cMi l yX5_readEither cX5_readEither 4 .boolean 94 2125 0 0 G s [.ref v0, .int v1] post := cMi_of (by decide +kernel) rfl (Nat.le_of_ble_eq_true rfl) (fun X A H0 Q hl hR hsz hnm C hret => wkC_X5_readEither_0 C hsz ⟨Nat.le_trans (by omega) hR.1, Nat.le_trans (by omega) hR.2.1, Nat.zero_le _, Nat.zero_le _⟩ (f_X5_readBoth := 93) (c_X5_readBoth := 2102) (fun post s v0 v1 hw => cMi_of (by decide +kernel) rfl (Nat.le_of_ble_eq_true rfl) (fun X A H0 Q hl hR hsz hnm C hret => wkC_X5_readBoth_0 C hsz ⟨Nat.le_trans (by omega) hR.1, Nat.le_trans (by omega) hR.2.1, Nat.zero_le _, Nat.zero_le _⟩ (f_X5_readPart := 8 + 4 * 21) (c_X5_readPart := 169 + 91 * 21) (fun post s v0 v1 hw => cC_readPartD (g_l X) G 21 post s v0 v1 hw) ⟨Nat.le_trans (by omega) hR.1, Nat.le_trans (by omega) hR.2.1⟩ hret s v0 v1 hw)) ⟨Nat.le_trans (by omega) hR.1, Nat.le_trans (by omega) hR.2.1⟩ hret s v0 v1 hw)
def wpC_X5_takes_74 (post : Int32 → CSt → Prop) (s : CSt) : Prop := post 1 s
def wpC_X5_takes_0 (post : Int32 → CSt → Prop) (s : CSt) (v0 : Nat) (v1 : Nat) (v2 : Int32) (v3 : Int32) (v4 : Int32) : Prop := cAt s 5 v0 ∧ ∀ s1 : CSt, s1 = csR s 84 v0 (some v1) → cAt s1 8 v1 ∧ ∀ x2 : Int32, x2 = (if (nI (cN s1 v1)) < v2 then (nI (cN s1 v1)) else v2) → cAt s1 5 v0 ∧ ∀ s3 : CSt, s3 = csI s1 85 v0 x2 → cAt s3 5 v0 ∧ ∀ s4 : CSt, s4 = csI s3 86 v0 v3 → cAt s4 5 v0 ∧ ∀ s5 : CSt, s5 = csI s4 87 v0 v4 → cAt s5 5 v0 ∧ ∀ s6 : CSt, s6 = csI s5 88 v0 0 → cAt s6 5 v0 ∧ ∀ s7 : CSt, s7 = csI s6 81 v0 0 → cAt s7 5 v0 ∧ ∀ s8 : CSt, s8 = csI s7 83 v0 0 → cAt s8 5 v0 ∧ ∀ s9 : CSt, s9 = csI s8 80 v0 (-1) → cAt s9 5 v0 ∧ wpC_X5_advance_0 (fun s10 => cAt s10 5 v0 ∧ wpC_X5_readEitherD_0 (fun r12 s11 => (r12 = 0 → post 0 s11) ∧ (¬ r12 = 0 → cAt s11 5 v0 ∧ ((cI s11 90 v0) = 15 → wpC_X5_takes_74 post s11) ∧ (¬ (cI s11 90 v0) = 15 → cAt s11 5 v0 ∧ wpC_X5_fails_0 (fun r16 s15 => (r16 = 0 → post 0 s15) ∧ (¬ r16 = 0 → wpC_X5_takes_74 post s15)) s11 v0))) s10 v0 0) s9 v0
theorem wkC_X5_takes_74 {X : gT} {G : cG} {A : Nat → Prop} {H0 : Heap} {Q : State → Prop} (C : cC X cX5_takes 5 RX5 G A) (hsz : H0 = (g_s X).heap) (hR : 95 ≤ (g_R X).frames ∧ 2148 ≤ (g_R X).locals ∧ 0 ≤ (g_R X).cells ∧ 0 ≤ (g_R X).slots) {post : Int32 → CSt → Prop} (hret : ∀ (r : Int32) (τ : CSt) (lv : List (Nat × Value)) (pc : Nat), post r τ → narrow .boolean (.int r) = .int r → decode cX5_takes pc = .ok (.ireturn, 1) → gJ X (cWd G A H0) Q 0 0 τ lv pc [.int r]) (s : CSt) (hw : wpC_X5_takes_74 post s) : gJ X (cWd G A H0) Q 0 0 s [] 74 [] := by
  refine g_iconst (v := 1) C.1 dX5_takes_74 (by decide) ?_
  refine g_goto (tgt := 79) C.1 dX5_takes_75 (by decide) ?_
  exact hret _ _ _ _ hw rfl dX5_takes_79
theorem wkC_X5_takes_0 {X : gT} {G : cG} {A : Nat → Prop} {H0 : Heap} {Q : State → Prop} (C : cC X cX5_takes 5 RX5 G A) (hsz : H0 = (g_s X).heap) (hR : 95 ≤ (g_R X).frames ∧ 2148 ≤ (g_R X).locals ∧ 0 ≤ (g_R X).cells ∧ 0 ≤ (g_R X).slots) {post : Int32 → CSt → Prop} (hret : ∀ (r : Int32) (τ : CSt) (lv : List (Nat × Value)) (pc : Nat), post r τ → narrow .boolean (.int r) = .int r → decode cX5_takes pc = .ok (.ireturn, 1) → gJ X (cWd G A H0) Q 0 0 τ lv pc [.int r]) (s : CSt) (v0 : Nat) (v1 : Nat) (v2 : Int32) (v3 : Int32) (v4 : Int32) (hw : wpC_X5_takes_0 post s v0 v1 v2 v3 v4) : gJ X (cWd G A H0) Q 0 0 s [(0, .ref v0), (1, .ref v1), (2, .int v2), (3, .int v3), (4, .int v4)] 0 [] := by
  refine g_aload_n C.1 0 dX5_takes_0 rfl rfl ?_
  refine g_aload_n C.1 1 dX5_takes_1 rfl rfl ?_
  refine c_put5 C (τ := csR s 84 v0 (some v1)) hw.1 4 (by decide) kC_235 (fun _ h => h) rfl (ty := .array .byte) (by decide +kernel) rfl rfl rfl hw.1.2 rfl (cx_5_4 _ _ (some v1)) (fun _ hb => csR_o hb) dX5_takes_2 ?_
  replace hw := hw.2
  refine gJ.nm (fun s1 es1 => ?_)
  replace hw := hw s1 es1
  refine g_aload_n C.1 0 dX5_takes_5 rfl rfl ?_
  refine g_iload_n C.1 2 dX5_takes_6 rfl rfl ?_
  refine g_aload_n C.1 1 dX5_takes_7 rfl rfl ?_
  refine c_blen C hw.1 dX5_takes_8 ?_
  replace hw := hw.2
  refine g_mmin C.1 C.2.1 (C.2.2.1 _ kC_355) (C.2.2.1 _ kC_66) (C.2.2.1 _ kC_4) (C.2.2.1 _ kC_67) (Nat.le_trans (Nat.le_of_ble_eq_true rfl) hR.1) (Nat.le_trans (Nat.le_of_ble_eq_true rfl) hR.2.1) (Nat.le_trans (Nat.le_of_ble_eq_true rfl) hR.2.2.1) (Nat.le_trans (Nat.le_of_ble_eq_true rfl) hR.2.2.2) dX5_takes_9 ?_
  refine g_topi (fun x2 ex2 => ?_)
  replace hw := hw x2 ex2
  refine c_put5 C (τ := csI s1 85 v0 x2) hw.1 5 (by decide) kC_298 (fun _ h => h) rfl (ty := .int) (by decide +kernel) rfl rfl rfl hw.1.2 rfl (cx_5_5 _ _ _) (fun _ hb => csI_o hb) dX5_takes_12 ?_
  replace hw := hw.2
  refine gJ.nm (fun s3 es3 => ?_)
  replace hw := hw s3 es3
  refine g_aload_n C.1 0 dX5_takes_15 rfl rfl ?_
  refine g_iload_n C.1 3 dX5_takes_16 rfl rfl ?_
  refine c_put5 C (τ := csI s3 86 v0 v3) hw.1 6 (by decide) kC_319 (fun _ h => h) rfl (ty := .int) (by decide +kernel) rfl rfl rfl hw.1.2 rfl (cx_5_6 _ _ _) (fun _ hb => csI_o hb) dX5_takes_17 ?_
  replace hw := hw.2
  refine gJ.nm (fun s4 es4 => ?_)
  replace hw := hw s4 es4
  refine g_aload_n C.1 0 dX5_takes_20 rfl rfl ?_
  refine g_iload C.1 4 dX5_takes_21 rfl ?_
  refine c_put5 C (τ := csI s4 87 v0 v4) hw.1 7 (by decide) kC_320 (fun _ h => h) rfl (ty := .int) (by decide +kernel) rfl rfl rfl hw.1.2 rfl (cx_5_7 _ _ _) (fun _ hb => csI_o hb) dX5_takes_23 ?_
  replace hw := hw.2
  refine gJ.nm (fun s5 es5 => ?_)
  replace hw := hw s5 es5
  refine g_aload_n C.1 0 dX5_takes_26 rfl rfl ?_
  refine g_iconst (v := 0) C.1 dX5_takes_27 (by decide) ?_
  refine c_put5 C (τ := csI s5 88 v0 0) hw.1 8 (by decide) kC_239 (fun _ h => h) rfl (ty := .int) (by decide +kernel) rfl rfl rfl hw.1.2 rfl (cx_5_8 _ _ _) (fun _ hb => csI_o hb) dX5_takes_28 ?_
  replace hw := hw.2
  refine gJ.nm (fun s6 es6 => ?_)
  replace hw := hw s6 es6
  refine g_aload_n C.1 0 dX5_takes_31 rfl rfl ?_
  refine g_iconst (v := 0) C.1 dX5_takes_32 (by decide) ?_
  refine c_put5 C (τ := csI s6 81 v0 0) hw.1 1 (by decide) kC_321 (fun _ h => h) rfl (ty := .int) (by decide +kernel) rfl rfl rfl hw.1.2 rfl (cx_5_1 _ _ _) (fun _ hb => csI_o hb) dX5_takes_33 ?_
  replace hw := hw.2
  refine gJ.nm (fun s7 es7 => ?_)
  replace hw := hw s7 es7
  refine g_aload_n C.1 0 dX5_takes_36 rfl rfl ?_
  refine g_iconst (v := 0) C.1 dX5_takes_37 (by decide) ?_
  refine c_put5 C (τ := csI s7 83 v0 0) hw.1 3 (by decide) kC_315 (fun _ h => h) rfl (ty := .int) (by decide +kernel) rfl rfl rfl hw.1.2 rfl (cx_5_3 _ _ _) (fun _ hb => csI_o hb) dX5_takes_38 ?_
  replace hw := hw.2
  refine gJ.nm (fun s8 es8 => ?_)
  replace hw := hw s8 es8
  refine g_aload_n C.1 0 dX5_takes_41 rfl rfl ?_
  refine g_iconst (v := (-1)) C.1 dX5_takes_42 (by decide) ?_
  refine c_put5 C (τ := csI s8 80 v0 (-1)) hw.1 0 (by decide) kC_317 (fun _ h => h) rfl (ty := .int) (by decide +kernel) rfl rfl rfl hw.1.2 rfl (cx_5_0 _ _ _) (fun _ hb => csI_o hb) dX5_takes_43 ?_
  replace hw := hw.2
  refine gJ.nm (fun s9 es9 => ?_)
  replace hw := hw s9 es9
  refine g_aload_n C.1 0 dX5_takes_46 rfl rfl ?_
  refine c_callVv (vs := []) C hsz (cC_X5_advance (g_l X) G s9 _ _ hw.2) kC_256 kC_322 kC_323 kC_324 kC_314 hdC_X5_advance (c_recv5 C hw.1) ⟨(Nat.le_trans (Nat.le_of_ble_eq_true rfl) hR.1), (Nat.le_trans (Nat.le_of_ble_eq_true rfl) hR.2.1)⟩ ⟨(Nat.le_trans (Nat.le_of_ble_eq_true rfl) hR.2.2.1), (Nat.le_trans (Nat.le_of_ble_eq_true rfl) hR.2.2.2)⟩ dX5_takes_47 rfl (Nat.le_of_ble_eq_true rfl) (fun s10 hw => ?_)
  refine g_aload_n C.1 0 dX5_takes_50 rfl rfl ?_
  refine g_iconst (v := 0) C.1 dX5_takes_51 (by decide) ?_
  refine c_callVi (vs := [.int 0]) C hsz (cC_X5_readEitherD (g_l X) G s10 _ _ _ hw.2) kC_256 kC_341 kC_342 kC_343 kC_336 hdC_X5_readEither (c_recv5 C hw.1) ⟨(Nat.le_trans (Nat.le_of_ble_eq_true rfl) hR.1), (Nat.le_trans (Nat.le_of_ble_eq_true rfl) hR.2.1)⟩ ⟨(Nat.le_trans (Nat.le_of_ble_eq_true rfl) hR.2.2.1), (Nat.le_trans (Nat.le_of_ble_eq_true rfl) hR.2.2.2)⟩ dX5_takes_52 rfl (Nat.le_of_ble_eq_true rfl) (fun r12 s11 hw => ?_)
  refine g_if_eq (tgt := 78) C.1 dX5_takes_55 (by decide) (fun h13 => ?_) (fun h13 => ?_)
  · replace hw := hw.1 h13
    refine g_iconst (v := 0) C.1 dX5_takes_78 (by decide) ?_
    exact hret _ _ _ _ hw rfl dX5_takes_79
  · replace hw := hw.2 h13
    refine g_aload_n C.1 0 dX5_takes_58 rfl rfl ?_
    refine c_get5 C hw.1 10 (by decide) kC_299 (fun _ h => h) rfl dX5_takes_59 ?_
    replace hw := hw.2
    refine g_bipush (v := 15) C.1 dX5_takes_62 (by decide) ?_
    refine g_icmp_eq (tgt := 74) C.1 dX5_takes_64 (by decide) (fun h14 => ?_) (fun h14 => ?_)
    · replace hw := hw.1 h14
      refine gJ.sub [] rfl ?_
      exact wkC_X5_takes_74 C hsz hR hret _ hw
    · replace hw := hw.2 h14
      refine g_aload_n C.1 0 dX5_takes_67 rfl rfl ?_
      refine c_callVi (vs := []) C hsz (cC_X5_fails (g_l X) G s11 _ _ hw.2) kC_256 kC_325 kC_326 kC_327 kC_318 hdC_X5_fails (c_recv5 C hw.1) ⟨(Nat.le_trans (Nat.le_of_ble_eq_true rfl) hR.1), (Nat.le_trans (Nat.le_of_ble_eq_true rfl) hR.2.1)⟩ ⟨(Nat.le_trans (Nat.le_of_ble_eq_true rfl) hR.2.2.1), (Nat.le_trans (Nat.le_of_ble_eq_true rfl) hR.2.2.2)⟩ dX5_takes_68 rfl (Nat.le_of_ble_eq_true rfl) (fun r16 s15 hw => ?_)
      refine g_if_eq (tgt := 78) C.1 dX5_takes_71 (by decide) (fun h17 => ?_) (fun h17 => ?_)
      · replace hw := hw.1 h17
        refine g_iconst (v := 0) C.1 dX5_takes_78 (by decide) ?_
        exact hret _ _ _ _ hw rfl dX5_takes_79
      · replace hw := hw.2 h17
        refine gJ.sub [] rfl ?_
        exact wkC_X5_takes_74 C hsz hR hret _ hw
theorem hdC_X5_takes : yX5_takes.cls = RX5 ∧ yX5_takes.cls ≠ "java/lang/invoke/MethodHandle" ∧ yX5_takes.cls ≠ "java/lang/invoke/VarHandle" ∧ (parseMethodDescriptor yX5_takes.desc).map (fun d => d.parameters.length) = some 4 := by decide +kernel
theorem cC_X5_takes (l : Launch) (G : cG) (s : CSt) (v0 : Nat) (v1 : Nat) (v2 : Int32) (v3 : Int32) (v4 : Int32) (post : Int32 → CSt → Prop) (hw : wpC_X5_takes_0 post s v0 v1 v2 v3 v4) : cMi l yX5_takes cX5_takes 5 .boolean 95 2148 0 0 G s [.ref v0, .ref v1, .int v2, .int v3, .int v4] post := cMi_of (by decide +kernel) rfl (Nat.le_of_ble_eq_true rfl) (fun X A H0 Q hl hR hsz hnm C hret => wkC_X5_takes_0 C hsz hR hret s v0 v1 v2 v3 v4 hw)
def wpC_X5_codeCopy_0 (post : Option Nat → CSt → Prop) (s : CSt) (v0 : Nat) : Prop := cAt s 5 v0 ∧ ∃ a1 : Nat, cR s 82 v0 = some a1 ∧ cAt s 5 v0 ∧ wpC_J7_copyOf_59c91_0 (fun r3 s2 => post r3 s2) s a1 (cI s 83 v0)
theorem wkC_X5_codeCopy_0 {X : gT} {G : cG} {A : Nat → Prop} {H0 : Heap} {Q : State → Prop} (C : cC X cX5_codeCopy 1 RX5 G A) (hsz : H0 = (g_s X).heap) (hR : 2 ≤ (g_R X).frames ∧ 82 ≤ (g_R X).locals ∧ 1 ≤ (g_R X).cells ∧ 400 ≤ (g_R X).slots) {post : Option Nat → CSt → Prop} (hret : ∀ (r : Option Nat) (τ : CSt) (lv : List (Nat × Value)) (pc : Nat), post r τ → decode cX5_codeCopy pc = .ok (.areturn, 1) → gJ X (cWd G A H0) Q 1 400 τ lv pc [va_rf r]) (s : CSt) (v0 : Nat) (hw : wpC_X5_codeCopy_0 post s v0) : gJ X (cWd G A H0) Q 0 0 s [(0, .ref v0)] 0 [] := by
  refine g_aload_n C.1 0 dX5_codeCopy_0 rfl rfl ?_
  refine c_get5 C hw.1 2 (by decide) kC_233 (fun _ h => h) rfl dX5_codeCopy_1 ?_
  replace hw := hw.2
  obtain ⟨a1, ha1, hw⟩ := hw
  rw [ha1]
  refine g_aload_n C.1 0 dX5_codeCopy_4 rfl rfl ?_
  refine c_get5 C hw.1 3 (by decide) kC_315 (fun _ h => h) rfl dX5_codeCopy_5 ?_
  replace hw := hw.2
  refine c_callSq (vs := [.ref a1, .int (cI s 83 v0)]) C hsz (cC_J7_copyOf_59c91 (g_l X) G s _ _ _ hw) kC_189 kC_357 kC_358 kC_359 hdC_J7_copyOf_59c91 ⟨(Nat.le_trans (Nat.le_of_ble_eq_true rfl) hR.1), (Nat.le_trans (Nat.le_of_ble_eq_true rfl) hR.2.1)⟩ ⟨(Nat.le_trans (Nat.le_of_ble_eq_true rfl) hR.2.2.1), (Nat.le_trans (Nat.le_of_ble_eq_true rfl) hR.2.2.2)⟩ dX5_codeCopy_8 rfl (Nat.le_of_ble_eq_true rfl) (fun r3 s2 hw => ?_)
  exact hret r3 _ _ _ hw dX5_codeCopy_11
theorem hdC_X5_codeCopy : yX5_codeCopy.cls = RX5 ∧ yX5_codeCopy.cls ≠ "java/lang/invoke/MethodHandle" ∧ yX5_codeCopy.cls ≠ "java/lang/invoke/VarHandle" ∧ (parseMethodDescriptor yX5_codeCopy.desc).map (fun d => d.parameters.length) = some 0 := by decide +kernel
theorem cC_X5_codeCopy (l : Launch) (G : cG) (s : CSt) (v0 : Nat) (post : Option Nat → CSt → Prop) (hw : wpC_X5_codeCopy_0 post s v0) : cMq l yX5_codeCopy cX5_codeCopy 1 (.array .int) 2 82 1 400 G s [.ref v0] post := cMq_of (by decide +kernel) rfl (by first | exact Or.inl ⟨_, rfl⟩ | exact Or.inr ⟨_, rfl⟩) (Nat.le_of_ble_eq_true rfl) (fun X A H0 Q hl hR hsz hnm C hret => wkC_X5_codeCopy_0 C hsz hR hret s v0 hw)
def wpC_X0_prepare_59_F (post : CSt → Prop) (K59 : CSt → Nat → Int32 → Prop) (s : CSt) (v1 : Nat) (v2 : Int32) : Prop := cAt s 0 v1 ∧ wpC_Jx4a65c_size_8abf5_0 (fun r2 s1 => (r2 ≤ v2 → post s1) ∧ (¬ r2 ≤ v2 → cAt s1 0 v1 ∧ wpC_Jx4a65c_get_915e3_0 (fun r5 s4 => ∃ a6 : Nat, r5 = some a6 ∧ cAt s4 4 a6 ∧ cAt s4 4 a6 ∧ ∀ s7 : CSt, s7 = csI s4 67 a6 0 → K59 s7 v1 (v2 + 1)) s1 v1 v2)) s v1
def wpC_X0_prepare_59 (post : CSt → Prop) (s : CSt) (v1 : Nat) (v2 : Int32) : Prop := gLP (fun (K : CSt × Nat × Int32 → Prop) (x : CSt × Nat × Int32) => wpC_X0_prepare_59_F post (fun s v1 v2 => K (s, v1, v2)) x.1 x.2.1 x.2.2) (s, v1, v2)
def wpC_X0_prepare_2_F (post : CSt → Prop) (K2 : CSt → Nat → Nat → Int32 → Prop) (s : CSt) (v0 : Nat) (v1 : Nat) (v2 : Int32) : Prop := cAt s 0 v0 ∧ wpC_Jx4a65c_size_8abf5_0 (fun r9 s8 => (r9 ≤ v2 → wpC_X0_prepare_59 post s8 v1 0) ∧ (¬ r9 ≤ v2 → cAt s8 0 v0 ∧ wpC_Jx4a65c_get_915e3_0 (fun r12 s11 => ∃ a13 : Nat, r12 = some a13 ∧ cAt s11 1 a13 ∧ cAt s11 1 a13 ∧ wpC_X1_depth_0 (fun r15 s14 => cAt s14 1 a13 ∧ ∀ x16 : Int32, x16 = (if (r15 - (cI s14 18 a13)) < 0 then 0 else (r15 - (cI s14 18 a13))) → cAt s14 1 a13 ∧ ∀ s17 : CSt, s17 = csI s14 20 a13 x16 → ∀ x18 : Int32, x18 = (if (-(r15 - (cI s14 18 a13))) < 0 then 0 else (-(r15 - (cI s14 18 a13)))) → cAt s17 1 a13 ∧ ∀ s19 : CSt, s19 = csI s17 21 a13 x18 → K2 s19 v0 v1 (v2 + 1)) s11 a13) s8 v0 v2)) s v0
def wpC_X0_prepare_2 (post : CSt → Prop) (s : CSt) (v0 : Nat) (v1 : Nat) (v2 : Int32) : Prop := gLP (fun (K : CSt × Nat × Nat × Int32 → Prop) (x : CSt × Nat × Nat × Int32) => wpC_X0_prepare_2_F post (fun s v0 v1 v2 => K (s, v0, v1, v2)) x.1 x.2.1 x.2.2.1 x.2.2.2) (s, v0, v1, v2)
def wpC_X0_prepare_0 (post : CSt → Prop) (s : CSt) (v0 : Nat) (v1 : Nat) : Prop := wpC_X0_prepare_2 post s v0 v1 0
theorem wkC_X0_prepare_59_F {X : gT} {G : cG} {A : Nat → Prop} {H0 : Heap} {Q : State → Prop} (C : cC X cX0_prepare 5 RX0 G A) (hsz : H0 = (g_s X).heap) (hR : 3 ≤ (g_R X).frames ∧ 64 ≤ (g_R X).locals ∧ 0 ≤ (g_R X).cells ∧ 0 ≤ (g_R X).slots) {post : CSt → Prop} (hret : ∀ (τ : CSt) (lv : List (Nat × Value)) (pc : Nat), post τ → decode cX0_prepare pc = .ok (.return_, 1) → gJ X (cWd G A H0) Q 0 0 τ lv pc []) {K59 : CSt → Nat → Int32 → Prop} (hK59 : ∀ (s : CSt) (v1 : Nat) (v2 : Int32), K59 s v1 v2 → gJ X (cWd G A H0) Q 0 0 s [(1, .ref v1), (2, .int v2)] 59 []) (s : CSt) (v1 : Nat) (v2 : Int32) (hw : wpC_X0_prepare_59_F post K59 s v1 v2) : gJ X (cWd G A H0) Q 0 0 s [(1, .ref v1), (2, .int v2)] 59 [] := by
  refine g_iload_n C.1 1 dX0_prepare_59 rfl rfl ?_
  refine g_aload_n C.1 0 dX0_prepare_60 rfl rfl ?_
  refine c_callVi (vs := []) C hsz (cC_Jx4a65c_size_8abf5 (g_l X) G s _ _ hw.2) kC_13 kC_10 kC_11 kC_12 kC_14 hdC_Jx4a65c_size_8abf5 (c_recv0 C hw.1) ⟨(Nat.le_trans (Nat.le_of_ble_eq_true rfl) hR.1), (Nat.le_trans (Nat.le_of_ble_eq_true rfl) hR.2.1)⟩ ⟨(Nat.le_trans (Nat.le_of_ble_eq_true rfl) hR.2.2.1), (Nat.le_trans (Nat.le_of_ble_eq_true rfl) hR.2.2.2)⟩ dX0_prepare_61 rfl (Nat.le_of_ble_eq_true rfl) (fun r2 s1 hw => ?_)
  refine g_icmp_ge (tgt := 85) C.1 dX0_prepare_64 (by decide) (fun h3 => ?_) (fun h3 => ?_)
  · replace hw := hw.1 h3
    exact hret _ _ _ hw dX0_prepare_85
  · replace hw := hw.2 h3
    refine g_aload_n C.1 0 dX0_prepare_67 rfl rfl ?_
    refine g_iload_n C.1 1 dX0_prepare_68 rfl rfl ?_
    refine c_callVq (vs := [.int v2]) C hsz (cC_Jx4a65c_get_915e3 (g_l X) G s1 _ _ _ hw.2) kC_13 kC_16 kC_17 kC_18 kC_19 hdC_Jx4a65c_get_915e3 (c_recv0 C hw.1) ⟨(Nat.le_trans (Nat.le_of_ble_eq_true rfl) hR.1), (Nat.le_trans (Nat.le_of_ble_eq_true rfl) hR.2.1)⟩ ⟨(Nat.le_trans (Nat.le_of_ble_eq_true rfl) hR.2.2.1), (Nat.le_trans (Nat.le_of_ble_eq_true rfl) hR.2.2.2)⟩ dX0_prepare_69 rfl (Nat.le_of_ble_eq_true rfl) (fun r5 s4 hw => ?_)
    obtain ⟨a6, ha6, hw⟩ := hw
    rw [ha6]
    refine c_cast4 C hw.1 kC_8 dX0_prepare_72 ?_
    replace hw := hw.2
    refine g_iconst (v := 0) C.1 dX0_prepare_75 (by decide) ?_
    refine c_put4 C (τ := csI s4 67 a6 0) hw.1 3 (by decide) kC_9 (fun _ h => h) rfl (ty := .int) (by decide +kernel) rfl rfl rfl hw.1.2 rfl (cx_4_3 _ _ _) (fun _ hb => csI_o hb) dX0_prepare_76 ?_
    replace hw := hw.2
    refine gJ.nm (fun s7 es7 => ?_)
    replace hw := hw s7 es7
    refine g_iinc (v := v2 + 1) (lv' := [(2, .int (v2 + 1)), (1, .ref v1)]) C.1 1 dX0_prepare_79 rfl rfl (by decide) rfl ?_
    refine g_goto (tgt := 59) C.1 dX0_prepare_82 (by decide) ?_
    refine gJ.sub [1, 0] rfl ?_
    exact hK59 _ _ _ hw
theorem wkC_X0_prepare_59 {X : gT} {G : cG} {A : Nat → Prop} {H0 : Heap} {Q : State → Prop} (C : cC X cX0_prepare 5 RX0 G A) (hsz : H0 = (g_s X).heap) (hR : 3 ≤ (g_R X).frames ∧ 64 ≤ (g_R X).locals ∧ 0 ≤ (g_R X).cells ∧ 0 ≤ (g_R X).slots) {post : CSt → Prop} (hret : ∀ (τ : CSt) (lv : List (Nat × Value)) (pc : Nat), post τ → decode cX0_prepare pc = .ok (.return_, 1) → gJ X (cWd G A H0) Q 0 0 τ lv pc []) (s : CSt) (v1 : Nat) (v2 : Int32) (hw : wpC_X0_prepare_59 post s v1 v2) : gJ X (cWd G A H0) Q 0 0 s [(1, .ref v1), (2, .int v2)] 59 [] := 
  hw (fun (x : CSt × Nat × Int32) => (fun s v1 v2 => gJ X (cWd G A H0) Q 0 0 s [(1, .ref v1), (2, .int v2)] 59 []) x.1 x.2.1 x.2.2) (fun x hx => wkC_X0_prepare_59_F C hsz hR hret (K59 := (fun s v1 v2 => gJ X (cWd G A H0) Q 0 0 s [(1, .ref v1), (2, .int v2)] 59 [])) (fun _ _ _ h => h) x.1 x.2.1 x.2.2 hx)
theorem wkC_X0_prepare_2_F {X : gT} {G : cG} {A : Nat → Prop} {H0 : Heap} {Q : State → Prop} (C : cC X cX0_prepare 5 RX0 G A) (hsz : H0 = (g_s X).heap) (hR : 3 ≤ (g_R X).frames ∧ 64 ≤ (g_R X).locals ∧ 0 ≤ (g_R X).cells ∧ 0 ≤ (g_R X).slots) {post : CSt → Prop} (hret : ∀ (τ : CSt) (lv : List (Nat × Value)) (pc : Nat), post τ → decode cX0_prepare pc = .ok (.return_, 1) → gJ X (cWd G A H0) Q 0 0 τ lv pc []) {K2 : CSt → Nat → Nat → Int32 → Prop} (hK2 : ∀ (s : CSt) (v0 : Nat) (v1 : Nat) (v2 : Int32), K2 s v0 v1 v2 → gJ X (cWd G A H0) Q 0 0 s [(0, .ref v0), (1, .ref v1), (2, .int v2)] 2 []) (s : CSt) (v0 : Nat) (v1 : Nat) (v2 : Int32) (hw : wpC_X0_prepare_2_F post K2 s v0 v1 v2) : gJ X (cWd G A H0) Q 0 0 s [(0, .ref v0), (1, .ref v1), (2, .int v2)] 2 [] := by
  refine g_iload_n C.1 2 dX0_prepare_2 rfl rfl ?_
  refine g_aload_n C.1 0 dX0_prepare_3 rfl rfl ?_
  refine c_callVi (vs := []) C hsz (cC_Jx4a65c_size_8abf5 (g_l X) G s _ _ hw.2) kC_13 kC_10 kC_11 kC_12 kC_14 hdC_Jx4a65c_size_8abf5 (c_recv0 C hw.1) ⟨(Nat.le_trans (Nat.le_of_ble_eq_true rfl) hR.1), (Nat.le_trans (Nat.le_of_ble_eq_true rfl) hR.2.1)⟩ ⟨(Nat.le_trans (Nat.le_of_ble_eq_true rfl) hR.2.2.1), (Nat.le_trans (Nat.le_of_ble_eq_true rfl) hR.2.2.2)⟩ dX0_prepare_4 rfl (Nat.le_of_ble_eq_true rfl) (fun r9 s8 hw => ?_)
  refine g_icmp_ge (tgt := 57) C.1 dX0_prepare_7 (by decide) (fun h10 => ?_) (fun h10 => ?_)
  · replace hw := hw.1 h10
    refine g_iconst (v := 0) C.1 dX0_prepare_57 (by decide) ?_
    refine g_istore_n (lv' := [(2, .int 0), (0, .ref v0), (1, .ref v1)]) C.1 dX0_prepare_58 rfl (by decide) rfl ?_
    refine gJ.sub [2, 0] rfl ?_
    exact wkC_X0_prepare_59 C hsz hR hret _ _ _ hw
  · replace hw := hw.2 h10
    refine g_aload_n C.1 0 dX0_prepare_10 rfl rfl ?_
    refine g_iload_n C.1 2 dX0_prepare_11 rfl rfl ?_
    refine c_callVq (vs := [.int v2]) C hsz (cC_Jx4a65c_get_915e3 (g_l X) G s8 _ _ _ hw.2) kC_13 kC_16 kC_17 kC_18 kC_19 hdC_Jx4a65c_get_915e3 (c_recv0 C hw.1) ⟨(Nat.le_trans (Nat.le_of_ble_eq_true rfl) hR.1), (Nat.le_trans (Nat.le_of_ble_eq_true rfl) hR.2.1)⟩ ⟨(Nat.le_trans (Nat.le_of_ble_eq_true rfl) hR.2.2.1), (Nat.le_trans (Nat.le_of_ble_eq_true rfl) hR.2.2.2)⟩ dX0_prepare_12 rfl (Nat.le_of_ble_eq_true rfl) (fun r12 s11 hw => ?_)
    obtain ⟨a13, ha13, hw⟩ := hw
    rw [ha13]
    refine c_cast1 C hw.1 kC_0 dX0_prepare_15 ?_
    replace hw := hw.2
    refine g_astore_n (lv' := [(3, .ref a13), (0, .ref v0), (1, .ref v1), (2, .int v2)]) C.1 dX0_prepare_18 rfl (by decide) rfl ?_
    refine g_aload_n C.1 0 dX0_prepare_19 rfl rfl ?_
    refine c_callVi (vs := []) C hsz (cC_X1_depth (g_l X) G s11 _ _ hw.2) kC_36 kC_33 kC_34 kC_35 kC_37 hdC_X1_depth (c_recv1 C hw.1) ⟨(Nat.le_trans (Nat.le_of_ble_eq_true rfl) hR.1), (Nat.le_trans (Nat.le_of_ble_eq_true rfl) hR.2.1)⟩ ⟨(Nat.le_trans (Nat.le_of_ble_eq_true rfl) hR.2.2.1), (Nat.le_trans (Nat.le_of_ble_eq_true rfl) hR.2.2.2)⟩ dX0_prepare_20 rfl (Nat.le_of_ble_eq_true rfl) (fun r15 s14 hw => ?_)
    refine g_aload_n C.1 0 dX0_prepare_23 rfl rfl ?_
    refine c_get1 C hw.1 2 (by decide) kC_1 (fun _ h => h) rfl dX0_prepare_24 ?_
    replace hw := hw.2
    refine g_isub C.1 dX0_prepare_27 ?_
    refine g_istore (lv' := [(4, .int (r15 - (cI s14 18 a13))), (3, .ref a13), (0, .ref v0), (1, .ref v1), (2, .int v2)]) C.1 dX0_prepare_28 (by decide) rfl ?_
    refine g_aload_n C.1 1 dX0_prepare_30 rfl rfl ?_
    refine g_iload C.1 0 dX0_prepare_31 rfl ?_
    refine g_iconst (v := 0) C.1 dX0_prepare_33 (by decide) ?_
    refine g_mmax C.1 C.2.1 (C.2.2.1 _ kC_2) (C.2.2.1 _ kC_3) (C.2.2.1 _ kC_4) (C.2.2.1 _ kC_5) (Nat.le_trans (Nat.le_of_ble_eq_true rfl) hR.1) (Nat.le_trans (Nat.le_of_ble_eq_true rfl) hR.2.1) (Nat.le_trans (Nat.le_of_ble_eq_true rfl) hR.2.2.1) (Nat.le_trans (Nat.le_of_ble_eq_true rfl) hR.2.2.2) dX0_prepare_34 ?_
    refine g_topi (fun x16 ex16 => ?_)
    replace hw := hw x16 ex16
    refine c_put1 C (τ := csI s14 20 a13 x16) hw.1 4 (by decide) kC_6 (fun _ h => h) rfl (ty := .int) (by decide +kernel) rfl rfl rfl hw.1.2 rfl (cx_1_4 _ _ _) (fun _ hb => csI_o hb) dX0_prepare_37 ?_
    replace hw := hw.2
    refine gJ.nm (fun s17 es17 => ?_)
    replace hw := hw s17 es17
    refine g_aload_n C.1 1 dX0_prepare_40 rfl rfl ?_
    refine g_iload C.1 0 dX0_prepare_41 rfl ?_
    refine g_ineg C.1 dX0_prepare_43 ?_
    refine g_iconst (v := 0) C.1 dX0_prepare_44 (by decide) ?_
    refine g_mmax C.1 C.2.1 (C.2.2.1 _ kC_2) (C.2.2.1 _ kC_3) (C.2.2.1 _ kC_4) (C.2.2.1 _ kC_5) (Nat.le_trans (Nat.le_of_ble_eq_true rfl) hR.1) (Nat.le_trans (Nat.le_of_ble_eq_true rfl) hR.2.1) (Nat.le_trans (Nat.le_of_ble_eq_true rfl) hR.2.2.1) (Nat.le_trans (Nat.le_of_ble_eq_true rfl) hR.2.2.2) dX0_prepare_45 ?_
    refine g_topi (fun x18 ex18 => ?_)
    replace hw := hw x18 ex18
    refine c_put1 C (τ := csI s17 21 a13 x18) hw.1 5 (by decide) kC_7 (fun _ h => h) rfl (ty := .int) (by decide +kernel) rfl rfl rfl hw.1.2 rfl (cx_1_5 _ _ _) (fun _ hb => csI_o hb) dX0_prepare_48 ?_
    replace hw := hw.2
    refine gJ.nm (fun s19 es19 => ?_)
    replace hw := hw s19 es19
    refine g_iinc (v := v2 + 1) (lv' := [(2, .int (v2 + 1)), (4, .int (r15 - (cI s14 18 a13))), (3, .ref a13), (0, .ref v0), (1, .ref v1)]) C.1 4 dX0_prepare_51 rfl rfl (by decide) rfl ?_
    refine g_goto (tgt := 2) C.1 dX0_prepare_54 (by decide) ?_
    refine gJ.sub [3, 4, 0] rfl ?_
    exact hK2 _ _ _ _ hw
theorem wkC_X0_prepare_2 {X : gT} {G : cG} {A : Nat → Prop} {H0 : Heap} {Q : State → Prop} (C : cC X cX0_prepare 5 RX0 G A) (hsz : H0 = (g_s X).heap) (hR : 3 ≤ (g_R X).frames ∧ 64 ≤ (g_R X).locals ∧ 0 ≤ (g_R X).cells ∧ 0 ≤ (g_R X).slots) {post : CSt → Prop} (hret : ∀ (τ : CSt) (lv : List (Nat × Value)) (pc : Nat), post τ → decode cX0_prepare pc = .ok (.return_, 1) → gJ X (cWd G A H0) Q 0 0 τ lv pc []) (s : CSt) (v0 : Nat) (v1 : Nat) (v2 : Int32) (hw : wpC_X0_prepare_2 post s v0 v1 v2) : gJ X (cWd G A H0) Q 0 0 s [(0, .ref v0), (1, .ref v1), (2, .int v2)] 2 [] := 
  hw (fun (x : CSt × Nat × Nat × Int32) => (fun s v0 v1 v2 => gJ X (cWd G A H0) Q 0 0 s [(0, .ref v0), (1, .ref v1), (2, .int v2)] 2 []) x.1 x.2.1 x.2.2.1 x.2.2.2) (fun x hx => wkC_X0_prepare_2_F C hsz hR hret (K2 := (fun s v0 v1 v2 => gJ X (cWd G A H0) Q 0 0 s [(0, .ref v0), (1, .ref v1), (2, .int v2)] 2 [])) (fun _ _ _ _ h => h) x.1 x.2.1 x.2.2.1 x.2.2.2 hx)
theorem wkC_X0_prepare_0 {X : gT} {G : cG} {A : Nat → Prop} {H0 : Heap} {Q : State → Prop} (C : cC X cX0_prepare 5 RX0 G A) (hsz : H0 = (g_s X).heap) (hR : 3 ≤ (g_R X).frames ∧ 64 ≤ (g_R X).locals ∧ 0 ≤ (g_R X).cells ∧ 0 ≤ (g_R X).slots) {post : CSt → Prop} (hret : ∀ (τ : CSt) (lv : List (Nat × Value)) (pc : Nat), post τ → decode cX0_prepare pc = .ok (.return_, 1) → gJ X (cWd G A H0) Q 0 0 τ lv pc []) (s : CSt) (v0 : Nat) (v1 : Nat) (hw : wpC_X0_prepare_0 post s v0 v1) : gJ X (cWd G A H0) Q 0 0 s [(0, .ref v0), (1, .ref v1)] 0 [] := by
  refine g_iconst (v := 0) C.1 dX0_prepare_0 (by decide) ?_
  refine g_istore_n (lv' := [(2, .int 0), (0, .ref v0), (1, .ref v1)]) C.1 dX0_prepare_1 rfl (by decide) rfl ?_
  refine gJ.sub [1, 2, 0] rfl ?_
  exact wkC_X0_prepare_2 C hsz hR hret _ _ _ _ hw
theorem hdC_X0_prepare : yX0_prepare.cls = RX0 ∧ yX0_prepare.cls ≠ "java/lang/invoke/MethodHandle" ∧ yX0_prepare.cls ≠ "java/lang/invoke/VarHandle" ∧ (parseMethodDescriptor yX0_prepare.desc).map (fun d => d.parameters.length) = some 2 := by decide +kernel
theorem cC_X0_prepare (l : Launch) (G : cG) (s : CSt) (v0 : Nat) (v1 : Nat) (post : CSt → Prop) (hw : wpC_X0_prepare_0 post s v0 v1) : cMv l yX0_prepare cX0_prepare 5 3 64 0 0 G s [.ref v0, .ref v1] post := cMv_of (by decide +kernel) rfl (Nat.le_of_ble_eq_true rfl) (fun X A H0 Q hl hR hsz hnm C hret => wkC_X0_prepare_0 C hsz hR hret s v0 v1 hw)
def wpC_X0_anyMissing_2_F (post : Int32 → CSt → Prop) (K2 : CSt → Nat → Int32 → Prop) (s : CSt) (v0 : Nat) (v1 : Int32) : Prop := cAt s 0 v0 ∧ wpC_Jx4a65c_size_8abf5_0 (fun r2 s1 => (r2 ≤ v1 → post 0 s1) ∧ (¬ r2 ≤ v1 → cAt s1 0 v0 ∧ wpC_Jx4a65c_get_915e3_0 (fun r5 s4 => ∃ a6 : Nat, r5 = some a6 ∧ cAt s4 1 a6 ∧ cAt s4 1 a6 ∧ ((cI s4 21 a6) ≤ 0 → K2 s4 v0 (v1 + 1)) ∧ (¬ (cI s4 21 a6) ≤ 0 → post 1 s4)) s1 v0 v1)) s v0
def wpC_X0_anyMissing_2 (post : Int32 → CSt → Prop) (s : CSt) (v0 : Nat) (v1 : Int32) : Prop := gLP (fun (K : CSt × Nat × Int32 → Prop) (x : CSt × Nat × Int32) => wpC_X0_anyMissing_2_F post (fun s v0 v1 => K (s, v0, v1)) x.1 x.2.1 x.2.2) (s, v0, v1)
def wpC_X0_anyMissing_0 (post : Int32 → CSt → Prop) (s : CSt) (v0 : Nat) : Prop := wpC_X0_anyMissing_2 post s v0 0
theorem wkC_X0_anyMissing_2_F {X : gT} {G : cG} {A : Nat → Prop} {H0 : Heap} {Q : State → Prop} (C : cC X cX0_anyMissing 2 RX0 G A) (hsz : H0 = (g_s X).heap) (hR : 3 ≤ (g_R X).frames ∧ 64 ≤ (g_R X).locals ∧ 0 ≤ (g_R X).cells ∧ 0 ≤ (g_R X).slots) {post : Int32 → CSt → Prop} (hret : ∀ (r : Int32) (τ : CSt) (lv : List (Nat × Value)) (pc : Nat), post r τ → narrow .boolean (.int r) = .int r → decode cX0_anyMissing pc = .ok (.ireturn, 1) → gJ X (cWd G A H0) Q 0 0 τ lv pc [.int r]) {K2 : CSt → Nat → Int32 → Prop} (hK2 : ∀ (s : CSt) (v0 : Nat) (v1 : Int32), K2 s v0 v1 → gJ X (cWd G A H0) Q 0 0 s [(0, .ref v0), (1, .int v1)] 2 []) (s : CSt) (v0 : Nat) (v1 : Int32) (hw : wpC_X0_anyMissing_2_F post K2 s v0 v1) : gJ X (cWd G A H0) Q 0 0 s [(0, .ref v0), (1, .int v1)] 2 [] := by
  refine g_iload_n C.1 1 dX0_anyMissing_2 rfl rfl ?_
  refine g_aload_n C.1 0 dX0_anyMissing_3 rfl rfl ?_
  refine c_callVi (vs := []) C hsz (cC_Jx4a65c_size_8abf5 (g_l X) G s _ _ hw.2) kC_13 kC_10 kC_11 kC_12 kC_14 hdC_Jx4a65c_size_8abf5 (c_recv0 C hw.1) ⟨(Nat.le_trans (Nat.le_of_ble_eq_true rfl) hR.1), (Nat.le_trans (Nat.le_of_ble_eq_true rfl) hR.2.1)⟩ ⟨(Nat.le_trans (Nat.le_of_ble_eq_true rfl) hR.2.2.1), (Nat.le_trans (Nat.le_of_ble_eq_true rfl) hR.2.2.2)⟩ dX0_anyMissing_4 rfl (Nat.le_of_ble_eq_true rfl) (fun r2 s1 hw => ?_)
  refine g_icmp_ge (tgt := 32) C.1 dX0_anyMissing_7 (by decide) (fun h3 => ?_) (fun h3 => ?_)
  · replace hw := hw.1 h3
    refine g_iconst (v := 0) C.1 dX0_anyMissing_32 (by decide) ?_
    exact hret _ _ _ _ hw rfl dX0_anyMissing_33
  · replace hw := hw.2 h3
    refine g_aload_n C.1 0 dX0_anyMissing_10 rfl rfl ?_
    refine g_iload_n C.1 1 dX0_anyMissing_11 rfl rfl ?_
    refine c_callVq (vs := [.int v1]) C hsz (cC_Jx4a65c_get_915e3 (g_l X) G s1 _ _ _ hw.2) kC_13 kC_16 kC_17 kC_18 kC_19 hdC_Jx4a65c_get_915e3 (c_recv0 C hw.1) ⟨(Nat.le_trans (Nat.le_of_ble_eq_true rfl) hR.1), (Nat.le_trans (Nat.le_of_ble_eq_true rfl) hR.2.1)⟩ ⟨(Nat.le_trans (Nat.le_of_ble_eq_true rfl) hR.2.2.1), (Nat.le_trans (Nat.le_of_ble_eq_true rfl) hR.2.2.2)⟩ dX0_anyMissing_12 rfl (Nat.le_of_ble_eq_true rfl) (fun r5 s4 hw => ?_)
    obtain ⟨a6, ha6, hw⟩ := hw
    rw [ha6]
    refine c_cast1 C hw.1 kC_0 dX0_anyMissing_15 ?_
    replace hw := hw.2
    refine c_get1 C hw.1 5 (by decide) kC_7 (fun _ h => h) rfl dX0_anyMissing_18 ?_
    replace hw := hw.2
    refine g_if_le (tgt := 26) C.1 dX0_anyMissing_21 (by decide) (fun h7 => ?_) (fun h7 => ?_)
    · replace hw := hw.1 h7
      refine g_iinc (v := v1 + 1) (lv' := [(1, .int (v1 + 1)), (0, .ref v0)]) C.1 1 dX0_anyMissing_26 rfl rfl (by decide) rfl ?_
      refine g_goto (tgt := 2) C.1 dX0_anyMissing_29 (by decide) ?_
      refine gJ.sub [1, 0] rfl ?_
      exact hK2 _ _ _ hw
    · replace hw := hw.2 h7
      refine g_iconst (v := 1) C.1 dX0_anyMissing_24 (by decide) ?_
      exact hret _ _ _ _ hw rfl dX0_anyMissing_25
theorem wkC_X0_anyMissing_2 {X : gT} {G : cG} {A : Nat → Prop} {H0 : Heap} {Q : State → Prop} (C : cC X cX0_anyMissing 2 RX0 G A) (hsz : H0 = (g_s X).heap) (hR : 3 ≤ (g_R X).frames ∧ 64 ≤ (g_R X).locals ∧ 0 ≤ (g_R X).cells ∧ 0 ≤ (g_R X).slots) {post : Int32 → CSt → Prop} (hret : ∀ (r : Int32) (τ : CSt) (lv : List (Nat × Value)) (pc : Nat), post r τ → narrow .boolean (.int r) = .int r → decode cX0_anyMissing pc = .ok (.ireturn, 1) → gJ X (cWd G A H0) Q 0 0 τ lv pc [.int r]) (s : CSt) (v0 : Nat) (v1 : Int32) (hw : wpC_X0_anyMissing_2 post s v0 v1) : gJ X (cWd G A H0) Q 0 0 s [(0, .ref v0), (1, .int v1)] 2 [] := 
  hw (fun (x : CSt × Nat × Int32) => (fun s v0 v1 => gJ X (cWd G A H0) Q 0 0 s [(0, .ref v0), (1, .int v1)] 2 []) x.1 x.2.1 x.2.2) (fun x hx => wkC_X0_anyMissing_2_F C hsz hR hret (K2 := (fun s v0 v1 => gJ X (cWd G A H0) Q 0 0 s [(0, .ref v0), (1, .int v1)] 2 [])) (fun _ _ _ h => h) x.1 x.2.1 x.2.2 hx)
theorem wkC_X0_anyMissing_0 {X : gT} {G : cG} {A : Nat → Prop} {H0 : Heap} {Q : State → Prop} (C : cC X cX0_anyMissing 2 RX0 G A) (hsz : H0 = (g_s X).heap) (hR : 3 ≤ (g_R X).frames ∧ 64 ≤ (g_R X).locals ∧ 0 ≤ (g_R X).cells ∧ 0 ≤ (g_R X).slots) {post : Int32 → CSt → Prop} (hret : ∀ (r : Int32) (τ : CSt) (lv : List (Nat × Value)) (pc : Nat), post r τ → narrow .boolean (.int r) = .int r → decode cX0_anyMissing pc = .ok (.ireturn, 1) → gJ X (cWd G A H0) Q 0 0 τ lv pc [.int r]) (s : CSt) (v0 : Nat) (hw : wpC_X0_anyMissing_0 post s v0) : gJ X (cWd G A H0) Q 0 0 s [(0, .ref v0)] 0 [] := by
  refine g_iconst (v := 0) C.1 dX0_anyMissing_0 (by decide) ?_
  refine g_istore_n (lv' := [(1, .int 0), (0, .ref v0)]) C.1 dX0_anyMissing_1 rfl (by decide) rfl ?_
  refine gJ.sub [1, 0] rfl ?_
  exact wkC_X0_anyMissing_2 C hsz hR hret _ _ _ hw
theorem hdC_X0_anyMissing : yX0_anyMissing.cls = RX0 ∧ yX0_anyMissing.cls ≠ "java/lang/invoke/MethodHandle" ∧ yX0_anyMissing.cls ≠ "java/lang/invoke/VarHandle" ∧ (parseMethodDescriptor yX0_anyMissing.desc).map (fun d => d.parameters.length) = some 1 := by decide +kernel
theorem cC_X0_anyMissing (l : Launch) (G : cG) (s : CSt) (v0 : Nat) (post : Int32 → CSt → Prop) (hw : wpC_X0_anyMissing_0 post s v0) : cMi l yX0_anyMissing cX0_anyMissing 2 .boolean 3 64 0 0 G s [.ref v0] post := cMi_of (by decide +kernel) rfl (Nat.le_of_ble_eq_true rfl) (fun X A H0 Q hl hR hsz hnm C hret => wkC_X0_anyMissing_0 C hsz hR hret s v0 hw)
def wpC_X0_brings_37 (post : Int32 → CSt → Prop) (s : CSt) (v0 : Nat) (v1 : Nat) (v2 : Option Nat) (w0 : Int32) : Prop := cAt s 1 v1 ∧ ∃ a1 : Nat, v2 = some a1 ∧ cAt s 1 a1 ∧ ((((cI s 22 v1) + (w0 * 64)) + 1) < (cI s 22 a1) → cAt s 1 a1 ∧ ∀ s3 : CSt, s3 = csI s 22 a1 (((cI s 22 v1) + (w0 * 64)) + 1) → cAt s3 1 a1 ∧ ∀ s4 : CSt, s4 = csR s3 23 a1 (some v0) → post 1 s4) ∧ (¬ (((cI s 22 v1) + (w0 * 64)) + 1) < (cI s 22 a1) → post 0 s)
def wpC_X0_brings_0 (post : Int32 → CSt → Prop) (s : CSt) (v0 : Nat) (v1 : Nat) : Prop := cAt s 1 v1 ∧ (¬ (cI s 22 v1) = 1073741824 → cAt s 4 v0 ∧ wpC_X4_other_0 (fun r7 s6 => cAt s6 4 v0 ∧ wpC_X4_carriedFrom_0 (fun r9 s8 => (0 ≤ r9 → cAt s8 4 v0 ∧ wpC_X0_brings_37 post s8 v0 v1 r7 (cI s8 66 v0)) ∧ (¬ 0 ≤ r9 → cAt s8 4 v0 ∧ wpC_X0_brings_37 post s8 v0 v1 r7 (-(cI s8 66 v0)))) s6 v0 v1) s v0 v1) ∧ ((cI s 22 v1) = 1073741824 → post 0 s)
theorem wkC_X0_brings_37 {X : gT} {G : cG} {A : Nat → Prop} {H0 : Heap} {Q : State → Prop} (C : cC X cX0_brings 5 RX0 G A) (hsz : H0 = (g_s X).heap) (hR : 1 ≤ (g_R X).frames ∧ 21 ≤ (g_R X).locals ∧ 0 ≤ (g_R X).cells ∧ 0 ≤ (g_R X).slots) {post : Int32 → CSt → Prop} (hret : ∀ (r : Int32) (τ : CSt) (lv : List (Nat × Value)) (pc : Nat), post r τ → narrow .boolean (.int r) = .int r → decode cX0_brings pc = .ok (.ireturn, 1) → gJ X (cWd G A H0) Q 0 0 τ lv pc [.int r]) (s : CSt) (v0 : Nat) (v1 : Nat) (v2 : Option Nat) (w0 : Int32) (hw : wpC_X0_brings_37 post s v0 v1 v2 w0) : gJ X (cWd G A H0) Q 0 0 s [(0, .ref v0), (1, .ref v1), (2, va_rf v2)] 37 [.int w0] := by
  refine g_istore_n (lv' := [(3, .int w0), (0, .ref v0), (1, .ref v1), (2, va_rf v2)]) (i := 3) C.1 dX0_brings_37 rfl (by decide) (by simp [va_rf_cat]) ?_
  refine g_aload_n C.1 2 dX0_brings_38 rfl rfl ?_
  refine c_get1 C hw.1 6 (by decide) kC_41 (fun _ h => h) rfl dX0_brings_39 ?_
  replace hw := hw.2
  refine g_iload_n C.1 0 dX0_brings_42 rfl rfl ?_
  refine g_bipush (v := 64) C.1 dX0_brings_43 (by decide) ?_
  refine g_imul C.1 dX0_brings_45 ?_
  refine g_iadd C.1 dX0_brings_46 ?_
  refine g_iconst (v := 1) C.1 dX0_brings_47 (by decide) ?_
  refine g_iadd C.1 dX0_brings_48 ?_
  refine g_istore (lv' := [(4, .int (((cI s 22 v1) + (w0 * 64)) + 1)), (3, .int w0), (0, .ref v0), (1, .ref v1), (2, va_rf v2)]) C.1 dX0_brings_49 (by decide) rfl ?_
  refine g_iload C.1 0 dX0_brings_51 rfl ?_
  refine g_qload_n C.1 4 dX0_brings_53 rfl rfl ?_
  obtain ⟨a1, ha1, hw⟩ := hw
  rw [ha1]
  refine c_get1 C hw.1 6 (by decide) kC_41 (fun _ h => h) rfl dX0_brings_54 ?_
  replace hw := hw.2
  refine g_icmp_lt (tgt := 62) C.1 dX0_brings_57 (by decide) (fun h2 => ?_) (fun h2 => ?_)
  · replace hw := hw.1 h2
    refine g_aload_n C.1 4 dX0_brings_62 rfl rfl ?_
    refine g_iload C.1 0 dX0_brings_63 rfl ?_
    refine c_put1 C (τ := csI s 22 a1 (((cI s 22 v1) + (w0 * 64)) + 1)) hw.1 6 (by decide) kC_41 (fun _ h => h) rfl (ty := .int) (by decide +kernel) rfl rfl rfl hw.1.2 rfl (cx_1_6 _ _ _) (fun _ hb => csI_o hb) dX0_brings_65 ?_
    replace hw := hw.2
    refine gJ.nm (fun s3 es3 => ?_)
    replace hw := hw s3 es3
    refine g_aload_n C.1 4 dX0_brings_68 rfl rfl ?_
    refine g_aload_n C.1 2 dX0_brings_69 rfl rfl ?_
    refine c_put1 C (τ := csR s3 23 a1 (some v0)) hw.1 7 (by decide) kC_44 (fun _ h => h) rfl (ty := .object "SkiHill$Link") (by decide +kernel) rfl rfl rfl hw.1.2 rfl (cx_1_7 _ _ (some v0)) (fun _ hb => csR_o hb) dX0_brings_70 ?_
    replace hw := hw.2
    refine gJ.nm (fun s4 es4 => ?_)
    replace hw := hw s4 es4
    refine g_iconst (v := 1) C.1 dX0_brings_73 (by decide) ?_
    exact hret _ _ _ _ hw rfl dX0_brings_74
  · replace hw := hw.2 h2
    refine g_iconst (v := 0) C.1 dX0_brings_60 (by decide) ?_
    exact hret _ _ _ _ hw rfl dX0_brings_61
theorem wkC_X0_brings_0 {X : gT} {G : cG} {A : Nat → Prop} {H0 : Heap} {Q : State → Prop} (C : cC X cX0_brings 5 RX0 G A) (hsz : H0 = (g_s X).heap) (hR : 1 ≤ (g_R X).frames ∧ 21 ≤ (g_R X).locals ∧ 0 ≤ (g_R X).cells ∧ 0 ≤ (g_R X).slots) {post : Int32 → CSt → Prop} (hret : ∀ (r : Int32) (τ : CSt) (lv : List (Nat × Value)) (pc : Nat), post r τ → narrow .boolean (.int r) = .int r → decode cX0_brings pc = .ok (.ireturn, 1) → gJ X (cWd G A H0) Q 0 0 τ lv pc [.int r]) (s : CSt) (v0 : Nat) (v1 : Nat) (hw : wpC_X0_brings_0 post s v0 v1) : gJ X (cWd G A H0) Q 0 0 s [(0, .ref v0), (1, .ref v1)] 0 [] := by
  refine g_aload_n C.1 1 dX0_brings_0 rfl rfl ?_
  refine c_get1 C hw.1 6 (by decide) kC_41 (fun _ h => h) rfl dX0_brings_1 ?_
  replace hw := hw.2
  refine g_ldc (v := 1073741824) C.1 C.2.1 (C.2.2.1 _ kC_42) dX0_brings_4 ?_
  refine g_icmp_ne (tgt := 11) C.1 dX0_brings_6 (by decide) (fun h5 => ?_) (fun h5 => ?_)
  · replace hw := hw.1 h5
    refine g_aload_n C.1 0 dX0_brings_11 rfl rfl ?_
    refine g_aload_n C.1 1 dX0_brings_12 rfl rfl ?_
    refine c_callVq (vs := [.ref v1]) C hsz (cC_X4_other (g_l X) G s _ _ _ hw.2) kC_48 kC_45 kC_46 kC_47 kC_49 hdC_X4_other (c_recv4 C hw.1) ⟨(Nat.le_trans (Nat.le_of_ble_eq_true rfl) hR.1), (Nat.le_trans (Nat.le_of_ble_eq_true rfl) hR.2.1)⟩ ⟨(Nat.le_trans (Nat.le_of_ble_eq_true rfl) hR.2.2.1), (Nat.le_trans (Nat.le_of_ble_eq_true rfl) hR.2.2.2)⟩ dX0_brings_13 rfl (Nat.le_of_ble_eq_true rfl) (fun r7 s6 hw => ?_)
    refine g_qstore_n (lv' := [(2, va_rf r7), (0, .ref v0), (1, .ref v1)]) C.1 dX0_brings_16 rfl (by decide) rfl ?_
    refine g_aload_n C.1 1 dX0_brings_17 rfl rfl ?_
    refine g_aload_n C.1 2 dX0_brings_18 rfl rfl ?_
    refine c_callVi (vs := [.ref v1]) C hsz (cC_X4_carriedFrom (g_l X) G s6 _ _ _ hw.2) kC_48 kC_52 kC_53 kC_54 kC_55 hdC_X4_carriedFrom (c_recv4 C hw.1) ⟨(Nat.le_trans (Nat.le_of_ble_eq_true rfl) hR.1), (Nat.le_trans (Nat.le_of_ble_eq_true rfl) hR.2.1)⟩ ⟨(Nat.le_trans (Nat.le_of_ble_eq_true rfl) hR.2.2.1), (Nat.le_trans (Nat.le_of_ble_eq_true rfl) hR.2.2.2)⟩ dX0_brings_19 rfl (Nat.le_of_ble_eq_true rfl) (fun r9 s8 hw => ?_)
    refine g_if_ge (tgt := 33) C.1 dX0_brings_22 (by decide) (fun h10 => ?_) (fun h10 => ?_)
    · replace hw := hw.1 h10
      refine g_aload_n C.1 1 dX0_brings_33 rfl rfl ?_
      refine c_get4 C hw.1 2 (by decide) kC_43 (fun _ h => h) rfl dX0_brings_34 ?_
      replace hw := hw.2
      refine gJ.sub [1, 2, 0] rfl ?_
      exact wkC_X0_brings_37 C hsz hR hret _ _ _ _ _ hw
    · replace hw := hw.2 h10
      refine g_aload_n C.1 1 dX0_brings_25 rfl rfl ?_
      refine c_get4 C hw.1 2 (by decide) kC_43 (fun _ h => h) rfl dX0_brings_26 ?_
      replace hw := hw.2
      refine g_ineg C.1 dX0_brings_29 ?_
      refine g_goto (tgt := 37) C.1 dX0_brings_30 (by decide) ?_
      refine gJ.sub [1, 2, 0] rfl ?_
      exact wkC_X0_brings_37 C hsz hR hret _ _ _ _ _ hw
  · replace hw := hw.2 h5
    refine g_iconst (v := 0) C.1 dX0_brings_9 (by decide) ?_
    exact hret _ _ _ _ hw rfl dX0_brings_10
theorem hdC_X0_brings : yX0_brings.cls = RX0 ∧ yX0_brings.cls ≠ "java/lang/invoke/MethodHandle" ∧ yX0_brings.cls ≠ "java/lang/invoke/VarHandle" ∧ (parseMethodDescriptor yX0_brings.desc).map (fun d => d.parameters.length) = some 2 := by decide +kernel
theorem cC_X0_brings (l : Launch) (G : cG) (s : CSt) (v0 : Nat) (v1 : Nat) (post : Int32 → CSt → Prop) (hw : wpC_X0_brings_0 post s v0 v1) : cMi l yX0_brings cX0_brings 5 .boolean 1 21 0 0 G s [.ref v0, .ref v1] post := cMi_of (by decide +kernel) rfl (Nat.le_of_ble_eq_true rfl) (fun X A H0 Q hl hR hsz hnm C hret => wkC_X0_brings_0 C hsz hR hret s v0 v1 hw)
