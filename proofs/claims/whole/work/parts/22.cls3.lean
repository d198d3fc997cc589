def wpC_X6_leastDepth_31_F (post : Int32 → CSt → Prop) (K31 : CSt → Nat → Int32 → Int32 → Prop) (s : CSt) (v0 : Nat) (v1 : Int32) (v2 : Int32) : Prop := cAt s 6 v0 ∧ ∃ a1 : Nat, cR s 101 v0 = some a1 ∧ cAt s 0 a1 ∧ wpC_Jx4a65c_size_8abf5_0 (fun r3 s2 => (r3 ≤ v2 → post v1 s2) ∧ (¬ r3 ≤ v2 → cAt s2 6 v0 ∧ ∃ a5 : Nat, cR s2 101 v0 = some a5 ∧ cAt s2 0 a5 ∧ wpC_Jx4a65c_get_915e3_0 (fun r7 s6 => ∃ a8 : Nat, r7 = some a8 ∧ cAt s6 1 a8 ∧ cAt s6 1 a8 ∧ wpC_X1_depth_0 (fun r10 s9 => ∀ x11 : Int32, x11 = (if r10 < v1 then r10 else v1) → K31 s9 v0 x11 (v2 + 1)) s6 a8) s2 a5 v2)) s a1
def wpC_X6_leastDepth_31 (post : Int32 → CSt → Prop) (s : CSt) (v0 : Nat) (v1 : Int32) (v2 : Int32) : Prop := gLP (fun (K : CSt × Nat × Int32 × Int32 → Prop) (x : CSt × Nat × Int32 × Int32) => wpC_X6_leastDepth_31_F post (fun s v0 v1 v2 => K (s, v0, v1, v2)) x.1 x.2.1 x.2.2.1 x.2.2.2) (s, v0, v1, v2)
def wpC_X6_leastDepth_28 (post : Int32 → CSt → Prop) (s : CSt) (v0 : Nat) (w0 : Int32) : Prop := wpC_X6_leastDepth_31 post s v0 w0 1
def wpC_X6_leastDepth_0 (post : Int32 → CSt → Prop) (s : CSt) (v0 : Nat) : Prop := cAt s 6 v0 ∧ ∃ a12 : Nat, cR s 101 v0 = some a12 ∧ cAt s 0 a12 ∧ wpC_Jx4a65c_isEmpty_aae02_0 (fun r14 s13 => (r14 = 0 → cAt s13 6 v0 ∧ ∃ a16 : Nat, cR s13 101 v0 = some a16 ∧ cAt s13 0 a16 ∧ wpC_Jx4a65c_get_915e3_0 (fun r18 s17 => ∃ a19 : Nat, r18 = some a19 ∧ cAt s17 1 a19 ∧ cAt s17 1 a19 ∧ wpC_X1_depth_0 (fun r21 s20 => wpC_X6_leastDepth_28 post s20 v0 r21) s17 a19) s13 a16 0) ∧ (¬ r14 = 0 → wpC_X6_leastDepth_28 post s13 v0 0)) s a12
theorem wkC_X6_leastDepth_31_F {X : gT} {G : cG} {A : Nat → Prop} {H0 : Heap} {Q : State → Prop} (C : cC X cX6_leastDepth 3 RX6 G A) (hsz : H0 = (g_s X).heap) (hR : 3 ≤ (g_R X).frames ∧ 64 ≤ (g_R X).locals ∧ 0 ≤ (g_R X).cells ∧ 0 ≤ (g_R X).slots) {post : Int32 → CSt → Prop} (hret : ∀ (r : Int32) (τ : CSt) (lv : List (Nat × Value)) (pc : Nat), post r τ → narrow .int (.int r) = .int r → decode cX6_leastDepth pc = .ok (.ireturn, 1) → gJ X (cWd G A H0) Q 0 0 τ lv pc [.int r]) {K31 : CSt → Nat → Int32 → Int32 → Prop} (hK31 : ∀ (s : CSt) (v0 : Nat) (v1 : Int32) (v2 : Int32), K31 s v0 v1 v2 → gJ X (cWd G A H0) Q 0 0 s [(0, .ref v0), (1, .int v1), (2, .int v2)] 31 []) (s : CSt) (v0 : Nat) (v1 : Int32) (v2 : Int32) (hw : wpC_X6_leastDepth_31_F post K31 s v0 v1 v2) : gJ X (cWd G A H0) Q 0 0 s [(0, .ref v0), (1, .int v1), (2, .int v2)] 31 [] := by
  refine g_iload_n C.1 2 dX6_leastDepth_31 rfl rfl ?_
  refine g_aload_n C.1 0 dX6_leastDepth_32 rfl rfl ?_
  refine c_get6 C hw.1 5 (by decide) kC_369 (fun _ h => h) rfl dX6_leastDepth_33 ?_
  replace hw := hw.2
  obtain ⟨a1, ha1, hw⟩ := hw
  rw [ha1]
  refine c_callVi (vs := []) C hsz (cC_Jx4a65c_size_8abf5 (g_l X) G s _ _ hw.2) kC_13 kC_383 kC_11 kC_12 kC_14 hdC_Jx4a65c_size_8abf5 (c_recv0 C hw.1) ⟨(Nat.le_trans (Nat.le_of_ble_eq_true rfl) hR.1), (Nat.le_trans (Nat.le_of_ble_eq_true rfl) hR.2.1)⟩ ⟨(Nat.le_trans (Nat.le_of_ble_eq_true rfl) hR.2.2.1), (Nat.le_trans (Nat.le_of_ble_eq_true rfl) hR.2.2.2)⟩ dX6_leastDepth_36 rfl (Nat.le_of_ble_eq_true rfl) (fun r3 s2 hw => ?_)
  refine g_icmp_ge (tgt := 67) C.1 dX6_leastDepth_39 (by decide) (fun h4 => ?_) (fun h4 => ?_)
  · replace hw := hw.1 h4
    refine g_iload_n C.1 1 dX6_leastDepth_67 rfl rfl ?_
    exact hret _ _ _ _ hw rfl dX6_leastDepth_68
  · replace hw := hw.2 h4
    refine g_iload_n C.1 1 dX6_leastDepth_42 rfl rfl ?_
    refine g_aload_n C.1 0 dX6_leastDepth_43 rfl rfl ?_
    refine c_get6 C hw.1 5 (by decide) kC_369 (fun _ h => h) rfl dX6_leastDepth_44 ?_
    replace hw := hw.2
    obtain ⟨a5, ha5, hw⟩ := hw
    rw [ha5]
    refine g_iload_n C.1 2 dX6_leastDepth_47 rfl rfl ?_
    refine c_callVq (vs := [.int v2]) C hsz (cC_Jx4a65c_get_915e3 (g_l X) G s2 _ _ _ hw.2) kC_13 kC_381 kC_17 kC_18 kC_19 hdC_Jx4a65c_get_915e3 (c_recv0 C hw.1) ⟨(Nat.le_trans (Nat.le_of_ble_eq_true rfl) hR.1), (Nat.le_trans (Nat.le_of_ble_eq_true rfl) hR.2.1)⟩ ⟨(Nat.le_trans (Nat.le_of_ble_eq_true rfl) hR.2.2.1), (Nat.le_trans (Nat.le_of_ble_eq_true rfl) hR.2.2.2)⟩ dX6_leastDepth_48 rfl (Nat.le_of_ble_eq_true rfl) (fun r7 s6 hw => ?_)
    obtain ⟨a8, ha8, hw⟩ := hw
    rw [ha8]
    refine c_cast1 C hw.1 kC_378 dX6_leastDepth_51 ?_
    replace hw := hw.2
    refine c_callVi (vs := []) C hsz (cC_X1_depth (g_l X) G s6 _ _ hw.2) kC_36 kC_382 kC_34 kC_35 kC_37 hdC_X1_depth (c_recv1 C hw.1) ⟨(Nat.le_trans (Nat.le_of_ble_eq_true rfl) hR.1), (Nat.le_trans (Nat.le_of_ble_eq_true rfl) hR.2.1)⟩ ⟨(Nat.le_trans (Nat.le_of_ble_eq_true rfl) hR.2.2.1), (Nat.le_trans (Nat.le_of_ble_eq_true rfl) hR.2.2.2)⟩ dX6_leastDepth_54 rfl (Nat.le_of_ble_eq_true rfl) (fun r10 s9 hw => ?_)
    refine g_mmin C.1 C.2.1 (C.2.2.1 _ kC_379) (C.2.2.1 _ kC_66) (C.2.2.1 _ kC_4) (C.2.2.1 _ kC_67) (Nat.le_trans (Nat.le_of_ble_eq_true rfl) hR.1) (Nat.le_trans (Nat.le_of_ble_eq_true rfl) hR.2.1) (Nat.le_trans (Nat.le_of_ble_eq_true rfl) hR.2.2.1) (Nat.le_trans (Nat.le_of_ble_eq_true rfl) hR.2.2.2) dX6_leastDepth_57 ?_
    refine g_topi (fun x11 ex11 => ?_)
    replace hw := hw x11 ex11
    refine g_istore_n (lv' := [(1, .int x11), (0, .ref v0), (2, .int v2)]) C.1 dX6_leastDepth_60 rfl (by decide) rfl ?_
    refine g_iinc (v := v2 + 1) (lv' := [(2, .int (v2 + 1)), (1, .int x11), (0, .ref v0)]) C.1 2 dX6_leastDepth_61 rfl rfl (by decide) rfl ?_
    refine g_goto (tgt := 31) C.1 dX6_leastDepth_64 (by decide) ?_
    refine gJ.sub [2, 1, 0] rfl ?_
    exact hK31 _ _ _ _ hw
theorem wkC_X6_leastDepth_31 {X : gT} {G : cG} {A : Nat → Prop} {H0 : Heap} {Q : State → Prop} (C : cC X cX6_leastDepth 3 RX6 G A) (hsz : H0 = (g_s X).heap) (hR : 3 ≤ (g_R X).frames ∧ 64 ≤ (g_R X).locals ∧ 0 ≤ (g_R X).cells ∧ 0 ≤ (g_R X).slots) {post : Int32 → CSt → Prop} (hret : ∀ (r : Int32) (τ : CSt) (lv : List (Nat × Value)) (pc : Nat), post r τ → narrow .int (.int r) = .int r → decode cX6_leastDepth pc = .ok (.ireturn, 1) → gJ X (cWd G A H0) Q 0 0 τ lv pc [.int r]) (s : CSt) (v0 : Nat) (v1 : Int32) (v2 : Int32) (hw : wpC_X6_leastDepth_31 post s v0 v1 v2) : gJ X (cWd G A H0) Q 0 0 s [(0, .ref v0), (1, .int v1), (2, .int v2)] 31 [] := 
  hw (fun (x : CSt × Nat × Int32 × Int32) => (fun s v0 v1 v2 => gJ X (cWd G A H0) Q 0 0 s [(0, .ref v0), (1, .int v1), (2, .int v2)] 31 []) x.1 x.2.1 x.2.2.1 x.2.2.2) (fun x hx => wkC_X6_leastDepth_31_F C hsz hR hret (K31 := (fun s v0 v1 v2 => gJ X (cWd G A H0) Q 0 0 s [(0, .ref v0), (1, .int v1), (2, .int v2)] 31 [])) (fun _ _ _ _ h => h) x.1 x.2.1 x.2.2.1 x.2.2.2 hx)
theorem wkC_X6_leastDepth_28 {X : gT} {G : cG} {A : Nat → Prop} {H0 : Heap} {Q : State → Prop} (C : cC X cX6_leastDepth 3 RX6 G A) (hsz : H0 = (g_s X).heap) (hR : 3 ≤ (g_R X).frames ∧ 64 ≤ (g_R X).locals ∧ 0 ≤ (g_R X).cells ∧ 0 ≤ (g_R X).slots) {post : Int32 → CSt → Prop} (hret : ∀ (r : Int32) (τ : CSt) (lv : List (Nat × Value)) (pc : Nat), post r τ → narrow .int (.int r) = .int r → decode cX6_leastDepth pc = .ok (.ireturn, 1) → gJ X (cWd G A H0) Q 0 0 τ lv pc [.int r]) (s : CSt) (v0 : Nat) (w0 : Int32) (hw : wpC_X6_leastDepth_28 post s v0 w0) : gJ X (cWd G A H0) Q 0 0 s [(0, .ref v0)] 28 [.int w0] := by
  refine g_istore_n (lv' := [(1, .int w0), (0, .ref v0)]) C.1 dX6_leastDepth_28 rfl (by decide) rfl ?_
  refine g_iconst (v := 1) C.1 dX6_leastDepth_29 (by decide) ?_
  refine g_istore_n (lv' := [(2, .int 1), (1, .int w0), (0, .ref v0)]) C.1 dX6_leastDepth_30 rfl (by decide) rfl ?_
  refine gJ.sub [2, 1, 0] rfl ?_
  exact wkC_X6_leastDepth_31 C hsz hR hret _ _ _ _ hw
theorem wkC_X6_leastDepth_0 {X : gT} {G : cG} {A : Nat → Prop} {H0 : Heap} {Q : State → Prop} (C : cC X cX6_leastDepth 3 RX6 G A) (hsz : H0 = (g_s X).heap) (hR : 3 ≤ (g_R X).frames ∧ 64 ≤ (g_R X).locals ∧ 0 ≤ (g_R X).cells ∧ 0 ≤ (g_R X).slots) {post : Int32 → CSt → Prop} (hret : ∀ (r : Int32) (τ : CSt) (lv : List (Nat × Value)) (pc : Nat), post r τ → narrow .int (.int r) = .int r → decode cX6_leastDepth pc = .ok (.ireturn, 1) → gJ X (cWd G A H0) Q 0 0 τ lv pc [.int r]) (s : CSt) (v0 : Nat) (hw : wpC_X6_leastDepth_0 post s v0) : gJ X (cWd G A H0) Q 0 0 s [(0, .ref v0)] 0 [] := by
  refine g_aload_n C.1 0 dX6_leastDepth_0 rfl rfl ?_
  refine c_get6 C hw.1 5 (by decide) kC_369 (fun _ h => h) rfl dX6_leastDepth_1 ?_
  replace hw := hw.2
  obtain ⟨a12, ha12, hw⟩ := hw
  rw [ha12]
  refine c_callVi (vs := []) C hsz (cC_Jx4a65c_isEmpty_aae02 (g_l X) G s _ _ hw.2) kC_13 kC_380 kC_208 kC_209 kC_210 hdC_Jx4a65c_isEmpty_aae02 (c_recv0 C hw.1) ⟨(Nat.le_trans (Nat.le_of_ble_eq_true rfl) hR.1), (Nat.le_trans (Nat.le_of_ble_eq_true rfl) hR.2.1)⟩ ⟨(Nat.le_trans (Nat.le_of_ble_eq_true rfl) hR.2.2.1), (Nat.le_trans (Nat.le_of_ble_eq_true rfl) hR.2.2.2)⟩ dX6_leastDepth_4 rfl (Nat.le_of_ble_eq_true rfl) (fun r14 s13 hw => ?_)
  refine g_if_eq (tgt := 14) C.1 dX6_leastDepth_7 (by decide) (fun h15 => ?_) (fun h15 => ?_)
  · replace hw := hw.1 h15
    refine g_aload_n C.1 0 dX6_leastDepth_14 rfl rfl ?_
    refine c_get6 C hw.1 5 (by decide) kC_369 (fun _ h => h) rfl dX6_leastDepth_15 ?_
    replace hw := hw.2
    obtain ⟨a16, ha16, hw⟩ := hw
    rw [ha16]
    refine g_iconst (v := 0) C.1 dX6_leastDepth_18 (by decide) ?_
    refine c_callVq (vs := [.int 0]) C hsz (cC_Jx4a65c_get_915e3 (g_l X) G s13 _ _ _ hw.2) kC_13 kC_381 kC_17 kC_18 kC_19 hdC_Jx4a65c_get_915e3 (c_recv0 C hw.1) ⟨(Nat.le_trans (Nat.le_of_ble_eq_true rfl) hR.1), (Nat.le_trans (Nat.le_of_ble_eq_true rfl) hR.2.1)⟩ ⟨(Nat.le_trans (Nat.le_of_ble_eq_true rfl) hR.2.2.1), (Nat.le_trans (Nat.le_of_ble_eq_true rfl) hR.2.2.2)⟩ dX6_leastDepth_19 rfl (Nat.le_of_ble_eq_true rfl) (fun r18 s17 hw => ?_)
    obtain ⟨a19, ha19, hw⟩ := hw
    rw [ha19]
    refine c_cast1 C hw.1 kC_378 dX6_leastDepth_22 ?_
    replace hw := hw.2
    refine c_callVi (vs := []) C hsz (cC_X1_depth (g_l X) G s17 _ _ hw.2) kC_36 kC_382 kC_34 kC_35 kC_37 hdC_X1_depth (c_recv1 C hw.1) ⟨(Nat.le_trans (Nat.le_of_ble_eq_true rfl) hR.1), (Nat.le_trans (Nat.le_of_ble_eq_true rfl) hR.2.1)⟩ ⟨(Nat.le_trans (Nat.le_of_ble_eq_true rfl) hR.2.2.1), (Nat.le_trans (Nat.le_of_ble_eq_true rfl) hR.2.2.2)⟩ dX6_leastDepth_25 rfl (Nat.le_of_ble_eq_true rfl) (fun r21 s20 hw => ?_)
    exact wkC_X6_leastDepth_28 C hsz hR hret _ _ _ hw
  · replace hw := hw.2 h15
    refine g_iconst (v := 0) C.1 dX6_leastDepth_10 (by decide) ?_
    refine g_goto (tgt := 28) C.1 dX6_leastDepth_11 (by decide) ?_
    exact wkC_X6_leastDepth_28 C hsz hR hret _ _ _ hw
theorem hdC_X6_leastDepth : yX6_leastDepth.cls = RX6 ∧ yX6_leastDepth.cls ≠ "java/lang/invoke/MethodHandle" ∧ yX6_leastDepth.cls ≠ "java/lang/invoke/VarHandle" ∧ (parseMethodDescriptor yX6_leastDepth.desc).map (fun d => d.parameters.length) = some 0 := by decide +kernel
theorem cC_X6_leastDepth (l : Launch) (G : cG) (s : CSt) (v0 : Nat) (post : Int32 → CSt → Prop) (hw : wpC_X6_leastDepth_0 post s v0) : cMi l yX6_leastDepth cX6_leastDepth 3 .int 3 64 0 0 G s [.ref v0] post := cMi_of (by decide +kernel) rfl (Nat.le_of_ble_eq_true rfl) (fun X A H0 Q hl hR hsz hnm C hret => wkC_X6_leastDepth_0 C hsz hR hret s v0 hw)
def wpC_X6_mostWorn_4_F (post : Int32 → CSt → Prop) (K4 : CSt → Nat → Int32 → Int32 → Prop) (s : CSt) (v0 : Nat) (v1 : Int32) (v2 : Int32) : Prop := cAt s 6 v0 ∧ ∃ a1 : Nat, cR s 101 v0 = some a1 ∧ cAt s 0 a1 ∧ wpC_Jx4a65c_size_8abf5_0 (fun r3 s2 => (r3 ≤ v2 → post v1 s2) ∧ (¬ r3 ≤ v2 → cAt s2 6 v0 ∧ ∃ a5 : Nat, cR s2 101 v0 = some a5 ∧ cAt s2 0 a5 ∧ wpC_Jx4a65c_get_915e3_0 (fun r7 s6 => ∃ a8 : Nat, r7 = some a8 ∧ cAt s6 1 a8 ∧ cAt s6 1 a8 ∧ ∃ a9 : Nat, cR s6 17 a8 = some a9 ∧ cAt s6 9 a9 ∧ vp_in 3 (cN s6 a9) ∧ ∀ x10 : Int32, x10 = (if v1 < (cV s6 a9 (3 : Int32).toNatClampNeg) then (cV s6 a9 (3 : Int32).toNatClampNeg) else v1) → K4 s6 v0 x10 (v2 + 1)) s2 a5 v2)) s a1
def wpC_X6_mostWorn_4 (post : Int32 → CSt → Prop) (s : CSt) (v0 : Nat) (v1 : Int32) (v2 : Int32) : Prop := gLP (fun (K : CSt × Nat × Int32 × Int32 → Prop) (x : CSt × Nat × Int32 × Int32) => wpC_X6_mostWorn_4_F post (fun s v0 v1 v2 => K (s, v0, v1, v2)) x.1 x.2.1 x.2.2.1 x.2.2.2) (s, v0, v1, v2)
def wpC_X6_mostWorn_0 (post : Int32 → CSt → Prop) (s : CSt) (v0 : Nat) : Prop := wpC_X6_mostWorn_4 post s v0 0 0
theorem wkC_X6_mostWorn_4_F {X : gT} {G : cG} {A : Nat → Prop} {H0 : Heap} {Q : State → Prop} (C : cC X cX6_mostWorn 3 RX6 G A) (hsz : H0 = (g_s X).heap) (hR : 3 ≤ (g_R X).frames ∧ 64 ≤ (g_R X).locals ∧ 0 ≤ (g_R X).cells ∧ 0 ≤ (g_R X).slots) {post : Int32 → CSt → Prop} (hret : ∀ (r : Int32) (τ : CSt) (lv : List (Nat × Value)) (pc : Nat), post r τ → narrow .int (.int r) = .int r → decode cX6_mostWorn pc = .ok (.ireturn, 1) → gJ X (cWd G A H0) Q 0 0 τ lv pc [.int r]) {K4 : CSt → Nat → Int32 → Int32 → Prop} (hK4 : ∀ (s : CSt) (v0 : Nat) (v1 : Int32) (v2 : Int32), K4 s v0 v1 v2 → gJ X (cWd G A H0) Q 0 0 s [(0, .ref v0), (1, .int v1), (2, .int v2)] 4 []) (s : CSt) (v0 : Nat) (v1 : Int32) (v2 : Int32) (hw : wpC_X6_mostWorn_4_F post K4 s v0 v1 v2) : gJ X (cWd G A H0) Q 0 0 s [(0, .ref v0), (1, .int v1), (2, .int v2)] 4 [] := by
  refine g_iload_n C.1 2 dX6_mostWorn_4 rfl rfl ?_
  refine g_aload_n C.1 0 dX6_mostWorn_5 rfl rfl ?_
  refine c_get6 C hw.1 5 (by decide) kC_369 (fun _ h => h) rfl dX6_mostWorn_6 ?_
  replace hw := hw.2
  obtain ⟨a1, ha1, hw⟩ := hw
  rw [ha1]
  refine c_callVi (vs := []) C hsz (cC_Jx4a65c_size_8abf5 (g_l X) G s _ _ hw.2) kC_13 kC_383 kC_11 kC_12 kC_14 hdC_Jx4a65c_size_8abf5 (c_recv0 C hw.1) ⟨(Nat.le_trans (Nat.le_of_ble_eq_true rfl) hR.1), (Nat.le_trans (Nat.le_of_ble_eq_true rfl) hR.2.1)⟩ ⟨(Nat.le_trans (Nat.le_of_ble_eq_true rfl) hR.2.2.1), (Nat.le_trans (Nat.le_of_ble_eq_true rfl) hR.2.2.2)⟩ dX6_mostWorn_9 rfl (Nat.le_of_ble_eq_true rfl) (fun r3 s2 hw => ?_)
  refine g_icmp_ge (tgt := 42) C.1 dX6_mostWorn_12 (by decide) (fun h4 => ?_) (fun h4 => ?_)
  · replace hw := hw.1 h4
    refine g_iload_n C.1 1 dX6_mostWorn_42 rfl rfl ?_
    exact hret _ _ _ _ hw rfl dX6_mostWorn_43
  · replace hw := hw.2 h4
    refine g_iload_n C.1 1 dX6_mostWorn_15 rfl rfl ?_
    refine g_aload_n C.1 0 dX6_mostWorn_16 rfl rfl ?_
    refine c_get6 C hw.1 5 (by decide) kC_369 (fun _ h => h) rfl dX6_mostWorn_17 ?_
    replace hw := hw.2
    obtain ⟨a5, ha5, hw⟩ := hw
    rw [ha5]
    refine g_iload_n C.1 2 dX6_mostWorn_20 rfl rfl ?_
    refine c_callVq (vs := [.int v2]) C hsz (cC_Jx4a65c_get_915e3 (g_l X) G s2 _ _ _ hw.2) kC_13 kC_381 kC_17 kC_18 kC_19 hdC_Jx4a65c_get_915e3 (c_recv0 C hw.1) ⟨(Nat.le_trans (Nat.le_of_ble_eq_true rfl) hR.1), (Nat.le_trans (Nat.le_of_ble_eq_true rfl) hR.2.1)⟩ ⟨(Nat.le_trans (Nat.le_of_ble_eq_true rfl) hR.2.2.1), (Nat.le_trans (Nat.le_of_ble_eq_true rfl) hR.2.2.2)⟩ dX6_mostWorn_21 rfl (Nat.le_of_ble_eq_true rfl) (fun r7 s6 hw => ?_)
    obtain ⟨a8, ha8, hw⟩ := hw
    rw [ha8]
    refine c_cast1 C hw.1 kC_378 dX6_mostWorn_24 ?_
    replace hw := hw.2
    refine c_get1 C hw.1 1 (by decide) kC_385 (fun _ h => h) rfl dX6_mostWorn_27 ?_
    replace hw := hw.2
    obtain ⟨a9, ha9, hw⟩ := hw
    rw [ha9]
    refine g_iconst (v := 3) C.1 dX6_mostWorn_30 (by decide) ?_
    refine c_iald C hw.1 hw.2.1 dX6_mostWorn_31 ?_
    replace hw := hw.2.2
    refine g_mmax C.1 C.2.1 (C.2.2.1 _ kC_386) (C.2.2.1 _ kC_3) (C.2.2.1 _ kC_4) (C.2.2.1 _ kC_5) (Nat.le_trans (Nat.le_of_ble_eq_true rfl) hR.1) (Nat.le_trans (Nat.le_of_ble_eq_true rfl) hR.2.1) (Nat.le_trans (Nat.le_of_ble_eq_true rfl) hR.2.2.1) (Nat.le_trans (Nat.le_of_ble_eq_true rfl) hR.2.2.2) dX6_mostWorn_32 ?_
    refine g_topi (fun x10 ex10 => ?_)
    replace hw := hw x10 ex10
    refine g_istore_n (lv' := [(1, .int x10), (0, .ref v0), (2, .int v2)]) C.1 dX6_mostWorn_35 rfl (by decide) rfl ?_
    refine g_iinc (v := v2 + 1) (lv' := [(2, .int (v2 + 1)), (1, .int x10), (0, .ref v0)]) C.1 2 dX6_mostWorn_36 rfl rfl (by decide) rfl ?_
    refine g_goto (tgt := 4) C.1 dX6_mostWorn_39 (by decide) ?_
    refine gJ.sub [2, 1, 0] rfl ?_
    exact hK4 _ _ _ _ hw
theorem wkC_X6_mostWorn_4 {X : gT} {G : cG} {A : Nat → Prop} {H0 : Heap} {Q : State → Prop} (C : cC X cX6_mostWorn 3 RX6 G A) (hsz : H0 = (g_s X).heap) (hR : 3 ≤ (g_R X).frames ∧ 64 ≤ (g_R X).locals ∧ 0 ≤ (g_R X).cells ∧ 0 ≤ (g_R X).slots) {post : Int32 → CSt → Prop} (hret : ∀ (r : Int32) (τ : CSt) (lv : List (Nat × Value)) (pc : Nat), post r τ → narrow .int (.int r) = .int r → decode cX6_mostWorn pc = .ok (.ireturn, 1) → gJ X (cWd G A H0) Q 0 0 τ lv pc [.int r]) (s : CSt) (v0 : Nat) (v1 : Int32) (v2 : Int32) (hw : wpC_X6_mostWorn_4 post s v0 v1 v2) : gJ X (cWd G A H0) Q 0 0 s [(0, .ref v0), (1, .int v1), (2, .int v2)] 4 [] := 
  hw (fun (x : CSt × Nat × Int32 × Int32) => (fun s v0 v1 v2 => gJ X (cWd G A H0) Q 0 0 s [(0, .ref v0), (1, .int v1), (2, .int v2)] 4 []) x.1 x.2.1 x.2.2.1 x.2.2.2) (fun x hx => wkC_X6_mostWorn_4_F C hsz hR hret (K4 := (fun s v0 v1 v2 => gJ X (cWd G A H0) Q 0 0 s [(0, .ref v0), (1, .int v1), (2, .int v2)] 4 [])) (fun _ _ _ _ h => h) x.1 x.2.1 x.2.2.1 x.2.2.2 hx)
theorem wkC_X6_mostWorn_0 {X : gT} {G : cG} {A : Nat → Prop} {H0 : Heap} {Q : State → Prop} (C : cC X cX6_mostWorn 3 RX6 G A) (hsz : H0 = (g_s X).heap) (hR : 3 ≤ (g_R X).frames ∧ 64 ≤ (g_R X).locals ∧ 0 ≤ (g_R X).cells ∧ 0 ≤ (g_R X).slots) {post : Int32 → CSt → Prop} (hret : ∀ (r : Int32) (τ : CSt) (lv : List (Nat × Value)) (pc : Nat), post r τ → narrow .int (.int r) = .int r → decode cX6_mostWorn pc = .ok (.ireturn, 1) → gJ X (cWd G A H0) Q 0 0 τ lv pc [.int r]) (s : CSt) (v0 : Nat) (hw : wpC_X6_mostWorn_0 post s v0) : gJ X (cWd G A H0) Q 0 0 s [(0, .ref v0)] 0 [] := by
  refine g_iconst (v := 0) C.1 dX6_mostWorn_0 (by decide) ?_
  refine g_istore_n (lv' := [(1, .int 0), (0, .ref v0)]) C.1 dX6_mostWorn_1 rfl (by decide) rfl ?_
  refine g_iconst (v := 0) C.1 dX6_mostWorn_2 (by decide) ?_
  refine g_istore_n (lv' := [(2, .int 0), (1, .int 0), (0, .ref v0)]) C.1 dX6_mostWorn_3 rfl (by decide) rfl ?_
  refine gJ.sub [2, 1, 0] rfl ?_
  exact wkC_X6_mostWorn_4 C hsz hR hret _ _ _ _ hw
theorem hdC_X6_mostWorn : yX6_mostWorn.cls = RX6 ∧ yX6_mostWorn.cls ≠ "java/lang/invoke/MethodHandle" ∧ yX6_mostWorn.cls ≠ "java/lang/invoke/VarHandle" ∧ (parseMethodDescriptor yX6_mostWorn.desc).map (fun d => d.parameters.length) = some 0 := by decide +kernel
theorem cC_X6_mostWorn (l : Launch) (G : cG) (s : CSt) (v0 : Nat) (post : Int32 → CSt → Prop) (hw : wpC_X6_mostWorn_0 post s v0) : cMi l yX6_mostWorn cX6_mostWorn 3 .int 3 64 0 0 G s [.ref v0] post := cMi_of (by decide +kernel) rfl (Nat.le_of_ble_eq_true rfl) (fun X A H0 Q hl hR hsz hnm C hret => wkC_X6_mostWorn_0 C hsz hR hret s v0 hw)
def wpC_X6_wear_4_F (post : Int32 → CSt → Prop) (K4 : CSt → Nat → Int32 → Int32 → Int32 → Prop) (s : CSt) (v0 : Nat) (v1 : Int32) (v2 : Int32) (v3 : Int32) : Prop := cAt s 6 v0 ∧ ∃ a1 : Nat, cR s 101 v0 = some a1 ∧ cAt s 0 a1 ∧ wpC_Jx4a65c_size_8abf5_0 (fun r3 s2 => (r3 ≤ v3 → post v2 s2) ∧ (¬ r3 ≤ v3 → cAt s2 6 v0 ∧ ∃ a5 : Nat, cR s2 101 v0 = some a5 ∧ cAt s2 0 a5 ∧ wpC_Jx4a65c_get_915e3_0 (fun r7 s6 => ∃ a8 : Nat, r7 = some a8 ∧ cAt s6 1 a8 ∧ cAt s6 6 v0 ∧ cAt s6 1 a8 ∧ wpC_X1_becomeWorn_0 (fun r10 s9 => K4 s9 v0 v1 (v2 + r10) (v3 + 1)) s6 a8 (v1 * (1 + (cI s6 100 v0)))) s2 a5 v3)) s a1
def wpC_X6_wear_4 (post : Int32 → CSt → Prop) (s : CSt) (v0 : Nat) (v1 : Int32) (v2 : Int32) (v3 : Int32) : Prop := gLP (fun (K : CSt × Nat × Int32 × Int32 × Int32 → Prop) (x : CSt × Nat × Int32 × Int32 × Int32) => wpC_X6_wear_4_F post (fun s v0 v1 v2 v3 => K (s, v0, v1, v2, v3)) x.1 x.2.1 x.2.2.1 x.2.2.2.1 x.2.2.2.2) (s, v0, v1, v2, v3)
def wpC_X6_wear_0 (post : Int32 → CSt → Prop) (s : CSt) (v0 : Nat) (v1 : Int32) : Prop := wpC_X6_wear_4 post s v0 v1 0 0
theorem wkC_X6_wear_4_F {X : gT} {G : cG} {A : Nat → Prop} {H0 : Heap} {Q : State → Prop} (C : cC X cX6_wear 4 RX6 G A) (hsz : H0 = (g_s X).heap) (hR : 3 ≤ (g_R X).frames ∧ 70 ≤ (g_R X).locals ∧ 0 ≤ (g_R X).cells ∧ 0 ≤ (g_R X).slots) {post : Int32 → CSt → Prop} (hret : ∀ (r : Int32) (τ : CSt) (lv : List (Nat × Value)) (pc : Nat), post r τ → narrow .int (.int r) = .int r → decode cX6_wear pc = .ok (.ireturn, 1) → gJ X (cWd G A H0) Q 0 0 τ lv pc [.int r]) {K4 : CSt → Nat → Int32 → Int32 → Int32 → Prop} (hK4 : ∀ (s : CSt) (v0 : Nat) (v1 : Int32) (v2 : Int32) (v3 : Int32), K4 s v0 v1 v2 v3 → gJ X (cWd G A H0) Q 0 0 s [(0, .ref v0), (1, .int v1), (2, .int v2), (3, .int v3)] 4 []) (s : CSt) (v0 : Nat) (v1 : Int32) (v2 : Int32) (v3 : Int32) (hw : wpC_X6_wear_4_F post K4 s v0 v1 v2 v3) : gJ X (cWd G A H0) Q 0 0 s [(0, .ref v0), (1, .int v1), (2, .int v2), (3, .int v3)] 4 [] := by
  refine g_iload_n C.1 3 dX6_wear_4 rfl rfl ?_
  refine g_aload_n C.1 0 dX6_wear_5 rfl rfl ?_
  refine c_get6 C hw.1 5 (by decide) kC_369 (fun _ h => h) rfl dX6_wear_6 ?_
  replace hw := hw.2
  obtain ⟨a1, ha1, hw⟩ := hw
  rw [ha1]
  refine c_callVi (vs := []) C hsz (cC_Jx4a65c_size_8abf5 (g_l X) G s _ _ hw.2) kC_13 kC_383 kC_11 kC_12 kC_14 hdC_Jx4a65c_size_8abf5 (c_recv0 C hw.1) ⟨(Nat.le_trans (Nat.le_of_ble_eq_true rfl) hR.1), (Nat.le_trans (Nat.le_of_ble_eq_true rfl) hR.2.1)⟩ ⟨(Nat.le_trans (Nat.le_of_ble_eq_true rfl) hR.2.2.1), (Nat.le_trans (Nat.le_of_ble_eq_true rfl) hR.2.2.2)⟩ dX6_wear_9 rfl (Nat.le_of_ble_eq_true rfl) (fun r3 s2 hw => ?_)
  refine g_icmp_ge (tgt := 46) C.1 dX6_wear_12 (by decide) (fun h4 => ?_) (fun h4 => ?_)
  · replace hw := hw.1 h4
    refine g_iload_n C.1 2 dX6_wear_46 rfl rfl ?_
    exact hret _ _ _ _ hw rfl dX6_wear_47
  · replace hw := hw.2 h4
    refine g_iload_n C.1 2 dX6_wear_15 rfl rfl ?_
    refine g_aload_n C.1 0 dX6_wear_16 rfl rfl ?_
    refine c_get6 C hw.1 5 (by decide) kC_369 (fun _ h => h) rfl dX6_wear_17 ?_
    replace hw := hw.2
    obtain ⟨a5, ha5, hw⟩ := hw
    rw [ha5]
    refine g_iload_n C.1 3 dX6_wear_20 rfl rfl ?_
    refine c_callVq (vs := [.int v3]) C hsz (cC_Jx4a65c_get_915e3 (g_l X) G s2 _ _ _ hw.2) kC_13 kC_381 kC_17 kC_18 kC_19 hdC_Jx4a65c_get_915e3 (c_recv0 C hw.1) ⟨(Nat.le_trans (Nat.le_of_ble_eq_true rfl) hR.1), (Nat.le_trans (Nat.le_of_ble_eq_true rfl) hR.2.1)⟩ ⟨(Nat.le_trans (Nat.le_of_ble_eq_true rfl) hR.2.2.1), (Nat.le_trans (Nat.le_of_ble_eq_true rfl) hR.2.2.2)⟩ dX6_wear_21 rfl (Nat.le_of_ble_eq_true rfl) (fun r7 s6 hw => ?_)
    obtain ⟨a8, ha8, hw⟩ := hw
    rw [ha8]
    refine c_cast1 C hw.1 kC_378 dX6_wear_24 ?_
    replace hw := hw.2
    refine g_iload_n C.1 1 dX6_wear_27 rfl rfl ?_
    refine g_iconst (v := 1) C.1 dX6_wear_28 (by decide) ?_
    refine g_aload_n C.1 0 dX6_wear_29 rfl rfl ?_
    refine c_get6 C hw.1 4 (by decide) kC_375 (fun _ h => h) rfl dX6_wear_30 ?_
    replace hw := hw.2
    refine g_iadd C.1 dX6_wear_33 ?_
    refine g_imul C.1 dX6_wear_34 ?_
    refine c_callVi (vs := [.int (v1 * (1 + (cI s6 100 v0)))]) C hsz (cC_X1_becomeWorn (g_l X) G s6 _ _ _ hw.2) kC_36 kC_388 kC_389 kC_390 kC_104 hdC_X1_becomeWorn (c_recv1 C hw.1) ⟨(Nat.le_trans (Nat.le_of_ble_eq_true rfl) hR.1), (Nat.le_trans (Nat.le_of_ble_eq_true rfl) hR.2.1)⟩ ⟨(Nat.le_trans (Nat.le_of_ble_eq_true rfl) hR.2.2.1), (Nat.le_trans (Nat.le_of_ble_eq_true rfl) hR.2.2.2)⟩ dX6_wear_35 rfl (Nat.le_of_ble_eq_true rfl) (fun r10 s9 hw => ?_)
    refine g_iadd C.1 dX6_wear_38 ?_
    refine g_istore_n (lv' := [(2, .int (v2 + r10)), (0, .ref v0), (1, .int v1), (3, .int v3)]) C.1 dX6_wear_39 rfl (by decide) rfl ?_
    refine g_iinc (v := v3 + 1) (lv' := [(3, .int (v3 + 1)), (2, .int (v2 + r10)), (0, .ref v0), (1, .int v1)]) C.1 3 dX6_wear_40 rfl rfl (by decide) rfl ?_
    refine g_goto (tgt := 4) C.1 dX6_wear_43 (by decide) ?_
    refine gJ.sub [2, 3, 1, 0] rfl ?_
    exact hK4 _ _ _ _ _ hw
theorem wkC_X6_wear_4 {X : gT} {G : cG} {A : Nat → Prop} {H0 : Heap} {Q : State → Prop} (C : cC X cX6_wear 4 RX6 G A) (hsz : H0 = (g_s X).heap) (hR : 3 ≤ (g_R X).frames ∧ 70 ≤ (g_R X).locals ∧ 0 ≤ (g_R X).cells ∧ 0 ≤ (g_R X).slots) {post : Int32 → CSt → Prop} (hret : ∀ (r : Int32) (τ : CSt) (lv : List (Nat × Value)) (pc : Nat), post r τ → narrow .int (.int r) = .int r → decode cX6_wear pc = .ok (.ireturn, 1) → gJ X (cWd G A H0) Q 0 0 τ lv pc [.int r]) (s : CSt) (v0 : Nat) (v1 : Int32) (v2 : Int32) (v3 : Int32) (hw : wpC_X6_wear_4 post s v0 v1 v2 v3) : gJ X (cWd G A H0) Q 0 0 s [(0, .ref v0), (1, .int v1), (2, .int v2), (3, .int v3)] 4 [] := 
  hw (fun (x : CSt × Nat × Int32 × Int32 × Int32) => (fun s v0 v1 v2 v3 => gJ X (cWd G A H0) Q 0 0 s [(0, .ref v0), (1, .int v1), (2, .int v2), (3, .int v3)] 4 []) x.1 x.2.1 x.2.2.1 x.2.2.2.1 x.2.2.2.2) (fun x hx => wkC_X6_wear_4_F C hsz hR hret (K4 := (fun s v0 v1 v2 v3 => gJ X (cWd G A H0) Q 0 0 s [(0, .ref v0), (1, .int v1), (2, .int v2), (3, .int v3)] 4 [])) (fun _ _ _ _ _ h => h) x.1 x.2.1 x.2.2.1 x.2.2.2.1 x.2.2.2.2 hx)
theorem wkC_X6_wear_0 {X : gT} {G : cG} {A : Nat → Prop} {H0 : Heap} {Q : State → Prop} (C : cC X cX6_wear 4 RX6 G A) (hsz : H0 = (g_s X).heap) (hR : 3 ≤ (g_R X).frames ∧ 70 ≤ (g_R X).locals ∧ 0 ≤ (g_R X).cells ∧ 0 ≤ (g_R X).slots) {post : Int32 → CSt → Prop} (hret : ∀ (r : Int32) (τ : CSt) (lv : List (Nat × Value)) (pc : Nat), post r τ → narrow .int (.int r) = .int r → decode cX6_wear pc = .ok (.ireturn, 1) → gJ X (cWd G A H0) Q 0 0 τ lv pc [.int r]) (s : CSt) (v0 : Nat) (v1 : Int32) (hw : wpC_X6_wear_0 post s v0 v1) : gJ X (cWd G A H0) Q 0 0 s [(0, .ref v0), (1, .int v1)] 0 [] := by
  refine g_iconst (v := 0) C.1 dX6_wear_0 (by decide) ?_
  refine g_istore_n (lv' := [(2, .int 0), (0, .ref v0), (1, .int v1)]) C.1 dX6_wear_1 rfl (by decide) rfl ?_
  refine g_iconst (v := 0) C.1 dX6_wear_2 (by decide) ?_
  refine g_istore_n (lv' := [(3, .int 0), (2, .int 0), (0, .ref v0), (1, .int v1)]) C.1 dX6_wear_3 rfl (by decide) rfl ?_
  refine gJ.sub [2, 3, 1, 0] rfl ?_
  exact wkC_X6_wear_4 C hsz hR hret _ _ _ _ _ hw
theorem hdC_X6_wear : yX6_wear.cls = RX6 ∧ yX6_wear.cls ≠ "java/lang/invoke/MethodHandle" ∧ yX6_wear.cls ≠ "java/lang/invoke/VarHandle" ∧ (parseMethodDescriptor yX6_wear.desc).map (fun d => d.parameters.length) = some 1 := by decide +kernel
theorem cC_X6_wear (l : Launch) (G : cG) (s : CSt) (v0 : Nat) (v1 : Int32) (post : Int32 → CSt → Prop) (hw : wpC_X6_wear_0 post s v0 v1) : cMi l yX6_wear cX6_wear 4 .int 3 70 0 0 G s [.ref v0, .int v1] post := cMi_of (by decide +kernel) rfl (Nat.le_of_ble_eq_true rfl) (fun X A H0 Q hl hR hsz hnm C hret => wkC_X6_wear_0 C hsz hR hret s v0 v1 hw)
def wpC_X5_byteAt_0 (post : Int32 → CSt → Prop) (s : CSt) (v0 : Nat) (v1 : Int32) : Prop := (v1 < 0 → post 0 s) ∧ (¬ v1 < 0 → cAt s 5 v0 ∧ ∃ a2 : Nat, cR s 84 v0 = some a2 ∧ cAt s 8 a2 ∧ ((nI (cN s a2)) ≤ v1 → post 0 s) ∧ (¬ (nI (cN s a2)) ≤ v1 → cAt s 5 v0 ∧ ∃ a4 : Nat, cR s 84 v0 = some a4 ∧ cAt s 8 a4 ∧ vp_in v1 (cN s a4) ∧ post ((cV s a4 v1.toNatClampNeg) &&& 255) s))
theorem wkC_X5_byteAt_0 {X : gT} {G : cG} {A : Nat → Prop} {H0 : Heap} {Q : State → Prop} (C : cC X cX5_byteAt 2 RX5 G A) (hsz : H0 = (g_s X).heap) (hR : 0 ≤ (g_R X).frames ∧ 0 ≤ (g_R X).locals ∧ 0 ≤ (g_R X).cells ∧ 0 ≤ (g_R X).slots) {post : Int32 → CSt → Prop} (hret : ∀ (r : Int32) (τ : CSt) (lv : List (Nat × Value)) (pc : Nat), post r τ → narrow .int (.int r) = .int r → decode cX5_byteAt pc = .ok (.ireturn, 1) → gJ X (cWd G A H0) Q 0 0 τ lv pc [.int r]) (s : CSt) (v0 : Nat) (v1 : Int32) (hw : wpC_X5_byteAt_0 post s v0 v1) : gJ X (cWd G A H0) Q 0 0 s [(0, .ref v0), (1, .int v1)] 0 [] := by
  refine g_iload_n C.1 1 dX5_byteAt_0 rfl rfl ?_
  refine g_if_lt (tgt := 26) C.1 dX5_byteAt_1 (by decide) (fun h1 => ?_) (fun h1 => ?_)
  · replace hw := hw.1 h1
    refine g_iconst (v := 0) C.1 dX5_byteAt_26 (by decide) ?_
    exact hret _ _ _ _ hw rfl dX5_byteAt_27
  · replace hw := hw.2 h1
    refine g_iload_n C.1 1 dX5_byteAt_4 rfl rfl ?_
    refine g_aload_n C.1 0 dX5_byteAt_5 rfl rfl ?_
    refine c_get5 C hw.1 4 (by decide) kC_235 (fun _ h => h) rfl dX5_byteAt_6 ?_
    replace hw := hw.2
    obtain ⟨a2, ha2, hw⟩ := hw
    rw [ha2]
    refine c_blen C hw.1 dX5_byteAt_9 ?_
    replace hw := hw.2
    refine g_icmp_ge (tgt := 26) C.1 dX5_byteAt_10 (by decide) (fun h3 => ?_) (fun h3 => ?_)
    · replace hw := hw.1 h3
      refine g_iconst (v := 0) C.1 dX5_byteAt_26 (by decide) ?_
      exact hret _ _ _ _ hw rfl dX5_byteAt_27
    · replace hw := hw.2 h3
      refine g_aload_n C.1 0 dX5_byteAt_13 rfl rfl ?_
      refine c_get5 C hw.1 4 (by decide) kC_235 (fun _ h => h) rfl dX5_byteAt_14 ?_
      replace hw := hw.2
      obtain ⟨a4, ha4, hw⟩ := hw
      rw [ha4]
      refine g_iload_n C.1 1 dX5_byteAt_17 rfl rfl ?_
      refine c_bald C hw.1 hw.2.1 dX5_byteAt_18 ?_
      replace hw := hw.2.2
      refine g_sipush (v := 255) C.1 dX5_byteAt_19 (by decide) ?_
      refine g_iand C.1 dX5_byteAt_22 ?_
      refine g_goto (tgt := 27) C.1 dX5_byteAt_23 (by decide) ?_
      exact hret _ _ _ _ hw rfl dX5_byteAt_27
theorem hdC_X5_byteAt : yX5_byteAt.cls = RX5 ∧ yX5_byteAt.cls ≠ "java/lang/invoke/MethodHandle" ∧ yX5_byteAt.cls ≠ "java/lang/invoke/VarHandle" ∧ (parseMethodDescriptor yX5_byteAt.desc).map (fun d => d.parameters.length) = some 1 := by decide +kernel
theorem cC_X5_byteAt (l : Launch) (G : cG) (s : CSt) (v0 : Nat) (v1 : Int32) (post : Int32 → CSt → Prop) (hw : wpC_X5_byteAt_0 post s v0 v1) : cMi l yX5_byteAt cX5_byteAt 2 .int 0 0 0 0 G s [.ref v0, .int v1] post := cMi_of (by decide +kernel) rfl (Nat.le_of_ble_eq_true rfl) (fun X A H0 Q hl hR hsz hnm C hret => wkC_X5_byteAt_0 C hsz hR hret s v0 v1 hw)
def wpC_X5_isLetter_0 (post : Int32 → CSt → Prop) (s : CSt) (v0 : Int32) : Prop := (v0 < 97 → post 0 s) ∧ (¬ v0 < 97 → (122 < v0 → post 0 s) ∧ (¬ 122 < v0 → post 1 s))
theorem wkC_X5_isLetter_0 {X : gT} {G : cG} {A : Nat → Prop} {H0 : Heap} {Q : State → Prop} (C : cC X cX5_isLetter 1 RX5 G A) (hsz : H0 = (g_s X).heap) (hR : 0 ≤ (g_R X).frames ∧ 0 ≤ (g_R X).locals ∧ 0 ≤ (g_R X).cells ∧ 0 ≤ (g_R X).slots) {post : Int32 → CSt → Prop} (hret : ∀ (r : Int32) (τ : CSt) (lv : List (Nat × Value)) (pc : Nat), post r τ → narrow .boolean (.int r) = .int r → decode cX5_isLetter pc = .ok (.ireturn, 1) → gJ X (cWd G A H0) Q 0 0 τ lv pc [.int r]) (s : CSt) (v0 : Int32) (hw : wpC_X5_isLetter_0 post s v0) : gJ X (cWd G A H0) Q 0 0 s [(0, .int v0)] 0 [] := by
  refine g_iload_n C.1 0 dX5_isLetter_0 rfl rfl ?_
  refine g_bipush (v := 97) C.1 dX5_isLetter_1 (by decide) ?_
  refine g_icmp_lt (tgt := 16) C.1 dX5_isLetter_3 (by decide) (fun h1 => ?_) (fun h1 => ?_)
  · replace hw := hw.1 h1
    refine g_iconst (v := 0) C.1 dX5_isLetter_16 (by decide) ?_
    exact hret _ _ _ _ hw rfl dX5_isLetter_17
  · replace hw := hw.2 h1
    refine g_iload_n C.1 0 dX5_isLetter_6 rfl rfl ?_
    refine g_bipush (v := 122) C.1 dX5_isLetter_7 (by decide) ?_
    refine g_icmp_gt (tgt := 16) C.1 dX5_isLetter_9 (by decide) (fun h2 => ?_) (fun h2 => ?_)
    · replace hw := hw.1 h2
      refine g_iconst (v := 0) C.1 dX5_isLetter_16 (by decide) ?_
      exact hret _ _ _ _ hw rfl dX5_isLetter_17
    · replace hw := hw.2 h2
      refine g_iconst (v := 1) C.1 dX5_isLetter_12 (by decide) ?_
      refine g_goto (tgt := 17) C.1 dX5_isLetter_13 (by decide) ?_
      exact hret _ _ _ _ hw rfl dX5_isLetter_17
theorem hdC_X5_isLetter : yX5_isLetter.cls = RX5 ∧ yX5_isLetter.cls ≠ "java/lang/invoke/MethodHandle" ∧ yX5_isLetter.cls ≠ "java/lang/invoke/VarHandle" ∧ (parseMethodDescriptor yX5_isLetter.desc).map (fun d => d.parameters.length) = some 1 := by decide +kernel
theorem cC_X5_isLetter (l : Launch) (G : cG) (s : CSt) (v0 : Int32) (post : Int32 → CSt → Prop) (hw : wpC_X5_isLetter_0 post s v0) : cMi l yX5_isLetter cX5_isLetter 1 .boolean 0 0 0 0 G s [.int v0] post := cMi_of (by decide +kernel) rfl (Nat.le_of_ble_eq_true rfl) (fun X A H0 Q hl hR hsz hnm C hret => wkC_X5_isLetter_0 C hsz hR hret s v0 hw)
def wpC_X5_isDigit_0 (post : Int32 → CSt → Prop) (s : CSt) (v0 : Int32) : Prop := (v0 < 48 → post 0 s) ∧ (¬ v0 < 48 → (57 < v0 → post 0 s) ∧ (¬ 57 < v0 → post 1 s))
theorem wkC_X5_isDigit_0 {X : gT} {G : cG} {A : Nat → Prop} {H0 : Heap} {Q : State → Prop} (C : cC X cX5_isDigit 1 RX5 G A) (hsz : H0 = (g_s X).heap) (hR : 0 ≤ (g_R X).frames ∧ 0 ≤ (g_R X).locals ∧ 0 ≤ (g_R X).cells ∧ 0 ≤ (g_R X).slots) {post : Int32 → CSt → Prop} (hret : ∀ (r : Int32) (τ : CSt) (lv : List (Nat × Value)) (pc : Nat), post r τ → narrow .boolean (.int r) = .int r → decode cX5_isDigit pc = .ok (.ireturn, 1) → gJ X (cWd G A H0) Q 0 0 τ lv pc [.int r]) (s : CSt) (v0 : Int32) (hw : wpC_X5_isDigit_0 post s v0) : gJ X (cWd G A H0) Q 0 0 s [(0, .int v0)] 0 [] := by
  refine g_iload_n C.1 0 dX5_isDigit_0 rfl rfl ?_
  refine g_bipush (v := 48) C.1 dX5_isDigit_1 (by decide) ?_
  refine g_icmp_lt (tgt := 16) C.1 dX5_isDigit_3 (by decide) (fun h1 => ?_) (fun h1 => ?_)
  · replace hw := hw.1 h1
    refine g_iconst (v := 0) C.1 dX5_isDigit_16 (by decide) ?_
    exact hret _ _ _ _ hw rfl dX5_isDigit_17
  · replace hw := hw.2 h1
    refine g_iload_n C.1 0 dX5_isDigit_6 rfl rfl ?_
    refine g_bipush (v := 57) C.1 dX5_isDigit_7 (by decide) ?_
    refine g_icmp_gt (tgt := 16) C.1 dX5_isDigit_9 (by decide) (fun h2 => ?_) (fun h2 => ?_)
    · replace hw := hw.1 h2
      refine g_iconst (v := 0) C.1 dX5_isDigit_16 (by decide) ?_
      exact hret _ _ _ _ hw rfl dX5_isDigit_17
    · replace hw := hw.2 h2
      refine g_iconst (v := 1) C.1 dX5_isDigit_12 (by decide) ?_
      refine g_goto (tgt := 17) C.1 dX5_isDigit_13 (by decide) ?_
      exact hret _ _ _ _ hw rfl dX5_isDigit_17
theorem hdC_X5_isDigit : yX5_isDigit.cls = RX5 ∧ yX5_isDigit.cls ≠ "java/lang/invoke/MethodHandle" ∧ yX5_isDigit.cls ≠ "java/lang/invoke/VarHandle" ∧ (parseMethodDescriptor yX5_isDigit.desc).map (fun d => d.parameters.length) = some 1 := by decide +kernel
theorem cC_X5_isDigit (l : Launch) (G : cG) (s : CSt) (v0 : Int32) (post : Int32 → CSt → Prop) (hw : wpC_X5_isDigit_0 post s v0) : cMi l yX5_isDigit cX5_isDigit 1 .boolean 0 0 0 0 G s [.int v0] post := cMi_of (by decide +kernel) rfl (Nat.le_of_ble_eq_true rfl) (fun X A H0 Q hl hR hsz hnm C hret => wkC_X5_isDigit_0 C hsz hR hret s v0 hw)
def wpC_X5_fails_0 (post : Int32 → CSt → Prop) (s : CSt) (v0 : Nat) : Prop := cAt s 5 v0 ∧ cAt s 5 v0 ∧ ∀ s1 : CSt, s1 = csI s 80 v0 (cI s 89 v0) → post 0 s1
theorem wkC_X5_fails_0 {X : gT} {G : cG} {A : Nat → Prop} {H0 : Heap} {Q : State → Prop} (C : cC X cX5_fails 1 RX5 G A) (hsz : H0 = (g_s X).heap) (hR : 0 ≤ (g_R X).frames ∧ 0 ≤ (g_R X).locals ∧ 0 ≤ (g_R X).cells ∧ 0 ≤ (g_R X).slots) {post : Int32 → CSt → Prop} (hret : ∀ (r : Int32) (τ : CSt) (lv : List (Nat × Value)) (pc : Nat), post r τ → narrow .boolean (.int r) = .int r → decode cX5_fails pc = .ok (.ireturn, 1) → gJ X (cWd G A H0) Q 0 0 τ lv pc [.int r]) (s : CSt) (v0 : Nat) (hw : wpC_X5_fails_0 post s v0) : gJ X (cWd G A H0) Q 0 0 s [(0, .ref v0)] 0 [] := by
  refine g_aload_n C.1 0 dX5_fails_0 rfl rfl ?_
  refine g_aload_n C.1 0 dX5_fails_1 rfl rfl ?_
  refine c_get5 C hw.1 9 (by decide) kC_240 (fun _ h => h) rfl dX5_fails_2 ?_
  replace hw := hw.2
  refine c_put5 C (τ := csI s 80 v0 (cI s 89 v0)) hw.1 0 (by decide) kC_317 (fun _ h => h) rfl (ty := .int) (by decide +kernel) rfl rfl rfl hw.1.2 rfl (cx_5_0 _ _ _) (fun _ hb => csI_o hb) dX5_fails_5 ?_
  replace hw := hw.2
  refine gJ.nm (fun s1 es1 => ?_)
  replace hw := hw s1 es1
  refine g_iconst (v := 0) C.1 dX5_fails_8 (by decide) ?_
  exact hret _ _ _ _ hw rfl dX5_fails_9
theorem hdC_X5_fails : yX5_fails.cls = RX5 ∧ yX5_fails.cls ≠ "java/lang/invoke/MethodHandle" ∧ yX5_fails.cls ≠ "java/lang/invoke/VarHandle" ∧ (parseMethodDescriptor yX5_fails.desc).map (fun d => d.parameters.length) = some 0 := by decide +kernel
theorem cC_X5_fails (l : Launch) (G : cG) (s : CSt) (v0 : Nat) (post : Int32 → CSt → Prop) (hw : wpC_X5_fails_0 post s v0) : cMi l yX5_fails cX5_fails 1 .boolean 0 0 0 0 G s [.ref v0] post := cMi_of (by decide +kernel) rfl (Nat.le_of_ble_eq_true rfl) (fun X A H0 Q hl hR hsz hnm C hret => wkC_X5_fails_0 C hsz hR hret s v0 hw)
def wpC_X5_write_0 (post : CSt → Prop) (s : CSt) (v0 : Nat) (v1 : Int32) (v2 : Int32) (v3 : Int32) : Prop := cAt s 5 v0 ∧ cAt s 5 v0 ∧ ∃ a1 : Nat, cR s 82 v0 = some a1 ∧ cAt s 9 a1 ∧ ((nI (cN s a1)) ≤ (cI s 83 v0) → post s) ∧ (¬ (nI (cN s a1)) ≤ (cI s 83 v0) → cAt s 5 v0 ∧ ∃ a3 : Nat, cR s 82 v0 = some a3 ∧ cAt s 5 v0 ∧ cAt s 9 a3 ∧ vp_in (cI s 83 v0) (cN s a3) ∧ ∀ s4 : CSt, s4 = csV s a3 (upd (cV s a3) (cI s 83 v0).toNatClampNeg (((v1 <<< (24 &&& 31)) ||| (v2 <<< (20 &&& 31))) ||| v3)) → cAt s4 5 v0 ∧ cAt s4 5 v0 ∧ ∀ s5 : CSt, s5 = csI s4 83 v0 ((cI s4 83 v0) + 1) → post s5)
theorem wkC_X5_write_0 {X : gT} {G : cG} {A : Nat → Prop} {H0 : Heap} {Q : State → Prop} (C : cC X cX5_write 4 RX5 G A) (hsz : H0 = (g_s X).heap) (hR : 0 ≤ (g_R X).frames ∧ 0 ≤ (g_R X).locals ∧ 0 ≤ (g_R X).cells ∧ 0 ≤ (g_R X).slots) {post : CSt → Prop} (hret : ∀ (τ : CSt) (lv : List (Nat × Value)) (pc : Nat), post τ → decode cX5_write pc = .ok (.return_, 1) → gJ X (cWd G A H0) Q 0 0 τ lv pc []) (s : CSt) (v0 : Nat) (v1 : Int32) (v2 : Int32) (v3 : Int32) (hw : wpC_X5_write_0 post s v0 v1 v2 v3) : gJ X (cWd G A H0) Q 0 0 s [(0, .ref v0), (1, .int v1), (2, .int v2), (3, .int v3)] 0 [] := by
  refine g_aload_n C.1 0 dX5_write_0 rfl rfl ?_
  refine c_get5 C hw.1 3 (by decide) kC_315 (fun _ h => h) rfl dX5_write_1 ?_
  replace hw := hw.2
  refine g_aload_n C.1 0 dX5_write_4 rfl rfl ?_
  refine c_get5 C hw.1 2 (by decide) kC_233 (fun _ h => h) rfl dX5_write_5 ?_
  replace hw := hw.2
  obtain ⟨a1, ha1, hw⟩ := hw
  rw [ha1]
  refine c_ilen C hw.1 dX5_write_8 ?_
  replace hw := hw.2
  refine g_icmp_ge (tgt := 42) C.1 dX5_write_9 (by decide) (fun h2 => ?_) (fun h2 => ?_)
  · replace hw := hw.1 h2
    exact hret _ _ _ hw dX5_write_42
  · replace hw := hw.2 h2
    refine g_aload_n C.1 0 dX5_write_12 rfl rfl ?_
    refine c_get5 C hw.1 2 (by decide) kC_233 (fun _ h => h) rfl dX5_write_13 ?_
    replace hw := hw.2
    obtain ⟨a3, ha3, hw⟩ := hw
    rw [ha3]
    refine g_aload_n C.1 0 dX5_write_16 rfl rfl ?_
    refine c_get5 C hw.1 3 (by decide) kC_315 (fun _ h => h) rfl dX5_write_17 ?_
    replace hw := hw.2
    refine g_iload_n C.1 1 dX5_write_20 rfl rfl ?_
    refine g_bipush (v := 24) C.1 dX5_write_21 (by decide) ?_
    refine g_ishl C.1 dX5_write_23 ?_
    refine g_iload_n C.1 2 dX5_write_24 rfl rfl ?_
    refine g_bipush (v := 20) C.1 dX5_write_25 (by decide) ?_
    refine g_ishl C.1 dX5_write_27 ?_
    refine g_ior C.1 dX5_write_28 ?_
    refine g_iload_n C.1 3 dX5_write_29 rfl rfl ?_
    refine g_ior C.1 dX5_write_30 ?_
    refine c_iast C hw.1 hw.2.1 dX5_write_31 ?_
    replace hw := hw.2.2
    refine gJ.nm (fun s4 es4 => ?_)
    replace hw := hw s4 es4
    refine g_aload_n C.1 0 dX5_write_32 rfl rfl ?_
    refine g_dup C.1 dX5_write_33 rfl ?_
    refine c_get5 C hw.1 3 (by decide) kC_315 (fun _ h => h) rfl dX5_write_34 ?_
    replace hw := hw.2
    refine g_iconst (v := 1) C.1 dX5_write_37 (by decide) ?_
    refine g_iadd C.1 dX5_write_38 ?_
    refine c_put5 C (τ := csI s4 83 v0 ((cI s4 83 v0) + 1)) hw.1 3 (by decide) kC_315 (fun _ h => h) rfl (ty := .int) (by decide +kernel) rfl rfl rfl hw.1.2 rfl (cx_5_3 _ _ _) (fun _ hb => csI_o hb) dX5_write_39 ?_
    replace hw := hw.2
    refine gJ.nm (fun s5 es5 => ?_)
    replace hw := hw s5 es5
    exact hret _ _ _ hw dX5_write_42
theorem hdC_X5_write : yX5_write.cls = RX5 ∧ yX5_write.cls ≠ "java/lang/invoke/MethodHandle" ∧ yX5_write.cls ≠ "java/lang/invoke/VarHandle" ∧ (parseMethodDescriptor yX5_write.desc).map (fun d => d.parameters.length) = some 3 := by decide +kernel
theorem cC_X5_write (l : Launch) (G : cG) (s : CSt) (v0 : Nat) (v1 : Int32) (v2 : Int32) (v3 : Int32) (post : CSt → Prop) (hw : wpC_X5_write_0 post s v0 v1 v2 v3) : cMv l yX5_write cX5_write 4 0 0 0 0 G s [.ref v0, .int v1, .int v2, .int v3] post := cMv_of (by decide +kernel) rfl (Nat.le_of_ble_eq_true rfl) (fun X A H0 Q hl hR hsz hnm C hret => wkC_X5_write_0 C hsz hR hret s v0 v1 v2 v3 hw)
def wpC_X5_spells_20_F (post : Int32 → CSt → Prop) (K20 : CSt → Nat → Nat → Int32 → Prop) (s : CSt) (v0 : Nat) (v1 : Nat) (v2 : Int32) : Prop := v1 < 9 ∧ ((nI (ctb.getD v1 []).length) ≤ v2 → post 1 s) ∧ (¬ (nI (ctb.getD v1 []).length) ≤ v2 → cAt s 5 v0 ∧ cAt s 5 v0 ∧ wpC_X5_byteAt_0 (fun r3 s2 => v1 < 9 ∧ ¬ v2 < 0 ∧ v2 < nI (ctb.getD v1 []).length ∧ (r3 = (jAt (ctb.getD v1 []) v2) → K20 s2 v0 v1 (v2 + 1)) ∧ (¬ r3 = (jAt (ctb.getD v1 []) v2) → post 0 s2)) s v0 ((cI s 89 v0) + v2))
def wpC_X5_spells_20 (post : Int32 → CSt → Prop) (s : CSt) (v0 : Nat) (v1 : Nat) (v2 : Int32) : Prop := gLP (fun (K : CSt × Nat × Nat × Int32 → Prop) (x : CSt × Nat × Nat × Int32) => wpC_X5_spells_20_F post (fun s v0 v1 v2 => K (s, v0, v1, v2)) x.1 x.2.1 x.2.2.1 x.2.2.2) (s, v0, v1, v2)
def wpC_X5_spells_0 (post : Int32 → CSt → Prop) (s : CSt) (v0 : Nat) (v1 : Nat) : Prop := cAt s 5 v0 ∧ cAt s 5 v0 ∧ v1 < 9 ∧ (((cI s 88 v0) - (cI s 89 v0)) = (nI (ctb.getD v1 []).length) → wpC_X5_spells_20 post s v0 v1 0) ∧ (¬ ((cI s 88 v0) - (cI s 89 v0)) = (nI (ctb.getD v1 []).length) → post 0 s)
theorem wkC_X5_spells_20_F {X : gT} {G : cG} {A : Nat → Prop} {H0 : Heap} {Q : State → Prop} (C : cC X cX5_spells 3 RX5 G A) (hsz : H0 = (g_s X).heap) (hR : 4 ≤ (g_R X).frames ∧ 85 ≤ (g_R X).locals ∧ 0 ≤ (g_R X).cells ∧ 0 ≤ (g_R X).slots) {post : Int32 → CSt → Prop} (hret : ∀ (r : Int32) (τ : CSt) (lv : List (Nat × Value)) (pc : Nat), post r τ → narrow .boolean (.int r) = .int r → decode cX5_spells pc = .ok (.ireturn, 1) → gJ X (cWd G A H0) Q 0 0 τ lv pc [.int r]) {K20 : CSt → Nat → Nat → Int32 → Prop} (hK20 : ∀ (s : CSt) (v0 : Nat) (v1 : Nat) (v2 : Int32), K20 s v0 v1 v2 → gJ X (cWd G A H0) Q 0 0 s [(0, .ref v0), (1, .ref (G.2.2.1 v1)), (2, .int v2)] 20 []) (s : CSt) (v0 : Nat) (v1 : Nat) (v2 : Int32) (hw : wpC_X5_spells_20_F post K20 s v0 v1 v2) : gJ X (cWd G A H0) Q 0 0 s [(0, .ref v0), (1, .ref (G.2.2.1 v1)), (2, .int v2)] 20 [] := by
  refine g_iload_n C.1 2 dX5_spells_20 rfl rfl ?_
  refine g_aload_n C.1 1 dX5_spells_21 rfl rfl ?_
  refine c_slen C hsz hw.1 kC_241 ⟨(Nat.le_trans (Nat.le_of_ble_eq_true rfl) hR.1), (Nat.le_trans (Nat.le_of_ble_eq_true rfl) hR.2.1)⟩ ⟨(Nat.le_trans (Nat.le_of_ble_eq_true rfl) hR.2.2.1), (Nat.le_trans (Nat.le_of_ble_eq_true rfl) hR.2.2.2)⟩ dX5_spells_22 (Nat.le_of_ble_eq_true rfl) ?_
  replace hw := hw.2
  refine g_icmp_ge (tgt := 54) C.1 dX5_spells_25 (by decide) (fun h1 => ?_) (fun h1 => ?_)
  · replace hw := hw.1 h1
    refine g_iconst (v := 1) C.1 dX5_spells_54 (by decide) ?_
    exact hret _ _ _ _ hw rfl dX5_spells_55
  · replace hw := hw.2 h1
    refine g_aload_n C.1 0 dX5_spells_28 rfl rfl ?_
    refine g_aload_n C.1 0 dX5_spells_29 rfl rfl ?_
    refine c_get5 C hw.1 9 (by decide) kC_240 (fun _ h => h) rfl dX5_spells_30 ?_
    replace hw := hw.2
    refine g_iload_n C.1 2 dX5_spells_33 rfl rfl ?_
    refine g_iadd C.1 dX5_spells_34 ?_
    refine c_callVi (vs := [.int ((cI s 89 v0) + v2)]) C hsz (cC_X5_byteAt (g_l X) G s _ _ _ hw.2) kC_256 kC_253 kC_254 kC_255 kC_237 hdC_X5_byteAt (c_recv5 C hw.1) ⟨(Nat.le_trans (Nat.le_of_ble_eq_true rfl) hR.1), (Nat.le_trans (Nat.le_of_ble_eq_true rfl) hR.2.1)⟩ ⟨(Nat.le_trans (Nat.le_of_ble_eq_true rfl) hR.2.2.1), (Nat.le_trans (Nat.le_of_ble_eq_true rfl) hR.2.2.2)⟩ dX5_spells_35 rfl (Nat.le_of_ble_eq_true rfl) (fun r3 s2 hw => ?_)
    refine g_aload_n C.1 1 dX5_spells_38 rfl rfl ?_
    refine g_iload_n C.1 2 dX5_spells_39 rfl rfl ?_
    refine c_sat C hsz hw.1 hw.2.1 hw.2.2.1 kC_257 ⟨(Nat.le_trans (Nat.le_of_ble_eq_true rfl) hR.1), (Nat.le_trans (Nat.le_of_ble_eq_true rfl) hR.2.1)⟩ ⟨(Nat.le_trans (Nat.le_of_ble_eq_true rfl) hR.2.2.1), (Nat.le_trans (Nat.le_of_ble_eq_true rfl) hR.2.2.2)⟩ dX5_spells_40 (Nat.le_of_ble_eq_true rfl) ?_
    replace hw := hw.2.2.2
    refine g_icmp_eq (tgt := 48) C.1 dX5_spells_43 (by decide) (fun h4 => ?_) (fun h4 => ?_)
    · replace hw := hw.1 h4
      refine g_iinc (v := v2 + 1) (lv' := [(2, .int (v2 + 1)), (0, .ref v0), (1, .ref (G.2.2.1 v1))]) C.1 2 dX5_spells_48 rfl rfl (by decide) rfl ?_
      refine g_goto (tgt := 20) C.1 dX5_spells_51 (by decide) ?_
      refine gJ.sub [1, 2, 0] rfl ?_
      exact hK20 _ _ _ _ hw
    · replace hw := hw.2 h4
      refine g_iconst (v := 0) C.1 dX5_spells_46 (by decide) ?_
      exact hret _ _ _ _ hw rfl dX5_spells_47
theorem wkC_X5_spells_20 {X : gT} {G : cG} {A : Nat → Prop} {H0 : Heap} {Q : State → Prop} (C : cC X cX5_spells 3 RX5 G A) (hsz : H0 = (g_s X).heap) (hR : 4 ≤ (g_R X).frames ∧ 85 ≤ (g_R X).locals ∧ 0 ≤ (g_R X).cells ∧ 0 ≤ (g_R X).slots) {post : Int32 → CSt → Prop} (hret : ∀ (r : Int32) (τ : CSt) (lv : List (Nat × Value)) (pc : Nat), post r τ → narrow .boolean (.int r) = .int r → decode cX5_spells pc = .ok (.ireturn, 1) → gJ X (cWd G A H0) Q 0 0 τ lv pc [.int r]) (s : CSt) (v0 : Nat) (v1 : Nat) (v2 : Int32) (hw : wpC_X5_spells_20 post s v0 v1 v2) : gJ X (cWd G A H0) Q 0 0 s [(0, .ref v0), (1, .ref (G.2.2.1 v1)), (2, .int v2)] 20 [] := 
  hw (fun (x : CSt × Nat × Nat × Int32) => (fun s v0 v1 v2 => gJ X (cWd G A H0) Q 0 0 s [(0, .ref v0), (1, .ref (G.2.2.1 v1)), (2, .int v2)] 20 []) x.1 x.2.1 x.2.2.1 x.2.2.2) (fun x hx => wkC_X5_spells_20_F C hsz hR hret (K20 := (fun s v0 v1 v2 => gJ X (cWd G A H0) Q 0 0 s [(0, .ref v0), (1, .ref (G.2.2.1 v1)), (2, .int v2)] 20 [])) (fun _ _ _ _ h => h) x.1 x.2.1 x.2.2.1 x.2.2.2 hx)
theorem wkC_X5_spells_0 {X : gT} {G : cG} {A : Nat → Prop} {H0 : Heap} {Q : State → Prop} (C : cC X cX5_spells 3 RX5 G A) (hsz : H0 = (g_s X).heap) (hR : 4 ≤ (g_R X).frames ∧ 85 ≤ (g_R X).locals ∧ 0 ≤ (g_R X).cells ∧ 0 ≤ (g_R X).slots) {post : Int32 → CSt → Prop} (hret : ∀ (r : Int32) (τ : CSt) (lv : List (Nat × Value)) (pc : Nat), post r τ → narrow .boolean (.int r) = .int r → decode cX5_spells pc = .ok (.ireturn, 1) → gJ X (cWd G A H0) Q 0 0 τ lv pc [.int r]) (s : CSt) (v0 : Nat) (v1 : Nat) (hw : wpC_X5_spells_0 post s v0 v1) : gJ X (cWd G A H0) Q 0 0 s [(0, .ref v0), (1, .ref (G.2.2.1 v1))] 0 [] := by
  refine g_aload_n C.1 0 dX5_spells_0 rfl rfl ?_
  refine c_get5 C hw.1 8 (by decide) kC_239 (fun _ h => h) rfl dX5_spells_1 ?_
  replace hw := hw.2
  refine g_aload_n C.1 0 dX5_spells_4 rfl rfl ?_
  refine c_get5 C hw.1 9 (by decide) kC_240 (fun _ h => h) rfl dX5_spells_5 ?_
  replace hw := hw.2
  refine g_isub C.1 dX5_spells_8 ?_
  refine g_aload_n C.1 1 dX5_spells_9 rfl rfl ?_
  refine c_slen C hsz hw.1 kC_241 ⟨(Nat.le_trans (Nat.le_of_ble_eq_true rfl) hR.1), (Nat.le_trans (Nat.le_of_ble_eq_true rfl) hR.2.1)⟩ ⟨(Nat.le_trans (Nat.le_of_ble_eq_true rfl) hR.2.2.1), (Nat.le_trans (Nat.le_of_ble_eq_true rfl) hR.2.2.2)⟩ dX5_spells_10 (Nat.le_of_ble_eq_true rfl) ?_
  replace hw := hw.2
  refine g_icmp_eq (tgt := 18) C.1 dX5_spells_13 (by decide) (fun h5 => ?_) (fun h5 => ?_)
  · replace hw := hw.1 h5
    refine g_iconst (v := 0) C.1 dX5_spells_18 (by decide) ?_
    refine g_istore_n (lv' := [(2, .int 0), (0, .ref v0), (1, .ref (G.2.2.1 v1))]) C.1 dX5_spells_19 rfl (by decide) rfl ?_
    refine gJ.sub [1, 2, 0] rfl ?_
    exact wkC_X5_spells_20 C hsz hR hret _ _ _ _ hw
  · replace hw := hw.2 h5
    refine g_iconst (v := 0) C.1 dX5_spells_16 (by decide) ?_
    exact hret _ _ _ _ hw rfl dX5_spells_17
theorem hdC_X5_spells : yX5_spells.cls = RX5 ∧ yX5_spells.cls ≠ "java/lang/invoke/MethodHandle" ∧ yX5_spells.cls ≠ "java/lang/invoke/VarHandle" ∧ (parseMethodDescriptor yX5_spells.desc).map (fun d => d.parameters.length) = some 1 := by decide +kernel
theorem cC_X5_spells (l : Launch) (G : cG) (s : CSt) (v0 : Nat) (v1 : Nat) (post : Int32 → CSt → Prop) (hw : wpC_X5_spells_0 post s v0 v1) : cMi l yX5_spells cX5_spells 3 .boolean 4 85 0 0 G s [.ref v0, .ref (G.2.2.1 v1)] post := cMi_of (by decide +kernel) rfl (Nat.le_of_ble_eq_true rfl) (fun X A H0 Q hl hR hsz hnm C hret => wkC_X5_spells_0 C hsz hR hret s v0 v1 hw)
def wpC_X5_kindOfWord_0 (post : Int32 → CSt → Prop) (s : CSt) (v0 : Nat) : Prop := cAt s 5 v0 ∧ wpC_X5_spells_0 (fun r2 s1 => (r2 = 0 → cAt s1 5 v0 ∧ wpC_X5_spells_0 (fun r5 s4 => (r5 = 0 → cAt s4 5 v0 ∧ wpC_X5_spells_0 (fun r8 s7 => (r8 = 0 → cAt s7 5 v0 ∧ wpC_X5_spells_0 (fun r11 s10 => (r11 = 0 → cAt s10 5 v0 ∧ wpC_X5_spells_0 (fun r14 s13 => (r14 = 0 → cAt s13 5 v0 ∧ wpC_X5_spells_0 (fun r17 s16 => (r17 = 0 → cAt s16 5 v0 ∧ wpC_X5_spells_0 (fun r20 s19 => (r20 = 0 → cAt s19 5 v0 ∧ wpC_X5_spells_0 (fun r23 s22 => (r23 = 0 → cAt s22 5 v0 ∧ wpC_X5_spells_0 (fun r26 s25 => (r26 = 0 → post 16 s25) ∧ (¬ r26 = 0 → post 8 s25)) s22 v0 8) ∧ (¬ r23 = 0 → post 7 s22)) s19 v0 7) ∧ (¬ r20 = 0 → post 6 s19)) s16 v0 6) ∧ (¬ r17 = 0 → post 5 s16)) s13 v0 5) ∧ (¬ r14 = 0 → post 4 s13)) s10 v0 4) ∧ (¬ r11 = 0 → post 3 s10)) s7 v0 3) ∧ (¬ r8 = 0 → post 2 s7)) s4 v0 2) ∧ (¬ r5 = 0 → post 1 s4)) s1 v0 1) ∧ (¬ r2 = 0 → post 0 s1)) s v0 0
theorem wkC_X5_kindOfWord_0 {X : gT} {G : cG} {A : Nat → Prop} {H0 : Heap} {Q : State → Prop} (C : cC X cX5_kindOfWord 1 RX5 G A) (hsz : H0 = (g_s X).heap) (hR : 5 ≤ (g_R X).frames ∧ 107 ≤ (g_R X).locals ∧ 0 ≤ (g_R X).cells ∧ 0 ≤ (g_R X).slots) {post : Int32 → CSt → Prop} (hret : ∀ (r : Int32) (τ : CSt) (lv : List (Nat × Value)) (pc : Nat), post r τ → narrow .int (.int r) = .int r → decode cX5_kindOfWord pc = .ok (.ireturn, 1) → gJ X (cWd G A H0) Q 0 0 τ lv pc [.int r]) (s : CSt) (v0 : Nat) (hw : wpC_X5_kindOfWord_0 post s v0) : gJ X (cWd G A H0) Q 0 0 s [(0, .ref v0)] 0 [] := by
  refine g_aload_n C.1 0 dX5_kindOfWord_0 rfl rfl ?_
  refine g_ldcS C.1 C.2.1 (C.2.2.2.2.2.2.1 0 (by decide)) dX5_kindOfWord_1 ?_
  refine c_callVi (vs := [.ref (G.2.2.1 0)]) C hsz (cC_X5_spells (g_l X) G s _ _ _ hw.2) kC_256 kC_292 kC_293 kC_294 kC_291 hdC_X5_spells (c_recv5 C hw.1) ⟨(Nat.le_trans (Nat.le_of_ble_eq_true rfl) hR.1), (Nat.le_trans (Nat.le_of_ble_eq_true rfl) hR.2.1)⟩ ⟨(Nat.le_trans (Nat.le_of_ble_eq_true rfl) hR.2.2.1), (Nat.le_trans (Nat.le_of_ble_eq_true rfl) hR.2.2.2)⟩ dX5_kindOfWord_3 rfl (Nat.le_of_ble_eq_true rfl) (fun r2 s1 hw => ?_)
  refine g_if_eq (tgt := 11) C.1 dX5_kindOfWord_6 (by decide) (fun h3 => ?_) (fun h3 => ?_)
  · replace hw := hw.1 h3
    refine g_aload_n C.1 0 dX5_kindOfWord_11 rfl rfl ?_
    refine g_ldcS C.1 C.2.1 (C.2.2.2.2.2.2.1 1 (by decide)) dX5_kindOfWord_12 ?_
    refine c_callVi (vs := [.ref (G.2.2.1 1)]) C hsz (cC_X5_spells (g_l X) G s1 _ _ _ hw.2) kC_256 kC_292 kC_293 kC_294 kC_291 hdC_X5_spells (c_recv5 C hw.1) ⟨(Nat.le_trans (Nat.le_of_ble_eq_true rfl) hR.1), (Nat.le_trans (Nat.le_of_ble_eq_true rfl) hR.2.1)⟩ ⟨(Nat.le_trans (Nat.le_of_ble_eq_true rfl) hR.2.2.1), (Nat.le_trans (Nat.le_of_ble_eq_true rfl) hR.2.2.2)⟩ dX5_kindOfWord_14 rfl (Nat.le_of_ble_eq_true rfl) (fun r5 s4 hw => ?_)
    refine g_if_eq (tgt := 22) C.1 dX5_kindOfWord_17 (by decide) (fun h6 => ?_) (fun h6 => ?_)
    · replace hw := hw.1 h6
      refine g_aload_n C.1 0 dX5_kindOfWord_22 rfl rfl ?_
      refine g_ldcS C.1 C.2.1 (C.2.2.2.2.2.2.1 2 (by decide)) dX5_kindOfWord_23 ?_
      refine c_callVi (vs := [.ref (G.2.2.1 2)]) C hsz (cC_X5_spells (g_l X) G s4 _ _ _ hw.2) kC_256 kC_292 kC_293 kC_294 kC_291 hdC_X5_spells (c_recv5 C hw.1) ⟨(Nat.le_trans (Nat.le_of_ble_eq_true rfl) hR.1), (Nat.le_trans (Nat.le_of_ble_eq_true rfl) hR.2.1)⟩ ⟨(Nat.le_trans (Nat.le_of_ble_eq_true rfl) hR.2.2.1), (Nat.le_trans (Nat.le_of_ble_eq_true rfl) hR.2.2.2)⟩ dX5_kindOfWord_25 rfl (Nat.le_of_ble_eq_true rfl) (fun r8 s7 hw => ?_)
      refine g_if_eq (tgt := 33) C.1 dX5_kindOfWord_28 (by decide) (fun h9 => ?_) (fun h9 => ?_)
      · replace hw := hw.1 h9
        refine g_aload_n C.1 0 dX5_kindOfWord_33 rfl rfl ?_
        refine g_ldcS C.1 C.2.1 (C.2.2.2.2.2.2.1 3 (by decide)) dX5_kindOfWord_34 ?_
        refine c_callVi (vs := [.ref (G.2.2.1 3)]) C hsz (cC_X5_spells (g_l X) G s7 _ _ _ hw.2) kC_256 kC_292 kC_293 kC_294 kC_291 hdC_X5_spells (c_recv5 C hw.1) ⟨(Nat.le_trans (Nat.le_of_ble_eq_true rfl) hR.1), (Nat.le_trans (Nat.le_of_ble_eq_true rfl) hR.2.1)⟩ ⟨(Nat.le_trans (Nat.le_of_ble_eq_true rfl) hR.2.2.1), (Nat.le_trans (Nat.le_of_ble_eq_true rfl) hR.2.2.2)⟩ dX5_kindOfWord_36 rfl (Nat.le_of_ble_eq_true rfl) (fun r11 s10 hw => ?_)
        refine g_if_eq (tgt := 44) C.1 dX5_kindOfWord_39 (by decide) (fun h12 => ?_) (fun h12 => ?_)
        · replace hw := hw.1 h12
          refine g_aload_n C.1 0 dX5_kindOfWord_44 rfl rfl ?_
          refine g_ldcS C.1 C.2.1 (C.2.2.2.2.2.2.1 4 (by decide)) dX5_kindOfWord_45 ?_
          refine c_callVi (vs := [.ref (G.2.2.1 4)]) C hsz (cC_X5_spells (g_l X) G s10 _ _ _ hw.2) kC_256 kC_292 kC_293 kC_294 kC_291 hdC_X5_spells (c_recv5 C hw.1) ⟨(Nat.le_trans (Nat.le_of_ble_eq_true rfl) hR.1), (Nat.le_trans (Nat.le_of_ble_eq_true rfl) hR.2.1)⟩ ⟨(Nat.le_trans (Nat.le_of_ble_eq_true rfl) hR.2.2.1), (Nat.le_trans (Nat.le_of_ble_eq_true rfl) hR.2.2.2)⟩ dX5_kindOfWord_47 rfl (Nat.le_of_ble_eq_true rfl) (fun r14 s13 hw => ?_)
          refine g_if_eq (tgt := 55) C.1 dX5_kindOfWord_50 (by decide) (fun h15 => ?_) (fun h15 => ?_)
          · replace hw := hw.1 h15
            refine g_aload_n C.1 0 dX5_kindOfWord_55 rfl rfl ?_
            refine g_ldcS C.1 C.2.1 (C.2.2.2.2.2.2.1 5 (by decide)) dX5_kindOfWord_56 ?_
            refine c_callVi (vs := [.ref (G.2.2.1 5)]) C hsz (cC_X5_spells (g_l X) G s13 _ _ _ hw.2) kC_256 kC_292 kC_293 kC_294 kC_291 hdC_X5_spells (c_recv5 C hw.1) ⟨(Nat.le_trans (Nat.le_of_ble_eq_true rfl) hR.1), (Nat.le_trans (Nat.le_of_ble_eq_true rfl) hR.2.1)⟩ ⟨(Nat.le_trans (Nat.le_of_ble_eq_true rfl) hR.2.2.1), (Nat.le_trans (Nat.le_of_ble_eq_true rfl) hR.2.2.2)⟩ dX5_kindOfWord_58 rfl (Nat.le_of_ble_eq_true rfl) (fun r17 s16 hw => ?_)
            refine g_if_eq (tgt := 66) C.1 dX5_kindOfWord_61 (by decide) (fun h18 => ?_) (fun h18 => ?_)
            · replace hw := hw.1 h18
              refine g_aload_n C.1 0 dX5_kindOfWord_66 rfl rfl ?_
              refine g_ldcS C.1 C.2.1 (C.2.2.2.2.2.2.1 6 (by decide)) dX5_kindOfWord_67 ?_
              refine c_callVi (vs := [.ref (G.2.2.1 6)]) C hsz (cC_X5_spells (g_l X) G s16 _ _ _ hw.2) kC_256 kC_292 kC_293 kC_294 kC_291 hdC_X5_spells (c_recv5 C hw.1) ⟨(Nat.le_trans (Nat.le_of_ble_eq_true rfl) hR.1), (Nat.le_trans (Nat.le_of_ble_eq_true rfl) hR.2.1)⟩ ⟨(Nat.le_trans (Nat.le_of_ble_eq_true rfl) hR.2.2.1), (Nat.le_trans (Nat.le_of_ble_eq_true rfl) hR.2.2.2)⟩ dX5_kindOfWord_69 rfl (Nat.le_of_ble_eq_true rfl) (fun r20 s19 hw => ?_)
              refine g_if_eq (tgt := 78) C.1 dX5_kindOfWord_72 (by decide) (fun h21 => ?_) (fun h21 => ?_)
              · replace hw := hw.1 h21
                refine g_aload_n C.1 0 dX5_kindOfWord_78 rfl rfl ?_
                refine g_ldcS C.1 C.2.1 (C.2.2.2.2.2.2.1 7 (by decide)) dX5_kindOfWord_79 ?_
                refine c_callVi (vs := [.ref (G.2.2.1 7)]) C hsz (cC_X5_spells (g_l X) G s19 _ _ _ hw.2) kC_256 kC_292 kC_293 kC_294 kC_291 hdC_X5_spells (c_recv5 C hw.1) ⟨(Nat.le_trans (Nat.le_of_ble_eq_true rfl) hR.1), (Nat.le_trans (Nat.le_of_ble_eq_true rfl) hR.2.1)⟩ ⟨(Nat.le_trans (Nat.le_of_ble_eq_true rfl) hR.2.2.1), (Nat.le_trans (Nat.le_of_ble_eq_true rfl) hR.2.2.2)⟩ dX5_kindOfWord_81 rfl (Nat.le_of_ble_eq_true rfl) (fun r23 s22 hw => ?_)
                refine g_if_eq (tgt := 90) C.1 dX5_kindOfWord_84 (by decide) (fun h24 => ?_) (fun h24 => ?_)
                · replace hw := hw.1 h24
                  refine g_aload_n C.1 0 dX5_kindOfWord_90 rfl rfl ?_
                  refine g_ldcS C.1 C.2.1 (C.2.2.2.2.2.2.1 8 (by decide)) dX5_kindOfWord_91 ?_
                  refine c_callVi (vs := [.ref (G.2.2.1 8)]) C hsz (cC_X5_spells (g_l X) G s22 _ _ _ hw.2) kC_256 kC_292 kC_293 kC_294 kC_291 hdC_X5_spells (c_recv5 C hw.1) ⟨(Nat.le_trans (Nat.le_of_ble_eq_true rfl) hR.1), (Nat.le_trans (Nat.le_of_ble_eq_true rfl) hR.2.1)⟩ ⟨(Nat.le_trans (Nat.le_of_ble_eq_true rfl) hR.2.2.1), (Nat.le_trans (Nat.le_of_ble_eq_true rfl) hR.2.2.2)⟩ dX5_kindOfWord_93 rfl (Nat.le_of_ble_eq_true rfl) (fun r26 s25 hw => ?_)
                  refine g_if_eq (tgt := 104) C.1 dX5_kindOfWord_96 (by decide) (fun h27 => ?_) (fun h27 => ?_)
                  · replace hw := hw.1 h27
                    refine g_bipush (v := 16) C.1 dX5_kindOfWord_104 (by decide) ?_
                    exact hret _ _ _ _ hw rfl dX5_kindOfWord_106
                  · replace hw := hw.2 h27
                    refine g_bipush (v := 8) C.1 dX5_kindOfWord_99 (by decide) ?_
                    refine g_goto (tgt := 106) C.1 dX5_kindOfWord_101 (by decide) ?_
                    exact hret _ _ _ _ hw rfl dX5_kindOfWord_106
                · replace hw := hw.2 h24
                  refine g_bipush (v := 7) C.1 dX5_kindOfWord_87 (by decide) ?_
                  exact hret _ _ _ _ hw rfl dX5_kindOfWord_89
              · replace hw := hw.2 h21
                refine g_bipush (v := 6) C.1 dX5_kindOfWord_75 (by decide) ?_
                exact hret _ _ _ _ hw rfl dX5_kindOfWord_77
            · replace hw := hw.2 h18
              refine g_iconst (v := 5) C.1 dX5_kindOfWord_64 (by decide) ?_
              exact hret _ _ _ _ hw rfl dX5_kindOfWord_65
          · replace hw := hw.2 h15
            refine g_iconst (v := 4) C.1 dX5_kindOfWord_53 (by decide) ?_
            exact hret _ _ _ _ hw rfl dX5_kindOfWord_54
        · replace hw := hw.2 h12
          refine g_iconst (v := 3) C.1 dX5_kindOfWord_42 (by decide) ?_
          exact hret _ _ _ _ hw rfl dX5_kindOfWord_43
      · replace hw := hw.2 h9
        refine g_iconst (v := 2) C.1 dX5_kindOfWord_31 (by decide) ?_
        exact hret _ _ _ _ hw rfl dX5_kindOfWord_32
    · replace hw := hw.2 h6
      refine g_iconst (v := 1) C.1 dX5_kindOfWord_20 (by decide) ?_
      exact hret _ _ _ _ hw rfl dX5_kindOfWord_21
  · replace hw := hw.2 h3
    refine g_iconst (v := 0) C.1 dX5_kindOfWord_9 (by decide) ?_
    exact hret _ _ _ _ hw rfl dX5_kindOfWord_10
theorem hdC_X5_kindOfWord : yX5_kindOfWord.cls = RX5 ∧ yX5_kindOfWord.cls ≠ "java/lang/invoke/MethodHandle" ∧ yX5_kindOfWord.cls ≠ "java/lang/invoke/VarHandle" ∧ (parseMethodDescriptor yX5_kindOfWord.desc).map (fun d => d.parameters.length) = some 0 := by decide +kernel
theorem cC_X5_kindOfWord (l : Launch) (G : cG) (s : CSt) (v0 : Nat) (post : Int32 → CSt → Prop) (hw : wpC_X5_kindOfWord_0 post s v0) : cMi l yX5_kindOfWord cX5_kindOfWord 1 .int 5 107 0 0 G s [.ref v0] post := cMi_of (by decide +kernel) rfl (Nat.le_of_ble_eq_true rfl) (fun X A H0 Q hl hR hsz hnm C hret => wkC_X5_kindOfWord_0 C hsz hR hret s v0 hw)
def wpC_X5_kindOfSign_0 (post : Int32 → CSt → Prop) (s : CSt) (v0 : Int32) : Prop := (v0 = 40 → post 12 s) ∧ (v0 = 41 → post 13 s) ∧ (v0 = 60 → post 9 s) ∧ (v0 = 61 → post 11 s) ∧ (v0 = 62 → post 10 s) ∧ (¬ v0 = 40 → ¬ v0 = 41 → ¬ v0 = 60 → ¬ v0 = 61 → ¬ v0 = 62 → post 16 s)
theorem wkC_X5_kindOfSign_0 {X : gT} {G : cG} {A : Nat → Prop} {H0 : Heap} {Q : State → Prop} (C : cC X cX5_kindOfSign 1 RX5 G A) (hsz : H0 = (g_s X).heap) (hR : 0 ≤ (g_R X).frames ∧ 0 ≤ (g_R X).locals ∧ 0 ≤ (g_R X).cells ∧ 0 ≤ (g_R X).slots) {post : Int32 → CSt → Prop} (hret : ∀ (r : Int32) (τ : CSt) (lv : List (Nat × Value)) (pc : Nat), post r τ → narrow .int (.int r) = .int r → decode cX5_kindOfSign pc = .ok (.ireturn, 1) → gJ X (cWd G A H0) Q 0 0 τ lv pc [.int r]) (s : CSt) (v0 : Int32) (hw : wpC_X5_kindOfSign_0 post s v0) : gJ X (cWd G A H0) Q 0 0 s [(0, .int v0)] 0 [] := by
  refine g_iload_n C.1 0 dX5_kindOfSign_0 rfl rfl ?_
  by_cases h1 : v0 = 40
  · replace hw := hw.1 h1
    refine g_lookup (tgt := 61) (off := 60) C.1 dX5_kindOfSign_1 (by decide) (by rw [h1]; decide) (by decide) ?_
    refine g_bipush (v := 12) C.1 dX5_kindOfSign_61 (by decide) ?_
    exact hret _ _ _ _ hw rfl dX5_kindOfSign_63
  by_cases h2 : v0 = 41
  · replace hw := hw.2.1 h2
    refine g_lookup (tgt := 64) (off := 63) C.1 dX5_kindOfSign_1 (by decide) (by rw [h2]; decide) (by decide) ?_
    refine g_bipush (v := 13) C.1 dX5_kindOfSign_64 (by decide) ?_
    exact hret _ _ _ _ hw rfl dX5_kindOfSign_66
  by_cases h3 : v0 = 60
  · replace hw := hw.2.2.1 h3
    refine g_lookup (tgt := 52) (off := 51) C.1 dX5_kindOfSign_1 (by decide) (by rw [h3]; decide) (by decide) ?_
    refine g_bipush (v := 9) C.1 dX5_kindOfSign_52 (by decide) ?_
    exact hret _ _ _ _ hw rfl dX5_kindOfSign_54
  by_cases h4 : v0 = 61
  · replace hw := hw.2.2.2.1 h4
    refine g_lookup (tgt := 58) (off := 57) C.1 dX5_kindOfSign_1 (by decide) (by rw [h4]; decide) (by decide) ?_
    refine g_bipush (v := 11) C.1 dX5_kindOfSign_58 (by decide) ?_
    exact hret _ _ _ _ hw rfl dX5_kindOfSign_60
  by_cases h5 : v0 = 62
  · replace hw := hw.2.2.2.2.1 h5
    refine g_lookup (tgt := 55) (off := 54) C.1 dX5_kindOfSign_1 (by decide) (by rw [h5]; decide) (by decide) ?_
    refine g_bipush (v := 10) C.1 dX5_kindOfSign_55 (by decide) ?_
    exact hret _ _ _ _ hw rfl dX5_kindOfSign_57
  replace hw := hw.2.2.2.2.2 h1 h2 h3 h4 h5
  refine g_lookup (tgt := 67) (off := 66) C.1 dX5_kindOfSign_1 (by decide) ?_ (by decide) ?_
  · refine lk_none ?_
    intro p hp
    simp only [List.mem_cons, List.not_mem_nil, or_false] at hp
    rcases hp with rfl | rfl | rfl | rfl | rfl
    · exact fun e => h1 (i32_of (e.symm.trans rfl))
    · exact fun e => h2 (i32_of (e.symm.trans rfl))
    · exact fun e => h3 (i32_of (e.symm.trans rfl))
    · exact fun e => h4 (i32_of (e.symm.trans rfl))
    · exact fun e => h5 (i32_of (e.symm.trans rfl))
  · refine g_bipush (v := 16) C.1 dX5_kindOfSign_67 (by decide) ?_
    exact hret _ _ _ _ hw rfl dX5_kindOfSign_69
theorem hdC_X5_kindOfSign : yX5_kindOfSign.cls = RX5 ∧ yX5_kindOfSign.cls ≠ "java/lang/invoke/MethodHandle" ∧ yX5_kindOfSign.cls ≠ "java/lang/invoke/VarHandle" ∧ (parseMethodDescriptor yX5_kindOfSign.desc).map (fun d => d.parameters.length) = some 1 := by decide +kernel
theorem cC_X5_kindOfSign (l : Launch) (G : cG) (s : CSt) (v0 : Int32) (post : Int32 → CSt → Prop) (hw : wpC_X5_kindOfSign_0 post s v0) : cMi l yX5_kindOfSign cX5_kindOfSign 1 .int 0 0 0 0 G s [.int v0] post := cMi_of (by decide +kernel) rfl (Nat.le_of_ble_eq_true rfl) (fun X A H0 Q hl hR hsz hnm C hret => wkC_X5_kindOfSign_0 C hsz hR hret s v0 hw)
def wpC_X5_advanceNumber_102 (post : CSt → Prop) (s : CSt) (w0 : Nat) (w1 : Int32) : Prop := cAt s 5 w0 ∧ ∀ s1 : CSt, s1 = csI s 90 w0 w1 → post s1
def wpC_X5_advanceNumber_80 (post : CSt → Prop) (s : CSt) (v0 : Nat) : Prop := cAt s 5 v0 ∧ cAt s 5 v0 ∧ (6 < ((cI s 88 v0) - (cI s 89 v0)) → wpC_X5_advanceNumber_102 post s v0 16) ∧ (¬ 6 < ((cI s 88 v0) - (cI s 89 v0)) → wpC_X5_advanceNumber_102 post s v0 14)
def wpC_X5_advanceNumber_67 (post : CSt → Prop) (K5 : CSt → Nat → Prop) (s : CSt) (v0 : Nat) : Prop := cAt s 5 v0 ∧ cAt s 5 v0 ∧ ∀ s3 : CSt, s3 = csI s 88 v0 ((cI s 88 v0) + 1) → K5 s3 v0
def wpC_X5_advanceNumber_5_F (post : CSt → Prop) (K5 : CSt → Nat → Prop) (s : CSt) (v0 : Nat) : Prop := cAt s 5 v0 ∧ cAt s 5 v0 ∧ ((cI s 85 v0) ≤ (cI s 88 v0) → wpC_X5_advanceNumber_80 post s v0) ∧ (¬ (cI s 85 v0) ≤ (cI s 88 v0) → cAt s 5 v0 ∧ cAt s 5 v0 ∧ wpC_X5_byteAt_0 (fun r6 s5 => wpC_X5_isDigit_0 (fun r8 s7 => (r8 = 0 → wpC_X5_advanceNumber_80 post s7 v0) ∧ (¬ r8 = 0 → cAt s7 5 v0 ∧ cAt s7 5 v0 ∧ (6 ≤ ((cI s7 88 v0) - (cI s7 89 v0)) → wpC_X5_advanceNumber_67 post K5 s7 v0) ∧ (¬ 6 ≤ ((cI s7 88 v0) - (cI s7 89 v0)) → cAt s7 5 v0 ∧ cAt s7 5 v0 ∧ cAt s7 5 v0 ∧ wpC_X5_byteAt_0 (fun r12 s11 => cAt s11 5 v0 ∧ ∀ s13 : CSt, s13 = csI s11 91 v0 ((((cI s7 91 v0) * 10) + r12) - 48) → wpC_X5_advanceNumber_67 post K5 s13 v0) s7 v0 (cI s7 88 v0)))) s5 r6) s v0 (cI s 88 v0))
def wpC_X5_advanceNumber_5 (post : CSt → Prop) (s : CSt) (v0 : Nat) : Prop := gLP (fun (K : CSt × Nat → Prop) (x : CSt × Nat) => wpC_X5_advanceNumber_5_F post (fun s v0 => K (s, v0)) x.1 x.2) (s, v0)
def wpC_X5_advanceNumber_0 (post : CSt → Prop) (s : CSt) (v0 : Nat) : Prop := cAt s 5 v0 ∧ ∀ s14 : CSt, s14 = csI s 91 v0 0 → wpC_X5_advanceNumber_5 post s14 v0
theorem wkC_X5_advanceNumber_102 {X : gT} {G : cG} {A : Nat → Prop} {H0 : Heap} {Q : State → Prop} (C : cC X cX5_advanceNumber 1 RX5 G A) (hsz : H0 = (g_s X).heap) (hR : 1 ≤ (g_R X).frames ∧ 21 ≤ (g_R X).locals ∧ 0 ≤ (g_R X).cells ∧ 0 ≤ (g_R X).slots) {post : CSt → Prop} (hret : ∀ (τ : CSt) (lv : List (Nat × Value)) (pc : Nat), post τ → decode cX5_advanceNumber pc = .ok (.return_, 1) → gJ X (cWd G A H0) Q 0 0 τ lv pc []) (s : CSt) (w0 : Nat) (w1 : Int32) (hw : wpC_X5_advanceNumber_102 post s w0 w1) : gJ X (cWd G A H0) Q 0 0 s [] 102 [.int w1, .ref w0] := by
  refine c_put5 C (τ := csI s 90 w0 w1) hw.1 10 (by decide) kC_299 (fun _ h => h) rfl (ty := .int) (by decide +kernel) rfl rfl rfl hw.1.2 rfl (cx_5_10 _ _ _) (fun _ hb => csI_o hb) dX5_advanceNumber_102 ?_
  replace hw := hw.2
  refine gJ.nm (fun s1 es1 => ?_)
  replace hw := hw s1 es1
  exact hret _ _ _ hw dX5_advanceNumber_105
theorem wkC_X5_advanceNumber_80 {X : gT} {G : cG} {A : Nat → Prop} {H0 : Heap} {Q : State → Prop} (C : cC X cX5_advanceNumber 1 RX5 G A) (hsz : H0 = (g_s X).heap) (hR : 1 ≤ (g_R X).frames ∧ 21 ≤ (g_R X).locals ∧ 0 ≤ (g_R X).cells ∧ 0 ≤ (g_R X).slots) {post : CSt → Prop} (hret : ∀ (τ : CSt) (lv : List (Nat × Value)) (pc : Nat), post τ → decode cX5_advanceNumber pc = .ok (.return_, 1) → gJ X (cWd G A H0) Q 0 0 τ lv pc []) (s : CSt) (v0 : Nat) (hw : wpC_X5_advanceNumber_80 post s v0) : gJ X (cWd G A H0) Q 0 0 s [(0, .ref v0)] 80 [] := by
  refine g_aload_n C.1 0 dX5_advanceNumber_80 rfl rfl ?_
  refine g_aload_n C.1 0 dX5_advanceNumber_81 rfl rfl ?_
  refine c_get5 C hw.1 8 (by decide) kC_239 (fun _ h => h) rfl dX5_advanceNumber_82 ?_
  replace hw := hw.2
  refine g_aload_n C.1 0 dX5_advanceNumber_85 rfl rfl ?_
  refine c_get5 C hw.1 9 (by decide) kC_240 (fun _ h => h) rfl dX5_advanceNumber_86 ?_
  replace hw := hw.2
  refine g_isub C.1 dX5_advanceNumber_89 ?_
  refine g_bipush (v := 6) C.1 dX5_advanceNumber_90 (by decide) ?_
  refine g_icmp_gt (tgt := 100) C.1 dX5_advanceNumber_92 (by decide) (fun h2 => ?_) (fun h2 => ?_)
  · replace hw := hw.1 h2
    refine g_bipush (v := 16) C.1 dX5_advanceNumber_100 (by decide) ?_
    refine gJ.sub [] rfl ?_
    exact wkC_X5_advanceNumber_102 C hsz hR hret _ _ _ hw
  · replace hw := hw.2 h2
    refine g_bipush (v := 14) C.1 dX5_advanceNumber_95 (by decide) ?_
    refine g_goto (tgt := 102) C.1 dX5_advanceNumber_97 (by decide) ?_
    refine gJ.sub [] rfl ?_
    exact wkC_X5_advanceNumber_102 C hsz hR hret _ _ _ hw
theorem wkC_X5_advanceNumber_67 {X : gT} {G : cG} {A : Nat → Prop} {H0 : Heap} {Q : State → Prop} (C : cC X cX5_advanceNumber 1 RX5 G A) (hsz : H0 = (g_s X).heap) (hR : 1 ≤ (g_R X).frames ∧ 21 ≤ (g_R X).locals ∧ 0 ≤ (g_R X).cells ∧ 0 ≤ (g_R X).slots) {post : CSt → Prop} (hret : ∀ (τ : CSt) (lv : List (Nat × Value)) (pc : Nat), post τ → decode cX5_advanceNumber pc = .ok (.return_, 1) → gJ X (cWd G A H0) Q 0 0 τ lv pc []) {K5 : CSt → Nat → Prop} (hK5 : ∀ (s : CSt) (v0 : Nat), K5 s v0 → gJ X (cWd G A H0) Q 0 0 s [(0, .ref v0)] 5 []) (s : CSt) (v0 : Nat) (hw : wpC_X5_advanceNumber_67 post K5 s v0) : gJ X (cWd G A H0) Q 0 0 s [(0, .ref v0)] 67 [] := by
  refine g_aload_n C.1 0 dX5_advanceNumber_67 rfl rfl ?_
  refine g_dup C.1 dX5_advanceNumber_68 rfl ?_
  refine c_get5 C hw.1 8 (by decide) kC_239 (fun _ h => h) rfl dX5_advanceNumber_69 ?_
  replace hw := hw.2
  refine g_iconst (v := 1) C.1 dX5_advanceNumber_72 (by decide) ?_
  refine g_iadd C.1 dX5_advanceNumber_73 ?_
  refine c_put5 C (τ := csI s 88 v0 ((cI s 88 v0) + 1)) hw.1 8 (by decide) kC_239 (fun _ h => h) rfl (ty := .int) (by decide +kernel) rfl rfl rfl hw.1.2 rfl (cx_5_8 _ _ _) (fun _ hb => csI_o hb) dX5_advanceNumber_74 ?_
  replace hw := hw.2
  refine gJ.nm (fun s3 es3 => ?_)
  replace hw := hw s3 es3
  refine g_goto (tgt := 5) C.1 dX5_advanceNumber_77 (by decide) ?_
  exact hK5 _ _ hw
theorem wkC_X5_advanceNumber_5_F {X : gT} {G : cG} {A : Nat → Prop} {H0 : Heap} {Q : State → Prop} (C : cC X cX5_advanceNumber 1 RX5 G A) (hsz : H0 = (g_s X).heap) (hR : 1 ≤ (g_R X).frames ∧ 21 ≤ (g_R X).locals ∧ 0 ≤ (g_R X).cells ∧ 0 ≤ (g_R X).slots) {post : CSt → Prop} (hret : ∀ (τ : CSt) (lv : List (Nat × Value)) (pc : Nat), post τ → decode cX5_advanceNumber pc = .ok (.return_, 1) → gJ X (cWd G A H0) Q 0 0 τ lv pc []) {K5 : CSt → Nat → Prop} (hK5 : ∀ (s : CSt) (v0 : Nat), K5 s v0 → gJ X (cWd G A H0) Q 0 0 s [(0, .ref v0)] 5 []) (s : CSt) (v0 : Nat) (hw : wpC_X5_advanceNumber_5_F post K5 s v0) : gJ X (cWd G A H0) Q 0 0 s [(0, .ref v0)] 5 [] := by
  refine g_aload_n C.1 0 dX5_advanceNumber_5 rfl rfl ?_
  refine c_get5 C hw.1 8 (by decide) kC_239 (fun _ h => h) rfl dX5_advanceNumber_6 ?_
  replace hw := hw.2
  refine g_aload_n C.1 0 dX5_advanceNumber_9 rfl rfl ?_
  refine c_get5 C hw.1 5 (by decide) kC_298 (fun _ h => h) rfl dX5_advanceNumber_10 ?_
  replace hw := hw.2
  refine g_icmp_ge (tgt := 80) C.1 dX5_advanceNumber_13 (by decide) (fun h4 => ?_) (fun h4 => ?_)
  · replace hw := hw.1 h4
    exact wkC_X5_advanceNumber_80 C hsz hR hret _ _ hw
  · replace hw := hw.2 h4
    refine g_aload_n C.1 0 dX5_advanceNumber_16 rfl rfl ?_
    refine g_aload_n C.1 0 dX5_advanceNumber_17 rfl rfl ?_
    refine c_get5 C hw.1 8 (by decide) kC_239 (fun _ h => h) rfl dX5_advanceNumber_18 ?_
    replace hw := hw.2
    refine c_callVi (vs := [.int (cI s 88 v0)]) C hsz (cC_X5_byteAt (g_l X) G s _ _ _ hw.2) kC_256 kC_253 kC_254 kC_255 kC_237 hdC_X5_byteAt (c_recv5 C hw.1) ⟨(Nat.le_trans (Nat.le_of_ble_eq_true rfl) hR.1), (Nat.le_trans (Nat.le_of_ble_eq_true rfl) hR.2.1)⟩ ⟨(Nat.le_trans (Nat.le_of_ble_eq_true rfl) hR.2.2.1), (Nat.le_trans (Nat.le_of_ble_eq_true rfl) hR.2.2.2)⟩ dX5_advanceNumber_21 rfl (Nat.le_of_ble_eq_true rfl) (fun r6 s5 hw => ?_)
    refine c_callSi (vs := [.int r6]) C hsz (cC_X5_isDigit (g_l X) G s5 _ _ hw) kC_256 kC_300 kC_301 kC_296 hdC_X5_isDigit ⟨(Nat.le_trans (Nat.le_of_ble_eq_true rfl) hR.1), (Nat.le_trans (Nat.le_of_ble_eq_true rfl) hR.2.1)⟩ ⟨(Nat.le_trans (Nat.le_of_ble_eq_true rfl) hR.2.2.1), (Nat.le_trans (Nat.le_of_ble_eq_true rfl) hR.2.2.2)⟩ dX5_advanceNumber_24 rfl (Nat.le_of_ble_eq_true rfl) (fun r8 s7 hw => ?_)
    refine g_if_eq (tgt := 80) C.1 dX5_advanceNumber_27 (by decide) (fun h9 => ?_) (fun h9 => ?_)
    · replace hw := hw.1 h9
      exact wkC_X5_advanceNumber_80 C hsz hR hret _ _ hw
    · replace hw := hw.2 h9
      refine g_aload_n C.1 0 dX5_advanceNumber_30 rfl rfl ?_
      refine c_get5 C hw.1 8 (by decide) kC_239 (fun _ h => h) rfl dX5_advanceNumber_31 ?_
      replace hw := hw.2
      refine g_aload_n C.1 0 dX5_advanceNumber_34 rfl rfl ?_
      refine c_get5 C hw.1 9 (by decide) kC_240 (fun _ h => h) rfl dX5_advanceNumber_35 ?_
      replace hw := hw.2
      refine g_isub C.1 dX5_advanceNumber_38 ?_
      refine g_bipush (v := 6) C.1 dX5_advanceNumber_39 (by decide) ?_
      refine g_icmp_ge (tgt := 67) C.1 dX5_advanceNumber_41 (by decide) (fun h10 => ?_) (fun h10 => ?_)
      · replace hw := hw.1 h10
        exact wkC_X5_advanceNumber_67 C hsz hR hret hK5 _ _ hw
      · replace hw := hw.2 h10
        refine g_aload_n C.1 0 dX5_advanceNumber_44 rfl rfl ?_
        refine g_aload_n C.1 0 dX5_advanceNumber_45 rfl rfl ?_
        refine c_get5 C hw.1 11 (by decide) kC_297 (fun _ h => h) rfl dX5_advanceNumber_46 ?_
        replace hw := hw.2
        refine g_bipush (v := 10) C.1 dX5_advanceNumber_49 (by decide) ?_
        refine g_imul C.1 dX5_advanceNumber_51 ?_
        refine g_aload_n C.1 0 dX5_advanceNumber_52 rfl rfl ?_
        refine g_aload_n C.1 0 dX5_advanceNumber_53 rfl rfl ?_
        refine c_get5 C hw.1 8 (by decide) kC_239 (fun _ h => h) rfl dX5_advanceNumber_54 ?_
        replace hw := hw.2
        refine c_callVi (vs := [.int (cI s7 88 v0)]) C hsz (cC_X5_byteAt (g_l X) G s7 _ _ _ hw.2) kC_256 kC_253 kC_254 kC_255 kC_237 hdC_X5_byteAt (c_recv5 C hw.1) ⟨(Nat.le_trans (Nat.le_of_ble_eq_true rfl) hR.1), (Nat.le_trans (Nat.le_of_ble_eq_true rfl) hR.2.1)⟩ ⟨(Nat.le_trans (Nat.le_of_ble_eq_true rfl) hR.2.2.1), (Nat.le_trans (Nat.le_of_ble_eq_true rfl) hR.2.2.2)⟩ dX5_advanceNumber_57 rfl (Nat.le_of_ble_eq_true rfl) (fun r12 s11 hw => ?_)
        refine g_iadd C.1 dX5_advanceNumber_60 ?_
        refine g_bipush (v := 48) C.1 dX5_advanceNumber_61 (by decide) ?_
        refine g_isub C.1 dX5_advanceNumber_63 ?_
        refine c_put5 C (τ := csI s11 91 v0 ((((cI s7 91 v0) * 10) + r12) - 48)) hw.1 11 (by decide) kC_297 (fun _ h => h) rfl (ty := .int) (by decide +kernel) rfl rfl rfl hw.1.2 rfl (cx_5_11 _ _ _) (fun _ hb => csI_o hb) dX5_advanceNumber_64 ?_
        replace hw := hw.2
        refine gJ.nm (fun s13 es13 => ?_)
        replace hw := hw s13 es13
        exact wkC_X5_advanceNumber_67 C hsz hR hret hK5 _ _ hw
theorem wkC_X5_advanceNumber_5 {X : gT} {G : cG} {A : Nat → Prop} {H0 : Heap} {Q : State → Prop} (C : cC X cX5_advanceNumber 1 RX5 G A) (hsz : H0 = (g_s X).heap) (hR : 1 ≤ (g_R X).frames ∧ 21 ≤ (g_R X).locals ∧ 0 ≤ (g_R X).cells ∧ 0 ≤ (g_R X).slots) {post : CSt → Prop} (hret : ∀ (τ : CSt) (lv : List (Nat × Value)) (pc : Nat), post τ → decode cX5_advanceNumber pc = .ok (.return_, 1) → gJ X (cWd G A H0) Q 0 0 τ lv pc []) (s : CSt) (v0 : Nat) (hw : wpC_X5_advanceNumber_5 post s v0) : gJ X (cWd G A H0) Q 0 0 s [(0, .ref v0)] 5 [] := 
  hw (fun (x : CSt × Nat) => (fun s v0 => gJ X (cWd G A H0) Q 0 0 s [(0, .ref v0)] 5 []) x.1 x.2) (fun x hx => wkC_X5_advanceNumber_5_F C hsz hR hret (K5 := (fun s v0 => gJ X (cWd G A H0) Q 0 0 s [(0, .ref v0)] 5 [])) (fun _ _ h => h) x.1 x.2 hx)
theorem wkC_X5_advanceNumber_0 {X : gT} {G : cG} {A : Nat → Prop} {H0 : Heap} {Q : State → Prop} (C : cC X cX5_advanceNumber 1 RX5 G A) (hsz : H0 = (g_s X).heap) (hR : 1 ≤ (g_R X).frames ∧ 21 ≤ (g_R X).locals ∧ 0 ≤ (g_R X).cells ∧ 0 ≤ (g_R X).slots) {post : CSt → Prop} (hret : ∀ (τ : CSt) (lv : List (Nat × Value)) (pc : Nat), post τ → decode cX5_advanceNumber pc = .ok (.return_, 1) → gJ X (cWd G A H0) Q 0 0 τ lv pc []) (s : CSt) (v0 : Nat) (hw : wpC_X5_advanceNumber_0 post s v0) : gJ X (cWd G A H0) Q 0 0 s [(0, .ref v0)] 0 [] := by
  refine g_aload_n C.1 0 dX5_advanceNumber_0 rfl rfl ?_
  refine g_iconst (v := 0) C.1 dX5_advanceNumber_1 (by decide) ?_
  refine c_put5 C (τ := csI s 91 v0 0) hw.1 11 (by decide) kC_297 (fun _ h => h) rfl (ty := .int) (by decide +kernel) rfl rfl rfl hw.1.2 rfl (cx_5_11 _ _ _) (fun _ hb => csI_o hb) dX5_advanceNumber_2 ?_
  replace hw := hw.2
  refine gJ.nm (fun s14 es14 => ?_)
  replace hw := hw s14 es14
  exact wkC_X5_advanceNumber_5 C hsz hR hret _ _ hw
theorem hdC_X5_advanceNumber : yX5_advanceNumber.cls = RX5 ∧ yX5_advanceNumber.cls ≠ "java/lang/invoke/MethodHandle" ∧ yX5_advanceNumber.cls ≠ "java/lang/invoke/VarHandle" ∧ (parseMethodDescriptor yX5_advanceNumber.desc).map (fun d => d.parameters.length) = some 0 := by decide +kernel
theorem cC_X5_advanceNumber (l : Launch) (G : cG) (s : CSt) (v0 : Nat) (post : CSt → Prop) (hw : wpC_X5_advanceNumber_0 post s v0) : cMv l yX5_advanceNumber cX5_advanceNumber 1 1 21 0 0 G s [.ref v0] post := cMv_of (by decide +kernel) rfl (Nat.le_of_ble_eq_true rfl) (fun X A H0 Q hl hR hsz hnm C hret => wkC_X5_advanceNumber_0 C hsz hR hret s v0 hw)
def wpC_X5_advance_117 (post : CSt → Prop) (s : CSt) (v0 : Nat) : Prop := cAt s 5 v0 ∧ wpC_X5_kindOfWord_0 (fun r2 s1 => cAt s1 5 v0 ∧ ∀ s3 : CSt, s3 = csI s1 90 v0 r2 → post s3) s v0
def wpC_X5_advance_79_F (post : CSt → Prop) (K79 : CSt → Nat → Prop) (s : CSt) (v0 : Nat) : Prop := cAt s 5 v0 ∧ cAt s 5 v0 ∧ ((cI s 85 v0) ≤ (cI s 88 v0) → wpC_X5_advance_117 post s v0) ∧ (¬ (cI s 85 v0) ≤ (cI s 88 v0) → cAt s 5 v0 ∧ cAt s 5 v0 ∧ wpC_X5_byteAt_0 (fun r6 s5 => wpC_X5_isLetter_0 (fun r8 s7 => (r8 = 0 → wpC_X5_advance_117 post s7 v0) ∧ (¬ r8 = 0 → cAt s7 5 v0 ∧ cAt s7 5 v0 ∧ ∀ s10 : CSt, s10 = csI s7 88 v0 ((cI s7 88 v0) + 1) → K79 s10 v0)) s5 r6) s v0 (cI s 88 v0))
def wpC_X5_advance_79 (post : CSt → Prop) (s : CSt) (v0 : Nat) : Prop := gLP (fun (K : CSt × Nat → Prop) (x : CSt × Nat) => wpC_X5_advance_79_F post (fun s v0 => K (s, v0)) x.1 x.2) (s, v0)
def wpC_X5_advance_37 (post : CSt → Prop) (s : CSt) (v0 : Nat) : Prop := cAt s 5 v0 ∧ cAt s 5 v0 ∧ ∀ s11 : CSt, s11 = csI s 89 v0 (cI s 88 v0) → cAt s11 5 v0 ∧ cAt s11 5 v0 ∧ ((cI s11 88 v0) < (cI s11 85 v0) → cAt s11 5 v0 ∧ cAt s11 5 v0 ∧ wpC_X5_byteAt_0 (fun r14 s13 => wpC_X5_isLetter_0 (fun r16 s15 => (r16 = 0 → cAt s15 5 v0 ∧ cAt s15 5 v0 ∧ wpC_X5_byteAt_0 (fun r19 s18 => wpC_X5_isDigit_0 (fun r21 s20 => (r21 = 0 → cAt s20 5 v0 ∧ cAt s20 5 v0 ∧ wpC_X5_byteAt_0 (fun r24 s23 => wpC_X5_kindOfSign_0 (fun r26 s25 => cAt s25 5 v0 ∧ ∀ s27 : CSt, s27 = csI s25 90 v0 r26 → cAt s27 5 v0 ∧ cAt s27 5 v0 ∧ ∀ s28 : CSt, s28 = csI s27 88 v0 ((cI s27 88 v0) + 1) → post s28) s23 r24) s20 v0 (cI s20 88 v0)) ∧ (¬ r21 = 0 → cAt s20 5 v0 ∧ wpC_X5_advanceNumber_0 (fun s29 => post s29) s20 v0)) s18 r19) s15 v0 (cI s15 88 v0)) ∧ (¬ r16 = 0 → wpC_X5_advance_79 post s15 v0)) s13 r14) s11 v0 (cI s11 88 v0)) ∧ (¬ (cI s11 88 v0) < (cI s11 85 v0) → cAt s11 5 v0 ∧ ∀ s30 : CSt, s30 = csI s11 90 v0 15 → post s30)
def wpC_X5_advance_0_F (post : CSt → Prop) (K0 : CSt → Nat → Prop) (s : CSt) (v0 : Nat) : Prop := cAt s 5 v0 ∧ cAt s 5 v0 ∧ ((cI s 85 v0) ≤ (cI s 88 v0) → wpC_X5_advance_37 post s v0) ∧ (¬ (cI s 85 v0) ≤ (cI s 88 v0) → cAt s 5 v0 ∧ cAt s 5 v0 ∧ wpC_X5_byteAt_0 (fun r33 s32 => (¬ r33 = 32 → wpC_X5_advance_37 post s32 v0) ∧ (r33 = 32 → cAt s32 5 v0 ∧ cAt s32 5 v0 ∧ ∀ s35 : CSt, s35 = csI s32 88 v0 ((cI s32 88 v0) + 1) → K0 s35 v0)) s v0 (cI s 88 v0))
def wpC_X5_advance_0 (post : CSt → Prop) (s : CSt) (v0 : Nat) : Prop := gLP (fun (K : CSt × Nat → Prop) (x : CSt × Nat) => wpC_X5_advance_0_F post (fun s v0 => K (s, v0)) x.1 x.2) (s, v0)
theorem wkC_X5_advance_117 {X : gT} {G : cG} {A : Nat → Prop} {H0 : Heap} {Q : State → Prop} (C : cC X cX5_advance 1 RX5 G A) (hsz : H0 = (g_s X).heap) (hR : 6 ≤ (g_R X).frames ∧ 127 ≤ (g_R X).locals ∧ 0 ≤ (g_R X).cells ∧ 0 ≤ (g_R X).slots) {post : CSt → Prop} (hret : ∀ (τ : CSt) (lv : List (Nat × Value)) (pc : Nat), post τ → decode cX5_advance pc = .ok (.return_, 1) → gJ X (cWd G A H0) Q 0 0 τ lv pc []) (s : CSt) (v0 : Nat) (hw : wpC_X5_advance_117 post s v0) : gJ X (cWd G A H0) Q 0 0 s [(0, .ref v0)] 117 [] := by
  refine g_aload_n C.1 0 dX5_advance_117 rfl rfl ?_
  refine g_aload_n C.1 0 dX5_advance_118 rfl rfl ?_
  refine c_callVi (vs := []) C hsz (cC_X5_kindOfWord (g_l X) G s _ _ hw.2) kC_256 kC_306 kC_307 kC_308 kC_295 hdC_X5_kindOfWord (c_recv5 C hw.1) ⟨(Nat.le_trans (Nat.le_of_ble_eq_true rfl) hR.1), (Nat.le_trans (Nat.le_of_ble_eq_true rfl) hR.2.1)⟩ ⟨(Nat.le_trans (Nat.le_of_ble_eq_true rfl) hR.2.2.1), (Nat.le_trans (Nat.le_of_ble_eq_true rfl) hR.2.2.2)⟩ dX5_advance_119 rfl (Nat.le_of_ble_eq_true rfl) (fun r2 s1 hw => ?_)
  refine c_put5 C (τ := csI s1 90 v0 r2) hw.1 10 (by decide) kC_299 (fun _ h => h) rfl (ty := .int) (by decide +kernel) rfl rfl rfl hw.1.2 rfl (cx_5_10 _ _ _) (fun _ hb => csI_o hb) dX5_advance_122 ?_
  replace hw := hw.2
  refine gJ.nm (fun s3 es3 => ?_)
  replace hw := hw s3 es3
  refine g_goto (tgt := 174) C.1 dX5_advance_125 (by decide) ?_
  exact hret _ _ _ hw dX5_advance_174
theorem wkC_X5_advance_79_F {X : gT} {G : cG} {A : Nat → Prop} {H0 : Heap} {Q : State → Prop} (C : cC X cX5_advance 1 RX5 G A) (hsz : H0 = (g_s X).heap) (hR : 6 ≤ (g_R X).frames ∧ 127 ≤ (g_R X).locals ∧ 0 ≤ (g_R X).cells ∧ 0 ≤ (g_R X).slots) {post : CSt → Prop} (hret : ∀ (τ : CSt) (lv : List (Nat × Value)) (pc : Nat), post τ → decode cX5_advance pc = .ok (.return_, 1) → gJ X (cWd G A H0) Q 0 0 τ lv pc []) {K79 : CSt → Nat → Prop} (hK79 : ∀ (s : CSt) (v0 : Nat), K79 s v0 → gJ X (cWd G A H0) Q 0 0 s [(0, .ref v0)] 79 []) (s : CSt) (v0 : Nat) (hw : wpC_X5_advance_79_F post K79 s v0) : gJ X (cWd G A H0) Q 0 0 s [(0, .ref v0)] 79 [] := by
  refine g_aload_n C.1 0 dX5_advance_79 rfl rfl ?_
  refine c_get5 C hw.1 8 (by decide) kC_239 (fun _ h => h) rfl dX5_advance_80 ?_
  replace hw := hw.2
  refine g_aload_n C.1 0 dX5_advance_83 rfl rfl ?_
  refine c_get5 C hw.1 5 (by decide) kC_298 (fun _ h => h) rfl dX5_advance_84 ?_
  replace hw := hw.2
  refine g_icmp_ge (tgt := 117) C.1 dX5_advance_87 (by decide) (fun h4 => ?_) (fun h4 => ?_)
  · replace hw := hw.1 h4
    exact wkC_X5_advance_117 C hsz hR hret _ _ hw
  · replace hw := hw.2 h4
    refine g_aload_n C.1 0 dX5_advance_90 rfl rfl ?_
    refine g_aload_n C.1 0 dX5_advance_91 rfl rfl ?_
    refine c_get5 C hw.1 8 (by decide) kC_239 (fun _ h => h) rfl dX5_advance_92 ?_
    replace hw := hw.2
    refine c_callVi (vs := [.int (cI s 88 v0)]) C hsz (cC_X5_byteAt (g_l X) G s _ _ _ hw.2) kC_256 kC_253 kC_254 kC_255 kC_237 hdC_X5_byteAt (c_recv5 C hw.1) ⟨(Nat.le_trans (Nat.le_of_ble_eq_true rfl) hR.1), (Nat.le_trans (Nat.le_of_ble_eq_true rfl) hR.2.1)⟩ ⟨(Nat.le_trans (Nat.le_of_ble_eq_true rfl) hR.2.2.1), (Nat.le_trans (Nat.le_of_ble_eq_true rfl) hR.2.2.2)⟩ dX5_advance_95 rfl (Nat.le_of_ble_eq_true rfl) (fun r6 s5 hw => ?_)
    refine c_callSi (vs := [.int r6]) C hsz (cC_X5_isLetter (g_l X) G s5 _ _ hw) kC_256 kC_304 kC_305 kC_238 hdC_X5_isLetter ⟨(Nat.le_trans (Nat.le_of_ble_eq_true rfl) hR.1), (Nat.le_trans (Nat.le_of_ble_eq_true rfl) hR.2.1)⟩ ⟨(Nat.le_trans (Nat.le_of_ble_eq_true rfl) hR.2.2.1), (Nat.le_trans (Nat.le_of_ble_eq_true rfl) hR.2.2.2)⟩ dX5_advance_98 rfl (Nat.le_of_ble_eq_true rfl) (fun r8 s7 hw => ?_)
    refine g_if_eq (tgt := 117) C.1 dX5_advance_101 (by decide) (fun h9 => ?_) (fun h9 => ?_)
    · replace hw := hw.1 h9
      exact wkC_X5_advance_117 C hsz hR hret _ _ hw
    · replace hw := hw.2 h9
      refine g_aload_n C.1 0 dX5_advance_104 rfl rfl ?_
      refine g_dup C.1 dX5_advance_105 rfl ?_
      refine c_get5 C hw.1 8 (by decide) kC_239 (fun _ h => h) rfl dX5_advance_106 ?_
      replace hw := hw.2
      refine g_iconst (v := 1) C.1 dX5_advance_109 (by decide) ?_
      refine g_iadd C.1 dX5_advance_110 ?_
      refine c_put5 C (τ := csI s7 88 v0 ((cI s7 88 v0) + 1)) hw.1 8 (by decide) kC_239 (fun _ h => h) rfl (ty := .int) (by decide +kernel) rfl rfl rfl hw.1.2 rfl (cx_5_8 _ _ _) (fun _ hb => csI_o hb) dX5_advance_111 ?_
      replace hw := hw.2
      refine gJ.nm (fun s10 es10 => ?_)
      replace hw := hw s10 es10
      refine g_goto (tgt := 79) C.1 dX5_advance_114 (by decide) ?_
      exact hK79 _ _ hw
theorem wkC_X5_advance_79 {X : gT} {G : cG} {A : Nat → Prop} {H0 : Heap} {Q : State → Prop} (C : cC X cX5_advance 1 RX5 G A) (hsz : H0 = (g_s X).heap) (hR : 6 ≤ (g_R X).frames ∧ 127 ≤ (g_R X).locals ∧ 0 ≤ (g_R X).cells ∧ 0 ≤ (g_R X).slots) {post : CSt → Prop} (hret : ∀ (τ : CSt) (lv : List (Nat × Value)) (pc : Nat), post τ → decode cX5_advance pc = .ok (.return_, 1) → gJ X (cWd G A H0) Q 0 0 τ lv pc []) (s : CSt) (v0 : Nat) (hw : wpC_X5_advance_79 post s v0) : gJ X (cWd G A H0) Q 0 0 s [(0, .ref v0)] 79 [] := 
  hw (fun (x : CSt × Nat) => (fun s v0 => gJ X (cWd G A H0) Q 0 0 s [(0, .ref v0)] 79 []) x.1 x.2) (fun x hx => wkC_X5_advance_79_F C hsz hR hret (K79 := (fun s v0 => gJ X (cWd G A H0) Q 0 0 s [(0, .ref v0)] 79 [])) (fun _ _ h => h) x.1 x.2 hx)
theorem wkC_X5_advance_37 {X : gT} {G : cG} {A : Nat → Prop} {H0 : Heap} {Q : State → Prop} (C : cC X cX5_advance 1 RX5 G A) (hsz : H0 = (g_s X).heap) (hR : 6 ≤ (g_R X).frames ∧ 127 ≤ (g_R X).locals ∧ 0 ≤ (g_R X).cells ∧ 0 ≤ (g_R X).slots) {post : CSt → Prop} (hret : ∀ (τ : CSt) (lv : List (Nat × Value)) (pc : Nat), post τ → decode cX5_advance pc = .ok (.return_, 1) → gJ X (cWd G A H0) Q 0 0 τ lv pc []) (s : CSt) (v0 : Nat) (hw : wpC_X5_advance_37 post s v0) : gJ X (cWd G A H0) Q 0 0 s [(0, .ref v0)] 37 [] := by
  refine g_aload_n C.1 0 dX5_advance_37 rfl rfl ?_
  refine g_aload_n C.1 0 dX5_advance_38 rfl rfl ?_
  refine c_get5 C hw.1 8 (by decide) kC_239 (fun _ h => h) rfl dX5_advance_39 ?_
  replace hw := hw.2
  refine c_put5 C (τ := csI s 89 v0 (cI s 88 v0)) hw.1 9 (by decide) kC_240 (fun _ h => h) rfl (ty := .int) (by decide +kernel) rfl rfl rfl hw.1.2 rfl (cx_5_9 _ _ _) (fun _ hb => csI_o hb) dX5_advance_42 ?_
  replace hw := hw.2
  refine gJ.nm (fun s11 es11 => ?_)
  replace hw := hw s11 es11
  refine g_aload_n C.1 0 dX5_advance_45 rfl rfl ?_
  refine c_get5 C hw.1 8 (by decide) kC_239 (fun _ h => h) rfl dX5_advance_46 ?_
  replace hw := hw.2
  refine g_aload_n C.1 0 dX5_advance_49 rfl rfl ?_
  refine c_get5 C hw.1 5 (by decide) kC_298 (fun _ h => h) rfl dX5_advance_50 ?_
  replace hw := hw.2
  refine g_icmp_lt (tgt := 65) C.1 dX5_advance_53 (by decide) (fun h12 => ?_) (fun h12 => ?_)
  · replace hw := hw.1 h12
    refine g_aload_n C.1 0 dX5_advance_65 rfl rfl ?_
    refine g_aload_n C.1 0 dX5_advance_66 rfl rfl ?_
    refine c_get5 C hw.1 8 (by decide) kC_239 (fun _ h => h) rfl dX5_advance_67 ?_
    replace hw := hw.2
    refine c_callVi (vs := [.int (cI s11 88 v0)]) C hsz (cC_X5_byteAt (g_l X) G s11 _ _ _ hw.2) kC_256 kC_253 kC_254 kC_255 kC_237 hdC_X5_byteAt (c_recv5 C hw.1) ⟨(Nat.le_trans (Nat.le_of_ble_eq_true rfl) hR.1), (Nat.le_trans (Nat.le_of_ble_eq_true rfl) hR.2.1)⟩ ⟨(Nat.le_trans (Nat.le_of_ble_eq_true rfl) hR.2.2.1), (Nat.le_trans (Nat.le_of_ble_eq_true rfl) hR.2.2.2)⟩ dX5_advance_70 rfl (Nat.le_of_ble_eq_true rfl) (fun r14 s13 hw => ?_)
    refine c_callSi (vs := [.int r14]) C hsz (cC_X5_isLetter (g_l X) G s13 _ _ hw) kC_256 kC_304 kC_305 kC_238 hdC_X5_isLetter ⟨(Nat.le_trans (Nat.le_of_ble_eq_true rfl) hR.1), (Nat.le_trans (Nat.le_of_ble_eq_true rfl) hR.2.1)⟩ ⟨(Nat.le_trans (Nat.le_of_ble_eq_true rfl) hR.2.2.1), (Nat.le_trans (Nat.le_of_ble_eq_true rfl) hR.2.2.2)⟩ dX5_advance_73 rfl (Nat.le_of_ble_eq_true rfl) (fun r16 s15 hw => ?_)
    refine g_if_eq (tgt := 128) C.1 dX5_advance_76 (by decide) (fun h17 => ?_) (fun h17 => ?_)
    · replace hw := hw.1 h17
      refine g_aload_n C.1 0 dX5_advance_128 rfl rfl ?_
      refine g_aload_n C.1 0 dX5_advance_129 rfl rfl ?_
      refine c_get5 C hw.1 8 (by decide) kC_239 (fun _ h => h) rfl dX5_advance_130 ?_
      replace hw := hw.2
      refine c_callVi (vs := [.int (cI s15 88 v0)]) C hsz (cC_X5_byteAt (g_l X) G s15 _ _ _ hw.2) kC_256 kC_253 kC_254 kC_255 kC_237 hdC_X5_byteAt (c_recv5 C hw.1) ⟨(Nat.le_trans (Nat.le_of_ble_eq_true rfl) hR.1), (Nat.le_trans (Nat.le_of_ble_eq_true rfl) hR.2.1)⟩ ⟨(Nat.le_trans (Nat.le_of_ble_eq_true rfl) hR.2.2.1), (Nat.le_trans (Nat.le_of_ble_eq_true rfl) hR.2.2.2)⟩ dX5_advance_133 rfl (Nat.le_of_ble_eq_true rfl) (fun r19 s18 hw => ?_)
      refine c_callSi (vs := [.int r19]) C hsz (cC_X5_isDigit (g_l X) G s18 _ _ hw) kC_256 kC_300 kC_301 kC_296 hdC_X5_isDigit ⟨(Nat.le_trans (Nat.le_of_ble_eq_true rfl) hR.1), (Nat.le_trans (Nat.le_of_ble_eq_true rfl) hR.2.1)⟩ ⟨(Nat.le_trans (Nat.le_of_ble_eq_true rfl) hR.2.2.1), (Nat.le_trans (Nat.le_of_ble_eq_true rfl) hR.2.2.2)⟩ dX5_advance_136 rfl (Nat.le_of_ble_eq_true rfl) (fun r21 s20 hw => ?_)
      refine g_if_eq (tgt := 149) C.1 dX5_advance_139 (by decide) (fun h22 => ?_) (fun h22 => ?_)
      · replace hw := hw.1 h22
        refine g_aload_n C.1 0 dX5_advance_149 rfl rfl ?_
        refine g_aload_n C.1 0 dX5_advance_150 rfl rfl ?_
        refine g_aload_n C.1 0 dX5_advance_151 rfl rfl ?_
        refine c_get5 C hw.1 8 (by decide) kC_239 (fun _ h => h) rfl dX5_advance_152 ?_
        replace hw := hw.2
        refine c_callVi (vs := [.int (cI s20 88 v0)]) C hsz (cC_X5_byteAt (g_l X) G s20 _ _ _ hw.2) kC_256 kC_253 kC_254 kC_255 kC_237 hdC_X5_byteAt (c_recv5 C hw.1) ⟨(Nat.le_trans (Nat.le_of_ble_eq_true rfl) hR.1), (Nat.le_trans (Nat.le_of_ble_eq_true rfl) hR.2.1)⟩ ⟨(Nat.le_trans (Nat.le_of_ble_eq_true rfl) hR.2.2.1), (Nat.le_trans (Nat.le_of_ble_eq_true rfl) hR.2.2.2)⟩ dX5_advance_155 rfl (Nat.le_of_ble_eq_true rfl) (fun r24 s23 hw => ?_)
        refine c_callSi (vs := [.int r24]) C hsz (cC_X5_kindOfSign (g_l X) G s23 _ _ hw) kC_256 kC_312 kC_313 kC_303 hdC_X5_kindOfSign ⟨(Nat.le_trans (Nat.le_of_ble_eq_true rfl) hR.1), (Nat.le_trans (Nat.le_of_ble_eq_true rfl) hR.2.1)⟩ ⟨(Nat.le_trans (Nat.le_of_ble_eq_true rfl) hR.2.2.1), (Nat.le_trans (Nat.le_of_ble_eq_true rfl) hR.2.2.2)⟩ dX5_advance_158 rfl (Nat.le_of_ble_eq_true rfl) (fun r26 s25 hw => ?_)
        refine c_put5 C (τ := csI s25 90 v0 r26) hw.1 10 (by decide) kC_299 (fun _ h => h) rfl (ty := .int) (by decide +kernel) rfl rfl rfl hw.1.2 rfl (cx_5_10 _ _ _) (fun _ hb => csI_o hb) dX5_advance_161 ?_
        replace hw := hw.2
        refine gJ.nm (fun s27 es27 => ?_)
        replace hw := hw s27 es27
        refine g_aload_n C.1 0 dX5_advance_164 rfl rfl ?_
        refine g_dup C.1 dX5_advance_165 rfl ?_
        refine c_get5 C hw.1 8 (by decide) kC_239 (fun _ h => h) rfl dX5_advance_166 ?_
        replace hw := hw.2
        refine g_iconst (v := 1) C.1 dX5_advance_169 (by decide) ?_
        refine g_iadd C.1 dX5_advance_170 ?_
        refine c_put5 C (τ := csI s27 88 v0 ((cI s27 88 v0) + 1)) hw.1 8 (by decide) kC_239 (fun _ h => h) rfl (ty := .int) (by decide +kernel) rfl rfl rfl hw.1.2 rfl (cx_5_8 _ _ _) (fun _ hb => csI_o hb) dX5_advance_171 ?_
        replace hw := hw.2
        refine gJ.nm (fun s28 es28 => ?_)
        replace hw := hw s28 es28
        exact hret _ _ _ hw dX5_advance_174
      · replace hw := hw.2 h22
        refine g_aload_n C.1 0 dX5_advance_142 rfl rfl ?_
        refine c_callVv (vs := []) C hsz (cC_X5_advanceNumber (g_l X) G s20 _ _ hw.2) kC_256 kC_309 kC_310 kC_311 kC_302 hdC_X5_advanceNumber (c_recv5 C hw.1) ⟨(Nat.le_trans (Nat.le_of_ble_eq_true rfl) hR.1), (Nat.le_trans (Nat.le_of_ble_eq_true rfl) hR.2.1)⟩ ⟨(Nat.le_trans (Nat.le_of_ble_eq_true rfl) hR.2.2.1), (Nat.le_trans (Nat.le_of_ble_eq_true rfl) hR.2.2.2)⟩ dX5_advance_143 rfl (Nat.le_of_ble_eq_true rfl) (fun s29 hw => ?_)
        refine g_goto (tgt := 174) C.1 dX5_advance_146 (by decide) ?_
        exact hret _ _ _ hw dX5_advance_174
    · replace hw := hw.2 h17
      exact wkC_X5_advance_79 C hsz hR hret _ _ hw
  · replace hw := hw.2 h12
    refine g_aload_n C.1 0 dX5_advance_56 rfl rfl ?_
    refine g_bipush (v := 15) C.1 dX5_advance_57 (by decide) ?_
    refine c_put5 C (τ := csI s11 90 v0 15) hw.1 10 (by decide) kC_299 (fun _ h => h) rfl (ty := .int) (by decide +kernel) rfl rfl rfl hw.1.2 rfl (cx_5_10 _ _ _) (fun _ hb => csI_o hb) dX5_advance_59 ?_
    replace hw := hw.2
    refine gJ.nm (fun s30 es30 => ?_)
    replace hw := hw s30 es30
    refine g_goto (tgt := 174) C.1 dX5_advance_62 (by decide) ?_
    exact hret _ _ _ hw dX5_advance_174
theorem wkC_X5_advance_0_F {X : gT} {G : cG} {A : Nat → Prop} {H0 : Heap} {Q : State → Prop} (C : cC X cX5_advance 1 RX5 G A) (hsz : H0 = (g_s X).heap) (hR : 6 ≤ (g_R X).frames ∧ 127 ≤ (g_R X).locals ∧ 0 ≤ (g_R X).cells ∧ 0 ≤ (g_R X).slots) {post : CSt → Prop} (hret : ∀ (τ : CSt) (lv : List (Nat × Value)) (pc : Nat), post τ → decode cX5_advance pc = .ok (.return_, 1) → gJ X (cWd G A H0) Q 0 0 τ lv pc []) {K0 : CSt → Nat → Prop} (hK0 : ∀ (s : CSt) (v0 : Nat), K0 s v0 → gJ X (cWd G A H0) Q 0 0 s [(0, .ref v0)] 0 []) (s : CSt) (v0 : Nat) (hw : wpC_X5_advance_0_F post K0 s v0) : gJ X (cWd G A H0) Q 0 0 s [(0, .ref v0)] 0 [] := by
  refine g_aload_n C.1 0 dX5_advance_0 rfl rfl ?_
  refine c_get5 C hw.1 8 (by decide) kC_239 (fun _ h => h) rfl dX5_advance_1 ?_
  replace hw := hw.2
  refine g_aload_n C.1 0 dX5_advance_4 rfl rfl ?_
  refine c_get5 C hw.1 5 (by decide) kC_298 (fun _ h => h) rfl dX5_advance_5 ?_
  replace hw := hw.2
  refine g_icmp_ge (tgt := 37) C.1 dX5_advance_8 (by decide) (fun h31 => ?_) (fun h31 => ?_)
  · replace hw := hw.1 h31
    exact wkC_X5_advance_37 C hsz hR hret _ _ hw
  · replace hw := hw.2 h31
    refine g_aload_n C.1 0 dX5_advance_11 rfl rfl ?_
    refine g_aload_n C.1 0 dX5_advance_12 rfl rfl ?_
    refine c_get5 C hw.1 8 (by decide) kC_239 (fun _ h => h) rfl dX5_advance_13 ?_
    replace hw := hw.2
    refine c_callVi (vs := [.int (cI s 88 v0)]) C hsz (cC_X5_byteAt (g_l X) G s _ _ _ hw.2) kC_256 kC_253 kC_254 kC_255 kC_237 hdC_X5_byteAt (c_recv5 C hw.1) ⟨(Nat.le_trans (Nat.le_of_ble_eq_true rfl) hR.1), (Nat.le_trans (Nat.le_of_ble_eq_true rfl) hR.2.1)⟩ ⟨(Nat.le_trans (Nat.le_of_ble_eq_true rfl) hR.2.2.1), (Nat.le_trans (Nat.le_of_ble_eq_true rfl) hR.2.2.2)⟩ dX5_advance_16 rfl (Nat.le_of_ble_eq_true rfl) (fun r33 s32 hw => ?_)
    refine g_bipush (v := 32) C.1 dX5_advance_19 (by decide) ?_
    refine g_icmp_ne (tgt := 37) C.1 dX5_advance_21 (by decide) (fun h34 => ?_) (fun h34 => ?_)
    · replace hw := hw.1 h34
      exact wkC_X5_advance_37 C hsz hR hret _ _ hw
    · replace hw := hw.2 h34
      refine g_aload_n C.1 0 dX5_advance_24 rfl rfl ?_
      refine g_dup C.1 dX5_advance_25 rfl ?_
      refine c_get5 C hw.1 8 (by decide) kC_239 (fun _ h => h) rfl dX5_advance_26 ?_
      replace hw := hw.2
      refine g_iconst (v := 1) C.1 dX5_advance_29 (by decide) ?_
      refine g_iadd C.1 dX5_advance_30 ?_
      refine c_put5 C (τ := csI s32 88 v0 ((cI s32 88 v0) + 1)) hw.1 8 (by decide) kC_239 (fun _ h => h) rfl (ty := .int) (by decide +kernel) rfl rfl rfl hw.1.2 rfl (cx_5_8 _ _ _) (fun _ hb => csI_o hb) dX5_advance_31 ?_
      replace hw := hw.2
      refine gJ.nm (fun s35 es35 => ?_)
      replace hw := hw s35 es35
      refine g_goto (tgt := 0) C.1 dX5_advance_34 (by decide) ?_
      exact hK0 _ _ hw
theorem wkC_X5_advance_0 {X : gT} {G : cG} {A : Nat → Prop} {H0 : Heap} {Q : State → Prop} (C : cC X cX5_advance 1 RX5 G A) (hsz : H0 = (g_s X).heap) (hR : 6 ≤ (g_R X).frames ∧ 127 ≤ (g_R X).locals ∧ 0 ≤ (g_R X).cells ∧ 0 ≤ (g_R X).slots) {post : CSt → Prop} (hret : ∀ (τ : CSt) (lv : List (Nat × Value)) (pc : Nat), post τ → decode cX5_advance pc = .ok (.return_, 1) → gJ X (cWd G A H0) Q 0 0 τ lv pc []) (s : CSt) (v0 : Nat) (hw : wpC_X5_advance_0 post s v0) : gJ X (cWd G A H0) Q 0 0 s [(0, .ref v0)] 0 [] := 
  hw (fun (x : CSt × Nat) => (fun s v0 => gJ X (cWd G A H0) Q 0 0 s [(0, .ref v0)] 0 []) x.1 x.2) (fun x hx => wkC_X5_advance_0_F C hsz hR hret (K0 := (fun s v0 => gJ X (cWd G A H0) Q 0 0 s [(0, .ref v0)] 0 [])) (fun _ _ h => h) x.1 x.2 hx)
theorem hdC_X5_advance : yX5_advance.cls = RX5 ∧ yX5_advance.cls ≠ "java/lang/invoke/MethodHandle" ∧ yX5_advance.cls ≠ "java/lang/invoke/VarHandle" ∧ (parseMethodDescriptor yX5_advance.desc).map (fun d => d.parameters.length) = some 0 := by decide +kernel
theorem cC_X5_advance (l : Launch) (G : cG) (s : CSt) (v0 : Nat) (post : CSt → Prop) (hw : wpC_X5_advance_0 post s v0) : cMv l yX5_advance cX5_advance 1 6 127 0 0 G s [.ref v0] post := cMv_of (by decide +kernel) rfl (Nat.le_of_ble_eq_true rfl) (fun X A H0 Q hl hR hsz hnm C hret => wkC_X5_advance_0 C hsz hR hret s v0 hw)
