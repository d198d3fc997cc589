def wpC_X0_measure_68_F (post : CSt → Prop) (K51 : CSt → Nat → Nat → Int32 → Int32 → Prop) (K68 : CSt → Nat → Nat → Int32 → Int32 → Int32 → Prop) (s : CSt) (v0 : Nat) (v1 : Nat) (v2 : Int32) (v3 : Int32) (v4 : Int32) : Prop := cAt s 0 v1 ∧ wpC_Jx4a65c_size_8abf5_0 (fun r2 s1 => (r2 ≤ v4 → K51 s1 v0 v1 v2 (v3 + 1)) ∧ (¬ r2 ≤ v4 → cAt s1 0 v1 ∧ wpC_Jx4a65c_get_915e3_0 (fun r5 s4 => ∃ a6 : Nat, r5 = some a6 ∧ cAt s4 4 a6 ∧ cAt s4 4 a6 ∧ ∃ a7 : Nat, cR s4 64 a6 = some a7 ∧ wpC_X0_brings_0 (fun r9 s8 => cAt s8 4 a6 ∧ ∃ a10 : Nat, cR s8 65 a6 = some a10 ∧ wpC_X0_brings_0 (fun r12 s11 => K68 s11 v0 v1 ((v2 ||| r9) ||| r12) v3 (v4 + 1)) s8 a6 a10) s4 a6 a7) s1 v1 v4)) s v1
def wpC_X0_measure_68 (post : CSt → Prop) (K51 : CSt → Nat → Nat → Int32 → Int32 → Prop) (s : CSt) (v0 : Nat) (v1 : Nat) (v2 : Int32) (v3 : Int32) (v4 : Int32) : Prop := gLP (fun (K : CSt × Nat × Nat × Int32 × Int32 × Int32 → Prop) (x : CSt × Nat × Nat × Int32 × Int32 × Int32) => wpC_X0_measure_68_F post K51 (fun s v0 v1 v2 v3 v4 => K (s, v0, v1, v2, v3, v4)) x.1 x.2.1 x.2.2.1 x.2.2.2.1 x.2.2.2.2.1 x.2.2.2.2.2) (s, v0, v1, v2, v3, v4)
def wpC_X0_measure_51_F (post : CSt → Prop) (K51 : CSt → Nat → Nat → Int32 → Int32 → Prop) (s : CSt) (v0 : Nat) (v1 : Nat) (v2 : Int32) (v3 : Int32) : Prop := cAt s 0 v0 ∧ wpC_Jx4a65c_size_8abf5_0 (fun r14 s13 => (r14 ≤ v3 → post s13) ∧ (¬ r14 ≤ v3 → (v2 = 0 → post s13) ∧ (¬ v2 = 0 → wpC_X0_measure_68 post K51 s13 v0 v1 0 v3 0))) s v0
def wpC_X0_measure_51 (post : CSt → Prop) (s : CSt) (v0 : Nat) (v1 : Nat) (v2 : Int32) (v3 : Int32) : Prop := gLP (fun (K : CSt × Nat × Nat × Int32 × Int32 → Prop) (x : CSt × Nat × Nat × Int32 × Int32) => wpC_X0_measure_51_F post (fun s v0 v1 v2 v3 => K (s, v0, v1, v2, v3)) x.1 x.2.1 x.2.2.1 x.2.2.2.1 x.2.2.2.2) (s, v0, v1, v2, v3)
def wpC_X0_measure_33 (post : CSt → Prop) (K2 : CSt → Nat → Nat → Int32 → Prop) (s : CSt) (v0 : Nat) (v1 : Nat) (v2 : Int32) (v3 : Nat) (w0 : Nat) (w1 : Int32) : Prop := cAt s 1 w0 ∧ ∀ s17 : CSt, s17 = csI s 22 w0 w1 → cAt s17 1 v3 ∧ ∀ s18 : CSt, s18 = csR s17 23 v3 none → K2 s18 v0 v1 (v2 + 1)
def wpC_X0_measure_2_F (post : CSt → Prop) (K2 : CSt → Nat → Nat → Int32 → Prop) (s : CSt) (v0 : Nat) (v1 : Nat) (v2 : Int32) : Prop := cAt s 0 v0 ∧ wpC_Jx4a65c_size_8abf5_0 (fun r20 s19 => (r20 ≤ v2 → wpC_X0_measure_51 post s19 v0 v1 1 0) ∧ (¬ r20 ≤ v2 → cAt s19 0 v0 ∧ wpC_Jx4a65c_get_915e3_0 (fun r23 s22 => ∃ a24 : Nat, r23 = some a24 ∧ cAt s22 1 a24 ∧ cAt s22 1 a24 ∧ ((cI s22 20 a24) ≤ 0 → wpC_X0_measure_33 post K2 s22 v0 v1 v2 a24 a24 1073741824) ∧ (¬ (cI s22 20 a24) ≤ 0 → wpC_X0_measure_33 post K2 s22 v0 v1 v2 a24 a24 0)) s19 v0 v2)) s v0
def wpC_X0_measure_2 (post : CSt → Prop) (s : CSt) (v0 : Nat) (v1 : Nat) (v2 : Int32) : Prop := gLP (fun (K : CSt × Nat × Nat × Int32 → Prop) (x : CSt × Nat × Nat × Int32) => wpC_X0_measure_2_F post (fun s v0 v1 v2 => K (s, v0, v1, v2)) x.1 x.2.1 x.2.2.1 x.2.2.2) (s, v0, v1, v2)
def wpC_X0_measure_0 (post : CSt → Prop) (s : CSt) (v0 : Nat) (v1 : Nat) : Prop := wpC_X0_measure_2 post s v0 v1 0
theorem wkC_X0_measure_68_F {X : gT} {G : cG} {A : Nat → Prop} {H0 : Heap} {Q : State → Prop} (C : cC X cX0_measure 6 RX0 G A) (hsz : H0 = (g_s X).heap) (hR : 3 ≤ (g_R X).frames ∧ 64 ≤ (g_R X).locals ∧ 0 ≤ (g_R X).cells ∧ 0 ≤ (g_R X).slots) {post : CSt → Prop} (hret : ∀ (τ : CSt) (lv : List (Nat × Value)) (pc : Nat), post τ → decode cX0_measure pc = .ok (.return_, 1) → gJ X (cWd G A H0) Q 0 0 τ lv pc []) {K51 : CSt → Nat → Nat → Int32 → Int32 → Prop} {K68 : CSt → Nat → Nat → Int32 → Int32 → Int32 → Prop} (hK51 : ∀ (s : CSt) (v0 : Nat) (v1 : Nat) (v2 : Int32) (v3 : Int32), K51 s v0 v1 v2 v3 → gJ X (cWd G A H0) Q 0 0 s [(0, .ref v0), (1, .ref v1), (2, .int v2), (3, .int v3)] 51 []) (hK68 : ∀ (s : CSt) (v0 : Nat) (v1 : Nat) (v2 : Int32) (v3 : Int32) (v4 : Int32), K68 s v0 v1 v2 v3 v4 → gJ X (cWd G A H0) Q 0 0 s [(0, .ref v0), (1, .ref v1), (2, .int v2), (3, .int v3), (4, .int v4)] 68 []) (s : CSt) (v0 : Nat) (v1 : Nat) (v2 : Int32) (v3 : Int32) (v4 : Int32) (hw : wpC_X0_measure_68_F post K51 K68 s v0 v1 v2 v3 v4) : gJ X (cWd G A H0) Q 0 0 s [(0, .ref v0), (1, .ref v1), (2, .int v2), (3, .int v3), (4, .int v4)] 68 [] := by
  refine g_iload C.1 4 dX0_measure_68 rfl ?_
  refine g_aload_n C.1 1 dX0_measure_70 rfl rfl ?_
  refine c_callVi (vs := []) C hsz (cC_Jx4a65c_size_8abf5 (g_l X) G s _ _ hw.2) kC_13 kC_10 kC_11 kC_12 kC_14 hdC_Jx4a65c_size_8abf5 (c_recv0 C hw.1) ⟨(Nat.le_trans (Nat.le_of_ble_eq_true rfl) hR.1), (Nat.le_trans (Nat.le_of_ble_eq_true rfl) hR.2.1)⟩ ⟨(Nat.le_trans (Nat.le_of_ble_eq_true rfl) hR.2.2.1), (Nat.le_trans (Nat.le_of_ble_eq_true rfl) hR.2.2.2)⟩ dX0_measure_71 rfl (Nat.le_of_ble_eq_true rfl) (fun r2 s1 hw => ?_)
  refine g_icmp_ge (tgt := 120) C.1 dX0_measure_74 (by decide) (fun h3 => ?_) (fun h3 => ?_)
  · replace hw := hw.1 h3
    refine g_iinc (v := v3 + 1) (lv' := [(3, .int (v3 + 1)), (0, .ref v0), (1, .ref v1), (2, .int v2), (4, .int v4)]) C.1 3 dX0_measure_120 rfl rfl (by decide) rfl ?_
    refine g_goto (tgt := 51) C.1 dX0_measure_123 (by decide) ?_
    refine gJ.sub [1, 2, 3, 0] rfl ?_
    exact hK51 _ _ _ _ _ hw
  · replace hw := hw.2 h3
    refine g_aload_n C.1 1 dX0_measure_77 rfl rfl ?_
    refine g_iload C.1 4 dX0_measure_78 rfl ?_
    refine c_callVq (vs := [.int v4]) C hsz (cC_Jx4a65c_get_915e3 (g_l X) G s1 _ _ _ hw.2) kC_13 kC_16 kC_17 kC_18 kC_19 hdC_Jx4a65c_get_915e3 (c_recv0 C hw.1) ⟨(Nat.le_trans (Nat.le_of_ble_eq_true rfl) hR.1), (Nat.le_trans (Nat.le_of_ble_eq_true rfl) hR.2.1)⟩ ⟨(Nat.le_trans (Nat.le_of_ble_eq_true rfl) hR.2.2.1), (Nat.le_trans (Nat.le_of_ble_eq_true rfl) hR.2.2.2)⟩ dX0_measure_80 rfl (Nat.le_of_ble_eq_true rfl) (fun r5 s4 hw => ?_)
    obtain ⟨a6, ha6, hw⟩ := hw
    rw [ha6]
    refine c_cast4 C hw.1 kC_8 dX0_measure_83 ?_
    replace hw := hw.2
    refine g_astore (lv' := [(5, .ref a6), (0, .ref v0), (1, .ref v1), (2, .int v2), (3, .int v3), (4, .int v4)]) C.1 dX0_measure_86 (by decide) rfl ?_
    refine g_iload_n C.1 3 dX0_measure_88 rfl rfl ?_
    refine g_aload C.1 0 dX0_measure_89 rfl ?_
    refine g_aload C.1 0 dX0_measure_91 rfl ?_
    refine c_get4 C hw.1 0 (by decide) kC_58 (fun _ h => h) rfl dX0_measure_93 ?_
    replace hw := hw.2
    obtain ⟨a7, ha7, hw⟩ := hw
    rw [ha7]
    refine c_callSi (vs := [.ref a6, .ref a7]) C hsz (cC_X0_brings (g_l X) G s4 _ _ _ hw) kC_62 kC_60 kC_61 kC_57 hdC_X0_brings ⟨(Nat.le_trans (Nat.le_of_ble_eq_true rfl) hR.1), (Nat.le_trans (Nat.le_of_ble_eq_true rfl) hR.2.1)⟩ ⟨(Nat.le_trans (Nat.le_of_ble_eq_true rfl) hR.2.2.1), (Nat.le_trans (Nat.le_of_ble_eq_true rfl) hR.2.2.2)⟩ dX0_measure_96 rfl (Nat.le_of_ble_eq_true rfl) (fun r9 s8 hw => ?_)
    refine g_ior C.1 dX0_measure_99 ?_
    refine g_istore_n (lv' := [(2, .int (v2 ||| r9)), (5, .ref a6), (0, .ref v0), (1, .ref v1), (3, .int v3), (4, .int v4)]) C.1 dX0_measure_100 rfl (by decide) rfl ?_
    refine g_iload_n C.1 0 dX0_measure_101 rfl rfl ?_
    refine g_aload C.1 1 dX0_measure_102 rfl ?_
    refine g_aload C.1 1 dX0_measure_104 rfl ?_
    refine c_get4 C hw.1 1 (by decide) kC_59 (fun _ h => h) rfl dX0_measure_106 ?_
    replace hw := hw.2
    obtain ⟨a10, ha10, hw⟩ := hw
    rw [ha10]
    refine c_callSi (vs := [.ref a6, .ref a10]) C hsz (cC_X0_brings (g_l X) G s8 _ _ _ hw) kC_62 kC_60 kC_61 kC_57 hdC_X0_brings ⟨(Nat.le_trans (Nat.le_of_ble_eq_true rfl) hR.1), (Nat.le_trans (Nat.le_of_ble_eq_true rfl) hR.2.1)⟩ ⟨(Nat.le_trans (Nat.le_of_ble_eq_true rfl) hR.2.2.1), (Nat.le_trans (Nat.le_of_ble_eq_true rfl) hR.2.2.2)⟩ dX0_measure_109 rfl (Nat.le_of_ble_eq_true rfl) (fun r12 s11 hw => ?_)
    refine g_ior C.1 dX0_measure_112 ?_
    refine g_istore_n (lv' := [(2, .int ((v2 ||| r9) ||| r12)), (5, .ref a6), (0, .ref v0), (1, .ref v1), (3, .int v3), (4, .int v4)]) C.1 dX0_measure_113 rfl (by decide) rfl ?_
    refine g_iinc (v := v4 + 1) (lv' := [(4, .int (v4 + 1)), (2, .int ((v2 ||| r9) ||| r12)), (5, .ref a6), (0, .ref v0), (1, .ref v1), (3, .int v3)]) C.1 5 dX0_measure_114 rfl rfl (by decide) rfl ?_
    refine g_goto (tgt := 68) C.1 dX0_measure_117 (by decide) ?_
    refine gJ.sub [3, 4, 1, 5, 0] rfl ?_
    exact hK68 _ _ _ _ _ _ hw
theorem wkC_X0_measure_68 {X : gT} {G : cG} {A : Nat → Prop} {H0 : Heap} {Q : State → Prop} (C : cC X cX0_measure 6 RX0 G A) (hsz : H0 = (g_s X).heap) (hR : 3 ≤ (g_R X).frames ∧ 64 ≤ (g_R X).locals ∧ 0 ≤ (g_R X).cells ∧ 0 ≤ (g_R X).slots) {post : CSt → Prop} (hret : ∀ (τ : CSt) (lv : List (Nat × Value)) (pc : Nat), post τ → decode cX0_measure pc = .ok (.return_, 1) → gJ X (cWd G A H0) Q 0 0 τ lv pc []) {K51 : CSt → Nat → Nat → Int32 → Int32 → Prop} (hK51 : ∀ (s : CSt) (v0 : Nat) (v1 : Nat) (v2 : Int32) (v3 : Int32), K51 s v0 v1 v2 v3 → gJ X (cWd G A H0) Q 0 0 s [(0, .ref v0), (1, .ref v1), (2, .int v2), (3, .int v3)] 51 []) (s : CSt) (v0 : Nat) (v1 : Nat) (v2 : Int32) (v3 : Int32) (v4 : Int32) (hw : wpC_X0_measure_68 post K51 s v0 v1 v2 v3 v4) : gJ X (cWd G A H0) Q 0 0 s [(0, .ref v0), (1, .ref v1), (2, .int v2), (3, .int v3), (4, .int v4)] 68 [] := 
  hw (fun (x : CSt × Nat × Nat × Int32 × Int32 × Int32) => (fun s v0 v1 v2 v3 v4 => gJ X (cWd G A H0) Q 0 0 s [(0, .ref v0), (1, .ref v1), (2, .int v2), (3, .int v3), (4, .int v4)] 68 []) x.1 x.2.1 x.2.2.1 x.2.2.2.1 x.2.2.2.2.1 x.2.2.2.2.2) (fun x hx => wkC_X0_measure_68_F C hsz hR hret hK51 (K68 := (fun s v0 v1 v2 v3 v4 => gJ X (cWd G A H0) Q 0 0 s [(0, .ref v0), (1, .ref v1), (2, .int v2), (3, .int v3), (4, .int v4)] 68 [])) (fun _ _ _ _ _ _ h => h) x.1 x.2.1 x.2.2.1 x.2.2.2.1 x.2.2.2.2.1 x.2.2.2.2.2 hx)
theorem wkC_X0_measure_51_F {X : gT} {G : cG} {A : Nat → Prop} {H0 : Heap} {Q : State → Prop} (C : cC X cX0_measure 6 RX0 G A) (hsz : H0 = (g_s X).heap) (hR : 3 ≤ (g_R X).frames ∧ 64 ≤ (g_R X).locals ∧ 0 ≤ (g_R X).cells ∧ 0 ≤ (g_R X).slots) {post : CSt → Prop} (hret : ∀ (τ : CSt) (lv : List (Nat × Value)) (pc : Nat), post τ → decode cX0_measure pc = .ok (.return_, 1) → gJ X (cWd G A H0) Q 0 0 τ lv pc []) {K51 : CSt → Nat → Nat → Int32 → Int32 → Prop} (hK51 : ∀ (s : CSt) (v0 : Nat) (v1 : Nat) (v2 : Int32) (v3 : Int32), K51 s v0 v1 v2 v3 → gJ X (cWd G A H0) Q 0 0 s [(0, .ref v0), (1, .ref v1), (2, .int v2), (3, .int v3)] 51 []) (s : CSt) (v0 : Nat) (v1 : Nat) (v2 : Int32) (v3 : Int32) (hw : wpC_X0_measure_51_F post K51 s v0 v1 v2 v3) : gJ X (cWd G A H0) Q 0 0 s [(0, .ref v0), (1, .ref v1), (2, .int v2), (3, .int v3)] 51 [] := by
  refine g_iload_n C.1 3 dX0_measure_51 rfl rfl ?_
  refine g_aload_n C.1 0 dX0_measure_52 rfl rfl ?_
  refine c_callVi (vs := []) C hsz (cC_Jx4a65c_size_8abf5 (g_l X) G s _ _ hw.2) kC_13 kC_10 kC_11 kC_12 kC_14 hdC_Jx4a65c_size_8abf5 (c_recv0 C hw.1) ⟨(Nat.le_trans (Nat.le_of_ble_eq_true rfl) hR.1), (Nat.le_trans (Nat.le_of_ble_eq_true rfl) hR.2.1)⟩ ⟨(Nat.le_trans (Nat.le_of_ble_eq_true rfl) hR.2.2.1), (Nat.le_trans (Nat.le_of_ble_eq_true rfl) hR.2.2.2)⟩ dX0_measure_53 rfl (Nat.le_of_ble_eq_true rfl) (fun r14 s13 hw => ?_)
  refine g_icmp_ge (tgt := 126) C.1 dX0_measure_56 (by decide) (fun h15 => ?_) (fun h15 => ?_)
  · replace hw := hw.1 h15
    exact hret _ _ _ hw dX0_measure_126
  · replace hw := hw.2 h15
    refine g_iload_n C.1 2 dX0_measure_59 rfl rfl ?_
    refine g_if_eq (tgt := 126) C.1 dX0_measure_60 (by decide) (fun h16 => ?_) (fun h16 => ?_)
    · replace hw := hw.1 h16
      exact hret _ _ _ hw dX0_measure_126
    · replace hw := hw.2 h16
      refine g_iconst (v := 0) C.1 dX0_measure_63 (by decide) ?_
      refine g_istore_n (lv' := [(2, .int 0), (0, .ref v0), (1, .ref v1), (3, .int v3)]) C.1 dX0_measure_64 rfl (by decide) rfl ?_
      refine g_iconst (v := 0) C.1 dX0_measure_65 (by decide) ?_
      refine g_istore (lv' := [(4, .int 0), (2, .int 0), (0, .ref v0), (1, .ref v1), (3, .int v3)]) C.1 dX0_measure_66 (by decide) rfl ?_
      refine gJ.sub [2, 3, 1, 4, 0] rfl ?_
      exact wkC_X0_measure_68 C hsz hR hret hK51 _ _ _ _ _ _ hw
theorem wkC_X0_measure_51 {X : gT} {G : cG} {A : Nat → Prop} {H0 : Heap} {Q : State → Prop} (C : cC X cX0_measure 6 RX0 G A) (hsz : H0 = (g_s X).heap) (hR : 3 ≤ (g_R X).frames ∧ 64 ≤ (g_R X).locals ∧ 0 ≤ (g_R X).cells ∧ 0 ≤ (g_R X).slots) {post : CSt → Prop} (hret : ∀ (τ : CSt) (lv : List (Nat × Value)) (pc : Nat), post τ → decode cX0_measure pc = .ok (.return_, 1) → gJ X (cWd G A H0) Q 0 0 τ lv pc []) (s : CSt) (v0 : Nat) (v1 : Nat) (v2 : Int32) (v3 : Int32) (hw : wpC_X0_measure_51 post s v0 v1 v2 v3) : gJ X (cWd G A H0) Q 0 0 s [(0, .ref v0), (1, .ref v1), (2, .int v2), (3, .int v3)] 51 [] := 
  hw (fun (x : CSt × Nat × Nat × Int32 × Int32) => (fun s v0 v1 v2 v3 => gJ X (cWd G A H0) Q 0 0 s [(0, .ref v0), (1, .ref v1), (2, .int v2), (3, .int v3)] 51 []) x.1 x.2.1 x.2.2.1 x.2.2.2.1 x.2.2.2.2) (fun x hx => wkC_X0_measure_51_F C hsz hR hret (K51 := (fun s v0 v1 v2 v3 => gJ X (cWd G A H0) Q 0 0 s [(0, .ref v0), (1, .ref v1), (2, .int v2), (3, .int v3)] 51 [])) (fun _ _ _ _ _ h => h) x.1 x.2.1 x.2.2.1 x.2.2.2.1 x.2.2.2.2 hx)
theorem wkC_X0_measure_33 {X : gT} {G : cG} {A : Nat → Prop} {H0 : Heap} {Q : State → Prop} (C : cC X cX0_measure 6 RX0 G A) (hsz : H0 = (g_s X).heap) (hR : 3 ≤ (g_R X).frames ∧ 64 ≤ (g_R X).locals ∧ 0 ≤ (g_R X).cells ∧ 0 ≤ (g_R X).slots) {post : CSt → Prop} (hret : ∀ (τ : CSt) (lv : List (Nat × Value)) (pc : Nat), post τ → decode cX0_measure pc = .ok (.return_, 1) → gJ X (cWd G A H0) Q 0 0 τ lv pc []) {K2 : CSt → Nat → Nat → Int32 → Prop} (hK2 : ∀ (s : CSt) (v0 : Nat) (v1 : Nat) (v2 : Int32), K2 s v0 v1 v2 → gJ X (cWd G A H0) Q 0 0 s [(0, .ref v0), (1, .ref v1), (2, .int v2)] 2 []) (s : CSt) (v0 : Nat) (v1 : Nat) (v2 : Int32) (v3 : Nat) (w0 : Nat) (w1 : Int32) (hw : wpC_X0_measure_33 post K2 s v0 v1 v2 v3 w0 w1) : gJ X (cWd G A H0) Q 0 0 s [(0, .ref v0), (1, .ref v1), (2, .int v2), (3, .ref v3)] 33 [.int w1, .ref w0] := by
  refine c_put1 C (τ := csI s 22 w0 w1) hw.1 6 (by decide) kC_41 (fun _ h => h) rfl (ty := .int) (by decide +kernel) rfl rfl rfl hw.1.2 rfl (cx_1_6 _ _ _) (fun _ hb => csI_o hb) dX0_measure_33 ?_
  replace hw := hw.2
  refine gJ.nm (fun s17 es17 => ?_)
  replace hw := hw s17 es17
  refine g_aload_n C.1 3 dX0_measure_36 rfl rfl ?_
  refine g_null C.1 dX0_measure_37 ?_
  refine c_put1 C (τ := csR s17 23 v3 none) hw.1 7 (by decide) kC_44 (fun _ h => h) rfl (ty := .object "SkiHill$Link") (by decide +kernel) rfl rfl rfl hw.1.2 rfl (cx_1_7 _ _ none) (fun _ hb => csR_o hb) dX0_measure_38 ?_
  replace hw := hw.2
  refine gJ.nm (fun s18 es18 => ?_)
  replace hw := hw s18 es18
  refine g_iinc (v := v2 + 1) (lv' := [(2, .int (v2 + 1)), (0, .ref v0), (1, .ref v1), (3, .ref v3)]) C.1 2 dX0_measure_41 rfl rfl (by decide) rfl ?_
  refine g_goto (tgt := 2) C.1 dX0_measure_44 (by decide) ?_
  refine gJ.sub [1, 2, 0] rfl ?_
  exact hK2 _ _ _ _ hw
theorem wkC_X0_measure_2_F {X : gT} {G : cG} {A : Nat → Prop} {H0 : Heap} {Q : State → Prop} (C : cC X cX0_measure 6 RX0 G A) (hsz : H0 = (g_s X).heap) (hR : 3 ≤ (g_R X).frames ∧ 64 ≤ (g_R X).locals ∧ 0 ≤ (g_R X).cells ∧ 0 ≤ (g_R X).slots) {post : CSt → Prop} (hret : ∀ (τ : CSt) (lv : List (Nat × Value)) (pc : Nat), post τ → decode cX0_measure pc = .ok (.return_, 1) → gJ X (cWd G A H0) Q 0 0 τ lv pc []) {K2 : CSt → Nat → Nat → Int32 → Prop} (hK2 : ∀ (s : CSt) (v0 : Nat) (v1 : Nat) (v2 : Int32), K2 s v0 v1 v2 → gJ X (cWd G A H0) Q 0 0 s [(0, .ref v0), (1, .ref v1), (2, .int v2)] 2 []) (s : CSt) (v0 : Nat) (v1 : Nat) (v2 : Int32) (hw : wpC_X0_measure_2_F post K2 s v0 v1 v2) : gJ X (cWd G A H0) Q 0 0 s [(0, .ref v0), (1, .ref v1), (2, .int v2)] 2 [] := by
  refine g_iload_n C.1 2 dX0_measure_2 rfl rfl ?_
  refine g_aload_n C.1 0 dX0_measure_3 rfl rfl ?_
  refine c_callVi (vs := []) C hsz (cC_Jx4a65c_size_8abf5 (g_l X) G s _ _ hw.2) kC_13 kC_10 kC_11 kC_12 kC_14 hdC_Jx4a65c_size_8abf5 (c_recv0 C hw.1) ⟨(Nat.le_trans (Nat.le_of_ble_eq_true rfl) hR.1), (Nat.le_trans (Nat.le_of_ble_eq_true rfl) hR.2.1)⟩ ⟨(Nat.le_trans (Nat.le_of_ble_eq_true rfl) hR.2.2.1), (Nat.le_trans (Nat.le_of_ble_eq_true rfl) hR.2.2.2)⟩ dX0_measure_4 rfl (Nat.le_of_ble_eq_true rfl) (fun r20 s19 hw => ?_)
  refine g_icmp_ge (tgt := 47) C.1 dX0_measure_7 (by decide) (fun h21 => ?_) (fun h21 => ?_)
  · replace hw := hw.1 h21
    refine g_iconst (v := 1) C.1 dX0_measure_47 (by decide) ?_
    refine g_istore_n (lv' := [(2, .int 1), (0, .ref v0), (1, .ref v1)]) C.1 dX0_measure_48 rfl (by decide) rfl ?_
    refine g_iconst (v := 0) C.1 dX0_measure_49 (by decide) ?_
    refine g_istore_n (lv' := [(3, .int 0), (2, .int 1), (0, .ref v0), (1, .ref v1)]) C.1 dX0_measure_50 rfl (by decide) rfl ?_
    refine gJ.sub [2, 3, 1, 0] rfl ?_
    exact wkC_X0_measure_51 C hsz hR hret _ _ _ _ _ hw
  · replace hw := hw.2 h21
    refine g_aload_n C.1 0 dX0_measure_10 rfl rfl ?_
    refine g_iload_n C.1 2 dX0_measure_11 rfl rfl ?_
    refine c_callVq (vs := [.int v2]) C hsz (cC_Jx4a65c_get_915e3 (g_l X) G s19 _ _ _ hw.2) kC_13 kC_16 kC_17 kC_18 kC_19 hdC_Jx4a65c_get_915e3 (c_recv0 C hw.1) ⟨(Nat.le_trans (Nat.le_of_ble_eq_true rfl) hR.1), (Nat.le_trans (Nat.le_of_ble_eq_true rfl) hR.2.1)⟩ ⟨(Nat.le_trans (Nat.le_of_ble_eq_true rfl) hR.2.2.1), (Nat.le_trans (Nat.le_of_ble_eq_true rfl) hR.2.2.2)⟩ dX0_measure_12 rfl (Nat.le_of_ble_eq_true rfl) (fun r23 s22 hw => ?_)
    obtain ⟨a24, ha24, hw⟩ := hw
    rw [ha24]
    refine c_cast1 C hw.1 kC_0 dX0_measure_15 ?_
    replace hw := hw.2
    refine g_astore_n (lv' := [(3, .ref a24), (0, .ref v0), (1, .ref v1), (2, .int v2)]) C.1 dX0_measure_18 rfl (by decide) rfl ?_
    refine g_aload_n C.1 0 dX0_measure_19 rfl rfl ?_
    refine g_aload_n C.1 0 dX0_measure_20 rfl rfl ?_
    refine c_get1 C hw.1 4 (by decide) kC_6 (fun _ h => h) rfl dX0_measure_21 ?_
    replace hw := hw.2
    refine g_if_le (tgt := 31) C.1 dX0_measure_24 (by decide) (fun h25 => ?_) (fun h25 => ?_)
    · replace hw := hw.1 h25
      refine g_ldc (v := 1073741824) C.1 C.2.1 (C.2.2.1 _ kC_42) dX0_measure_31 ?_
      refine gJ.sub [1, 2, 3, 0] rfl ?_
      exact wkC_X0_measure_33 C hsz hR hret hK2 _ _ _ _ _ _ _ hw
    · replace hw := hw.2 h25
      refine g_iconst (v := 0) C.1 dX0_measure_27 (by decide) ?_
      refine g_goto (tgt := 33) C.1 dX0_measure_28 (by decide) ?_
      refine gJ.sub [1, 2, 3, 0] rfl ?_
      exact wkC_X0_measure_33 C hsz hR hret hK2 _ _ _ _ _ _ _ hw
theorem wkC_X0_measure_2 {X : gT} {G : cG} {A : Nat → Prop} {H0 : Heap} {Q : State → Prop} (C : cC X cX0_measure 6 RX0 G A) (hsz : H0 = (g_s X).heap) (hR : 3 ≤ (g_R X).frames ∧ 64 ≤ (g_R X).locals ∧ 0 ≤ (g_R X).cells ∧ 0 ≤ (g_R X).slots) {post : CSt → Prop} (hret : ∀ (τ : CSt) (lv : List (Nat × Value)) (pc : Nat), post τ → decode cX0_measure pc = .ok (.return_, 1) → gJ X (cWd G A H0) Q 0 0 τ lv pc []) (s : CSt) (v0 : Nat) (v1 : Nat) (v2 : Int32) (hw : wpC_X0_measure_2 post s v0 v1 v2) : gJ X (cWd G A H0) Q 0 0 s [(0, .ref v0), (1, .ref v1), (2, .int v2)] 2 [] := 
  hw (fun (x : CSt × Nat × Nat × Int32) => (fun s v0 v1 v2 => gJ X (cWd G A H0) Q 0 0 s [(0, .ref v0), (1, .ref v1), (2, .int v2)] 2 []) x.1 x.2.1 x.2.2.1 x.2.2.2) (fun x hx => wkC_X0_measure_2_F C hsz hR hret (K2 := (fun s v0 v1 v2 => gJ X (cWd G A H0) Q 0 0 s [(0, .ref v0), (1, .ref v1), (2, .int v2)] 2 [])) (fun _ _ _ _ h => h) x.1 x.2.1 x.2.2.1 x.2.2.2 hx)
theorem wkC_X0_measure_0 {X : gT} {G : cG} {A : Nat → Prop} {H0 : Heap} {Q : State → Prop} (C : cC X cX0_measure 6 RX0 G A) (hsz : H0 = (g_s X).heap) (hR : 3 ≤ (g_R X).frames ∧ 64 ≤ (g_R X).locals ∧ 0 ≤ (g_R X).cells ∧ 0 ≤ (g_R X).slots) {post : CSt → Prop} (hret : ∀ (τ : CSt) (lv : List (Nat × Value)) (pc : Nat), post τ → decode cX0_measure pc = .ok (.return_, 1) → gJ X (cWd G A H0) Q 0 0 τ lv pc []) (s : CSt) (v0 : Nat) (v1 : Nat) (hw : wpC_X0_measure_0 post s v0 v1) : gJ X (cWd G A H0) Q 0 0 s [(0, .ref v0), (1, .ref v1)] 0 [] := by
  refine g_iconst (v := 0) C.1 dX0_measure_0 (by decide) ?_
  refine g_istore_n (lv' := [(2, .int 0), (0, .ref v0), (1, .ref v1)]) C.1 dX0_measure_1 rfl (by decide) rfl ?_
  refine gJ.sub [1, 2, 0] rfl ?_
  exact wkC_X0_measure_2 C hsz hR hret _ _ _ _ hw
theorem hdC_X0_measure : yX0_measure.cls = RX0 ∧ yX0_measure.cls ≠ "java/lang/invoke/MethodHandle" ∧ yX0_measure.cls ≠ "java/lang/invoke/VarHandle" ∧ (parseMethodDescriptor yX0_measure.desc).map (fun d => d.parameters.length) = some 2 := by decide +kernel
theorem cC_X0_measure (l : Launch) (G : cG) (s : CSt) (v0 : Nat) (v1 : Nat) (post : CSt → Prop) (hw : wpC_X0_measure_0 post s v0 v1) : cMv l yX0_measure cX0_measure 6 3 64 0 0 G s [.ref v0, .ref v1] post := cMv_of (by decide +kernel) rfl (Nat.le_of_ble_eq_true rfl) (fun X A H0 Q hl hR hsz hnm C hret => wkC_X0_measure_0 C hsz hR hret s v0 v1 hw)
def wpC_X0_nearestMissing_66 (post : Option Nat → CSt → Prop) (K4 : CSt → Nat → Option Nat → Int32 → Prop) (s : CSt) (v0 : Nat) (v1 : Option Nat) (v2 : Int32) : Prop := K4 s v0 v1 (v2 + 1)
def wpC_X0_nearestMissing_64 (post : Option Nat → CSt → Prop) (K4 : CSt → Nat → Option Nat → Int32 → Prop) (s : CSt) (v0 : Nat) (v2 : Int32) (v3 : Nat) : Prop := wpC_X0_nearestMissing_66 post K4 s v0 (some v3) v2
def wpC_X0_nearestMissing_42 (post : Option Nat → CSt → Prop) (K4 : CSt → Nat → Option Nat → Int32 → Prop) (s : CSt) (v0 : Nat) (v1 : Option Nat) (v2 : Int32) (v3 : Nat) (w0 : Int32) : Prop := (w0 = 0 → wpC_X0_nearestMissing_66 post K4 s v0 v1 v2) ∧ (¬ w0 = 0 → (v1 = none → wpC_X0_nearestMissing_64 post K4 s v0 v2 v3) ∧ (∀ a3 : Nat, v1 = some a3 → cAt s 1 v3 ∧ cAt s 1 a3 ∧ ((cI s 22 a3) ≤ (cI s 22 v3) → wpC_X0_nearestMissing_66 post K4 s v0 (some a3) v2) ∧ (¬ (cI s 22 a3) ≤ (cI s 22 v3) → wpC_X0_nearestMissing_64 post K4 s v0 v2 v3)))
def wpC_X0_nearestMissing_41 (post : Option Nat → CSt → Prop) (K4 : CSt → Nat → Option Nat → Int32 → Prop) (s : CSt) (v0 : Nat) (v1 : Option Nat) (v2 : Int32) (v3 : Nat) : Prop := wpC_X0_nearestMissing_42 post K4 s v0 v1 v2 v3 0
def wpC_X0_nearestMissing_4_F (post : Option Nat → CSt → Prop) (K4 : CSt → Nat → Option Nat → Int32 → Prop) (s : CSt) (v0 : Nat) (v1 : Option Nat) (v2 : Int32) : Prop := cAt s 0 v0 ∧ wpC_Jx4a65c_size_8abf5_0 (fun r6 s5 => (r6 ≤ v2 → post v1 s5) ∧ (¬ r6 ≤ v2 → cAt s5 0 v0 ∧ wpC_Jx4a65c_get_915e3_0 (fun r9 s8 => ∃ a10 : Nat, r9 = some a10 ∧ cAt s8 1 a10 ∧ cAt s8 1 a10 ∧ ((cI s8 21 a10) ≤ 0 → wpC_X0_nearestMissing_41 post K4 s8 v0 v1 v2 a10) ∧ (¬ (cI s8 21 a10) ≤ 0 → cAt s8 1 a10 ∧ ((cI s8 22 a10) = 1073741824 → wpC_X0_nearestMissing_41 post K4 s8 v0 v1 v2 a10) ∧ (¬ (cI s8 22 a10) = 1073741824 → wpC_X0_nearestMissing_42 post K4 s8 v0 v1 v2 a10 1))) s5 v0 v2)) s v0
def wpC_X0_nearestMissing_4 (post : Option Nat → CSt → Prop) (s : CSt) (v0 : Nat) (v1 : Option Nat) (v2 : Int32) : Prop := gLP (fun (K : CSt × Nat × Option Nat × Int32 → Prop) (x : CSt × Nat × Option Nat × Int32) => wpC_X0_nearestMissing_4_F post (fun s v0 v1 v2 => K (s, v0, v1, v2)) x.1 x.2.1 x.2.2.1 x.2.2.2) (s, v0, v1, v2)
def wpC_X0_nearestMissing_0 (post : Option Nat → CSt → Prop) (s : CSt) (v0 : Nat) : Prop := wpC_X0_nearestMissing_4 post s v0 none 0
theorem wkC_X0_nearestMissing_66 {X : gT} {G : cG} {A : Nat → Prop} {H0 : Heap} {Q : State → Prop} (C : cC X cX0_nearestMissing 5 RX0 G A) (hsz : H0 = (g_s X).heap) (hR : 3 ≤ (g_R X).frames ∧ 64 ≤ (g_R X).locals ∧ 0 ≤ (g_R X).cells ∧ 0 ≤ (g_R X).slots) {post : Option Nat → CSt → Prop} (hret : ∀ (r : Option Nat) (τ : CSt) (lv : List (Nat × Value)) (pc : Nat), post r τ → decode cX0_nearestMissing pc = .ok (.areturn, 1) → gJ X (cWd G A H0) Q 0 0 τ lv pc [va_rf r]) {K4 : CSt → Nat → Option Nat → Int32 → Prop} (hK4 : ∀ (s : CSt) (v0 : Nat) (v1 : Option Nat) (v2 : Int32), K4 s v0 v1 v2 → gJ X (cWd G A H0) Q 0 0 s [(0, .ref v0), (1, va_rf v1), (2, .int v2)] 4 []) (s : CSt) (v0 : Nat) (v1 : Option Nat) (v2 : Int32) (hw : wpC_X0_nearestMissing_66 post K4 s v0 v1 v2) : gJ X (cWd G A H0) Q 0 0 s [(0, .ref v0), (1, va_rf v1), (2, .int v2)] 66 [] := by
  refine g_iinc (v := v2 + 1) (lv' := [(2, .int (v2 + 1)), (0, .ref v0), (1, va_rf v1)]) C.1 2 dX0_nearestMissing_66 rfl rfl (by decide) (by simp [va_rf_cat]) ?_
  refine g_goto (tgt := 4) C.1 dX0_nearestMissing_69 (by decide) ?_
  refine gJ.sub [1, 2, 0] rfl ?_
  exact hK4 _ _ _ _ hw
theorem wkC_X0_nearestMissing_64 {X : gT} {G : cG} {A : Nat → Prop} {H0 : Heap} {Q : State → Prop} (C : cC X cX0_nearestMissing 5 RX0 G A) (hsz : H0 = (g_s X).heap) (hR : 3 ≤ (g_R X).frames ∧ 64 ≤ (g_R X).locals ∧ 0 ≤ (g_R X).cells ∧ 0 ≤ (g_R X).slots) {post : Option Nat → CSt → Prop} (hret : ∀ (r : Option Nat) (τ : CSt) (lv : List (Nat × Value)) (pc : Nat), post r τ → decode cX0_nearestMissing pc = .ok (.areturn, 1) → gJ X (cWd G A H0) Q 0 0 τ lv pc [va_rf r]) {K4 : CSt → Nat → Option Nat → Int32 → Prop} (hK4 : ∀ (s : CSt) (v0 : Nat) (v1 : Option Nat) (v2 : Int32), K4 s v0 v1 v2 → gJ X (cWd G A H0) Q 0 0 s [(0, .ref v0), (1, va_rf v1), (2, .int v2)] 4 []) (s : CSt) (v0 : Nat) (v2 : Int32) (v3 : Nat) (hw : wpC_X0_nearestMissing_64 post K4 s v0 v2 v3) : gJ X (cWd G A H0) Q 0 0 s [(0, .ref v0), (2, .int v2), (3, .ref v3)] 64 [] := by
  refine g_aload_n C.1 2 dX0_nearestMissing_64 rfl rfl ?_
  refine g_astore_n (lv' := [(1, .ref v3), (0, .ref v0), (2, .int v2), (3, .ref v3)]) C.1 dX0_nearestMissing_65 rfl (by decide) rfl ?_
  refine gJ.sub [1, 0, 2] rfl ?_
  exact wkC_X0_nearestMissing_66 C hsz hR hret hK4 _ _ _ _ hw
theorem wkC_X0_nearestMissing_42 {X : gT} {G : cG} {A : Nat → Prop} {H0 : Heap} {Q : State → Prop} (C : cC X cX0_nearestMissing 5 RX0 G A) (hsz : H0 = (g_s X).heap) (hR : 3 ≤ (g_R X).frames ∧ 64 ≤ (g_R X).locals ∧ 0 ≤ (g_R X).cells ∧ 0 ≤ (g_R X).slots) {post : Option Nat → CSt → Prop} (hret : ∀ (r : Option Nat) (τ : CSt) (lv : List (Nat × Value)) (pc : Nat), post r τ → decode cX0_nearestMissing pc = .ok (.areturn, 1) → gJ X (cWd G A H0) Q 0 0 τ lv pc [va_rf r]) {K4 : CSt → Nat → Option Nat → Int32 → Prop} (hK4 : ∀ (s : CSt) (v0 : Nat) (v1 : Option Nat) (v2 : Int32), K4 s v0 v1 v2 → gJ X (cWd G A H0) Q 0 0 s [(0, .ref v0), (1, va_rf v1), (2, .int v2)] 4 []) (s : CSt) (v0 : Nat) (v1 : Option Nat) (v2 : Int32) (v3 : Nat) (w0 : Int32) (hw : wpC_X0_nearestMissing_42 post K4 s v0 v1 v2 v3 w0) : gJ X (cWd G A H0) Q 0 0 s [(0, .ref v0), (1, va_rf v1), (2, .int v2), (3, .ref v3)] 42 [.int w0] := by
  refine g_istore (lv' := [(4, .int w0), (0, .ref v0), (1, va_rf v1), (2, .int v2), (3, .ref v3)]) C.1 dX0_nearestMissing_42 (by decide) rfl ?_
  refine g_iload C.1 0 dX0_nearestMissing_44 rfl ?_
  refine g_if_eq (tgt := 66) C.1 dX0_nearestMissing_46 (by decide) (fun h1 => ?_) (fun h1 => ?_)
  · replace hw := hw.1 h1
    refine gJ.sub [1, 2, 3] rfl ?_
    exact wkC_X0_nearestMissing_66 C hsz hR hret hK4 _ _ _ _ hw
  · replace hw := hw.2 h1
    refine g_qload_n C.1 2 dX0_nearestMissing_49 rfl rfl ?_
    refine g_ifnull (tgt := 64) C.1 dX0_nearestMissing_50 (by decide) (fun h2 => ?_) (fun a3 h2 => ?_)
    · replace hw := hw.1 h2
      refine gJ.sub [1, 3, 4] rfl ?_
      exact wkC_X0_nearestMissing_64 C hsz hR hret hK4 _ _ _ _ hw
    · replace hw := hw.2 a3 h2
      rw [h2]
      refine g_aload_n C.1 4 dX0_nearestMissing_53 rfl rfl ?_
      refine c_get1 C hw.1 6 (by decide) kC_41 (fun _ h => h) rfl dX0_nearestMissing_54 ?_
      replace hw := hw.2
      refine g_aload_n C.1 2 dX0_nearestMissing_57 rfl rfl ?_
      refine c_get1 C hw.1 6 (by decide) kC_41 (fun _ h => h) rfl dX0_nearestMissing_58 ?_
      replace hw := hw.2
      refine g_icmp_ge (tgt := 66) C.1 dX0_nearestMissing_61 (by decide) (fun h4 => ?_) (fun h4 => ?_)
      · replace hw := hw.1 h4
        refine gJ.sub [1, 2, 3] rfl ?_
        exact wkC_X0_nearestMissing_66 C hsz hR hret hK4 _ _ _ _ hw
      · replace hw := hw.2 h4
        refine gJ.sub [1, 3, 4] rfl ?_
        exact wkC_X0_nearestMissing_64 C hsz hR hret hK4 _ _ _ _ hw
theorem wkC_X0_nearestMissing_41 {X : gT} {G : cG} {A : Nat → Prop} {H0 : Heap} {Q : State → Prop} (C : cC X cX0_nearestMissing 5 RX0 G A) (hsz : H0 = (g_s X).heap) (hR : 3 ≤ (g_R X).frames ∧ 64 ≤ (g_R X).locals ∧ 0 ≤ (g_R X).cells ∧ 0 ≤ (g_R X).slots) {post : Option Nat → CSt → Prop} (hret : ∀ (r : Option Nat) (τ : CSt) (lv : List (Nat × Value)) (pc : Nat), post r τ → decode cX0_nearestMissing pc = .ok (.areturn, 1) → gJ X (cWd G A H0) Q 0 0 τ lv pc [va_rf r]) {K4 : CSt → Nat → Option Nat → Int32 → Prop} (hK4 : ∀ (s : CSt) (v0 : Nat) (v1 : Option Nat) (v2 : Int32), K4 s v0 v1 v2 → gJ X (cWd G A H0) Q 0 0 s [(0, .ref v0), (1, va_rf v1), (2, .int v2)] 4 []) (s : CSt) (v0 : Nat) (v1 : Option Nat) (v2 : Int32) (v3 : Nat) (hw : wpC_X0_nearestMissing_41 post K4 s v0 v1 v2 v3) : gJ X (cWd G A H0) Q 0 0 s [(0, .ref v0), (1, va_rf v1), (2, .int v2), (3, .ref v3)] 41 [] := by
  refine g_iconst (v := 0) C.1 dX0_nearestMissing_41 (by decide) ?_
  exact wkC_X0_nearestMissing_42 C hsz hR hret hK4 _ _ _ _ _ _ hw
theorem wkC_X0_nearestMissing_4_F {X : gT} {G : cG} {A : Nat → Prop} {H0 : Heap} {Q : State → Prop} (C : cC X cX0_nearestMissing 5 RX0 G A) (hsz : H0 = (g_s X).heap) (hR : 3 ≤ (g_R X).frames ∧ 64 ≤ (g_R X).locals ∧ 0 ≤ (g_R X).cells ∧ 0 ≤ (g_R X).slots) {post : Option Nat → CSt → Prop} (hret : ∀ (r : Option Nat) (τ : CSt) (lv : List (Nat × Value)) (pc : Nat), post r τ → decode cX0_nearestMissing pc = .ok (.areturn, 1) → gJ X (cWd G A H0) Q 0 0 τ lv pc [va_rf r]) {K4 : CSt → Nat → Option Nat → Int32 → Prop} (hK4 : ∀ (s : CSt) (v0 : Nat) (v1 : Option Nat) (v2 : Int32), K4 s v0 v1 v2 → gJ X (cWd G A H0) Q 0 0 s [(0, .ref v0), (1, va_rf v1), (2, .int v2)] 4 []) (s : CSt) (v0 : Nat) (v1 : Option Nat) (v2 : Int32) (hw : wpC_X0_nearestMissing_4_F post K4 s v0 v1 v2) : gJ X (cWd G A H0) Q 0 0 s [(0, .ref v0), (1, va_rf v1), (2, .int v2)] 4 [] := by
  refine g_iload_n C.1 2 dX0_nearestMissing_4 rfl rfl ?_
  refine g_aload_n C.1 0 dX0_nearestMissing_5 rfl rfl ?_
  refine c_callVi (vs := []) C hsz (cC_Jx4a65c_size_8abf5 (g_l X) G s _ _ hw.2) kC_13 kC_10 kC_11 kC_12 kC_14 hdC_Jx4a65c_size_8abf5 (c_recv0 C hw.1) ⟨(Nat.le_trans (Nat.le_of_ble_eq_true rfl) hR.1), (Nat.le_trans (Nat.le_of_ble_eq_true rfl) hR.2.1)⟩ ⟨(Nat.le_trans (Nat.le_of_ble_eq_true rfl) hR.2.2.1), (Nat.le_trans (Nat.le_of_ble_eq_true rfl) hR.2.2.2)⟩ dX0_nearestMissing_6 rfl (Nat.le_of_ble_eq_true rfl) (fun r6 s5 hw => ?_)
  refine g_icmp_ge (tgt := 72) C.1 dX0_nearestMissing_9 (by decide) (fun h7 => ?_) (fun h7 => ?_)
  · replace hw := hw.1 h7
    refine g_qload_n C.1 1 dX0_nearestMissing_72 rfl rfl ?_
    exact hret v1 _ _ _ hw dX0_nearestMissing_73
  · replace hw := hw.2 h7
    refine g_aload_n C.1 0 dX0_nearestMissing_12 rfl rfl ?_
    refine g_iload_n C.1 2 dX0_nearestMissing_13 rfl rfl ?_
    refine c_callVq (vs := [.int v2]) C hsz (cC_Jx4a65c_get_915e3 (g_l X) G s5 _ _ _ hw.2) kC_13 kC_16 kC_17 kC_18 kC_19 hdC_Jx4a65c_get_915e3 (c_recv0 C hw.1) ⟨(Nat.le_trans (Nat.le_of_ble_eq_true rfl) hR.1), (Nat.le_trans (Nat.le_of_ble_eq_true rfl) hR.2.1)⟩ ⟨(Nat.le_trans (Nat.le_of_ble_eq_true rfl) hR.2.2.1), (Nat.le_trans (Nat.le_of_ble_eq_true rfl) hR.2.2.2)⟩ dX0_nearestMissing_14 rfl (Nat.le_of_ble_eq_true rfl) (fun r9 s8 hw => ?_)
    obtain ⟨a10, ha10, hw⟩ := hw
    rw [ha10]
    refine c_cast1 C hw.1 kC_0 dX0_nearestMissing_17 ?_
    replace hw := hw.2
    refine g_astore_n (lv' := [(3, .ref a10), (0, .ref v0), (1, va_rf v1), (2, .int v2)]) C.1 dX0_nearestMissing_20 rfl (by decide) rfl ?_
    refine g_aload_n C.1 0 dX0_nearestMissing_21 rfl rfl ?_
    refine c_get1 C hw.1 5 (by decide) kC_7 (fun _ h => h) rfl dX0_nearestMissing_22 ?_
    replace hw := hw.2
    refine g_if_le (tgt := 41) C.1 dX0_nearestMissing_25 (by decide) (fun h11 => ?_) (fun h11 => ?_)
    · replace hw := hw.1 h11
      refine gJ.sub [1, 2, 3, 0] rfl ?_
      exact wkC_X0_nearestMissing_41 C hsz hR hret hK4 _ _ _ _ _ hw
    · replace hw := hw.2 h11
      refine g_aload_n C.1 0 dX0_nearestMissing_28 rfl rfl ?_
      refine c_get1 C hw.1 6 (by decide) kC_41 (fun _ h => h) rfl dX0_nearestMissing_29 ?_
      replace hw := hw.2
      refine g_ldc (v := 1073741824) C.1 C.2.1 (C.2.2.1 _ kC_42) dX0_nearestMissing_32 ?_
      refine g_icmp_eq (tgt := 41) C.1 dX0_nearestMissing_34 (by decide) (fun h12 => ?_) (fun h12 => ?_)
      · replace hw := hw.1 h12
        refine gJ.sub [1, 2, 3, 0] rfl ?_
        exact wkC_X0_nearestMissing_41 C hsz hR hret hK4 _ _ _ _ _ hw
      · replace hw := hw.2 h12
        refine g_iconst (v := 1) C.1 dX0_nearestMissing_37 (by decide) ?_
        refine g_goto (tgt := 42) C.1 dX0_nearestMissing_38 (by decide) ?_
        refine gJ.sub [1, 2, 3, 0] rfl ?_
        exact wkC_X0_nearestMissing_42 C hsz hR hret hK4 _ _ _ _ _ _ hw
theorem wkC_X0_nearestMissing_4 {X : gT} {G : cG} {A : Nat → Prop} {H0 : Heap} {Q : State → Prop} (C : cC X cX0_nearestMissing 5 RX0 G A) (hsz : H0 = (g_s X).heap) (hR : 3 ≤ (g_R X).frames ∧ 64 ≤ (g_R X).locals ∧ 0 ≤ (g_R X).cells ∧ 0 ≤ (g_R X).slots) {post : Option Nat → CSt → Prop} (hret : ∀ (r : Option Nat) (τ : CSt) (lv : List (Nat × Value)) (pc : Nat), post r τ → decode cX0_nearestMissing pc = .ok (.areturn, 1) → gJ X (cWd G A H0) Q 0 0 τ lv pc [va_rf r]) (s : CSt) (v0 : Nat) (v1 : Option Nat) (v2 : Int32) (hw : wpC_X0_nearestMissing_4 post s v0 v1 v2) : gJ X (cWd G A H0) Q 0 0 s [(0, .ref v0), (1, va_rf v1), (2, .int v2)] 4 [] := 
  hw (fun (x : CSt × Nat × Option Nat × Int32) => (fun s v0 v1 v2 => gJ X (cWd G A H0) Q 0 0 s [(0, .ref v0), (1, va_rf v1), (2, .int v2)] 4 []) x.1 x.2.1 x.2.2.1 x.2.2.2) (fun x hx => wkC_X0_nearestMissing_4_F C hsz hR hret (K4 := (fun s v0 v1 v2 => gJ X (cWd G A H0) Q 0 0 s [(0, .ref v0), (1, va_rf v1), (2, .int v2)] 4 [])) (fun _ _ _ _ h => h) x.1 x.2.1 x.2.2.1 x.2.2.2 hx)
theorem wkC_X0_nearestMissing_0 {X : gT} {G : cG} {A : Nat → Prop} {H0 : Heap} {Q : State → Prop} (C : cC X cX0_nearestMissing 5 RX0 G A) (hsz : H0 = (g_s X).heap) (hR : 3 ≤ (g_R X).frames ∧ 64 ≤ (g_R X).locals ∧ 0 ≤ (g_R X).cells ∧ 0 ≤ (g_R X).slots) {post : Option Nat → CSt → Prop} (hret : ∀ (r : Option Nat) (τ : CSt) (lv : List (Nat × Value)) (pc : Nat), post r τ → decode cX0_nearestMissing pc = .ok (.areturn, 1) → gJ X (cWd G A H0) Q 0 0 τ lv pc [va_rf r]) (s : CSt) (v0 : Nat) (hw : wpC_X0_nearestMissing_0 post s v0) : gJ X (cWd G A H0) Q 0 0 s [(0, .ref v0)] 0 [] := by
  refine g_null C.1 dX0_nearestMissing_0 ?_
  refine g_nstore_n (lv' := [(1, .null), (0, .ref v0)]) C.1 dX0_nearestMissing_1 rfl (by decide) rfl ?_
  refine g_iconst (v := 0) C.1 dX0_nearestMissing_2 (by decide) ?_
  refine g_istore_n (lv' := [(2, .int 0), (1, .null), (0, .ref v0)]) C.1 dX0_nearestMissing_3 rfl (by decide) rfl ?_
  refine gJ.sub [2, 1, 0] rfl ?_
  exact wkC_X0_nearestMissing_4 C hsz hR hret _ _ _ _ hw
theorem hdC_X0_nearestMissing : yX0_nearestMissing.cls = RX0 ∧ yX0_nearestMissing.cls ≠ "java/lang/invoke/MethodHandle" ∧ yX0_nearestMissing.cls ≠ "java/lang/invoke/VarHandle" ∧ (parseMethodDescriptor yX0_nearestMissing.desc).map (fun d => d.parameters.length) = some 1 := by decide +kernel
theorem cC_X0_nearestMissing (l : Launch) (G : cG) (s : CSt) (v0 : Nat) (post : Option Nat → CSt → Prop) (hw : wpC_X0_nearestMissing_0 post s v0) : cMq l yX0_nearestMissing cX0_nearestMissing 5 (.object "SkiHill$Cell") 3 64 0 0 G s [.ref v0] post := cMq_of (by decide +kernel) rfl (by first | exact Or.inl ⟨_, rfl⟩ | exact Or.inr ⟨_, rfl⟩) (Nat.le_of_ble_eq_true rfl) (fun X A H0 Q hl hR hsz hnm C hret => wkC_X0_nearestMissing_0 C hsz hR hret s v0 hw)
def wpC_X0_carryTo_97_F (post : CSt → Prop) (K97 : CSt → Int32 → Int32 → Option Nat → Int32 → Prop) (s : CSt) (v1 : Int32) (v2 : Int32) (v3 : Option Nat) (v4 : Int32) : Prop := (v1 ≤ v4 → post s) ∧ (¬ v1 ≤ v4 → ∃ a2 : Nat, v3 = some a2 ∧ cAt s 1 a2 ∧ (cR s 23 a2 = none → post s) ∧ (∀ a4 : Nat, cR s 23 a2 = some a4 → cAt s 1 a2 ∧ ∃ a5 : Nat, cR s 23 a2 = some a5 ∧ cAt s 4 a5 ∧ wpC_X4_other_0 (fun r7 s6 => ∃ a8 : Nat, r7 = some a8 ∧ cAt s6 4 a5 ∧ wpC_X4_carryFrom_0 (fun s9 => K97 s9 v1 v2 (some a8) (v4 + 1)) s6 a5 a8 v2) s a5 a2))
def wpC_X0_carryTo_97 (post : CSt → Prop) (s : CSt) (v1 : Int32) (v2 : Int32) (v3 : Option Nat) (v4 : Int32) : Prop := gLP (fun (K : CSt × Int32 × Int32 × Option Nat × Int32 → Prop) (x : CSt × Int32 × Int32 × Option Nat × Int32) => wpC_X0_carryTo_97_F post (fun s v1 v2 v3 v4 => K (s, v1, v2, v3, v4)) x.1 x.2.1 x.2.2.1 x.2.2.2.1 x.2.2.2.2) (s, v1, v2, v3, v4)
def wpC_X0_carryTo_63 (post : CSt → Prop) (s : CSt) (v0 : Nat) (v1 : Int32) (v2 : Int32) (v3 : Option Nat) : Prop := ∃ a10 : Nat, v3 = some a10 ∧ cAt s 1 a10 ∧ ∀ x11 : Int32, x11 = (if (cI s 20 a10) < v2 then (cI s 20 a10) else v2) → cAt s 1 a10 ∧ cAt s 1 a10 ∧ ∀ s12 : CSt, s12 = csI s 20 a10 ((cI s 20 a10) - x11) → cAt s12 1 v0 ∧ cAt s12 1 v0 ∧ ∀ s13 : CSt, s13 = csI s12 21 v0 ((cI s12 21 v0) - x11) → wpC_X0_carryTo_97 post s13 v1 x11 (some v0) 0
def wpC_X0_carryTo_57 (post : CSt → Prop) (K10 : CSt → Nat → Int32 → Int32 → Option Nat → Int32 → Prop) (s : CSt) (v0 : Nat) (v1 : Int32) (v2 : Int32) (v3 : Option Nat) (v4 : Int32) : Prop := K10 s v0 v1 v2 v3 (v4 + 1)
def wpC_X0_carryTo_10_F (post : CSt → Prop) (K10 : CSt → Nat → Int32 → Int32 → Option Nat → Int32 → Prop) (s : CSt) (v0 : Nat) (v1 : Int32) (v2 : Int32) (v3 : Option Nat) (v4 : Int32) : Prop := (v1 ≤ v4 → wpC_X0_carryTo_63 post s v0 v1 v2 v3) ∧ (¬ v1 ≤ v4 → ∃ a15 : Nat, v3 = some a15 ∧ cAt s 1 a15 ∧ (cR s 23 a15 = none → wpC_X0_carryTo_63 post s v0 v1 v2 (some a15)) ∧ (∀ a17 : Nat, cR s 23 a15 = some a17 → cAt s 1 a15 ∧ ∃ a18 : Nat, cR s 23 a15 = some a18 ∧ cAt s 4 a18 ∧ wpC_X4_other_0 (fun r20 s19 => ∃ a21 : Nat, r20 = some a21 ∧ cAt s19 4 a18 ∧ wpC_X4_carriedFrom_0 (fun r23 s22 => ((-r23) ≤ 0 → wpC_X0_carryTo_57 post K10 s22 v0 v1 v2 (some a21) v4) ∧ (¬ (-r23) ≤ 0 → ∀ x25 : Int32, x25 = (if (-r23) < v2 then (-r23) else v2) → wpC_X0_carryTo_57 post K10 s22 v0 v1 x25 (some a21) v4)) s19 a18 a21) s a18 a15))
def wpC_X0_carryTo_10 (post : CSt → Prop) (s : CSt) (v0 : Nat) (v1 : Int32) (v2 : Int32) (v3 : Option Nat) (v4 : Int32) : Prop := gLP (fun (K : CSt × Nat × Int32 × Int32 × Option Nat × Int32 → Prop) (x : CSt × Nat × Int32 × Int32 × Option Nat × Int32) => wpC_X0_carryTo_10_F post (fun s v0 v1 v2 v3 v4 => K (s, v0, v1, v2, v3, v4)) x.1 x.2.1 x.2.2.1 x.2.2.2.1 x.2.2.2.2.1 x.2.2.2.2.2) (s, v0, v1, v2, v3, v4)
def wpC_X0_carryTo_0 (post : CSt → Prop) (s : CSt) (v0 : Nat) (v1 : Int32) : Prop := cAt s 1 v0 ∧ wpC_X0_carryTo_10 post s v0 v1 (cI s 21 v0) (some v0) 0
theorem wkC_X0_carryTo_97_F {X : gT} {G : cG} {A : Nat → Prop} {H0 : Heap} {Q : State → Prop} (C : cC X cX0_carryTo 7 RX0 G A) (hsz : H0 = (g_s X).heap) (hR : 1 ≤ (g_R X).frames ∧ 24 ≤ (g_R X).locals ∧ 0 ≤ (g_R X).cells ∧ 0 ≤ (g_R X).slots) {post : CSt → Prop} (hret : ∀ (τ : CSt) (lv : List (Nat × Value)) (pc : Nat), post τ → decode cX0_carryTo pc = .ok (.return_, 1) → gJ X (cWd G A H0) Q 0 0 τ lv pc []) {K97 : CSt → Int32 → Int32 → Option Nat → Int32 → Prop} (hK97 : ∀ (s : CSt) (v1 : Int32) (v2 : Int32) (v3 : Option Nat) (v4 : Int32), K97 s v1 v2 v3 v4 → gJ X (cWd G A H0) Q 0 0 s [(1, .int v1), (2, .int v2), (3, va_rf v3), (4, .int v4)] 97 []) (s : CSt) (v1 : Int32) (v2 : Int32) (v3 : Option Nat) (v4 : Int32) (hw : wpC_X0_carryTo_97_F post K97 s v1 v2 v3 v4) : gJ X (cWd G A H0) Q 0 0 s [(1, .int v1), (2, .int v2), (3, va_rf v3), (4, .int v4)] 97 [] := by
  refine g_iload C.1 3 dX0_carryTo_97 rfl ?_
  refine g_iload_n C.1 0 dX0_carryTo_99 rfl rfl ?_
  refine g_icmp_ge (tgt := 136) C.1 dX0_carryTo_100 (by decide) (fun h1 => ?_) (fun h1 => ?_)
  · replace hw := hw.1 h1
    exact hret _ _ _ hw dX0_carryTo_136
  · replace hw := hw.2 h1
    refine g_qload_n C.1 2 dX0_carryTo_103 rfl rfl ?_
    obtain ⟨a2, ha2, hw⟩ := hw
    rw [ha2]
    refine c_get1 C hw.1 7 (by decide) kC_44 (fun _ h => h) rfl dX0_carryTo_104 ?_
    replace hw := hw.2
    refine g_ifnull (tgt := 136) C.1 dX0_carryTo_107 (by decide) (fun h3 => ?_) (fun a4 h3 => ?_)
    · replace hw := hw.1 h3
      exact hret _ _ _ hw dX0_carryTo_136
    · replace hw := hw.2 a4 h3
      refine g_aload_n C.1 2 dX0_carryTo_110 rfl rfl ?_
      refine c_get1 C hw.1 7 (by decide) kC_44 (fun _ h => h) rfl dX0_carryTo_111 ?_
      replace hw := hw.2
      refine g_qstore (lv' := [(5, va_rf (cR s 23 a2)), (1, .int v1), (2, .int v2), (3, .ref a2), (4, .int v4)]) C.1 dX0_carryTo_114 (by decide) rfl ?_
      refine g_qload C.1 0 dX0_carryTo_116 rfl ?_
      refine g_aload_n C.1 3 dX0_carryTo_118 rfl rfl ?_
      obtain ⟨a5, ha5, hw⟩ := hw
      rw [ha5]
      refine c_callVq (vs := [.ref a2]) C hsz (cC_X4_other (g_l X) G s _ _ _ hw.2) kC_48 kC_45 kC_46 kC_47 kC_49 hdC_X4_other (c_recv4 C hw.1) ⟨(Nat.le_trans (Nat.le_of_ble_eq_true rfl) hR.1), (Nat.le_trans (Nat.le_of_ble_eq_true rfl) hR.2.1)⟩ ⟨(Nat.le_trans (Nat.le_of_ble_eq_true rfl) hR.2.2.1), (Nat.le_trans (Nat.le_of_ble_eq_true rfl) hR.2.2.2)⟩ dX0_carryTo_119 rfl (Nat.le_of_ble_eq_true rfl) (fun r7 s6 hw => ?_)
      refine g_qstore_n (lv' := [(3, va_rf r7), (5, .ref a5), (1, .int v1), (2, .int v2), (4, .int v4)]) C.1 dX0_carryTo_122 rfl (by decide) rfl ?_
      refine g_aload C.1 1 dX0_carryTo_123 rfl ?_
      refine g_qload_n C.1 0 dX0_carryTo_125 rfl rfl ?_
      refine g_iload_n C.1 3 dX0_carryTo_126 rfl rfl ?_
      obtain ⟨a8, ha8, hw⟩ := hw
      rw [ha8]
      refine c_callVv (vs := [.ref a8, .int v2]) C hsz (cC_X4_carryFrom (g_l X) G s6 _ _ _ _ hw.2) kC_48 kC_68 kC_69 kC_70 kC_71 hdC_X4_carryFrom (c_recv4 C hw.1) ⟨(Nat.le_trans (Nat.le_of_ble_eq_true rfl) hR.1), (Nat.le_trans (Nat.le_of_ble_eq_true rfl) hR.2.1)⟩ ⟨(Nat.le_trans (Nat.le_of_ble_eq_true rfl) hR.2.2.1), (Nat.le_trans (Nat.le_of_ble_eq_true rfl) hR.2.2.2)⟩ dX0_carryTo_127 rfl (Nat.le_of_ble_eq_true rfl) (fun s9 hw => ?_)
      refine g_iinc (v := v4 + 1) (lv' := [(4, .int (v4 + 1)), (3, .ref a8), (5, .ref a5), (1, .int v1), (2, .int v2)]) C.1 4 dX0_carryTo_130 rfl rfl (by decide) rfl ?_
      refine g_goto (tgt := 97) C.1 dX0_carryTo_133 (by decide) ?_
      refine gJ.sub [3, 4, 1, 0] rfl ?_
      exact hK97 _ _ _ _ _ hw
theorem wkC_X0_carryTo_97 {X : gT} {G : cG} {A : Nat → Prop} {H0 : Heap} {Q : State → Prop} (C : cC X cX0_carryTo 7 RX0 G A) (hsz : H0 = (g_s X).heap) (hR : 1 ≤ (g_R X).frames ∧ 24 ≤ (g_R X).locals ∧ 0 ≤ (g_R X).cells ∧ 0 ≤ (g_R X).slots) {post : CSt → Prop} (hret : ∀ (τ : CSt) (lv : List (Nat × Value)) (pc : Nat), post τ → decode cX0_carryTo pc = .ok (.return_, 1) → gJ X (cWd G A H0) Q 0 0 τ lv pc []) (s : CSt) (v1 : Int32) (v2 : Int32) (v3 : Option Nat) (v4 : Int32) (hw : wpC_X0_carryTo_97 post s v1 v2 v3 v4) : gJ X (cWd G A H0) Q 0 0 s [(1, .int v1), (2, .int v2), (3, va_rf v3), (4, .int v4)] 97 [] := 
  hw (fun (x : CSt × Int32 × Int32 × Option Nat × Int32) => (fun s v1 v2 v3 v4 => gJ X (cWd G A H0) Q 0 0 s [(1, .int v1), (2, .int v2), (3, va_rf v3), (4, .int v4)] 97 []) x.1 x.2.1 x.2.2.1 x.2.2.2.1 x.2.2.2.2) (fun x hx => wkC_X0_carryTo_97_F C hsz hR hret (K97 := (fun s v1 v2 v3 v4 => gJ X (cWd G A H0) Q 0 0 s [(1, .int v1), (2, .int v2), (3, va_rf v3), (4, .int v4)] 97 [])) (fun _ _ _ _ _ h => h) x.1 x.2.1 x.2.2.1 x.2.2.2.1 x.2.2.2.2 hx)
theorem wkC_X0_carryTo_63 {X : gT} {G : cG} {A : Nat → Prop} {H0 : Heap} {Q : State → Prop} (C : cC X cX0_carryTo 7 RX0 G A) (hsz : H0 = (g_s X).heap) (hR : 1 ≤ (g_R X).frames ∧ 24 ≤ (g_R X).locals ∧ 0 ≤ (g_R X).cells ∧ 0 ≤ (g_R X).slots) {post : CSt → Prop} (hret : ∀ (τ : CSt) (lv : List (Nat × Value)) (pc : Nat), post τ → decode cX0_carryTo pc = .ok (.return_, 1) → gJ X (cWd G A H0) Q 0 0 τ lv pc []) (s : CSt) (v0 : Nat) (v1 : Int32) (v2 : Int32) (v3 : Option Nat) (hw : wpC_X0_carryTo_63 post s v0 v1 v2 v3) : gJ X (cWd G A H0) Q 0 0 s [(0, .ref v0), (1, .int v1), (2, .int v2), (3, va_rf v3)] 63 [] := by
  refine g_iload_n C.1 2 dX0_carryTo_63 rfl rfl ?_
  refine g_qload_n C.1 3 dX0_carryTo_64 rfl rfl ?_
  obtain ⟨a10, ha10, hw⟩ := hw
  rw [ha10]
  refine c_get1 C hw.1 4 (by decide) kC_6 (fun _ h => h) rfl dX0_carryTo_65 ?_
  replace hw := hw.2
  refine g_mmin C.1 C.2.1 (C.2.2.1 _ kC_65) (C.2.2.1 _ kC_66) (C.2.2.1 _ kC_4) (C.2.2.1 _ kC_67) (Nat.le_trans (Nat.le_of_ble_eq_true rfl) hR.1) (Nat.le_trans (Nat.le_of_ble_eq_true rfl) hR.2.1) (Nat.le_trans (Nat.le_of_ble_eq_true rfl) hR.2.2.1) (Nat.le_trans (Nat.le_of_ble_eq_true rfl) hR.2.2.2) dX0_carryTo_68 ?_
  refine g_topi (fun x11 ex11 => ?_)
  replace hw := hw x11 ex11
  refine g_istore_n (lv' := [(2, .int x11), (0, .ref v0), (1, .int v1), (3, .ref a10)]) C.1 dX0_carryTo_71 rfl (by decide) rfl ?_
  refine g_aload_n C.1 3 dX0_carryTo_72 rfl rfl ?_
  refine g_dup C.1 dX0_carryTo_73 rfl ?_
  refine c_get1 C hw.1 4 (by decide) kC_6 (fun _ h => h) rfl dX0_carryTo_74 ?_
  replace hw := hw.2
  refine g_iload_n C.1 0 dX0_carryTo_77 rfl rfl ?_
  refine g_isub C.1 dX0_carryTo_78 ?_
  refine c_put1 C (τ := csI s 20 a10 ((cI s 20 a10) - x11)) hw.1 4 (by decide) kC_6 (fun _ h => h) rfl (ty := .int) (by decide +kernel) rfl rfl rfl hw.1.2 rfl (cx_1_4 _ _ _) (fun _ hb => csI_o hb) dX0_carryTo_79 ?_
  replace hw := hw.2
  refine gJ.nm (fun s12 es12 => ?_)
  replace hw := hw s12 es12
  refine g_aload_n C.1 1 dX0_carryTo_82 rfl rfl ?_
  refine g_dup C.1 dX0_carryTo_83 rfl ?_
  refine c_get1 C hw.1 5 (by decide) kC_7 (fun _ h => h) rfl dX0_carryTo_84 ?_
  replace hw := hw.2
  refine g_iload_n C.1 0 dX0_carryTo_87 rfl rfl ?_
  refine g_isub C.1 dX0_carryTo_88 ?_
  refine c_put1 C (τ := csI s12 21 v0 ((cI s12 21 v0) - x11)) hw.1 5 (by decide) kC_7 (fun _ h => h) rfl (ty := .int) (by decide +kernel) rfl rfl rfl hw.1.2 rfl (cx_1_5 _ _ _) (fun _ hb => csI_o hb) dX0_carryTo_89 ?_
  replace hw := hw.2
  refine gJ.nm (fun s13 es13 => ?_)
  replace hw := hw s13 es13
  refine g_aload_n C.1 1 dX0_carryTo_92 rfl rfl ?_
  refine g_astore_n (lv' := [(3, .ref v0), (2, .int x11), (0, .ref v0), (1, .int v1)]) C.1 dX0_carryTo_93 rfl (by decide) rfl ?_
  refine g_iconst (v := 0) C.1 dX0_carryTo_94 (by decide) ?_
  refine g_istore (lv' := [(4, .int 0), (3, .ref v0), (2, .int x11), (0, .ref v0), (1, .int v1)]) C.1 dX0_carryTo_95 (by decide) rfl ?_
  refine gJ.sub [4, 2, 1, 0] rfl ?_
  exact wkC_X0_carryTo_97 C hsz hR hret _ _ _ _ _ hw
theorem wkC_X0_carryTo_57 {X : gT} {G : cG} {A : Nat → Prop} {H0 : Heap} {Q : State → Prop} (C : cC X cX0_carryTo 7 RX0 G A) (hsz : H0 = (g_s X).heap) (hR : 1 ≤ (g_R X).frames ∧ 24 ≤ (g_R X).locals ∧ 0 ≤ (g_R X).cells ∧ 0 ≤ (g_R X).slots) {post : CSt → Prop} (hret : ∀ (τ : CSt) (lv : List (Nat × Value)) (pc : Nat), post τ → decode cX0_carryTo pc = .ok (.return_, 1) → gJ X (cWd G A H0) Q 0 0 τ lv pc []) {K10 : CSt → Nat → Int32 → Int32 → Option Nat → Int32 → Prop} (hK10 : ∀ (s : CSt) (v0 : Nat) (v1 : Int32) (v2 : Int32) (v3 : Option Nat) (v4 : Int32), K10 s v0 v1 v2 v3 v4 → gJ X (cWd G A H0) Q 0 0 s [(0, .ref v0), (1, .int v1), (2, .int v2), (3, va_rf v3), (4, .int v4)] 10 []) (s : CSt) (v0 : Nat) (v1 : Int32) (v2 : Int32) (v3 : Option Nat) (v4 : Int32) (hw : wpC_X0_carryTo_57 post K10 s v0 v1 v2 v3 v4) : gJ X (cWd G A H0) Q 0 0 s [(0, .ref v0), (1, .int v1), (2, .int v2), (3, va_rf v3), (4, .int v4)] 57 [] := by
  refine g_iinc (v := v4 + 1) (lv' := [(4, .int (v4 + 1)), (0, .ref v0), (1, .int v1), (2, .int v2), (3, va_rf v3)]) C.1 4 dX0_carryTo_57 rfl rfl (by decide) (by simp [va_rf_cat]) ?_
  refine g_goto (tgt := 10) C.1 dX0_carryTo_60 (by decide) ?_
  refine gJ.sub [1, 2, 3, 4, 0] rfl ?_
  exact hK10 _ _ _ _ _ _ hw
theorem wkC_X0_carryTo_10_F {X : gT} {G : cG} {A : Nat → Prop} {H0 : Heap} {Q : State → Prop} (C : cC X cX0_carryTo 7 RX0 G A) (hsz : H0 = (g_s X).heap) (hR : 1 ≤ (g_R X).frames ∧ 24 ≤ (g_R X).locals ∧ 0 ≤ (g_R X).cells ∧ 0 ≤ (g_R X).slots) {post : CSt → Prop} (hret : ∀ (τ : CSt) (lv : List (Nat × Value)) (pc : Nat), post τ → decode cX0_carryTo pc = .ok (.return_, 1) → gJ X (cWd G A H0) Q 0 0 τ lv pc []) {K10 : CSt → Nat → Int32 → Int32 → Option Nat → Int32 → Prop} (hK10 : ∀ (s : CSt) (v0 : Nat) (v1 : Int32) (v2 : Int32) (v3 : Option Nat) (v4 : Int32), K10 s v0 v1 v2 v3 v4 → gJ X (cWd G A H0) Q 0 0 s [(0, .ref v0), (1, .int v1), (2, .int v2), (3, va_rf v3), (4, .int v4)] 10 []) (s : CSt) (v0 : Nat) (v1 : Int32) (v2 : Int32) (v3 : Option Nat) (v4 : Int32) (hw : wpC_X0_carryTo_10_F post K10 s v0 v1 v2 v3 v4) : gJ X (cWd G A H0) Q 0 0 s [(0, .ref v0), (1, .int v1), (2, .int v2), (3, va_rf v3), (4, .int v4)] 10 [] := by
  refine g_iload C.1 4 dX0_carryTo_10 rfl ?_
  refine g_iload_n C.1 1 dX0_carryTo_12 rfl rfl ?_
  refine g_icmp_ge (tgt := 63) C.1 dX0_carryTo_13 (by decide) (fun h14 => ?_) (fun h14 => ?_)
  · replace hw := hw.1 h14
    refine gJ.sub [0, 1, 2, 3] rfl ?_
    exact wkC_X0_carryTo_63 C hsz hR hret _ _ _ _ _ hw
  · replace hw := hw.2 h14
    refine g_qload_n C.1 3 dX0_carryTo_16 rfl rfl ?_
    obtain ⟨a15, ha15, hw⟩ := hw
    rw [ha15]
    refine c_get1 C hw.1 7 (by decide) kC_44 (fun _ h => h) rfl dX0_carryTo_17 ?_
    replace hw := hw.2
    refine g_ifnull (tgt := 63) C.1 dX0_carryTo_20 (by decide) (fun h16 => ?_) (fun a17 h16 => ?_)
    · replace hw := hw.1 h16
      refine gJ.sub [0, 1, 2, 3] rfl ?_
      exact wkC_X0_carryTo_63 C hsz hR hret _ _ _ _ _ hw
    · replace hw := hw.2 a17 h16
      refine g_aload_n C.1 3 dX0_carryTo_23 rfl rfl ?_
      refine c_get1 C hw.1 7 (by decide) kC_44 (fun _ h => h) rfl dX0_carryTo_24 ?_
      replace hw := hw.2
      refine g_qstore (lv' := [(5, va_rf (cR s 23 a15)), (0, .ref v0), (1, .int v1), (2, .int v2), (3, .ref a15), (4, .int v4)]) C.1 dX0_carryTo_27 (by decide) rfl ?_
      refine g_qload C.1 0 dX0_carryTo_29 rfl ?_
      refine g_aload_n C.1 4 dX0_carryTo_31 rfl rfl ?_
      obtain ⟨a18, ha18, hw⟩ := hw
      rw [ha18]
      refine c_callVq (vs := [.ref a15]) C hsz (cC_X4_other (g_l X) G s _ _ _ hw.2) kC_48 kC_45 kC_46 kC_47 kC_49 hdC_X4_other (c_recv4 C hw.1) ⟨(Nat.le_trans (Nat.le_of_ble_eq_true rfl) hR.1), (Nat.le_trans (Nat.le_of_ble_eq_true rfl) hR.2.1)⟩ ⟨(Nat.le_trans (Nat.le_of_ble_eq_true rfl) hR.2.2.1), (Nat.le_trans (Nat.le_of_ble_eq_true rfl) hR.2.2.2)⟩ dX0_carryTo_32 rfl (Nat.le_of_ble_eq_true rfl) (fun r20 s19 hw => ?_)
      refine g_qstore_n (lv' := [(3, va_rf r20), (5, .ref a18), (0, .ref v0), (1, .int v1), (2, .int v2), (4, .int v4)]) C.1 dX0_carryTo_35 rfl (by decide) rfl ?_
      refine g_aload C.1 1 dX0_carryTo_36 rfl ?_
      refine g_qload_n C.1 0 dX0_carryTo_38 rfl rfl ?_
      obtain ⟨a21, ha21, hw⟩ := hw
      rw [ha21]
      refine c_callVi (vs := [.ref a21]) C hsz (cC_X4_carriedFrom (g_l X) G s19 _ _ _ hw.2) kC_48 kC_52 kC_53 kC_54 kC_55 hdC_X4_carriedFrom (c_recv4 C hw.1) ⟨(Nat.le_trans (Nat.le_of_ble_eq_true rfl) hR.1), (Nat.le_trans (Nat.le_of_ble_eq_true rfl) hR.2.1)⟩ ⟨(Nat.le_trans (Nat.le_of_ble_eq_true rfl) hR.2.2.1), (Nat.le_trans (Nat.le_of_ble_eq_true rfl) hR.2.2.2)⟩ dX0_carryTo_39 rfl (Nat.le_of_ble_eq_true rfl) (fun r23 s22 hw => ?_)
      refine g_ineg C.1 dX0_carryTo_42 ?_
      refine g_istore (lv' := [(6, .int (-r23)), (3, .ref a21), (5, .ref a18), (0, .ref v0), (1, .int v1), (2, .int v2), (4, .int v4)]) C.1 dX0_carryTo_43 (by decide) rfl ?_
      refine g_iload C.1 0 dX0_carryTo_45 rfl ?_
      refine g_if_le (tgt := 57) C.1 dX0_carryTo_47 (by decide) (fun h24 => ?_) (fun h24 => ?_)
      · replace hw := hw.1 h24
        refine gJ.sub [3, 4, 5, 1, 6] rfl ?_
        exact wkC_X0_carryTo_57 C hsz hR hret hK10 _ _ _ _ _ _ hw
      · replace hw := hw.2 h24
        refine g_iload_n C.1 5 dX0_carryTo_50 rfl rfl ?_
        refine g_iload C.1 0 dX0_carryTo_51 rfl ?_
        refine g_mmin C.1 C.2.1 (C.2.2.1 _ kC_65) (C.2.2.1 _ kC_66) (C.2.2.1 _ kC_4) (C.2.2.1 _ kC_67) (Nat.le_trans (Nat.le_of_ble_eq_true rfl) hR.1) (Nat.le_trans (Nat.le_of_ble_eq_true rfl) hR.2.1) (Nat.le_trans (Nat.le_of_ble_eq_true rfl) hR.2.2.1) (Nat.le_trans (Nat.le_of_ble_eq_true rfl) hR.2.2.2) dX0_carryTo_53 ?_
        refine g_topi (fun x25 ex25 => ?_)
        replace hw := hw x25 ex25
        refine g_istore_n (lv' := [(2, .int x25), (6, .int (-r23)), (3, .ref a21), (5, .ref a18), (0, .ref v0), (1, .int v1), (4, .int v4)]) C.1 dX0_carryTo_56 rfl (by decide) rfl ?_
        refine gJ.sub [4, 5, 0, 2, 6] rfl ?_
        exact wkC_X0_carryTo_57 C hsz hR hret hK10 _ _ _ _ _ _ hw
theorem wkC_X0_carryTo_10 {X : gT} {G : cG} {A : Nat → Prop} {H0 : Heap} {Q : State → Prop} (C : cC X cX0_carryTo 7 RX0 G A) (hsz : H0 = (g_s X).heap) (hR : 1 ≤ (g_R X).frames ∧ 24 ≤ (g_R X).locals ∧ 0 ≤ (g_R X).cells ∧ 0 ≤ (g_R X).slots) {post : CSt → Prop} (hret : ∀ (τ : CSt) (lv : List (Nat × Value)) (pc : Nat), post τ → decode cX0_carryTo pc = .ok (.return_, 1) → gJ X (cWd G A H0) Q 0 0 τ lv pc []) (s : CSt) (v0 : Nat) (v1 : Int32) (v2 : Int32) (v3 : Option Nat) (v4 : Int32) (hw : wpC_X0_carryTo_10 post s v0 v1 v2 v3 v4) : gJ X (cWd G A H0) Q 0 0 s [(0, .ref v0), (1, .int v1), (2, .int v2), (3, va_rf v3), (4, .int v4)] 10 [] := 
  hw (fun (x : CSt × Nat × Int32 × Int32 × Option Nat × Int32) => (fun s v0 v1 v2 v3 v4 => gJ X (cWd G A H0) Q 0 0 s [(0, .ref v0), (1, .int v1), (2, .int v2), (3, va_rf v3), (4, .int v4)] 10 []) x.1 x.2.1 x.2.2.1 x.2.2.2.1 x.2.2.2.2.1 x.2.2.2.2.2) (fun x hx => wkC_X0_carryTo_10_F C hsz hR hret (K10 := (fun s v0 v1 v2 v3 v4 => gJ X (cWd G A H0) Q 0 0 s [(0, .ref v0), (1, .int v1), (2, .int v2), (3, va_rf v3), (4, .int v4)] 10 [])) (fun _ _ _ _ _ _ h => h) x.1 x.2.1 x.2.2.1 x.2.2.2.1 x.2.2.2.2.1 x.2.2.2.2.2 hx)
theorem wkC_X0_carryTo_0 {X : gT} {G : cG} {A : Nat → Prop} {H0 : Heap} {Q : State → Prop} (C : cC X cX0_carryTo 7 RX0 G A) (hsz : H0 = (g_s X).heap) (hR : 1 ≤ (g_R X).frames ∧ 24 ≤ (g_R X).locals ∧ 0 ≤ (g_R X).cells ∧ 0 ≤ (g_R X).slots) {post : CSt → Prop} (hret : ∀ (τ : CSt) (lv : List (Nat × Value)) (pc : Nat), post τ → decode cX0_carryTo pc = .ok (.return_, 1) → gJ X (cWd G A H0) Q 0 0 τ lv pc []) (s : CSt) (v0 : Nat) (v1 : Int32) (hw : wpC_X0_carryTo_0 post s v0 v1) : gJ X (cWd G A H0) Q 0 0 s [(0, .ref v0), (1, .int v1)] 0 [] := by
  refine g_aload_n C.1 0 dX0_carryTo_0 rfl rfl ?_
  refine c_get1 C hw.1 5 (by decide) kC_7 (fun _ h => h) rfl dX0_carryTo_1 ?_
  replace hw := hw.2
  refine g_istore_n (lv' := [(2, .int (cI s 21 v0)), (0, .ref v0), (1, .int v1)]) C.1 dX0_carryTo_4 rfl (by decide) rfl ?_
  refine g_aload_n C.1 1 dX0_carryTo_5 rfl rfl ?_
  refine g_astore_n (lv' := [(3, .ref v0), (2, .int (cI s 21 v0)), (0, .ref v0), (1, .int v1)]) C.1 dX0_carryTo_6 rfl (by decide) rfl ?_
  refine g_iconst (v := 0) C.1 dX0_carryTo_7 (by decide) ?_
  refine g_istore (lv' := [(4, .int 0), (3, .ref v0), (2, .int (cI s 21 v0)), (0, .ref v0), (1, .int v1)]) C.1 dX0_carryTo_8 (by decide) rfl ?_
  refine gJ.sub [3, 4, 2, 1, 0] rfl ?_
  exact wkC_X0_carryTo_10 C hsz hR hret _ _ _ _ _ _ hw
theorem hdC_X0_carryTo : yX0_carryTo.cls = RX0 ∧ yX0_carryTo.cls ≠ "java/lang/invoke/MethodHandle" ∧ yX0_carryTo.cls ≠ "java/lang/invoke/VarHandle" ∧ (parseMethodDescriptor yX0_carryTo.desc).map (fun d => d.parameters.length) = some 2 := by decide +kernel
theorem cC_X0_carryTo (l : Launch) (G : cG) (s : CSt) (v0 : Nat) (v1 : Int32) (post : CSt → Prop) (hw : wpC_X0_carryTo_0 post s v0 v1) : cMv l yX0_carryTo cX0_carryTo 7 1 24 0 0 G s [.ref v0, .int v1] post := cMv_of (by decide +kernel) rfl (Nat.le_of_ble_eq_true rfl) (fun X A H0 Q hl hR hsz hnm C hret => wkC_X0_carryTo_0 C hsz hR hret s v0 v1 hw)
def wpC_X0_sumCarried_4_F (post : Int64 → CSt → Prop) (K4 : CSt → Nat → Int64 → Int32 → Prop) (s : CSt) (v0 : Nat) (v1 : Int64) (v3 : Int32) : Prop := cAt s 0 v0 ∧ wpC_Jx4a65c_size_8abf5_0 (fun r2 s1 => (r2 ≤ v3 → post v1 s1) ∧ (¬ r2 ≤ v3 → cAt s1 0 v0 ∧ wpC_Jx4a65c_get_915e3_0 (fun r5 s4 => ∃ a6 : Nat, r5 = some a6 ∧ cAt s4 4 a6 ∧ cAt s4 4 a6 ∧ ∀ x7 : Int32, x7 = (if 0 ≤ (cI s4 67 a6) then (cI s4 67 a6) else 0 - (cI s4 67 a6)) → cAt s4 4 a6 ∧ K4 s4 v0 (v1 + (x7.toInt64 * ((cI s4 66 a6).toInt64))) (v3 + 1)) s1 v0 v3)) s v0
def wpC_X0_sumCarried_4 (post : Int64 → CSt → Prop) (s : CSt) (v0 : Nat) (v1 : Int64) (v3 : Int32) : Prop := gLP (fun (K : CSt × Nat × Int64 × Int32 → Prop) (x : CSt × Nat × Int64 × Int32) => wpC_X0_sumCarried_4_F post (fun s v0 v1 v3 => K (s, v0, v1, v3)) x.1 x.2.1 x.2.2.1 x.2.2.2) (s, v0, v1, v3)
def wpC_X0_sumCarried_0 (post : Int64 → CSt → Prop) (s : CSt) (v0 : Nat) : Prop := wpC_X0_sumCarried_4 post s v0 0 0
theorem wkC_X0_sumCarried_4_F {X : gT} {G : cG} {A : Nat → Prop} {H0 : Heap} {Q : State → Prop} (C : cC X cX0_sumCarried 5 RX0 G A) (hsz : H0 = (g_s X).heap) (hR : 3 ≤ (g_R X).frames ∧ 64 ≤ (g_R X).locals ∧ 0 ≤ (g_R X).cells ∧ 0 ≤ (g_R X).slots) {post : Int64 → CSt → Prop} (hret : ∀ (r : Int64) (τ : CSt) (lv : List (Nat × Value)) (pc : Nat), post r τ → decode cX0_sumCarried pc = .ok (.lreturn, 1) → gJ X (cWd G A H0) Q 0 0 τ lv pc [.long r]) {K4 : CSt → Nat → Int64 → Int32 → Prop} (hK4 : ∀ (s : CSt) (v0 : Nat) (v1 : Int64) (v3 : Int32), K4 s v0 v1 v3 → gJ X (cWd G A H0) Q 0 0 s [(0, .ref v0), (1, .long v1), (3, .int v3)] 4 []) (s : CSt) (v0 : Nat) (v1 : Int64) (v3 : Int32) (hw : wpC_X0_sumCarried_4_F post K4 s v0 v1 v3) : gJ X (cWd G A H0) Q 0 0 s [(0, .ref v0), (1, .long v1), (3, .int v3)] 4 [] := by
  refine g_iload_n C.1 2 dX0_sumCarried_4 rfl rfl ?_
  refine g_aload_n C.1 0 dX0_sumCarried_5 rfl rfl ?_
  refine c_callVi (vs := []) C hsz (cC_Jx4a65c_size_8abf5 (g_l X) G s _ _ hw.2) kC_13 kC_10 kC_11 kC_12 kC_14 hdC_Jx4a65c_size_8abf5 (c_recv0 C hw.1) ⟨(Nat.le_trans (Nat.le_of_ble_eq_true rfl) hR.1), (Nat.le_trans (Nat.le_of_ble_eq_true rfl) hR.2.1)⟩ ⟨(Nat.le_trans (Nat.le_of_ble_eq_true rfl) hR.2.2.1), (Nat.le_trans (Nat.le_of_ble_eq_true rfl) hR.2.2.2)⟩ dX0_sumCarried_6 rfl (Nat.le_of_ble_eq_true rfl) (fun r2 s1 hw => ?_)
  refine g_icmp_ge (tgt := 47) C.1 dX0_sumCarried_9 (by decide) (fun h3 => ?_) (fun h3 => ?_)
  · replace hw := hw.1 h3
    refine g_lload_n C.1 1 dX0_sumCarried_47 rfl rfl ?_
    exact hret _ _ _ _ hw dX0_sumCarried_48
  · replace hw := hw.2 h3
    refine g_aload_n C.1 0 dX0_sumCarried_12 rfl rfl ?_
    refine g_iload_n C.1 2 dX0_sumCarried_13 rfl rfl ?_
    refine c_callVq (vs := [.int v3]) C hsz (cC_Jx4a65c_get_915e3 (g_l X) G s1 _ _ _ hw.2) kC_13 kC_16 kC_17 kC_18 kC_19 hdC_Jx4a65c_get_915e3 (c_recv0 C hw.1) ⟨(Nat.le_trans (Nat.le_of_ble_eq_true rfl) hR.1), (Nat.le_trans (Nat.le_of_ble_eq_true rfl) hR.2.1)⟩ ⟨(Nat.le_trans (Nat.le_of_ble_eq_true rfl) hR.2.2.1), (Nat.le_trans (Nat.le_of_ble_eq_true rfl) hR.2.2.2)⟩ dX0_sumCarried_14 rfl (Nat.le_of_ble_eq_true rfl) (fun r5 s4 hw => ?_)
    obtain ⟨a6, ha6, hw⟩ := hw
    rw [ha6]
    refine c_cast4 C hw.1 kC_8 dX0_sumCarried_17 ?_
    replace hw := hw.2
    refine g_astore (lv' := [(4, .ref a6), (0, .ref v0), (1, .long v1), (3, .int v3)]) C.1 dX0_sumCarried_20 (by decide) rfl ?_
    refine g_lload_n C.1 2 dX0_sumCarried_22 rfl rfl ?_
    refine g_aload C.1 0 dX0_sumCarried_23 rfl ?_
    refine c_get4 C hw.1 3 (by decide) kC_9 (fun _ h => h) rfl dX0_sumCarried_25 ?_
    replace hw := hw.2
    refine g_mabs C.1 C.2.1 (C.2.2.1 _ kC_73) (C.2.2.1 _ kC_74) (C.2.2.1 _ kC_4) (C.2.2.1 _ kC_75) (Nat.le_trans (Nat.le_of_ble_eq_true rfl) hR.1) (Nat.le_trans (Nat.le_of_ble_eq_true rfl) hR.2.1) (Nat.le_trans (Nat.le_of_ble_eq_true rfl) hR.2.2.1) (Nat.le_trans (Nat.le_of_ble_eq_true rfl) hR.2.2.2) dX0_sumCarried_28 ?_
    refine g_topi (fun x7 ex7 => ?_)
    replace hw := hw x7 ex7
    refine g_i2l C.1 dX0_sumCarried_31 ?_
    refine g_aload C.1 0 dX0_sumCarried_32 rfl ?_
    refine c_get4 C hw.1 2 (by decide) kC_43 (fun _ h => h) rfl dX0_sumCarried_34 ?_
    replace hw := hw.2
    refine g_i2l C.1 dX0_sumCarried_37 ?_
    refine g_lmul C.1 dX0_sumCarried_38 ?_
    refine g_ladd C.1 dX0_sumCarried_39 ?_
    refine g_lstore_n (lv' := [(1, .long (v1 + (x7.toInt64 * ((cI s4 66 a6).toInt64)))), (4, .ref a6), (0, .ref v0), (3, .int v3)]) C.1 dX0_sumCarried_40 rfl (by decide) rfl ?_
    refine g_iinc (v := v3 + 1) (lv' := [(3, .int (v3 + 1)), (1, .long (v1 + (x7.toInt64 * ((cI s4 66 a6).toInt64)))), (4, .ref a6), (0, .ref v0)]) C.1 3 dX0_sumCarried_41 rfl rfl (by decide) rfl ?_
    refine g_goto (tgt := 4) C.1 dX0_sumCarried_44 (by decide) ?_
    refine gJ.sub [3, 1, 0] rfl ?_
    exact hK4 _ _ _ _ hw
theorem wkC_X0_sumCarried_4 {X : gT} {G : cG} {A : Nat → Prop} {H0 : Heap} {Q : State → Prop} (C : cC X cX0_sumCarried 5 RX0 G A) (hsz : H0 = (g_s X).heap) (hR : 3 ≤ (g_R X).frames ∧ 64 ≤ (g_R X).locals ∧ 0 ≤ (g_R X).cells ∧ 0 ≤ (g_R X).slots) {post : Int64 → CSt → Prop} (hret : ∀ (r : Int64) (τ : CSt) (lv : List (Nat × Value)) (pc : Nat), post r τ → decode cX0_sumCarried pc = .ok (.lreturn, 1) → gJ X (cWd G A H0) Q 0 0 τ lv pc [.long r]) (s : CSt) (v0 : Nat) (v1 : Int64) (v3 : Int32) (hw : wpC_X0_sumCarried_4 post s v0 v1 v3) : gJ X (cWd G A H0) Q 0 0 s [(0, .ref v0), (1, .long v1), (3, .int v3)] 4 [] := 
  hw (fun (x : CSt × Nat × Int64 × Int32) => (fun s v0 v1 v3 => gJ X (cWd G A H0) Q 0 0 s [(0, .ref v0), (1, .long v1), (3, .int v3)] 4 []) x.1 x.2.1 x.2.2.1 x.2.2.2) (fun x hx => wkC_X0_sumCarried_4_F C hsz hR hret (K4 := (fun s v0 v1 v3 => gJ X (cWd G A H0) Q 0 0 s [(0, .ref v0), (1, .long v1), (3, .int v3)] 4 [])) (fun _ _ _ _ h => h) x.1 x.2.1 x.2.2.1 x.2.2.2 hx)
theorem wkC_X0_sumCarried_0 {X : gT} {G : cG} {A : Nat → Prop} {H0 : Heap} {Q : State → Prop} (C : cC X cX0_sumCarried 5 RX0 G A) (hsz : H0 = (g_s X).heap) (hR : 3 ≤ (g_R X).frames ∧ 64 ≤ (g_R X).locals ∧ 0 ≤ (g_R X).cells ∧ 0 ≤ (g_R X).slots) {post : Int64 → CSt → Prop} (hret : ∀ (r : Int64) (τ : CSt) (lv : List (Nat × Value)) (pc : Nat), post r τ → decode cX0_sumCarried pc = .ok (.lreturn, 1) → gJ X (cWd G A H0) Q 0 0 τ lv pc [.long r]) (s : CSt) (v0 : Nat) (hw : wpC_X0_sumCarried_0 post s v0) : gJ X (cWd G A H0) Q 0 0 s [(0, .ref v0)] 0 [] := by
  refine g_lconst (v := 0) C.1 dX0_sumCarried_0 (by decide) ?_
  refine g_lstore_n (lv' := [(1, .long 0), (0, .ref v0)]) C.1 dX0_sumCarried_1 rfl (by decide) rfl ?_
  refine g_iconst (v := 0) C.1 dX0_sumCarried_2 (by decide) ?_
  refine g_istore_n (lv' := [(3, .int 0), (1, .long 0), (0, .ref v0)]) C.1 dX0_sumCarried_3 rfl (by decide) rfl ?_
  refine gJ.sub [2, 1, 0] rfl ?_
  exact wkC_X0_sumCarried_4 C hsz hR hret _ _ _ _ hw
theorem hdC_X0_sumCarried : yX0_sumCarried.cls = RX0 ∧ yX0_sumCarried.cls ≠ "java/lang/invoke/MethodHandle" ∧ yX0_sumCarried.cls ≠ "java/lang/invoke/VarHandle" ∧ (parseMethodDescriptor yX0_sumCarried.desc).map (fun d => d.parameters.length) = some 1 := by decide +kernel
theorem cC_X0_sumCarried (l : Launch) (G : cG) (s : CSt) (v0 : Nat) (post : Int64 → CSt → Prop) (hw : wpC_X0_sumCarried_0 post s v0) : cMl l yX0_sumCarried cX0_sumCarried 5 3 64 0 0 G s [.ref v0] post := cMl_of (by decide +kernel) rfl (Nat.le_of_ble_eq_true rfl) (fun X A H0 Q hl hR hsz hnm C hret => wkC_X0_sumCarried_0 C hsz hR hret s v0 hw)
def wpC_X0_leastSum_52 (post : Int64 → CSt → Prop) (s : CSt) (v1 : Nat) : Prop := wpC_X0_sumCarried_0 (fun r2 s1 => post r2 s1) s v1
def wpC_X0_leastSum_7_F (post : Int64 → CSt → Prop) (K7 : CSt → Nat → Nat → Int32 → Prop) (s : CSt) (v0 : Nat) (v1 : Nat) (v2 : Int32) : Prop := (1000000 ≤ v2 → wpC_X0_leastSum_52 post s v1) ∧ (¬ 1000000 ≤ v2 → wpC_X0_anyMissing_0 (fun r5 s4 => (r5 = 0 → wpC_X0_leastSum_52 post s4 v1) ∧ (¬ r5 = 0 → wpC_X0_measure_0 (fun s7 => wpC_X0_nearestMissing_0 (fun r9 s8 => (r9 = none → post (-1) s8) ∧ (∀ a11 : Nat, r9 = some a11 → cAt s8 0 v0 ∧ wpC_Jx4a65c_size_8abf5_0 (fun r13 s12 => wpC_X0_carryTo_0 (fun s14 => K7 s14 v0 v1 (v2 + 1)) s12 a11 r13) s8 v0)) s7 v0) s4 v0 v1)) s v0)
def wpC_X0_leastSum_7 (post : Int64 → CSt → Prop) (s : CSt) (v0 : Nat) (v1 : Nat) (v2 : Int32) : Prop := gLP (fun (K : CSt × Nat × Nat × Int32 → Prop) (x : CSt × Nat × Nat × Int32) => wpC_X0_leastSum_7_F post (fun s v0 v1 v2 => K (s, v0, v1, v2)) x.1 x.2.1 x.2.2.1 x.2.2.2) (s, v0, v1, v2)
def wpC_X0_leastSum_0 (post : Int64 → CSt → Prop) (s : CSt) (v0 : Nat) (v1 : Nat) : Prop := wpC_X0_prepare_0 (fun s15 => wpC_X0_leastSum_7 post s15 v0 v1 0) s v0 v1
theorem wkC_X0_leastSum_52 {X : gT} {G : cG} {A : Nat → Prop} {H0 : Heap} {Q : State → Prop} (C : cC X cX0_leastSum 4 RX0 G A) (hsz : H0 = (g_s X).heap) (hR : 4 ≤ (g_R X).frames ∧ 89 ≤ (g_R X).locals ∧ 0 ≤ (g_R X).cells ∧ 0 ≤ (g_R X).slots) {post : Int64 → CSt → Prop} (hret : ∀ (r : Int64) (τ : CSt) (lv : List (Nat × Value)) (pc : Nat), post r τ → decode cX0_leastSum pc = .ok (.lreturn, 1) → gJ X (cWd G A H0) Q 0 0 τ lv pc [.long r]) (s : CSt) (v1 : Nat) (hw : wpC_X0_leastSum_52 post s v1) : gJ X (cWd G A H0) Q 0 0 s [(1, .ref v1)] 52 [] := by
  refine g_aload_n C.1 0 dX0_leastSum_52 rfl rfl ?_
  refine c_callSl (vs := [.ref v1]) C hsz (cC_X0_sumCarried (g_l X) G s _ _ hw) kC_62 kC_89 kC_90 kC_76 hdC_X0_sumCarried ⟨(Nat.le_trans (Nat.le_of_ble_eq_true rfl) hR.1), (Nat.le_trans (Nat.le_of_ble_eq_true rfl) hR.2.1)⟩ ⟨(Nat.le_trans (Nat.le_of_ble_eq_true rfl) hR.2.2.1), (Nat.le_trans (Nat.le_of_ble_eq_true rfl) hR.2.2.2)⟩ dX0_leastSum_53 rfl (Nat.le_of_ble_eq_true rfl) (fun r2 s1 hw => ?_)
  exact hret _ _ _ _ hw dX0_leastSum_56
theorem wkC_X0_leastSum_7_F {X : gT} {G : cG} {A : Nat → Prop} {H0 : Heap} {Q : State → Prop} (C : cC X cX0_leastSum 4 RX0 G A) (hsz : H0 = (g_s X).heap) (hR : 4 ≤ (g_R X).frames ∧ 89 ≤ (g_R X).locals ∧ 0 ≤ (g_R X).cells ∧ 0 ≤ (g_R X).slots) {post : Int64 → CSt → Prop} (hret : ∀ (r : Int64) (τ : CSt) (lv : List (Nat × Value)) (pc : Nat), post r τ → decode cX0_leastSum pc = .ok (.lreturn, 1) → gJ X (cWd G A H0) Q 0 0 τ lv pc [.long r]) {K7 : CSt → Nat → Nat → Int32 → Prop} (hK7 : ∀ (s : CSt) (v0 : Nat) (v1 : Nat) (v2 : Int32), K7 s v0 v1 v2 → gJ X (cWd G A H0) Q 0 0 s [(0, .ref v0), (1, .ref v1), (2, .int v2)] 7 []) (s : CSt) (v0 : Nat) (v1 : Nat) (v2 : Int32) (hw : wpC_X0_leastSum_7_F post K7 s v0 v1 v2) : gJ X (cWd G A H0) Q 0 0 s [(0, .ref v0), (1, .ref v1), (2, .int v2)] 7 [] := by
  refine g_iload_n C.1 2 dX0_leastSum_7 rfl rfl ?_
  refine g_ldc (v := 1000000) C.1 C.2.1 (C.2.2.1 _ kC_77) dX0_leastSum_8 ?_
  refine g_icmp_ge (tgt := 52) C.1 dX0_leastSum_10 (by decide) (fun h3 => ?_) (fun h3 => ?_)
  · replace hw := hw.1 h3
    refine gJ.sub [1] rfl ?_
    exact wkC_X0_leastSum_52 C hsz hR hret _ _ hw
  · replace hw := hw.2 h3
    refine g_aload_n C.1 0 dX0_leastSum_13 rfl rfl ?_
    refine c_callSi (vs := [.ref v0]) C hsz (cC_X0_anyMissing (g_l X) G s _ _ hw) kC_62 kC_81 kC_82 kC_40 hdC_X0_anyMissing ⟨(Nat.le_trans (Nat.le_of_ble_eq_true rfl) hR.1), (Nat.le_trans (Nat.le_of_ble_eq_true rfl) hR.2.1)⟩ ⟨(Nat.le_trans (Nat.le_of_ble_eq_true rfl) hR.2.2.1), (Nat.le_trans (Nat.le_of_ble_eq_true rfl) hR.2.2.2)⟩ dX0_leastSum_14 rfl (Nat.le_of_ble_eq_true rfl) (fun r5 s4 hw => ?_)
    refine g_if_eq (tgt := 52) C.1 dX0_leastSum_17 (by decide) (fun h6 => ?_) (fun h6 => ?_)
    · replace hw := hw.1 h6
      refine gJ.sub [1] rfl ?_
      exact wkC_X0_leastSum_52 C hsz hR hret _ _ hw
    · replace hw := hw.2 h6
      refine g_aload_n C.1 0 dX0_leastSum_20 rfl rfl ?_
      refine g_aload_n C.1 1 dX0_leastSum_21 rfl rfl ?_
      refine c_callSv (vs := [.ref v0, .ref v1]) C hsz (cC_X0_measure (g_l X) G s4 _ _ _ hw) kC_62 kC_83 kC_84 kC_63 hdC_X0_measure ⟨(Nat.le_trans (Nat.le_of_ble_eq_true rfl) hR.1), (Nat.le_trans (Nat.le_of_ble_eq_true rfl) hR.2.1)⟩ ⟨(Nat.le_trans (Nat.le_of_ble_eq_true rfl) hR.2.2.1), (Nat.le_trans (Nat.le_of_ble_eq_true rfl) hR.2.2.2)⟩ dX0_leastSum_22 rfl (Nat.le_of_ble_eq_true rfl) (fun s7 hw => ?_)
      refine g_aload_n C.1 0 dX0_leastSum_25 rfl rfl ?_
      refine c_callSq (vs := [.ref v0]) C hsz (cC_X0_nearestMissing (g_l X) G s7 _ _ hw) kC_62 kC_85 kC_86 kC_64 hdC_X0_nearestMissing ⟨(Nat.le_trans (Nat.le_of_ble_eq_true rfl) hR.1), (Nat.le_trans (Nat.le_of_ble_eq_true rfl) hR.2.1)⟩ ⟨(Nat.le_trans (Nat.le_of_ble_eq_true rfl) hR.2.2.1), (Nat.le_trans (Nat.le_of_ble_eq_true rfl) hR.2.2.2)⟩ dX0_leastSum_26 rfl (Nat.le_of_ble_eq_true rfl) (fun r9 s8 hw => ?_)
      refine g_qstore_n (lv' := [(3, va_rf r9), (0, .ref v0), (1, .ref v1), (2, .int v2)]) C.1 dX0_leastSum_29 rfl (by decide) rfl ?_
      refine g_qload_n C.1 0 dX0_leastSum_30 rfl rfl ?_
      refine g_ifnonnull (tgt := 38) C.1 dX0_leastSum_31 (by decide) (fun a11 h10 => ?_) (fun h10 => ?_)
      · replace hw := hw.2 a11 h10
        rw [h10]
        refine g_aload_n C.1 0 dX0_leastSum_38 rfl rfl ?_
        refine g_aload_n C.1 1 dX0_leastSum_39 rfl rfl ?_
        refine c_callVi (vs := []) C hsz (cC_Jx4a65c_size_8abf5 (g_l X) G s8 _ _ hw.2) kC_13 kC_10 kC_11 kC_12 kC_14 hdC_Jx4a65c_size_8abf5 (c_recv0 C hw.1) ⟨(Nat.le_trans (Nat.le_of_ble_eq_true rfl) hR.1), (Nat.le_trans (Nat.le_of_ble_eq_true rfl) hR.2.1)⟩ ⟨(Nat.le_trans (Nat.le_of_ble_eq_true rfl) hR.2.2.1), (Nat.le_trans (Nat.le_of_ble_eq_true rfl) hR.2.2.2)⟩ dX0_leastSum_40 rfl (Nat.le_of_ble_eq_true rfl) (fun r13 s12 hw => ?_)
        refine c_callSv (vs := [.ref a11, .int r13]) C hsz (cC_X0_carryTo (g_l X) G s12 _ _ _ hw) kC_62 kC_87 kC_88 kC_72 hdC_X0_carryTo ⟨(Nat.le_trans (Nat.le_of_ble_eq_true rfl) hR.1), (Nat.le_trans (Nat.le_of_ble_eq_true rfl) hR.2.1)⟩ ⟨(Nat.le_trans (Nat.le_of_ble_eq_true rfl) hR.2.2.1), (Nat.le_trans (Nat.le_of_ble_eq_true rfl) hR.2.2.2)⟩ dX0_leastSum_43 rfl (Nat.le_of_ble_eq_true rfl) (fun s14 hw => ?_)
        refine g_iinc (v := v2 + 1) (lv' := [(2, .int (v2 + 1)), (3, .ref a11), (0, .ref v0), (1, .ref v1)]) C.1 3 dX0_leastSum_46 rfl rfl (by decide) rfl ?_
        refine g_goto (tgt := 7) C.1 dX0_leastSum_49 (by decide) ?_
        refine gJ.sub [2, 3, 0] rfl ?_
        exact hK7 _ _ _ _ hw
      · replace hw := hw.1 h10
        refine g_ldc2 (v := (-1)) C.1 C.2.1 (C.2.2.1 _ kC_78) dX0_leastSum_34 ?_
        exact hret _ _ _ _ hw dX0_leastSum_37
theorem wkC_X0_leastSum_7 {X : gT} {G : cG} {A : Nat → Prop} {H0 : Heap} {Q : State → Prop} (C : cC X cX0_leastSum 4 RX0 G A) (hsz : H0 = (g_s X).heap) (hR : 4 ≤ (g_R X).frames ∧ 89 ≤ (g_R X).locals ∧ 0 ≤ (g_R X).cells ∧ 0 ≤ (g_R X).slots) {post : Int64 → CSt → Prop} (hret : ∀ (r : Int64) (τ : CSt) (lv : List (Nat × Value)) (pc : Nat), post r τ → decode cX0_leastSum pc = .ok (.lreturn, 1) → gJ X (cWd G A H0) Q 0 0 τ lv pc [.long r]) (s : CSt) (v0 : Nat) (v1 : Nat) (v2 : Int32) (hw : wpC_X0_leastSum_7 post s v0 v1 v2) : gJ X (cWd G A H0) Q 0 0 s [(0, .ref v0), (1, .ref v1), (2, .int v2)] 7 [] := 
  hw (fun (x : CSt × Nat × Nat × Int32) => (fun s v0 v1 v2 => gJ X (cWd G A H0) Q 0 0 s [(0, .ref v0), (1, .ref v1), (2, .int v2)] 7 []) x.1 x.2.1 x.2.2.1 x.2.2.2) (fun x hx => wkC_X0_leastSum_7_F C hsz hR hret (K7 := (fun s v0 v1 v2 => gJ X (cWd G A H0) Q 0 0 s [(0, .ref v0), (1, .ref v1), (2, .int v2)] 7 [])) (fun _ _ _ _ h => h) x.1 x.2.1 x.2.2.1 x.2.2.2 hx)
theorem wkC_X0_leastSum_0 {X : gT} {G : cG} {A : Nat → Prop} {H0 : Heap} {Q : State → Prop} (C : cC X cX0_leastSum 4 RX0 G A) (hsz : H0 = (g_s X).heap) (hR : 4 ≤ (g_R X).frames ∧ 89 ≤ (g_R X).locals ∧ 0 ≤ (g_R X).cells ∧ 0 ≤ (g_R X).slots) {post : Int64 → CSt → Prop} (hret : ∀ (r : Int64) (τ : CSt) (lv : List (Nat × Value)) (pc : Nat), post r τ → decode cX0_leastSum pc = .ok (.lreturn, 1) → gJ X (cWd G A H0) Q 0 0 τ lv pc [.long r]) (s : CSt) (v0 : Nat) (v1 : Nat) (hw : wpC_X0_leastSum_0 post s v0 v1) : gJ X (cWd G A H0) Q 0 0 s [(0, .ref v0), (1, .ref v1)] 0 [] := by
  refine g_aload_n C.1 0 dX0_leastSum_0 rfl rfl ?_
  refine g_aload_n C.1 1 dX0_leastSum_1 rfl rfl ?_
  refine c_callSv (vs := [.ref v0, .ref v1]) C hsz (cC_X0_prepare (g_l X) G s _ _ _ hw) kC_62 kC_79 kC_80 kC_39 hdC_X0_prepare ⟨(Nat.le_trans (Nat.le_of_ble_eq_true rfl) hR.1), (Nat.le_trans (Nat.le_of_ble_eq_true rfl) hR.2.1)⟩ ⟨(Nat.le_trans (Nat.le_of_ble_eq_true rfl) hR.2.2.1), (Nat.le_trans (Nat.le_of_ble_eq_true rfl) hR.2.2.2)⟩ dX0_leastSum_2 rfl (Nat.le_of_ble_eq_true rfl) (fun s15 hw => ?_)
  refine g_iconst (v := 0) C.1 dX0_leastSum_5 (by decide) ?_
  refine g_istore_n (lv' := [(2, .int 0), (0, .ref v0), (1, .ref v1)]) C.1 dX0_leastSum_6 rfl (by decide) rfl ?_
  refine gJ.sub [1, 2, 0] rfl ?_
  exact wkC_X0_leastSum_7 C hsz hR hret _ _ _ _ hw
theorem hdC_X0_leastSum : yX0_leastSum.cls = RX0 ∧ yX0_leastSum.cls ≠ "java/lang/invoke/MethodHandle" ∧ yX0_leastSum.cls ≠ "java/lang/invoke/VarHandle" ∧ (parseMethodDescriptor yX0_leastSum.desc).map (fun d => d.parameters.length) = some 2 := by decide +kernel
theorem cC_X0_leastSum (l : Launch) (G : cG) (s : CSt) (v0 : Nat) (v1 : Nat) (post : Int64 → CSt → Prop) (hw : wpC_X0_leastSum_0 post s v0 v1) : cMl l yX0_leastSum cX0_leastSum 4 4 89 0 0 G s [.ref v0, .ref v1] post := cMl_of (by decide +kernel) rfl (Nat.le_of_ble_eq_true rfl) (fun X A H0 Q hl hR hsz hnm C hret => wkC_X0_leastSum_0 C hsz hR hret s v0 v1 hw)
def wpC_X7_hasBit_0 (post : Int32 → CSt → Prop) (s : CSt) (v0 : Int32) (v1 : Int32) : Prop := (¬ ((v0 >>> (v1 &&& 31)) &&& 1) = 1 → post 0 s) ∧ (((v0 >>> (v1 &&& 31)) &&& 1) = 1 → post 1 s)
theorem wkC_X7_hasBit_0 {X : gT} {G : cG} {A : Nat → Prop} {H0 : Heap} {Q : State → Prop} (C : cC X cX7_hasBit 2 RX7 G A) (hsz : H0 = (g_s X).heap) (hR : 0 ≤ (g_R X).frames ∧ 0 ≤ (g_R X).locals ∧ 0 ≤ (g_R X).cells ∧ 0 ≤ (g_R X).slots) {post : Int32 → CSt → Prop} (hret : ∀ (r : Int32) (τ : CSt) (lv : List (Nat × Value)) (pc : Nat), post r τ → narrow .boolean (.int r) = .int r → decode cX7_hasBit pc = .ok (.ireturn, 1) → gJ X (cWd G A H0) Q 0 0 τ lv pc [.int r]) (s : CSt) (v0 : Int32) (v1 : Int32) (hw : wpC_X7_hasBit_0 post s v0 v1) : gJ X (cWd G A H0) Q 0 0 s [(0, .int v0), (1, .int v1)] 0 [] := by
  refine g_iload_n C.1 0 dX7_hasBit_0 rfl rfl ?_
  refine g_iload_n C.1 1 dX7_hasBit_1 rfl rfl ?_
  refine g_ishr C.1 dX7_hasBit_2 ?_
  refine g_iconst (v := 1) C.1 dX7_hasBit_3 (by decide) ?_
  refine g_iand C.1 dX7_hasBit_4 ?_
  refine g_iconst (v := 1) C.1 dX7_hasBit_5 (by decide) ?_
  refine g_icmp_ne (tgt := 13) C.1 dX7_hasBit_6 (by decide) (fun h1 => ?_) (fun h1 => ?_)
  · replace hw := hw.1 h1
    refine g_iconst (v := 0) C.1 dX7_hasBit_13 (by decide) ?_
    exact hret _ _ _ _ hw rfl dX7_hasBit_14
  · replace hw := hw.2 h1
    refine g_iconst (v := 1) C.1 dX7_hasBit_9 (by decide) ?_
    refine g_goto (tgt := 14) C.1 dX7_hasBit_10 (by decide) ?_
    exact hret _ _ _ _ hw rfl dX7_hasBit_14
theorem hdC_X7_hasBit : yX7_hasBit.cls = RX7 ∧ yX7_hasBit.cls ≠ "java/lang/invoke/MethodHandle" ∧ yX7_hasBit.cls ≠ "java/lang/invoke/VarHandle" ∧ (parseMethodDescriptor yX7_hasBit.desc).map (fun d => d.parameters.length) = some 2 := by decide +kernel
theorem cC_X7_hasBit (l : Launch) (G : cG) (s : CSt) (v0 : Int32) (v1 : Int32) (post : Int32 → CSt → Prop) (hw : wpC_X7_hasBit_0 post s v0 v1) : cMi l yX7_hasBit cX7_hasBit 2 .boolean 0 0 0 0 G s [.int v0, .int v1] post := cMi_of (by decide +kernel) rfl (Nat.le_of_ble_eq_true rfl) (fun X A H0 Q hl hR hsz hnm C hret => wkC_X7_hasBit_0 C hsz hR hret s v0 v1 hw)
def wpC_X7_compares_0 (post : Int32 → CSt → Prop) (s : CSt) (v0 : Int32) (v1 : Int32) (v2 : Int32) : Prop := (¬ ((v1 >>> (20 &&& 31)) &&& 15) = 9 → (¬ ((v1 >>> (20 &&& 31)) &&& 15) = 10 → (¬ v0 = v2 → post 0 s) ∧ (v0 = v2 → post 1 s)) ∧ (((v1 >>> (20 &&& 31)) &&& 15) = 10 → (v0 ≤ v2 → post 0 s) ∧ (¬ v0 ≤ v2 → post 1 s))) ∧ (((v1 >>> (20 &&& 31)) &&& 15) = 9 → (v2 ≤ v0 → post 0 s) ∧ (¬ v2 ≤ v0 → post 1 s))
theorem wkC_X7_compares_0 {X : gT} {G : cG} {A : Nat → Prop} {H0 : Heap} {Q : State → Prop} (C : cC X cX7_compares 4 RX7 G A) (hsz : H0 = (g_s X).heap) (hR : 0 ≤ (g_R X).frames ∧ 0 ≤ (g_R X).locals ∧ 0 ≤ (g_R X).cells ∧ 0 ≤ (g_R X).slots) {post : Int32 → CSt → Prop} (hret : ∀ (r : Int32) (τ : CSt) (lv : List (Nat × Value)) (pc : Nat), post r τ → narrow .boolean (.int r) = .int r → decode cX7_compares pc = .ok (.ireturn, 1) → gJ X (cWd G A H0) Q 0 0 τ lv pc [.int r]) (s : CSt) (v0 : Int32) (v1 : Int32) (v2 : Int32) (hw : wpC_X7_compares_0 post s v0 v1 v2) : gJ X (cWd G A H0) Q 0 0 s [(0, .int v0), (1, .int v1), (2, .int v2)] 0 [] := by
  refine g_iload_n C.1 1 dX7_compares_0 rfl rfl ?_
  refine g_bipush (v := 20) C.1 dX7_compares_1 (by decide) ?_
  refine g_ishr C.1 dX7_compares_3 ?_
  refine g_bipush (v := 15) C.1 dX7_compares_4 (by decide) ?_
  refine g_iand C.1 dX7_compares_6 ?_
  refine g_istore_n (lv' := [(3, .int ((v1 >>> (20 &&& 31)) &&& 15)), (0, .int v0), (1, .int v1), (2, .int v2)]) C.1 dX7_compares_7 rfl (by decide) rfl ?_
  refine g_iload_n C.1 0 dX7_compares_8 rfl rfl ?_
  refine g_bipush (v := 9) C.1 dX7_compares_9 (by decide) ?_
  refine g_icmp_ne (tgt := 25) C.1 dX7_compares_11 (by decide) (fun h1 => ?_) (fun h1 => ?_)
  · replace hw := hw.1 h1
    refine g_iload_n C.1 0 dX7_compares_25 rfl rfl ?_
    refine g_bipush (v := 10) C.1 dX7_compares_26 (by decide) ?_
    refine g_icmp_ne (tgt := 44) C.1 dX7_compares_28 (by decide) (fun h2 => ?_) (fun h2 => ?_)
    · replace hw := hw.1 h2
      refine g_iload_n C.1 1 dX7_compares_44 rfl rfl ?_
      refine g_iload_n C.1 3 dX7_compares_45 rfl rfl ?_
      refine g_icmp_ne (tgt := 53) C.1 dX7_compares_46 (by decide) (fun h3 => ?_) (fun h3 => ?_)
      · replace hw := hw.1 h3
        refine g_iconst (v := 0) C.1 dX7_compares_53 (by decide) ?_
        exact hret _ _ _ _ hw rfl dX7_compares_54
      · replace hw := hw.2 h3
        refine g_iconst (v := 1) C.1 dX7_compares_49 (by decide) ?_
        refine g_goto (tgt := 54) C.1 dX7_compares_50 (by decide) ?_
        exact hret _ _ _ _ hw rfl dX7_compares_54
    · replace hw := hw.2 h2
      refine g_iload_n C.1 1 dX7_compares_31 rfl rfl ?_
      refine g_iload_n C.1 3 dX7_compares_32 rfl rfl ?_
      refine g_icmp_le (tgt := 40) C.1 dX7_compares_33 (by decide) (fun h4 => ?_) (fun h4 => ?_)
      · replace hw := hw.1 h4
        refine g_iconst (v := 0) C.1 dX7_compares_40 (by decide) ?_
        refine g_goto (tgt := 54) C.1 dX7_compares_41 (by decide) ?_
        exact hret _ _ _ _ hw rfl dX7_compares_54
      · replace hw := hw.2 h4
        refine g_iconst (v := 1) C.1 dX7_compares_36 (by decide) ?_
        refine g_goto (tgt := 54) C.1 dX7_compares_37 (by decide) ?_
        exact hret _ _ _ _ hw rfl dX7_compares_54
  · replace hw := hw.2 h1
    refine g_iload_n C.1 1 dX7_compares_14 rfl rfl ?_
    refine g_iload_n C.1 3 dX7_compares_15 rfl rfl ?_
    refine g_icmp_ge (tgt := 23) C.1 dX7_compares_16 (by decide) (fun h5 => ?_) (fun h5 => ?_)
    · replace hw := hw.1 h5
      refine g_iconst (v := 0) C.1 dX7_compares_23 (by decide) ?_
      exact hret _ _ _ _ hw rfl dX7_compares_24
    · replace hw := hw.2 h5
      refine g_iconst (v := 1) C.1 dX7_compares_19 (by decide) ?_
      refine g_goto (tgt := 24) C.1 dX7_compares_20 (by decide) ?_
      exact hret _ _ _ _ hw rfl dX7_compares_24
theorem hdC_X7_compares : yX7_compares.cls = RX7 ∧ yX7_compares.cls ≠ "java/lang/invoke/MethodHandle" ∧ yX7_compares.cls ≠ "java/lang/invoke/VarHandle" ∧ (parseMethodDescriptor yX7_compares.desc).map (fun d => d.parameters.length) = some 3 := by decide +kernel
theorem cC_X7_compares (l : Launch) (G : cG) (s : CSt) (v0 : Int32) (v1 : Int32) (v2 : Int32) (post : Int32 → CSt → Prop) (hw : wpC_X7_compares_0 post s v0 v1 v2) : cMi l yX7_compares cX7_compares 4 .boolean 0 0 0 0 G s [.int v0, .int v1, .int v2] post := cMi_of (by decide +kernel) rfl (Nat.le_of_ble_eq_true rfl) (fun X A H0 Q hl hR hsz hnm C hret => wkC_X7_compares_0 C hsz hR hret s v0 v1 v2 hw)
def wpC_X7_isRunning_0 (post : Int32 → CSt → Prop) (s : CSt) (v0 : Nat) (v1 : Nat) : Prop := cAt s 3 v1 ∧ (¬ (cI s 56 v1) = 0 → post 0 s) ∧ ((cI s 56 v1) = 0 → cAt s 7 v0 ∧ cAt s 3 v1 ∧ ((cI s 53 v1) < (cI s 120 v0) → post 0 s) ∧ (¬ (cI s 53 v1) < (cI s 120 v0) → post 1 s))
theorem wkC_X7_isRunning_0 {X : gT} {G : cG} {A : Nat → Prop} {H0 : Heap} {Q : State → Prop} (C : cC X cX7_isRunning 2 RX7 G A) (hsz : H0 = (g_s X).heap) (hR : 0 ≤ (g_R X).frames ∧ 0 ≤ (g_R X).locals ∧ 0 ≤ (g_R X).cells ∧ 0 ≤ (g_R X).slots) {post : Int32 → CSt → Prop} (hret : ∀ (r : Int32) (τ : CSt) (lv : List (Nat × Value)) (pc : Nat), post r τ → narrow .boolean (.int r) = .int r → decode cX7_isRunning pc = .ok (.ireturn, 1) → gJ X (cWd G A H0) Q 0 0 τ lv pc [.int r]) (s : CSt) (v0 : Nat) (v1 : Nat) (hw : wpC_X7_isRunning_0 post s v0 v1) : gJ X (cWd G A H0) Q 0 0 s [(0, .ref v0), (1, .ref v1)] 0 [] := by
  refine g_aload_n C.1 1 dX7_isRunning_0 rfl rfl ?_
  refine c_get3 C hw.1 8 (by decide) kC_457 (fun _ h => h) rfl dX7_isRunning_1 ?_
  replace hw := hw.2
  refine g_if_ne (tgt := 22) C.1 dX7_isRunning_4 (by decide) (fun h1 => ?_) (fun h1 => ?_)
  · replace hw := hw.1 h1
    refine g_iconst (v := 0) C.1 dX7_isRunning_22 (by decide) ?_
    exact hret _ _ _ _ hw rfl dX7_isRunning_23
  · replace hw := hw.2 h1
    refine g_aload_n C.1 0 dX7_isRunning_7 rfl rfl ?_
    refine c_get7 C hw.1 8 (by decide) kC_458 (fun _ h => h) rfl dX7_isRunning_8 ?_
    replace hw := hw.2
    refine g_aload_n C.1 1 dX7_isRunning_11 rfl rfl ?_
    refine c_get3 C hw.1 5 (by decide) kC_459 (fun _ h => h) rfl dX7_isRunning_12 ?_
    replace hw := hw.2
    refine g_icmp_gt (tgt := 22) C.1 dX7_isRunning_15 (by decide) (fun h2 => ?_) (fun h2 => ?_)
    · replace hw := hw.1 h2
      refine g_iconst (v := 0) C.1 dX7_isRunning_22 (by decide) ?_
      exact hret _ _ _ _ hw rfl dX7_isRunning_23
    · replace hw := hw.2 h2
      refine g_iconst (v := 1) C.1 dX7_isRunning_18 (by decide) ?_
      refine g_goto (tgt := 23) C.1 dX7_isRunning_19 (by decide) ?_
      exact hret _ _ _ _ hw rfl dX7_isRunning_23
theorem hdC_X7_isRunning : yX7_isRunning.cls = RX7 ∧ yX7_isRunning.cls ≠ "java/lang/invoke/MethodHandle" ∧ yX7_isRunning.cls ≠ "java/lang/invoke/VarHandle" ∧ (parseMethodDescriptor yX7_isRunning.desc).map (fun d => d.parameters.length) = some 1 := by decide +kernel
theorem cC_X7_isRunning (l : Launch) (G : cG) (s : CSt) (v0 : Nat) (v1 : Nat) (post : Int32 → CSt → Prop) (hw : wpC_X7_isRunning_0 post s v0 v1) : cMi l yX7_isRunning cX7_isRunning 2 .boolean 0 0 0 0 G s [.ref v0, .ref v1] post := cMi_of (by decide +kernel) rfl (Nat.le_of_ble_eq_true rfl) (fun X A H0 Q hl hR hsz hnm C hret => wkC_X7_isRunning_0 C hsz hR hret s v0 v1 hw)
def wpC_X7_liftAt_15 (post : Option Nat → CSt → Prop) (pX : String → CSt → Prop) (s : CSt) : Prop := pX "java/lang/IndexOutOfBoundsException" s
def wpC_X7_liftAt_0 (post : Option Nat → CSt → Prop) (pX : String → CSt → Prop) (s : CSt) (v0 : Nat) (v1 : Int32) : Prop := (v1 < 0 → wpC_X7_liftAt_15 post pX s) ∧ (¬ v1 < 0 → cAt s 7 v0 ∧ ∃ a2 : Nat, cR s 112 v0 = some a2 ∧ cAt s 0 a2 ∧ wpC_Jx4a65c_size_8abf5_0 (fun r4 s3 => (v1 < r4 → cAt s3 7 v0 ∧ ∃ a6 : Nat, cR s3 112 v0 = some a6 ∧ cAt s3 0 a6 ∧ wpC_Jx4a65c_get_915e3_0 (fun r8 s7 => ∃ a9 : Nat, r8 = some a9 ∧ cAt s7 3 a9 ∧ post (some a9) s7) s3 a6 v1) ∧ (¬ v1 < r4 → wpC_X7_liftAt_15 post pX s3)) s a2)
theorem wkC_X7_liftAt_15 {X : gT} {G : cG} {A : Nat → Prop} {H0 : Heap} {Q : State → Prop} (C : cC X cX7_liftAt 2 RX7 G A) (hsz : H0 = (g_s X).heap) (hR : 6 ≤ (g_R X).frames ∧ 89 ≤ (g_R X).locals ∧ 1 ≤ (g_R X).cells ∧ 6 ≤ (g_R X).slots) {pX : String → CSt → Prop} (hfl : (g_l X).stackTraces = false) (hout : ∀ (E : String) (τ : CSt) (lv : List (Nat × Value)) (pc k n : Nat) (rest : List Value), pX E τ → k ≤ 1 → n ≤ 6 → gX X (cWd G A H0) Q k n τ lv pc rest E) (hthr : ∀ (j : Nat) (τ : CSt) (lv : List (Nat × Value)) (pc k n ik : Nat) (rest : List Value), j < 5 → pX (cNm j) τ → k + 1 ≤ 1 → n + 6 ≤ 6 → (rest.map fun v => v.category).sum ≤ 8 → Cond.classLink RX7 ik (cNm j) ∈ wC → Cond.initialized (cNm j) ∈ wC → decode cX7_liftAt pc = .ok (.new ik, 3) → decode cX7_liftAt (pc + 3) = .ok (.dup, 1) → decode cX7_liftAt (pc + 4) = .ok (.invokespecial (cNi j), 3) → decode cX7_liftAt (pc + 7) = .ok (.athrow, 1) → gJ X (cWd G A H0) Q k n τ lv pc rest) {post : Option Nat → CSt → Prop} (hret : ∀ (r : Option Nat) (τ : CSt) (lv : List (Nat × Value)) (pc : Nat), post r τ → decode cX7_liftAt pc = .ok (.areturn, 1) → gJ X (cWd G A H0) Q 1 6 τ lv pc [va_rf r]) (s : CSt) (hw : wpC_X7_liftAt_15 post pX s) : gJ X (cWd G A H0) Q 0 0 s [] 15 [] := by
  exact hthr 0 _ _ _ _ _ _ _ (by decide) hw (Nat.le_of_ble_eq_true rfl) (Nat.le_of_ble_eq_true rfl) (Nat.le_of_ble_eq_true rfl) kC_415 kC_416 dX7_liftAt_15 dX7_liftAt_18 dX7_liftAt_19 dX7_liftAt_22
theorem wkC_X7_liftAt_0 {X : gT} {G : cG} {A : Nat → Prop} {H0 : Heap} {Q : State → Prop} (C : cC X cX7_liftAt 2 RX7 G A) (hsz : H0 = (g_s X).heap) (hR : 6 ≤ (g_R X).frames ∧ 89 ≤ (g_R X).locals ∧ 1 ≤ (g_R X).cells ∧ 6 ≤ (g_R X).slots) {pX : String → CSt → Prop} (hfl : (g_l X).stackTraces = false) (hout : ∀ (E : String) (τ : CSt) (lv : List (Nat × Value)) (pc k n : Nat) (rest : List Value), pX E τ → k ≤ 1 → n ≤ 6 → gX X (cWd G A H0) Q k n τ lv pc rest E) (hthr : ∀ (j : Nat) (τ : CSt) (lv : List (Nat × Value)) (pc k n ik : Nat) (rest : List Value), j < 5 → pX (cNm j) τ → k + 1 ≤ 1 → n + 6 ≤ 6 → (rest.map fun v => v.category).sum ≤ 8 → Cond.classLink RX7 ik (cNm j) ∈ wC → Cond.initialized (cNm j) ∈ wC → decode cX7_liftAt pc = .ok (.new ik, 3) → decode cX7_liftAt (pc + 3) = .ok (.dup, 1) → decode cX7_liftAt (pc + 4) = .ok (.invokespecial (cNi j), 3) → decode cX7_liftAt (pc + 7) = .ok (.athrow, 1) → gJ X (cWd G A H0) Q k n τ lv pc rest) {post : Option Nat → CSt → Prop} (hret : ∀ (r : Option Nat) (τ : CSt) (lv : List (Nat × Value)) (pc : Nat), post r τ → decode cX7_liftAt pc = .ok (.areturn, 1) → gJ X (cWd G A H0) Q 1 6 τ lv pc [va_rf r]) (s : CSt) (v0 : Nat) (v1 : Int32) (hw : wpC_X7_liftAt_0 post pX s v0 v1) : gJ X (cWd G A H0) Q 0 0 s [(0, .ref v0), (1, .int v1)] 0 [] := by
  refine g_iload_n C.1 1 dX7_liftAt_0 rfl rfl ?_
  refine g_if_lt (tgt := 15) C.1 dX7_liftAt_1 (by decide) (fun h1 => ?_) (fun h1 => ?_)
  · replace hw := hw.1 h1
    refine gJ.sub [] rfl ?_
    exact wkC_X7_liftAt_15 C hsz hR hfl hout hthr hret _ hw
  · replace hw := hw.2 h1
    refine g_iload_n C.1 1 dX7_liftAt_4 rfl rfl ?_
    refine g_aload_n C.1 0 dX7_liftAt_5 rfl rfl ?_
    refine c_get7 C hw.1 0 (by decide) kC_394 (fun _ h => h) rfl dX7_liftAt_6 ?_
    replace hw := hw.2
    obtain ⟨a2, ha2, hw⟩ := hw
    rw [ha2]
    refine c_callVi (vs := []) C hsz (cC_Jx4a65c_size_8abf5 (g_l X) G s _ _ hw.2) kC_13 kC_431 kC_11 kC_12 kC_14 hdC_Jx4a65c_size_8abf5 (c_recv0 C hw.1) ⟨(Nat.le_trans (Nat.le_of_ble_eq_true rfl) hR.1), (Nat.le_trans (Nat.le_of_ble_eq_true rfl) hR.2.1)⟩ ⟨(Nat.le_trans (Nat.le_of_ble_eq_true rfl) hR.2.2.1), (Nat.le_trans (Nat.le_of_ble_eq_true rfl) hR.2.2.2)⟩ dX7_liftAt_9 rfl (Nat.le_of_ble_eq_true rfl) (fun r4 s3 hw => ?_)
    refine g_icmp_lt (tgt := 23) C.1 dX7_liftAt_12 (by decide) (fun h5 => ?_) (fun h5 => ?_)
    · replace hw := hw.1 h5
      refine g_aload_n C.1 0 dX7_liftAt_23 rfl rfl ?_
      refine c_get7 C hw.1 0 (by decide) kC_394 (fun _ h => h) rfl dX7_liftAt_24 ?_
      replace hw := hw.2
      obtain ⟨a6, ha6, hw⟩ := hw
      rw [ha6]
      refine g_iload_n C.1 1 dX7_liftAt_27 rfl rfl ?_
      refine c_callVq (vs := [.int v1]) C hsz (cC_Jx4a65c_get_915e3 (g_l X) G s3 _ _ _ hw.2) kC_13 kC_455 kC_17 kC_18 kC_19 hdC_Jx4a65c_get_915e3 (c_recv0 C hw.1) ⟨(Nat.le_trans (Nat.le_of_ble_eq_true rfl) hR.1), (Nat.le_trans (Nat.le_of_ble_eq_true rfl) hR.2.1)⟩ ⟨(Nat.le_trans (Nat.le_of_ble_eq_true rfl) hR.2.2.1), (Nat.le_trans (Nat.le_of_ble_eq_true rfl) hR.2.2.2)⟩ dX7_liftAt_28 rfl (Nat.le_of_ble_eq_true rfl) (fun r8 s7 hw => ?_)
      obtain ⟨a9, ha9, hw⟩ := hw
      rw [ha9]
      refine c_cast3 C hw.1 kC_454 dX7_liftAt_31 ?_
      replace hw := hw.2
      refine gJ.widen (k' := 1) (n' := 6) (Nat.le_of_ble_eq_true rfl) (Nat.le_of_ble_eq_true rfl) ?_
      exact hret (some a9) _ _ _ hw dX7_liftAt_34
    · replace hw := hw.2 h5
      refine gJ.sub [] rfl ?_
      exact wkC_X7_liftAt_15 C hsz hR hfl hout hthr hret _ hw
theorem hdC_X7_liftAt : yX7_liftAt.cls = RX7 ∧ yX7_liftAt.cls ≠ "java/lang/invoke/MethodHandle" ∧ yX7_liftAt.cls ≠ "java/lang/invoke/VarHandle" ∧ (parseMethodDescriptor yX7_liftAt.desc).map (fun d => d.parameters.length) = some 1 := by decide +kernel
theorem cC_X7_liftAt (l : Launch) (hfl : l.stackTraces = false) (G : cG) (s : CSt) (v0 : Nat) (v1 : Int32) (post : Option Nat → CSt → Prop) (pX : String → CSt → Prop) (hw : wpC_X7_liftAt_0 post pX s v0 v1) : cTq l yX7_liftAt cX7_liftAt 2 (.object "SkiHill$Lift") 6 89 1 6 G s [.ref v0, .int v1] post pX := cTq_of hfl (by decide +kernel) rfl rfl (by first | exact Or.inl ⟨_, rfl⟩ | exact Or.inr ⟨_, rfl⟩) (Nat.le_of_ble_eq_true rfl) ⟨by decide, by decide, by decide, by decide⟩ (fun X A H0 Q hl hR hsz C hret hout hthr => wkC_X7_liftAt_0 C hsz hR (by rw [hl]; exact hfl) hout hthr hret s v0 v1 hw)
def wpC_X7_slopeAt_15 (post : Option Nat → CSt → Prop) (pX : String → CSt → Prop) (s : CSt) : Prop := pX "java/lang/IndexOutOfBoundsException" s
def wpC_X7_slopeAt_0 (post : Option Nat → CSt → Prop) (pX : String → CSt → Prop) (s : CSt) (v0 : Nat) (v1 : Int32) : Prop := (v1 < 0 → wpC_X7_slopeAt_15 post pX s) ∧ (¬ v1 < 0 → cAt s 7 v0 ∧ ∃ a2 : Nat, cR s 113 v0 = some a2 ∧ cAt s 0 a2 ∧ wpC_Jx4a65c_size_8abf5_0 (fun r4 s3 => (v1 < r4 → cAt s3 7 v0 ∧ ∃ a6 : Nat, cR s3 113 v0 = some a6 ∧ cAt s3 0 a6 ∧ wpC_Jx4a65c_get_915e3_0 (fun r8 s7 => ∃ a9 : Nat, r8 = some a9 ∧ cAt s7 6 a9 ∧ post (some a9) s7) s3 a6 v1) ∧ (¬ v1 < r4 → wpC_X7_slopeAt_15 post pX s3)) s a2)
theorem wkC_X7_slopeAt_15 {X : gT} {G : cG} {A : Nat → Prop} {H0 : Heap} {Q : State → Prop} (C : cC X cX7_slopeAt 2 RX7 G A) (hsz : H0 = (g_s X).heap) (hR : 6 ≤ (g_R X).frames ∧ 89 ≤ (g_R X).locals ∧ 1 ≤ (g_R X).cells ∧ 6 ≤ (g_R X).slots) {pX : String → CSt → Prop} (hfl : (g_l X).stackTraces = false) (hout : ∀ (E : String) (τ : CSt) (lv : List (Nat × Value)) (pc k n : Nat) (rest : List Value), pX E τ → k ≤ 1 → n ≤ 6 → gX X (cWd G A H0) Q k n τ lv pc rest E) (hthr : ∀ (j : Nat) (τ : CSt) (lv : List (Nat × Value)) (pc k n ik : Nat) (rest : List Value), j < 5 → pX (cNm j) τ → k + 1 ≤ 1 → n + 6 ≤ 6 → (rest.map fun v => v.category).sum ≤ 8 → Cond.classLink RX7 ik (cNm j) ∈ wC → Cond.initialized (cNm j) ∈ wC → decode cX7_slopeAt pc = .ok (.new ik, 3) → decode cX7_slopeAt (pc + 3) = .ok (.dup, 1) → decode cX7_slopeAt (pc + 4) = .ok (.invokespecial (cNi j), 3) → decode cX7_slopeAt (pc + 7) = .ok (.athrow, 1) → gJ X (cWd G A H0) Q k n τ lv pc rest) {post : Option Nat → CSt → Prop} (hret : ∀ (r : Option Nat) (τ : CSt) (lv : List (Nat × Value)) (pc : Nat), post r τ → decode cX7_slopeAt pc = .ok (.areturn, 1) → gJ X (cWd G A H0) Q 1 6 τ lv pc [va_rf r]) (s : CSt) (hw : wpC_X7_slopeAt_15 post pX s) : gJ X (cWd G A H0) Q 0 0 s [] 15 [] := by
  exact hthr 0 _ _ _ _ _ _ _ (by decide) hw (Nat.le_of_ble_eq_true rfl) (Nat.le_of_ble_eq_true rfl) (Nat.le_of_ble_eq_true rfl) kC_415 kC_416 dX7_slopeAt_15 dX7_slopeAt_18 dX7_slopeAt_19 dX7_slopeAt_22
theorem wkC_X7_slopeAt_0 {X : gT} {G : cG} {A : Nat → Prop} {H0 : Heap} {Q : State → Prop} (C : cC X cX7_slopeAt 2 RX7 G A) (hsz : H0 = (g_s X).heap) (hR : 6 ≤ (g_R X).frames ∧ 89 ≤ (g_R X).locals ∧ 1 ≤ (g_R X).cells ∧ 6 ≤ (g_R X).slots) {pX : String → CSt → Prop} (hfl : (g_l X).stackTraces = false) (hout : ∀ (E : String) (τ : CSt) (lv : List (Nat × Value)) (pc k n : Nat) (rest : List Value), pX E τ → k ≤ 1 → n ≤ 6 → gX X (cWd G A H0) Q k n τ lv pc rest E) (hthr : ∀ (j : Nat) (τ : CSt) (lv : List (Nat × Value)) (pc k n ik : Nat) (rest : List Value), j < 5 → pX (cNm j) τ → k + 1 ≤ 1 → n + 6 ≤ 6 → (rest.map fun v => v.category).sum ≤ 8 → Cond.classLink RX7 ik (cNm j) ∈ wC → Cond.initialized (cNm j) ∈ wC → decode cX7_slopeAt pc = .ok (.new ik, 3) → decode cX7_slopeAt (pc + 3) = .ok (.dup, 1) → decode cX7_slopeAt (pc + 4) = .ok (.invokespecial (cNi j), 3) → decode cX7_slopeAt (pc + 7) = .ok (.athrow, 1) → gJ X (cWd G A H0) Q k n τ lv pc rest) {post : Option Nat → CSt → Prop} (hret : ∀ (r : Option Nat) (τ : CSt) (lv : List (Nat × Value)) (pc : Nat), post r τ → decode cX7_slopeAt pc = .ok (.areturn, 1) → gJ X (cWd G A H0) Q 1 6 τ lv pc [va_rf r]) (s : CSt) (v0 : Nat) (v1 : Int32) (hw : wpC_X7_slopeAt_0 post pX s v0 v1) : gJ X (cWd G A H0) Q 0 0 s [(0, .ref v0), (1, .int v1)] 0 [] := by
  refine g_iload_n C.1 1 dX7_slopeAt_0 rfl rfl ?_
  refine g_if_lt (tgt := 15) C.1 dX7_slopeAt_1 (by decide) (fun h1 => ?_) (fun h1 => ?_)
  · replace hw := hw.1 h1
    refine gJ.sub [] rfl ?_
    exact wkC_X7_slopeAt_15 C hsz hR hfl hout hthr hret _ hw
  · replace hw := hw.2 h1
    refine g_iload_n C.1 1 dX7_slopeAt_4 rfl rfl ?_
    refine g_aload_n C.1 0 dX7_slopeAt_5 rfl rfl ?_
    refine c_get7 C hw.1 1 (by decide) kC_395 (fun _ h => h) rfl dX7_slopeAt_6 ?_
    replace hw := hw.2
    obtain ⟨a2, ha2, hw⟩ := hw
    rw [ha2]
    refine c_callVi (vs := []) C hsz (cC_Jx4a65c_size_8abf5 (g_l X) G s _ _ hw.2) kC_13 kC_431 kC_11 kC_12 kC_14 hdC_Jx4a65c_size_8abf5 (c_recv0 C hw.1) ⟨(Nat.le_trans (Nat.le_of_ble_eq_true rfl) hR.1), (Nat.le_trans (Nat.le_of_ble_eq_true rfl) hR.2.1)⟩ ⟨(Nat.le_trans (Nat.le_of_ble_eq_true rfl) hR.2.2.1), (Nat.le_trans (Nat.le_of_ble_eq_true rfl) hR.2.2.2)⟩ dX7_slopeAt_9 rfl (Nat.le_of_ble_eq_true rfl) (fun r4 s3 hw => ?_)
    refine g_icmp_lt (tgt := 23) C.1 dX7_slopeAt_12 (by decide) (fun h5 => ?_) (fun h5 => ?_)
    · replace hw := hw.1 h5
      refine g_aload_n C.1 0 dX7_slopeAt_23 rfl rfl ?_
      refine c_get7 C hw.1 1 (by decide) kC_395 (fun _ h => h) rfl dX7_slopeAt_24 ?_
      replace hw := hw.2
      obtain ⟨a6, ha6, hw⟩ := hw
      rw [ha6]
      refine g_iload_n C.1 1 dX7_slopeAt_27 rfl rfl ?_
      refine c_callVq (vs := [.int v1]) C hsz (cC_Jx4a65c_get_915e3 (g_l X) G s3 _ _ _ hw.2) kC_13 kC_455 kC_17 kC_18 kC_19 hdC_Jx4a65c_get_915e3 (c_recv0 C hw.1) ⟨(Nat.le_trans (Nat.le_of_ble_eq_true rfl) hR.1), (Nat.le_trans (Nat.le_of_ble_eq_true rfl) hR.2.1)⟩ ⟨(Nat.le_trans (Nat.le_of_ble_eq_true rfl) hR.2.2.1), (Nat.le_trans (Nat.le_of_ble_eq_true rfl) hR.2.2.2)⟩ dX7_slopeAt_28 rfl (Nat.le_of_ble_eq_true rfl) (fun r8 s7 hw => ?_)
      obtain ⟨a9, ha9, hw⟩ := hw
      rw [ha9]
      refine c_cast6 C hw.1 kC_470 dX7_slopeAt_31 ?_
      replace hw := hw.2
      refine gJ.widen (k' := 1) (n' := 6) (Nat.le_of_ble_eq_true rfl) (Nat.le_of_ble_eq_true rfl) ?_
      exact hret (some a9) _ _ _ hw dX7_slopeAt_34
    · replace hw := hw.2 h5
      refine gJ.sub [] rfl ?_
      exact wkC_X7_slopeAt_15 C hsz hR hfl hout hthr hret _ hw
theorem hdC_X7_slopeAt : yX7_slopeAt.cls = RX7 ∧ yX7_slopeAt.cls ≠ "java/lang/invoke/MethodHandle" ∧ yX7_slopeAt.cls ≠ "java/lang/invoke/VarHandle" ∧ (parseMethodDescriptor yX7_slopeAt.desc).map (fun d => d.parameters.length) = some 1 := by decide +kernel
theorem cC_X7_slopeAt (l : Launch) (hfl : l.stackTraces = false) (G : cG) (s : CSt) (v0 : Nat) (v1 : Int32) (post : Option Nat → CSt → Prop) (pX : String → CSt → Prop) (hw : wpC_X7_slopeAt_0 post pX s v0 v1) : cTq l yX7_slopeAt cX7_slopeAt 2 (.object "SkiHill$Slope") 6 89 1 6 G s [.ref v0, .int v1] post pX := cTq_of hfl (by decide +kernel) rfl rfl (by first | exact Or.inl ⟨_, rfl⟩ | exact Or.inr ⟨_, rfl⟩) (Nat.le_of_ble_eq_true rfl) ⟨by decide, by decide, by decide, by decide⟩ (fun X A H0 Q hl hR hsz C hret hout hthr => wkC_X7_slopeAt_0 C hsz hR (by rw [hl]; exact hfl) hout hthr hret s v0 v1 hw)
def wpC_X7_cellAt_15 (post : Option Nat → CSt → Prop) (pX : String → CSt → Prop) (s : CSt) : Prop := pX "java/lang/IndexOutOfBoundsException" s
def wpC_X7_cellAt_0 (post : Option Nat → CSt → Prop) (pX : String → CSt → Prop) (s : CSt) (v0 : Nat) (v1 : Int32) : Prop := (v1 < 0 → wpC_X7_cellAt_15 post pX s) ∧ (¬ v1 < 0 → cAt s 7 v0 ∧ ∃ a2 : Nat, cR s 114 v0 = some a2 ∧ cAt s 0 a2 ∧ wpC_Jx4a65c_size_8abf5_0 (fun r4 s3 => (v1 < r4 → cAt s3 7 v0 ∧ ∃ a6 : Nat, cR s3 114 v0 = some a6 ∧ cAt s3 0 a6 ∧ wpC_Jx4a65c_get_915e3_0 (fun r8 s7 => ∃ a9 : Nat, r8 = some a9 ∧ cAt s7 1 a9 ∧ post (some a9) s7) s3 a6 v1) ∧ (¬ v1 < r4 → wpC_X7_cellAt_15 post pX s3)) s a2)
theorem wkC_X7_cellAt_15 {X : gT} {G : cG} {A : Nat → Prop} {H0 : Heap} {Q : State → Prop} (C : cC X cX7_cellAt 2 RX7 G A) (hsz : H0 = (g_s X).heap) (hR : 6 ≤ (g_R X).frames ∧ 89 ≤ (g_R X).locals ∧ 1 ≤ (g_R X).cells ∧ 6 ≤ (g_R X).slots) {pX : String → CSt → Prop} (hfl : (g_l X).stackTraces = false) (hout : ∀ (E : String) (τ : CSt) (lv : List (Nat × Value)) (pc k n : Nat) (rest : List Value), pX E τ → k ≤ 1 → n ≤ 6 → gX X (cWd G A H0) Q k n τ lv pc rest E) (hthr : ∀ (j : Nat) (τ : CSt) (lv : List (Nat × Value)) (pc k n ik : Nat) (rest : List Value), j < 5 → pX (cNm j) τ → k + 1 ≤ 1 → n + 6 ≤ 6 → (rest.map fun v => v.category).sum ≤ 8 → Cond.classLink RX7 ik (cNm j) ∈ wC → Cond.initialized (cNm j) ∈ wC → decode cX7_cellAt pc = .ok (.new ik, 3) → decode cX7_cellAt (pc + 3) = .ok (.dup, 1) → decode cX7_cellAt (pc + 4) = .ok (.invokespecial (cNi j), 3) → decode cX7_cellAt (pc + 7) = .ok (.athrow, 1) → gJ X (cWd G A H0) Q k n τ lv pc rest) {post : Option Nat → CSt → Prop} (hret : ∀ (r : Option Nat) (τ : CSt) (lv : List (Nat × Value)) (pc : Nat), post r τ → decode cX7_cellAt pc = .ok (.areturn, 1) → gJ X (cWd G A H0) Q 1 6 τ lv pc [va_rf r]) (s : CSt) (hw : wpC_X7_cellAt_15 post pX s) : gJ X (cWd G A H0) Q 0 0 s [] 15 [] := by
  exact hthr 0 _ _ _ _ _ _ _ (by decide) hw (Nat.le_of_ble_eq_true rfl) (Nat.le_of_ble_eq_true rfl) (Nat.le_of_ble_eq_true rfl) kC_415 kC_416 dX7_cellAt_15 dX7_cellAt_18 dX7_cellAt_19 dX7_cellAt_22
theorem wkC_X7_cellAt_0 {X : gT} {G : cG} {A : Nat → Prop} {H0 : Heap} {Q : State → Prop} (C : cC X cX7_cellAt 2 RX7 G A) (hsz : H0 = (g_s X).heap) (hR : 6 ≤ (g_R X).frames ∧ 89 ≤ (g_R X).locals ∧ 1 ≤ (g_R X).cells ∧ 6 ≤ (g_R X).slots) {pX : String → CSt → Prop} (hfl : (g_l X).stackTraces = false) (hout : ∀ (E : String) (τ : CSt) (lv : List (Nat × Value)) (pc k n : Nat) (rest : List Value), pX E τ → k ≤ 1 → n ≤ 6 → gX X (cWd G A H0) Q k n τ lv pc rest E) (hthr : ∀ (j : Nat) (τ : CSt) (lv : List (Nat × Value)) (pc k n ik : Nat) (rest : List Value), j < 5 → pX (cNm j) τ → k + 1 ≤ 1 → n + 6 ≤ 6 → (rest.map fun v => v.category).sum ≤ 8 → Cond.classLink RX7 ik (cNm j) ∈ wC → Cond.initialized (cNm j) ∈ wC → decode cX7_cellAt pc = .ok (.new ik, 3) → decode cX7_cellAt (pc + 3) = .ok (.dup, 1) → decode cX7_cellAt (pc + 4) = .ok (.invokespecial (cNi j), 3) → decode cX7_cellAt (pc + 7) = .ok (.athrow, 1) → gJ X (cWd G A H0) Q k n τ lv pc rest) {post : Option Nat → CSt → Prop} (hret : ∀ (r : Option Nat) (τ : CSt) (lv : List (Nat × Value)) (pc : Nat), post r τ → decode cX7_cellAt pc = .ok (.areturn, 1) → gJ X (cWd G A H0) Q 1 6 τ lv pc [va_rf r]) (s : CSt) (v0 : Nat) (v1 : Int32) (hw : wpC_X7_cellAt_0 post pX s v0 v1) : gJ X (cWd G A H0) Q 0 0 s [(0, .ref v0), (1, .int v1)] 0 [] := by
  refine g_iload_n C.1 1 dX7_cellAt_0 rfl rfl ?_
  refine g_if_lt (tgt := 15) C.1 dX7_cellAt_1 (by decide) (fun h1 => ?_) (fun h1 => ?_)
  · replace hw := hw.1 h1
    refine gJ.sub [] rfl ?_
    exact wkC_X7_cellAt_15 C hsz hR hfl hout hthr hret _ hw
  · replace hw := hw.2 h1
    refine g_iload_n C.1 1 dX7_cellAt_4 rfl rfl ?_
    refine g_aload_n C.1 0 dX7_cellAt_5 rfl rfl ?_
    refine c_get7 C hw.1 2 (by decide) kC_396 (fun _ h => h) rfl dX7_cellAt_6 ?_
    replace hw := hw.2
    obtain ⟨a2, ha2, hw⟩ := hw
    rw [ha2]
    refine c_callVi (vs := []) C hsz (cC_Jx4a65c_size_8abf5 (g_l X) G s _ _ hw.2) kC_13 kC_431 kC_11 kC_12 kC_14 hdC_Jx4a65c_size_8abf5 (c_recv0 C hw.1) ⟨(Nat.le_trans (Nat.le_of_ble_eq_true rfl) hR.1), (Nat.le_trans (Nat.le_of_ble_eq_true rfl) hR.2.1)⟩ ⟨(Nat.le_trans (Nat.le_of_ble_eq_true rfl) hR.2.2.1), (Nat.le_trans (Nat.le_of_ble_eq_true rfl) hR.2.2.2)⟩ dX7_cellAt_9 rfl (Nat.le_of_ble_eq_true rfl) (fun r4 s3 hw => ?_)
    refine g_icmp_lt (tgt := 23) C.1 dX7_cellAt_12 (by decide) (fun h5 => ?_) (fun h5 => ?_)
    · replace hw := hw.1 h5
      refine g_aload_n C.1 0 dX7_cellAt_23 rfl rfl ?_
      refine c_get7 C hw.1 2 (by decide) kC_396 (fun _ h => h) rfl dX7_cellAt_24 ?_
      replace hw := hw.2
      obtain ⟨a6, ha6, hw⟩ := hw
      rw [ha6]
      refine g_iload_n C.1 1 dX7_cellAt_27 rfl rfl ?_
      refine c_callVq (vs := [.int v1]) C hsz (cC_Jx4a65c_get_915e3 (g_l X) G s3 _ _ _ hw.2) kC_13 kC_455 kC_17 kC_18 kC_19 hdC_Jx4a65c_get_915e3 (c_recv0 C hw.1) ⟨(Nat.le_trans (Nat.le_of_ble_eq_true rfl) hR.1), (Nat.le_trans (Nat.le_of_ble_eq_true rfl) hR.2.1)⟩ ⟨(Nat.le_trans (Nat.le_of_ble_eq_true rfl) hR.2.2.1), (Nat.le_trans (Nat.le_of_ble_eq_true rfl) hR.2.2.2)⟩ dX7_cellAt_28 rfl (Nat.le_of_ble_eq_true rfl) (fun r8 s7 hw => ?_)
      obtain ⟨a9, ha9, hw⟩ := hw
      rw [ha9]
      refine c_cast1 C hw.1 kC_595 dX7_cellAt_31 ?_
      replace hw := hw.2
      refine gJ.widen (k' := 1) (n' := 6) (Nat.le_of_ble_eq_true rfl) (Nat.le_of_ble_eq_true rfl) ?_
      exact hret (some a9) _ _ _ hw dX7_cellAt_34
    · replace hw := hw.2 h5
      refine gJ.sub [] rfl ?_
      exact wkC_X7_cellAt_15 C hsz hR hfl hout hthr hret _ hw
theorem hdC_X7_cellAt : yX7_cellAt.cls = RX7 ∧ yX7_cellAt.cls ≠ "java/lang/invoke/MethodHandle" ∧ yX7_cellAt.cls ≠ "java/lang/invoke/VarHandle" ∧ (parseMethodDescriptor yX7_cellAt.desc).map (fun d => d.parameters.length) = some 1 := by decide +kernel
theorem cC_X7_cellAt (l : Launch) (hfl : l.stackTraces = false) (G : cG) (s : CSt) (v0 : Nat) (v1 : Int32) (post : Option Nat → CSt → Prop) (pX : String → CSt → Prop) (hw : wpC_X7_cellAt_0 post pX s v0 v1) : cTq l yX7_cellAt cX7_cellAt 2 (.object "SkiHill$Cell") 6 89 1 6 G s [.ref v0, .int v1] post pX := cTq_of hfl (by decide +kernel) rfl rfl (by first | exact Or.inl ⟨_, rfl⟩ | exact Or.inr ⟨_, rfl⟩) (Nat.le_of_ble_eq_true rfl) ⟨by decide, by decide, by decide, by decide⟩ (fun X A H0 Q hl hR hsz C hret hout hthr => wkC_X7_cellAt_0 C hsz hR (by rw [hl]; exact hfl) hout hthr hret s v0 v1 hw)
def wpC_X7_putNumber_3_F (post : CSt → Prop) (K3 : CSt → Nat → Int32 → Int32 → Prop) (s : CSt) (v0 : Nat) (v1 : Int32) (v2 : Int32) : Prop := (v2 < 0 → post s) ∧ (¬ v2 < 0 → cAt s 7 v0 ∧ cAt s 7 v0 ∧ ∃ a2 : Nat, cR s 118 v0 = some a2 ∧ cAt s 8 a2 ∧ ((nI (cN s a2)) ≤ (cI s 119 v0) → post s) ∧ (¬ (nI (cN s a2)) ≤ (cI s 119 v0) → cAt s 7 v0 ∧ ∃ a4 : Nat, cR s 118 v0 = some a4 ∧ cAt s 7 v0 ∧ cAt s 8 a4 ∧ vp_in (cI s 119 v0) (cN s a4) ∧ ∀ s5 : CSt, s5 = csV s a4 (upd (cV s a4) (cI s 119 v0).toNatClampNeg (vp_nar .byte ((v1 >>> (v2 &&& 31)).toInt8.toInt32))) → cAt s5 7 v0 ∧ cAt s5 7 v0 ∧ ∀ s6 : CSt, s6 = csI s5 119 v0 ((cI s5 119 v0) + 1) → K3 s6 v0 v1 (v2 + (-8))))
def wpC_X7_putNumber_3 (post : CSt → Prop) (s : CSt) (v0 : Nat) (v1 : Int32) (v2 : Int32) : Prop := gLP (fun (K : CSt × Nat × Int32 × Int32 → Prop) (x : CSt × Nat × Int32 × Int32) => wpC_X7_putNumber_3_F post (fun s v0 v1 v2 => K (s, v0, v1, v2)) x.1 x.2.1 x.2.2.1 x.2.2.2) (s, v0, v1, v2)
def wpC_X7_putNumber_0 (post : CSt → Prop) (s : CSt) (v0 : Nat) (v1 : Int32) : Prop := wpC_X7_putNumber_3 post s v0 v1 24
theorem wkC_X7_putNumber_3_F {X : gT} {G : cG} {A : Nat → Prop} {H0 : Heap} {Q : State → Prop} (C : cC X cX7_putNumber 3 RX7 G A) (hsz : H0 = (g_s X).heap) (hR : 0 ≤ (g_R X).frames ∧ 0 ≤ (g_R X).locals ∧ 0 ≤ (g_R X).cells ∧ 0 ≤ (g_R X).slots) {post : CSt → Prop} (hret : ∀ (τ : CSt) (lv : List (Nat × Value)) (pc : Nat), post τ → decode cX7_putNumber pc = .ok (.return_, 1) → gJ X (cWd G A H0) Q 0 0 τ lv pc []) {K3 : CSt → Nat → Int32 → Int32 → Prop} (hK3 : ∀ (s : CSt) (v0 : Nat) (v1 : Int32) (v2 : Int32), K3 s v0 v1 v2 → gJ X (cWd G A H0) Q 0 0 s [(0, .ref v0), (1, .int v1), (2, .int v2)] 3 []) (s : CSt) (v0 : Nat) (v1 : Int32) (v2 : Int32) (hw : wpC_X7_putNumber_3_F post K3 s v0 v1 v2) : gJ X (cWd G A H0) Q 0 0 s [(0, .ref v0), (1, .int v1), (2, .int v2)] 3 [] := by
  refine g_iload_n C.1 2 dX7_putNumber_3 rfl rfl ?_
  refine g_if_lt (tgt := 48) C.1 dX7_putNumber_4 (by decide) (fun h1 => ?_) (fun h1 => ?_)
  · replace hw := hw.1 h1
    exact hret _ _ _ hw dX7_putNumber_48
  · replace hw := hw.2 h1
    refine g_aload_n C.1 0 dX7_putNumber_7 rfl rfl ?_
    refine c_get7 C hw.1 7 (by decide) kC_407 (fun _ h => h) rfl dX7_putNumber_8 ?_
    replace hw := hw.2
    refine g_aload_n C.1 0 dX7_putNumber_11 rfl rfl ?_
    refine c_get7 C hw.1 6 (by decide) kC_402 (fun _ h => h) rfl dX7_putNumber_12 ?_
    replace hw := hw.2
    obtain ⟨a2, ha2, hw⟩ := hw
    rw [ha2]
    refine c_blen C hw.1 dX7_putNumber_15 ?_
    replace hw := hw.2
    refine g_icmp_ge (tgt := 48) C.1 dX7_putNumber_16 (by decide) (fun h3 => ?_) (fun h3 => ?_)
    · replace hw := hw.1 h3
      exact hret _ _ _ hw dX7_putNumber_48
    · replace hw := hw.2 h3
      refine g_aload_n C.1 0 dX7_putNumber_19 rfl rfl ?_
      refine c_get7 C hw.1 6 (by decide) kC_402 (fun _ h => h) rfl dX7_putNumber_20 ?_
      replace hw := hw.2
      obtain ⟨a4, ha4, hw⟩ := hw
      rw [ha4]
      refine g_aload_n C.1 0 dX7_putNumber_23 rfl rfl ?_
      refine c_get7 C hw.1 7 (by decide) kC_407 (fun _ h => h) rfl dX7_putNumber_24 ?_
      replace hw := hw.2
      refine g_iload_n C.1 1 dX7_putNumber_27 rfl rfl ?_
      refine g_iload_n C.1 2 dX7_putNumber_28 rfl rfl ?_
      refine g_ishr C.1 dX7_putNumber_29 ?_
      refine g_i2b C.1 dX7_putNumber_30 ?_
      refine c_bast C hw.1 hw.2.1 dX7_putNumber_31 ?_
      replace hw := hw.2.2
      refine gJ.nm (fun s5 es5 => ?_)
      replace hw := hw s5 es5
      refine g_aload_n C.1 0 dX7_putNumber_32 rfl rfl ?_
      refine g_dup C.1 dX7_putNumber_33 rfl ?_
      refine c_get7 C hw.1 7 (by decide) kC_407 (fun _ h => h) rfl dX7_putNumber_34 ?_
      replace hw := hw.2
      refine g_iconst (v := 1) C.1 dX7_putNumber_37 (by decide) ?_
      refine g_iadd C.1 dX7_putNumber_38 ?_
      refine c_put7 C (τ := csI s5 119 v0 ((cI s5 119 v0) + 1)) hw.1 7 (by decide) kC_407 (fun _ h => h) rfl (ty := .int) (by decide +kernel) rfl rfl rfl hw.1.2 rfl (cx_7_7 _ _ _) (fun _ hb => csI_o hb) dX7_putNumber_39 ?_
      replace hw := hw.2
      refine gJ.nm (fun s6 es6 => ?_)
      replace hw := hw s6 es6
      refine g_iinc (v := v2 + (-8)) (lv' := [(2, .int (v2 + (-8))), (0, .ref v0), (1, .int v1)]) C.1 2 dX7_putNumber_42 rfl rfl (by decide) rfl ?_
      refine g_goto (tgt := 3) C.1 dX7_putNumber_45 (by decide) ?_
      refine gJ.sub [1, 2, 0] rfl ?_
      exact hK3 _ _ _ _ hw
theorem wkC_X7_putNumber_3 {X : gT} {G : cG} {A : Nat → Prop} {H0 : Heap} {Q : State → Prop} (C : cC X cX7_putNumber 3 RX7 G A) (hsz : H0 = (g_s X).heap) (hR : 0 ≤ (g_R X).frames ∧ 0 ≤ (g_R X).locals ∧ 0 ≤ (g_R X).cells ∧ 0 ≤ (g_R X).slots) {post : CSt → Prop} (hret : ∀ (τ : CSt) (lv : List (Nat × Value)) (pc : Nat), post τ → decode cX7_putNumber pc = .ok (.return_, 1) → gJ X (cWd G A H0) Q 0 0 τ lv pc []) (s : CSt) (v0 : Nat) (v1 : Int32) (v2 : Int32) (hw : wpC_X7_putNumber_3 post s v0 v1 v2) : gJ X (cWd G A H0) Q 0 0 s [(0, .ref v0), (1, .int v1), (2, .int v2)] 3 [] := 
  hw (fun (x : CSt × Nat × Int32 × Int32) => (fun s v0 v1 v2 => gJ X (cWd G A H0) Q 0 0 s [(0, .ref v0), (1, .int v1), (2, .int v2)] 3 []) x.1 x.2.1 x.2.2.1 x.2.2.2) (fun x hx => wkC_X7_putNumber_3_F C hsz hR hret (K3 := (fun s v0 v1 v2 => gJ X (cWd G A H0) Q 0 0 s [(0, .ref v0), (1, .int v1), (2, .int v2)] 3 [])) (fun _ _ _ _ h => h) x.1 x.2.1 x.2.2.1 x.2.2.2 hx)
theorem wkC_X7_putNumber_0 {X : gT} {G : cG} {A : Nat → Prop} {H0 : Heap} {Q : State → Prop} (C : cC X cX7_putNumber 3 RX7 G A) (hsz : H0 = (g_s X).heap) (hR : 0 ≤ (g_R X).frames ∧ 0 ≤ (g_R X).locals ∧ 0 ≤ (g_R X).cells ∧ 0 ≤ (g_R X).slots) {post : CSt → Prop} (hret : ∀ (τ : CSt) (lv : List (Nat × Value)) (pc : Nat), post τ → decode cX7_putNumber pc = .ok (.return_, 1) → gJ X (cWd G A H0) Q 0 0 τ lv pc []) (s : CSt) (v0 : Nat) (v1 : Int32) (hw : wpC_X7_putNumber_0 post s v0 v1) : gJ X (cWd G A H0) Q 0 0 s [(0, .ref v0), (1, .int v1)] 0 [] := by
  refine g_bipush (v := 24) C.1 dX7_putNumber_0 (by decide) ?_
  refine g_istore_n (lv' := [(2, .int 24), (0, .ref v0), (1, .int v1)]) C.1 dX7_putNumber_2 rfl (by decide) rfl ?_
  refine gJ.sub [1, 2, 0] rfl ?_
  exact wkC_X7_putNumber_3 C hsz hR hret _ _ _ _ hw
theorem hdC_X7_putNumber : yX7_putNumber.cls = RX7 ∧ yX7_putNumber.cls ≠ "java/lang/invoke/MethodHandle" ∧ yX7_putNumber.cls ≠ "java/lang/invoke/VarHandle" ∧ (parseMethodDescriptor yX7_putNumber.desc).map (fun d => d.parameters.length) = some 1 := by decide +kernel
theorem cC_X7_putNumber (l : Launch) (G : cG) (s : CSt) (v0 : Nat) (v1 : Int32) (post : CSt → Prop) (hw : wpC_X7_putNumber_0 post s v0 v1) : cMv l yX7_putNumber cX7_putNumber 3 0 0 0 0 G s [.ref v0, .int v1] post := cMv_of (by decide +kernel) rfl (Nat.le_of_ble_eq_true rfl) (fun X A H0 Q hl hR hsz hnm C hret => wkC_X7_putNumber_0 C hsz hR hret s v0 v1 hw)
