def wpC_X7_slope_97_F (mc ms : Nat) (post : Int32 → CSt → Prop) (pX : String → CSt → Prop) (K97 : CSt → Nat → Nat → Nat → Int32 → Int32 → Nat → Int32 → Prop) (s : CSt) (k : Nat) (n : Nat) (v0 : Nat) (v5 : Int32) (v6 : Int32) (v7 : Nat) (v8 : Int32) : Prop := (v5 ≤ v8 → k ≤ mc ∧ n ≤ ms ∧ post v6 s) ∧ (¬ v5 ≤ v8 → ∃ m2 m3 : Nat, k + m2 ≤ mc ∧ n + m3 ≤ ms ∧ cAt s 7 v0 ∧ wpC_X7_addCell_0 m2 m3 (fun s4 => K97 s4 (k + m2) (n + m3) v0 v5 v6 v7 (v8 + 1)) s v0 v7)
def wpC_X7_slope_97 (mc ms : Nat) (post : Int32 → CSt → Prop) (pX : String → CSt → Prop) (s : CSt) (k : Nat) (n : Nat) (v0 : Nat) (v5 : Int32) (v6 : Int32) (v7 : Nat) (v8 : Int32) : Prop := gLP (fun (K : CSt × Nat × Nat × Nat × Int32 × Int32 × Nat × Int32 → Prop) (x : CSt × Nat × Nat × Nat × Int32 × Int32 × Nat × Int32) => wpC_X7_slope_97_F mc ms post pX (fun s k n v0 v5 v6 v7 v8 => K (s, k, n, v0, v5, v6, v7, v8)) x.1 x.2.1 x.2.2.1 x.2.2.2.1 x.2.2.2.2.1 x.2.2.2.2.2.1 x.2.2.2.2.2.2.1 x.2.2.2.2.2.2.2) (s, k, n, v0, v5, v6, v7, v8)
def wpC_X7_slope_0 (mc ms : Nat) (post : Int32 → CSt → Prop) (pX : String → CSt → Prop) (s : CSt) (v0 : Nat) (v1 : Int32) (v2 : Int32) (v3 : Int32) (v4 : Int32) (v5 : Int32) : Prop := 0 + 1 ≤ mc ∧ 0 + 6 ≤ ms ∧ wpC_X7_checkPlace_0 (fun s6 => 0 + 1 + 1 ≤ mc ∧ 0 + 6 + 6 ≤ ms ∧ wpC_X7_checkPlace_0 (fun s8 => 0 + 1 + 1 + 1 ≤ mc ∧ 0 + 6 + 6 + 6 ≤ ms ∧ wpC_X7_checkNumber_0 (fun s10 => 0 + 1 + 1 + 1 + 1 ≤ mc ∧ 0 + 6 + 6 + 6 + 6 ≤ ms ∧ wpC_X7_checkNumber_0 (fun s12 => 0 + 1 + 1 + 1 + 1 + 1 ≤ mc ∧ 0 + 6 + 6 + 6 + 6 + 6 ≤ ms ∧ wpC_X7_checkNumber_0 (fun s14 => cAt s14 7 v0 ∧ ∃ a16 : Nat, cR s14 113 v0 = some a16 ∧ cAt s14 0 a16 ∧ wpC_Jx4a65c_size_8abf5_0 (fun r18 s17 => 0 + 1 + 1 + 1 + 1 + 1 + 1 ≤ mc ∧ 0 + 6 + 6 + 6 + 6 + 6 + 6 ≤ ms ∧ wpC_X7_checkRoom_0 (fun s19 => cAt s19 7 v0 ∧ ∃ a21 : Nat, cR s19 114 v0 = some a21 ∧ cAt s19 0 a21 ∧ wpC_Jx4a65c_size_8abf5_0 (fun r23 s22 => 0 + 1 + 1 + 1 + 1 + 1 + 1 + 1 ≤ mc ∧ 0 + 6 + 6 + 6 + 6 + 6 + 6 + 6 ≤ ms ∧ wpC_X7_checkRoom_0 (fun s24 => cAt s24 7 v0 ∧ ∃ a26 : Nat, cR s24 113 v0 = some a26 ∧ cAt s24 0 a26 ∧ wpC_Jx4a65c_size_8abf5_0 (fun r28 s27 => 0 + 1 + 1 + 1 + 1 + 1 + 1 + 1 + 1 ≤ mc ∧ 0 + 6 + 6 + 6 + 6 + 6 + 6 + 6 + 10 ≤ ms ∧ ∀ q29 : Nat, q29 ∉ cL s27 → ∀ s30 : CSt, s30 = csO s27 q29 6 → 0 + 1 + 1 + 1 + 1 + 1 + 1 + 1 + 1 + 2 ≤ mc ∧ 0 + 6 + 6 + 6 + 6 + 6 + 6 + 6 + 10 + 3 ≤ ms ∧ wpC_X6_init_0 (fun s32 => cAt s32 7 v0 ∧ ∃ a34 : Nat, cR s32 113 v0 = some a34 ∧ ∃ m35 m36 : Nat, 0 + 1 + 1 + 1 + 1 + 1 + 1 + 1 + 1 + 2 + m35 ≤ mc ∧ 0 + 6 + 6 + 6 + 6 + 6 + 6 + 6 + 10 + 3 + m36 ≤ ms ∧ cAt s32 0 a34 ∧ wpC_Jx4a65c_add_9ea2d_0 m35 m36 (fun r39 s37 => wpC_X7_slope_97 mc ms post pX s37 (0 + 1 + 1 + 1 + 1 + 1 + 1 + 1 + 1 + 2 + m35) (0 + 6 + 6 + 6 + 6 + 6 + 6 + 6 + 10 + 3 + m36) v0 v5 r28 q29 0) s32 a34 q29) s30 q29 r28 v1 v2 v3 v4) s24 a26) pX s22 ((r23 + v5) - 1) 40) s19 a21) pX s17 r18 10) s14 a16) pX s12 v5 1 4) pX s10 v4 0 9) pX s8 v3 1 20) pX s6 v2) pX s v1
theorem wkC_X7_slope_97_F {mc ms : Nat} {X : gT} {G : cG} {A : Nat → Prop} {H0 : Heap} {Q : State → Prop} (C : cC X cX7_slope 9 RX7 G A) (hsz : H0 = (g_s X).heap) (hR : 8 ≤ (g_R X).frames ∧ 213 ≤ (g_R X).locals ∧ mc ≤ (g_R X).cells ∧ ms ≤ (g_R X).slots) {pX : String → CSt → Prop} (hfl : (g_l X).stackTraces = false) (hout : ∀ (E : String) (τ : CSt) (lv : List (Nat × Value)) (pc k n : Nat) (rest : List Value), pX E τ → k ≤ mc → n ≤ ms → gX X (cWd G A H0) Q k n τ lv pc rest E) (hthr : ∀ (j : Nat) (τ : CSt) (lv : List (Nat × Value)) (pc k n ik : Nat) (rest : List Value), j < 5 → pX (cNm j) τ → k + 1 ≤ mc → n + 6 ≤ ms → (rest.map fun v => v.category).sum ≤ 8 → Cond.classLink RX7 ik (cNm j) ∈ wC → Cond.initialized (cNm j) ∈ wC → decode cX7_slope pc = .ok (.new ik, 3) → decode cX7_slope (pc + 3) = .ok (.dup, 1) → decode cX7_slope (pc + 4) = .ok (.invokespecial (cNi j), 3) → decode cX7_slope (pc + 7) = .ok (.athrow, 1) → gJ X (cWd G A H0) Q k n τ lv pc rest) {post : Int32 → CSt → Prop} (hret : ∀ (r : Int32) (τ : CSt) (lv : List (Nat × Value)) (pc : Nat), post r τ → narrow .int (.int r) = .int r → decode cX7_slope pc = .ok (.ireturn, 1) → gJ X (cWd G A H0) Q mc ms τ lv pc [.int r]) {K97 : CSt → Nat → Nat → Nat → Int32 → Int32 → Nat → Int32 → Prop} (hK97 : ∀ (s : CSt) (k : Nat) (n : Nat) (v0 : Nat) (v5 : Int32) (v6 : Int32) (v7 : Nat) (v8 : Int32), K97 s k n v0 v5 v6 v7 v8 → k ≤ mc ∧ n ≤ ms → gJ X (cWd G A H0) Q k n s [(0, .ref v0), (5, .int v5), (6, .int v6), (7, .ref v7), (8, .int v8)] 97 []) (s : CSt) (k : Nat) (n : Nat) (v0 : Nat) (v5 : Int32) (v6 : Int32) (v7 : Nat) (v8 : Int32) (hk : k ≤ mc ∧ n ≤ ms) (hw : wpC_X7_slope_97_F mc ms post pX K97 s k n v0 v5 v6 v7 v8) : gJ X (cWd G A H0) Q k n s [(0, .ref v0), (5, .int v5), (6, .int v6), (7, .ref v7), (8, .int v8)] 97 [] := by
  refine g_iload C.1 4 dX7_slope_97 rfl ?_
  refine g_iload C.1 1 dX7_slope_99 rfl ?_
  refine g_icmp_ge (tgt := 116) C.1 dX7_slope_101 (by decide) (fun h1 => ?_) (fun h1 => ?_)
  · replace hw := hw.1 h1
    refine g_iload C.1 2 dX7_slope_116 rfl ?_
    refine gJ.widen hw.1 hw.2.1 ?_
    replace hw := hw.2.2
    exact hret _ _ _ _ hw rfl dX7_slope_118
  · replace hw := hw.2 h1
    refine g_aload_n C.1 0 dX7_slope_104 rfl rfl ?_
    refine g_aload C.1 3 dX7_slope_105 rfl ?_
    obtain ⟨m2, m3, gm2, gm3, hw⟩ := hw
    have hk5 : k + m2 ≤ mc ∧ n + m3 ≤ ms := ⟨gm2, gm3⟩
    refine c_callVv (vs := [.ref v7]) C hsz (cC_X7_addCell m2 m3 (g_l X) G s _ _ _ hw.2) kC_412 kC_450 kC_451 kC_452 kC_444 hdC_X7_addCell (c_recv7 C hw.1) ⟨(Nat.le_trans (Nat.le_of_ble_eq_true rfl) hR.1), (Nat.le_trans (Nat.le_of_ble_eq_true rfl) hR.2.1)⟩ ⟨Nat.le_trans hk5.1 hR.2.2.1, Nat.le_trans hk5.2 hR.2.2.2⟩ dX7_slope_107 rfl (Nat.le_of_ble_eq_true rfl) (fun s4 hw => ?_)
    refine g_iinc (v := v8 + 1) (lv' := [(8, .int (v8 + 1)), (0, .ref v0), (5, .int v5), (6, .int v6), (7, .ref v7)]) C.1 4 dX7_slope_110 rfl rfl (by decide) rfl ?_
    refine g_goto (tgt := 97) C.1 dX7_slope_113 (by decide) ?_
    refine gJ.sub [1, 2, 3, 4, 0] rfl ?_
    exact hK97 _ _ _ _ _ _ _ _ hw hk5
theorem wkC_X7_slope_97 {mc ms : Nat} {X : gT} {G : cG} {A : Nat → Prop} {H0 : Heap} {Q : State → Prop} (C : cC X cX7_slope 9 RX7 G A) (hsz : H0 = (g_s X).heap) (hR : 8 ≤ (g_R X).frames ∧ 213 ≤ (g_R X).locals ∧ mc ≤ (g_R X).cells ∧ ms ≤ (g_R X).slots) {pX : String → CSt → Prop} (hfl : (g_l X).stackTraces = false) (hout : ∀ (E : String) (τ : CSt) (lv : List (Nat × Value)) (pc k n : Nat) (rest : List Value), pX E τ → k ≤ mc → n ≤ ms → gX X (cWd G A H0) Q k n τ lv pc rest E) (hthr : ∀ (j : Nat) (τ : CSt) (lv : List (Nat × Value)) (pc k n ik : Nat) (rest : List Value), j < 5 → pX (cNm j) τ → k + 1 ≤ mc → n + 6 ≤ ms → (rest.map fun v => v.category).sum ≤ 8 → Cond.classLink RX7 ik (cNm j) ∈ wC → Cond.initialized (cNm j) ∈ wC → decode cX7_slope pc = .ok (.new ik, 3) → decode cX7_slope (pc + 3) = .ok (.dup, 1) → decode cX7_slope (pc + 4) = .ok (.invokespecial (cNi j), 3) → decode cX7_slope (pc + 7) = .ok (.athrow, 1) → gJ X (cWd G A H0) Q k n τ lv pc rest) {post : Int32 → CSt → Prop} (hret : ∀ (r : Int32) (τ : CSt) (lv : List (Nat × Value)) (pc : Nat), post r τ → narrow .int (.int r) = .int r → decode cX7_slope pc = .ok (.ireturn, 1) → gJ X (cWd G A H0) Q mc ms τ lv pc [.int r]) (s : CSt) (k : Nat) (n : Nat) (v0 : Nat) (v5 : Int32) (v6 : Int32) (v7 : Nat) (v8 : Int32) (hk : k ≤ mc ∧ n ≤ ms) (hw : wpC_X7_slope_97 mc ms post pX s k n v0 v5 v6 v7 v8) : gJ X (cWd G A H0) Q k n s [(0, .ref v0), (5, .int v5), (6, .int v6), (7, .ref v7), (8, .int v8)] 97 [] := 
  hw (fun (x : CSt × Nat × Nat × Nat × Int32 × Int32 × Nat × Int32) => (fun s k n v0 v5 v6 v7 v8 => (k ≤ mc ∧ n ≤ ms → gJ X (cWd G A H0) Q k n s [(0, .ref v0), (5, .int v5), (6, .int v6), (7, .ref v7), (8, .int v8)] 97 [])) x.1 x.2.1 x.2.2.1 x.2.2.2.1 x.2.2.2.2.1 x.2.2.2.2.2.1 x.2.2.2.2.2.2.1 x.2.2.2.2.2.2.2) (fun x hx hk => wkC_X7_slope_97_F C hsz hR hfl hout hthr hret (K97 := (fun s k n v0 v5 v6 v7 v8 => (k ≤ mc ∧ n ≤ ms → gJ X (cWd G A H0) Q k n s [(0, .ref v0), (5, .int v5), (6, .int v6), (7, .ref v7), (8, .int v8)] 97 []))) (fun _ _ _ _ _ _ _ _ h => h) x.1 x.2.1 x.2.2.1 x.2.2.2.1 x.2.2.2.2.1 x.2.2.2.2.2.1 x.2.2.2.2.2.2.1 x.2.2.2.2.2.2.2 hk hx) hk
theorem wkC_X7_slope_0 {mc ms : Nat} {X : gT} {G : cG} {A : Nat → Prop} {H0 : Heap} {Q : State → Prop} (C : cC X cX7_slope 9 RX7 G A) (hsz : H0 = (g_s X).heap) (hR : 8 ≤ (g_R X).frames ∧ 213 ≤ (g_R X).locals ∧ mc ≤ (g_R X).cells ∧ ms ≤ (g_R X).slots) {pX : String → CSt → Prop} (hfl : (g_l X).stackTraces = false) (hout : ∀ (E : String) (τ : CSt) (lv : List (Nat × Value)) (pc k n : Nat) (rest : List Value), pX E τ → k ≤ mc → n ≤ ms → gX X (cWd G A H0) Q k n τ lv pc rest E) (hthr : ∀ (j : Nat) (τ : CSt) (lv : List (Nat × Value)) (pc k n ik : Nat) (rest : List Value), j < 5 → pX (cNm j) τ → k + 1 ≤ mc → n + 6 ≤ ms → (rest.map fun v => v.category).sum ≤ 8 → Cond.classLink RX7 ik (cNm j) ∈ wC → Cond.initialized (cNm j) ∈ wC → decode cX7_slope pc = .ok (.new ik, 3) → decode cX7_slope (pc + 3) = .ok (.dup, 1) → decode cX7_slope (pc + 4) = .ok (.invokespecial (cNi j), 3) → decode cX7_slope (pc + 7) = .ok (.athrow, 1) → gJ X (cWd G A H0) Q k n τ lv pc rest) {post : Int32 → CSt → Prop} (hret : ∀ (r : Int32) (τ : CSt) (lv : List (Nat × Value)) (pc : Nat), post r τ → narrow .int (.int r) = .int r → decode cX7_slope pc = .ok (.ireturn, 1) → gJ X (cWd G A H0) Q mc ms τ lv pc [.int r]) (s : CSt) (v0 : Nat) (v1 : Int32) (v2 : Int32) (v3 : Int32) (v4 : Int32) (v5 : Int32) (hw : wpC_X7_slope_0 mc ms post pX s v0 v1 v2 v3 v4 v5) : gJ X (cWd G A H0) Q 0 0 s [(0, .ref v0), (1, .int v1), (2, .int v2), (3, .int v3), (4, .int v4), (5, .int v5)] 0 [] := by
  refine g_iload_n C.1 1 dX7_slope_0 rfl rfl ?_
  have hk7 : 0 + 1 ≤ mc ∧ 0 + 6 ≤ ms := ⟨hw.1, hw.2.1⟩
  replace hw := hw.2.2
  refine c_throwSv (vs := [.int v1]) C hsz (cC_X7_checkPlace (g_l X) hfl G s _ _ _ hw) kC_412 kC_427 kC_428 kC_417 hdC_X7_checkPlace ⟨(Nat.le_trans (Nat.le_of_ble_eq_true rfl) hR.1), (Nat.le_trans (Nat.le_of_ble_eq_true rfl) hR.2.1)⟩ ⟨Nat.le_trans hk7.1 hR.2.2.1, Nat.le_trans hk7.2 hR.2.2.2⟩ dX7_slope_1 rfl (Nat.le_of_ble_eq_true rfl) (fun E τ h => hout E τ _ _ _ _ _ h hk7.1 hk7.2) (fun s6 hw => ?_)
  refine g_iload_n C.1 2 dX7_slope_4 rfl rfl ?_
  have hk9 : 0 + 1 + 1 ≤ mc ∧ 0 + 6 + 6 ≤ ms := ⟨hw.1, hw.2.1⟩
  replace hw := hw.2.2
  refine c_throwSv (vs := [.int v2]) C hsz (cC_X7_checkPlace (g_l X) hfl G s6 _ _ _ hw) kC_412 kC_427 kC_428 kC_417 hdC_X7_checkPlace ⟨(Nat.le_trans (Nat.le_of_ble_eq_true rfl) hR.1), (Nat.le_trans (Nat.le_of_ble_eq_true rfl) hR.2.1)⟩ ⟨Nat.le_trans hk9.1 hR.2.2.1, Nat.le_trans hk9.2 hR.2.2.2⟩ dX7_slope_5 rfl (Nat.le_of_ble_eq_true rfl) (fun E τ h => hout E τ _ _ _ _ _ h hk9.1 hk9.2) (fun s8 hw => ?_)
  refine g_iload_n C.1 3 dX7_slope_8 rfl rfl ?_
  refine g_iconst (v := 1) C.1 dX7_slope_9 (by decide) ?_
  refine g_bipush (v := 20) C.1 dX7_slope_10 (by decide) ?_
  have hk11 : 0 + 1 + 1 + 1 ≤ mc ∧ 0 + 6 + 6 + 6 ≤ ms := ⟨hw.1, hw.2.1⟩
  replace hw := hw.2.2
  refine c_throwSv (vs := [.int v3, .int 1, .int 20]) C hsz (cC_X7_checkNumber (g_l X) hfl G s8 _ _ _ _ _ hw) kC_412 kC_429 kC_430 kC_420 hdC_X7_checkNumber ⟨(Nat.le_trans (Nat.le_of_ble_eq_true rfl) hR.1), (Nat.le_trans (Nat.le_of_ble_eq_true rfl) hR.2.1)⟩ ⟨Nat.le_trans hk11.1 hR.2.2.1, Nat.le_trans hk11.2 hR.2.2.2⟩ dX7_slope_12 rfl (Nat.le_of_ble_eq_true rfl) (fun E τ h => hout E τ _ _ _ _ _ h hk11.1 hk11.2) (fun s10 hw => ?_)
  refine g_iload C.1 4 dX7_slope_15 rfl ?_
  refine g_iconst (v := 0) C.1 dX7_slope_17 (by decide) ?_
  refine g_bipush (v := 9) C.1 dX7_slope_18 (by decide) ?_
  have hk13 : 0 + 1 + 1 + 1 + 1 ≤ mc ∧ 0 + 6 + 6 + 6 + 6 ≤ ms := ⟨hw.1, hw.2.1⟩
  replace hw := hw.2.2
  refine c_throwSv (vs := [.int v4, .int 0, .int 9]) C hsz (cC_X7_checkNumber (g_l X) hfl G s10 _ _ _ _ _ hw) kC_412 kC_429 kC_430 kC_420 hdC_X7_checkNumber ⟨(Nat.le_trans (Nat.le_of_ble_eq_true rfl) hR.1), (Nat.le_trans (Nat.le_of_ble_eq_true rfl) hR.2.1)⟩ ⟨Nat.le_trans hk13.1 hR.2.2.1, Nat.le_trans hk13.2 hR.2.2.2⟩ dX7_slope_20 rfl (Nat.le_of_ble_eq_true rfl) (fun E τ h => hout E τ _ _ _ _ _ h hk13.1 hk13.2) (fun s12 hw => ?_)
  refine g_iload C.1 5 dX7_slope_23 rfl ?_
  refine g_iconst (v := 1) C.1 dX7_slope_25 (by decide) ?_
  refine g_iconst (v := 4) C.1 dX7_slope_26 (by decide) ?_
  have hk15 : 0 + 1 + 1 + 1 + 1 + 1 ≤ mc ∧ 0 + 6 + 6 + 6 + 6 + 6 ≤ ms := ⟨hw.1, hw.2.1⟩
  replace hw := hw.2.2
  refine c_throwSv (vs := [.int v5, .int 1, .int 4]) C hsz (cC_X7_checkNumber (g_l X) hfl G s12 _ _ _ _ _ hw) kC_412 kC_429 kC_430 kC_420 hdC_X7_checkNumber ⟨(Nat.le_trans (Nat.le_of_ble_eq_true rfl) hR.1), (Nat.le_trans (Nat.le_of_ble_eq_true rfl) hR.2.1)⟩ ⟨Nat.le_trans hk15.1 hR.2.2.1, Nat.le_trans hk15.2 hR.2.2.2⟩ dX7_slope_27 rfl (Nat.le_of_ble_eq_true rfl) (fun E τ h => hout E τ _ _ _ _ _ h hk15.1 hk15.2) (fun s14 hw => ?_)
  refine g_aload_n C.1 0 dX7_slope_30 rfl rfl ?_
  refine c_get7 C hw.1 1 (by decide) kC_395 (fun _ h => h) rfl dX7_slope_31 ?_
  replace hw := hw.2
  obtain ⟨a16, ha16, hw⟩ := hw
  rw [ha16]
  refine c_callVi (vs := []) C hsz (cC_Jx4a65c_size_8abf5 (g_l X) G s14 _ _ hw.2) kC_13 kC_431 kC_11 kC_12 kC_14 hdC_Jx4a65c_size_8abf5 (c_recv0 C hw.1) ⟨(Nat.le_trans (Nat.le_of_ble_eq_true rfl) hR.1), (Nat.le_trans (Nat.le_of_ble_eq_true rfl) hR.2.1)⟩ ⟨Nat.le_trans hk15.1 hR.2.2.1, Nat.le_trans hk15.2 hR.2.2.2⟩ dX7_slope_34 rfl (Nat.le_of_ble_eq_true rfl) (fun r18 s17 hw => ?_)
  refine g_bipush (v := 10) C.1 dX7_slope_37 (by decide) ?_
  have hk20 : 0 + 1 + 1 + 1 + 1 + 1 + 1 ≤ mc ∧ 0 + 6 + 6 + 6 + 6 + 6 + 6 ≤ ms := ⟨hw.1, hw.2.1⟩
  replace hw := hw.2.2
  refine c_throwSv (vs := [.int r18, .int 10]) C hsz (cC_X7_checkRoom (g_l X) hfl G s17 _ _ _ _ hw) kC_412 kC_432 kC_433 kC_423 hdC_X7_checkRoom ⟨(Nat.le_trans (Nat.le_of_ble_eq_true rfl) hR.1), (Nat.le_trans (Nat.le_of_ble_eq_true rfl) hR.2.1)⟩ ⟨Nat.le_trans hk20.1 hR.2.2.1, Nat.le_trans hk20.2 hR.2.2.2⟩ dX7_slope_39 rfl (Nat.le_of_ble_eq_true rfl) (fun E τ h => hout E τ _ _ _ _ _ h hk20.1 hk20.2) (fun s19 hw => ?_)
  refine g_aload_n C.1 0 dX7_slope_42 rfl rfl ?_
  refine c_get7 C hw.1 2 (by decide) kC_396 (fun _ h => h) rfl dX7_slope_43 ?_
  replace hw := hw.2
  obtain ⟨a21, ha21, hw⟩ := hw
  rw [ha21]
  refine c_callVi (vs := []) C hsz (cC_Jx4a65c_size_8abf5 (g_l X) G s19 _ _ hw.2) kC_13 kC_431 kC_11 kC_12 kC_14 hdC_Jx4a65c_size_8abf5 (c_recv0 C hw.1) ⟨(Nat.le_trans (Nat.le_of_ble_eq_true rfl) hR.1), (Nat.le_trans (Nat.le_of_ble_eq_true rfl) hR.2.1)⟩ ⟨Nat.le_trans hk20.1 hR.2.2.1, Nat.le_trans hk20.2 hR.2.2.2⟩ dX7_slope_46 rfl (Nat.le_of_ble_eq_true rfl) (fun r23 s22 hw => ?_)
  refine g_iload C.1 5 dX7_slope_49 rfl ?_
  refine g_iadd C.1 dX7_slope_51 ?_
  refine g_iconst (v := 1) C.1 dX7_slope_52 (by decide) ?_
  refine g_isub C.1 dX7_slope_53 ?_
  refine g_bipush (v := 40) C.1 dX7_slope_54 (by decide) ?_
  have hk25 : 0 + 1 + 1 + 1 + 1 + 1 + 1 + 1 ≤ mc ∧ 0 + 6 + 6 + 6 + 6 + 6 + 6 + 6 ≤ ms := ⟨hw.1, hw.2.1⟩
  replace hw := hw.2.2
  refine c_throwSv (vs := [.int ((r23 + v5) - 1), .int 40]) C hsz (cC_X7_checkRoom (g_l X) hfl G s22 _ _ _ _ hw) kC_412 kC_432 kC_433 kC_423 hdC_X7_checkRoom ⟨(Nat.le_trans (Nat.le_of_ble_eq_true rfl) hR.1), (Nat.le_trans (Nat.le_of_ble_eq_true rfl) hR.2.1)⟩ ⟨Nat.le_trans hk25.1 hR.2.2.1, Nat.le_trans hk25.2 hR.2.2.2⟩ dX7_slope_56 rfl (Nat.le_of_ble_eq_true rfl) (fun E τ h => hout E τ _ _ _ _ _ h hk25.1 hk25.2) (fun s24 hw => ?_)
  refine g_aload_n C.1 0 dX7_slope_59 rfl rfl ?_
  refine c_get7 C hw.1 1 (by decide) kC_395 (fun _ h => h) rfl dX7_slope_60 ?_
  replace hw := hw.2
  obtain ⟨a26, ha26, hw⟩ := hw
  rw [ha26]
  refine c_callVi (vs := []) C hsz (cC_Jx4a65c_size_8abf5 (g_l X) G s24 _ _ hw.2) kC_13 kC_431 kC_11 kC_12 kC_14 hdC_Jx4a65c_size_8abf5 (c_recv0 C hw.1) ⟨(Nat.le_trans (Nat.le_of_ble_eq_true rfl) hR.1), (Nat.le_trans (Nat.le_of_ble_eq_true rfl) hR.2.1)⟩ ⟨Nat.le_trans hk25.1 hR.2.2.1, Nat.le_trans hk25.2 hR.2.2.2⟩ dX7_slope_63 rfl (Nat.le_of_ble_eq_true rfl) (fun r28 s27 hw => ?_)
  refine g_istore (lv' := [(6, .int r28), (0, .ref v0), (1, .int v1), (2, .int v2), (3, .int v3), (4, .int v4), (5, .int v5)]) C.1 dX7_slope_66 (by decide) rfl ?_
  have hk31 : 0 + 1 + 1 + 1 + 1 + 1 + 1 + 1 + 1 ≤ mc ∧ 0 + 6 + 6 + 6 + 6 + 6 + 6 + 6 + 10 ≤ ms := ⟨hw.1, hw.2.1⟩
  replace hw := hw.2.2
  refine c_new6 C hsz kC_445 kC_446 kC_447 (Nat.le_trans hk31.1 hR.2.2.1) (Nat.le_trans hk31.2 hR.2.2.2) dX7_slope_68 (fun q29 hq29 => ?_)
  replace hw := hw q29 hq29
  refine gJ.nm (fun s30 es30 => ?_)
  replace hw := hw s30 es30
  refine g_dup C.1 dX7_slope_71 rfl ?_
  refine g_iload C.1 0 dX7_slope_72 rfl ?_
  refine g_iload_n C.1 2 dX7_slope_74 rfl rfl ?_
  refine g_iload_n C.1 3 dX7_slope_75 rfl rfl ?_
  refine g_iload_n C.1 4 dX7_slope_76 rfl rfl ?_
  refine g_iload C.1 5 dX7_slope_77 rfl ?_
  have hk33 : 0 + 1 + 1 + 1 + 1 + 1 + 1 + 1 + 1 + 2 ≤ mc ∧ 0 + 6 + 6 + 6 + 6 + 6 + 6 + 6 + 10 + 3 ≤ ms := ⟨hw.1, hw.2.1⟩
  replace hw := hw.2.2
  refine c_callIv (vs := [.int r28, .int v1, .int v2, .int v3, .int v4]) C hsz (cC_X6_init (g_l X) G s30 _ _ _ _ _ _ _ hw) kC_447 kC_448 kC_449 kC_377 rfl hdC_X6_init ⟨(Nat.le_trans (Nat.le_of_ble_eq_true rfl) hR.1), (Nat.le_trans (Nat.le_of_ble_eq_true rfl) hR.2.1)⟩ ⟨Nat.le_trans hk33.1 hR.2.2.1, Nat.le_trans hk33.2 hR.2.2.2⟩ dX7_slope_79 rfl (Nat.le_of_ble_eq_true rfl) (fun s32 hw => ?_)
  refine g_astore (lv' := [(7, .ref q29), (6, .int r28), (0, .ref v0), (1, .int v1), (2, .int v2), (3, .int v3), (4, .int v4), (5, .int v5)]) C.1 dX7_slope_82 (by decide) rfl ?_
  refine g_aload_n C.1 2 dX7_slope_84 rfl rfl ?_
  refine c_get7 C hw.1 1 (by decide) kC_395 (fun _ h => h) rfl dX7_slope_85 ?_
  replace hw := hw.2
  obtain ⟨a34, ha34, hw⟩ := hw
  rw [ha34]
  refine g_aload C.1 0 dX7_slope_88 rfl ?_
  obtain ⟨m35, m36, gm35, gm36, hw⟩ := hw
  have hk38 : 0 + 1 + 1 + 1 + 1 + 1 + 1 + 1 + 1 + 2 + m35 ≤ mc ∧ 0 + 6 + 6 + 6 + 6 + 6 + 6 + 6 + 10 + 3 + m36 ≤ ms := ⟨gm35, gm36⟩
  refine c_callVi (vs := [.ref q29]) C hsz (cC_Jx4a65c_add_9ea2d m35 m36 (g_l X) G s32 _ _ _ hw.2) kC_13 kC_436 kC_159 kC_160 kC_161 hdC_Jx4a65c_add_9ea2d (c_recv0 C hw.1) ⟨(Nat.le_trans (Nat.le_of_ble_eq_true rfl) hR.1), (Nat.le_trans (Nat.le_of_ble_eq_true rfl) hR.2.1)⟩ ⟨Nat.le_trans hk38.1 hR.2.2.1, Nat.le_trans hk38.2 hR.2.2.2⟩ dX7_slope_90 rfl (Nat.le_of_ble_eq_true rfl) (fun r39 s37 hw => ?_)
  refine g_pop C.1 dX7_slope_93 rfl ?_
  refine g_iconst (v := 0) C.1 dX7_slope_94 (by decide) ?_
  refine g_istore (lv' := [(8, .int 0), (7, .ref q29), (6, .int r28), (0, .ref v0), (1, .int v1), (2, .int v2), (3, .int v3), (4, .int v4), (5, .int v5)]) C.1 dX7_slope_95 (by decide) rfl ?_
  refine gJ.sub [3, 8, 2, 1, 0] rfl ?_
  exact wkC_X7_slope_97 C hsz hR hfl hout hthr hret _ _ _ _ _ _ _ _ hk38 hw
theorem hdC_X7_slope : yX7_slope.cls = RX7 ∧ yX7_slope.cls ≠ "java/lang/invoke/MethodHandle" ∧ yX7_slope.cls ≠ "java/lang/invoke/VarHandle" ∧ (parseMethodDescriptor yX7_slope.desc).map (fun d => d.parameters.length) = some 5 := by decide +kernel
theorem cC_X7_slope (mc ms : Nat) (l : Launch) (hfl : l.stackTraces = false) (G : cG) (s : CSt) (v0 : Nat) (v1 : Int32) (v2 : Int32) (v3 : Int32) (v4 : Int32) (v5 : Int32) (post : Int32 → CSt → Prop) (pX : String → CSt → Prop) (hm : 1 ≤ mc ∧ 6 ≤ ms) (hw : wpC_X7_slope_0 mc ms post pX s v0 v1 v2 v3 v4 v5) : cTi l yX7_slope cX7_slope 9 .int 8 213 mc ms G s [.ref v0, .int v1, .int v2, .int v3, .int v4, .int v5] post pX := cTi_of hfl (by decide +kernel) rfl rfl (Nat.le_of_ble_eq_true rfl) ⟨hm.1, hm.2, by decide, by decide⟩ (fun X A H0 Q hl hR hsz C hret hout hthr => wkC_X7_slope_0 C hsz hR (by rw [hl]; exact hfl) hout hthr hret s v0 v1 v2 v3 v4 v5 hw)
def wpC_X7_rule_0 (post : Int32 → CSt → Prop) (pX : String → CSt → Prop) (s : CSt) (v0 : Nat) (v1 : Int32) : Prop := cAt s 7 v0 ∧ cAt s 7 v0 ∧ ∀ s1 : CSt, s1 = csI s 119 v0 0 → cAt s1 7 v0 ∧ wpC_X7_slopeAt_0 (fun r3 s2 => cAt s2 7 v0 ∧ ∃ a4 : Nat, cR s2 117 v0 = some a4 ∧ cAt s2 7 v0 ∧ ∃ a5 : Nat, cR s2 118 v0 = some a5 ∧ cAt s2 7 v0 ∧ ∃ a6 : Nat, cR s2 113 v0 = some a6 ∧ cAt s2 0 a6 ∧ wpC_Jx4a65c_size_8abf5_0 (fun r8 s7 => cAt s7 7 v0 ∧ ∃ a9 : Nat, cR s7 112 v0 = some a9 ∧ cAt s7 0 a9 ∧ wpC_Jx4a65c_size_8abf5_0 (fun r11 s10 => cAt s10 5 a4 ∧ wpC_X5_takes_0 (fun r13 s12 => cAt s12 7 v0 ∧ ∃ a14 : Nat, cR s12 117 v0 = some a14 ∧ cAt s12 5 a14 ∧ cAt s12 7 v0 ∧ ∀ s15 : CSt, s15 = csI s12 122 v0 (cI s12 80 a14) → cAt s15 7 v0 ∧ ∀ s16 : CSt, s16 = csI s15 123 v0 0 → (¬ r13 = 0 → cAt s16 7 v0 ∧ ∃ a18 : Nat, cR s16 117 v0 = some a18 ∧ cAt s16 5 a18 ∧ ∃ a19 : Nat, r3 = some a19 ∧ cAt s16 7 v0 ∧ wpC_X7_circleWith_0 (fun r21 s20 => cAt s20 7 v0 ∧ ∀ s22 : CSt, s22 = csI s20 123 v0 r21 → cAt s22 7 v0 ∧ ((cI s22 123 v0) = 0 → cAt s22 6 a19 ∧ ∀ s24 : CSt, s24 = csI s22 102 a19 1 → cAt s24 7 v0 ∧ ∃ a25 : Nat, cR s24 117 v0 = some a25 ∧ cAt s24 5 a25 ∧ cAt s24 6 a19 ∧ ∀ s26 : CSt, s26 = csI s24 103 a19 (cI s24 81 a25) → cAt s26 7 v0 ∧ ∃ a27 : Nat, cR s26 117 v0 = some a27 ∧ cAt s26 5 a27 ∧ wpC_X5_codeCopy_0 (fun r29 s28 => cAt s28 6 a19 ∧ ∀ s30 : CSt, s30 = csR s28 104 a19 r29 → cAt s30 6 a19 ∧ wpC_J6_bitCount_0f7a4_0 (fun r32 s31 => post r32 s31) s30 (cI s30 103 a19)) s26 a27) ∧ (¬ (cI s22 123 v0) = 0 → pX "java/lang/IllegalStateException" s22)) s16 v0 a19 (cI s16 81 a18)) ∧ (r13 = 0 → pX "java/lang/IllegalArgumentException" s16)) s10 a4 a5 (cI s 119 v0) r8 r11) s7 a9) s2 a6) pX s1 v0 v1
theorem wkC_X7_rule_0 {X : gT} {G : cG} {A : Nat → Prop} {H0 : Heap} {Q : State → Prop} (C : cC X cX7_rule 5 RX7 G A) (hsz : H0 = (g_s X).heap) (hR : 96 ≤ (g_R X).frames ∧ 2172 ≤ (g_R X).locals ∧ 2 ≤ (g_R X).cells ∧ 406 ≤ (g_R X).slots) {pX : String → CSt → Prop} (hfl : (g_l X).stackTraces = false) (hout : ∀ (E : String) (τ : CSt) (lv : List (Nat × Value)) (pc k n : Nat) (rest : List Value), pX E τ → k ≤ 2 → n ≤ 406 → gX X (cWd G A H0) Q k n τ lv pc rest E) (hthr : ∀ (j : Nat) (τ : CSt) (lv : List (Nat × Value)) (pc k n ik : Nat) (rest : List Value), j < 5 → pX (cNm j) τ → k + 1 ≤ 2 → n + 6 ≤ 406 → (rest.map fun v => v.category).sum ≤ 8 → Cond.classLink RX7 ik (cNm j) ∈ wC → Cond.initialized (cNm j) ∈ wC → decode cX7_rule pc = .ok (.new ik, 3) → decode cX7_rule (pc + 3) = .ok (.dup, 1) → decode cX7_rule (pc + 4) = .ok (.invokespecial (cNi j), 3) → decode cX7_rule (pc + 7) = .ok (.athrow, 1) → gJ X (cWd G A H0) Q k n τ lv pc rest) {post : Int32 → CSt → Prop} (hret : ∀ (r : Int32) (τ : CSt) (lv : List (Nat × Value)) (pc : Nat), post r τ → narrow .int (.int r) = .int r → decode cX7_rule pc = .ok (.ireturn, 1) → gJ X (cWd G A H0) Q 2 406 τ lv pc [.int r]) (s : CSt) (v0 : Nat) (v1 : Int32) (hw : wpC_X7_rule_0 post pX s v0 v1) : gJ X (cWd G A H0) Q 0 0 s [(0, .ref v0), (1, .int v1)] 0 [] := by
  refine g_aload_n C.1 0 dX7_rule_0 rfl rfl ?_
  refine c_get7 C hw.1 7 (by decide) kC_407 (fun _ h => h) rfl dX7_rule_1 ?_
  replace hw := hw.2
  refine g_istore_n (lv' := [(2, .int (cI s 119 v0)), (0, .ref v0), (1, .int v1)]) C.1 dX7_rule_4 rfl (by decide) rfl ?_
  refine g_aload_n C.1 1 dX7_rule_5 rfl rfl ?_
  refine g_iconst (v := 0) C.1 dX7_rule_6 (by decide) ?_
  refine c_put7 C (τ := csI s 119 v0 0) hw.1 7 (by decide) kC_407 (fun _ h => h) rfl (ty := .int) (by decide +kernel) rfl rfl rfl hw.1.2 rfl (cx_7_7 _ _ _) (fun _ hb => csI_o hb) dX7_rule_7 ?_
  replace hw := hw.2
  refine gJ.nm (fun s1 es1 => ?_)
  replace hw := hw s1 es1
  refine g_aload_n C.1 1 dX7_rule_10 rfl rfl ?_
  refine g_iload_n C.1 2 dX7_rule_11 rfl rfl ?_
  refine c_throwVq (vs := [.int v1]) C hsz (cC_X7_slopeAt (g_l X) hfl G s1 _ _ _ _ hw.2) kC_412 kC_485 kC_486 kC_487 kC_471 hdC_X7_slopeAt (c_recv7 C hw.1) ⟨(Nat.le_trans (Nat.le_of_ble_eq_true rfl) hR.1), (Nat.le_trans (Nat.le_of_ble_eq_true rfl) hR.2.1)⟩ ⟨(Nat.le_trans (Nat.le_of_ble_eq_true rfl) hR.2.2.1), (Nat.le_trans (Nat.le_of_ble_eq_true rfl) hR.2.2.2)⟩ dX7_rule_12 rfl (Nat.le_of_ble_eq_true rfl) (fun E τ h => hout E τ _ _ _ _ _ h (Nat.le_of_ble_eq_true rfl) (Nat.le_of_ble_eq_true rfl)) (fun r3 s2 hw => ?_)
  refine g_qstore_n (lv' := [(3, va_rf r3), (2, .int (cI s 119 v0)), (0, .ref v0), (1, .int v1)]) C.1 dX7_rule_15 rfl (by decide) rfl ?_
  refine g_aload_n C.1 2 dX7_rule_16 rfl rfl ?_
  refine c_get7 C hw.1 5 (by decide) kC_401 (fun _ h => h) rfl dX7_rule_17 ?_
  replace hw := hw.2
  obtain ⟨a4, ha4, hw⟩ := hw
  rw [ha4]
  refine g_aload_n C.1 2 dX7_rule_20 rfl rfl ?_
  refine c_get7 C hw.1 6 (by decide) kC_402 (fun _ h => h) rfl dX7_rule_21 ?_
  replace hw := hw.2
  obtain ⟨a5, ha5, hw⟩ := hw
  rw [ha5]
  refine g_iload_n C.1 1 dX7_rule_24 rfl rfl ?_
  refine g_aload_n C.1 2 dX7_rule_25 rfl rfl ?_
  refine c_get7 C hw.1 1 (by decide) kC_395 (fun _ h => h) rfl dX7_rule_26 ?_
  replace hw := hw.2
  obtain ⟨a6, ha6, hw⟩ := hw
  rw [ha6]
  refine c_callVi (vs := []) C hsz (cC_Jx4a65c_size_8abf5 (g_l X) G s2 _ _ hw.2) kC_13 kC_431 kC_11 kC_12 kC_14 hdC_Jx4a65c_size_8abf5 (c_recv0 C hw.1) ⟨(Nat.le_trans (Nat.le_of_ble_eq_true rfl) hR.1), (Nat.le_trans (Nat.le_of_ble_eq_true rfl) hR.2.1)⟩ ⟨(Nat.le_trans (Nat.le_of_ble_eq_true rfl) hR.2.2.1), (Nat.le_trans (Nat.le_of_ble_eq_true rfl) hR.2.2.2)⟩ dX7_rule_29 rfl (Nat.le_of_ble_eq_true rfl) (fun r8 s7 hw => ?_)
  refine g_aload_n C.1 2 dX7_rule_32 rfl rfl ?_
  refine c_get7 C hw.1 0 (by decide) kC_394 (fun _ h => h) rfl dX7_rule_33 ?_
  replace hw := hw.2
  obtain ⟨a9, ha9, hw⟩ := hw
  rw [ha9]
  refine c_callVi (vs := []) C hsz (cC_Jx4a65c_size_8abf5 (g_l X) G s7 _ _ hw.2) kC_13 kC_431 kC_11 kC_12 kC_14 hdC_Jx4a65c_size_8abf5 (c_recv0 C hw.1) ⟨(Nat.le_trans (Nat.le_of_ble_eq_true rfl) hR.1), (Nat.le_trans (Nat.le_of_ble_eq_true rfl) hR.2.1)⟩ ⟨(Nat.le_trans (Nat.le_of_ble_eq_true rfl) hR.2.2.1), (Nat.le_trans (Nat.le_of_ble_eq_true rfl) hR.2.2.2)⟩ dX7_rule_36 rfl (Nat.le_of_ble_eq_true rfl) (fun r11 s10 hw => ?_)
  refine c_callVi (vs := [.ref a5, .int (cI s 119 v0), .int r8, .int r11]) C hsz (cC_X5_takes (g_l X) G s10 _ _ _ _ _ _ hw.2) kC_256 kC_488 kC_489 kC_490 kC_356 hdC_X5_takes (c_recv5 C hw.1) ⟨(Nat.le_trans (Nat.le_of_ble_eq_true rfl) hR.1), (Nat.le_trans (Nat.le_of_ble_eq_true rfl) hR.2.1)⟩ ⟨(Nat.le_trans (Nat.le_of_ble_eq_true rfl) hR.2.2.1), (Nat.le_trans (Nat.le_of_ble_eq_true rfl) hR.2.2.2)⟩ dX7_rule_39 rfl (Nat.le_of_ble_eq_true rfl) (fun r13 s12 hw => ?_)
  refine g_istore (lv' := [(4, .int r13), (3, va_rf r3), (2, .int (cI s 119 v0)), (0, .ref v0), (1, .int v1)]) C.1 dX7_rule_42 (by decide) (by simp [va_rf_cat]) ?_
  refine g_aload_n C.1 3 dX7_rule_44 rfl rfl ?_
  refine g_aload_n C.1 3 dX7_rule_45 rfl rfl ?_
  refine c_get7 C hw.1 5 (by decide) kC_401 (fun _ h => h) rfl dX7_rule_46 ?_
  replace hw := hw.2
  obtain ⟨a14, ha14, hw⟩ := hw
  rw [ha14]
  refine c_get5 C hw.1 0 (by decide) kC_480 (fun _ h => h) rfl dX7_rule_49 ?_
  replace hw := hw.2
  refine c_put7 C (τ := csI s12 122 v0 (cI s12 80 a14)) hw.1 10 (by decide) kC_403 (fun _ h => h) rfl (ty := .int) (by decide +kernel) rfl rfl rfl hw.1.2 rfl (cx_7_10 _ _ _) (fun _ hb => csI_o hb) dX7_rule_52 ?_
  replace hw := hw.2
  refine gJ.nm (fun s15 es15 => ?_)
  replace hw := hw s15 es15
  refine g_aload_n C.1 3 dX7_rule_55 rfl rfl ?_
  refine g_iconst (v := 0) C.1 dX7_rule_56 (by decide) ?_
  refine c_put7 C (τ := csI s15 123 v0 0) hw.1 11 (by decide) kC_481 (fun _ h => h) rfl (ty := .int) (by decide +kernel) rfl rfl rfl hw.1.2 rfl (cx_7_11 _ _ _) (fun _ hb => csI_o hb) dX7_rule_57 ?_
  replace hw := hw.2
  refine gJ.nm (fun s16 es16 => ?_)
  replace hw := hw s16 es16
  refine g_iload C.1 0 dX7_rule_60 rfl ?_
  refine g_if_ne (tgt := 73) C.1 dX7_rule_62 (by decide) (fun h17 => ?_) (fun h17 => ?_)
  · replace hw := hw.1 h17
    refine g_aload_n C.1 3 dX7_rule_73 rfl rfl ?_
    refine g_aload_n C.1 3 dX7_rule_74 rfl rfl ?_
    refine g_qload_n C.1 1 dX7_rule_75 rfl rfl ?_
    refine g_aload_n C.1 3 dX7_rule_76 rfl rfl ?_
    refine c_get7 C hw.1 5 (by decide) kC_401 (fun _ h => h) rfl dX7_rule_77 ?_
    replace hw := hw.2
    obtain ⟨a18, ha18, hw⟩ := hw
    rw [ha18]
    refine c_get5 C hw.1 1 (by decide) kC_482 (fun _ h => h) rfl dX7_rule_80 ?_
    replace hw := hw.2
    obtain ⟨a19, ha19, hw⟩ := hw
    rw [ha19]
    refine c_callVi (vs := [.ref a19, .int (cI s16 81 a18)]) C hsz (cC_X7_circleWith (g_l X) G s16 _ _ _ _ hw.2) kC_412 kC_491 kC_492 kC_493 kC_477 hdC_X7_circleWith (c_recv7 C hw.1) ⟨(Nat.le_trans (Nat.le_of_ble_eq_true rfl) hR.1), (Nat.le_trans (Nat.le_of_ble_eq_true rfl) hR.2.1)⟩ ⟨(Nat.le_trans (Nat.le_of_ble_eq_true rfl) hR.2.2.1), (Nat.le_trans (Nat.le_of_ble_eq_true rfl) hR.2.2.2)⟩ dX7_rule_83 rfl (Nat.le_of_ble_eq_true rfl) (fun r21 s20 hw => ?_)
    refine c_put7 C (τ := csI s20 123 v0 r21) hw.1 11 (by decide) kC_481 (fun _ h => h) rfl (ty := .int) (by decide +kernel) rfl rfl rfl hw.1.2 rfl (cx_7_11 _ _ _) (fun _ hb => csI_o hb) dX7_rule_86 ?_
    replace hw := hw.2
    refine gJ.nm (fun s22 es22 => ?_)
    replace hw := hw s22 es22
    refine g_aload_n C.1 3 dX7_rule_89 rfl rfl ?_
    refine c_get7 C hw.1 11 (by decide) kC_481 (fun _ h => h) rfl dX7_rule_90 ?_
    replace hw := hw.2
    refine g_if_eq (tgt := 104) C.1 dX7_rule_93 (by decide) (fun h23 => ?_) (fun h23 => ?_)
    · replace hw := hw.1 h23
      refine g_aload_n C.1 1 dX7_rule_104 rfl rfl ?_
      refine g_iconst (v := 1) C.1 dX7_rule_105 (by decide) ?_
      refine c_put6 C (τ := csI s22 102 a19 1) hw.1 6 (by decide) kC_483 (fun _ h => h) rfl (ty := .boolean) (by decide +kernel) rfl rfl rfl hw.1.2 rfl (cx_6_6 _ _ _) (fun _ hb => csI_o hb) dX7_rule_106 ?_
      replace hw := hw.2
      refine gJ.nm (fun s24 es24 => ?_)
      replace hw := hw s24 es24
      refine g_aload_n C.1 1 dX7_rule_109 rfl rfl ?_
      refine g_aload_n C.1 3 dX7_rule_110 rfl rfl ?_
      refine c_get7 C hw.1 5 (by decide) kC_401 (fun _ h => h) rfl dX7_rule_111 ?_
      replace hw := hw.2
      obtain ⟨a25, ha25, hw⟩ := hw
      rw [ha25]
      refine c_get5 C hw.1 1 (by decide) kC_482 (fun _ h => h) rfl dX7_rule_114 ?_
      replace hw := hw.2
      refine c_put6 C (τ := csI s24 103 a19 (cI s24 81 a25)) hw.1 7 (by decide) kC_473 (fun _ h => h) rfl (ty := .int) (by decide +kernel) rfl rfl rfl hw.1.2 rfl (cx_6_7 _ _ _) (fun _ hb => csI_o hb) dX7_rule_117 ?_
      replace hw := hw.2
      refine gJ.nm (fun s26 es26 => ?_)
      replace hw := hw s26 es26
      refine g_aload_n C.1 1 dX7_rule_120 rfl rfl ?_
      refine g_aload_n C.1 3 dX7_rule_121 rfl rfl ?_
      refine c_get7 C hw.1 5 (by decide) kC_401 (fun _ h => h) rfl dX7_rule_122 ?_
      replace hw := hw.2
      obtain ⟨a27, ha27, hw⟩ := hw
      rw [ha27]
      refine c_callVq (vs := []) C hsz (cC_X5_codeCopy (g_l X) G s26 _ _ hw.2) kC_256 kC_494 kC_495 kC_496 kC_366 hdC_X5_codeCopy (c_recv5 C hw.1) ⟨(Nat.le_trans (Nat.le_of_ble_eq_true rfl) hR.1), (Nat.le_trans (Nat.le_of_ble_eq_true rfl) hR.2.1)⟩ ⟨(Nat.le_trans (Nat.le_of_ble_eq_true rfl) hR.2.2.1), (Nat.le_trans (Nat.le_of_ble_eq_true rfl) hR.2.2.2)⟩ dX7_rule_125 rfl (Nat.le_of_ble_eq_true rfl) (fun r29 s28 hw => ?_)
      refine c_put6 C (τ := csR s28 104 a19 r29) hw.1 8 (by decide) kC_484 (fun _ h => h) rfl (ty := .array .int) (by decide +kernel) (c_nqA _) (c_fqA _) rfl hw.1.2 rfl (cx_6_8 _ _ r29) (fun _ hb => csR_o hb) dX7_rule_128 ?_
      replace hw := hw.2
      refine gJ.nm (fun s30 es30 => ?_)
      replace hw := hw s30 es30
      refine g_aload_n C.1 1 dX7_rule_131 rfl rfl ?_
      refine c_get6 C hw.1 7 (by decide) kC_473 (fun _ h => h) rfl dX7_rule_132 ?_
      replace hw := hw.2
      refine c_callSi (vs := [.int (cI s30 103 a19)]) C hsz (cC_J6_bitCount_0f7a4 (g_l X) G s30 _ _ hw) kC_499 kC_497 kC_498 kC_500 hdC_J6_bitCount_0f7a4 ⟨(Nat.le_trans (Nat.le_of_ble_eq_true rfl) hR.1), (Nat.le_trans (Nat.le_of_ble_eq_true rfl) hR.2.1)⟩ ⟨(Nat.le_trans (Nat.le_of_ble_eq_true rfl) hR.2.2.1), (Nat.le_trans (Nat.le_of_ble_eq_true rfl) hR.2.2.2)⟩ dX7_rule_135 rfl (Nat.le_of_ble_eq_true rfl) (fun r32 s31 hw => ?_)
      exact hret _ _ _ _ hw rfl dX7_rule_138
    · replace hw := hw.2 h23
      exact hthr 3 _ _ _ _ _ _ _ (by decide) hw (Nat.le_of_ble_eq_true rfl) (Nat.le_of_ble_eq_true rfl) (Nat.le_of_ble_eq_true rfl) kC_478 kC_479 dX7_rule_96 dX7_rule_99 dX7_rule_100 dX7_rule_103
  · replace hw := hw.2 h17
    exact hthr 1 _ _ _ _ _ _ _ (by decide) hw (Nat.le_of_ble_eq_true rfl) (Nat.le_of_ble_eq_true rfl) (Nat.le_of_ble_eq_true rfl) kC_418 kC_419 dX7_rule_65 dX7_rule_68 dX7_rule_69 dX7_rule_72
theorem hdC_X7_rule : yX7_rule.cls = RX7 ∧ yX7_rule.cls ≠ "java/lang/invoke/MethodHandle" ∧ yX7_rule.cls ≠ "java/lang/invoke/VarHandle" ∧ (parseMethodDescriptor yX7_rule.desc).map (fun d => d.parameters.length) = some 1 := by decide +kernel
theorem cC_X7_rule (l : Launch) (hfl : l.stackTraces = false) (G : cG) (s : CSt) (v0 : Nat) (v1 : Int32) (post : Int32 → CSt → Prop) (pX : String → CSt → Prop) (hw : wpC_X7_rule_0 post pX s v0 v1) : cTi l yX7_rule cX7_rule 5 .int 96 2172 2 406 G s [.ref v0, .int v1] post pX := cTi_of hfl (by decide +kernel) rfl rfl (Nat.le_of_ble_eq_true rfl) ⟨by decide, by decide, by decide, by decide⟩ (fun X A H0 Q hl hR hsz C hret hout hthr => wkC_X7_rule_0 C hsz hR (by rw [hl]; exact hfl) hout hthr hret s v0 v1 hw)
def wpC_X7_init_0 (post : CSt → Prop) (s : CSt) (v0 : Nat) : Prop := ∀ q1 : Nat, q1 ∉ cL s → ∀ s2 : CSt, s2 = csO s q1 0 → wpC_Jx4a65c_init_da8c8_0 (fun s3 => cAt s3 7 v0 ∧ ∀ s4 : CSt, s4 = csR s3 112 v0 (some q1) → ∀ q5 : Nat, q5 ∉ cL s4 → ∀ s6 : CSt, s6 = csO s4 q5 0 → wpC_Jx4a65c_init_da8c8_0 (fun s7 => cAt s7 7 v0 ∧ ∀ s8 : CSt, s8 = csR s7 113 v0 (some q5) → ∀ q9 : Nat, q9 ∉ cL s8 → ∀ s10 : CSt, s10 = csO s8 q9 0 → wpC_Jx4a65c_init_da8c8_0 (fun s11 => cAt s11 7 v0 ∧ ∀ s12 : CSt, s12 = csR s11 114 v0 (some q9) → ∀ q13 : Nat, q13 ∉ cL s12 → ∀ s14 : CSt, s14 = csO s12 q13 0 → wpC_Jx4a65c_init_da8c8_0 (fun s15 => cAt s15 7 v0 ∧ ∀ s16 : CSt, s16 = csR s15 115 v0 (some q13) → ∀ q17 : Nat, q17 ∉ cL s16 → ∀ s18 : CSt, s18 = csO s16 q17 0 → wpC_Jx4a65c_init_da8c8_0 (fun s19 => cAt s19 7 v0 ∧ ∀ s20 : CSt, s20 = csR s19 116 v0 (some q17) → ∀ q21 : Nat, q21 ∉ cL s20 → ∀ s22 : CSt, s22 = csO s20 q21 5 → wpC_X5_init_0 (fun s23 => cAt s23 7 v0 ∧ ∀ s24 : CSt, s24 = csR s23 117 v0 (some q21) → ∀ q25 : Nat, q25 ∉ cL s24 → ∀ s26 : CSt, s26 = csA s24 q25 8 (400 : Int32).toNatClampNeg → cAt s26 7 v0 ∧ ∀ s27 : CSt, s27 = csR s26 118 v0 (some q25) → cAt s27 7 v0 ∧ ∀ s28 : CSt, s28 = csI s27 122 v0 (-1) → post s28) s22 q21) s18 q17) s14 q13) s10 q9) s6 q5) s2 q1
theorem wkC_X7_init_0 {X : gT} {G : cG} {A : Nat → Prop} {H0 : Heap} {Q : State → Prop} (C : cC X cX7_init 1 RX7 G A) (hsz : H0 = (g_s X).heap) (hR : 4 ≤ (g_R X).frames ∧ 84 ≤ (g_R X).locals ∧ 9 ≤ (g_R X).cells ∧ 1227 ≤ (g_R X).slots) (hnm : (g_me X).name = "<init>") {post : CSt → Prop} (hret : ∀ (τ : CSt) (lv : List (Nat × Value)) (pc : Nat), post τ → decode cX7_init pc = .ok (.return_, 1) → gJ X (cWd G A H0) Q 9 1227 τ lv pc []) (s : CSt) (v0 : Nat) (hw : wpC_X7_init_0 post s v0) : gJ X (cWd G A H0) Q 0 0 s [(0, .ref v0)] 0 [] := by
  refine g_aload_n C.1 0 dX7_init_0 rfl rfl ?_
  refine g_objInit C.1 C.2.1 (C.2.2.1 _ kC_392) (C.2.2.1 _ kC_93) (C.2.2.1 _ kC_94) (Nat.le_trans (Nat.le_of_ble_eq_true rfl) hR.1) (Nat.le_trans (Nat.le_of_ble_eq_true rfl) hR.2.1) dX7_init_1 ?_
  refine g_aload_n C.1 0 dX7_init_4 rfl rfl ?_
  refine c_new0 C hsz kC_393 kC_133 kC_13 (Nat.le_trans (Nat.le_of_ble_eq_true rfl) hR.2.2.1) (Nat.le_trans (Nat.le_of_ble_eq_true rfl) hR.2.2.2) dX7_init_5 (fun q1 hq1 => ?_)
  replace hw := hw q1 hq1
  refine gJ.nm (fun s2 es2 => ?_)
  replace hw := hw s2 es2
  refine g_dup C.1 dX7_init_8 rfl ?_
  refine c_callIv (vs := []) C hsz (cC_Jx4a65c_init_da8c8 (g_l X) G s2 _ _ hw) kC_13 kC_404 kC_142 kC_143 rfl hdC_Jx4a65c_init_da8c8 ⟨(Nat.le_trans (Nat.le_of_ble_eq_true rfl) hR.1), (Nat.le_trans (Nat.le_of_ble_eq_true rfl) hR.2.1)⟩ ⟨(Nat.le_trans (Nat.le_of_ble_eq_true rfl) hR.2.2.1), (Nat.le_trans (Nat.le_of_ble_eq_true rfl) hR.2.2.2)⟩ dX7_init_9 rfl (Nat.le_of_ble_eq_true rfl) (fun s3 hw => ?_)
  refine c_putF7 C (τ := csR s3 112 v0 (some q1)) hw.1 0 (by decide) kC_394 (fun _ h => h) rfl hnm rfl (ty := .object "java/util/ArrayList") (by decide +kernel) rfl rfl rfl hw.1.2 rfl (cx_7_0 _ _ (some q1)) (fun _ hb => csR_o hb) dX7_init_12 ?_
  replace hw := hw.2
  refine gJ.nm (fun s4 es4 => ?_)
  replace hw := hw s4 es4
  refine g_aload_n C.1 0 dX7_init_15 rfl rfl ?_
  refine c_new0 C hsz kC_393 kC_133 kC_13 (Nat.le_trans (Nat.le_of_ble_eq_true rfl) hR.2.2.1) (Nat.le_trans (Nat.le_of_ble_eq_true rfl) hR.2.2.2) dX7_init_16 (fun q5 hq5 => ?_)
  replace hw := hw q5 hq5
  refine gJ.nm (fun s6 es6 => ?_)
  replace hw := hw s6 es6
  refine g_dup C.1 dX7_init_19 rfl ?_
  refine c_callIv (vs := []) C hsz (cC_Jx4a65c_init_da8c8 (g_l X) G s6 _ _ hw) kC_13 kC_404 kC_142 kC_143 rfl hdC_Jx4a65c_init_da8c8 ⟨(Nat.le_trans (Nat.le_of_ble_eq_true rfl) hR.1), (Nat.le_trans (Nat.le_of_ble_eq_true rfl) hR.2.1)⟩ ⟨(Nat.le_trans (Nat.le_of_ble_eq_true rfl) hR.2.2.1), (Nat.le_trans (Nat.le_of_ble_eq_true rfl) hR.2.2.2)⟩ dX7_init_20 rfl (Nat.le_of_ble_eq_true rfl) (fun s7 hw => ?_)
  refine c_putF7 C (τ := csR s7 113 v0 (some q5)) hw.1 1 (by decide) kC_395 (fun _ h => h) rfl hnm rfl (ty := .object "java/util/ArrayList") (by decide +kernel) rfl rfl rfl hw.1.2 rfl (cx_7_1 _ _ (some q5)) (fun _ hb => csR_o hb) dX7_init_23 ?_
  replace hw := hw.2
  refine gJ.nm (fun s8 es8 => ?_)
  replace hw := hw s8 es8
  refine g_aload_n C.1 0 dX7_init_26 rfl rfl ?_
  refine c_new0 C hsz kC_393 kC_133 kC_13 (Nat.le_trans (Nat.le_of_ble_eq_true rfl) hR.2.2.1) (Nat.le_trans (Nat.le_of_ble_eq_true rfl) hR.2.2.2) dX7_init_27 (fun q9 hq9 => ?_)
  replace hw := hw q9 hq9
  refine gJ.nm (fun s10 es10 => ?_)
  replace hw := hw s10 es10
  refine g_dup C.1 dX7_init_30 rfl ?_
  refine c_callIv (vs := []) C hsz (cC_Jx4a65c_init_da8c8 (g_l X) G s10 _ _ hw) kC_13 kC_404 kC_142 kC_143 rfl hdC_Jx4a65c_init_da8c8 ⟨(Nat.le_trans (Nat.le_of_ble_eq_true rfl) hR.1), (Nat.le_trans (Nat.le_of_ble_eq_true rfl) hR.2.1)⟩ ⟨(Nat.le_trans (Nat.le_of_ble_eq_true rfl) hR.2.2.1), (Nat.le_trans (Nat.le_of_ble_eq_true rfl) hR.2.2.2)⟩ dX7_init_31 rfl (Nat.le_of_ble_eq_true rfl) (fun s11 hw => ?_)
  refine c_putF7 C (τ := csR s11 114 v0 (some q9)) hw.1 2 (by decide) kC_396 (fun _ h => h) rfl hnm rfl (ty := .object "java/util/ArrayList") (by decide +kernel) rfl rfl rfl hw.1.2 rfl (cx_7_2 _ _ (some q9)) (fun _ hb => csR_o hb) dX7_init_34 ?_
  replace hw := hw.2
  refine gJ.nm (fun s12 es12 => ?_)
  replace hw := hw s12 es12
  refine g_aload_n C.1 0 dX7_init_37 rfl rfl ?_
  refine c_new0 C hsz kC_393 kC_133 kC_13 (Nat.le_trans (Nat.le_of_ble_eq_true rfl) hR.2.2.1) (Nat.le_trans (Nat.le_of_ble_eq_true rfl) hR.2.2.2) dX7_init_38 (fun q13 hq13 => ?_)
  replace hw := hw q13 hq13
  refine gJ.nm (fun s14 es14 => ?_)
  replace hw := hw s14 es14
  refine g_dup C.1 dX7_init_41 rfl ?_
  refine c_callIv (vs := []) C hsz (cC_Jx4a65c_init_da8c8 (g_l X) G s14 _ _ hw) kC_13 kC_404 kC_142 kC_143 rfl hdC_Jx4a65c_init_da8c8 ⟨(Nat.le_trans (Nat.le_of_ble_eq_true rfl) hR.1), (Nat.le_trans (Nat.le_of_ble_eq_true rfl) hR.2.1)⟩ ⟨(Nat.le_trans (Nat.le_of_ble_eq_true rfl) hR.2.2.1), (Nat.le_trans (Nat.le_of_ble_eq_true rfl) hR.2.2.2)⟩ dX7_init_42 rfl (Nat.le_of_ble_eq_true rfl) (fun s15 hw => ?_)
  refine c_putF7 C (τ := csR s15 115 v0 (some q13)) hw.1 3 (by decide) kC_397 (fun _ h => h) rfl hnm rfl (ty := .object "java/util/ArrayList") (by decide +kernel) rfl rfl rfl hw.1.2 rfl (cx_7_3 _ _ (some q13)) (fun _ hb => csR_o hb) dX7_init_45 ?_
  replace hw := hw.2
  refine gJ.nm (fun s16 es16 => ?_)
  replace hw := hw s16 es16
  refine g_aload_n C.1 0 dX7_init_48 rfl rfl ?_
  refine c_new0 C hsz kC_393 kC_133 kC_13 (Nat.le_trans (Nat.le_of_ble_eq_true rfl) hR.2.2.1) (Nat.le_trans (Nat.le_of_ble_eq_true rfl) hR.2.2.2) dX7_init_49 (fun q17 hq17 => ?_)
  replace hw := hw q17 hq17
  refine gJ.nm (fun s18 es18 => ?_)
  replace hw := hw s18 es18
  refine g_dup C.1 dX7_init_52 rfl ?_
  refine c_callIv (vs := []) C hsz (cC_Jx4a65c_init_da8c8 (g_l X) G s18 _ _ hw) kC_13 kC_404 kC_142 kC_143 rfl hdC_Jx4a65c_init_da8c8 ⟨(Nat.le_trans (Nat.le_of_ble_eq_true rfl) hR.1), (Nat.le_trans (Nat.le_of_ble_eq_true rfl) hR.2.1)⟩ ⟨(Nat.le_trans (Nat.le_of_ble_eq_true rfl) hR.2.2.1), (Nat.le_trans (Nat.le_of_ble_eq_true rfl) hR.2.2.2)⟩ dX7_init_53 rfl (Nat.le_of_ble_eq_true rfl) (fun s19 hw => ?_)
  refine c_putF7 C (τ := csR s19 116 v0 (some q17)) hw.1 4 (by decide) kC_398 (fun _ h => h) rfl hnm rfl (ty := .object "java/util/ArrayList") (by decide +kernel) rfl rfl rfl hw.1.2 rfl (cx_7_4 _ _ (some q17)) (fun _ hb => csR_o hb) dX7_init_56 ?_
  replace hw := hw.2
  refine gJ.nm (fun s20 es20 => ?_)
  replace hw := hw s20 es20
  refine g_aload_n C.1 0 dX7_init_59 rfl rfl ?_
  refine c_new5 C hsz kC_399 kC_400 kC_256 (Nat.le_trans (Nat.le_of_ble_eq_true rfl) hR.2.2.1) (Nat.le_trans (Nat.le_of_ble_eq_true rfl) hR.2.2.2) dX7_init_60 (fun q21 hq21 => ?_)
  replace hw := hw q21 hq21
  refine gJ.nm (fun s22 es22 => ?_)
  replace hw := hw s22 es22
  refine g_dup C.1 dX7_init_63 rfl ?_
  refine c_callINv (vs := []) C hsz (cC_X5_init (g_l X) G s22 _ _ hw) kC_256 cNg_n kC_405 kC_236 rfl hdC_X5_init ⟨(Nat.le_trans (Nat.le_of_ble_eq_true rfl) hR.1), (Nat.le_trans (Nat.le_of_ble_eq_true rfl) hR.2.1)⟩ ⟨(Nat.le_trans (Nat.le_of_ble_eq_true rfl) hR.2.2.1), (Nat.le_trans (Nat.le_of_ble_eq_true rfl) hR.2.2.2)⟩ dX7_init_64 rfl (Nat.le_of_ble_eq_true rfl) (fun s23 hw => ?_)
  refine c_putF7 C (τ := csR s23 117 v0 (some q21)) hw.1 5 (by decide) kC_401 (fun _ h => h) rfl hnm rfl (ty := .object "SkiHill$RuleReader") (by decide +kernel) rfl rfl rfl hw.1.2 rfl (cx_7_5 _ _ (some q21)) (fun _ hb => csR_o hb) dX7_init_67 ?_
  replace hw := hw.2
  refine gJ.nm (fun s24 es24 => ?_)
  replace hw := hw s24 es24
  refine g_aload_n C.1 0 dX7_init_70 rfl rfl ?_
  refine g_sipush (v := 400) C.1 dX7_init_71 (by decide) ?_
  refine c_newB (B := 400) C hsz (by decide) (by decide) (Nat.le_of_ble_eq_true rfl) (Nat.le_trans (Nat.le_of_ble_eq_true rfl) hR.2.2.1) (Nat.le_trans (Nat.le_of_ble_eq_true rfl) hR.2.2.2) dX7_init_74 (fun q25 hq25 => ?_)
  replace hw := hw q25 hq25
  refine gJ.nm (fun s26 es26 => ?_)
  replace hw := hw s26 es26
  refine c_putF7 C (τ := csR s26 118 v0 (some q25)) hw.1 6 (by decide) kC_402 (fun _ h => h) rfl hnm rfl (ty := .array .byte) (by decide +kernel) rfl rfl rfl hw.1.2 rfl (cx_7_6 _ _ (some q25)) (fun _ hb => csR_o hb) dX7_init_76 ?_
  replace hw := hw.2
  refine gJ.nm (fun s27 es27 => ?_)
  replace hw := hw s27 es27
  refine g_aload_n C.1 0 dX7_init_79 rfl rfl ?_
  refine g_iconst (v := (-1)) C.1 dX7_init_80 (by decide) ?_
  refine c_put7 C (τ := csI s27 122 v0 (-1)) hw.1 10 (by decide) kC_403 (fun _ h => h) rfl (ty := .int) (by decide +kernel) rfl rfl rfl hw.1.2 rfl (cx_7_10 _ _ _) (fun _ hb => csI_o hb) dX7_init_81 ?_
  replace hw := hw.2
  refine gJ.nm (fun s28 es28 => ?_)
  replace hw := hw s28 es28
  exact hret _ _ _ hw dX7_init_84
theorem hdC_X7_init : yX7_init.cls = RX7 ∧ yX7_init.cls ≠ "java/lang/invoke/MethodHandle" ∧ yX7_init.cls ≠ "java/lang/invoke/VarHandle" ∧ (parseMethodDescriptor yX7_init.desc).map (fun d => d.parameters.length) = some 0 := by decide +kernel
theorem cC_X7_init (l : Launch) (G : cG) (s : CSt) (v0 : Nat) (post : CSt → Prop) (hw : wpC_X7_init_0 post s v0) : cMv l yX7_init cX7_init 1 4 84 9 1227 G s [.ref v0] post := cMv_of (by decide +kernel) rfl (Nat.le_of_ble_eq_true rfl) (fun X A H0 Q hl hR hsz hnm C hret => wkC_X7_init_0 C hsz hR hnm hret s v0 hw)
