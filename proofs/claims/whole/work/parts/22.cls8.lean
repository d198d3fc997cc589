def wpC_X7_step_10_F (mc ms : Nat) (post : Int32 → CSt → Prop) (pX : String → CSt → Prop) (K10 : CSt → Nat → Nat → Nat → Int32 → Int32 → Prop) (s : CSt) (k : Nat) (n : Nat) (v0 : Nat) (v1 : Int32) (v2 : Int32) : Prop := (v1 ≤ v2 → cAt s 7 v0 ∧ k ≤ mc ∧ n ≤ ms ∧ post (cI s 121 v0) s) ∧ (¬ v1 ≤ v2 → ∃ m2 m3 : Nat, k + m2 ≤ mc ∧ n + m3 ≤ ms ∧ cAt s 7 v0 ∧ wpC_X7_passMinute_0 m2 m3 (fun s4 => K10 s4 (k + m2) (n + m3) v0 v1 (v2 + 1)) s v0)
def wpC_X7_step_10 (mc ms : Nat) (post : Int32 → CSt → Prop) (pX : String → CSt → Prop) (s : CSt) (k : Nat) (n : Nat) (v0 : Nat) (v1 : Int32) (v2 : Int32) : Prop := gLP (fun (K : CSt × Nat × Nat × Nat × Int32 × Int32 → Prop) (x : CSt × Nat × Nat × Nat × Int32 × Int32) => wpC_X7_step_10_F mc ms post pX (fun s k n v0 v1 v2 => K (s, k, n, v0, v1, v2)) x.1 x.2.1 x.2.2.1 x.2.2.2.1 x.2.2.2.2.1 x.2.2.2.2.2) (s, k, n, v0, v1, v2)
def wpC_X7_step_0 (mc ms : Nat) (post : Int32 → CSt → Prop) (pX : String → CSt → Prop) (s : CSt) (v0 : Nat) (v1 : Int32) : Prop := 0 + 1 ≤ mc ∧ 0 + 6 ≤ ms ∧ wpC_X7_checkNumber_0 (fun s6 => wpC_X7_step_10 mc ms post pX s6 (0 + 1) (0 + 6) v0 v1 0) pX s v1 0 600
theorem wkC_X7_step_10_F {mc ms : Nat} {X : gT} {G : cG} {A : Nat → Prop} {H0 : Heap} {Q : State → Prop} (C : cC X cX7_step 3 RX7 G A) (hsz : H0 = (g_s X).heap) (hR : 11 ≤ (g_R X).frames ∧ 281 ≤ (g_R X).locals ∧ mc ≤ (g_R X).cells ∧ ms ≤ (g_R X).slots) {pX : String → CSt → Prop} (hfl : (g_l X).stackTraces = false) (hout : ∀ (E : String) (τ : CSt) (lv : List (Nat × Value)) (pc k n : Nat) (rest : List Value), pX E τ → k ≤ mc → n ≤ ms → gX X (cWd G A H0) Q k n τ lv pc rest E) (hthr : ∀ (j : Nat) (τ : CSt) (lv : List (Nat × Value)) (pc k n ik : Nat) (rest : List Value), j < 5 → pX (cNm j) τ → k + 1 ≤ mc → n + 6 ≤ ms → (rest.map fun v => v.category).sum ≤ 8 → Cond.classLink RX7 ik (cNm j) ∈ wC → Cond.initialized (cNm j) ∈ wC → decode cX7_step pc = .ok (.new ik, 3) → decode cX7_step (pc + 3) = .ok (.dup, 1) → decode cX7_step (pc + 4) = .ok (.invokespecial (cNi j), 3) → decode cX7_step (pc + 7) = .ok (.athrow, 1) → gJ X (cWd G A H0) Q k n τ lv pc rest) {post : Int32 → CSt → Prop} (hret : ∀ (r : Int32) (τ : CSt) (lv : List (Nat × Value)) (pc : Nat), post r τ → narrow .int (.int r) = .int r → decode cX7_step pc = .ok (.ireturn, 1) → gJ X (cWd G A H0) Q mc ms τ lv pc [.int r]) {K10 : CSt → Nat → Nat → Nat → Int32 → Int32 → Prop} (hK10 : ∀ (s : CSt) (k : Nat) (n : Nat) (v0 : Nat) (v1 : Int32) (v2 : Int32), K10 s k n v0 v1 v2 → k ≤ mc ∧ n ≤ ms → gJ X (cWd G A H0) Q k n s [(0, .ref v0), (1, .int v1), (2, .int v2)] 10 []) (s : CSt) (k : Nat) (n : Nat) (v0 : Nat) (v1 : Int32) (v2 : Int32) (hk : k ≤ mc ∧ n ≤ ms) (hw : wpC_X7_step_10_F mc ms post pX K10 s k n v0 v1 v2) : gJ X (cWd G A H0) Q k n s [(0, .ref v0), (1, .int v1), (2, .int v2)] 10 [] := by
  refine g_iload_n C.1 2 dX7_step_10 rfl rfl ?_
  refine g_iload_n C.1 1 dX7_step_11 rfl rfl ?_
  refine g_icmp_ge (tgt := 25) C.1 dX7_step_12 (by decide) (fun h1 => ?_) (fun h1 => ?_)
  · replace hw := hw.1 h1
    refine g_aload_n C.1 0 dX7_step_25 rfl rfl ?_
    refine c_get7 C hw.1 9 (by decide) kC_509 (fun _ h => h) rfl dX7_step_26 ?_
    replace hw := hw.2
    refine gJ.widen hw.1 hw.2.1 ?_
    replace hw := hw.2.2
    exact hret _ _ _ _ hw rfl dX7_step_29
  · replace hw := hw.2 h1
    refine g_aload_n C.1 0 dX7_step_15 rfl rfl ?_
    obtain ⟨m2, m3, gm2, gm3, hw⟩ := hw
    have hk5 : k + m2 ≤ mc ∧ n + m3 ≤ ms := ⟨gm2, gm3⟩
    refine c_callVv (vs := []) C hsz (cC_X7_passMinute m2 m3 (g_l X) G s _ _ hw.2) kC_412 kC_581 kC_582 kC_583 kC_580 hdC_X7_passMinute (c_recv7 C hw.1) ⟨(Nat.le_trans (Nat.le_of_ble_eq_true rfl) hR.1), (Nat.le_trans (Nat.le_of_ble_eq_true rfl) hR.2.1)⟩ ⟨Nat.le_trans hk5.1 hR.2.2.1, Nat.le_trans hk5.2 hR.2.2.2⟩ dX7_step_16 rfl (Nat.le_of_ble_eq_true rfl) (fun s4 hw => ?_)
    refine g_iinc (v := v2 + 1) (lv' := [(2, .int (v2 + 1)), (0, .ref v0), (1, .int v1)]) C.1 2 dX7_step_19 rfl rfl (by decide) rfl ?_
    refine g_goto (tgt := 10) C.1 dX7_step_22 (by decide) ?_
    refine gJ.sub [1, 2, 0] rfl ?_
    exact hK10 _ _ _ _ _ _ hw hk5
theorem wkC_X7_step_10 {mc ms : Nat} {X : gT} {G : cG} {A : Nat → Prop} {H0 : Heap} {Q : State → Prop} (C : cC X cX7_step 3 RX7 G A) (hsz : H0 = (g_s X).heap) (hR : 11 ≤ (g_R X).frames ∧ 281 ≤ (g_R X).locals ∧ mc ≤ (g_R X).cells ∧ ms ≤ (g_R X).slots) {pX : String → CSt → Prop} (hfl : (g_l X).stackTraces = false) (hout : ∀ (E : String) (τ : CSt) (lv : List (Nat × Value)) (pc k n : Nat) (rest : List Value), pX E τ → k ≤ mc → n ≤ ms → gX X (cWd G A H0) Q k n τ lv pc rest E) (hthr : ∀ (j : Nat) (τ : CSt) (lv : List (Nat × Value)) (pc k n ik : Nat) (rest : List Value), j < 5 → pX (cNm j) τ → k + 1 ≤ mc → n + 6 ≤ ms → (rest.map fun v => v.category).sum ≤ 8 → Cond.classLink RX7 ik (cNm j) ∈ wC → Cond.initialized (cNm j) ∈ wC → decode cX7_step pc = .ok (.new ik, 3) → decode cX7_step (pc + 3) = .ok (.dup, 1) → decode cX7_step (pc + 4) = .ok (.invokespecial (cNi j), 3) → decode cX7_step (pc + 7) = .ok (.athrow, 1) → gJ X (cWd G A H0) Q k n τ lv pc rest) {post : Int32 → CSt → Prop} (hret : ∀ (r : Int32) (τ : CSt) (lv : List (Nat × Value)) (pc : Nat), post r τ → narrow .int (.int r) = .int r → decode cX7_step pc = .ok (.ireturn, 1) → gJ X (cWd G A H0) Q mc ms τ lv pc [.int r]) (s : CSt) (k : Nat) (n : Nat) (v0 : Nat) (v1 : Int32) (v2 : Int32) (hk : k ≤ mc ∧ n ≤ ms) (hw : wpC_X7_step_10 mc ms post pX s k n v0 v1 v2) : gJ X (cWd G A H0) Q k n s [(0, .ref v0), (1, .int v1), (2, .int v2)] 10 [] := 
  hw (fun (x : CSt × Nat × Nat × Nat × Int32 × Int32) => (fun s k n v0 v1 v2 => (k ≤ mc ∧ n ≤ ms → gJ X (cWd G A H0) Q k n s [(0, .ref v0), (1, .int v1), (2, .int v2)] 10 [])) x.1 x.2.1 x.2.2.1 x.2.2.2.1 x.2.2.2.2.1 x.2.2.2.2.2) (fun x hx hk => wkC_X7_step_10_F C hsz hR hfl hout hthr hret (K10 := (fun s k n v0 v1 v2 => (k ≤ mc ∧ n ≤ ms → gJ X (cWd G A H0) Q k n s [(0, .ref v0), (1, .int v1), (2, .int v2)] 10 []))) (fun _ _ _ _ _ _ h => h) x.1 x.2.1 x.2.2.1 x.2.2.2.1 x.2.2.2.2.1 x.2.2.2.2.2 hk hx) hk
theorem wkC_X7_step_0 {mc ms : Nat} {X : gT} {G : cG} {A : Nat → Prop} {H0 : Heap} {Q : State → Prop} (C : cC X cX7_step 3 RX7 G A) (hsz : H0 = (g_s X).heap) (hR : 11 ≤ (g_R X).frames ∧ 281 ≤ (g_R X).locals ∧ mc ≤ (g_R X).cells ∧ ms ≤ (g_R X).slots) {pX : String → CSt → Prop} (hfl : (g_l X).stackTraces = false) (hout : ∀ (E : String) (τ : CSt) (lv : List (Nat × Value)) (pc k n : Nat) (rest : List Value), pX E τ → k ≤ mc → n ≤ ms → gX X (cWd G A H0) Q k n τ lv pc rest E) (hthr : ∀ (j : Nat) (τ : CSt) (lv : List (Nat × Value)) (pc k n ik : Nat) (rest : List Value), j < 5 → pX (cNm j) τ → k + 1 ≤ mc → n + 6 ≤ ms → (rest.map fun v => v.category).sum ≤ 8 → Cond.classLink RX7 ik (cNm j) ∈ wC → Cond.initialized (cNm j) ∈ wC → decode cX7_step pc = .ok (.new ik, 3) → decode cX7_step (pc + 3) = .ok (.dup, 1) → decode cX7_step (pc + 4) = .ok (.invokespecial (cNi j), 3) → decode cX7_step (pc + 7) = .ok (.athrow, 1) → gJ X (cWd G A H0) Q k n τ lv pc rest) {post : Int32 → CSt → Prop} (hret : ∀ (r : Int32) (τ : CSt) (lv : List (Nat × Value)) (pc : Nat), post r τ → narrow .int (.int r) = .int r → decode cX7_step pc = .ok (.ireturn, 1) → gJ X (cWd G A H0) Q mc ms τ lv pc [.int r]) (s : CSt) (v0 : Nat) (v1 : Int32) (hw : wpC_X7_step_0 mc ms post pX s v0 v1) : gJ X (cWd G A H0) Q 0 0 s [(0, .ref v0), (1, .int v1)] 0 [] := by
  refine g_iload_n C.1 1 dX7_step_0 rfl rfl ?_
  refine g_iconst (v := 0) C.1 dX7_step_1 (by decide) ?_
  refine g_sipush (v := 600) C.1 dX7_step_2 (by decide) ?_
  have hk7 : 0 + 1 ≤ mc ∧ 0 + 6 ≤ ms := ⟨hw.1, hw.2.1⟩
  replace hw := hw.2.2
  refine c_throwSv (vs := [.int v1, .int 0, .int 600]) C hsz (cC_X7_checkNumber (g_l X) hfl G s _ _ _ _ _ hw) kC_412 kC_429 kC_430 kC_420 hdC_X7_checkNumber ⟨(Nat.le_trans (Nat.le_of_ble_eq_true rfl) hR.1), (Nat.le_trans (Nat.le_of_ble_eq_true rfl) hR.2.1)⟩ ⟨Nat.le_trans hk7.1 hR.2.2.1, Nat.le_trans hk7.2 hR.2.2.2⟩ dX7_step_5 rfl (Nat.le_of_ble_eq_true rfl) (fun E τ h => hout E τ _ _ _ _ _ h hk7.1 hk7.2) (fun s6 hw => ?_)
  refine g_iconst (v := 0) C.1 dX7_step_8 (by decide) ?_
  refine g_istore_n (lv' := [(2, .int 0), (0, .ref v0), (1, .int v1)]) C.1 dX7_step_9 rfl (by decide) rfl ?_
  refine gJ.sub [1, 2, 0] rfl ?_
  exact wkC_X7_step_10 C hsz hR hfl hout hthr hret _ _ _ _ _ _ hk7 hw
theorem hdC_X7_step : yX7_step.cls = RX7 ∧ yX7_step.cls ≠ "java/lang/invoke/MethodHandle" ∧ yX7_step.cls ≠ "java/lang/invoke/VarHandle" ∧ (parseMethodDescriptor yX7_step.desc).map (fun d => d.parameters.length) = some 1 := by decide +kernel
theorem cC_X7_step (mc ms : Nat) (l : Launch) (hfl : l.stackTraces = false) (G : cG) (s : CSt) (v0 : Nat) (v1 : Int32) (post : Int32 → CSt → Prop) (pX : String → CSt → Prop) (hm : 1 ≤ mc ∧ 6 ≤ ms) (hw : wpC_X7_step_0 mc ms post pX s v0 v1) : cTi l yX7_step cX7_step 3 .int 11 281 mc ms G s [.ref v0, .int v1] post pX := cTi_of hfl (by decide +kernel) rfl rfl (Nat.le_of_ble_eq_true rfl) ⟨hm.1, hm.2, by decide, by decide⟩ (fun X A H0 Q hl hR hsz C hret hout hthr => wkC_X7_step_0 C hsz hR (by rw [hl]; exact hfl) hout hthr hret s v0 v1 hw)
def wpC_X7_look_15 (post : Int32 → CSt → Prop) (pX : String → CSt → Prop) (s : CSt) : Prop := pX "java/lang/IndexOutOfBoundsException" s
def wpC_X7_look_0 (post : Int32 → CSt → Prop) (pX : String → CSt → Prop) (s : CSt) (v0 : Nat) (v1 : Int32) (v2 : Int32) : Prop := (v1 < 0 → wpC_X7_look_15 post pX s) ∧ (¬ v1 < 0 → cAt s 7 v0 ∧ ∃ a2 : Nat, cR s 115 v0 = some a2 ∧ cAt s 0 a2 ∧ wpC_Jx4a65c_size_8abf5_0 (fun r4 s3 => (v1 < r4 → cAt s3 7 v0 ∧ ∃ a6 : Nat, cR s3 115 v0 = some a6 ∧ cAt s3 0 a6 ∧ wpC_Jx4a65c_get_915e3_0 (fun r8 s7 => ∃ a9 : Nat, r8 = some a9 ∧ cAt s7 2 a9 ∧ (v2 = 0 → cAt s7 2 a9 ∧ post (cI s7 35 a9) s7) ∧ (v2 = 1 → cAt s7 2 a9 ∧ post (cI s7 36 a9) s7) ∧ (v2 = 2 → cAt s7 2 a9 ∧ post (cI s7 38 a9) s7) ∧ (v2 = 3 → cAt s7 2 a9 ∧ post (cI s7 39 a9) s7) ∧ (v2 = 4 → cAt s7 2 a9 ∧ post (cI s7 40 a9) s7) ∧ ((v2).toInt < 0 ∨ 4 < (v2).toInt → pX "java/util/NoSuchElementException" s7)) s3 a6 v1) ∧ (¬ v1 < r4 → wpC_X7_look_15 post pX s3)) s a2)
theorem wkC_X7_look_15 {X : gT} {G : cG} {A : Nat → Prop} {H0 : Heap} {Q : State → Prop} (C : cC X cX7_look 4 RX7 G A) (hsz : H0 = (g_s X).heap) (hR : 6 ≤ (g_R X).frames ∧ 89 ≤ (g_R X).locals ∧ 1 ≤ (g_R X).cells ∧ 6 ≤ (g_R X).slots) {pX : String → CSt → Prop} (hfl : (g_l X).stackTraces = false) (hout : ∀ (E : String) (τ : CSt) (lv : List (Nat × Value)) (pc k n : Nat) (rest : List Value), pX E τ → k ≤ 1 → n ≤ 6 → gX X (cWd G A H0) Q k n τ lv pc rest E) (hthr : ∀ (j : Nat) (τ : CSt) (lv : List (Nat × Value)) (pc k n ik : Nat) (rest : List Value), j < 5 → pX (cNm j) τ → k + 1 ≤ 1 → n + 6 ≤ 6 → (rest.map fun v => v.category).sum ≤ 8 → Cond.classLink RX7 ik (cNm j) ∈ wC → Cond.initialized (cNm j) ∈ wC → decode cX7_look pc = .ok (.new ik, 3) → decode cX7_look (pc + 3) = .ok (.dup, 1) → decode cX7_look (pc + 4) = .ok (.invokespecial (cNi j), 3) → decode cX7_look (pc + 7) = .ok (.athrow, 1) → gJ X (cWd G A H0) Q k n τ lv pc rest) {post : Int32 → CSt → Prop} (hret : ∀ (r : Int32) (τ : CSt) (lv : List (Nat × Value)) (pc : Nat), post r τ → narrow .int (.int r) = .int r → decode cX7_look pc = .ok (.ireturn, 1) → gJ X (cWd G A H0) Q 1 6 τ lv pc [.int r]) (s : CSt) (hw : wpC_X7_look_15 post pX s) : gJ X (cWd G A H0) Q 0 0 s [] 15 [] := by
  exact hthr 0 _ _ _ _ _ _ _ (by decide) hw (Nat.le_of_ble_eq_true rfl) (Nat.le_of_ble_eq_true rfl) (Nat.le_of_ble_eq_true rfl) kC_415 kC_416 dX7_look_15 dX7_look_18 dX7_look_19 dX7_look_22
theorem wkC_X7_look_0 {X : gT} {G : cG} {A : Nat → Prop} {H0 : Heap} {Q : State → Prop} (C : cC X cX7_look 4 RX7 G A) (hsz : H0 = (g_s X).heap) (hR : 6 ≤ (g_R X).frames ∧ 89 ≤ (g_R X).locals ∧ 1 ≤ (g_R X).cells ∧ 6 ≤ (g_R X).slots) {pX : String → CSt → Prop} (hfl : (g_l X).stackTraces = false) (hout : ∀ (E : String) (τ : CSt) (lv : List (Nat × Value)) (pc k n : Nat) (rest : List Value), pX E τ → k ≤ 1 → n ≤ 6 → gX X (cWd G A H0) Q k n τ lv pc rest E) (hthr : ∀ (j : Nat) (τ : CSt) (lv : List (Nat × Value)) (pc k n ik : Nat) (rest : List Value), j < 5 → pX (cNm j) τ → k + 1 ≤ 1 → n + 6 ≤ 6 → (rest.map fun v => v.category).sum ≤ 8 → Cond.classLink RX7 ik (cNm j) ∈ wC → Cond.initialized (cNm j) ∈ wC → decode cX7_look pc = .ok (.new ik, 3) → decode cX7_look (pc + 3) = .ok (.dup, 1) → decode cX7_look (pc + 4) = .ok (.invokespecial (cNi j), 3) → decode cX7_look (pc + 7) = .ok (.athrow, 1) → gJ X (cWd G A H0) Q k n τ lv pc rest) {post : Int32 → CSt → Prop} (hret : ∀ (r : Int32) (τ : CSt) (lv : List (Nat × Value)) (pc : Nat), post r τ → narrow .int (.int r) = .int r → decode cX7_look pc = .ok (.ireturn, 1) → gJ X (cWd G A H0) Q 1 6 τ lv pc [.int r]) (s : CSt) (v0 : Nat) (v1 : Int32) (v2 : Int32) (hw : wpC_X7_look_0 post pX s v0 v1 v2) : gJ X (cWd G A H0) Q 0 0 s [(0, .ref v0), (1, .int v1), (2, .int v2)] 0 [] := by
  refine g_iload_n C.1 1 dX7_look_0 rfl rfl ?_
  refine g_if_lt (tgt := 15) C.1 dX7_look_1 (by decide) (fun h1 => ?_) (fun h1 => ?_)
  · replace hw := hw.1 h1
    refine gJ.sub [] rfl ?_
    exact wkC_X7_look_15 C hsz hR hfl hout hthr hret _ hw
  · replace hw := hw.2 h1
    refine g_iload_n C.1 1 dX7_look_4 rfl rfl ?_
    refine g_aload_n C.1 0 dX7_look_5 rfl rfl ?_
    refine c_get7 C hw.1 3 (by decide) kC_397 (fun _ h => h) rfl dX7_look_6 ?_
    replace hw := hw.2
    obtain ⟨a2, ha2, hw⟩ := hw
    rw [ha2]
    refine c_callVi (vs := []) C hsz (cC_Jx4a65c_size_8abf5 (g_l X) G s _ _ hw.2) kC_13 kC_431 kC_11 kC_12 kC_14 hdC_Jx4a65c_size_8abf5 (c_recv0 C hw.1) ⟨(Nat.le_trans (Nat.le_of_ble_eq_true rfl) hR.1), (Nat.le_trans (Nat.le_of_ble_eq_true rfl) hR.2.1)⟩ ⟨(Nat.le_trans (Nat.le_of_ble_eq_true rfl) hR.2.2.1), (Nat.le_trans (Nat.le_of_ble_eq_true rfl) hR.2.2.2)⟩ dX7_look_9 rfl (Nat.le_of_ble_eq_true rfl) (fun r4 s3 hw => ?_)
    refine g_icmp_lt (tgt := 23) C.1 dX7_look_12 (by decide) (fun h5 => ?_) (fun h5 => ?_)
    · replace hw := hw.1 h5
      refine g_aload_n C.1 0 dX7_look_23 rfl rfl ?_
      refine c_get7 C hw.1 3 (by decide) kC_397 (fun _ h => h) rfl dX7_look_24 ?_
      replace hw := hw.2
      obtain ⟨a6, ha6, hw⟩ := hw
      rw [ha6]
      refine g_iload_n C.1 1 dX7_look_27 rfl rfl ?_
      refine c_callVq (vs := [.int v1]) C hsz (cC_Jx4a65c_get_915e3 (g_l X) G s3 _ _ _ hw.2) kC_13 kC_455 kC_17 kC_18 kC_19 hdC_Jx4a65c_get_915e3 (c_recv0 C hw.1) ⟨(Nat.le_trans (Nat.le_of_ble_eq_true rfl) hR.1), (Nat.le_trans (Nat.le_of_ble_eq_true rfl) hR.2.1)⟩ ⟨(Nat.le_trans (Nat.le_of_ble_eq_true rfl) hR.2.2.1), (Nat.le_trans (Nat.le_of_ble_eq_true rfl) hR.2.2.2)⟩ dX7_look_28 rfl (Nat.le_of_ble_eq_true rfl) (fun r8 s7 hw => ?_)
      obtain ⟨a9, ha9, hw⟩ := hw
      rw [ha9]
      refine c_cast2 C hw.1 kC_565 dX7_look_31 ?_
      replace hw := hw.2
      refine g_astore_n (lv' := [(3, .ref a9), (0, .ref v0), (1, .int v1), (2, .int v2)]) C.1 dX7_look_34 rfl (by decide) rfl ?_
      refine g_iload_n C.1 3 dX7_look_35 rfl rfl ?_
      by_cases h10a : (v2).toInt < 0
      · replace hw := hw.2.2.2.2.2 (Or.inl h10a)
        refine g_tableOut (tgt := 97) C.1 dX7_look_36 (Or.inl h10a) (by decide) ?_
        exact hthr 4 _ _ _ _ _ _ _ (by decide) hw (Nat.le_of_ble_eq_true rfl) (Nat.le_of_ble_eq_true rfl) (Nat.le_of_ble_eq_true rfl) kC_585 kC_586 dX7_look_97 dX7_look_100 dX7_look_101 dX7_look_104
      by_cases h10b : 4 < (v2).toInt
      · replace hw := hw.2.2.2.2.2 (Or.inr h10b)
        refine g_tableOut (tgt := 97) C.1 dX7_look_36 (Or.inr h10b) (by decide) ?_
        exact hthr 4 _ _ _ _ _ _ _ (by decide) hw (Nat.le_of_ble_eq_true rfl) (Nat.le_of_ble_eq_true rfl) (Nat.le_of_ble_eq_true rfl) kC_585 kC_586 dX7_look_97 dX7_look_100 dX7_look_101 dX7_look_104
      have h10c : (v2).toInt = 0 ∨ (v2).toInt = 1 ∨ (v2).toInt = 2 ∨ (v2).toInt = 3 ∨ (v2).toInt = 4 := by omega
      rcases h10c with h10c | h10c | h10c | h10c | h10c
      · replace hw := hw.1 (i32_of h10c)
        refine g_tableIn (tgt := 72) (off := 36) C.1 dX7_look_36 h10a h10b (by rw [h10c]; rfl) (by decide) ?_
        refine g_aload_n C.1 0 dX7_look_72 rfl rfl ?_
        refine c_get2 C hw.1 3 (by decide) kC_566 (fun _ h => h) rfl dX7_look_73 ?_
        replace hw := hw.2
        refine gJ.widen (k' := 1) (n' := 6) (Nat.le_of_ble_eq_true rfl) (Nat.le_of_ble_eq_true rfl) ?_
        exact hret _ _ _ _ hw rfl dX7_look_76
      · replace hw := hw.2.1 (i32_of h10c)
        refine g_tableIn (tgt := 77) (off := 41) C.1 dX7_look_36 h10a h10b (by rw [h10c]; rfl) (by decide) ?_
        refine g_aload_n C.1 0 dX7_look_77 rfl rfl ?_
        refine c_get2 C hw.1 4 (by decide) kC_537 (fun _ h => h) rfl dX7_look_78 ?_
        replace hw := hw.2
        refine gJ.widen (k' := 1) (n' := 6) (Nat.le_of_ble_eq_true rfl) (Nat.le_of_ble_eq_true rfl) ?_
        exact hret _ _ _ _ hw rfl dX7_look_81
      · replace hw := hw.2.2.1 (i32_of h10c)
        refine g_tableIn (tgt := 82) (off := 46) C.1 dX7_look_36 h10a h10b (by rw [h10c]; rfl) (by decide) ?_
        refine g_aload_n C.1 0 dX7_look_82 rfl rfl ?_
        refine c_get2 C hw.1 6 (by decide) kC_587 (fun _ h => h) rfl dX7_look_83 ?_
        replace hw := hw.2
        refine gJ.widen (k' := 1) (n' := 6) (Nat.le_of_ble_eq_true rfl) (Nat.le_of_ble_eq_true rfl) ?_
        exact hret _ _ _ _ hw rfl dX7_look_86
      · replace hw := hw.2.2.2.1 (i32_of h10c)
        refine g_tableIn (tgt := 87) (off := 51) C.1 dX7_look_36 h10a h10b (by rw [h10c]; rfl) (by decide) ?_
        refine g_aload_n C.1 0 dX7_look_87 rfl rfl ?_
        refine c_get2 C hw.1 7 (by decide) kC_588 (fun _ h => h) rfl dX7_look_88 ?_
        replace hw := hw.2
        refine gJ.widen (k' := 1) (n' := 6) (Nat.le_of_ble_eq_true rfl) (Nat.le_of_ble_eq_true rfl) ?_
        exact hret _ _ _ _ hw rfl dX7_look_91
      · replace hw := hw.2.2.2.2.1 (i32_of h10c)
        refine g_tableIn (tgt := 92) (off := 56) C.1 dX7_look_36 h10a h10b (by rw [h10c]; rfl) (by decide) ?_
        refine g_aload_n C.1 0 dX7_look_92 rfl rfl ?_
        refine c_get2 C hw.1 8 (by decide) kC_589 (fun _ h => h) rfl dX7_look_93 ?_
        replace hw := hw.2
        refine gJ.widen (k' := 1) (n' := 6) (Nat.le_of_ble_eq_true rfl) (Nat.le_of_ble_eq_true rfl) ?_
        exact hret _ _ _ _ hw rfl dX7_look_96
    · replace hw := hw.2 h5
      refine gJ.sub [] rfl ?_
      exact wkC_X7_look_15 C hsz hR hfl hout hthr hret _ hw
theorem hdC_X7_look : yX7_look.cls = RX7 ∧ yX7_look.cls ≠ "java/lang/invoke/MethodHandle" ∧ yX7_look.cls ≠ "java/lang/invoke/VarHandle" ∧ (parseMethodDescriptor yX7_look.desc).map (fun d => d.parameters.length) = some 2 := by decide +kernel
theorem cC_X7_look (l : Launch) (hfl : l.stackTraces = false) (G : cG) (s : CSt) (v0 : Nat) (v1 : Int32) (v2 : Int32) (post : Int32 → CSt → Prop) (pX : String → CSt → Prop) (hw : wpC_X7_look_0 post pX s v0 v1 v2) : cTi l yX7_look cX7_look 4 .int 6 89 1 6 G s [.ref v0, .int v1, .int v2] post pX := cTi_of hfl (by decide +kernel) rfl rfl (Nat.le_of_ble_eq_true rfl) ⟨by decide, by decide, by decide, by decide⟩ (fun X A H0 Q hl hR hsz C hret hout hthr => wkC_X7_look_0 C hsz hR (by rw [hl]; exact hfl) hout hthr hret s v0 v1 v2 hw)
def wpC_X7_row_0 (post : Int32 → CSt → Prop) (pX : String → CSt → Prop) (s : CSt) (v0 : Nat) (v1 : Int32) (v2 : Int32) : Prop := cAt s 7 v0 ∧ wpC_X7_liftAt_0 (fun r2 s1 => (v2 < 0 → post (-1) s1) ∧ (¬ v2 < 0 → ∃ a4 : Nat, r2 = some a4 ∧ cAt s1 3 a4 ∧ ∃ a5 : Nat, cR s1 54 a4 = some a5 ∧ cAt s1 0 a5 ∧ wpC_Jx4a65c_size_8abf5_0 (fun r7 s6 => (v2 < r7 → cAt s6 3 a4 ∧ ∃ a9 : Nat, cR s6 54 a4 = some a9 ∧ cAt s6 0 a9 ∧ wpC_Jx4a65c_get_915e3_0 (fun r11 s10 => ∃ a12 : Nat, r11 = some a12 ∧ cAt s10 2 a12 ∧ cAt s10 2 a12 ∧ post (cI s10 32 a12) s10) s6 a9 v2) ∧ (¬ v2 < r7 → post (-1) s6)) s1 a5)) pX s v0 v1
theorem wkC_X7_row_0 {X : gT} {G : cG} {A : Nat → Prop} {H0 : Heap} {Q : State → Prop} (C : cC X cX7_row 4 RX7 G A) (hsz : H0 = (g_s X).heap) (hR : 7 ≤ (g_R X).frames ∧ 110 ≤ (g_R X).locals ∧ 1 ≤ (g_R X).cells ∧ 6 ≤ (g_R X).slots) {pX : String → CSt → Prop} (hfl : (g_l X).stackTraces = false) (hout : ∀ (E : String) (τ : CSt) (lv : List (Nat × Value)) (pc k n : Nat) (rest : List Value), pX E τ → k ≤ 1 → n ≤ 6 → gX X (cWd G A H0) Q k n τ lv pc rest E) (hthr : ∀ (j : Nat) (τ : CSt) (lv : List (Nat × Value)) (pc k n ik : Nat) (rest : List Value), j < 5 → pX (cNm j) τ → k + 1 ≤ 1 → n + 6 ≤ 6 → (rest.map fun v => v.category).sum ≤ 8 → Cond.classLink RX7 ik (cNm j) ∈ wC → Cond.initialized (cNm j) ∈ wC → decode cX7_row pc = .ok (.new ik, 3) → decode cX7_row (pc + 3) = .ok (.dup, 1) → decode cX7_row (pc + 4) = .ok (.invokespecial (cNi j), 3) → decode cX7_row (pc + 7) = .ok (.athrow, 1) → gJ X (cWd G A H0) Q k n τ lv pc rest) {post : Int32 → CSt → Prop} (hret : ∀ (r : Int32) (τ : CSt) (lv : List (Nat × Value)) (pc : Nat), post r τ → narrow .int (.int r) = .int r → decode cX7_row pc = .ok (.ireturn, 1) → gJ X (cWd G A H0) Q 1 6 τ lv pc [.int r]) (s : CSt) (v0 : Nat) (v1 : Int32) (v2 : Int32) (hw : wpC_X7_row_0 post pX s v0 v1 v2) : gJ X (cWd G A H0) Q 0 0 s [(0, .ref v0), (1, .int v1), (2, .int v2)] 0 [] := by
  refine g_aload_n C.1 0 dX7_row_0 rfl rfl ?_
  refine g_iload_n C.1 1 dX7_row_1 rfl rfl ?_
  refine c_throwVq (vs := [.int v1]) C hsz (cC_X7_liftAt (g_l X) hfl G s _ _ _ _ hw.2) kC_412 kC_461 kC_462 kC_463 kC_456 hdC_X7_liftAt (c_recv7 C hw.1) ⟨(Nat.le_trans (Nat.le_of_ble_eq_true rfl) hR.1), (Nat.le_trans (Nat.le_of_ble_eq_true rfl) hR.2.1)⟩ ⟨(Nat.le_trans (Nat.le_of_ble_eq_true rfl) hR.2.2.1), (Nat.le_trans (Nat.le_of_ble_eq_true rfl) hR.2.2.2)⟩ dX7_row_2 rfl (Nat.le_of_ble_eq_true rfl) (fun E τ h => hout E τ _ _ _ _ _ h (Nat.le_of_ble_eq_true rfl) (Nat.le_of_ble_eq_true rfl)) (fun r2 s1 hw => ?_)
  refine g_qstore_n (lv' := [(3, va_rf r2), (0, .ref v0), (1, .int v1), (2, .int v2)]) C.1 dX7_row_5 rfl (by decide) rfl ?_
  refine g_iload_n C.1 3 dX7_row_6 rfl rfl ?_
  refine g_if_lt (tgt := 21) C.1 dX7_row_7 (by decide) (fun h3 => ?_) (fun h3 => ?_)
  · replace hw := hw.1 h3
    refine g_iconst (v := (-1)) C.1 dX7_row_21 (by decide) ?_
    exact hret _ _ _ _ hw rfl dX7_row_22
  · replace hw := hw.2 h3
    refine g_iload_n C.1 3 dX7_row_10 rfl rfl ?_
    refine g_qload_n C.1 0 dX7_row_11 rfl rfl ?_
    obtain ⟨a4, ha4, hw⟩ := hw
    rw [ha4]
    refine c_get3 C hw.1 6 (by decide) kC_591 (fun _ h => h) rfl dX7_row_12 ?_
    replace hw := hw.2
    obtain ⟨a5, ha5, hw⟩ := hw
    rw [ha5]
    refine c_callVi (vs := []) C hsz (cC_Jx4a65c_size_8abf5 (g_l X) G s1 _ _ hw.2) kC_13 kC_431 kC_11 kC_12 kC_14 hdC_Jx4a65c_size_8abf5 (c_recv0 C hw.1) ⟨(Nat.le_trans (Nat.le_of_ble_eq_true rfl) hR.1), (Nat.le_trans (Nat.le_of_ble_eq_true rfl) hR.2.1)⟩ ⟨(Nat.le_trans (Nat.le_of_ble_eq_true rfl) hR.2.2.1), (Nat.le_trans (Nat.le_of_ble_eq_true rfl) hR.2.2.2)⟩ dX7_row_15 rfl (Nat.le_of_ble_eq_true rfl) (fun r7 s6 hw => ?_)
    refine g_icmp_lt (tgt := 23) C.1 dX7_row_18 (by decide) (fun h8 => ?_) (fun h8 => ?_)
    · replace hw := hw.1 h8
      refine g_aload_n C.1 0 dX7_row_23 rfl rfl ?_
      refine c_get3 C hw.1 6 (by decide) kC_591 (fun _ h => h) rfl dX7_row_24 ?_
      replace hw := hw.2
      obtain ⟨a9, ha9, hw⟩ := hw
      rw [ha9]
      refine g_iload_n C.1 3 dX7_row_27 rfl rfl ?_
      refine c_callVq (vs := [.int v2]) C hsz (cC_Jx4a65c_get_915e3 (g_l X) G s6 _ _ _ hw.2) kC_13 kC_455 kC_17 kC_18 kC_19 hdC_Jx4a65c_get_915e3 (c_recv0 C hw.1) ⟨(Nat.le_trans (Nat.le_of_ble_eq_true rfl) hR.1), (Nat.le_trans (Nat.le_of_ble_eq_true rfl) hR.2.1)⟩ ⟨(Nat.le_trans (Nat.le_of_ble_eq_true rfl) hR.2.2.1), (Nat.le_trans (Nat.le_of_ble_eq_true rfl) hR.2.2.2)⟩ dX7_row_28 rfl (Nat.le_of_ble_eq_true rfl) (fun r11 s10 hw => ?_)
      obtain ⟨a12, ha12, hw⟩ := hw
      rw [ha12]
      refine c_cast2 C hw.1 kC_565 dX7_row_31 ?_
      replace hw := hw.2
      refine c_get2 C hw.1 0 (by decide) kC_592 (fun _ h => h) rfl dX7_row_34 ?_
      replace hw := hw.2
      exact hret _ _ _ _ hw rfl dX7_row_37
    · replace hw := hw.2 h8
      refine g_iconst (v := (-1)) C.1 dX7_row_21 (by decide) ?_
      exact hret _ _ _ _ hw rfl dX7_row_22
theorem hdC_X7_row : yX7_row.cls = RX7 ∧ yX7_row.cls ≠ "java/lang/invoke/MethodHandle" ∧ yX7_row.cls ≠ "java/lang/invoke/VarHandle" ∧ (parseMethodDescriptor yX7_row.desc).map (fun d => d.parameters.length) = some 2 := by decide +kernel
theorem cC_X7_row (l : Launch) (hfl : l.stackTraces = false) (G : cG) (s : CSt) (v0 : Nat) (v1 : Int32) (v2 : Int32) (post : Int32 → CSt → Prop) (pX : String → CSt → Prop) (hw : wpC_X7_row_0 post pX s v0 v1 v2) : cTi l yX7_row cX7_row 4 .int 7 110 1 6 G s [.ref v0, .int v1, .int v2] post pX := cTi_of hfl (by decide +kernel) rfl rfl (Nat.le_of_ble_eq_true rfl) ⟨by decide, by decide, by decide, by decide⟩ (fun X A H0 Q hl hR hsz C hret hout hthr => wkC_X7_row_0 C hsz hR (by rw [hl]; exact hfl) hout hthr hret s v0 v1 v2 hw)
def wpC_X7_people_61 (post : Int32 → CSt → Prop) (K15 : CSt → Nat → Int32 → Int32 → Int32 → Prop) (s : CSt) (v0 : Nat) (v1 : Int32) (v2 : Int32) (v3 : Int32) : Prop := K15 s v0 v1 v2 (v3 + 1)
def wpC_X7_people_15_F (post : Int32 → CSt → Prop) (K15 : CSt → Nat → Int32 → Int32 → Int32 → Prop) (s : CSt) (v0 : Nat) (v1 : Int32) (v2 : Int32) (v3 : Int32) : Prop := cAt s 7 v0 ∧ ∃ a1 : Nat, cR s 115 v0 = some a1 ∧ cAt s 0 a1 ∧ wpC_Jx4a65c_size_8abf5_0 (fun r3 s2 => (r3 ≤ v3 → post v2 s2) ∧ (¬ r3 ≤ v3 → cAt s2 7 v0 ∧ ∃ a5 : Nat, cR s2 115 v0 = some a5 ∧ cAt s2 0 a5 ∧ wpC_Jx4a65c_get_915e3_0 (fun r7 s6 => ∃ a8 : Nat, r7 = some a8 ∧ cAt s6 2 a8 ∧ cAt s6 2 a8 ∧ (¬ (cI s6 35 a8) = v1 → wpC_X7_people_61 post K15 s6 v0 v1 v2 v3) ∧ ((cI s6 35 a8) = v1 → cAt s6 7 v0 ∧ ∃ a10 : Nat, cR s6 115 v0 = some a10 ∧ cAt s6 0 a10 ∧ wpC_Jx4a65c_get_915e3_0 (fun r12 s11 => ∃ a13 : Nat, r12 = some a13 ∧ cAt s11 2 a13 ∧ cAt s11 2 a13 ∧ wpC_X7_people_61 post K15 s11 v0 v1 (v2 + (cI s11 33 a13)) v3) s6 a10 v3)) s2 a5 v3)) s a1
def wpC_X7_people_15 (post : Int32 → CSt → Prop) (s : CSt) (v0 : Nat) (v1 : Int32) (v2 : Int32) (v3 : Int32) : Prop := gLP (fun (K : CSt × Nat × Int32 × Int32 × Int32 → Prop) (x : CSt × Nat × Int32 × Int32 × Int32) => wpC_X7_people_15_F post (fun s v0 v1 v2 v3 => K (s, v0, v1, v2, v3)) x.1 x.2.1 x.2.2.1 x.2.2.2.1 x.2.2.2.2) (s, v0, v1, v2, v3)
def wpC_X7_people_0 (post : Int32 → CSt → Prop) (s : CSt) (v0 : Nat) (v1 : Int32) : Prop := (v1 < 0 → post (-1) s) ∧ (¬ v1 < 0 → (v1 ≤ 3 → wpC_X7_people_15 post s v0 v1 0 0) ∧ (¬ v1 ≤ 3 → post (-1) s))
theorem wkC_X7_people_61 {X : gT} {G : cG} {A : Nat → Prop} {H0 : Heap} {Q : State → Prop} (C : cC X cX7_people 4 RX7 G A) (hsz : H0 = (g_s X).heap) (hR : 3 ≤ (g_R X).frames ∧ 64 ≤ (g_R X).locals ∧ 0 ≤ (g_R X).cells ∧ 0 ≤ (g_R X).slots) {post : Int32 → CSt → Prop} (hret : ∀ (r : Int32) (τ : CSt) (lv : List (Nat × Value)) (pc : Nat), post r τ → narrow .int (.int r) = .int r → decode cX7_people pc = .ok (.ireturn, 1) → gJ X (cWd G A H0) Q 0 0 τ lv pc [.int r]) {K15 : CSt → Nat → Int32 → Int32 → Int32 → Prop} (hK15 : ∀ (s : CSt) (v0 : Nat) (v1 : Int32) (v2 : Int32) (v3 : Int32), K15 s v0 v1 v2 v3 → gJ X (cWd G A H0) Q 0 0 s [(0, .ref v0), (1, .int v1), (2, .int v2), (3, .int v3)] 15 []) (s : CSt) (v0 : Nat) (v1 : Int32) (v2 : Int32) (v3 : Int32) (hw : wpC_X7_people_61 post K15 s v0 v1 v2 v3) : gJ X (cWd G A H0) Q 0 0 s [(0, .ref v0), (1, .int v1), (2, .int v2), (3, .int v3)] 61 [] := by
  refine g_iinc (v := v3 + 1) (lv' := [(3, .int (v3 + 1)), (0, .ref v0), (1, .int v1), (2, .int v2)]) C.1 3 dX7_people_61 rfl rfl (by decide) rfl ?_
  refine g_goto (tgt := 15) C.1 dX7_people_64 (by decide) ?_
  refine gJ.sub [1, 2, 3, 0] rfl ?_
  exact hK15 _ _ _ _ _ hw
theorem wkC_X7_people_15_F {X : gT} {G : cG} {A : Nat → Prop} {H0 : Heap} {Q : State → Prop} (C : cC X cX7_people 4 RX7 G A) (hsz : H0 = (g_s X).heap) (hR : 3 ≤ (g_R X).frames ∧ 64 ≤ (g_R X).locals ∧ 0 ≤ (g_R X).cells ∧ 0 ≤ (g_R X).slots) {post : Int32 → CSt → Prop} (hret : ∀ (r : Int32) (τ : CSt) (lv : List (Nat × Value)) (pc : Nat), post r τ → narrow .int (.int r) = .int r → decode cX7_people pc = .ok (.ireturn, 1) → gJ X (cWd G A H0) Q 0 0 τ lv pc [.int r]) {K15 : CSt → Nat → Int32 → Int32 → Int32 → Prop} (hK15 : ∀ (s : CSt) (v0 : Nat) (v1 : Int32) (v2 : Int32) (v3 : Int32), K15 s v0 v1 v2 v3 → gJ X (cWd G A H0) Q 0 0 s [(0, .ref v0), (1, .int v1), (2, .int v2), (3, .int v3)] 15 []) (s : CSt) (v0 : Nat) (v1 : Int32) (v2 : Int32) (v3 : Int32) (hw : wpC_X7_people_15_F post K15 s v0 v1 v2 v3) : gJ X (cWd G A H0) Q 0 0 s [(0, .ref v0), (1, .int v1), (2, .int v2), (3, .int v3)] 15 [] := by
  refine g_iload_n C.1 3 dX7_people_15 rfl rfl ?_
  refine g_aload_n C.1 0 dX7_people_16 rfl rfl ?_
  refine c_get7 C hw.1 3 (by decide) kC_397 (fun _ h => h) rfl dX7_people_17 ?_
  replace hw := hw.2
  obtain ⟨a1, ha1, hw⟩ := hw
  rw [ha1]
  refine c_callVi (vs := []) C hsz (cC_Jx4a65c_size_8abf5 (g_l X) G s _ _ hw.2) kC_13 kC_431 kC_11 kC_12 kC_14 hdC_Jx4a65c_size_8abf5 (c_recv0 C hw.1) ⟨(Nat.le_trans (Nat.le_of_ble_eq_true rfl) hR.1), (Nat.le_trans (Nat.le_of_ble_eq_true rfl) hR.2.1)⟩ ⟨(Nat.le_trans (Nat.le_of_ble_eq_true rfl) hR.2.2.1), (Nat.le_trans (Nat.le_of_ble_eq_true rfl) hR.2.2.2)⟩ dX7_people_20 rfl (Nat.le_of_ble_eq_true rfl) (fun r3 s2 hw => ?_)
  refine g_icmp_ge (tgt := 67) C.1 dX7_people_23 (by decide) (fun h4 => ?_) (fun h4 => ?_)
  · replace hw := hw.1 h4
    refine g_iload_n C.1 2 dX7_people_67 rfl rfl ?_
    exact hret _ _ _ _ hw rfl dX7_people_68
  · replace hw := hw.2 h4
    refine g_aload_n C.1 0 dX7_people_26 rfl rfl ?_
    refine c_get7 C hw.1 3 (by decide) kC_397 (fun _ h => h) rfl dX7_people_27 ?_
    replace hw := hw.2
    obtain ⟨a5, ha5, hw⟩ := hw
    rw [ha5]
    refine g_iload_n C.1 3 dX7_people_30 rfl rfl ?_
    refine c_callVq (vs := [.int v3]) C hsz (cC_Jx4a65c_get_915e3 (g_l X) G s2 _ _ _ hw.2) kC_13 kC_455 kC_17 kC_18 kC_19 hdC_Jx4a65c_get_915e3 (c_recv0 C hw.1) ⟨(Nat.le_trans (Nat.le_of_ble_eq_true rfl) hR.1), (Nat.le_trans (Nat.le_of_ble_eq_true rfl) hR.2.1)⟩ ⟨(Nat.le_trans (Nat.le_of_ble_eq_true rfl) hR.2.2.1), (Nat.le_trans (Nat.le_of_ble_eq_true rfl) hR.2.2.2)⟩ dX7_people_31 rfl (Nat.le_of_ble_eq_true rfl) (fun r7 s6 hw => ?_)
    obtain ⟨a8, ha8, hw⟩ := hw
    rw [ha8]
    refine c_cast2 C hw.1 kC_565 dX7_people_34 ?_
    replace hw := hw.2
    refine c_get2 C hw.1 3 (by decide) kC_566 (fun _ h => h) rfl dX7_people_37 ?_
    replace hw := hw.2
    refine g_iload_n C.1 1 dX7_people_40 rfl rfl ?_
    refine g_icmp_ne (tgt := 61) C.1 dX7_people_41 (by decide) (fun h9 => ?_) (fun h9 => ?_)
    · replace hw := hw.1 h9
      exact wkC_X7_people_61 C hsz hR hret hK15 _ _ _ _ _ hw
    · replace hw := hw.2 h9
      refine g_iload_n C.1 2 dX7_people_44 rfl rfl ?_
      refine g_aload_n C.1 0 dX7_people_45 rfl rfl ?_
      refine c_get7 C hw.1 3 (by decide) kC_397 (fun _ h => h) rfl dX7_people_46 ?_
      replace hw := hw.2
      obtain ⟨a10, ha10, hw⟩ := hw
      rw [ha10]
      refine g_iload_n C.1 3 dX7_people_49 rfl rfl ?_
      refine c_callVq (vs := [.int v3]) C hsz (cC_Jx4a65c_get_915e3 (g_l X) G s6 _ _ _ hw.2) kC_13 kC_455 kC_17 kC_18 kC_19 hdC_Jx4a65c_get_915e3 (c_recv0 C hw.1) ⟨(Nat.le_trans (Nat.le_of_ble_eq_true rfl) hR.1), (Nat.le_trans (Nat.le_of_ble_eq_true rfl) hR.2.1)⟩ ⟨(Nat.le_trans (Nat.le_of_ble_eq_true rfl) hR.2.2.1), (Nat.le_trans (Nat.le_of_ble_eq_true rfl) hR.2.2.2)⟩ dX7_people_50 rfl (Nat.le_of_ble_eq_true rfl) (fun r12 s11 hw => ?_)
      obtain ⟨a13, ha13, hw⟩ := hw
      rw [ha13]
      refine c_cast2 C hw.1 kC_565 dX7_people_53 ?_
      replace hw := hw.2
      refine c_get2 C hw.1 1 (by decide) kC_545 (fun _ h => h) rfl dX7_people_56 ?_
      replace hw := hw.2
      refine g_iadd C.1 dX7_people_59 ?_
      refine g_istore_n (lv' := [(2, .int (v2 + (cI s11 33 a13))), (0, .ref v0), (1, .int v1), (3, .int v3)]) C.1 dX7_people_60 rfl (by decide) rfl ?_
      refine gJ.sub [1, 2, 0, 3] rfl ?_
      exact wkC_X7_people_61 C hsz hR hret hK15 _ _ _ _ _ hw
theorem wkC_X7_people_15 {X : gT} {G : cG} {A : Nat → Prop} {H0 : Heap} {Q : State → Prop} (C : cC X cX7_people 4 RX7 G A) (hsz : H0 = (g_s X).heap) (hR : 3 ≤ (g_R X).frames ∧ 64 ≤ (g_R X).locals ∧ 0 ≤ (g_R X).cells ∧ 0 ≤ (g_R X).slots) {post : Int32 → CSt → Prop} (hret : ∀ (r : Int32) (τ : CSt) (lv : List (Nat × Value)) (pc : Nat), post r τ → narrow .int (.int r) = .int r → decode cX7_people pc = .ok (.ireturn, 1) → gJ X (cWd G A H0) Q 0 0 τ lv pc [.int r]) (s : CSt) (v0 : Nat) (v1 : Int32) (v2 : Int32) (v3 : Int32) (hw : wpC_X7_people_15 post s v0 v1 v2 v3) : gJ X (cWd G A H0) Q 0 0 s [(0, .ref v0), (1, .int v1), (2, .int v2), (3, .int v3)] 15 [] := 
  hw (fun (x : CSt × Nat × Int32 × Int32 × Int32) => (fun s v0 v1 v2 v3 => gJ X (cWd G A H0) Q 0 0 s [(0, .ref v0), (1, .int v1), (2, .int v2), (3, .int v3)] 15 []) x.1 x.2.1 x.2.2.1 x.2.2.2.1 x.2.2.2.2) (fun x hx => wkC_X7_people_15_F C hsz hR hret (K15 := (fun s v0 v1 v2 v3 => gJ X (cWd G A H0) Q 0 0 s [(0, .ref v0), (1, .int v1), (2, .int v2), (3, .int v3)] 15 [])) (fun _ _ _ _ _ h => h) x.1 x.2.1 x.2.2.1 x.2.2.2.1 x.2.2.2.2 hx)
theorem wkC_X7_people_0 {X : gT} {G : cG} {A : Nat → Prop} {H0 : Heap} {Q : State → Prop} (C : cC X cX7_people 4 RX7 G A) (hsz : H0 = (g_s X).heap) (hR : 3 ≤ (g_R X).frames ∧ 64 ≤ (g_R X).locals ∧ 0 ≤ (g_R X).cells ∧ 0 ≤ (g_R X).slots) {post : Int32 → CSt → Prop} (hret : ∀ (r : Int32) (τ : CSt) (lv : List (Nat × Value)) (pc : Nat), post r τ → narrow .int (.int r) = .int r → decode cX7_people pc = .ok (.ireturn, 1) → gJ X (cWd G A H0) Q 0 0 τ lv pc [.int r]) (s : CSt) (v0 : Nat) (v1 : Int32) (hw : wpC_X7_people_0 post s v0 v1) : gJ X (cWd G A H0) Q 0 0 s [(0, .ref v0), (1, .int v1)] 0 [] := by
  refine g_iload_n C.1 1 dX7_people_0 rfl rfl ?_
  refine g_if_lt (tgt := 9) C.1 dX7_people_1 (by decide) (fun h14 => ?_) (fun h14 => ?_)
  · replace hw := hw.1 h14
    refine g_iconst (v := (-1)) C.1 dX7_people_9 (by decide) ?_
    exact hret _ _ _ _ hw rfl dX7_people_10
  · replace hw := hw.2 h14
    refine g_iload_n C.1 1 dX7_people_4 rfl rfl ?_
    refine g_iconst (v := 3) C.1 dX7_people_5 (by decide) ?_
    refine g_icmp_le (tgt := 11) C.1 dX7_people_6 (by decide) (fun h15 => ?_) (fun h15 => ?_)
    · replace hw := hw.1 h15
      refine g_iconst (v := 0) C.1 dX7_people_11 (by decide) ?_
      refine g_istore_n (lv' := [(2, .int 0), (0, .ref v0), (1, .int v1)]) C.1 dX7_people_12 rfl (by decide) rfl ?_
      refine g_iconst (v := 0) C.1 dX7_people_13 (by decide) ?_
      refine g_istore_n (lv' := [(3, .int 0), (2, .int 0), (0, .ref v0), (1, .int v1)]) C.1 dX7_people_14 rfl (by decide) rfl ?_
      refine gJ.sub [2, 3, 1, 0] rfl ?_
      exact wkC_X7_people_15 C hsz hR hret _ _ _ _ _ hw
    · replace hw := hw.2 h15
      refine g_iconst (v := (-1)) C.1 dX7_people_9 (by decide) ?_
      exact hret _ _ _ _ hw rfl dX7_people_10
theorem hdC_X7_people : yX7_people.cls = RX7 ∧ yX7_people.cls ≠ "java/lang/invoke/MethodHandle" ∧ yX7_people.cls ≠ "java/lang/invoke/VarHandle" ∧ (parseMethodDescriptor yX7_people.desc).map (fun d => d.parameters.length) = some 1 := by decide +kernel
theorem cC_X7_people (l : Launch) (G : cG) (s : CSt) (v0 : Nat) (v1 : Int32) (post : Int32 → CSt → Prop) (hw : wpC_X7_people_0 post s v0 v1) : cMi l yX7_people cX7_people 4 .int 3 64 0 0 G s [.ref v0, .int v1] post := cMi_of (by decide +kernel) rfl (Nat.le_of_ble_eq_true rfl) (fun X A H0 Q hl hR hsz hnm C hret => wkC_X7_people_0 C hsz hR hret s v0 v1 hw)
def wpC_X7_snow_66 (post : Int32 → CSt → Prop) (pX : String → CSt → Prop) (s : CSt) (v4 : Option Nat) : Prop := ∃ a1 : Nat, v4 = some a1 ∧ cAt s 1 a1 ∧ wpC_X1_depth_0 (fun r3 s2 => post r3 s2) s a1
def wpC_X7_snow_0 (post : Int32 → CSt → Prop) (pX : String → CSt → Prop) (s : CSt) (v0 : Nat) (v1 : Int32) (v2 : Int32) (v3 : Int32) : Prop := cAt s 7 v0 ∧ wpC_X7_cellAt_0 (fun r5 s4 => wpC_X7_checkNumber_0 (fun s6 => (v2 = 0 → cAt s6 7 v0 ∧ cAt s6 7 v0 ∧ ∀ s8 : CSt, s8 = csJ s6 124 v0 ((cJ s6 124 v0) + v3.toInt64) → ∃ a9 : Nat, r5 = some a9 ∧ cAt s8 1 a9 ∧ ∃ a10 : Nat, cR s8 17 a9 = some a10 ∧ cAt s8 9 a10 ∧ vp_in 0 (cN s8 a10) ∧ cAt s8 9 a10 ∧ vp_in 0 (cN s8 a10) ∧ ∀ s11 : CSt, s11 = csV s8 a10 (upd (cV s8 a10) (0 : Int32).toNatClampNeg ((cV s8 a10 (0 : Int32).toNatClampNeg) + v3)) → wpC_X7_snow_66 post pX s11 (some a9)) ∧ (¬ v2 = 0 → cAt s6 7 v0 ∧ cAt s6 7 v0 ∧ ∀ s12 : CSt, s12 = csJ s6 125 v0 ((cJ s6 125 v0) + v3.toInt64) → ∃ a13 : Nat, r5 = some a13 ∧ cAt s12 1 a13 ∧ ∃ a14 : Nat, cR s12 17 a13 = some a14 ∧ cAt s12 9 a14 ∧ vp_in 1 (cN s12 a14) ∧ cAt s12 9 a14 ∧ vp_in 1 (cN s12 a14) ∧ ∀ s15 : CSt, s15 = csV s12 a14 (upd (cV s12 a14) (1 : Int32).toNatClampNeg ((cV s12 a14 (1 : Int32).toNatClampNeg) + v3)) → wpC_X7_snow_66 post pX s15 (some a13))) pX s4 v3 0 100000) pX s v0 v1
theorem wkC_X7_snow_66 {X : gT} {G : cG} {A : Nat → Prop} {H0 : Heap} {Q : State → Prop} (C : cC X cX7_snow 5 RX7 G A) (hsz : H0 = (g_s X).heap) (hR : 7 ≤ (g_R X).frames ∧ 111 ≤ (g_R X).locals ∧ 2 ≤ (g_R X).cells ∧ 12 ≤ (g_R X).slots) {pX : String → CSt → Prop} (hfl : (g_l X).stackTraces = false) (hout : ∀ (E : String) (τ : CSt) (lv : List (Nat × Value)) (pc k n : Nat) (rest : List Value), pX E τ → k ≤ 2 → n ≤ 12 → gX X (cWd G A H0) Q k n τ lv pc rest E) (hthr : ∀ (j : Nat) (τ : CSt) (lv : List (Nat × Value)) (pc k n ik : Nat) (rest : List Value), j < 5 → pX (cNm j) τ → k + 1 ≤ 2 → n + 6 ≤ 12 → (rest.map fun v => v.category).sum ≤ 8 → Cond.classLink RX7 ik (cNm j) ∈ wC → Cond.initialized (cNm j) ∈ wC → decode cX7_snow pc = .ok (.new ik, 3) → decode cX7_snow (pc + 3) = .ok (.dup, 1) → decode cX7_snow (pc + 4) = .ok (.invokespecial (cNi j), 3) → decode cX7_snow (pc + 7) = .ok (.athrow, 1) → gJ X (cWd G A H0) Q k n τ lv pc rest) {post : Int32 → CSt → Prop} (hret : ∀ (r : Int32) (τ : CSt) (lv : List (Nat × Value)) (pc : Nat), post r τ → narrow .int (.int r) = .int r → decode cX7_snow pc = .ok (.ireturn, 1) → gJ X (cWd G A H0) Q 2 12 τ lv pc [.int r]) (s : CSt) (v4 : Option Nat) (hw : wpC_X7_snow_66 post pX s v4) : gJ X (cWd G A H0) Q 2 12 s [(4, va_rf v4)] 66 [] := by
  refine g_qload C.1 0 dX7_snow_66 rfl ?_
  obtain ⟨a1, ha1, hw⟩ := hw
  rw [ha1]
  refine c_callVi (vs := []) C hsz (cC_X1_depth (g_l X) G s _ _ hw.2) kC_36 kC_604 kC_34 kC_35 kC_37 hdC_X1_depth (c_recv1 C hw.1) ⟨(Nat.le_trans (Nat.le_of_ble_eq_true rfl) hR.1), (Nat.le_trans (Nat.le_of_ble_eq_true rfl) hR.2.1)⟩ ⟨(Nat.le_trans (Nat.le_of_ble_eq_true rfl) hR.2.2.1), (Nat.le_trans (Nat.le_of_ble_eq_true rfl) hR.2.2.2)⟩ dX7_snow_68 rfl (Nat.le_of_ble_eq_true rfl) (fun r3 s2 hw => ?_)
  exact hret _ _ _ _ hw rfl dX7_snow_71
theorem wkC_X7_snow_0 {X : gT} {G : cG} {A : Nat → Prop} {H0 : Heap} {Q : State → Prop} (C : cC X cX7_snow 5 RX7 G A) (hsz : H0 = (g_s X).heap) (hR : 7 ≤ (g_R X).frames ∧ 111 ≤ (g_R X).locals ∧ 2 ≤ (g_R X).cells ∧ 12 ≤ (g_R X).slots) {pX : String → CSt → Prop} (hfl : (g_l X).stackTraces = false) (hout : ∀ (E : String) (τ : CSt) (lv : List (Nat × Value)) (pc k n : Nat) (rest : List Value), pX E τ → k ≤ 2 → n ≤ 12 → gX X (cWd G A H0) Q k n τ lv pc rest E) (hthr : ∀ (j : Nat) (τ : CSt) (lv : List (Nat × Value)) (pc k n ik : Nat) (rest : List Value), j < 5 → pX (cNm j) τ → k + 1 ≤ 2 → n + 6 ≤ 12 → (rest.map fun v => v.category).sum ≤ 8 → Cond.classLink RX7 ik (cNm j) ∈ wC → Cond.initialized (cNm j) ∈ wC → decode cX7_snow pc = .ok (.new ik, 3) → decode cX7_snow (pc + 3) = .ok (.dup, 1) → decode cX7_snow (pc + 4) = .ok (.invokespecial (cNi j), 3) → decode cX7_snow (pc + 7) = .ok (.athrow, 1) → gJ X (cWd G A H0) Q k n τ lv pc rest) {post : Int32 → CSt → Prop} (hret : ∀ (r : Int32) (τ : CSt) (lv : List (Nat × Value)) (pc : Nat), post r τ → narrow .int (.int r) = .int r → decode cX7_snow pc = .ok (.ireturn, 1) → gJ X (cWd G A H0) Q 2 12 τ lv pc [.int r]) (s : CSt) (v0 : Nat) (v1 : Int32) (v2 : Int32) (v3 : Int32) (hw : wpC_X7_snow_0 post pX s v0 v1 v2 v3) : gJ X (cWd G A H0) Q 0 0 s [(0, .ref v0), (1, .int v1), (2, .int v2), (3, .int v3)] 0 [] := by
  refine g_aload_n C.1 0 dX7_snow_0 rfl rfl ?_
  refine g_iload_n C.1 1 dX7_snow_1 rfl rfl ?_
  refine c_throwVq (vs := [.int v1]) C hsz (cC_X7_cellAt (g_l X) hfl G s _ _ _ _ hw.2) kC_412 kC_601 kC_602 kC_603 kC_596 hdC_X7_cellAt (c_recv7 C hw.1) ⟨(Nat.le_trans (Nat.le_of_ble_eq_true rfl) hR.1), (Nat.le_trans (Nat.le_of_ble_eq_true rfl) hR.2.1)⟩ ⟨(Nat.le_trans (Nat.le_of_ble_eq_true rfl) hR.2.2.1), (Nat.le_trans (Nat.le_of_ble_eq_true rfl) hR.2.2.2)⟩ dX7_snow_2 rfl (Nat.le_of_ble_eq_true rfl) (fun E τ h => hout E τ _ _ _ _ _ h (Nat.le_of_ble_eq_true rfl) (Nat.le_of_ble_eq_true rfl)) (fun r5 s4 hw => ?_)
  refine g_qstore (lv' := [(4, va_rf r5), (0, .ref v0), (1, .int v1), (2, .int v2), (3, .int v3)]) C.1 dX7_snow_5 (by decide) rfl ?_
  refine g_iload_n C.1 4 dX7_snow_7 rfl rfl ?_
  refine g_iconst (v := 0) C.1 dX7_snow_8 (by decide) ?_
  refine g_ldcw (v := 100000) C.1 C.2.1 (C.2.2.1 _ kC_597) dX7_snow_9 ?_
  refine c_throwSv (vs := [.int v3, .int 0, .int 100000]) C hsz (cC_X7_checkNumber (g_l X) hfl G s4 _ _ _ _ _ hw) kC_412 kC_429 kC_430 kC_420 hdC_X7_checkNumber ⟨(Nat.le_trans (Nat.le_of_ble_eq_true rfl) hR.1), (Nat.le_trans (Nat.le_of_ble_eq_true rfl) hR.2.1)⟩ ⟨(Nat.le_trans (Nat.le_of_ble_eq_true rfl) hR.2.2.1), (Nat.le_trans (Nat.le_of_ble_eq_true rfl) hR.2.2.2)⟩ dX7_snow_12 rfl (Nat.le_of_ble_eq_true rfl) (fun E τ h => hout E τ _ _ _ _ _ h (Nat.le_of_ble_eq_true rfl) (Nat.le_of_ble_eq_true rfl)) (fun s6 hw => ?_)
  refine g_iload_n C.1 3 dX7_snow_15 rfl rfl ?_
  refine g_if_eq (tgt := 44) C.1 dX7_snow_16 (by decide) (fun h7 => ?_) (fun h7 => ?_)
  · replace hw := hw.1 h7
    refine g_aload_n C.1 1 dX7_snow_44 rfl rfl ?_
    refine g_dup C.1 dX7_snow_45 rfl ?_
    refine c_get7 C hw.1 12 (by decide) kC_600 (fun _ h => h) rfl dX7_snow_46 ?_
    replace hw := hw.2
    refine g_iload_n C.1 4 dX7_snow_49 rfl rfl ?_
    refine g_i2l C.1 dX7_snow_50 ?_
    refine g_ladd C.1 dX7_snow_51 ?_
    refine c_put7 C (τ := csJ s6 124 v0 ((cJ s6 124 v0) + v3.toInt64)) hw.1 12 (by decide) kC_600 (fun _ h => h) rfl (ty := .long) (by decide +kernel) rfl rfl rfl hw.1.2 rfl (cx_7_12 _ _ _) (fun _ hb => csJ_o hb) dX7_snow_52 ?_
    replace hw := hw.2
    refine gJ.nm (fun s8 es8 => ?_)
    replace hw := hw s8 es8
    refine g_qload C.1 0 dX7_snow_55 rfl ?_
    obtain ⟨a9, ha9, hw⟩ := hw
    rw [ha9]
    refine c_get1 C hw.1 1 (by decide) kC_599 (fun _ h => h) rfl dX7_snow_57 ?_
    replace hw := hw.2
    obtain ⟨a10, ha10, hw⟩ := hw
    rw [ha10]
    refine g_iconst (v := 0) C.1 dX7_snow_60 (by decide) ?_
    refine g_dup2 C.1 dX7_snow_61 rfl rfl ?_
    refine c_iald C hw.1 hw.2.1 dX7_snow_62 ?_
    replace hw := hw.2.2
    refine g_iload_n C.1 4 dX7_snow_63 rfl rfl ?_
    refine g_iadd C.1 dX7_snow_64 ?_
    refine c_iast C hw.1 hw.2.1 dX7_snow_65 ?_
    replace hw := hw.2.2
    refine gJ.nm (fun s11 es11 => ?_)
    replace hw := hw s11 es11
    refine gJ.sub [0] rfl ?_
    exact wkC_X7_snow_66 C hsz hR hfl hout hthr hret _ _ hw
  · replace hw := hw.2 h7
    refine g_aload_n C.1 1 dX7_snow_19 rfl rfl ?_
    refine g_dup C.1 dX7_snow_20 rfl ?_
    refine c_get7 C hw.1 13 (by decide) kC_598 (fun _ h => h) rfl dX7_snow_21 ?_
    replace hw := hw.2
    refine g_iload_n C.1 4 dX7_snow_24 rfl rfl ?_
    refine g_i2l C.1 dX7_snow_25 ?_
    refine g_ladd C.1 dX7_snow_26 ?_
    refine c_put7 C (τ := csJ s6 125 v0 ((cJ s6 125 v0) + v3.toInt64)) hw.1 13 (by decide) kC_598 (fun _ h => h) rfl (ty := .long) (by decide +kernel) rfl rfl rfl hw.1.2 rfl (cx_7_13 _ _ _) (fun _ hb => csJ_o hb) dX7_snow_27 ?_
    replace hw := hw.2
    refine gJ.nm (fun s12 es12 => ?_)
    replace hw := hw s12 es12
    refine g_qload C.1 0 dX7_snow_30 rfl ?_
    obtain ⟨a13, ha13, hw⟩ := hw
    rw [ha13]
    refine c_get1 C hw.1 1 (by decide) kC_599 (fun _ h => h) rfl dX7_snow_32 ?_
    replace hw := hw.2
    obtain ⟨a14, ha14, hw⟩ := hw
    rw [ha14]
    refine g_iconst (v := 1) C.1 dX7_snow_35 (by decide) ?_
    refine g_dup2 C.1 dX7_snow_36 rfl rfl ?_
    refine c_iald C hw.1 hw.2.1 dX7_snow_37 ?_
    replace hw := hw.2.2
    refine g_iload_n C.1 4 dX7_snow_38 rfl rfl ?_
    refine g_iadd C.1 dX7_snow_39 ?_
    refine c_iast C hw.1 hw.2.1 dX7_snow_40 ?_
    replace hw := hw.2.2
    refine gJ.nm (fun s15 es15 => ?_)
    replace hw := hw s15 es15
    refine g_goto (tgt := 66) C.1 dX7_snow_41 (by decide) ?_
    refine gJ.sub [0] rfl ?_
    exact wkC_X7_snow_66 C hsz hR hfl hout hthr hret _ _ hw
theorem hdC_X7_snow : yX7_snow.cls = RX7 ∧ yX7_snow.cls ≠ "java/lang/invoke/MethodHandle" ∧ yX7_snow.cls ≠ "java/lang/invoke/VarHandle" ∧ (parseMethodDescriptor yX7_snow.desc).map (fun d => d.parameters.length) = some 3 := by decide +kernel
theorem cC_X7_snow (l : Launch) (hfl : l.stackTraces = false) (G : cG) (s : CSt) (v0 : Nat) (v1 : Int32) (v2 : Int32) (v3 : Int32) (post : Int32 → CSt → Prop) (pX : String → CSt → Prop) (hw : wpC_X7_snow_0 post pX s v0 v1 v2 v3) : cTi l yX7_snow cX7_snow 5 .int 7 111 2 12 G s [.ref v0, .int v1, .int v2, .int v3] post pX := cTi_of hfl (by decide +kernel) rfl rfl (Nat.le_of_ble_eq_true rfl) ⟨by decide, by decide, by decide, by decide⟩ (fun X A H0 Q hl hR hsz C hret hout hthr => wkC_X7_snow_0 C hsz hR (by rw [hl]; exact hfl) hout hthr hret s v0 v1 v2 v3 hw)
def wpC_X7_melt_0 (post : Int32 → CSt → Prop) (pX : String → CSt → Prop) (s : CSt) (v0 : Nat) (v1 : Int32) (v2 : Int32) : Prop := cAt s 7 v0 ∧ wpC_X7_cellAt_0 (fun r2 s1 => wpC_X7_checkNumber_0 (fun s3 => ∃ a4 : Nat, r2 = some a4 ∧ cAt s3 1 a4 ∧ wpC_X1_lose_0 (fun r6 s5 => cAt s5 7 v0 ∧ cAt s5 7 v0 ∧ ∀ s7 : CSt, s7 = csJ s5 126 v0 ((cJ s5 126 v0) + r6.toInt64) → post r6 s7) s3 a4 v2) pX s1 v2 0 1000000) pX s v0 v1
theorem wkC_X7_melt_0 {X : gT} {G : cG} {A : Nat → Prop} {H0 : Heap} {Q : State → Prop} (C : cC X cX7_melt 5 RX7 G A) (hsz : H0 = (g_s X).heap) (hR : 7 ≤ (g_R X).frames ∧ 111 ≤ (g_R X).locals ∧ 2 ≤ (g_R X).cells ∧ 12 ≤ (g_R X).slots) {pX : String → CSt → Prop} (hfl : (g_l X).stackTraces = false) (hout : ∀ (E : String) (τ : CSt) (lv : List (Nat × Value)) (pc k n : Nat) (rest : List Value), pX E τ → k ≤ 2 → n ≤ 12 → gX X (cWd G A H0) Q k n τ lv pc rest E) (hthr : ∀ (j : Nat) (τ : CSt) (lv : List (Nat × Value)) (pc k n ik : Nat) (rest : List Value), j < 5 → pX (cNm j) τ → k + 1 ≤ 2 → n + 6 ≤ 12 → (rest.map fun v => v.category).sum ≤ 8 → Cond.classLink RX7 ik (cNm j) ∈ wC → Cond.initialized (cNm j) ∈ wC → decode cX7_melt pc = .ok (.new ik, 3) → decode cX7_melt (pc + 3) = .ok (.dup, 1) → decode cX7_melt (pc + 4) = .ok (.invokespecial (cNi j), 3) → decode cX7_melt (pc + 7) = .ok (.athrow, 1) → gJ X (cWd G A H0) Q k n τ lv pc rest) {post : Int32 → CSt → Prop} (hret : ∀ (r : Int32) (τ : CSt) (lv : List (Nat × Value)) (pc : Nat), post r τ → narrow .int (.int r) = .int r → decode cX7_melt pc = .ok (.ireturn, 1) → gJ X (cWd G A H0) Q 2 12 τ lv pc [.int r]) (s : CSt) (v0 : Nat) (v1 : Int32) (v2 : Int32) (hw : wpC_X7_melt_0 post pX s v0 v1 v2) : gJ X (cWd G A H0) Q 0 0 s [(0, .ref v0), (1, .int v1), (2, .int v2)] 0 [] := by
  refine g_aload_n C.1 0 dX7_melt_0 rfl rfl ?_
  refine g_iload_n C.1 1 dX7_melt_1 rfl rfl ?_
  refine c_throwVq (vs := [.int v1]) C hsz (cC_X7_cellAt (g_l X) hfl G s _ _ _ _ hw.2) kC_412 kC_601 kC_602 kC_603 kC_596 hdC_X7_cellAt (c_recv7 C hw.1) ⟨(Nat.le_trans (Nat.le_of_ble_eq_true rfl) hR.1), (Nat.le_trans (Nat.le_of_ble_eq_true rfl) hR.2.1)⟩ ⟨(Nat.le_trans (Nat.le_of_ble_eq_true rfl) hR.2.2.1), (Nat.le_trans (Nat.le_of_ble_eq_true rfl) hR.2.2.2)⟩ dX7_melt_2 rfl (Nat.le_of_ble_eq_true rfl) (fun E τ h => hout E τ _ _ _ _ _ h (Nat.le_of_ble_eq_true rfl) (Nat.le_of_ble_eq_true rfl)) (fun r2 s1 hw => ?_)
  refine g_qstore_n (lv' := [(3, va_rf r2), (0, .ref v0), (1, .int v1), (2, .int v2)]) C.1 dX7_melt_5 rfl (by decide) rfl ?_
  refine g_iload_n C.1 3 dX7_melt_6 rfl rfl ?_
  refine g_iconst (v := 0) C.1 dX7_melt_7 (by decide) ?_
  refine g_ldcw (v := 1000000) C.1 C.2.1 (C.2.2.1 _ kC_606) dX7_melt_8 ?_
  refine c_throwSv (vs := [.int v2, .int 0, .int 1000000]) C hsz (cC_X7_checkNumber (g_l X) hfl G s1 _ _ _ _ _ hw) kC_412 kC_429 kC_430 kC_420 hdC_X7_checkNumber ⟨(Nat.le_trans (Nat.le_of_ble_eq_true rfl) hR.1), (Nat.le_trans (Nat.le_of_ble_eq_true rfl) hR.2.1)⟩ ⟨(Nat.le_trans (Nat.le_of_ble_eq_true rfl) hR.2.2.1), (Nat.le_trans (Nat.le_of_ble_eq_true rfl) hR.2.2.2)⟩ dX7_melt_11 rfl (Nat.le_of_ble_eq_true rfl) (fun E τ h => hout E τ _ _ _ _ _ h (Nat.le_of_ble_eq_true rfl) (Nat.le_of_ble_eq_true rfl)) (fun s3 hw => ?_)
  refine g_qload_n C.1 0 dX7_melt_14 rfl rfl ?_
  refine g_iload_n C.1 3 dX7_melt_15 rfl rfl ?_
  obtain ⟨a4, ha4, hw⟩ := hw
  rw [ha4]
  refine c_callVi (vs := [.int v2]) C hsz (cC_X1_lose (g_l X) G s3 _ _ _ hw.2) kC_36 kC_608 kC_609 kC_610 kC_103 hdC_X1_lose (c_recv1 C hw.1) ⟨(Nat.le_trans (Nat.le_of_ble_eq_true rfl) hR.1), (Nat.le_trans (Nat.le_of_ble_eq_true rfl) hR.2.1)⟩ ⟨(Nat.le_trans (Nat.le_of_ble_eq_true rfl) hR.2.2.1), (Nat.le_trans (Nat.le_of_ble_eq_true rfl) hR.2.2.2)⟩ dX7_melt_16 rfl (Nat.le_of_ble_eq_true rfl) (fun r6 s5 hw => ?_)
  refine g_istore (lv' := [(4, .int r6), (3, .ref a4), (0, .ref v0), (1, .int v1), (2, .int v2)]) C.1 dX7_melt_19 (by decide) rfl ?_
  refine g_aload_n C.1 2 dX7_melt_21 rfl rfl ?_
  refine g_dup C.1 dX7_melt_22 rfl ?_
  refine c_get7 C hw.1 14 (by decide) kC_607 (fun _ h => h) rfl dX7_melt_23 ?_
  replace hw := hw.2
  refine g_iload C.1 0 dX7_melt_26 rfl ?_
  refine g_i2l C.1 dX7_melt_28 ?_
  refine g_ladd C.1 dX7_melt_29 ?_
  refine c_put7 C (τ := csJ s5 126 v0 ((cJ s5 126 v0) + r6.toInt64)) hw.1 14 (by decide) kC_607 (fun _ h => h) rfl (ty := .long) (by decide +kernel) rfl rfl rfl hw.1.2 rfl (cx_7_14 _ _ _) (fun _ hb => csJ_o hb) dX7_melt_30 ?_
  replace hw := hw.2
  refine gJ.nm (fun s7 es7 => ?_)
  replace hw := hw s7 es7
  refine g_iload C.1 0 dX7_melt_33 rfl ?_
  exact hret _ _ _ _ hw rfl dX7_melt_35
theorem hdC_X7_melt : yX7_melt.cls = RX7 ∧ yX7_melt.cls ≠ "java/lang/invoke/MethodHandle" ∧ yX7_melt.cls ≠ "java/lang/invoke/VarHandle" ∧ (parseMethodDescriptor yX7_melt.desc).map (fun d => d.parameters.length) = some 2 := by decide +kernel
theorem cC_X7_melt (l : Launch) (hfl : l.stackTraces = false) (G : cG) (s : CSt) (v0 : Nat) (v1 : Int32) (v2 : Int32) (post : Int32 → CSt → Prop) (pX : String → CSt → Prop) (hw : wpC_X7_melt_0 post pX s v0 v1 v2) : cTi l yX7_melt cX7_melt 5 .int 7 111 2 12 G s [.ref v0, .int v1, .int v2] post pX := cTi_of hfl (by decide +kernel) rfl rfl (Nat.le_of_ble_eq_true rfl) ⟨by decide, by decide, by decide, by decide⟩ (fun X A H0 Q hl hR hsz C hret hout hthr => wkC_X7_melt_0 C hsz hR (by rw [hl]; exact hfl) hout hthr hret s v0 v1 v2 hw)
def wpC_X7_push_0 (post : Int32 → CSt → Prop) (pX : String → CSt → Prop) (s : CSt) (v0 : Nat) (v1 : Int32) : Prop := cAt s 7 v0 ∧ wpC_X7_cellAt_0 (fun r2 s1 => ∃ a3 : Nat, r2 = some a3 ∧ cAt s1 1 a3 ∧ wpC_X1_becomePushed_0 (fun r5 s4 => post r5 s4) s1 a3) pX s v0 v1
theorem wkC_X7_push_0 {X : gT} {G : cG} {A : Nat → Prop} {H0 : Heap} {Q : State → Prop} (C : cC X cX7_push 2 RX7 G A) (hsz : H0 = (g_s X).heap) (hR : 7 ≤ (g_R X).frames ∧ 110 ≤ (g_R X).locals ∧ 1 ≤ (g_R X).cells ∧ 6 ≤ (g_R X).slots) {pX : String → CSt → Prop} (hfl : (g_l X).stackTraces = false) (hout : ∀ (E : String) (τ : CSt) (lv : List (Nat × Value)) (pc k n : Nat) (rest : List Value), pX E τ → k ≤ 1 → n ≤ 6 → gX X (cWd G A H0) Q k n τ lv pc rest E) (hthr : ∀ (j : Nat) (τ : CSt) (lv : List (Nat × Value)) (pc k n ik : Nat) (rest : List Value), j < 5 → pX (cNm j) τ → k + 1 ≤ 1 → n + 6 ≤ 6 → (rest.map fun v => v.category).sum ≤ 8 → Cond.classLink RX7 ik (cNm j) ∈ wC → Cond.initialized (cNm j) ∈ wC → decode cX7_push pc = .ok (.new ik, 3) → decode cX7_push (pc + 3) = .ok (.dup, 1) → decode cX7_push (pc + 4) = .ok (.invokespecial (cNi j), 3) → decode cX7_push (pc + 7) = .ok (.athrow, 1) → gJ X (cWd G A H0) Q k n τ lv pc rest) {post : Int32 → CSt → Prop} (hret : ∀ (r : Int32) (τ : CSt) (lv : List (Nat × Value)) (pc : Nat), post r τ → narrow .int (.int r) = .int r → decode cX7_push pc = .ok (.ireturn, 1) → gJ X (cWd G A H0) Q 1 6 τ lv pc [.int r]) (s : CSt) (v0 : Nat) (v1 : Int32) (hw : wpC_X7_push_0 post pX s v0 v1) : gJ X (cWd G A H0) Q 0 0 s [(0, .ref v0), (1, .int v1)] 0 [] := by
  refine g_aload_n C.1 0 dX7_push_0 rfl rfl ?_
  refine g_iload_n C.1 1 dX7_push_1 rfl rfl ?_
  refine c_throwVq (vs := [.int v1]) C hsz (cC_X7_cellAt (g_l X) hfl G s _ _ _ _ hw.2) kC_412 kC_601 kC_602 kC_603 kC_596 hdC_X7_cellAt (c_recv7 C hw.1) ⟨(Nat.le_trans (Nat.le_of_ble_eq_true rfl) hR.1), (Nat.le_trans (Nat.le_of_ble_eq_true rfl) hR.2.1)⟩ ⟨(Nat.le_trans (Nat.le_of_ble_eq_true rfl) hR.2.2.1), (Nat.le_trans (Nat.le_of_ble_eq_true rfl) hR.2.2.2)⟩ dX7_push_2 rfl (Nat.le_of_ble_eq_true rfl) (fun E τ h => hout E τ _ _ _ _ _ h (Nat.le_of_ble_eq_true rfl) (Nat.le_of_ble_eq_true rfl)) (fun r2 s1 hw => ?_)
  obtain ⟨a3, ha3, hw⟩ := hw
  rw [ha3]
  refine c_callVi (vs := []) C hsz (cC_X1_becomePushed (g_l X) G s1 _ _ hw.2) kC_36 kC_612 kC_613 kC_614 kC_106 hdC_X1_becomePushed (c_recv1 C hw.1) ⟨(Nat.le_trans (Nat.le_of_ble_eq_true rfl) hR.1), (Nat.le_trans (Nat.le_of_ble_eq_true rfl) hR.2.1)⟩ ⟨(Nat.le_trans (Nat.le_of_ble_eq_true rfl) hR.2.2.1), (Nat.le_trans (Nat.le_of_ble_eq_true rfl) hR.2.2.2)⟩ dX7_push_5 rfl (Nat.le_of_ble_eq_true rfl) (fun r5 s4 hw => ?_)
  exact hret _ _ _ _ hw rfl dX7_push_8
theorem hdC_X7_push : yX7_push.cls = RX7 ∧ yX7_push.cls ≠ "java/lang/invoke/MethodHandle" ∧ yX7_push.cls ≠ "java/lang/invoke/VarHandle" ∧ (parseMethodDescriptor yX7_push.desc).map (fun d => d.parameters.length) = some 1 := by decide +kernel
theorem cC_X7_push (l : Launch) (hfl : l.stackTraces = false) (G : cG) (s : CSt) (v0 : Nat) (v1 : Int32) (post : Int32 → CSt → Prop) (pX : String → CSt → Prop) (hw : wpC_X7_push_0 post pX s v0 v1) : cTi l yX7_push cX7_push 2 .int 7 110 1 6 G s [.ref v0, .int v1] post pX := cTi_of hfl (by decide +kernel) rfl rfl (Nat.le_of_ble_eq_true rfl) ⟨by decide, by decide, by decide, by decide⟩ (fun X A H0 Q hl hR hsz C hret hout hthr => wkC_X7_push_0 C hsz hR (by rw [hl]; exact hfl) hout hthr hret s v0 v1 hw)
def wpC_X7_cell_22 (post : Int32 → CSt → Prop) (pX : String → CSt → Prop) (s : CSt) (v2 : Int32) (v3 : Option Nat) : Prop := (v2 = 4 → ∃ a2 : Nat, v3 = some a2 ∧ cAt s 1 a2 ∧ wpC_X1_depth_0 (fun r4 s3 => post r4 s3) s a2) ∧ (v2 = 5 → ∃ a5 : Nat, v3 = some a5 ∧ cAt s 1 a5 ∧ post (cI s 16 a5) s) ∧ (v2 = 6 → ∃ a6 : Nat, v3 = some a6 ∧ cAt s 1 a6 ∧ post (cI s 18 a6) s) ∧ (v2 = 7 → ∃ a7 : Nat, v3 = some a7 ∧ cAt s 1 a7 ∧ post (cI s 19 a7) s) ∧ ((v2).toInt < 4 ∨ 7 < (v2).toInt → pX "java/util/NoSuchElementException" s)
def wpC_X7_cell_0 (post : Int32 → CSt → Prop) (pX : String → CSt → Prop) (s : CSt) (v0 : Nat) (v1 : Int32) (v2 : Int32) : Prop := cAt s 7 v0 ∧ wpC_X7_cellAt_0 (fun r9 s8 => (v2 < 0 → wpC_X7_cell_22 post pX s8 v2 r9) ∧ (¬ v2 < 0 → (4 ≤ v2 → wpC_X7_cell_22 post pX s8 v2 r9) ∧ (¬ 4 ≤ v2 → ∃ a12 : Nat, r9 = some a12 ∧ cAt s8 1 a12 ∧ ∃ a13 : Nat, cR s8 17 a12 = some a13 ∧ cAt s8 9 a13 ∧ vp_in v2 (cN s8 a13) ∧ post (cV s8 a13 v2.toNatClampNeg) s8))) pX s v0 v1
theorem wkC_X7_cell_22 {X : gT} {G : cG} {A : Nat → Prop} {H0 : Heap} {Q : State → Prop} (C : cC X cX7_cell 4 RX7 G A) (hsz : H0 = (g_s X).heap) (hR : 7 ≤ (g_R X).frames ∧ 110 ≤ (g_R X).locals ∧ 2 ≤ (g_R X).cells ∧ 12 ≤ (g_R X).slots) {pX : String → CSt → Prop} (hfl : (g_l X).stackTraces = false) (hout : ∀ (E : String) (τ : CSt) (lv : List (Nat × Value)) (pc k n : Nat) (rest : List Value), pX E τ → k ≤ 2 → n ≤ 12 → gX X (cWd G A H0) Q k n τ lv pc rest E) (hthr : ∀ (j : Nat) (τ : CSt) (lv : List (Nat × Value)) (pc k n ik : Nat) (rest : List Value), j < 5 → pX (cNm j) τ → k + 1 ≤ 2 → n + 6 ≤ 12 → (rest.map fun v => v.category).sum ≤ 8 → Cond.classLink RX7 ik (cNm j) ∈ wC → Cond.initialized (cNm j) ∈ wC → decode cX7_cell pc = .ok (.new ik, 3) → decode cX7_cell (pc + 3) = .ok (.dup, 1) → decode cX7_cell (pc + 4) = .ok (.invokespecial (cNi j), 3) → decode cX7_cell (pc + 7) = .ok (.athrow, 1) → gJ X (cWd G A H0) Q k n τ lv pc rest) {post : Int32 → CSt → Prop} (hret : ∀ (r : Int32) (τ : CSt) (lv : List (Nat × Value)) (pc : Nat), post r τ → narrow .int (.int r) = .int r → decode cX7_cell pc = .ok (.ireturn, 1) → gJ X (cWd G A H0) Q 2 12 τ lv pc [.int r]) (s : CSt) (v2 : Int32) (v3 : Option Nat) (hw : wpC_X7_cell_22 post pX s v2 v3) : gJ X (cWd G A H0) Q 1 6 s [(2, .int v2), (3, va_rf v3)] 22 [] := by
  refine g_iload_n C.1 0 dX7_cell_22 rfl rfl ?_
  by_cases h1a : (v2).toInt < 4
  · replace hw := hw.2.2.2.2 (Or.inl h1a)
    refine g_tableOut (tgt := 72) C.1 dX7_cell_23 (Or.inl h1a) (by decide) ?_
    exact hthr 4 _ _ _ _ _ _ _ (by decide) hw (Nat.le_of_ble_eq_true rfl) (Nat.le_of_ble_eq_true rfl) (Nat.le_of_ble_eq_true rfl) kC_585 kC_586 dX7_cell_72 dX7_cell_75 dX7_cell_76 dX7_cell_79
  by_cases h1b : 7 < (v2).toInt
  · replace hw := hw.2.2.2.2 (Or.inr h1b)
    refine g_tableOut (tgt := 72) C.1 dX7_cell_23 (Or.inr h1b) (by decide) ?_
    exact hthr 4 _ _ _ _ _ _ _ (by decide) hw (Nat.le_of_ble_eq_true rfl) (Nat.le_of_ble_eq_true rfl) (Nat.le_of_ble_eq_true rfl) kC_585 kC_586 dX7_cell_72 dX7_cell_75 dX7_cell_76 dX7_cell_79
  have h1c : (v2).toInt = 4 ∨ (v2).toInt = 5 ∨ (v2).toInt = 6 ∨ (v2).toInt = 7 := by omega
  rcases h1c with h1c | h1c | h1c | h1c
  · replace hw := hw.1 (i32_of h1c)
    refine g_tableIn (tgt := 52) (off := 29) C.1 dX7_cell_23 h1a h1b (by rw [h1c]; rfl) (by decide) ?_
    refine g_qload_n C.1 1 dX7_cell_52 rfl rfl ?_
    obtain ⟨a2, ha2, hw⟩ := hw
    rw [ha2]
    refine c_callVi (vs := []) C hsz (cC_X1_depth (g_l X) G s _ _ hw.2) kC_36 kC_604 kC_34 kC_35 kC_37 hdC_X1_depth (c_recv1 C hw.1) ⟨(Nat.le_trans (Nat.le_of_ble_eq_true rfl) hR.1), (Nat.le_trans (Nat.le_of_ble_eq_true rfl) hR.2.1)⟩ ⟨(Nat.le_trans (Nat.le_of_ble_eq_true rfl) hR.2.2.1), (Nat.le_trans (Nat.le_of_ble_eq_true rfl) hR.2.2.2)⟩ dX7_cell_53 rfl (Nat.le_of_ble_eq_true rfl) (fun r4 s3 hw => ?_)
    refine gJ.widen (k' := 2) (n' := 12) (Nat.le_of_ble_eq_true rfl) (Nat.le_of_ble_eq_true rfl) ?_
    exact hret _ _ _ _ hw rfl dX7_cell_56
  · replace hw := hw.2.1 (i32_of h1c)
    refine g_tableIn (tgt := 57) (off := 34) C.1 dX7_cell_23 h1a h1b (by rw [h1c]; rfl) (by decide) ?_
    refine g_qload_n C.1 1 dX7_cell_57 rfl rfl ?_
    obtain ⟨a5, ha5, hw⟩ := hw
    rw [ha5]
    refine c_get1 C hw.1 0 (by decide) kC_616 (fun _ h => h) rfl dX7_cell_58 ?_
    replace hw := hw.2
    refine gJ.widen (k' := 2) (n' := 12) (Nat.le_of_ble_eq_true rfl) (Nat.le_of_ble_eq_true rfl) ?_
    exact hret _ _ _ _ hw rfl dX7_cell_61
  · replace hw := hw.2.2.1 (i32_of h1c)
    refine g_tableIn (tgt := 62) (off := 39) C.1 dX7_cell_23 h1a h1b (by rw [h1c]; rfl) (by decide) ?_
    refine g_qload_n C.1 1 dX7_cell_62 rfl rfl ?_
    obtain ⟨a6, ha6, hw⟩ := hw
    rw [ha6]
    refine c_get1 C hw.1 2 (by decide) kC_617 (fun _ h => h) rfl dX7_cell_63 ?_
    replace hw := hw.2
    refine gJ.widen (k' := 2) (n' := 12) (Nat.le_of_ble_eq_true rfl) (Nat.le_of_ble_eq_true rfl) ?_
    exact hret _ _ _ _ hw rfl dX7_cell_66
  · replace hw := hw.2.2.2.1 (i32_of h1c)
    refine g_tableIn (tgt := 67) (off := 44) C.1 dX7_cell_23 h1a h1b (by rw [h1c]; rfl) (by decide) ?_
    refine g_qload_n C.1 1 dX7_cell_67 rfl rfl ?_
    obtain ⟨a7, ha7, hw⟩ := hw
    rw [ha7]
    refine c_get1 C hw.1 3 (by decide) kC_618 (fun _ h => h) rfl dX7_cell_68 ?_
    replace hw := hw.2
    refine gJ.widen (k' := 2) (n' := 12) (Nat.le_of_ble_eq_true rfl) (Nat.le_of_ble_eq_true rfl) ?_
    exact hret _ _ _ _ hw rfl dX7_cell_71
theorem wkC_X7_cell_0 {X : gT} {G : cG} {A : Nat → Prop} {H0 : Heap} {Q : State → Prop} (C : cC X cX7_cell 4 RX7 G A) (hsz : H0 = (g_s X).heap) (hR : 7 ≤ (g_R X).frames ∧ 110 ≤ (g_R X).locals ∧ 2 ≤ (g_R X).cells ∧ 12 ≤ (g_R X).slots) {pX : String → CSt → Prop} (hfl : (g_l X).stackTraces = false) (hout : ∀ (E : String) (τ : CSt) (lv : List (Nat × Value)) (pc k n : Nat) (rest : List Value), pX E τ → k ≤ 2 → n ≤ 12 → gX X (cWd G A H0) Q k n τ lv pc rest E) (hthr : ∀ (j : Nat) (τ : CSt) (lv : List (Nat × Value)) (pc k n ik : Nat) (rest : List Value), j < 5 → pX (cNm j) τ → k + 1 ≤ 2 → n + 6 ≤ 12 → (rest.map fun v => v.category).sum ≤ 8 → Cond.classLink RX7 ik (cNm j) ∈ wC → Cond.initialized (cNm j) ∈ wC → decode cX7_cell pc = .ok (.new ik, 3) → decode cX7_cell (pc + 3) = .ok (.dup, 1) → decode cX7_cell (pc + 4) = .ok (.invokespecial (cNi j), 3) → decode cX7_cell (pc + 7) = .ok (.athrow, 1) → gJ X (cWd G A H0) Q k n τ lv pc rest) {post : Int32 → CSt → Prop} (hret : ∀ (r : Int32) (τ : CSt) (lv : List (Nat × Value)) (pc : Nat), post r τ → narrow .int (.int r) = .int r → decode cX7_cell pc = .ok (.ireturn, 1) → gJ X (cWd G A H0) Q 2 12 τ lv pc [.int r]) (s : CSt) (v0 : Nat) (v1 : Int32) (v2 : Int32) (hw : wpC_X7_cell_0 post pX s v0 v1 v2) : gJ X (cWd G A H0) Q 0 0 s [(0, .ref v0), (1, .int v1), (2, .int v2)] 0 [] := by
  refine g_aload_n C.1 0 dX7_cell_0 rfl rfl ?_
  refine g_iload_n C.1 1 dX7_cell_1 rfl rfl ?_
  refine c_throwVq (vs := [.int v1]) C hsz (cC_X7_cellAt (g_l X) hfl G s _ _ _ _ hw.2) kC_412 kC_601 kC_602 kC_603 kC_596 hdC_X7_cellAt (c_recv7 C hw.1) ⟨(Nat.le_trans (Nat.le_of_ble_eq_true rfl) hR.1), (Nat.le_trans (Nat.le_of_ble_eq_true rfl) hR.2.1)⟩ ⟨(Nat.le_trans (Nat.le_of_ble_eq_true rfl) hR.2.2.1), (Nat.le_trans (Nat.le_of_ble_eq_true rfl) hR.2.2.2)⟩ dX7_cell_2 rfl (Nat.le_of_ble_eq_true rfl) (fun E τ h => hout E τ _ _ _ _ _ h (Nat.le_of_ble_eq_true rfl) (Nat.le_of_ble_eq_true rfl)) (fun r9 s8 hw => ?_)
  refine g_qstore_n (lv' := [(3, va_rf r9), (0, .ref v0), (1, .int v1), (2, .int v2)]) C.1 dX7_cell_5 rfl (by decide) rfl ?_
  refine g_iload_n C.1 3 dX7_cell_6 rfl rfl ?_
  refine g_if_lt (tgt := 22) C.1 dX7_cell_7 (by decide) (fun h10 => ?_) (fun h10 => ?_)
  · replace hw := hw.1 h10
    refine gJ.sub [3, 0] rfl ?_
    exact wkC_X7_cell_22 C hsz hR hfl hout hthr hret _ _ _ hw
  · replace hw := hw.2 h10
    refine g_iload_n C.1 3 dX7_cell_10 rfl rfl ?_
    refine g_iconst (v := 4) C.1 dX7_cell_11 (by decide) ?_
    refine g_icmp_ge (tgt := 22) C.1 dX7_cell_12 (by decide) (fun h11 => ?_) (fun h11 => ?_)
    · replace hw := hw.1 h11
      refine gJ.sub [3, 0] rfl ?_
      exact wkC_X7_cell_22 C hsz hR hfl hout hthr hret _ _ _ hw
    · replace hw := hw.2 h11
      refine g_qload_n C.1 0 dX7_cell_15 rfl rfl ?_
      obtain ⟨a12, ha12, hw⟩ := hw
      rw [ha12]
      refine c_get1 C hw.1 1 (by decide) kC_599 (fun _ h => h) rfl dX7_cell_16 ?_
      replace hw := hw.2
      obtain ⟨a13, ha13, hw⟩ := hw
      rw [ha13]
      refine g_iload_n C.1 3 dX7_cell_19 rfl rfl ?_
      refine c_iald C hw.1 hw.2.1 dX7_cell_20 ?_
      replace hw := hw.2.2
      refine gJ.widen (k' := 2) (n' := 12) (Nat.le_of_ble_eq_true rfl) (Nat.le_of_ble_eq_true rfl) ?_
      exact hret _ _ _ _ hw rfl dX7_cell_21
theorem hdC_X7_cell : yX7_cell.cls = RX7 ∧ yX7_cell.cls ≠ "java/lang/invoke/MethodHandle" ∧ yX7_cell.cls ≠ "java/lang/invoke/VarHandle" ∧ (parseMethodDescriptor yX7_cell.desc).map (fun d => d.parameters.length) = some 2 := by decide +kernel
theorem cC_X7_cell (l : Launch) (hfl : l.stackTraces = false) (G : cG) (s : CSt) (v0 : Nat) (v1 : Int32) (v2 : Int32) (post : Int32 → CSt → Prop) (pX : String → CSt → Prop) (hw : wpC_X7_cell_0 post pX s v0 v1 v2) : cTi l yX7_cell cX7_cell 4 .int 7 110 2 12 G s [.ref v0, .int v1, .int v2] post pX := cTi_of hfl (by decide +kernel) rfl rfl (Nat.le_of_ble_eq_true rfl) ⟨by decide, by decide, by decide, by decide⟩ (fun X A H0 Q hl hR hsz C hret hout hthr => wkC_X7_cell_0 C hsz hR (by rw [hl]; exact hfl) hout hthr hret s v0 v1 v2 hw)
def wpC_X7_link_0 (mc ms : Nat) (post : Int32 → CSt → Prop) (pX : String → CSt → Prop) (s : CSt) (v0 : Nat) (v1 : Int32) (v2 : Int32) (v3 : Int32) : Prop := 0 + 1 ≤ mc ∧ 0 + 6 ≤ ms ∧ cAt s 7 v0 ∧ wpC_X7_cellAt_0 (fun r3 s1 => 0 + 1 + 1 ≤ mc ∧ 0 + 6 + 6 ≤ ms ∧ cAt s1 7 v0 ∧ wpC_X7_cellAt_0 (fun r6 s4 => (¬ v1 = v2 → 0 + 1 + 1 + 1 ≤ mc ∧ 0 + 6 + 6 + 6 ≤ ms ∧ wpC_X7_checkNumber_0 (fun s8 => cAt s8 7 v0 ∧ ∃ a10 : Nat, cR s8 116 v0 = some a10 ∧ cAt s8 0 a10 ∧ wpC_Jx4a65c_size_8abf5_0 (fun r12 s11 => 0 + 1 + 1 + 1 + 1 ≤ mc ∧ 0 + 6 + 6 + 6 + 6 ≤ ms ∧ wpC_X7_checkRoom_0 (fun s13 => cAt s13 7 v0 ∧ ∃ a15 : Nat, cR s13 116 v0 = some a15 ∧ 0 + 1 + 1 + 1 + 1 + 1 ≤ mc ∧ 0 + 6 + 6 + 6 + 6 + 4 ≤ ms ∧ ∀ q16 : Nat, q16 ∉ cL s13 → ∀ s17 : CSt, s17 = csO s13 q16 4 → ∃ a19 : Nat, r3 = some a19 ∧ ∃ a20 : Nat, r6 = some a20 ∧ wpC_X4_init_0 (fun s21 => ∃ m22 m23 : Nat, 0 + 1 + 1 + 1 + 1 + 1 + m22 ≤ mc ∧ 0 + 6 + 6 + 6 + 6 + 4 + m23 ≤ ms ∧ cAt s21 0 a15 ∧ wpC_Jx4a65c_add_9ea2d_0 m22 m23 (fun r26 s24 => cAt s24 7 v0 ∧ ∃ a27 : Nat, cR s24 116 v0 = some a27 ∧ cAt s24 0 a27 ∧ wpC_Jx4a65c_size_8abf5_0 (fun r29 s28 => 0 + 1 + 1 + 1 + 1 + 1 + m22 ≤ mc ∧ 0 + 6 + 6 + 6 + 6 + 4 + m23 ≤ ms ∧ post r29 s28) s24 a27) s21 a15 q16) s17 q16 a19 a20 v3) pX s11 r12 80) s8 a10) pX s4 v3 1 100) ∧ (v1 = v2 → 0 + 1 + 1 + 1 ≤ mc ∧ 0 + 6 + 6 + 6 ≤ ms ∧ pX "java/lang/IllegalArgumentException" s4)) pX s1 v0 v2) pX s v0 v1
theorem wkC_X7_link_0 {mc ms : Nat} {X : gT} {G : cG} {A : Nat → Prop} {H0 : Heap} {Q : State → Prop} (C : cC X cX7_link 6 RX7 G A) (hsz : H0 = (g_s X).heap) (hR : 7 ≤ (g_R X).frames ∧ 191 ≤ (g_R X).locals ∧ mc ≤ (g_R X).cells ∧ ms ≤ (g_R X).slots) {pX : String → CSt → Prop} (hfl : (g_l X).stackTraces = false) (hout : ∀ (E : String) (τ : CSt) (lv : List (Nat × Value)) (pc k n : Nat) (rest : List Value), pX E τ → k ≤ mc → n ≤ ms → gX X (cWd G A H0) Q k n τ lv pc rest E) (hthr : ∀ (j : Nat) (τ : CSt) (lv : List (Nat × Value)) (pc k n ik : Nat) (rest : List Value), j < 5 → pX (cNm j) τ → k + 1 ≤ mc → n + 6 ≤ ms → (rest.map fun v => v.category).sum ≤ 8 → Cond.classLink RX7 ik (cNm j) ∈ wC → Cond.initialized (cNm j) ∈ wC → decode cX7_link pc = .ok (.new ik, 3) → decode cX7_link (pc + 3) = .ok (.dup, 1) → decode cX7_link (pc + 4) = .ok (.invokespecial (cNi j), 3) → decode cX7_link (pc + 7) = .ok (.athrow, 1) → gJ X (cWd G A H0) Q k n τ lv pc rest) {post : Int32 → CSt → Prop} (hret : ∀ (r : Int32) (τ : CSt) (lv : List (Nat × Value)) (pc : Nat), post r τ → narrow .int (.int r) = .int r → decode cX7_link pc = .ok (.ireturn, 1) → gJ X (cWd G A H0) Q mc ms τ lv pc [.int r]) (s : CSt) (v0 : Nat) (v1 : Int32) (v2 : Int32) (v3 : Int32) (hw : wpC_X7_link_0 mc ms post pX s v0 v1 v2 v3) : gJ X (cWd G A H0) Q 0 0 s [(0, .ref v0), (1, .int v1), (2, .int v2), (3, .int v3)] 0 [] := by
  refine g_aload_n C.1 0 dX7_link_0 rfl rfl ?_
  refine g_iload_n C.1 1 dX7_link_1 rfl rfl ?_
  have hk2 : 0 + 1 ≤ mc ∧ 0 + 6 ≤ ms := ⟨hw.1, hw.2.1⟩
  replace hw := hw.2.2
  refine c_throwVq (vs := [.int v1]) C hsz (cC_X7_cellAt (g_l X) hfl G s _ _ _ _ hw.2) kC_412 kC_601 kC_602 kC_603 kC_596 hdC_X7_cellAt (c_recv7 C hw.1) ⟨(Nat.le_trans (Nat.le_of_ble_eq_true rfl) hR.1), (Nat.le_trans (Nat.le_of_ble_eq_true rfl) hR.2.1)⟩ ⟨Nat.le_trans hk2.1 hR.2.2.1, Nat.le_trans hk2.2 hR.2.2.2⟩ dX7_link_2 rfl (Nat.le_of_ble_eq_true rfl) (fun E τ h => hout E τ _ _ _ _ _ h hk2.1 hk2.2) (fun r3 s1 hw => ?_)
  refine g_qstore (lv' := [(4, va_rf r3), (0, .ref v0), (1, .int v1), (2, .int v2), (3, .int v3)]) C.1 dX7_link_5 (by decide) rfl ?_
  refine g_aload_n C.1 1 dX7_link_7 rfl rfl ?_
  refine g_iload_n C.1 3 dX7_link_8 rfl rfl ?_
  have hk5 : 0 + 1 + 1 ≤ mc ∧ 0 + 6 + 6 ≤ ms := ⟨hw.1, hw.2.1⟩
  replace hw := hw.2.2
  refine c_throwVq (vs := [.int v2]) C hsz (cC_X7_cellAt (g_l X) hfl G s1 _ _ _ _ hw.2) kC_412 kC_601 kC_602 kC_603 kC_596 hdC_X7_cellAt (c_recv7 C hw.1) ⟨(Nat.le_trans (Nat.le_of_ble_eq_true rfl) hR.1), (Nat.le_trans (Nat.le_of_ble_eq_true rfl) hR.2.1)⟩ ⟨Nat.le_trans hk5.1 hR.2.2.1, Nat.le_trans hk5.2 hR.2.2.2⟩ dX7_link_9 rfl (Nat.le_of_ble_eq_true rfl) (fun E τ h => hout E τ _ _ _ _ _ h hk5.1 hk5.2) (fun r6 s4 hw => ?_)
  refine g_qstore (lv' := [(5, va_rf r6), (4, va_rf r3), (0, .ref v0), (1, .int v1), (2, .int v2), (3, .int v3)]) C.1 dX7_link_12 (by decide) (by simp [va_rf_cat]) ?_
  refine g_iload_n C.1 3 dX7_link_14 rfl rfl ?_
  refine g_iload_n C.1 4 dX7_link_15 rfl rfl ?_
  refine g_icmp_ne (tgt := 27) C.1 dX7_link_16 (by decide) (fun h7 => ?_) (fun h7 => ?_)
  · replace hw := hw.1 h7
    refine g_iload_n C.1 5 dX7_link_27 rfl rfl ?_
    refine g_iconst (v := 1) C.1 dX7_link_28 (by decide) ?_
    refine g_bipush (v := 100) C.1 dX7_link_29 (by decide) ?_
    have hk9 : 0 + 1 + 1 + 1 ≤ mc ∧ 0 + 6 + 6 + 6 ≤ ms := ⟨hw.1, hw.2.1⟩
    replace hw := hw.2.2
    refine c_throwSv (vs := [.int v3, .int 1, .int 100]) C hsz (cC_X7_checkNumber (g_l X) hfl G s4 _ _ _ _ _ hw) kC_412 kC_429 kC_430 kC_420 hdC_X7_checkNumber ⟨(Nat.le_trans (Nat.le_of_ble_eq_true rfl) hR.1), (Nat.le_trans (Nat.le_of_ble_eq_true rfl) hR.2.1)⟩ ⟨Nat.le_trans hk9.1 hR.2.2.1, Nat.le_trans hk9.2 hR.2.2.2⟩ dX7_link_31 rfl (Nat.le_of_ble_eq_true rfl) (fun E τ h => hout E τ _ _ _ _ _ h hk9.1 hk9.2) (fun s8 hw => ?_)
    refine g_aload_n C.1 2 dX7_link_34 rfl rfl ?_
    refine c_get7 C hw.1 4 (by decide) kC_398 (fun _ h => h) rfl dX7_link_35 ?_
    replace hw := hw.2
    obtain ⟨a10, ha10, hw⟩ := hw
    rw [ha10]
    refine c_callVi (vs := []) C hsz (cC_Jx4a65c_size_8abf5 (g_l X) G s8 _ _ hw.2) kC_13 kC_431 kC_11 kC_12 kC_14 hdC_Jx4a65c_size_8abf5 (c_recv0 C hw.1) ⟨(Nat.le_trans (Nat.le_of_ble_eq_true rfl) hR.1), (Nat.le_trans (Nat.le_of_ble_eq_true rfl) hR.2.1)⟩ ⟨Nat.le_trans hk9.1 hR.2.2.1, Nat.le_trans hk9.2 hR.2.2.2⟩ dX7_link_38 rfl (Nat.le_of_ble_eq_true rfl) (fun r12 s11 hw => ?_)
    refine g_bipush (v := 80) C.1 dX7_link_41 (by decide) ?_
    have hk14 : 0 + 1 + 1 + 1 + 1 ≤ mc ∧ 0 + 6 + 6 + 6 + 6 ≤ ms := ⟨hw.1, hw.2.1⟩
    replace hw := hw.2.2
    refine c_throwSv (vs := [.int r12, .int 80]) C hsz (cC_X7_checkRoom (g_l X) hfl G s11 _ _ _ _ hw) kC_412 kC_432 kC_433 kC_423 hdC_X7_checkRoom ⟨(Nat.le_trans (Nat.le_of_ble_eq_true rfl) hR.1), (Nat.le_trans (Nat.le_of_ble_eq_true rfl) hR.2.1)⟩ ⟨Nat.le_trans hk14.1 hR.2.2.1, Nat.le_trans hk14.2 hR.2.2.2⟩ dX7_link_43 rfl (Nat.le_of_ble_eq_true rfl) (fun E τ h => hout E τ _ _ _ _ _ h hk14.1 hk14.2) (fun s13 hw => ?_)
    refine g_aload_n C.1 2 dX7_link_46 rfl rfl ?_
    refine c_get7 C hw.1 4 (by decide) kC_398 (fun _ h => h) rfl dX7_link_47 ?_
    replace hw := hw.2
    obtain ⟨a15, ha15, hw⟩ := hw
    rw [ha15]
    have hk18 : 0 + 1 + 1 + 1 + 1 + 1 ≤ mc ∧ 0 + 6 + 6 + 6 + 6 + 4 ≤ ms := ⟨hw.1, hw.2.1⟩
    replace hw := hw.2.2
    refine c_new4 C hsz kC_620 kC_621 kC_48 (Nat.le_trans hk18.1 hR.2.2.1) (Nat.le_trans hk18.2 hR.2.2.2) dX7_link_50 (fun q16 hq16 => ?_)
    replace hw := hw q16 hq16
    refine gJ.nm (fun s17 es17 => ?_)
    replace hw := hw s17 es17
    refine g_dup C.1 dX7_link_53 rfl ?_
    refine g_qload C.1 1 dX7_link_54 rfl ?_
    refine g_qload C.1 0 dX7_link_56 rfl ?_
    refine g_iload_n C.1 5 dX7_link_58 rfl rfl ?_
    obtain ⟨a19, ha19, hw⟩ := hw
    rw [ha19]
    obtain ⟨a20, ha20, hw⟩ := hw
    rw [ha20]
    refine c_callIv (vs := [.ref a19, .ref a20, .int v3]) C hsz (cC_X4_init (g_l X) G s17 _ _ _ _ _ hw) kC_48 kC_622 kC_623 kC_228 rfl hdC_X4_init ⟨(Nat.le_trans (Nat.le_of_ble_eq_true rfl) hR.1), (Nat.le_trans (Nat.le_of_ble_eq_true rfl) hR.2.1)⟩ ⟨Nat.le_trans hk18.1 hR.2.2.1, Nat.le_trans hk18.2 hR.2.2.2⟩ dX7_link_59 rfl (Nat.le_of_ble_eq_true rfl) (fun s21 hw => ?_)
    obtain ⟨m22, m23, gm22, gm23, hw⟩ := hw
    have hk25 : 0 + 1 + 1 + 1 + 1 + 1 + m22 ≤ mc ∧ 0 + 6 + 6 + 6 + 6 + 4 + m23 ≤ ms := ⟨gm22, gm23⟩
    refine c_callVi (vs := [.ref q16]) C hsz (cC_Jx4a65c_add_9ea2d m22 m23 (g_l X) G s21 _ _ _ hw.2) kC_13 kC_436 kC_159 kC_160 kC_161 hdC_Jx4a65c_add_9ea2d (c_recv0 C hw.1) ⟨(Nat.le_trans (Nat.le_of_ble_eq_true rfl) hR.1), (Nat.le_trans (Nat.le_of_ble_eq_true rfl) hR.2.1)⟩ ⟨Nat.le_trans hk25.1 hR.2.2.1, Nat.le_trans hk25.2 hR.2.2.2⟩ dX7_link_62 rfl (Nat.le_of_ble_eq_true rfl) (fun r26 s24 hw => ?_)
    refine g_pop C.1 dX7_link_65 rfl ?_
    refine g_aload_n C.1 2 dX7_link_66 rfl rfl ?_
    refine c_get7 C hw.1 4 (by decide) kC_398 (fun _ h => h) rfl dX7_link_67 ?_
    replace hw := hw.2
    obtain ⟨a27, ha27, hw⟩ := hw
    rw [ha27]
    refine c_callVi (vs := []) C hsz (cC_Jx4a65c_size_8abf5 (g_l X) G s24 _ _ hw.2) kC_13 kC_431 kC_11 kC_12 kC_14 hdC_Jx4a65c_size_8abf5 (c_recv0 C hw.1) ⟨(Nat.le_trans (Nat.le_of_ble_eq_true rfl) hR.1), (Nat.le_trans (Nat.le_of_ble_eq_true rfl) hR.2.1)⟩ ⟨Nat.le_trans hk25.1 hR.2.2.1, Nat.le_trans hk25.2 hR.2.2.2⟩ dX7_link_70 rfl (Nat.le_of_ble_eq_true rfl) (fun r29 s28 hw => ?_)
    refine gJ.widen hw.1 hw.2.1 ?_
    replace hw := hw.2.2
    exact hret _ _ _ _ hw rfl dX7_link_73
  · replace hw := hw.2 h7
    exact hthr 1 _ _ _ _ _ _ _ (by decide) hw.2.2 hw.1 hw.2.1 (Nat.le_of_ble_eq_true rfl) kC_418 kC_419 dX7_link_19 dX7_link_22 dX7_link_23 dX7_link_26
theorem hdC_X7_link : yX7_link.cls = RX7 ∧ yX7_link.cls ≠ "java/lang/invoke/MethodHandle" ∧ yX7_link.cls ≠ "java/lang/invoke/VarHandle" ∧ (parseMethodDescriptor yX7_link.desc).map (fun d => d.parameters.length) = some 3 := by decide +kernel
theorem cC_X7_link (mc ms : Nat) (l : Launch) (hfl : l.stackTraces = false) (G : cG) (s : CSt) (v0 : Nat) (v1 : Int32) (v2 : Int32) (v3 : Int32) (post : Int32 → CSt → Prop) (pX : String → CSt → Prop) (hm : 1 ≤ mc ∧ 6 ≤ ms) (hw : wpC_X7_link_0 mc ms post pX s v0 v1 v2 v3) : cTi l yX7_link cX7_link 6 .int 7 191 mc ms G s [.ref v0, .int v1, .int v2, .int v3] post pX := cTi_of hfl (by decide +kernel) rfl rfl (Nat.le_of_ble_eq_true rfl) ⟨hm.1, hm.2, by decide, by decide⟩ (fun X A H0 Q hl hR hsz C hret hout hthr => wkC_X7_link_0 C hsz hR (by rw [hl]; exact hfl) hout hthr hret s v0 v1 v2 v3 hw)
def wpC_X7_want_0 (post : CSt → Prop) (pX : String → CSt → Prop) (s : CSt) (v0 : Nat) (v1 : Int32) (v2 : Int32) : Prop := cAt s 7 v0 ∧ wpC_X7_cellAt_0 (fun r2 s1 => wpC_X7_checkNumber_0 (fun s3 => ∃ a4 : Nat, r2 = some a4 ∧ cAt s3 1 a4 ∧ ∀ s5 : CSt, s5 = csI s3 18 a4 v2 → post s5) pX s1 v2 0 1000000) pX s v0 v1
theorem wkC_X7_want_0 {X : gT} {G : cG} {A : Nat → Prop} {H0 : Heap} {Q : State → Prop} (C : cC X cX7_want 4 RX7 G A) (hsz : H0 = (g_s X).heap) (hR : 7 ≤ (g_R X).frames ∧ 111 ≤ (g_R X).locals ∧ 2 ≤ (g_R X).cells ∧ 12 ≤ (g_R X).slots) {pX : String → CSt → Prop} (hfl : (g_l X).stackTraces = false) (hout : ∀ (E : String) (τ : CSt) (lv : List (Nat × Value)) (pc k n : Nat) (rest : List Value), pX E τ → k ≤ 2 → n ≤ 12 → gX X (cWd G A H0) Q k n τ lv pc rest E) (hthr : ∀ (j : Nat) (τ : CSt) (lv : List (Nat × Value)) (pc k n ik : Nat) (rest : List Value), j < 5 → pX (cNm j) τ → k + 1 ≤ 2 → n + 6 ≤ 12 → (rest.map fun v => v.category).sum ≤ 8 → Cond.classLink RX7 ik (cNm j) ∈ wC → Cond.initialized (cNm j) ∈ wC → decode cX7_want pc = .ok (.new ik, 3) → decode cX7_want (pc + 3) = .ok (.dup, 1) → decode cX7_want (pc + 4) = .ok (.invokespecial (cNi j), 3) → decode cX7_want (pc + 7) = .ok (.athrow, 1) → gJ X (cWd G A H0) Q k n τ lv pc rest) {post : CSt → Prop} (hret : ∀ (τ : CSt) (lv : List (Nat × Value)) (pc : Nat), post τ → decode cX7_want pc = .ok (.return_, 1) → gJ X (cWd G A H0) Q 2 12 τ lv pc []) (s : CSt) (v0 : Nat) (v1 : Int32) (v2 : Int32) (hw : wpC_X7_want_0 post pX s v0 v1 v2) : gJ X (cWd G A H0) Q 0 0 s [(0, .ref v0), (1, .int v1), (2, .int v2)] 0 [] := by
  refine g_aload_n C.1 0 dX7_want_0 rfl rfl ?_
  refine g_iload_n C.1 1 dX7_want_1 rfl rfl ?_
  refine c_throwVq (vs := [.int v1]) C hsz (cC_X7_cellAt (g_l X) hfl G s _ _ _ _ hw.2) kC_412 kC_601 kC_602 kC_603 kC_596 hdC_X7_cellAt (c_recv7 C hw.1) ⟨(Nat.le_trans (Nat.le_of_ble_eq_true rfl) hR.1), (Nat.le_trans (Nat.le_of_ble_eq_true rfl) hR.2.1)⟩ ⟨(Nat.le_trans (Nat.le_of_ble_eq_true rfl) hR.2.2.1), (Nat.le_trans (Nat.le_of_ble_eq_true rfl) hR.2.2.2)⟩ dX7_want_2 rfl (Nat.le_of_ble_eq_true rfl) (fun E τ h => hout E τ _ _ _ _ _ h (Nat.le_of_ble_eq_true rfl) (Nat.le_of_ble_eq_true rfl)) (fun r2 s1 hw => ?_)
  refine g_qstore_n (lv' := [(3, va_rf r2), (0, .ref v0), (1, .int v1), (2, .int v2)]) C.1 dX7_want_5 rfl (by decide) rfl ?_
  refine g_iload_n C.1 3 dX7_want_6 rfl rfl ?_
  refine g_iconst (v := 0) C.1 dX7_want_7 (by decide) ?_
  refine g_ldcw (v := 1000000) C.1 C.2.1 (C.2.2.1 _ kC_606) dX7_want_8 ?_
  refine c_throwSv (vs := [.int v2, .int 0, .int 1000000]) C hsz (cC_X7_checkNumber (g_l X) hfl G s1 _ _ _ _ _ hw) kC_412 kC_429 kC_430 kC_420 hdC_X7_checkNumber ⟨(Nat.le_trans (Nat.le_of_ble_eq_true rfl) hR.1), (Nat.le_trans (Nat.le_of_ble_eq_true rfl) hR.2.1)⟩ ⟨(Nat.le_trans (Nat.le_of_ble_eq_true rfl) hR.2.2.1), (Nat.le_trans (Nat.le_of_ble_eq_true rfl) hR.2.2.2)⟩ dX7_want_11 rfl (Nat.le_of_ble_eq_true rfl) (fun E τ h => hout E τ _ _ _ _ _ h (Nat.le_of_ble_eq_true rfl) (Nat.le_of_ble_eq_true rfl)) (fun s3 hw => ?_)
  refine g_qload_n C.1 0 dX7_want_14 rfl rfl ?_
  refine g_iload_n C.1 3 dX7_want_15 rfl rfl ?_
  obtain ⟨a4, ha4, hw⟩ := hw
  rw [ha4]
  refine c_put1 C (τ := csI s3 18 a4 v2) hw.1 2 (by decide) kC_617 (fun _ h => h) rfl (ty := .int) (by decide +kernel) rfl rfl rfl hw.1.2 rfl (cx_1_2 _ _ _) (fun _ hb => csI_o hb) dX7_want_16 ?_
  replace hw := hw.2
  refine gJ.nm (fun s5 es5 => ?_)
  replace hw := hw s5 es5
  exact hret _ _ _ hw dX7_want_19
theorem hdC_X7_want : yX7_want.cls = RX7 ∧ yX7_want.cls ≠ "java/lang/invoke/MethodHandle" ∧ yX7_want.cls ≠ "java/lang/invoke/VarHandle" ∧ (parseMethodDescriptor yX7_want.desc).map (fun d => d.parameters.length) = some 2 := by decide +kernel
theorem cC_X7_want (l : Launch) (hfl : l.stackTraces = false) (G : cG) (s : CSt) (v0 : Nat) (v1 : Int32) (v2 : Int32) (post : CSt → Prop) (pX : String → CSt → Prop) (hw : wpC_X7_want_0 post pX s v0 v1 v2) : cTv l yX7_want cX7_want 4 7 111 2 12 G s [.ref v0, .int v1, .int v2] post pX := cTv_of hfl (by decide +kernel) rfl rfl (Nat.le_of_ble_eq_true rfl) ⟨by decide, by decide, by decide, by decide⟩ (fun X A H0 Q hl hR hsz C hret hout hthr => wkC_X7_want_0 C hsz hR (by rw [hl]; exact hfl) hout hthr hret s v0 v1 v2 hw)
def wpC_X7_least_0 (post : Int64 → CSt → Prop) (s : CSt) (v0 : Nat) : Prop := cAt s 7 v0 ∧ ∃ a1 : Nat, cR s 114 v0 = some a1 ∧ cAt s 7 v0 ∧ ∃ a2 : Nat, cR s 116 v0 = some a2 ∧ wpC_X0_leastSum_0 (fun r4 s3 => post r4 s3) s a1 a2
theorem wkC_X7_least_0 {X : gT} {G : cG} {A : Nat → Prop} {H0 : Heap} {Q : State → Prop} (C : cC X cX7_least 1 RX7 G A) (hsz : H0 = (g_s X).heap) (hR : 5 ≤ (g_R X).frames ∧ 112 ≤ (g_R X).locals ∧ 0 ≤ (g_R X).cells ∧ 0 ≤ (g_R X).slots) {post : Int64 → CSt → Prop} (hret : ∀ (r : Int64) (τ : CSt) (lv : List (Nat × Value)) (pc : Nat), post r τ → decode cX7_least pc = .ok (.lreturn, 1) → gJ X (cWd G A H0) Q 0 0 τ lv pc [.long r]) (s : CSt) (v0 : Nat) (hw : wpC_X7_least_0 post s v0) : gJ X (cWd G A H0) Q 0 0 s [(0, .ref v0)] 0 [] := by
  refine g_aload_n C.1 0 dX7_least_0 rfl rfl ?_
  refine c_get7 C hw.1 2 (by decide) kC_396 (fun _ h => h) rfl dX7_least_1 ?_
  replace hw := hw.2
  obtain ⟨a1, ha1, hw⟩ := hw
  rw [ha1]
  refine g_aload_n C.1 0 dX7_least_4 rfl rfl ?_
  refine c_get7 C hw.1 4 (by decide) kC_398 (fun _ h => h) rfl dX7_least_5 ?_
  replace hw := hw.2
  obtain ⟨a2, ha2, hw⟩ := hw
  rw [ha2]
  refine c_callSl (vs := [.ref a1, .ref a2]) C hsz (cC_X0_leastSum (g_l X) G s _ _ _ hw) kC_62 kC_626 kC_627 kC_91 hdC_X0_leastSum ⟨(Nat.le_trans (Nat.le_of_ble_eq_true rfl) hR.1), (Nat.le_trans (Nat.le_of_ble_eq_true rfl) hR.2.1)⟩ ⟨(Nat.le_trans (Nat.le_of_ble_eq_true rfl) hR.2.2.1), (Nat.le_trans (Nat.le_of_ble_eq_true rfl) hR.2.2.2)⟩ dX7_least_8 rfl (Nat.le_of_ble_eq_true rfl) (fun r4 s3 hw => ?_)
  exact hret _ _ _ _ hw dX7_least_11
theorem hdC_X7_least : yX7_least.cls = RX7 ∧ yX7_least.cls ≠ "java/lang/invoke/MethodHandle" ∧ yX7_least.cls ≠ "java/lang/invoke/VarHandle" ∧ (parseMethodDescriptor yX7_least.desc).map (fun d => d.parameters.length) = some 0 := by decide +kernel
theorem cC_X7_least (l : Launch) (G : cG) (s : CSt) (v0 : Nat) (post : Int64 → CSt → Prop) (hw : wpC_X7_least_0 post s v0) : cMl l yX7_least cX7_least 1 5 112 0 0 G s [.ref v0] post := cMl_of (by decide +kernel) rfl (Nat.le_of_ble_eq_true rfl) (fun X A H0 Q hl hR hsz hnm C hret => wkC_X7_least_0 C hsz hR hret s v0 hw)
def wpC_X7_price_0 (post : CSt → Prop) (pX : String → CSt → Prop) (s : CSt) (v0 : Nat) (v1 : Int32) (v2 : Int32) : Prop := cAt s 7 v0 ∧ wpC_X7_cellAt_0 (fun r2 s1 => wpC_X7_checkNumber_0 (fun s3 => ∃ a4 : Nat, r2 = some a4 ∧ cAt s3 1 a4 ∧ ∀ s5 : CSt, s5 = csI s3 19 a4 v2 → post s5) pX s1 v2 (-10000) 10000) pX s v0 v1
theorem wkC_X7_price_0 {X : gT} {G : cG} {A : Nat → Prop} {H0 : Heap} {Q : State → Prop} (C : cC X cX7_price 4 RX7 G A) (hsz : H0 = (g_s X).heap) (hR : 7 ≤ (g_R X).frames ∧ 111 ≤ (g_R X).locals ∧ 2 ≤ (g_R X).cells ∧ 12 ≤ (g_R X).slots) {pX : String → CSt → Prop} (hfl : (g_l X).stackTraces = false) (hout : ∀ (E : String) (τ : CSt) (lv : List (Nat × Value)) (pc k n : Nat) (rest : List Value), pX E τ → k ≤ 2 → n ≤ 12 → gX X (cWd G A H0) Q k n τ lv pc rest E) (hthr : ∀ (j : Nat) (τ : CSt) (lv : List (Nat × Value)) (pc k n ik : Nat) (rest : List Value), j < 5 → pX (cNm j) τ → k + 1 ≤ 2 → n + 6 ≤ 12 → (rest.map fun v => v.category).sum ≤ 8 → Cond.classLink RX7 ik (cNm j) ∈ wC → Cond.initialized (cNm j) ∈ wC → decode cX7_price pc = .ok (.new ik, 3) → decode cX7_price (pc + 3) = .ok (.dup, 1) → decode cX7_price (pc + 4) = .ok (.invokespecial (cNi j), 3) → decode cX7_price (pc + 7) = .ok (.athrow, 1) → gJ X (cWd G A H0) Q k n τ lv pc rest) {post : CSt → Prop} (hret : ∀ (τ : CSt) (lv : List (Nat × Value)) (pc : Nat), post τ → decode cX7_price pc = .ok (.return_, 1) → gJ X (cWd G A H0) Q 2 12 τ lv pc []) (s : CSt) (v0 : Nat) (v1 : Int32) (v2 : Int32) (hw : wpC_X7_price_0 post pX s v0 v1 v2) : gJ X (cWd G A H0) Q 0 0 s [(0, .ref v0), (1, .int v1), (2, .int v2)] 0 [] := by
  refine g_aload_n C.1 0 dX7_price_0 rfl rfl ?_
  refine g_iload_n C.1 1 dX7_price_1 rfl rfl ?_
  refine c_throwVq (vs := [.int v1]) C hsz (cC_X7_cellAt (g_l X) hfl G s _ _ _ _ hw.2) kC_412 kC_601 kC_602 kC_603 kC_596 hdC_X7_cellAt (c_recv7 C hw.1) ⟨(Nat.le_trans (Nat.le_of_ble_eq_true rfl) hR.1), (Nat.le_trans (Nat.le_of_ble_eq_true rfl) hR.2.1)⟩ ⟨(Nat.le_trans (Nat.le_of_ble_eq_true rfl) hR.2.2.1), (Nat.le_trans (Nat.le_of_ble_eq_true rfl) hR.2.2.2)⟩ dX7_price_2 rfl (Nat.le_of_ble_eq_true rfl) (fun E τ h => hout E τ _ _ _ _ _ h (Nat.le_of_ble_eq_true rfl) (Nat.le_of_ble_eq_true rfl)) (fun r2 s1 hw => ?_)
  refine g_qstore_n (lv' := [(3, va_rf r2), (0, .ref v0), (1, .int v1), (2, .int v2)]) C.1 dX7_price_5 rfl (by decide) rfl ?_
  refine g_iload_n C.1 3 dX7_price_6 rfl rfl ?_
  refine g_sipush (v := (-10000)) C.1 dX7_price_7 (by decide) ?_
  refine g_sipush (v := 10000) C.1 dX7_price_10 (by decide) ?_
  refine c_throwSv (vs := [.int v2, .int (-10000), .int 10000]) C hsz (cC_X7_checkNumber (g_l X) hfl G s1 _ _ _ _ _ hw) kC_412 kC_429 kC_430 kC_420 hdC_X7_checkNumber ⟨(Nat.le_trans (Nat.le_of_ble_eq_true rfl) hR.1), (Nat.le_trans (Nat.le_of_ble_eq_true rfl) hR.2.1)⟩ ⟨(Nat.le_trans (Nat.le_of_ble_eq_true rfl) hR.2.2.1), (Nat.le_trans (Nat.le_of_ble_eq_true rfl) hR.2.2.2)⟩ dX7_price_13 rfl (Nat.le_of_ble_eq_true rfl) (fun E τ h => hout E τ _ _ _ _ _ h (Nat.le_of_ble_eq_true rfl) (Nat.le_of_ble_eq_true rfl)) (fun s3 hw => ?_)
  refine g_qload_n C.1 0 dX7_price_16 rfl rfl ?_
  refine g_iload_n C.1 3 dX7_price_17 rfl rfl ?_
  obtain ⟨a4, ha4, hw⟩ := hw
  rw [ha4]
  refine c_put1 C (τ := csI s3 19 a4 v2) hw.1 3 (by decide) kC_618 (fun _ h => h) rfl (ty := .int) (by decide +kernel) rfl rfl rfl hw.1.2 rfl (cx_1_3 _ _ _) (fun _ hb => csI_o hb) dX7_price_18 ?_
  replace hw := hw.2
  refine gJ.nm (fun s5 es5 => ?_)
  replace hw := hw s5 es5
  exact hret _ _ _ hw dX7_price_21
theorem hdC_X7_price : yX7_price.cls = RX7 ∧ yX7_price.cls ≠ "java/lang/invoke/MethodHandle" ∧ yX7_price.cls ≠ "java/lang/invoke/VarHandle" ∧ (parseMethodDescriptor yX7_price.desc).map (fun d => d.parameters.length) = some 2 := by decide +kernel
theorem cC_X7_price (l : Launch) (hfl : l.stackTraces = false) (G : cG) (s : CSt) (v0 : Nat) (v1 : Int32) (v2 : Int32) (post : CSt → Prop) (pX : String → CSt → Prop) (hw : wpC_X7_price_0 post pX s v0 v1 v2) : cTv l yX7_price cX7_price 4 7 111 2 12 G s [.ref v0, .int v1, .int v2] post pX := cTv_of hfl (by decide +kernel) rfl rfl (Nat.le_of_ble_eq_true rfl) ⟨by decide, by decide, by decide, by decide⟩ (fun X A H0 Q hl hR hsz C hret hout hthr => wkC_X7_price_0 C hsz hR (by rw [hl]; exact hfl) hout hthr hret s v0 v1 v2 hw)
def wpC_X7_judge_48_F (post : Int64 → CSt → Prop) (pX : String → CSt → Prop) (K48 : CSt → Nat → Int64 → Int32 → Prop) (s : CSt) (v0 : Nat) (v1 : Int64) (v3 : Int32) : Prop := cAt s 7 v0 ∧ ∃ a1 : Nat, cR s 114 v0 = some a1 ∧ cAt s 0 a1 ∧ wpC_Jx4a65c_size_8abf5_0 (fun r3 s2 => (r3 ≤ v3 → post v1 s2) ∧ (¬ r3 ≤ v3 → cAt s2 7 v0 ∧ ∃ a5 : Nat, cR s2 114 v0 = some a5 ∧ cAt s2 0 a5 ∧ wpC_Jx4a65c_get_915e3_0 (fun r7 s6 => ∃ a8 : Nat, r7 = some a8 ∧ cAt s6 1 a8 ∧ cAt s6 1 a8 ∧ wpC_X1_priceTells_0 (fun r10 s9 => K48 s9 v0 (v1 + r10) (v3 + 1)) s6 a8) s2 a5 v3)) s a1
def wpC_X7_judge_48 (post : Int64 → CSt → Prop) (pX : String → CSt → Prop) (s : CSt) (v0 : Nat) (v1 : Int64) (v3 : Int32) : Prop := gLP (fun (K : CSt × Nat × Int64 × Int32 → Prop) (x : CSt × Nat × Int64 × Int32) => wpC_X7_judge_48_F post pX (fun s v0 v1 v3 => K (s, v0, v1, v3)) x.1 x.2.1 x.2.2.1 x.2.2.2) (s, v0, v1, v3)
def wpC_X7_judge_2_F (post : Int64 → CSt → Prop) (pX : String → CSt → Prop) (K2 : CSt → Nat → Int32 → Prop) (s : CSt) (v0 : Nat) (v1 : Int32) : Prop := cAt s 7 v0 ∧ ∃ a11 : Nat, cR s 116 v0 = some a11 ∧ cAt s 0 a11 ∧ wpC_Jx4a65c_size_8abf5_0 (fun r13 s12 => (r13 ≤ v1 → wpC_X7_judge_48 post pX s12 v0 0 0) ∧ (¬ r13 ≤ v1 → cAt s12 7 v0 ∧ ∃ a15 : Nat, cR s12 116 v0 = some a15 ∧ cAt s12 0 a15 ∧ wpC_Jx4a65c_get_915e3_0 (fun r17 s16 => ∃ a18 : Nat, r17 = some a18 ∧ cAt s16 4 a18 ∧ cAt s16 4 a18 ∧ wpC_X4_takesPrices_0 (fun r20 s19 => (¬ r20 = 0 → K2 s19 v0 (v1 + 1)) ∧ (r20 = 0 → pX "java/lang/IllegalStateException" s19)) s16 a18) s12 a15 v1)) s a11
def wpC_X7_judge_2 (post : Int64 → CSt → Prop) (pX : String → CSt → Prop) (s : CSt) (v0 : Nat) (v1 : Int32) : Prop := gLP (fun (K : CSt × Nat × Int32 → Prop) (x : CSt × Nat × Int32) => wpC_X7_judge_2_F post pX (fun s v0 v1 => K (s, v0, v1)) x.1 x.2.1 x.2.2) (s, v0, v1)
def wpC_X7_judge_0 (post : Int64 → CSt → Prop) (pX : String → CSt → Prop) (s : CSt) (v0 : Nat) : Prop := wpC_X7_judge_2 post pX s v0 0
theorem wkC_X7_judge_48_F {X : gT} {G : cG} {A : Nat → Prop} {H0 : Heap} {Q : State → Prop} (C : cC X cX7_judge 4 RX7 G A) (hsz : H0 = (g_s X).heap) (hR : 6 ≤ (g_R X).frames ∧ 89 ≤ (g_R X).locals ∧ 1 ≤ (g_R X).cells ∧ 6 ≤ (g_R X).slots) {pX : String → CSt → Prop} (hfl : (g_l X).stackTraces = false) (hout : ∀ (E : String) (τ : CSt) (lv : List (Nat × Value)) (pc k n : Nat) (rest : List Value), pX E τ → k ≤ 1 → n ≤ 6 → gX X (cWd G A H0) Q k n τ lv pc rest E) (hthr : ∀ (j : Nat) (τ : CSt) (lv : List (Nat × Value)) (pc k n ik : Nat) (rest : List Value), j < 5 → pX (cNm j) τ → k + 1 ≤ 1 → n + 6 ≤ 6 → (rest.map fun v => v.category).sum ≤ 8 → Cond.classLink RX7 ik (cNm j) ∈ wC → Cond.initialized (cNm j) ∈ wC → decode cX7_judge pc = .ok (.new ik, 3) → decode cX7_judge (pc + 3) = .ok (.dup, 1) → decode cX7_judge (pc + 4) = .ok (.invokespecial (cNi j), 3) → decode cX7_judge (pc + 7) = .ok (.athrow, 1) → gJ X (cWd G A H0) Q k n τ lv pc rest) {post : Int64 → CSt → Prop} (hret : ∀ (r : Int64) (τ : CSt) (lv : List (Nat × Value)) (pc : Nat), post r τ → decode cX7_judge pc = .ok (.lreturn, 1) → gJ X (cWd G A H0) Q 1 6 τ lv pc [.long r]) {K48 : CSt → Nat → Int64 → Int32 → Prop} (hK48 : ∀ (s : CSt) (v0 : Nat) (v1 : Int64) (v3 : Int32), K48 s v0 v1 v3 → gJ X (cWd G A H0) Q 0 0 s [(0, .ref v0), (1, .long v1), (3, .int v3)] 48 []) (s : CSt) (v0 : Nat) (v1 : Int64) (v3 : Int32) (hw : wpC_X7_judge_48_F post pX K48 s v0 v1 v3) : gJ X (cWd G A H0) Q 0 0 s [(0, .ref v0), (1, .long v1), (3, .int v3)] 48 [] := by
  refine g_iload_n C.1 2 dX7_judge_48 rfl rfl ?_
  refine g_aload_n C.1 0 dX7_judge_49 rfl rfl ?_
  refine c_get7 C hw.1 2 (by decide) kC_396 (fun _ h => h) rfl dX7_judge_50 ?_
  replace hw := hw.2
  obtain ⟨a1, ha1, hw⟩ := hw
  rw [ha1]
  refine c_callVi (vs := []) C hsz (cC_Jx4a65c_size_8abf5 (g_l X) G s _ _ hw.2) kC_13 kC_431 kC_11 kC_12 kC_14 hdC_Jx4a65c_size_8abf5 (c_recv0 C hw.1) ⟨(Nat.le_trans (Nat.le_of_ble_eq_true rfl) hR.1), (Nat.le_trans (Nat.le_of_ble_eq_true rfl) hR.2.1)⟩ ⟨(Nat.le_trans (Nat.le_of_ble_eq_true rfl) hR.2.2.1), (Nat.le_trans (Nat.le_of_ble_eq_true rfl) hR.2.2.2)⟩ dX7_judge_53 rfl (Nat.le_of_ble_eq_true rfl) (fun r3 s2 hw => ?_)
  refine g_icmp_ge (tgt := 82) C.1 dX7_judge_56 (by decide) (fun h4 => ?_) (fun h4 => ?_)
  · replace hw := hw.1 h4
    refine g_lload_n C.1 1 dX7_judge_82 rfl rfl ?_
    refine gJ.widen (k' := 1) (n' := 6) (Nat.le_of_ble_eq_true rfl) (Nat.le_of_ble_eq_true rfl) ?_
    exact hret _ _ _ _ hw dX7_judge_83
  · replace hw := hw.2 h4
    refine g_lload_n C.1 1 dX7_judge_59 rfl rfl ?_
    refine g_aload_n C.1 0 dX7_judge_60 rfl rfl ?_
    refine c_get7 C hw.1 2 (by decide) kC_396 (fun _ h => h) rfl dX7_judge_61 ?_
    replace hw := hw.2
    obtain ⟨a5, ha5, hw⟩ := hw
    rw [ha5]
    refine g_iload_n C.1 2 dX7_judge_64 rfl rfl ?_
    refine c_callVq (vs := [.int v3]) C hsz (cC_Jx4a65c_get_915e3 (g_l X) G s2 _ _ _ hw.2) kC_13 kC_455 kC_17 kC_18 kC_19 hdC_Jx4a65c_get_915e3 (c_recv0 C hw.1) ⟨(Nat.le_trans (Nat.le_of_ble_eq_true rfl) hR.1), (Nat.le_trans (Nat.le_of_ble_eq_true rfl) hR.2.1)⟩ ⟨(Nat.le_trans (Nat.le_of_ble_eq_true rfl) hR.2.2.1), (Nat.le_trans (Nat.le_of_ble_eq_true rfl) hR.2.2.2)⟩ dX7_judge_65 rfl (Nat.le_of_ble_eq_true rfl) (fun r7 s6 hw => ?_)
    obtain ⟨a8, ha8, hw⟩ := hw
    rw [ha8]
    refine c_cast1 C hw.1 kC_595 dX7_judge_68 ?_
    replace hw := hw.2
    refine c_callVl (vs := []) C hsz (cC_X1_priceTells (g_l X) G s6 _ _ hw.2) kC_36 kC_634 kC_635 kC_636 kC_109 hdC_X1_priceTells (c_recv1 C hw.1) ⟨(Nat.le_trans (Nat.le_of_ble_eq_true rfl) hR.1), (Nat.le_trans (Nat.le_of_ble_eq_true rfl) hR.2.1)⟩ ⟨(Nat.le_trans (Nat.le_of_ble_eq_true rfl) hR.2.2.1), (Nat.le_trans (Nat.le_of_ble_eq_true rfl) hR.2.2.2)⟩ dX7_judge_71 rfl (Nat.le_of_ble_eq_true rfl) (fun r10 s9 hw => ?_)
    refine g_ladd C.1 dX7_judge_74 ?_
    refine g_lstore_n (lv' := [(1, .long (v1 + r10)), (0, .ref v0), (3, .int v3)]) C.1 dX7_judge_75 rfl (by decide) rfl ?_
    refine g_iinc (v := v3 + 1) (lv' := [(3, .int (v3 + 1)), (1, .long (v1 + r10)), (0, .ref v0)]) C.1 2 dX7_judge_76 rfl rfl (by decide) rfl ?_
    refine g_goto (tgt := 48) C.1 dX7_judge_79 (by decide) ?_
    refine gJ.sub [2, 1, 0] rfl ?_
    exact hK48 _ _ _ _ hw
theorem wkC_X7_judge_48 {X : gT} {G : cG} {A : Nat → Prop} {H0 : Heap} {Q : State → Prop} (C : cC X cX7_judge 4 RX7 G A) (hsz : H0 = (g_s X).heap) (hR : 6 ≤ (g_R X).frames ∧ 89 ≤ (g_R X).locals ∧ 1 ≤ (g_R X).cells ∧ 6 ≤ (g_R X).slots) {pX : String → CSt → Prop} (hfl : (g_l X).stackTraces = false) (hout : ∀ (E : String) (τ : CSt) (lv : List (Nat × Value)) (pc k n : Nat) (rest : List Value), pX E τ → k ≤ 1 → n ≤ 6 → gX X (cWd G A H0) Q k n τ lv pc rest E) (hthr : ∀ (j : Nat) (τ : CSt) (lv : List (Nat × Value)) (pc k n ik : Nat) (rest : List Value), j < 5 → pX (cNm j) τ → k + 1 ≤ 1 → n + 6 ≤ 6 → (rest.map fun v => v.category).sum ≤ 8 → Cond.classLink RX7 ik (cNm j) ∈ wC → Cond.initialized (cNm j) ∈ wC → decode cX7_judge pc = .ok (.new ik, 3) → decode cX7_judge (pc + 3) = .ok (.dup, 1) → decode cX7_judge (pc + 4) = .ok (.invokespecial (cNi j), 3) → decode cX7_judge (pc + 7) = .ok (.athrow, 1) → gJ X (cWd G A H0) Q k n τ lv pc rest) {post : Int64 → CSt → Prop} (hret : ∀ (r : Int64) (τ : CSt) (lv : List (Nat × Value)) (pc : Nat), post r τ → decode cX7_judge pc = .ok (.lreturn, 1) → gJ X (cWd G A H0) Q 1 6 τ lv pc [.long r]) (s : CSt) (v0 : Nat) (v1 : Int64) (v3 : Int32) (hw : wpC_X7_judge_48 post pX s v0 v1 v3) : gJ X (cWd G A H0) Q 0 0 s [(0, .ref v0), (1, .long v1), (3, .int v3)] 48 [] := 
  hw (fun (x : CSt × Nat × Int64 × Int32) => (fun s v0 v1 v3 => gJ X (cWd G A H0) Q 0 0 s [(0, .ref v0), (1, .long v1), (3, .int v3)] 48 []) x.1 x.2.1 x.2.2.1 x.2.2.2) (fun x hx => wkC_X7_judge_48_F C hsz hR hfl hout hthr hret (K48 := (fun s v0 v1 v3 => gJ X (cWd G A H0) Q 0 0 s [(0, .ref v0), (1, .long v1), (3, .int v3)] 48 [])) (fun _ _ _ _ h => h) x.1 x.2.1 x.2.2.1 x.2.2.2 hx)
theorem wkC_X7_judge_2_F {X : gT} {G : cG} {A : Nat → Prop} {H0 : Heap} {Q : State → Prop} (C : cC X cX7_judge 4 RX7 G A) (hsz : H0 = (g_s X).heap) (hR : 6 ≤ (g_R X).frames ∧ 89 ≤ (g_R X).locals ∧ 1 ≤ (g_R X).cells ∧ 6 ≤ (g_R X).slots) {pX : String → CSt → Prop} (hfl : (g_l X).stackTraces = false) (hout : ∀ (E : String) (τ : CSt) (lv : List (Nat × Value)) (pc k n : Nat) (rest : List Value), pX E τ → k ≤ 1 → n ≤ 6 → gX X (cWd G A H0) Q k n τ lv pc rest E) (hthr : ∀ (j : Nat) (τ : CSt) (lv : List (Nat × Value)) (pc k n ik : Nat) (rest : List Value), j < 5 → pX (cNm j) τ → k + 1 ≤ 1 → n + 6 ≤ 6 → (rest.map fun v => v.category).sum ≤ 8 → Cond.classLink RX7 ik (cNm j) ∈ wC → Cond.initialized (cNm j) ∈ wC → decode cX7_judge pc = .ok (.new ik, 3) → decode cX7_judge (pc + 3) = .ok (.dup, 1) → decode cX7_judge (pc + 4) = .ok (.invokespecial (cNi j), 3) → decode cX7_judge (pc + 7) = .ok (.athrow, 1) → gJ X (cWd G A H0) Q k n τ lv pc rest) {post : Int64 → CSt → Prop} (hret : ∀ (r : Int64) (τ : CSt) (lv : List (Nat × Value)) (pc : Nat), post r τ → decode cX7_judge pc = .ok (.lreturn, 1) → gJ X (cWd G A H0) Q 1 6 τ lv pc [.long r]) {K2 : CSt → Nat → Int32 → Prop} (hK2 : ∀ (s : CSt) (v0 : Nat) (v1 : Int32), K2 s v0 v1 → gJ X (cWd G A H0) Q 0 0 s [(0, .ref v0), (1, .int v1)] 2 []) (s : CSt) (v0 : Nat) (v1 : Int32) (hw : wpC_X7_judge_2_F post pX K2 s v0 v1) : gJ X (cWd G A H0) Q 0 0 s [(0, .ref v0), (1, .int v1)] 2 [] := by
  refine g_iload_n C.1 1 dX7_judge_2 rfl rfl ?_
  refine g_aload_n C.1 0 dX7_judge_3 rfl rfl ?_
  refine c_get7 C hw.1 4 (by decide) kC_398 (fun _ h => h) rfl dX7_judge_4 ?_
  replace hw := hw.2
  obtain ⟨a11, ha11, hw⟩ := hw
  rw [ha11]
  refine c_callVi (vs := []) C hsz (cC_Jx4a65c_size_8abf5 (g_l X) G s _ _ hw.2) kC_13 kC_431 kC_11 kC_12 kC_14 hdC_Jx4a65c_size_8abf5 (c_recv0 C hw.1) ⟨(Nat.le_trans (Nat.le_of_ble_eq_true rfl) hR.1), (Nat.le_trans (Nat.le_of_ble_eq_true rfl) hR.2.1)⟩ ⟨(Nat.le_trans (Nat.le_of_ble_eq_true rfl) hR.2.2.1), (Nat.le_trans (Nat.le_of_ble_eq_true rfl) hR.2.2.2)⟩ dX7_judge_7 rfl (Nat.le_of_ble_eq_true rfl) (fun r13 s12 hw => ?_)
  refine g_icmp_ge (tgt := 44) C.1 dX7_judge_10 (by decide) (fun h14 => ?_) (fun h14 => ?_)
  · replace hw := hw.1 h14
    refine g_lconst (v := 0) C.1 dX7_judge_44 (by decide) ?_
    refine g_lstore_n (lv' := [(1, .long 0), (0, .ref v0)]) C.1 dX7_judge_45 rfl (by decide) rfl ?_
    refine g_iconst (v := 0) C.1 dX7_judge_46 (by decide) ?_
    refine g_istore_n (lv' := [(3, .int 0), (1, .long 0), (0, .ref v0)]) C.1 dX7_judge_47 rfl (by decide) rfl ?_
    refine gJ.sub [2, 1, 0] rfl ?_
    exact wkC_X7_judge_48 C hsz hR hfl hout hthr hret _ _ _ _ hw
  · replace hw := hw.2 h14
    refine g_aload_n C.1 0 dX7_judge_13 rfl rfl ?_
    refine c_get7 C hw.1 4 (by decide) kC_398 (fun _ h => h) rfl dX7_judge_14 ?_
    replace hw := hw.2
    obtain ⟨a15, ha15, hw⟩ := hw
    rw [ha15]
    refine g_iload_n C.1 1 dX7_judge_17 rfl rfl ?_
    refine c_callVq (vs := [.int v1]) C hsz (cC_Jx4a65c_get_915e3 (g_l X) G s12 _ _ _ hw.2) kC_13 kC_455 kC_17 kC_18 kC_19 hdC_Jx4a65c_get_915e3 (c_recv0 C hw.1) ⟨(Nat.le_trans (Nat.le_of_ble_eq_true rfl) hR.1), (Nat.le_trans (Nat.le_of_ble_eq_true rfl) hR.2.1)⟩ ⟨(Nat.le_trans (Nat.le_of_ble_eq_true rfl) hR.2.2.1), (Nat.le_trans (Nat.le_of_ble_eq_true rfl) hR.2.2.2)⟩ dX7_judge_18 rfl (Nat.le_of_ble_eq_true rfl) (fun r17 s16 hw => ?_)
    obtain ⟨a18, ha18, hw⟩ := hw
    rw [ha18]
    refine c_cast4 C hw.1 kC_630 dX7_judge_21 ?_
    replace hw := hw.2
    refine c_callVi (vs := []) C hsz (cC_X4_takesPrices (g_l X) G s16 _ _ hw.2) kC_48 kC_631 kC_632 kC_633 kC_231 hdC_X4_takesPrices (c_recv4 C hw.1) ⟨(Nat.le_trans (Nat.le_of_ble_eq_true rfl) hR.1), (Nat.le_trans (Nat.le_of_ble_eq_true rfl) hR.2.1)⟩ ⟨(Nat.le_trans (Nat.le_of_ble_eq_true rfl) hR.2.2.1), (Nat.le_trans (Nat.le_of_ble_eq_true rfl) hR.2.2.2)⟩ dX7_judge_24 rfl (Nat.le_of_ble_eq_true rfl) (fun r20 s19 hw => ?_)
    refine g_if_ne (tgt := 38) C.1 dX7_judge_27 (by decide) (fun h21 => ?_) (fun h21 => ?_)
    · replace hw := hw.1 h21
      refine g_iinc (v := v1 + 1) (lv' := [(1, .int (v1 + 1)), (0, .ref v0)]) C.1 1 dX7_judge_38 rfl rfl (by decide) rfl ?_
      refine g_goto (tgt := 2) C.1 dX7_judge_41 (by decide) ?_
      refine gJ.sub [1, 0] rfl ?_
      exact hK2 _ _ _ hw
    · replace hw := hw.2 h21
      exact hthr 3 _ _ _ _ _ _ _ (by decide) hw (Nat.le_of_ble_eq_true rfl) (Nat.le_of_ble_eq_true rfl) (Nat.le_of_ble_eq_true rfl) kC_478 kC_479 dX7_judge_30 dX7_judge_33 dX7_judge_34 dX7_judge_37
theorem wkC_X7_judge_2 {X : gT} {G : cG} {A : Nat → Prop} {H0 : Heap} {Q : State → Prop} (C : cC X cX7_judge 4 RX7 G A) (hsz : H0 = (g_s X).heap) (hR : 6 ≤ (g_R X).frames ∧ 89 ≤ (g_R X).locals ∧ 1 ≤ (g_R X).cells ∧ 6 ≤ (g_R X).slots) {pX : String → CSt → Prop} (hfl : (g_l X).stackTraces = false) (hout : ∀ (E : String) (τ : CSt) (lv : List (Nat × Value)) (pc k n : Nat) (rest : List Value), pX E τ → k ≤ 1 → n ≤ 6 → gX X (cWd G A H0) Q k n τ lv pc rest E) (hthr : ∀ (j : Nat) (τ : CSt) (lv : List (Nat × Value)) (pc k n ik : Nat) (rest : List Value), j < 5 → pX (cNm j) τ → k + 1 ≤ 1 → n + 6 ≤ 6 → (rest.map fun v => v.category).sum ≤ 8 → Cond.classLink RX7 ik (cNm j) ∈ wC → Cond.initialized (cNm j) ∈ wC → decode cX7_judge pc = .ok (.new ik, 3) → decode cX7_judge (pc + 3) = .ok (.dup, 1) → decode cX7_judge (pc + 4) = .ok (.invokespecial (cNi j), 3) → decode cX7_judge (pc + 7) = .ok (.athrow, 1) → gJ X (cWd G A H0) Q k n τ lv pc rest) {post : Int64 → CSt → Prop} (hret : ∀ (r : Int64) (τ : CSt) (lv : List (Nat × Value)) (pc : Nat), post r τ → decode cX7_judge pc = .ok (.lreturn, 1) → gJ X (cWd G A H0) Q 1 6 τ lv pc [.long r]) (s : CSt) (v0 : Nat) (v1 : Int32) (hw : wpC_X7_judge_2 post pX s v0 v1) : gJ X (cWd G A H0) Q 0 0 s [(0, .ref v0), (1, .int v1)] 2 [] := 
  hw (fun (x : CSt × Nat × Int32) => (fun s v0 v1 => gJ X (cWd G A H0) Q 0 0 s [(0, .ref v0), (1, .int v1)] 2 []) x.1 x.2.1 x.2.2) (fun x hx => wkC_X7_judge_2_F C hsz hR hfl hout hthr hret (K2 := (fun s v0 v1 => gJ X (cWd G A H0) Q 0 0 s [(0, .ref v0), (1, .int v1)] 2 [])) (fun _ _ _ h => h) x.1 x.2.1 x.2.2 hx)
theorem wkC_X7_judge_0 {X : gT} {G : cG} {A : Nat → Prop} {H0 : Heap} {Q : State → Prop} (C : cC X cX7_judge 4 RX7 G A) (hsz : H0 = (g_s X).heap) (hR : 6 ≤ (g_R X).frames ∧ 89 ≤ (g_R X).locals ∧ 1 ≤ (g_R X).cells ∧ 6 ≤ (g_R X).slots) {pX : String → CSt → Prop} (hfl : (g_l X).stackTraces = false) (hout : ∀ (E : String) (τ : CSt) (lv : List (Nat × Value)) (pc k n : Nat) (rest : List Value), pX E τ → k ≤ 1 → n ≤ 6 → gX X (cWd G A H0) Q k n τ lv pc rest E) (hthr : ∀ (j : Nat) (τ : CSt) (lv : List (Nat × Value)) (pc k n ik : Nat) (rest : List Value), j < 5 → pX (cNm j) τ → k + 1 ≤ 1 → n + 6 ≤ 6 → (rest.map fun v => v.category).sum ≤ 8 → Cond.classLink RX7 ik (cNm j) ∈ wC → Cond.initialized (cNm j) ∈ wC → decode cX7_judge pc = .ok (.new ik, 3) → decode cX7_judge (pc + 3) = .ok (.dup, 1) → decode cX7_judge (pc + 4) = .ok (.invokespecial (cNi j), 3) → decode cX7_judge (pc + 7) = .ok (.athrow, 1) → gJ X (cWd G A H0) Q k n τ lv pc rest) {post : Int64 → CSt → Prop} (hret : ∀ (r : Int64) (τ : CSt) (lv : List (Nat × Value)) (pc : Nat), post r τ → decode cX7_judge pc = .ok (.lreturn, 1) → gJ X (cWd G A H0) Q 1 6 τ lv pc [.long r]) (s : CSt) (v0 : Nat) (hw : wpC_X7_judge_0 post pX s v0) : gJ X (cWd G A H0) Q 0 0 s [(0, .ref v0)] 0 [] := by
  refine g_iconst (v := 0) C.1 dX7_judge_0 (by decide) ?_
  refine g_istore_n (lv' := [(1, .int 0), (0, .ref v0)]) C.1 dX7_judge_1 rfl (by decide) rfl ?_
  refine gJ.sub [1, 0] rfl ?_
  exact wkC_X7_judge_2 C hsz hR hfl hout hthr hret _ _ _ hw
theorem hdC_X7_judge : yX7_judge.cls = RX7 ∧ yX7_judge.cls ≠ "java/lang/invoke/MethodHandle" ∧ yX7_judge.cls ≠ "java/lang/invoke/VarHandle" ∧ (parseMethodDescriptor yX7_judge.desc).map (fun d => d.parameters.length) = some 0 := by decide +kernel
theorem cC_X7_judge (l : Launch) (hfl : l.stackTraces = false) (G : cG) (s : CSt) (v0 : Nat) (post : Int64 → CSt → Prop) (pX : String → CSt → Prop) (hw : wpC_X7_judge_0 post pX s v0) : cTl l yX7_judge cX7_judge 4 6 89 1 6 G s [.ref v0] post pX := cTl_of hfl (by decide +kernel) rfl rfl (Nat.le_of_ble_eq_true rfl) ⟨by decide, by decide, by decide, by decide⟩ (fun X A H0 Q hl hR hsz C hret hout hthr => wkC_X7_judge_0 C hsz hR (by rw [hl]; exact hfl) hout hthr hret s v0 hw)
def wpC_X7_snowThere_4_F (post : Int64 → CSt → Prop) (K4 : CSt → Nat → Int64 → Int32 → Prop) (s : CSt) (v0 : Nat) (v1 : Int64) (v3 : Int32) : Prop := cAt s 7 v0 ∧ ∃ a1 : Nat, cR s 114 v0 = some a1 ∧ cAt s 0 a1 ∧ wpC_Jx4a65c_size_8abf5_0 (fun r3 s2 => (r3 ≤ v3 → post v1 s2) ∧ (¬ r3 ≤ v3 → cAt s2 7 v0 ∧ ∃ a5 : Nat, cR s2 114 v0 = some a5 ∧ cAt s2 0 a5 ∧ wpC_Jx4a65c_get_915e3_0 (fun r7 s6 => ∃ a8 : Nat, r7 = some a8 ∧ cAt s6 1 a8 ∧ cAt s6 1 a8 ∧ wpC_X1_depth_0 (fun r10 s9 => K4 s9 v0 (v1 + r10.toInt64) (v3 + 1)) s6 a8) s2 a5 v3)) s a1
def wpC_X7_snowThere_4 (post : Int64 → CSt → Prop) (s : CSt) (v0 : Nat) (v1 : Int64) (v3 : Int32) : Prop := gLP (fun (K : CSt × Nat × Int64 × Int32 → Prop) (x : CSt × Nat × Int64 × Int32) => wpC_X7_snowThere_4_F post (fun s v0 v1 v3 => K (s, v0, v1, v3)) x.1 x.2.1 x.2.2.1 x.2.2.2) (s, v0, v1, v3)
def wpC_X7_snowThere_0 (post : Int64 → CSt → Prop) (s : CSt) (v0 : Nat) : Prop := wpC_X7_snowThere_4 post s v0 0 0
theorem wkC_X7_snowThere_4_F {X : gT} {G : cG} {A : Nat → Prop} {H0 : Heap} {Q : State → Prop} (C : cC X cX7_snowThere 4 RX7 G A) (hsz : H0 = (g_s X).heap) (hR : 3 ≤ (g_R X).frames ∧ 64 ≤ (g_R X).locals ∧ 0 ≤ (g_R X).cells ∧ 0 ≤ (g_R X).slots) {post : Int64 → CSt → Prop} (hret : ∀ (r : Int64) (τ : CSt) (lv : List (Nat × Value)) (pc : Nat), post r τ → decode cX7_snowThere pc = .ok (.lreturn, 1) → gJ X (cWd G A H0) Q 0 0 τ lv pc [.long r]) {K4 : CSt → Nat → Int64 → Int32 → Prop} (hK4 : ∀ (s : CSt) (v0 : Nat) (v1 : Int64) (v3 : Int32), K4 s v0 v1 v3 → gJ X (cWd G A H0) Q 0 0 s [(0, .ref v0), (1, .long v1), (3, .int v3)] 4 []) (s : CSt) (v0 : Nat) (v1 : Int64) (v3 : Int32) (hw : wpC_X7_snowThere_4_F post K4 s v0 v1 v3) : gJ X (cWd G A H0) Q 0 0 s [(0, .ref v0), (1, .long v1), (3, .int v3)] 4 [] := by
  refine g_iload_n C.1 2 dX7_snowThere_4 rfl rfl ?_
  refine g_aload_n C.1 0 dX7_snowThere_5 rfl rfl ?_
  refine c_get7 C hw.1 2 (by decide) kC_396 (fun _ h => h) rfl dX7_snowThere_6 ?_
  replace hw := hw.2
  obtain ⟨a1, ha1, hw⟩ := hw
  rw [ha1]
  refine c_callVi (vs := []) C hsz (cC_Jx4a65c_size_8abf5 (g_l X) G s _ _ hw.2) kC_13 kC_431 kC_11 kC_12 kC_14 hdC_Jx4a65c_size_8abf5 (c_recv0 C hw.1) ⟨(Nat.le_trans (Nat.le_of_ble_eq_true rfl) hR.1), (Nat.le_trans (Nat.le_of_ble_eq_true rfl) hR.2.1)⟩ ⟨(Nat.le_trans (Nat.le_of_ble_eq_true rfl) hR.2.2.1), (Nat.le_trans (Nat.le_of_ble_eq_true rfl) hR.2.2.2)⟩ dX7_snowThere_9 rfl (Nat.le_of_ble_eq_true rfl) (fun r3 s2 hw => ?_)
  refine g_icmp_ge (tgt := 39) C.1 dX7_snowThere_12 (by decide) (fun h4 => ?_) (fun h4 => ?_)
  · replace hw := hw.1 h4
    refine g_lload_n C.1 1 dX7_snowThere_39 rfl rfl ?_
    exact hret _ _ _ _ hw dX7_snowThere_40
  · replace hw := hw.2 h4
    refine g_lload_n C.1 1 dX7_snowThere_15 rfl rfl ?_
    refine g_aload_n C.1 0 dX7_snowThere_16 rfl rfl ?_
    refine c_get7 C hw.1 2 (by decide) kC_396 (fun _ h => h) rfl dX7_snowThere_17 ?_
    replace hw := hw.2
    obtain ⟨a5, ha5, hw⟩ := hw
    rw [ha5]
    refine g_iload_n C.1 2 dX7_snowThere_20 rfl rfl ?_
    refine c_callVq (vs := [.int v3]) C hsz (cC_Jx4a65c_get_915e3 (g_l X) G s2 _ _ _ hw.2) kC_13 kC_455 kC_17 kC_18 kC_19 hdC_Jx4a65c_get_915e3 (c_recv0 C hw.1) ⟨(Nat.le_trans (Nat.le_of_ble_eq_true rfl) hR.1), (Nat.le_trans (Nat.le_of_ble_eq_true rfl) hR.2.1)⟩ ⟨(Nat.le_trans (Nat.le_of_ble_eq_true rfl) hR.2.2.1), (Nat.le_trans (Nat.le_of_ble_eq_true rfl) hR.2.2.2)⟩ dX7_snowThere_21 rfl (Nat.le_of_ble_eq_true rfl) (fun r7 s6 hw => ?_)
    obtain ⟨a8, ha8, hw⟩ := hw
    rw [ha8]
    refine c_cast1 C hw.1 kC_595 dX7_snowThere_24 ?_
    replace hw := hw.2
    refine c_callVi (vs := []) C hsz (cC_X1_depth (g_l X) G s6 _ _ hw.2) kC_36 kC_604 kC_34 kC_35 kC_37 hdC_X1_depth (c_recv1 C hw.1) ⟨(Nat.le_trans (Nat.le_of_ble_eq_true rfl) hR.1), (Nat.le_trans (Nat.le_of_ble_eq_true rfl) hR.2.1)⟩ ⟨(Nat.le_trans (Nat.le_of_ble_eq_true rfl) hR.2.2.1), (Nat.le_trans (Nat.le_of_ble_eq_true rfl) hR.2.2.2)⟩ dX7_snowThere_27 rfl (Nat.le_of_ble_eq_true rfl) (fun r10 s9 hw => ?_)
    refine g_i2l C.1 dX7_snowThere_30 ?_
    refine g_ladd C.1 dX7_snowThere_31 ?_
    refine g_lstore_n (lv' := [(1, .long (v1 + r10.toInt64)), (0, .ref v0), (3, .int v3)]) C.1 dX7_snowThere_32 rfl (by decide) rfl ?_
    refine g_iinc (v := v3 + 1) (lv' := [(3, .int (v3 + 1)), (1, .long (v1 + r10.toInt64)), (0, .ref v0)]) C.1 2 dX7_snowThere_33 rfl rfl (by decide) rfl ?_
    refine g_goto (tgt := 4) C.1 dX7_snowThere_36 (by decide) ?_
    refine gJ.sub [2, 1, 0] rfl ?_
    exact hK4 _ _ _ _ hw
theorem wkC_X7_snowThere_4 {X : gT} {G : cG} {A : Nat → Prop} {H0 : Heap} {Q : State → Prop} (C : cC X cX7_snowThere 4 RX7 G A) (hsz : H0 = (g_s X).heap) (hR : 3 ≤ (g_R X).frames ∧ 64 ≤ (g_R X).locals ∧ 0 ≤ (g_R X).cells ∧ 0 ≤ (g_R X).slots) {post : Int64 → CSt → Prop} (hret : ∀ (r : Int64) (τ : CSt) (lv : List (Nat × Value)) (pc : Nat), post r τ → decode cX7_snowThere pc = .ok (.lreturn, 1) → gJ X (cWd G A H0) Q 0 0 τ lv pc [.long r]) (s : CSt) (v0 : Nat) (v1 : Int64) (v3 : Int32) (hw : wpC_X7_snowThere_4 post s v0 v1 v3) : gJ X (cWd G A H0) Q 0 0 s [(0, .ref v0), (1, .long v1), (3, .int v3)] 4 [] := 
  hw (fun (x : CSt × Nat × Int64 × Int32) => (fun s v0 v1 v3 => gJ X (cWd G A H0) Q 0 0 s [(0, .ref v0), (1, .long v1), (3, .int v3)] 4 []) x.1 x.2.1 x.2.2.1 x.2.2.2) (fun x hx => wkC_X7_snowThere_4_F C hsz hR hret (K4 := (fun s v0 v1 v3 => gJ X (cWd G A H0) Q 0 0 s [(0, .ref v0), (1, .long v1), (3, .int v3)] 4 [])) (fun _ _ _ _ h => h) x.1 x.2.1 x.2.2.1 x.2.2.2 hx)
theorem wkC_X7_snowThere_0 {X : gT} {G : cG} {A : Nat → Prop} {H0 : Heap} {Q : State → Prop} (C : cC X cX7_snowThere 4 RX7 G A) (hsz : H0 = (g_s X).heap) (hR : 3 ≤ (g_R X).frames ∧ 64 ≤ (g_R X).locals ∧ 0 ≤ (g_R X).cells ∧ 0 ≤ (g_R X).slots) {post : Int64 → CSt → Prop} (hret : ∀ (r : Int64) (τ : CSt) (lv : List (Nat × Value)) (pc : Nat), post r τ → decode cX7_snowThere pc = .ok (.lreturn, 1) → gJ X (cWd G A H0) Q 0 0 τ lv pc [.long r]) (s : CSt) (v0 : Nat) (hw : wpC_X7_snowThere_0 post s v0) : gJ X (cWd G A H0) Q 0 0 s [(0, .ref v0)] 0 [] := by
  refine g_lconst (v := 0) C.1 dX7_snowThere_0 (by decide) ?_
  refine g_lstore_n (lv' := [(1, .long 0), (0, .ref v0)]) C.1 dX7_snowThere_1 rfl (by decide) rfl ?_
  refine g_iconst (v := 0) C.1 dX7_snowThere_2 (by decide) ?_
  refine g_istore_n (lv' := [(3, .int 0), (1, .long 0), (0, .ref v0)]) C.1 dX7_snowThere_3 rfl (by decide) rfl ?_
  refine gJ.sub [2, 1, 0] rfl ?_
  exact wkC_X7_snowThere_4 C hsz hR hret _ _ _ _ hw
theorem hdC_X7_snowThere : yX7_snowThere.cls = RX7 ∧ yX7_snowThere.cls ≠ "java/lang/invoke/MethodHandle" ∧ yX7_snowThere.cls ≠ "java/lang/invoke/VarHandle" ∧ (parseMethodDescriptor yX7_snowThere.desc).map (fun d => d.parameters.length) = some 0 := by decide +kernel
theorem cC_X7_snowThere (l : Launch) (G : cG) (s : CSt) (v0 : Nat) (post : Int64 → CSt → Prop) (hw : wpC_X7_snowThere_0 post s v0) : cMl l yX7_snowThere cX7_snowThere 4 3 64 0 0 G s [.ref v0] post := cMl_of (by decide +kernel) rfl (Nat.le_of_ble_eq_true rfl) (fun X A H0 Q hl hR hsz hnm C hret => wkC_X7_snowThere_0 C hsz hR hret s v0 hw)
def wpC_X7_count_0 (post : Int64 → CSt → Prop) (s : CSt) (v0 : Nat) (v1 : Int32) : Prop := (v1 = 0 → cAt s 7 v0 ∧ ∃ a2 : Nat, cR s 112 v0 = some a2 ∧ cAt s 0 a2 ∧ wpC_Jx4a65c_size_8abf5_0 (fun r4 s3 => post r4.toInt64 s3) s a2) ∧ (v1 = 1 → cAt s 7 v0 ∧ ∃ a5 : Nat, cR s 113 v0 = some a5 ∧ cAt s 0 a5 ∧ wpC_Jx4a65c_size_8abf5_0 (fun r7 s6 => post r7.toInt64 s6) s a5) ∧ (v1 = 2 → cAt s 7 v0 ∧ ∃ a8 : Nat, cR s 114 v0 = some a8 ∧ cAt s 0 a8 ∧ wpC_Jx4a65c_size_8abf5_0 (fun r10 s9 => post r10.toInt64 s9) s a8) ∧ (v1 = 3 → cAt s 7 v0 ∧ ∃ a11 : Nat, cR s 115 v0 = some a11 ∧ cAt s 0 a11 ∧ wpC_Jx4a65c_size_8abf5_0 (fun r13 s12 => post r13.toInt64 s12) s a11) ∧ (v1 = 4 → cAt s 7 v0 ∧ post ((cI s 121 v0).toInt64) s) ∧ (v1 = 5 → cAt s 7 v0 ∧ ∃ a14 : Nat, cR s 116 v0 = some a14 ∧ cAt s 0 a14 ∧ wpC_Jx4a65c_size_8abf5_0 (fun r16 s15 => post r16.toInt64 s15) s a14) ∧ (v1 = 6 → cAt s 7 v0 ∧ post ((cI s 120 v0).toInt64) s) ∧ (v1 = 7 → cAt s 7 v0 ∧ post (cJ s 124 v0) s) ∧ (v1 = 8 → cAt s 7 v0 ∧ post (cJ s 125 v0) s) ∧ (v1 = 9 → cAt s 7 v0 ∧ post (cJ s 126 v0) s) ∧ (v1 = 10 → cAt s 7 v0 ∧ wpC_X7_snowThere_0 (fun r18 s17 => post r18 s17) s v0) ∧ (v1 = 11 → cAt s 7 v0 ∧ post (cJ s 127 v0) s) ∧ ((v1).toInt < 0 ∨ 11 < (v1).toInt → post (-1) s)
theorem wkC_X7_count_0 {X : gT} {G : cG} {A : Nat → Prop} {H0 : Heap} {Q : State → Prop} (C : cC X cX7_count 2 RX7 G A) (hsz : H0 = (g_s X).heap) (hR : 4 ≤ (g_R X).frames ∧ 87 ≤ (g_R X).locals ∧ 0 ≤ (g_R X).cells ∧ 0 ≤ (g_R X).slots) {post : Int64 → CSt → Prop} (hret : ∀ (r : Int64) (τ : CSt) (lv : List (Nat × Value)) (pc : Nat), post r τ → decode cX7_count pc = .ok (.lreturn, 1) → gJ X (cWd G A H0) Q 0 0 τ lv pc [.long r]) (s : CSt) (v0 : Nat) (v1 : Int32) (hw : wpC_X7_count_0 post s v0 v1) : gJ X (cWd G A H0) Q 0 0 s [(0, .ref v0), (1, .int v1)] 0 [] := by
  refine g_iload_n C.1 1 dX7_count_0 rfl rfl ?_
  by_cases h1a : (v1).toInt < 0
  · replace hw := hw.2.2.2.2.2.2.2.2.2.2.2.2 (Or.inl h1a)
    refine g_tableOut (tgt := 146) C.1 dX7_count_1 (Or.inl h1a) (by decide) ?_
    refine g_ldc2 (v := (-1)) C.1 C.2.1 (C.2.2.1 _ kC_639) dX7_count_146 ?_
    exact hret _ _ _ _ hw dX7_count_149
  by_cases h1b : 11 < (v1).toInt
  · replace hw := hw.2.2.2.2.2.2.2.2.2.2.2.2 (Or.inr h1b)
    refine g_tableOut (tgt := 146) C.1 dX7_count_1 (Or.inr h1b) (by decide) ?_
    refine g_ldc2 (v := (-1)) C.1 C.2.1 (C.2.2.1 _ kC_639) dX7_count_146 ?_
    exact hret _ _ _ _ hw dX7_count_149
  have h1c : (v1).toInt = 0 ∨ (v1).toInt = 1 ∨ (v1).toInt = 2 ∨ (v1).toInt = 3 ∨ (v1).toInt = 4 ∨ (v1).toInt = 5 ∨ (v1).toInt = 6 ∨ (v1).toInt = 7 ∨ (v1).toInt = 8 ∨ (v1).toInt = 9 ∨ (v1).toInt = 10 ∨ (v1).toInt = 11 := by omega
  rcases h1c with h1c | h1c | h1c | h1c | h1c | h1c | h1c | h1c | h1c | h1c | h1c | h1c
  · replace hw := hw.1 (i32_of h1c)
    refine g_tableIn (tgt := 64) (off := 63) C.1 dX7_count_1 h1a h1b (by rw [h1c]; rfl) (by decide) ?_
    refine g_aload_n C.1 0 dX7_count_64 rfl rfl ?_
    refine c_get7 C hw.1 0 (by decide) kC_394 (fun _ h => h) rfl dX7_count_65 ?_
    replace hw := hw.2
    obtain ⟨a2, ha2, hw⟩ := hw
    rw [ha2]
    refine c_callVi (vs := []) C hsz (cC_Jx4a65c_size_8abf5 (g_l X) G s _ _ hw.2) kC_13 kC_431 kC_11 kC_12 kC_14 hdC_Jx4a65c_size_8abf5 (c_recv0 C hw.1) ⟨(Nat.le_trans (Nat.le_of_ble_eq_true rfl) hR.1), (Nat.le_trans (Nat.le_of_ble_eq_true rfl) hR.2.1)⟩ ⟨(Nat.le_trans (Nat.le_of_ble_eq_true rfl) hR.2.2.1), (Nat.le_trans (Nat.le_of_ble_eq_true rfl) hR.2.2.2)⟩ dX7_count_68 rfl (Nat.le_of_ble_eq_true rfl) (fun r4 s3 hw => ?_)
    refine g_i2l C.1 dX7_count_71 ?_
    exact hret _ _ _ _ hw dX7_count_72
  · replace hw := hw.2.1 (i32_of h1c)
    refine g_tableIn (tgt := 73) (off := 72) C.1 dX7_count_1 h1a h1b (by rw [h1c]; rfl) (by decide) ?_
    refine g_aload_n C.1 0 dX7_count_73 rfl rfl ?_
    refine c_get7 C hw.1 1 (by decide) kC_395 (fun _ h => h) rfl dX7_count_74 ?_
    replace hw := hw.2
    obtain ⟨a5, ha5, hw⟩ := hw
    rw [ha5]
    refine c_callVi (vs := []) C hsz (cC_Jx4a65c_size_8abf5 (g_l X) G s _ _ hw.2) kC_13 kC_431 kC_11 kC_12 kC_14 hdC_Jx4a65c_size_8abf5 (c_recv0 C hw.1) ⟨(Nat.le_trans (Nat.le_of_ble_eq_true rfl) hR.1), (Nat.le_trans (Nat.le_of_ble_eq_true rfl) hR.2.1)⟩ ⟨(Nat.le_trans (Nat.le_of_ble_eq_true rfl) hR.2.2.1), (Nat.le_trans (Nat.le_of_ble_eq_true rfl) hR.2.2.2)⟩ dX7_count_77 rfl (Nat.le_of_ble_eq_true rfl) (fun r7 s6 hw => ?_)
    refine g_i2l C.1 dX7_count_80 ?_
    exact hret _ _ _ _ hw dX7_count_81
  · replace hw := hw.2.2.1 (i32_of h1c)
    refine g_tableIn (tgt := 82) (off := 81) C.1 dX7_count_1 h1a h1b (by rw [h1c]; rfl) (by decide) ?_
    refine g_aload_n C.1 0 dX7_count_82 rfl rfl ?_
    refine c_get7 C hw.1 2 (by decide) kC_396 (fun _ h => h) rfl dX7_count_83 ?_
    replace hw := hw.2
    obtain ⟨a8, ha8, hw⟩ := hw
    rw [ha8]
    refine c_callVi (vs := []) C hsz (cC_Jx4a65c_size_8abf5 (g_l X) G s _ _ hw.2) kC_13 kC_431 kC_11 kC_12 kC_14 hdC_Jx4a65c_size_8abf5 (c_recv0 C hw.1) ⟨(Nat.le_trans (Nat.le_of_ble_eq_true rfl) hR.1), (Nat.le_trans (Nat.le_of_ble_eq_true rfl) hR.2.1)⟩ ⟨(Nat.le_trans (Nat.le_of_ble_eq_true rfl) hR.2.2.1), (Nat.le_trans (Nat.le_of_ble_eq_true rfl) hR.2.2.2)⟩ dX7_count_86 rfl (Nat.le_of_ble_eq_true rfl) (fun r10 s9 hw => ?_)
    refine g_i2l C.1 dX7_count_89 ?_
    exact hret _ _ _ _ hw dX7_count_90
  · replace hw := hw.2.2.2.1 (i32_of h1c)
    refine g_tableIn (tgt := 91) (off := 90) C.1 dX7_count_1 h1a h1b (by rw [h1c]; rfl) (by decide) ?_
    refine g_aload_n C.1 0 dX7_count_91 rfl rfl ?_
    refine c_get7 C hw.1 3 (by decide) kC_397 (fun _ h => h) rfl dX7_count_92 ?_
    replace hw := hw.2
    obtain ⟨a11, ha11, hw⟩ := hw
    rw [ha11]
    refine c_callVi (vs := []) C hsz (cC_Jx4a65c_size_8abf5 (g_l X) G s _ _ hw.2) kC_13 kC_431 kC_11 kC_12 kC_14 hdC_Jx4a65c_size_8abf5 (c_recv0 C hw.1) ⟨(Nat.le_trans (Nat.le_of_ble_eq_true rfl) hR.1), (Nat.le_trans (Nat.le_of_ble_eq_true rfl) hR.2.1)⟩ ⟨(Nat.le_trans (Nat.le_of_ble_eq_true rfl) hR.2.2.1), (Nat.le_trans (Nat.le_of_ble_eq_true rfl) hR.2.2.2)⟩ dX7_count_95 rfl (Nat.le_of_ble_eq_true rfl) (fun r13 s12 hw => ?_)
    refine g_i2l C.1 dX7_count_98 ?_
    exact hret _ _ _ _ hw dX7_count_99
  · replace hw := hw.2.2.2.2.1 (i32_of h1c)
    refine g_tableIn (tgt := 100) (off := 99) C.1 dX7_count_1 h1a h1b (by rw [h1c]; rfl) (by decide) ?_
    refine g_aload_n C.1 0 dX7_count_100 rfl rfl ?_
    refine c_get7 C hw.1 9 (by decide) kC_509 (fun _ h => h) rfl dX7_count_101 ?_
    replace hw := hw.2
    refine g_i2l C.1 dX7_count_104 ?_
    exact hret _ _ _ _ hw dX7_count_105
  · replace hw := hw.2.2.2.2.2.1 (i32_of h1c)
    refine g_tableIn (tgt := 106) (off := 105) C.1 dX7_count_1 h1a h1b (by rw [h1c]; rfl) (by decide) ?_
    refine g_aload_n C.1 0 dX7_count_106 rfl rfl ?_
    refine c_get7 C hw.1 4 (by decide) kC_398 (fun _ h => h) rfl dX7_count_107 ?_
    replace hw := hw.2
    obtain ⟨a14, ha14, hw⟩ := hw
    rw [ha14]
    refine c_callVi (vs := []) C hsz (cC_Jx4a65c_size_8abf5 (g_l X) G s _ _ hw.2) kC_13 kC_431 kC_11 kC_12 kC_14 hdC_Jx4a65c_size_8abf5 (c_recv0 C hw.1) ⟨(Nat.le_trans (Nat.le_of_ble_eq_true rfl) hR.1), (Nat.le_trans (Nat.le_of_ble_eq_true rfl) hR.2.1)⟩ ⟨(Nat.le_trans (Nat.le_of_ble_eq_true rfl) hR.2.2.1), (Nat.le_trans (Nat.le_of_ble_eq_true rfl) hR.2.2.2)⟩ dX7_count_110 rfl (Nat.le_of_ble_eq_true rfl) (fun r16 s15 hw => ?_)
    refine g_i2l C.1 dX7_count_113 ?_
    exact hret _ _ _ _ hw dX7_count_114
  · replace hw := hw.2.2.2.2.2.2.1 (i32_of h1c)
    refine g_tableIn (tgt := 115) (off := 114) C.1 dX7_count_1 h1a h1b (by rw [h1c]; rfl) (by decide) ?_
    refine g_aload_n C.1 0 dX7_count_115 rfl rfl ?_
    refine c_get7 C hw.1 8 (by decide) kC_458 (fun _ h => h) rfl dX7_count_116 ?_
    replace hw := hw.2
    refine g_i2l C.1 dX7_count_119 ?_
    exact hret _ _ _ _ hw dX7_count_120
  · replace hw := hw.2.2.2.2.2.2.2.1 (i32_of h1c)
    refine g_tableIn (tgt := 121) (off := 120) C.1 dX7_count_1 h1a h1b (by rw [h1c]; rfl) (by decide) ?_
    refine g_aload_n C.1 0 dX7_count_121 rfl rfl ?_
    refine c_get7 C hw.1 12 (by decide) kC_600 (fun _ h => h) rfl dX7_count_122 ?_
    replace hw := hw.2
    exact hret _ _ _ _ hw dX7_count_125
  · replace hw := hw.2.2.2.2.2.2.2.2.1 (i32_of h1c)
    refine g_tableIn (tgt := 126) (off := 125) C.1 dX7_count_1 h1a h1b (by rw [h1c]; rfl) (by decide) ?_
    refine g_aload_n C.1 0 dX7_count_126 rfl rfl ?_
    refine c_get7 C hw.1 13 (by decide) kC_598 (fun _ h => h) rfl dX7_count_127 ?_
    replace hw := hw.2
    exact hret _ _ _ _ hw dX7_count_130
  · replace hw := hw.2.2.2.2.2.2.2.2.2.1 (i32_of h1c)
    refine g_tableIn (tgt := 131) (off := 130) C.1 dX7_count_1 h1a h1b (by rw [h1c]; rfl) (by decide) ?_
    refine g_aload_n C.1 0 dX7_count_131 rfl rfl ?_
    refine c_get7 C hw.1 14 (by decide) kC_607 (fun _ h => h) rfl dX7_count_132 ?_
    replace hw := hw.2
    exact hret _ _ _ _ hw dX7_count_135
  · replace hw := hw.2.2.2.2.2.2.2.2.2.2.1 (i32_of h1c)
    refine g_tableIn (tgt := 136) (off := 135) C.1 dX7_count_1 h1a h1b (by rw [h1c]; rfl) (by decide) ?_
    refine g_aload_n C.1 0 dX7_count_136 rfl rfl ?_
    refine c_callVl (vs := []) C hsz (cC_X7_snowThere (g_l X) G s _ _ hw.2) kC_412 kC_640 kC_641 kC_642 kC_638 hdC_X7_snowThere (c_recv7 C hw.1) ⟨(Nat.le_trans (Nat.le_of_ble_eq_true rfl) hR.1), (Nat.le_trans (Nat.le_of_ble_eq_true rfl) hR.2.1)⟩ ⟨(Nat.le_trans (Nat.le_of_ble_eq_true rfl) hR.2.2.1), (Nat.le_trans (Nat.le_of_ble_eq_true rfl) hR.2.2.2)⟩ dX7_count_137 rfl (Nat.le_of_ble_eq_true rfl) (fun r18 s17 hw => ?_)
    exact hret _ _ _ _ hw dX7_count_140
  · replace hw := hw.2.2.2.2.2.2.2.2.2.2.2.1 (i32_of h1c)
    refine g_tableIn (tgt := 141) (off := 140) C.1 dX7_count_1 h1a h1b (by rw [h1c]; rfl) (by decide) ?_
    refine g_aload_n C.1 0 dX7_count_141 rfl rfl ?_
    refine c_get7 C hw.1 15 (by decide) kC_544 (fun _ h => h) rfl dX7_count_142 ?_
    replace hw := hw.2
    exact hret _ _ _ _ hw dX7_count_145
theorem hdC_X7_count : yX7_count.cls = RX7 ∧ yX7_count.cls ≠ "java/lang/invoke/MethodHandle" ∧ yX7_count.cls ≠ "java/lang/invoke/VarHandle" ∧ (parseMethodDescriptor yX7_count.desc).map (fun d => d.parameters.length) = some 1 := by decide +kernel
theorem cC_X7_count (l : Launch) (G : cG) (s : CSt) (v0 : Nat) (v1 : Int32) (post : Int64 → CSt → Prop) (hw : wpC_X7_count_0 post s v0 v1) : cMl l yX7_count cX7_count 2 4 87 0 0 G s [.ref v0, .int v1] post := cMl_of (by decide +kernel) rfl (Nat.le_of_ble_eq_true rfl) (fun X A H0 Q hl hR hsz hnm C hret => wkC_X7_count_0 C hsz hR hret s v0 v1 hw)
