theorem c_bN {v : Int32} (h : v = 0 ∨ v = 1) : narrow .boolean (.int v) = .int v := by rcases h with rfl | rfl <;> rfl
theorem c_bF {v : Int32} (h : v = 0 ∨ v = 1) : fits .boolean (.int v) = true := by rcases h with rfl | rfl <;> rfl
theorem va_rf_cat (x : Option Nat) : (va_rf x).category = 1 := by cases x <;> rfl
theorem c_nq {n : String} (x : Option Nat) : narrow (.object n) (va_rf x) = va_rf x := by cases x <;> rfl
theorem c_fq {n : String} (x : Option Nat) : fits (.object n) (va_rf x) = true := by cases x <;> rfl
theorem c_nqA {t : FieldType} (x : Option Nat) : narrow (.array t) (va_rf x) = va_rf x := by cases x <;> rfl
theorem c_fqA {t : FieldType} (x : Option Nat) : fits (.array t) (va_rf x) = true := by cases x <;> rfl
theorem k0_ (mc ms : Nat) : 0 ≤ mc ∧ 0 ≤ ms := ⟨Nat.zero_le _, Nat.zero_le _⟩
theorem lk_none {l : List (Int × Int)} {d k : Int} (h : ∀ p ∈ l, ¬ p.1 = k) : Op.lookupswitch.offset l d k = d := by
  refine Op.lookupswitch.offset_none (List.find?_eq_none.mpr (fun p hp => ?_))
  have h1 := h p hp
  simpa using h1
section CTEXT
variable {X : gT} {Q : State → Prop} {k n : Nat} {σ : CSt} {lv : List (Nat × Value)} {pc : Nat} {rest : List Value} {cc : ByteArray} {nL : Nat} {own : String} {G : cG} {A : Nat → Prop} {H0 : Heap} {idx : Nat}
theorem c_fact (C : cC X cc nL own G A) (hsz : H0 = (g_s X).heap) {i : Nat} (hi : i < 9) {H : Heap} {locs : List Loc} (hW : cWd G A H0 σ H locs) : (∃ cellB : Cell, H[G.2.2.1 i]? = some cellB ∧ cellB.vm.isStatics = false ∧ (g_s X).vm.findClass RJ0 = some cellB.cls) ∧ ∀ U : State, U.heap = H → (g_s X).WarmedH U.vm → jF (G.2.2.1 i) (G.2.2.2.1 i) (ctb.getD i []) A U := by
  have h0 := (C.2.2.2.2.2.1 i hi).kept (hsz ▸ hW.2.2.1).2.1
  refine ⟨?_, fun U hU hW' => ?_⟩
  · obtain ⟨cell, h1, h2, h3, -⟩ := h0.1
    exact ⟨cell, h1, h2, h3⟩
  · show jS _ _ _ _ U U.heap
    rw [hU]
    exact h0.moved hW'.alike
theorem c_wsJ {y : MethodName} {b : ByteArray} {mL : Nat} {rt : FieldType} (k1 : Cond.methodLink own idx y ∈ wC) (k2 : Cond.instanceMethod y ∈ wSl) (k3 : Cond.selects RJ0 y y ∈ wSl) (k4 : Cond.code y b mL (some rt) ∈ wSl) : GoodIn wC (wsV own idx RJ0 y (.code y b mL (some rt) :: wSl)) := by
  refine f_ws (fun w hw => ?_) (fun w hw => ?_) kC_good
  · rcases List.mem_cons.mp hw with rfl | hw
    · exact kC_good _ (kC_S _ k4)
    · exact kC_good _ (kC_S _ hw)
  · simp only [List.mem_cons, List.not_mem_nil, or_false] at hw
    rcases hw with rfl | rfl | rfl | rfl
    · exact k1
    · exact kC_S _ k2
    · exact kC_S _ k3
    · exact kC_S _ (wSl_at 0 rfl)
theorem c_sC (C : cC X cc nL own G A) : fC X cc nL own wC := ⟨C.1, C.2.1, C.2.2.1, trivial⟩
theorem c_slen {i : Nat} (C : cC X cc nL own G A) (hsz : H0 = (g_s X).heap) (hi : i < 9) (k1 : Cond.methodLink own idx yJ0_length_8abf5 ∈ wC) (hR : 2 ≤ (g_R X).frames ∧ 40 ≤ (g_R X).locals) (hkn : k ≤ (g_R X).cells ∧ n ≤ (g_R X).slots) (hdg : decode cc pc = .ok (.invokevirtual idx, 3)) (hst : (rest.map fun v => v.category).sum ≤ 8)
    (kk : gJ X (cWd G A H0) Q k n σ lv (pc + 3) (.int (nI (ctb.getD i []).length) :: rest)) : gJ X (cWd G A H0) Q k n σ lv pc (.ref (G.2.2.1 i) :: rest) :=
  g_callFV (vs := []) (cls := RJ0) (c_sC C) (cJ_length (g_l X) _ (G.2.2.2.1 i) (ctb.getD i []) A (fun r => r = nI (ctb.getD i []).length) rfl) (c_wsJ k1 (wSl_at 26 rfl) (wSl_at 27 rfl) (wSl_at 1 rfl)) (by decide +kernel) ⟨hR.1, hR.2⟩ hkn jS.blind (fun H locs hW => c_fact C hsz hi hW) hdg rfl hst (fun r hr => hr ▸ kk)
theorem ctb_small : ∀ i : Nat, i < 9 → (ctb.getD i []).length < 2 ^ 31 := by decide
theorem c_sat {i : Nat} {x : Int32} (C : cC X cc nL own G A) (hsz : H0 = (g_s X).heap) (hi : i < 9) (h0 : ¬ x < 0) (h1 : x < nI (ctb.getD i []).length) (k1 : Cond.methodLink own idx yJ0_charAt_5068e ∈ wC) (hR : 4 ≤ (g_R X).frames ∧ 85 ≤ (g_R X).locals) (hkn : k ≤ (g_R X).cells ∧ n ≤ (g_R X).slots) (hdg : decode cc pc = .ok (.invokevirtual idx, 3)) (hst : (rest.map fun v => v.category).sum ≤ 8)
    (kk : gJ X (cWd G A H0) Q k n σ lv (pc + 3) (.int (jAt (ctb.getD i []) x) :: rest)) : gJ X (cWd G A H0) Q k n σ lv pc (.int x :: .ref (G.2.2.1 i) :: rest) :=
  g_callFV (vs := [.int x]) (cls := RJ0) (c_sC C) (cJ_charAt (g_l X) _ (G.2.2.2.1 i) (ctb.getD i []) A x (ctb_small i hi) h0 h1 (fun r => r = jAt (ctb.getD i []) x) rfl) (c_wsJ k1 (wSl_at 28 rfl) (wSl_at 29 rfl) (wSl_at 9 rfl)) hdJ_charAt ⟨hR.1, hR.2⟩ hkn jS.blind (fun H locs hW => c_fact C hsz hi hW) hdg rfl hst (fun r hr => hr ▸ kk)
end CTEXT

def wpC_X1_depth_0 (post : Int32 → CSt → Prop) (s : CSt) (v0 : Nat) : Prop := cAt s 1 v0 ∧ ∃ a1 : Nat, cR s 17 v0 = some a1 ∧ cAt s 9 a1 ∧ vp_in 0 (cN s a1) ∧ cAt s 1 v0 ∧ ∃ a2 : Nat, cR s 17 v0 = some a2 ∧ cAt s 9 a2 ∧ vp_in 1 (cN s a2) ∧ cAt s 1 v0 ∧ ∃ a3 : Nat, cR s 17 v0 = some a3 ∧ cAt s 9 a3 ∧ vp_in 2 (cN s a3) ∧ cAt s 1 v0 ∧ ∃ a4 : Nat, cR s 17 v0 = some a4 ∧ cAt s 9 a4 ∧ vp_in 3 (cN s a4) ∧ post ((((cV s a1 (0 : Int32).toNatClampNeg) + (cV s a2 (1 : Int32).toNatClampNeg)) + (cV s a3 (2 : Int32).toNatClampNeg)) + (cV s a4 (3 : Int32).toNatClampNeg)) s
theorem wkC_X1_depth_0 {X : gT} {G : cG} {A : Nat → Prop} {H0 : Heap} {Q : State → Prop} (C : cC X cX1_depth 1 RX1 G A) (hsz : H0 = (g_s X).heap) (hR : 0 ≤ (g_R X).frames ∧ 0 ≤ (g_R X).locals ∧ 0 ≤ (g_R X).cells ∧ 0 ≤ (g_R X).slots) {post : Int32 → CSt → Prop} (hret : ∀ (r : Int32) (τ : CSt) (lv : List (Nat × Value)) (pc : Nat), post r τ → narrow .int (.int r) = .int r → decode cX1_depth pc = .ok (.ireturn, 1) → gJ X (cWd G A H0) Q 0 0 τ lv pc [.int r]) (s : CSt) (v0 : Nat) (hw : wpC_X1_depth_0 post s v0) : gJ X (cWd G A H0) Q 0 0 s [(0, .ref v0)] 0 [] := by
  refine g_aload_n C.1 0 dX1_depth_0 rfl rfl ?_
  refine c_get1 C hw.1 1 (by decide) kC_38 (fun _ h => h) rfl dX1_depth_1 ?_
  replace hw := hw.2
  obtain ⟨a1, ha1, hw⟩ := hw
  rw [ha1]
  refine g_iconst (v := 0) C.1 dX1_depth_4 (by decide) ?_
  refine c_iald C hw.1 hw.2.1 dX1_depth_5 ?_
  replace hw := hw.2.2
  refine g_aload_n C.1 0 dX1_depth_6 rfl rfl ?_
  refine c_get1 C hw.1 1 (by decide) kC_38 (fun _ h => h) rfl dX1_depth_7 ?_
  replace hw := hw.2
  obtain ⟨a2, ha2, hw⟩ := hw
  rw [ha2]
  refine g_iconst (v := 1) C.1 dX1_depth_10 (by decide) ?_
  refine c_iald C hw.1 hw.2.1 dX1_depth_11 ?_
  replace hw := hw.2.2
  refine g_iadd C.1 dX1_depth_12 ?_
  refine g_aload_n C.1 0 dX1_depth_13 rfl rfl ?_
  refine c_get1 C hw.1 1 (by decide) kC_38 (fun _ h => h) rfl dX1_depth_14 ?_
  replace hw := hw.2
  obtain ⟨a3, ha3, hw⟩ := hw
  rw [ha3]
  refine g_iconst (v := 2) C.1 dX1_depth_17 (by decide) ?_
  refine c_iald C hw.1 hw.2.1 dX1_depth_18 ?_
  replace hw := hw.2.2
  refine g_iadd C.1 dX1_depth_19 ?_
  refine g_aload_n C.1 0 dX1_depth_20 rfl rfl ?_
  refine c_get1 C hw.1 1 (by decide) kC_38 (fun _ h => h) rfl dX1_depth_21 ?_
  replace hw := hw.2
  obtain ⟨a4, ha4, hw⟩ := hw
  rw [ha4]
  refine g_iconst (v := 3) C.1 dX1_depth_24 (by decide) ?_
  refine c_iald C hw.1 hw.2.1 dX1_depth_25 ?_
  replace hw := hw.2.2
  refine g_iadd C.1 dX1_depth_26 ?_
  exact hret _ _ _ _ hw rfl dX1_depth_27
theorem hdC_X1_depth : yX1_depth.cls = RX1 ∧ yX1_depth.cls ≠ "java/lang/invoke/MethodHandle" ∧ yX1_depth.cls ≠ "java/lang/invoke/VarHandle" ∧ (parseMethodDescriptor yX1_depth.desc).map (fun d => d.parameters.length) = some 0 := by decide +kernel
theorem cC_X1_depth (l : Launch) (G : cG) (s : CSt) (v0 : Nat) (post : Int32 → CSt → Prop) (hw : wpC_X1_depth_0 post s v0) : cMi l yX1_depth cX1_depth 1 .int 0 0 0 0 G s [.ref v0] post := cMi_of (by decide +kernel) rfl (Nat.le_of_ble_eq_true rfl) (fun X A H0 Q hl hR hsz hnm C hret => wkC_X1_depth_0 C hsz hR hret s v0 hw)
def wpC_X1_take_0 (post : Int32 → CSt → Prop) (s : CSt) (v0 : Nat) (v1 : Int32) (v2 : Int32) : Prop := (v1 < 0 → post 0 s) ∧ (¬ v1 < 0 → cAt s 1 v0 ∧ ∃ a2 : Nat, cR s 17 v0 = some a2 ∧ cAt s 9 a2 ∧ (v1 < (nI (cN s a2)) → cAt s 1 v0 ∧ ∃ a4 : Nat, cR s 17 v0 = some a4 ∧ cAt s 9 a4 ∧ vp_in v1 (cN s a4) ∧ ∀ x5 : Int32, x5 = (if (cV s a4 v1.toNatClampNeg) < v2 then (cV s a4 v1.toNatClampNeg) else v2) → cAt s 1 v0 ∧ ∃ a6 : Nat, cR s 17 v0 = some a6 ∧ cAt s 9 a6 ∧ vp_in v1 (cN s a6) ∧ cAt s 9 a6 ∧ vp_in v1 (cN s a6) ∧ ∀ s7 : CSt, s7 = csV s a6 (upd (cV s a6) v1.toNatClampNeg ((cV s a6 v1.toNatClampNeg) - x5)) → post x5 s7) ∧ (¬ v1 < (nI (cN s a2)) → post 0 s))
theorem wkC_X1_take_0 {X : gT} {G : cG} {A : Nat → Prop} {H0 : Heap} {Q : State → Prop} (C : cC X cX1_take 4 RX1 G A) (hsz : H0 = (g_s X).heap) (hR : 1 ≤ (g_R X).frames ∧ 24 ≤ (g_R X).locals ∧ 0 ≤ (g_R X).cells ∧ 0 ≤ (g_R X).slots) {post : Int32 → CSt → Prop} (hret : ∀ (r : Int32) (τ : CSt) (lv : List (Nat × Value)) (pc : Nat), post r τ → narrow .int (.int r) = .int r → decode cX1_take pc = .ok (.ireturn, 1) → gJ X (cWd G A H0) Q 0 0 τ lv pc [.int r]) (s : CSt) (v0 : Nat) (v1 : Int32) (v2 : Int32) (hw : wpC_X1_take_0 post s v0 v1 v2) : gJ X (cWd G A H0) Q 0 0 s [(0, .ref v0), (1, .int v1), (2, .int v2)] 0 [] := by
  refine g_iload_n C.1 1 dX1_take_0 rfl rfl ?_
  refine g_if_lt (tgt := 13) C.1 dX1_take_1 (by decide) (fun h1 => ?_) (fun h1 => ?_)
  · replace hw := hw.1 h1
    refine g_iconst (v := 0) C.1 dX1_take_13 (by decide) ?_
    exact hret _ _ _ _ hw rfl dX1_take_14
  · replace hw := hw.2 h1
    refine g_iload_n C.1 1 dX1_take_4 rfl rfl ?_
    refine g_aload_n C.1 0 dX1_take_5 rfl rfl ?_
    refine c_get1 C hw.1 1 (by decide) kC_38 (fun _ h => h) rfl dX1_take_6 ?_
    replace hw := hw.2
    obtain ⟨a2, ha2, hw⟩ := hw
    rw [ha2]
    refine c_ilen C hw.1 dX1_take_9 ?_
    replace hw := hw.2
    refine g_icmp_lt (tgt := 15) C.1 dX1_take_10 (by decide) (fun h3 => ?_) (fun h3 => ?_)
    · replace hw := hw.1 h3
      refine g_iload_n C.1 2 dX1_take_15 rfl rfl ?_
      refine g_aload_n C.1 0 dX1_take_16 rfl rfl ?_
      refine c_get1 C hw.1 1 (by decide) kC_38 (fun _ h => h) rfl dX1_take_17 ?_
      replace hw := hw.2
      obtain ⟨a4, ha4, hw⟩ := hw
      rw [ha4]
      refine g_iload_n C.1 1 dX1_take_20 rfl rfl ?_
      refine c_iald C hw.1 hw.2.1 dX1_take_21 ?_
      replace hw := hw.2.2
      refine g_mmin C.1 C.2.1 (C.2.2.1 _ kC_98) (C.2.2.1 _ kC_66) (C.2.2.1 _ kC_4) (C.2.2.1 _ kC_67) (Nat.le_trans (Nat.le_of_ble_eq_true rfl) hR.1) (Nat.le_trans (Nat.le_of_ble_eq_true rfl) hR.2.1) (Nat.le_trans (Nat.le_of_ble_eq_true rfl) hR.2.2.1) (Nat.le_trans (Nat.le_of_ble_eq_true rfl) hR.2.2.2) dX1_take_22 ?_
      refine g_topi (fun x5 ex5 => ?_)
      replace hw := hw x5 ex5
      refine g_istore_n (lv' := [(3, .int x5), (0, .ref v0), (1, .int v1), (2, .int v2)]) C.1 dX1_take_25 rfl (by decide) rfl ?_
      refine g_aload_n C.1 1 dX1_take_26 rfl rfl ?_
      refine c_get1 C hw.1 1 (by decide) kC_38 (fun _ h => h) rfl dX1_take_27 ?_
      replace hw := hw.2
      obtain ⟨a6, ha6, hw⟩ := hw
      rw [ha6]
      refine g_iload_n C.1 2 dX1_take_30 rfl rfl ?_
      refine g_dup2 C.1 dX1_take_31 rfl rfl ?_
      refine c_iald C hw.1 hw.2.1 dX1_take_32 ?_
      replace hw := hw.2.2
      refine g_iload_n C.1 0 dX1_take_33 rfl rfl ?_
      refine g_isub C.1 dX1_take_34 ?_
      refine c_iast C hw.1 hw.2.1 dX1_take_35 ?_
      replace hw := hw.2.2
      refine gJ.nm (fun s7 es7 => ?_)
      replace hw := hw s7 es7
      refine g_iload_n C.1 0 dX1_take_36 rfl rfl ?_
      exact hret _ _ _ _ hw rfl dX1_take_37
    · replace hw := hw.2 h3
      refine g_iconst (v := 0) C.1 dX1_take_13 (by decide) ?_
      exact hret _ _ _ _ hw rfl dX1_take_14
theorem hdC_X1_take : yX1_take.cls = RX1 ∧ yX1_take.cls ≠ "java/lang/invoke/MethodHandle" ∧ yX1_take.cls ≠ "java/lang/invoke/VarHandle" ∧ (parseMethodDescriptor yX1_take.desc).map (fun d => d.parameters.length) = some 2 := by decide +kernel
theorem cC_X1_take (l : Launch) (G : cG) (s : CSt) (v0 : Nat) (v1 : Int32) (v2 : Int32) (post : Int32 → CSt → Prop) (hw : wpC_X1_take_0 post s v0 v1 v2) : cMi l yX1_take cX1_take 4 .int 1 24 0 0 G s [.ref v0, .int v1, .int v2] post := cMi_of (by decide +kernel) rfl (Nat.le_of_ble_eq_true rfl) (fun X A H0 Q hl hR hsz hnm C hret => wkC_X1_take_0 C hsz hR hret s v0 v1 v2 hw)
def wpC_X1_lose_4_F (post : Int32 → CSt → Prop) (K4 : CSt → Nat → Int32 → Int32 → Int32 → Prop) (s : CSt) (v0 : Nat) (v1 : Int32) (v2 : Int32) (v3 : Int32) : Prop := (4 ≤ v3 → post v2 s) ∧ (¬ 4 ≤ v3 → cAt s 1 v0 ∧ wpC_X1_take_0 (fun r3 s2 => K4 s2 v0 v1 (v2 + r3) (v3 + 1)) s v0 v3 (v1 - v2))
def wpC_X1_lose_4 (post : Int32 → CSt → Prop) (s : CSt) (v0 : Nat) (v1 : Int32) (v2 : Int32) (v3 : Int32) : Prop := gLP (fun (K : CSt × Nat × Int32 × Int32 × Int32 → Prop) (x : CSt × Nat × Int32 × Int32 × Int32) => wpC_X1_lose_4_F post (fun s v0 v1 v2 v3 => K (s, v0, v1, v2, v3)) x.1 x.2.1 x.2.2.1 x.2.2.2.1 x.2.2.2.2) (s, v0, v1, v2, v3)
def wpC_X1_lose_0 (post : Int32 → CSt → Prop) (s : CSt) (v0 : Nat) (v1 : Int32) : Prop := wpC_X1_lose_4 post s v0 v1 0 0
theorem wkC_X1_lose_4_F {X : gT} {G : cG} {A : Nat → Prop} {H0 : Heap} {Q : State → Prop} (C : cC X cX1_lose 4 RX1 G A) (hsz : H0 = (g_s X).heap) (hR : 2 ≤ (g_R X).frames ∧ 47 ≤ (g_R X).locals ∧ 0 ≤ (g_R X).cells ∧ 0 ≤ (g_R X).slots) {post : Int32 → CSt → Prop} (hret : ∀ (r : Int32) (τ : CSt) (lv : List (Nat × Value)) (pc : Nat), post r τ → narrow .int (.int r) = .int r → decode cX1_lose pc = .ok (.ireturn, 1) → gJ X (cWd G A H0) Q 0 0 τ lv pc [.int r]) {K4 : CSt → Nat → Int32 → Int32 → Int32 → Prop} (hK4 : ∀ (s : CSt) (v0 : Nat) (v1 : Int32) (v2 : Int32) (v3 : Int32), K4 s v0 v1 v2 v3 → gJ X (cWd G A H0) Q 0 0 s [(0, .ref v0), (1, .int v1), (2, .int v2), (3, .int v3)] 4 []) (s : CSt) (v0 : Nat) (v1 : Int32) (v2 : Int32) (v3 : Int32) (hw : wpC_X1_lose_4_F post K4 s v0 v1 v2 v3) : gJ X (cWd G A H0) Q 0 0 s [(0, .ref v0), (1, .int v1), (2, .int v2), (3, .int v3)] 4 [] := by
  refine g_iload_n C.1 3 dX1_lose_4 rfl rfl ?_
  refine g_iconst (v := 4) C.1 dX1_lose_5 (by decide) ?_
  refine g_icmp_ge (tgt := 26) C.1 dX1_lose_6 (by decide) (fun h1 => ?_) (fun h1 => ?_)
  · replace hw := hw.1 h1
    refine g_iload_n C.1 2 dX1_lose_26 rfl rfl ?_
    exact hret _ _ _ _ hw rfl dX1_lose_27
  · replace hw := hw.2 h1
    refine g_iload_n C.1 2 dX1_lose_9 rfl rfl ?_
    refine g_aload_n C.1 0 dX1_lose_10 rfl rfl ?_
    refine g_iload_n C.1 3 dX1_lose_11 rfl rfl ?_
    refine g_iload_n C.1 1 dX1_lose_12 rfl rfl ?_
    refine g_iload_n C.1 2 dX1_lose_13 rfl rfl ?_
    refine g_isub C.1 dX1_lose_14 ?_
    refine c_callVi (vs := [.int v3, .int (v1 - v2)]) C hsz (cC_X1_take (g_l X) G s _ _ _ _ hw.2) kC_36 kC_100 kC_101 kC_102 kC_99 hdC_X1_take (c_recv1 C hw.1) ⟨(Nat.le_trans (Nat.le_of_ble_eq_true rfl) hR.1), (Nat.le_trans (Nat.le_of_ble_eq_true rfl) hR.2.1)⟩ ⟨(Nat.le_trans (Nat.le_of_ble_eq_true rfl) hR.2.2.1), (Nat.le_trans (Nat.le_of_ble_eq_true rfl) hR.2.2.2)⟩ dX1_lose_15 rfl (Nat.le_of_ble_eq_true rfl) (fun r3 s2 hw => ?_)
    refine g_iadd C.1 dX1_lose_18 ?_
    refine g_istore_n (lv' := [(2, .int (v2 + r3)), (0, .ref v0), (1, .int v1), (3, .int v3)]) C.1 dX1_lose_19 rfl (by decide) rfl ?_
    refine g_iinc (v := v3 + 1) (lv' := [(3, .int (v3 + 1)), (2, .int (v2 + r3)), (0, .ref v0), (1, .int v1)]) C.1 3 dX1_lose_20 rfl rfl (by decide) rfl ?_
    refine g_goto (tgt := 4) C.1 dX1_lose_23 (by decide) ?_
    refine gJ.sub [2, 3, 1, 0] rfl ?_
    exact hK4 _ _ _ _ _ hw
theorem wkC_X1_lose_4 {X : gT} {G : cG} {A : Nat → Prop} {H0 : Heap} {Q : State → Prop} (C : cC X cX1_lose 4 RX1 G A) (hsz : H0 = (g_s X).heap) (hR : 2 ≤ (g_R X).frames ∧ 47 ≤ (g_R X).locals ∧ 0 ≤ (g_R X).cells ∧ 0 ≤ (g_R X).slots) {post : Int32 → CSt → Prop} (hret : ∀ (r : Int32) (τ : CSt) (lv : List (Nat × Value)) (pc : Nat), post r τ → narrow .int (.int r) = .int r → decode cX1_lose pc = .ok (.ireturn, 1) → gJ X (cWd G A H0) Q 0 0 τ lv pc [.int r]) (s : CSt) (v0 : Nat) (v1 : Int32) (v2 : Int32) (v3 : Int32) (hw : wpC_X1_lose_4 post s v0 v1 v2 v3) : gJ X (cWd G A H0) Q 0 0 s [(0, .ref v0), (1, .int v1), (2, .int v2), (3, .int v3)] 4 [] := 
  hw (fun (x : CSt × Nat × Int32 × Int32 × Int32) => (fun s v0 v1 v2 v3 => gJ X (cWd G A H0) Q 0 0 s [(0, .ref v0), (1, .int v1), (2, .int v2), (3, .int v3)] 4 []) x.1 x.2.1 x.2.2.1 x.2.2.2.1 x.2.2.2.2) (fun x hx => wkC_X1_lose_4_F C hsz hR hret (K4 := (fun s v0 v1 v2 v3 => gJ X (cWd G A H0) Q 0 0 s [(0, .ref v0), (1, .int v1), (2, .int v2), (3, .int v3)] 4 [])) (fun _ _ _ _ _ h => h) x.1 x.2.1 x.2.2.1 x.2.2.2.1 x.2.2.2.2 hx)
theorem wkC_X1_lose_0 {X : gT} {G : cG} {A : Nat → Prop} {H0 : Heap} {Q : State → Prop} (C : cC X cX1_lose 4 RX1 G A) (hsz : H0 = (g_s X).heap) (hR : 2 ≤ (g_R X).frames ∧ 47 ≤ (g_R X).locals ∧ 0 ≤ (g_R X).cells ∧ 0 ≤ (g_R X).slots) {post : Int32 → CSt → Prop} (hret : ∀ (r : Int32) (τ : CSt) (lv : List (Nat × Value)) (pc : Nat), post r τ → narrow .int (.int r) = .int r → decode cX1_lose pc = .ok (.ireturn, 1) → gJ X (cWd G A H0) Q 0 0 τ lv pc [.int r]) (s : CSt) (v0 : Nat) (v1 : Int32) (hw : wpC_X1_lose_0 post s v0 v1) : gJ X (cWd G A H0) Q 0 0 s [(0, .ref v0), (1, .int v1)] 0 [] := by
  refine g_iconst (v := 0) C.1 dX1_lose_0 (by decide) ?_
  refine g_istore_n (lv' := [(2, .int 0), (0, .ref v0), (1, .int v1)]) C.1 dX1_lose_1 rfl (by decide) rfl ?_
  refine g_iconst (v := 0) C.1 dX1_lose_2 (by decide) ?_
  refine g_istore_n (lv' := [(3, .int 0), (2, .int 0), (0, .ref v0), (1, .int v1)]) C.1 dX1_lose_3 rfl (by decide) rfl ?_
  refine gJ.sub [2, 3, 1, 0] rfl ?_
  exact wkC_X1_lose_4 C hsz hR hret _ _ _ _ _ hw
theorem hdC_X1_lose : yX1_lose.cls = RX1 ∧ yX1_lose.cls ≠ "java/lang/invoke/MethodHandle" ∧ yX1_lose.cls ≠ "java/lang/invoke/VarHandle" ∧ (parseMethodDescriptor yX1_lose.desc).map (fun d => d.parameters.length) = some 1 := by decide +kernel
theorem cC_X1_lose (l : Launch) (G : cG) (s : CSt) (v0 : Nat) (v1 : Int32) (post : Int32 → CSt → Prop) (hw : wpC_X1_lose_0 post s v0 v1) : cMi l yX1_lose cX1_lose 4 .int 2 47 0 0 G s [.ref v0, .int v1] post := cMi_of (by decide +kernel) rfl (Nat.le_of_ble_eq_true rfl) (fun X A H0 Q hl hR hsz hnm C hret => wkC_X1_lose_0 C hsz hR hret s v0 v1 hw)
def wpC_X1_becomeWorn_4_F (post : Int32 → CSt → Prop) (K4 : CSt → Nat → Int32 → Int32 → Int32 → Prop) (s : CSt) (v0 : Nat) (v1 : Int32) (v2 : Int32) (v3 : Int32) : Prop := (v3 < 0 → cAt s 1 v0 ∧ ∃ a2 : Nat, cR s 17 v0 = some a2 ∧ cAt s 9 a2 ∧ vp_in 3 (cN s a2) ∧ cAt s 9 a2 ∧ vp_in 3 (cN s a2) ∧ ∀ s3 : CSt, s3 = csV s a2 (upd (cV s a2) (3 : Int32).toNatClampNeg ((cV s a2 (3 : Int32).toNatClampNeg) + v2)) → post v2 s3) ∧ (¬ v3 < 0 → cAt s 1 v0 ∧ wpC_X1_take_0 (fun r5 s4 => K4 s4 v0 v1 (v2 + r5) (v3 + (-1))) s v0 v3 (v1 - v2))
def wpC_X1_becomeWorn_4 (post : Int32 → CSt → Prop) (s : CSt) (v0 : Nat) (v1 : Int32) (v2 : Int32) (v3 : Int32) : Prop := gLP (fun (K : CSt × Nat × Int32 × Int32 × Int32 → Prop) (x : CSt × Nat × Int32 × Int32 × Int32) => wpC_X1_becomeWorn_4_F post (fun s v0 v1 v2 v3 => K (s, v0, v1, v2, v3)) x.1 x.2.1 x.2.2.1 x.2.2.2.1 x.2.2.2.2) (s, v0, v1, v2, v3)
def wpC_X1_becomeWorn_0 (post : Int32 → CSt → Prop) (s : CSt) (v0 : Nat) (v1 : Int32) : Prop := wpC_X1_becomeWorn_4 post s v0 v1 0 2
theorem wkC_X1_becomeWorn_4_F {X : gT} {G : cG} {A : Nat → Prop} {H0 : Heap} {Q : State → Prop} (C : cC X cX1_becomeWorn 4 RX1 G A) (hsz : H0 = (g_s X).heap) (hR : 2 ≤ (g_R X).frames ∧ 47 ≤ (g_R X).locals ∧ 0 ≤ (g_R X).cells ∧ 0 ≤ (g_R X).slots) {post : Int32 → CSt → Prop} (hret : ∀ (r : Int32) (τ : CSt) (lv : List (Nat × Value)) (pc : Nat), post r τ → narrow .int (.int r) = .int r → decode cX1_becomeWorn pc = .ok (.ireturn, 1) → gJ X (cWd G A H0) Q 0 0 τ lv pc [.int r]) {K4 : CSt → Nat → Int32 → Int32 → Int32 → Prop} (hK4 : ∀ (s : CSt) (v0 : Nat) (v1 : Int32) (v2 : Int32) (v3 : Int32), K4 s v0 v1 v2 v3 → gJ X (cWd G A H0) Q 0 0 s [(0, .ref v0), (1, .int v1), (2, .int v2), (3, .int v3)] 4 []) (s : CSt) (v0 : Nat) (v1 : Int32) (v2 : Int32) (v3 : Int32) (hw : wpC_X1_becomeWorn_4_F post K4 s v0 v1 v2 v3) : gJ X (cWd G A H0) Q 0 0 s [(0, .ref v0), (1, .int v1), (2, .int v2), (3, .int v3)] 4 [] := by
  refine g_iload_n C.1 3 dX1_becomeWorn_4 rfl rfl ?_
  refine g_if_lt (tgt := 25) C.1 dX1_becomeWorn_5 (by decide) (fun h1 => ?_) (fun h1 => ?_)
  · replace hw := hw.1 h1
    refine g_aload_n C.1 0 dX1_becomeWorn_25 rfl rfl ?_
    refine c_get1 C hw.1 1 (by decide) kC_38 (fun _ h => h) rfl dX1_becomeWorn_26 ?_
    replace hw := hw.2
    obtain ⟨a2, ha2, hw⟩ := hw
    rw [ha2]
    refine g_iconst (v := 3) C.1 dX1_becomeWorn_29 (by decide) ?_
    refine g_dup2 C.1 dX1_becomeWorn_30 rfl rfl ?_
    refine c_iald C hw.1 hw.2.1 dX1_becomeWorn_31 ?_
    replace hw := hw.2.2
    refine g_iload_n C.1 2 dX1_becomeWorn_32 rfl rfl ?_
    refine g_iadd C.1 dX1_becomeWorn_33 ?_
    refine c_iast C hw.1 hw.2.1 dX1_becomeWorn_34 ?_
    replace hw := hw.2.2
    refine gJ.nm (fun s3 es3 => ?_)
    replace hw := hw s3 es3
    refine g_iload_n C.1 2 dX1_becomeWorn_35 rfl rfl ?_
    exact hret _ _ _ _ hw rfl dX1_becomeWorn_36
  · replace hw := hw.2 h1
    refine g_iload_n C.1 2 dX1_becomeWorn_8 rfl rfl ?_
    refine g_aload_n C.1 0 dX1_becomeWorn_9 rfl rfl ?_
    refine g_iload_n C.1 3 dX1_becomeWorn_10 rfl rfl ?_
    refine g_iload_n C.1 1 dX1_becomeWorn_11 rfl rfl ?_
    refine g_iload_n C.1 2 dX1_becomeWorn_12 rfl rfl ?_
    refine g_isub C.1 dX1_becomeWorn_13 ?_
    refine c_callVi (vs := [.int v3, .int (v1 - v2)]) C hsz (cC_X1_take (g_l X) G s _ _ _ _ hw.2) kC_36 kC_100 kC_101 kC_102 kC_99 hdC_X1_take (c_recv1 C hw.1) ⟨(Nat.le_trans (Nat.le_of_ble_eq_true rfl) hR.1), (Nat.le_trans (Nat.le_of_ble_eq_true rfl) hR.2.1)⟩ ⟨(Nat.le_trans (Nat.le_of_ble_eq_true rfl) hR.2.2.1), (Nat.le_trans (Nat.le_of_ble_eq_true rfl) hR.2.2.2)⟩ dX1_becomeWorn_14 rfl (Nat.le_of_ble_eq_true rfl) (fun r5 s4 hw => ?_)
    refine g_iadd C.1 dX1_becomeWorn_17 ?_
    refine g_istore_n (lv' := [(2, .int (v2 + r5)), (0, .ref v0), (1, .int v1), (3, .int v3)]) C.1 dX1_becomeWorn_18 rfl (by decide) rfl ?_
    refine g_iinc (v := v3 + (-1)) (lv' := [(3, .int (v3 + (-1))), (2, .int (v2 + r5)), (0, .ref v0), (1, .int v1)]) C.1 3 dX1_becomeWorn_19 rfl rfl (by decide) rfl ?_
    refine g_goto (tgt := 4) C.1 dX1_becomeWorn_22 (by decide) ?_
    refine gJ.sub [2, 3, 1, 0] rfl ?_
    exact hK4 _ _ _ _ _ hw
theorem wkC_X1_becomeWorn_4 {X : gT} {G : cG} {A : Nat → Prop} {H0 : Heap} {Q : State → Prop} (C : cC X cX1_becomeWorn 4 RX1 G A) (hsz : H0 = (g_s X).heap) (hR : 2 ≤ (g_R X).frames ∧ 47 ≤ (g_R X).locals ∧ 0 ≤ (g_R X).cells ∧ 0 ≤ (g_R X).slots) {post : Int32 → CSt → Prop} (hret : ∀ (r : Int32) (τ : CSt) (lv : List (Nat × Value)) (pc : Nat), post r τ → narrow .int (.int r) = .int r → decode cX1_becomeWorn pc = .ok (.ireturn, 1) → gJ X (cWd G A H0) Q 0 0 τ lv pc [.int r]) (s : CSt) (v0 : Nat) (v1 : Int32) (v2 : Int32) (v3 : Int32) (hw : wpC_X1_becomeWorn_4 post s v0 v1 v2 v3) : gJ X (cWd G A H0) Q 0 0 s [(0, .ref v0), (1, .int v1), (2, .int v2), (3, .int v3)] 4 [] := 
  hw (fun (x : CSt × Nat × Int32 × Int32 × Int32) => (fun s v0 v1 v2 v3 => gJ X (cWd G A H0) Q 0 0 s [(0, .ref v0), (1, .int v1), (2, .int v2), (3, .int v3)] 4 []) x.1 x.2.1 x.2.2.1 x.2.2.2.1 x.2.2.2.2) (fun x hx => wkC_X1_becomeWorn_4_F C hsz hR hret (K4 := (fun s v0 v1 v2 v3 => gJ X (cWd G A H0) Q 0 0 s [(0, .ref v0), (1, .int v1), (2, .int v2), (3, .int v3)] 4 [])) (fun _ _ _ _ _ h => h) x.1 x.2.1 x.2.2.1 x.2.2.2.1 x.2.2.2.2 hx)
theorem wkC_X1_becomeWorn_0 {X : gT} {G : cG} {A : Nat → Prop} {H0 : Heap} {Q : State → Prop} (C : cC X cX1_becomeWorn 4 RX1 G A) (hsz : H0 = (g_s X).heap) (hR : 2 ≤ (g_R X).frames ∧ 47 ≤ (g_R X).locals ∧ 0 ≤ (g_R X).cells ∧ 0 ≤ (g_R X).slots) {post : Int32 → CSt → Prop} (hret : ∀ (r : Int32) (τ : CSt) (lv : List (Nat × Value)) (pc : Nat), post r τ → narrow .int (.int r) = .int r → decode cX1_becomeWorn pc = .ok (.ireturn, 1) → gJ X (cWd G A H0) Q 0 0 τ lv pc [.int r]) (s : CSt) (v0 : Nat) (v1 : Int32) (hw : wpC_X1_becomeWorn_0 post s v0 v1) : gJ X (cWd G A H0) Q 0 0 s [(0, .ref v0), (1, .int v1)] 0 [] := by
  refine g_iconst (v := 0) C.1 dX1_becomeWorn_0 (by decide) ?_
  refine g_istore_n (lv' := [(2, .int 0), (0, .ref v0), (1, .int v1)]) C.1 dX1_becomeWorn_1 rfl (by decide) rfl ?_
  refine g_iconst (v := 2) C.1 dX1_becomeWorn_2 (by decide) ?_
  refine g_istore_n (lv' := [(3, .int 2), (2, .int 0), (0, .ref v0), (1, .int v1)]) C.1 dX1_becomeWorn_3 rfl (by decide) rfl ?_
  refine gJ.sub [2, 3, 1, 0] rfl ?_
  exact wkC_X1_becomeWorn_4 C hsz hR hret _ _ _ _ _ hw
theorem hdC_X1_becomeWorn : yX1_becomeWorn.cls = RX1 ∧ yX1_becomeWorn.cls ≠ "java/lang/invoke/MethodHandle" ∧ yX1_becomeWorn.cls ≠ "java/lang/invoke/VarHandle" ∧ (parseMethodDescriptor yX1_becomeWorn.desc).map (fun d => d.parameters.length) = some 1 := by decide +kernel
theorem cC_X1_becomeWorn (l : Launch) (G : cG) (s : CSt) (v0 : Nat) (v1 : Int32) (post : Int32 → CSt → Prop) (hw : wpC_X1_becomeWorn_0 post s v0 v1) : cMi l yX1_becomeWorn cX1_becomeWorn 4 .int 2 47 0 0 G s [.ref v0, .int v1] post := cMi_of (by decide +kernel) rfl (Nat.le_of_ble_eq_true rfl) (fun X A H0 Q hl hR hsz hnm C hret => wkC_X1_becomeWorn_0 C hsz hR hret s v0 v1 hw)
def wpC_X1_becomePushed_0 (post : Int32 → CSt → Prop) (s : CSt) (v0 : Nat) : Prop := cAt s 1 v0 ∧ wpC_X1_depth_0 (fun r2 s1 => cAt s1 1 v0 ∧ ∃ a3 : Nat, cR s1 17 v0 = some a3 ∧ cAt s1 9 a3 ∧ vp_in 2 (cN s1 a3) ∧ cAt s1 1 v0 ∧ ∃ a4 : Nat, cR s1 17 v0 = some a4 ∧ cAt s1 9 a4 ∧ vp_in 0 (cN s1 a4) ∧ ∀ s5 : CSt, s5 = csV s1 a4 (upd (cV s1 a4) (0 : Int32).toNatClampNeg 0) → cAt s5 1 v0 ∧ ∃ a6 : Nat, cR s5 17 v0 = some a6 ∧ cAt s5 9 a6 ∧ vp_in 1 (cN s5 a6) ∧ ∀ s7 : CSt, s7 = csV s5 a6 (upd (cV s5 a6) (1 : Int32).toNatClampNeg 0) → cAt s7 1 v0 ∧ ∃ a8 : Nat, cR s7 17 v0 = some a8 ∧ cAt s7 9 a8 ∧ vp_in 2 (cN s7 a8) ∧ ∀ s9 : CSt, s9 = csV s7 a8 (upd (cV s7 a8) (2 : Int32).toNatClampNeg r2) → cAt s9 1 v0 ∧ ∃ a10 : Nat, cR s9 17 v0 = some a10 ∧ cAt s9 9 a10 ∧ vp_in 3 (cN s9 a10) ∧ ∀ s11 : CSt, s11 = csV s9 a10 (upd (cV s9 a10) (3 : Int32).toNatClampNeg 0) → post (r2 - (cV s1 a3 (2 : Int32).toNatClampNeg)) s11) s v0
theorem wkC_X1_becomePushed_0 {X : gT} {G : cG} {A : Nat → Prop} {H0 : Heap} {Q : State → Prop} (C : cC X cX1_becomePushed 3 RX1 G A) (hsz : H0 = (g_s X).heap) (hR : 1 ≤ (g_R X).frames ∧ 20 ≤ (g_R X).locals ∧ 0 ≤ (g_R X).cells ∧ 0 ≤ (g_R X).slots) {post : Int32 → CSt → Prop} (hret : ∀ (r : Int32) (τ : CSt) (lv : List (Nat × Value)) (pc : Nat), post r τ → narrow .int (.int r) = .int r → decode cX1_becomePushed pc = .ok (.ireturn, 1) → gJ X (cWd G A H0) Q 0 0 τ lv pc [.int r]) (s : CSt) (v0 : Nat) (hw : wpC_X1_becomePushed_0 post s v0) : gJ X (cWd G A H0) Q 0 0 s [(0, .ref v0)] 0 [] := by
  refine g_aload_n C.1 0 dX1_becomePushed_0 rfl rfl ?_
  refine c_callVi (vs := []) C hsz (cC_X1_depth (g_l X) G s _ _ hw.2) kC_36 kC_105 kC_34 kC_35 kC_37 hdC_X1_depth (c_recv1 C hw.1) ⟨(Nat.le_trans (Nat.le_of_ble_eq_true rfl) hR.1), (Nat.le_trans (Nat.le_of_ble_eq_true rfl) hR.2.1)⟩ ⟨(Nat.le_trans (Nat.le_of_ble_eq_true rfl) hR.2.2.1), (Nat.le_trans (Nat.le_of_ble_eq_true rfl) hR.2.2.2)⟩ dX1_becomePushed_1 rfl (Nat.le_of_ble_eq_true rfl) (fun r2 s1 hw => ?_)
  refine g_istore_n (lv' := [(1, .int r2), (0, .ref v0)]) C.1 dX1_becomePushed_4 rfl (by decide) rfl ?_
  refine g_iload_n C.1 0 dX1_becomePushed_5 rfl rfl ?_
  refine g_aload_n C.1 1 dX1_becomePushed_6 rfl rfl ?_
  refine c_get1 C hw.1 1 (by decide) kC_38 (fun _ h => h) rfl dX1_becomePushed_7 ?_
  replace hw := hw.2
  obtain ⟨a3, ha3, hw⟩ := hw
  rw [ha3]
  refine g_iconst (v := 2) C.1 dX1_becomePushed_10 (by decide) ?_
  refine c_iald C hw.1 hw.2.1 dX1_becomePushed_11 ?_
  replace hw := hw.2.2
  refine g_isub C.1 dX1_becomePushed_12 ?_
  refine g_istore_n (lv' := [(2, .int (r2 - (cV s1 a3 (2 : Int32).toNatClampNeg))), (1, .int r2), (0, .ref v0)]) C.1 dX1_becomePushed_13 rfl (by decide) rfl ?_
  refine g_aload_n C.1 2 dX1_becomePushed_14 rfl rfl ?_
  refine c_get1 C hw.1 1 (by decide) kC_38 (fun _ h => h) rfl dX1_becomePushed_15 ?_
  replace hw := hw.2
  obtain ⟨a4, ha4, hw⟩ := hw
  rw [ha4]
  refine g_iconst (v := 0) C.1 dX1_becomePushed_18 (by decide) ?_
  refine g_iconst (v := 0) C.1 dX1_becomePushed_19 (by decide) ?_
  refine c_iast C hw.1 hw.2.1 dX1_becomePushed_20 ?_
  replace hw := hw.2.2
  refine gJ.nm (fun s5 es5 => ?_)
  replace hw := hw s5 es5
  refine g_aload_n C.1 2 dX1_becomePushed_21 rfl rfl ?_
  refine c_get1 C hw.1 1 (by decide) kC_38 (fun _ h => h) rfl dX1_becomePushed_22 ?_
  replace hw := hw.2
  obtain ⟨a6, ha6, hw⟩ := hw
  rw [ha6]
  refine g_iconst (v := 1) C.1 dX1_becomePushed_25 (by decide) ?_
  refine g_iconst (v := 0) C.1 dX1_becomePushed_26 (by decide) ?_
  refine c_iast C hw.1 hw.2.1 dX1_becomePushed_27 ?_
  replace hw := hw.2.2
  refine gJ.nm (fun s7 es7 => ?_)
  replace hw := hw s7 es7
  refine g_aload_n C.1 2 dX1_becomePushed_28 rfl rfl ?_
  refine c_get1 C hw.1 1 (by decide) kC_38 (fun _ h => h) rfl dX1_becomePushed_29 ?_
  replace hw := hw.2
  obtain ⟨a8, ha8, hw⟩ := hw
  rw [ha8]
  refine g_iconst (v := 2) C.1 dX1_becomePushed_32 (by decide) ?_
  refine g_iload_n C.1 1 dX1_becomePushed_33 rfl rfl ?_
  refine c_iast C hw.1 hw.2.1 dX1_becomePushed_34 ?_
  replace hw := hw.2.2
  refine gJ.nm (fun s9 es9 => ?_)
  replace hw := hw s9 es9
  refine g_aload_n C.1 2 dX1_becomePushed_35 rfl rfl ?_
  refine c_get1 C hw.1 1 (by decide) kC_38 (fun _ h => h) rfl dX1_becomePushed_36 ?_
  replace hw := hw.2
  obtain ⟨a10, ha10, hw⟩ := hw
  rw [ha10]
  refine g_iconst (v := 3) C.1 dX1_becomePushed_39 (by decide) ?_
  refine g_iconst (v := 0) C.1 dX1_becomePushed_40 (by decide) ?_
  refine c_iast C hw.1 hw.2.1 dX1_becomePushed_41 ?_
  replace hw := hw.2.2
  refine gJ.nm (fun s11 es11 => ?_)
  replace hw := hw s11 es11
  refine g_iload_n C.1 0 dX1_becomePushed_42 rfl rfl ?_
  exact hret _ _ _ _ hw rfl dX1_becomePushed_43
theorem hdC_X1_becomePushed : yX1_becomePushed.cls = RX1 ∧ yX1_becomePushed.cls ≠ "java/lang/invoke/MethodHandle" ∧ yX1_becomePushed.cls ≠ "java/lang/invoke/VarHandle" ∧ (parseMethodDescriptor yX1_becomePushed.desc).map (fun d => d.parameters.length) = some 0 := by decide +kernel
theorem cC_X1_becomePushed (l : Launch) (G : cG) (s : CSt) (v0 : Nat) (post : Int32 → CSt → Prop) (hw : wpC_X1_becomePushed_0 post s v0) : cMi l yX1_becomePushed cX1_becomePushed 3 .int 1 20 0 0 G s [.ref v0] post := cMi_of (by decide +kernel) rfl (Nat.le_of_ble_eq_true rfl) (fun X A H0 Q hl hR hsz hnm C hret => wkC_X1_becomePushed_0 C hsz hR hret s v0 hw)
def wpC_X1_priceTells_27 (post : Int64 → CSt → Prop) (s : CSt) (v0 : Nat) (v1 : Int64) : Prop := cAt s 1 v0 ∧ post (v1 * ((cI s 19 v0).toInt64)) s
def wpC_X1_priceTells_0 (post : Int64 → CSt → Prop) (s : CSt) (v0 : Nat) : Prop := cAt s 1 v0 ∧ cAt s 1 v0 ∧ wpC_X1_depth_0 (fun r2 s1 => (0 ≤ (lg_cmp (((cI s 18 v0).toInt64) - r2.toInt64) 0) → wpC_X1_priceTells_27 post s1 v0 (((cI s 18 v0).toInt64) - r2.toInt64)) ∧ (¬ 0 ≤ (lg_cmp (((cI s 18 v0).toInt64) - r2.toInt64) 0) → cAt s1 1 v0 ∧ (0 < (cI s1 19 v0) → wpC_X1_priceTells_27 post s1 v0 (((cI s 18 v0).toInt64) - r2.toInt64)) ∧ (¬ 0 < (cI s1 19 v0) → post 0 s1))) s v0
theorem wkC_X1_priceTells_27 {X : gT} {G : cG} {A : Nat → Prop} {H0 : Heap} {Q : State → Prop} (C : cC X cX1_priceTells 3 RX1 G A) (hsz : H0 = (g_s X).heap) (hR : 1 ≤ (g_R X).frames ∧ 20 ≤ (g_R X).locals ∧ 0 ≤ (g_R X).cells ∧ 0 ≤ (g_R X).slots) {post : Int64 → CSt → Prop} (hret : ∀ (r : Int64) (τ : CSt) (lv : List (Nat × Value)) (pc : Nat), post r τ → decode cX1_priceTells pc = .ok (.lreturn, 1) → gJ X (cWd G A H0) Q 0 0 τ lv pc [.long r]) (s : CSt) (v0 : Nat) (v1 : Int64) (hw : wpC_X1_priceTells_27 post s v0 v1) : gJ X (cWd G A H0) Q 0 0 s [(0, .ref v0), (1, .long v1)] 27 [] := by
  refine g_lload_n C.1 1 dX1_priceTells_27 rfl rfl ?_
  refine g_aload_n C.1 0 dX1_priceTells_28 rfl rfl ?_
  refine c_get1 C hw.1 3 (by decide) kC_108 (fun _ h => h) rfl dX1_priceTells_29 ?_
  replace hw := hw.2
  refine g_i2l C.1 dX1_priceTells_32 ?_
  refine g_lmul C.1 dX1_priceTells_33 ?_
  exact hret _ _ _ _ hw dX1_priceTells_34
theorem wkC_X1_priceTells_0 {X : gT} {G : cG} {A : Nat → Prop} {H0 : Heap} {Q : State → Prop} (C : cC X cX1_priceTells 3 RX1 G A) (hsz : H0 = (g_s X).heap) (hR : 1 ≤ (g_R X).frames ∧ 20 ≤ (g_R X).locals ∧ 0 ≤ (g_R X).cells ∧ 0 ≤ (g_R X).slots) {post : Int64 → CSt → Prop} (hret : ∀ (r : Int64) (τ : CSt) (lv : List (Nat × Value)) (pc : Nat), post r τ → decode cX1_priceTells pc = .ok (.lreturn, 1) → gJ X (cWd G A H0) Q 0 0 τ lv pc [.long r]) (s : CSt) (v0 : Nat) (hw : wpC_X1_priceTells_0 post s v0) : gJ X (cWd G A H0) Q 0 0 s [(0, .ref v0)] 0 [] := by
  refine g_aload_n C.1 0 dX1_priceTells_0 rfl rfl ?_
  refine c_get1 C hw.1 2 (by decide) kC_107 (fun _ h => h) rfl dX1_priceTells_1 ?_
  replace hw := hw.2
  refine g_i2l C.1 dX1_priceTells_4 ?_
  refine g_aload_n C.1 0 dX1_priceTells_5 rfl rfl ?_
  refine c_callVi (vs := []) C hsz (cC_X1_depth (g_l X) G s _ _ hw.2) kC_36 kC_105 kC_34 kC_35 kC_37 hdC_X1_depth (c_recv1 C hw.1) ⟨(Nat.le_trans (Nat.le_of_ble_eq_true rfl) hR.1), (Nat.le_trans (Nat.le_of_ble_eq_true rfl) hR.2.1)⟩ ⟨(Nat.le_trans (Nat.le_of_ble_eq_true rfl) hR.2.2.1), (Nat.le_trans (Nat.le_of_ble_eq_true rfl) hR.2.2.2)⟩ dX1_priceTells_6 rfl (Nat.le_of_ble_eq_true rfl) (fun r2 s1 hw => ?_)
  refine g_i2l C.1 dX1_priceTells_9 ?_
  refine g_lsub C.1 dX1_priceTells_10 ?_
  refine g_lstore_n (lv' := [(1, .long (((cI s 18 v0).toInt64) - r2.toInt64)), (0, .ref v0)]) C.1 dX1_priceTells_11 rfl (by decide) rfl ?_
  refine g_lload_n C.1 0 dX1_priceTells_12 rfl rfl ?_
  refine g_lconst (v := 0) C.1 dX1_priceTells_13 (by decide) ?_
  refine g_lcmp C.1 dX1_priceTells_14 ?_
  refine g_if_ge (tgt := 27) C.1 dX1_priceTells_15 (by decide) (fun h3 => ?_) (fun h3 => ?_)
  · replace hw := hw.1 h3
    refine gJ.sub [1, 0] rfl ?_
    exact wkC_X1_priceTells_27 C hsz hR hret _ _ _ hw
  · replace hw := hw.2 h3
    refine g_aload_n C.1 1 dX1_priceTells_18 rfl rfl ?_
    refine c_get1 C hw.1 3 (by decide) kC_108 (fun _ h => h) rfl dX1_priceTells_19 ?_
    replace hw := hw.2
    refine g_if_gt (tgt := 27) C.1 dX1_priceTells_22 (by decide) (fun h4 => ?_) (fun h4 => ?_)
    · replace hw := hw.1 h4
      refine gJ.sub [1, 0] rfl ?_
      exact wkC_X1_priceTells_27 C hsz hR hret _ _ _ hw
    · replace hw := hw.2 h4
      refine g_lconst (v := 0) C.1 dX1_priceTells_25 (by decide) ?_
      exact hret _ _ _ _ hw dX1_priceTells_26
theorem hdC_X1_priceTells : yX1_priceTells.cls = RX1 ∧ yX1_priceTells.cls ≠ "java/lang/invoke/MethodHandle" ∧ yX1_priceTells.cls ≠ "java/lang/invoke/VarHandle" ∧ (parseMethodDescriptor yX1_priceTells.desc).map (fun d => d.parameters.length) = some 0 := by decide +kernel
theorem cC_X1_priceTells (l : Launch) (G : cG) (s : CSt) (v0 : Nat) (post : Int64 → CSt → Prop) (hw : wpC_X1_priceTells_0 post s v0) : cMl l yX1_priceTells cX1_priceTells 3 1 20 0 0 G s [.ref v0] post := cMl_of (by decide +kernel) rfl (Nat.le_of_ble_eq_true rfl) (fun X A H0 Q hl hR hsz hnm C hret => wkC_X1_priceTells_0 C hsz hR hret s v0 hw)
def wpC_X2_goOn_17 (post : CSt → Prop) (s : CSt) (v0 : Nat) : Prop := cAt s 2 v0 ∧ cAt s 2 v0 ∧ ∀ s1 : CSt, s1 = csI s 38 v0 ((cI s 38 v0) - 1) → cAt s1 2 v0 ∧ (¬ (cI s1 38 v0) = 0 → post s1) ∧ ((cI s1 38 v0) = 0 → cAt s1 2 v0 ∧ ∀ s3 : CSt, s3 = csI s1 35 v0 0 → cAt s3 2 v0 ∧ cAt s3 2 v0 ∧ ∀ s4 : CSt, s4 = csI s3 36 v0 (cI s3 37 v0) → post s4)
def wpC_X2_goOn_0 (post : CSt → Prop) (s : CSt) (v0 : Nat) : Prop := cAt s 2 v0 ∧ ((cI s 35 v0) = 2 → wpC_X2_goOn_17 post s v0) ∧ (¬ (cI s 35 v0) = 2 → cAt s 2 v0 ∧ ((cI s 35 v0) = 3 → wpC_X2_goOn_17 post s v0) ∧ (¬ (cI s 35 v0) = 3 → post s))
theorem wkC_X2_goOn_17 {X : gT} {G : cG} {A : Nat → Prop} {H0 : Heap} {Q : State → Prop} (C : cC X cX2_goOn 1 RX2 G A) (hsz : H0 = (g_s X).heap) (hR : 0 ≤ (g_R X).frames ∧ 0 ≤ (g_R X).locals ∧ 0 ≤ (g_R X).cells ∧ 0 ≤ (g_R X).slots) {post : CSt → Prop} (hret : ∀ (τ : CSt) (lv : List (Nat × Value)) (pc : Nat), post τ → decode cX2_goOn pc = .ok (.return_, 1) → gJ X (cWd G A H0) Q 0 0 τ lv pc []) (s : CSt) (v0 : Nat) (hw : wpC_X2_goOn_17 post s v0) : gJ X (cWd G A H0) Q 0 0 s [(0, .ref v0)] 17 [] := by
  refine g_aload_n C.1 0 dX2_goOn_17 rfl rfl ?_
  refine g_dup C.1 dX2_goOn_18 rfl ?_
  refine c_get2 C hw.1 6 (by decide) kC_117 (fun _ h => h) rfl dX2_goOn_19 ?_
  replace hw := hw.2
  refine g_iconst (v := 1) C.1 dX2_goOn_22 (by decide) ?_
  refine g_isub C.1 dX2_goOn_23 ?_
  refine c_put2 C (τ := csI s 38 v0 ((cI s 38 v0) - 1)) hw.1 6 (by decide) kC_117 (fun _ h => h) rfl (ty := .int) (by decide +kernel) rfl rfl rfl hw.1.2 rfl (cx_2_6 _ _ _) (fun _ hb => csI_o hb) dX2_goOn_24 ?_
  replace hw := hw.2
  refine gJ.nm (fun s1 es1 => ?_)
  replace hw := hw s1 es1
  refine g_aload_n C.1 0 dX2_goOn_27 rfl rfl ?_
  refine c_get2 C hw.1 6 (by decide) kC_117 (fun _ h => h) rfl dX2_goOn_28 ?_
  replace hw := hw.2
  refine g_if_ne (tgt := 47) C.1 dX2_goOn_31 (by decide) (fun h2 => ?_) (fun h2 => ?_)
  · replace hw := hw.1 h2
    exact hret _ _ _ hw dX2_goOn_47
  · replace hw := hw.2 h2
    refine g_aload_n C.1 0 dX2_goOn_34 rfl rfl ?_
    refine g_iconst (v := 0) C.1 dX2_goOn_35 (by decide) ?_
    refine c_put2 C (τ := csI s1 35 v0 0) hw.1 3 (by decide) kC_111 (fun _ h => h) rfl (ty := .int) (by decide +kernel) rfl rfl rfl hw.1.2 rfl (cx_2_3 _ _ _) (fun _ hb => csI_o hb) dX2_goOn_36 ?_
    replace hw := hw.2
    refine gJ.nm (fun s3 es3 => ?_)
    replace hw := hw s3 es3
    refine g_aload_n C.1 0 dX2_goOn_39 rfl rfl ?_
    refine g_aload_n C.1 0 dX2_goOn_40 rfl rfl ?_
    refine c_get2 C hw.1 5 (by decide) kC_118 (fun _ h => h) rfl dX2_goOn_41 ?_
    replace hw := hw.2
    refine c_put2 C (τ := csI s3 36 v0 (cI s3 37 v0)) hw.1 4 (by decide) kC_115 (fun _ h => h) rfl (ty := .int) (by decide +kernel) rfl rfl rfl hw.1.2 rfl (cx_2_4 _ _ _) (fun _ hb => csI_o hb) dX2_goOn_44 ?_
    replace hw := hw.2
    refine gJ.nm (fun s4 es4 => ?_)
    replace hw := hw s4 es4
    exact hret _ _ _ hw dX2_goOn_47
theorem wkC_X2_goOn_0 {X : gT} {G : cG} {A : Nat → Prop} {H0 : Heap} {Q : State → Prop} (C : cC X cX2_goOn 1 RX2 G A) (hsz : H0 = (g_s X).heap) (hR : 0 ≤ (g_R X).frames ∧ 0 ≤ (g_R X).locals ∧ 0 ≤ (g_R X).cells ∧ 0 ≤ (g_R X).slots) {post : CSt → Prop} (hret : ∀ (τ : CSt) (lv : List (Nat × Value)) (pc : Nat), post τ → decode cX2_goOn pc = .ok (.return_, 1) → gJ X (cWd G A H0) Q 0 0 τ lv pc []) (s : CSt) (v0 : Nat) (hw : wpC_X2_goOn_0 post s v0) : gJ X (cWd G A H0) Q 0 0 s [(0, .ref v0)] 0 [] := by
  refine g_aload_n C.1 0 dX2_goOn_0 rfl rfl ?_
  refine c_get2 C hw.1 3 (by decide) kC_111 (fun _ h => h) rfl dX2_goOn_1 ?_
  replace hw := hw.2
  refine g_iconst (v := 2) C.1 dX2_goOn_4 (by decide) ?_
  refine g_icmp_eq (tgt := 17) C.1 dX2_goOn_5 (by decide) (fun h5 => ?_) (fun h5 => ?_)
  · replace hw := hw.1 h5
    exact wkC_X2_goOn_17 C hsz hR hret _ _ hw
  · replace hw := hw.2 h5
    refine g_aload_n C.1 0 dX2_goOn_8 rfl rfl ?_
    refine c_get2 C hw.1 3 (by decide) kC_111 (fun _ h => h) rfl dX2_goOn_9 ?_
    replace hw := hw.2
    refine g_iconst (v := 3) C.1 dX2_goOn_12 (by decide) ?_
    refine g_icmp_eq (tgt := 17) C.1 dX2_goOn_13 (by decide) (fun h6 => ?_) (fun h6 => ?_)
    · replace hw := hw.1 h6
      exact wkC_X2_goOn_17 C hsz hR hret _ _ hw
    · replace hw := hw.2 h6
      exact hret _ _ _ hw dX2_goOn_16
theorem hdC_X2_goOn : yX2_goOn.cls = RX2 ∧ yX2_goOn.cls ≠ "java/lang/invoke/MethodHandle" ∧ yX2_goOn.cls ≠ "java/lang/invoke/VarHandle" ∧ (parseMethodDescriptor yX2_goOn.desc).map (fun d => d.parameters.length) = some 0 := by decide +kernel
theorem cC_X2_goOn (l : Launch) (G : cG) (s : CSt) (v0 : Nat) (post : CSt → Prop) (hw : wpC_X2_goOn_0 post s v0) : cMv l yX2_goOn cX2_goOn 1 0 0 0 0 G s [.ref v0] post := cMv_of (by decide +kernel) rfl (Nat.le_of_ble_eq_true rfl) (fun X A H0 Q hl hR hsz hnm C hret => wkC_X2_goOn_0 C hsz hR hret s v0 hw)
def wpC_X2_goDown_0 (post : CSt → Prop) (s : CSt) (v0 : Nat) (v1 : Nat) : Prop := cAt s 2 v0 ∧ ∀ s1 : CSt, s1 = csI s 35 v0 3 → cAt s1 6 v1 ∧ cAt s1 2 v0 ∧ ∀ s2 : CSt, s2 = csI s1 36 v0 (cI s1 96 v1) → cAt s2 6 v1 ∧ cAt s2 2 v0 ∧ ∀ s3 : CSt, s3 = csI s2 37 v0 (cI s2 98 v1) → cAt s3 6 v1 ∧ cAt s3 2 v0 ∧ ∀ s4 : CSt, s4 = csI s3 38 v0 (cI s3 99 v1) → cAt s4 2 v0 ∧ cAt s4 2 v0 ∧ ∀ s5 : CSt, s5 = csI s4 40 v0 ((cI s4 40 v0) + 1) → post s5
theorem wkC_X2_goDown_0 {X : gT} {G : cG} {A : Nat → Prop} {H0 : Heap} {Q : State → Prop} (C : cC X cX2_goDown 2 RX2 G A) (hsz : H0 = (g_s X).heap) (hR : 0 ≤ (g_R X).frames ∧ 0 ≤ (g_R X).locals ∧ 0 ≤ (g_R X).cells ∧ 0 ≤ (g_R X).slots) {post : CSt → Prop} (hret : ∀ (τ : CSt) (lv : List (Nat × Value)) (pc : Nat), post τ → decode cX2_goDown pc = .ok (.return_, 1) → gJ X (cWd G A H0) Q 0 0 τ lv pc []) (s : CSt) (v0 : Nat) (v1 : Nat) (hw : wpC_X2_goDown_0 post s v0 v1) : gJ X (cWd G A H0) Q 0 0 s [(0, .ref v0), (1, .ref v1)] 0 [] := by
  refine g_aload_n C.1 0 dX2_goDown_0 rfl rfl ?_
  refine g_iconst (v := 3) C.1 dX2_goDown_1 (by decide) ?_
  refine c_put2 C (τ := csI s 35 v0 3) hw.1 3 (by decide) kC_111 (fun _ h => h) rfl (ty := .int) (by decide +kernel) rfl rfl rfl hw.1.2 rfl (cx_2_3 _ _ _) (fun _ hb => csI_o hb) dX2_goDown_2 ?_
  replace hw := hw.2
  refine gJ.nm (fun s1 es1 => ?_)
  replace hw := hw s1 es1
  refine g_aload_n C.1 0 dX2_goDown_5 rfl rfl ?_
  refine g_aload_n C.1 1 dX2_goDown_6 rfl rfl ?_
  refine c_get6 C hw.1 0 (by decide) kC_120 (fun _ h => h) rfl dX2_goDown_7 ?_
  replace hw := hw.2
  refine c_put2 C (τ := csI s1 36 v0 (cI s1 96 v1)) hw.1 4 (by decide) kC_115 (fun _ h => h) rfl (ty := .int) (by decide +kernel) rfl rfl rfl hw.1.2 rfl (cx_2_4 _ _ _) (fun _ hb => csI_o hb) dX2_goDown_10 ?_
  replace hw := hw.2
  refine gJ.nm (fun s2 es2 => ?_)
  replace hw := hw s2 es2
  refine g_aload_n C.1 0 dX2_goDown_13 rfl rfl ?_
  refine g_aload_n C.1 1 dX2_goDown_14 rfl rfl ?_
  refine c_get6 C hw.1 2 (by decide) kC_121 (fun _ h => h) rfl dX2_goDown_15 ?_
  replace hw := hw.2
  refine c_put2 C (τ := csI s2 37 v0 (cI s2 98 v1)) hw.1 5 (by decide) kC_118 (fun _ h => h) rfl (ty := .int) (by decide +kernel) rfl rfl rfl hw.1.2 rfl (cx_2_5 _ _ _) (fun _ hb => csI_o hb) dX2_goDown_18 ?_
  replace hw := hw.2
  refine gJ.nm (fun s3 es3 => ?_)
  replace hw := hw s3 es3
  refine g_aload_n C.1 0 dX2_goDown_21 rfl rfl ?_
  refine g_aload_n C.1 1 dX2_goDown_22 rfl rfl ?_
  refine c_get6 C hw.1 3 (by decide) kC_122 (fun _ h => h) rfl dX2_goDown_23 ?_
  replace hw := hw.2
  refine c_put2 C (τ := csI s3 38 v0 (cI s3 99 v1)) hw.1 6 (by decide) kC_117 (fun _ h => h) rfl (ty := .int) (by decide +kernel) rfl rfl rfl hw.1.2 rfl (cx_2_6 _ _ _) (fun _ hb => csI_o hb) dX2_goDown_26 ?_
  replace hw := hw.2
  refine gJ.nm (fun s4 es4 => ?_)
  replace hw := hw s4 es4
  refine g_aload_n C.1 0 dX2_goDown_29 rfl rfl ?_
  refine g_dup C.1 dX2_goDown_30 rfl ?_
  refine c_get2 C hw.1 8 (by decide) kC_123 (fun _ h => h) rfl dX2_goDown_31 ?_
  replace hw := hw.2
  refine g_iconst (v := 1) C.1 dX2_goDown_34 (by decide) ?_
  refine g_iadd C.1 dX2_goDown_35 ?_
  refine c_put2 C (τ := csI s4 40 v0 ((cI s4 40 v0) + 1)) hw.1 8 (by decide) kC_123 (fun _ h => h) rfl (ty := .int) (by decide +kernel) rfl rfl rfl hw.1.2 rfl (cx_2_8 _ _ _) (fun _ hb => csI_o hb) dX2_goDown_36 ?_
  replace hw := hw.2
  refine gJ.nm (fun s5 es5 => ?_)
  replace hw := hw s5 es5
  exact hret _ _ _ hw dX2_goDown_39
theorem hdC_X2_goDown : yX2_goDown.cls = RX2 ∧ yX2_goDown.cls ≠ "java/lang/invoke/MethodHandle" ∧ yX2_goDown.cls ≠ "java/lang/invoke/VarHandle" ∧ (parseMethodDescriptor yX2_goDown.desc).map (fun d => d.parameters.length) = some 1 := by decide +kernel
theorem cC_X2_goDown (l : Launch) (G : cG) (s : CSt) (v0 : Nat) (v1 : Nat) (post : CSt → Prop) (hw : wpC_X2_goDown_0 post s v0 v1) : cMv l yX2_goDown cX2_goDown 2 0 0 0 0 G s [.ref v0, .ref v1] post := cMv_of (by decide +kernel) rfl (Nat.le_of_ble_eq_true rfl) (fun X A H0 Q hl hR hsz hnm C hret => wkC_X2_goDown_0 C hsz hR hret s v0 v1 hw)
def wpC_X2_waitAt_0 (post : CSt → Prop) (s : CSt) (v0 : Nat) (v1 : Nat) : Prop := cAt s 2 v0 ∧ ∀ s1 : CSt, s1 = csI s 35 v0 1 → cAt s1 3 v1 ∧ cAt s1 2 v0 ∧ ∀ s2 : CSt, s2 = csI s1 36 v0 (cI s1 48 v1) → post s2
theorem wkC_X2_waitAt_0 {X : gT} {G : cG} {A : Nat → Prop} {H0 : Heap} {Q : State → Prop} (C : cC X cX2_waitAt 2 RX2 G A) (hsz : H0 = (g_s X).heap) (hR : 0 ≤ (g_R X).frames ∧ 0 ≤ (g_R X).locals ∧ 0 ≤ (g_R X).cells ∧ 0 ≤ (g_R X).slots) {post : CSt → Prop} (hret : ∀ (τ : CSt) (lv : List (Nat × Value)) (pc : Nat), post τ → decode cX2_waitAt pc = .ok (.return_, 1) → gJ X (cWd G A H0) Q 0 0 τ lv pc []) (s : CSt) (v0 : Nat) (v1 : Nat) (hw : wpC_X2_waitAt_0 post s v0 v1) : gJ X (cWd G A H0) Q 0 0 s [(0, .ref v0), (1, .ref v1)] 0 [] := by
  refine g_aload_n C.1 0 dX2_waitAt_0 rfl rfl ?_
  refine g_iconst (v := 1) C.1 dX2_waitAt_1 (by decide) ?_
  refine c_put2 C (τ := csI s 35 v0 1) hw.1 3 (by decide) kC_111 (fun _ h => h) rfl (ty := .int) (by decide +kernel) rfl rfl rfl hw.1.2 rfl (cx_2_3 _ _ _) (fun _ hb => csI_o hb) dX2_waitAt_2 ?_
  replace hw := hw.2
  refine gJ.nm (fun s1 es1 => ?_)
  replace hw := hw s1 es1
  refine g_aload_n C.1 0 dX2_waitAt_5 rfl rfl ?_
  refine g_aload_n C.1 1 dX2_waitAt_6 rfl rfl ?_
  refine c_get3 C hw.1 0 (by decide) kC_125 (fun _ h => h) rfl dX2_waitAt_7 ?_
  replace hw := hw.2
  refine c_put2 C (τ := csI s1 36 v0 (cI s1 48 v1)) hw.1 4 (by decide) kC_115 (fun _ h => h) rfl (ty := .int) (by decide +kernel) rfl rfl rfl hw.1.2 rfl (cx_2_4 _ _ _) (fun _ hb => csI_o hb) dX2_waitAt_10 ?_
  replace hw := hw.2
  refine gJ.nm (fun s2 es2 => ?_)
  replace hw := hw s2 es2
  exact hret _ _ _ hw dX2_waitAt_13
theorem hdC_X2_waitAt : yX2_waitAt.cls = RX2 ∧ yX2_waitAt.cls ≠ "java/lang/invoke/MethodHandle" ∧ yX2_waitAt.cls ≠ "java/lang/invoke/VarHandle" ∧ (parseMethodDescriptor yX2_waitAt.desc).map (fun d => d.parameters.length) = some 1 := by decide +kernel
theorem cC_X2_waitAt (l : Launch) (G : cG) (s : CSt) (v0 : Nat) (v1 : Nat) (post : CSt → Prop) (hw : wpC_X2_waitAt_0 post s v0 v1) : cMv l yX2_waitAt cX2_waitAt 2 0 0 0 0 G s [.ref v0, .ref v1] post := cMv_of (by decide +kernel) rfl (Nat.le_of_ble_eq_true rfl) (fun X A H0 Q hl hR hsz hnm C hret => wkC_X2_waitAt_0 C hsz hR hret s v0 v1 hw)
def wpC_X2_rideOn_0 (post : CSt → Prop) (s : CSt) (v0 : Nat) (v1 : Nat) : Prop := cAt s 2 v0 ∧ ∀ s1 : CSt, s1 = csI s 35 v0 2 → cAt s1 3 v1 ∧ cAt s1 2 v0 ∧ ∀ s2 : CSt, s2 = csI s1 37 v0 (cI s1 50 v1) → cAt s2 3 v1 ∧ cAt s2 2 v0 ∧ ∀ s3 : CSt, s3 = csI s2 38 v0 (cI s2 52 v1) → cAt s3 2 v0 ∧ cAt s3 2 v0 ∧ ∀ s4 : CSt, s4 = csI s3 39 v0 ((cI s3 39 v0) + 1) → post s4
theorem wkC_X2_rideOn_0 {X : gT} {G : cG} {A : Nat → Prop} {H0 : Heap} {Q : State → Prop} (C : cC X cX2_rideOn 2 RX2 G A) (hsz : H0 = (g_s X).heap) (hR : 0 ≤ (g_R X).frames ∧ 0 ≤ (g_R X).locals ∧ 0 ≤ (g_R X).cells ∧ 0 ≤ (g_R X).slots) {post : CSt → Prop} (hret : ∀ (τ : CSt) (lv : List (Nat × Value)) (pc : Nat), post τ → decode cX2_rideOn pc = .ok (.return_, 1) → gJ X (cWd G A H0) Q 0 0 τ lv pc []) (s : CSt) (v0 : Nat) (v1 : Nat) (hw : wpC_X2_rideOn_0 post s v0 v1) : gJ X (cWd G A H0) Q 0 0 s [(0, .ref v0), (1, .ref v1)] 0 [] := by
  refine g_aload_n C.1 0 dX2_rideOn_0 rfl rfl ?_
  refine g_iconst (v := 2) C.1 dX2_rideOn_1 (by decide) ?_
  refine c_put2 C (τ := csI s 35 v0 2) hw.1 3 (by decide) kC_111 (fun _ h => h) rfl (ty := .int) (by decide +kernel) rfl rfl rfl hw.1.2 rfl (cx_2_3 _ _ _) (fun _ hb => csI_o hb) dX2_rideOn_2 ?_
  replace hw := hw.2
  refine gJ.nm (fun s1 es1 => ?_)
  replace hw := hw s1 es1
  refine g_aload_n C.1 0 dX2_rideOn_5 rfl rfl ?_
  refine g_aload_n C.1 1 dX2_rideOn_6 rfl rfl ?_
  refine c_get3 C hw.1 2 (by decide) kC_127 (fun _ h => h) rfl dX2_rideOn_7 ?_
  replace hw := hw.2
  refine c_put2 C (τ := csI s1 37 v0 (cI s1 50 v1)) hw.1 5 (by decide) kC_118 (fun _ h => h) rfl (ty := .int) (by decide +kernel) rfl rfl rfl hw.1.2 rfl (cx_2_5 _ _ _) (fun _ hb => csI_o hb) dX2_rideOn_10 ?_
  replace hw := hw.2
  refine gJ.nm (fun s2 es2 => ?_)
  replace hw := hw s2 es2
  refine g_aload_n C.1 0 dX2_rideOn_13 rfl rfl ?_
  refine g_aload_n C.1 1 dX2_rideOn_14 rfl rfl ?_
  refine c_get3 C hw.1 4 (by decide) kC_128 (fun _ h => h) rfl dX2_rideOn_15 ?_
  replace hw := hw.2
  refine c_put2 C (τ := csI s2 38 v0 (cI s2 52 v1)) hw.1 6 (by decide) kC_117 (fun _ h => h) rfl (ty := .int) (by decide +kernel) rfl rfl rfl hw.1.2 rfl (cx_2_6 _ _ _) (fun _ hb => csI_o hb) dX2_rideOn_18 ?_
  replace hw := hw.2
  refine gJ.nm (fun s3 es3 => ?_)
  replace hw := hw s3 es3
  refine g_aload_n C.1 0 dX2_rideOn_21 rfl rfl ?_
  refine g_dup C.1 dX2_rideOn_22 rfl ?_
  refine c_get2 C hw.1 7 (by decide) kC_129 (fun _ h => h) rfl dX2_rideOn_23 ?_
  replace hw := hw.2
  refine g_iconst (v := 1) C.1 dX2_rideOn_26 (by decide) ?_
  refine g_iadd C.1 dX2_rideOn_27 ?_
  refine c_put2 C (τ := csI s3 39 v0 ((cI s3 39 v0) + 1)) hw.1 7 (by decide) kC_129 (fun _ h => h) rfl (ty := .int) (by decide +kernel) rfl rfl rfl hw.1.2 rfl (cx_2_7 _ _ _) (fun _ hb => csI_o hb) dX2_rideOn_28 ?_
  replace hw := hw.2
  refine gJ.nm (fun s4 es4 => ?_)
  replace hw := hw s4 es4
  exact hret _ _ _ hw dX2_rideOn_31
theorem hdC_X2_rideOn : yX2_rideOn.cls = RX2 ∧ yX2_rideOn.cls ≠ "java/lang/invoke/MethodHandle" ∧ yX2_rideOn.cls ≠ "java/lang/invoke/VarHandle" ∧ (parseMethodDescriptor yX2_rideOn.desc).map (fun d => d.parameters.length) = some 1 := by decide +kernel
theorem cC_X2_rideOn (l : Launch) (G : cG) (s : CSt) (v0 : Nat) (v1 : Nat) (post : CSt → Prop) (hw : wpC_X2_rideOn_0 post s v0 v1) : cMv l yX2_rideOn cX2_rideOn 2 0 0 0 0 G s [.ref v0, .ref v1] post := cMv_of (by decide +kernel) rfl (Nat.le_of_ble_eq_true rfl) (fun X A H0 Q hl hR hsz hnm C hret => wkC_X2_rideOn_0 C hsz hR hret s v0 v1 hw)
def wpC_X4_takesPrices_0 (post : Int32 → CSt → Prop) (s : CSt) (v0 : Nat) : Prop := cAt s 4 v0 ∧ ∃ a1 : Nat, cR s 64 v0 = some a1 ∧ cAt s 1 a1 ∧ cAt s 4 v0 ∧ ∃ a2 : Nat, cR s 65 v0 = some a2 ∧ cAt s 1 a2 ∧ ∀ x3 : Int32, x3 = (if 0 ≤ ((cI s 19 a1) - (cI s 19 a2)) then ((cI s 19 a1) - (cI s 19 a2)) else 0 - ((cI s 19 a1) - (cI s 19 a2))) → cAt s 4 v0 ∧ ((cI s 66 v0) < x3 → post 0 s) ∧ (¬ (cI s 66 v0) < x3 → post 1 s)
theorem wkC_X4_takesPrices_0 {X : gT} {G : cG} {A : Nat → Prop} {H0 : Heap} {Q : State → Prop} (C : cC X cX4_takesPrices 1 RX4 G A) (hsz : H0 = (g_s X).heap) (hR : 1 ≤ (g_R X).frames ∧ 24 ≤ (g_R X).locals ∧ 0 ≤ (g_R X).cells ∧ 0 ≤ (g_R X).slots) {post : Int32 → CSt → Prop} (hret : ∀ (r : Int32) (τ : CSt) (lv : List (Nat × Value)) (pc : Nat), post r τ → narrow .boolean (.int r) = .int r → decode cX4_takesPrices pc = .ok (.ireturn, 1) → gJ X (cWd G A H0) Q 0 0 τ lv pc [.int r]) (s : CSt) (v0 : Nat) (hw : wpC_X4_takesPrices_0 post s v0) : gJ X (cWd G A H0) Q 0 0 s [(0, .ref v0)] 0 [] := by
  refine g_aload_n C.1 0 dX4_takesPrices_0 rfl rfl ?_
  refine c_get4 C hw.1 0 (by decide) kC_50 (fun _ h => h) rfl dX4_takesPrices_1 ?_
  replace hw := hw.2
  obtain ⟨a1, ha1, hw⟩ := hw
  rw [ha1]
  refine c_get1 C hw.1 3 (by decide) kC_229 (fun _ h => h) rfl dX4_takesPrices_4 ?_
  replace hw := hw.2
  refine g_aload_n C.1 0 dX4_takesPrices_7 rfl rfl ?_
  refine c_get4 C hw.1 1 (by decide) kC_51 (fun _ h => h) rfl dX4_takesPrices_8 ?_
  replace hw := hw.2
  obtain ⟨a2, ha2, hw⟩ := hw
  rw [ha2]
  refine c_get1 C hw.1 3 (by decide) kC_229 (fun _ h => h) rfl dX4_takesPrices_11 ?_
  replace hw := hw.2
  refine g_isub C.1 dX4_takesPrices_14 ?_
  refine g_mabs C.1 C.2.1 (C.2.2.1 _ kC_230) (C.2.2.1 _ kC_74) (C.2.2.1 _ kC_4) (C.2.2.1 _ kC_75) (Nat.le_trans (Nat.le_of_ble_eq_true rfl) hR.1) (Nat.le_trans (Nat.le_of_ble_eq_true rfl) hR.2.1) (Nat.le_trans (Nat.le_of_ble_eq_true rfl) hR.2.2.1) (Nat.le_trans (Nat.le_of_ble_eq_true rfl) hR.2.2.2) dX4_takesPrices_15 ?_
  refine g_topi (fun x3 ex3 => ?_)
  replace hw := hw x3 ex3
  refine g_aload_n C.1 0 dX4_takesPrices_18 rfl rfl ?_
  refine c_get4 C hw.1 2 (by decide) kC_227 (fun _ h => h) rfl dX4_takesPrices_19 ?_
  replace hw := hw.2
  refine g_icmp_gt (tgt := 29) C.1 dX4_takesPrices_22 (by decide) (fun h4 => ?_) (fun h4 => ?_)
  · replace hw := hw.1 h4
    refine g_iconst (v := 0) C.1 dX4_takesPrices_29 (by decide) ?_
    exact hret _ _ _ _ hw rfl dX4_takesPrices_30
  · replace hw := hw.2 h4
    refine g_iconst (v := 1) C.1 dX4_takesPrices_25 (by decide) ?_
    refine g_goto (tgt := 30) C.1 dX4_takesPrices_26 (by decide) ?_
    exact hret _ _ _ _ hw rfl dX4_takesPrices_30
theorem hdC_X4_takesPrices : yX4_takesPrices.cls = RX4 ∧ yX4_takesPrices.cls ≠ "java/lang/invoke/MethodHandle" ∧ yX4_takesPrices.cls ≠ "java/lang/invoke/VarHandle" ∧ (parseMethodDescriptor yX4_takesPrices.desc).map (fun d => d.parameters.length) = some 0 := by decide +kernel
theorem cC_X4_takesPrices (l : Launch) (G : cG) (s : CSt) (v0 : Nat) (post : Int32 → CSt → Prop) (hw : wpC_X4_takesPrices_0 post s v0) : cMi l yX4_takesPrices cX4_takesPrices 1 .boolean 1 24 0 0 G s [.ref v0] post := cMi_of (by decide +kernel) rfl (Nat.le_of_ble_eq_true rfl) (fun X A H0 Q hl hR hsz hnm C hret => wkC_X4_takesPrices_0 C hsz hR hret s v0 hw)
def wpC_X4_other_0 (post : Option Nat → CSt → Prop) (s : CSt) (v0 : Nat) (v1 : Nat) : Prop := cAt s 4 v0 ∧ ∃ a1 : Nat, cR s 64 v0 = some a1 ∧ (¬ v1 = a1 → cAt s 4 v0 ∧ ∃ a2 : Nat, cR s 64 v0 = some a2 ∧ post (some a2) s) ∧ (v1 = a1 → cAt s 4 v0 ∧ ∃ a3 : Nat, cR s 65 v0 = some a3 ∧ post (some a3) s)
theorem wkC_X4_other_0 {X : gT} {G : cG} {A : Nat → Prop} {H0 : Heap} {Q : State → Prop} (C : cC X cX4_other 2 RX4 G A) (hsz : H0 = (g_s X).heap) (hR : 0 ≤ (g_R X).frames ∧ 0 ≤ (g_R X).locals ∧ 0 ≤ (g_R X).cells ∧ 0 ≤ (g_R X).slots) {post : Option Nat → CSt → Prop} (hret : ∀ (r : Option Nat) (τ : CSt) (lv : List (Nat × Value)) (pc : Nat), post r τ → decode cX4_other pc = .ok (.areturn, 1) → gJ X (cWd G A H0) Q 0 0 τ lv pc [va_rf r]) (s : CSt) (v0 : Nat) (v1 : Nat) (hw : wpC_X4_other_0 post s v0 v1) : gJ X (cWd G A H0) Q 0 0 s [(0, .ref v0), (1, .ref v1)] 0 [] := by
  refine g_aload_n C.1 1 dX4_other_0 rfl rfl ?_
  refine g_aload_n C.1 0 dX4_other_1 rfl rfl ?_
  refine c_get4 C hw.1 0 (by decide) kC_50 (fun _ h => h) rfl dX4_other_2 ?_
  replace hw := hw.2
  obtain ⟨a1, ha1, hw⟩ := hw
  rw [ha1]
  refine g_acmp_ne (rx := some v1) (ry := some a1) (tgt := 15) C.1 dX4_other_5 (by decide) (fun h4 => ?_) (fun h4 => ?_)
  · replace hw := hw.1 (fun e => h4 (congrArg some e))
    refine g_aload_n C.1 0 dX4_other_15 rfl rfl ?_
    refine c_get4 C hw.1 0 (by decide) kC_50 (fun _ h => h) rfl dX4_other_16 ?_
    replace hw := hw.2
    obtain ⟨a2, ha2, hw⟩ := hw
    rw [ha2]
    exact hret (some a2) _ _ _ hw dX4_other_19
  · replace hw := hw.2 (Option.some.inj h4)
    refine g_aload_n C.1 0 dX4_other_8 rfl rfl ?_
    refine c_get4 C hw.1 1 (by decide) kC_51 (fun _ h => h) rfl dX4_other_9 ?_
    replace hw := hw.2
    obtain ⟨a3, ha3, hw⟩ := hw
    rw [ha3]
    refine g_goto (tgt := 19) C.1 dX4_other_12 (by decide) ?_
    exact hret (some a3) _ _ _ hw dX4_other_19
theorem hdC_X4_other : yX4_other.cls = RX4 ∧ yX4_other.cls ≠ "java/lang/invoke/MethodHandle" ∧ yX4_other.cls ≠ "java/lang/invoke/VarHandle" ∧ (parseMethodDescriptor yX4_other.desc).map (fun d => d.parameters.length) = some 1 := by decide +kernel
theorem cC_X4_other (l : Launch) (G : cG) (s : CSt) (v0 : Nat) (v1 : Nat) (post : Option Nat → CSt → Prop) (hw : wpC_X4_other_0 post s v0 v1) : cMq l yX4_other cX4_other 2 (.object "SkiHill$Cell") 0 0 0 0 G s [.ref v0, .ref v1] post := cMq_of (by decide +kernel) rfl (by first | exact Or.inl ⟨_, rfl⟩ | exact Or.inr ⟨_, rfl⟩) (Nat.le_of_ble_eq_true rfl) (fun X A H0 Q hl hR hsz hnm C hret => wkC_X4_other_0 C hsz hR hret s v0 v1 hw)
def wpC_X4_carriedFrom_0 (post : Int32 → CSt → Prop) (s : CSt) (v0 : Nat) (v1 : Nat) : Prop := cAt s 4 v0 ∧ ∃ a1 : Nat, cR s 64 v0 = some a1 ∧ (¬ v1 = a1 → cAt s 4 v0 ∧ post (-(cI s 67 v0)) s) ∧ (v1 = a1 → cAt s 4 v0 ∧ post (cI s 67 v0) s)
theorem wkC_X4_carriedFrom_0 {X : gT} {G : cG} {A : Nat → Prop} {H0 : Heap} {Q : State → Prop} (C : cC X cX4_carriedFrom 2 RX4 G A) (hsz : H0 = (g_s X).heap) (hR : 0 ≤ (g_R X).frames ∧ 0 ≤ (g_R X).locals ∧ 0 ≤ (g_R X).cells ∧ 0 ≤ (g_R X).slots) {post : Int32 → CSt → Prop} (hret : ∀ (r : Int32) (τ : CSt) (lv : List (Nat × Value)) (pc : Nat), post r τ → narrow .int (.int r) = .int r → decode cX4_carriedFrom pc = .ok (.ireturn, 1) → gJ X (cWd G A H0) Q 0 0 τ lv pc [.int r]) (s : CSt) (v0 : Nat) (v1 : Nat) (hw : wpC_X4_carriedFrom_0 post s v0 v1) : gJ X (cWd G A H0) Q 0 0 s [(0, .ref v0), (1, .ref v1)] 0 [] := by
  refine g_aload_n C.1 1 dX4_carriedFrom_0 rfl rfl ?_
  refine g_aload_n C.1 0 dX4_carriedFrom_1 rfl rfl ?_
  refine c_get4 C hw.1 0 (by decide) kC_50 (fun _ h => h) rfl dX4_carriedFrom_2 ?_
  replace hw := hw.2
  obtain ⟨a1, ha1, hw⟩ := hw
  rw [ha1]
  refine g_acmp_ne (rx := some v1) (ry := some a1) (tgt := 15) C.1 dX4_carriedFrom_5 (by decide) (fun h2 => ?_) (fun h2 => ?_)
  · replace hw := hw.1 (fun e => h2 (congrArg some e))
    refine g_aload_n C.1 0 dX4_carriedFrom_15 rfl rfl ?_
    refine c_get4 C hw.1 3 (by decide) kC_56 (fun _ h => h) rfl dX4_carriedFrom_16 ?_
    replace hw := hw.2
    refine g_ineg C.1 dX4_carriedFrom_19 ?_
    exact hret _ _ _ _ hw rfl dX4_carriedFrom_20
  · replace hw := hw.2 (Option.some.inj h2)
    refine g_aload_n C.1 0 dX4_carriedFrom_8 rfl rfl ?_
    refine c_get4 C hw.1 3 (by decide) kC_56 (fun _ h => h) rfl dX4_carriedFrom_9 ?_
    replace hw := hw.2
    refine g_goto (tgt := 20) C.1 dX4_carriedFrom_12 (by decide) ?_
    exact hret _ _ _ _ hw rfl dX4_carriedFrom_20
theorem hdC_X4_carriedFrom : yX4_carriedFrom.cls = RX4 ∧ yX4_carriedFrom.cls ≠ "java/lang/invoke/MethodHandle" ∧ yX4_carriedFrom.cls ≠ "java/lang/invoke/VarHandle" ∧ (parseMethodDescriptor yX4_carriedFrom.desc).map (fun d => d.parameters.length) = some 1 := by decide +kernel
theorem cC_X4_carriedFrom (l : Launch) (G : cG) (s : CSt) (v0 : Nat) (v1 : Nat) (post : Int32 → CSt → Prop) (hw : wpC_X4_carriedFrom_0 post s v0 v1) : cMi l yX4_carriedFrom cX4_carriedFrom 2 .int 0 0 0 0 G s [.ref v0, .ref v1] post := cMi_of (by decide +kernel) rfl (Nat.le_of_ble_eq_true rfl) (fun X A H0 Q hl hR hsz hnm C hret => wkC_X4_carriedFrom_0 C hsz hR hret s v0 v1 hw)
def wpC_X4_carryFrom_19 (post : CSt → Prop) (s : CSt) (w0 : Nat) (w1 : Int32) (w2 : Int32) : Prop := cAt s 4 w0 ∧ ∀ s1 : CSt, s1 = csI s 67 w0 (w1 + w2) → post s1
def wpC_X4_carryFrom_0 (post : CSt → Prop) (s : CSt) (v0 : Nat) (v1 : Nat) (v2 : Int32) : Prop := cAt s 4 v0 ∧ cAt s 4 v0 ∧ ∃ a2 : Nat, cR s 64 v0 = some a2 ∧ (¬ v1 = a2 → wpC_X4_carryFrom_19 post s v0 (cI s 67 v0) (-v2)) ∧ (v1 = a2 → wpC_X4_carryFrom_19 post s v0 (cI s 67 v0) v2)
theorem wkC_X4_carryFrom_19 {X : gT} {G : cG} {A : Nat → Prop} {H0 : Heap} {Q : State → Prop} (C : cC X cX4_carryFrom 3 RX4 G A) (hsz : H0 = (g_s X).heap) (hR : 0 ≤ (g_R X).frames ∧ 0 ≤ (g_R X).locals ∧ 0 ≤ (g_R X).cells ∧ 0 ≤ (g_R X).slots) {post : CSt → Prop} (hret : ∀ (τ : CSt) (lv : List (Nat × Value)) (pc : Nat), post τ → decode cX4_carryFrom pc = .ok (.return_, 1) → gJ X (cWd G A H0) Q 0 0 τ lv pc []) (s : CSt) (w0 : Nat) (w1 : Int32) (w2 : Int32) (hw : wpC_X4_carryFrom_19 post s w0 w1 w2) : gJ X (cWd G A H0) Q 0 0 s [] 19 [.int w2, .int w1, .ref w0] := by
  refine g_iadd C.1 dX4_carryFrom_19 ?_
  refine c_put4 C (τ := csI s 67 w0 (w1 + w2)) hw.1 3 (by decide) kC_56 (fun _ h => h) rfl (ty := .int) (by decide +kernel) rfl rfl rfl hw.1.2 rfl (cx_4_3 _ _ _) (fun _ hb => csI_o hb) dX4_carryFrom_20 ?_
  replace hw := hw.2
  refine gJ.nm (fun s1 es1 => ?_)
  replace hw := hw s1 es1
  exact hret _ _ _ hw dX4_carryFrom_23
theorem wkC_X4_carryFrom_0 {X : gT} {G : cG} {A : Nat → Prop} {H0 : Heap} {Q : State → Prop} (C : cC X cX4_carryFrom 3 RX4 G A) (hsz : H0 = (g_s X).heap) (hR : 0 ≤ (g_R X).frames ∧ 0 ≤ (g_R X).locals ∧ 0 ≤ (g_R X).cells ∧ 0 ≤ (g_R X).slots) {post : CSt → Prop} (hret : ∀ (τ : CSt) (lv : List (Nat × Value)) (pc : Nat), post τ → decode cX4_carryFrom pc = .ok (.return_, 1) → gJ X (cWd G A H0) Q 0 0 τ lv pc []) (s : CSt) (v0 : Nat) (v1 : Nat) (v2 : Int32) (hw : wpC_X4_carryFrom_0 post s v0 v1 v2) : gJ X (cWd G A H0) Q 0 0 s [(0, .ref v0), (1, .ref v1), (2, .int v2)] 0 [] := by
  refine g_aload_n C.1 0 dX4_carryFrom_0 rfl rfl ?_
  refine g_dup C.1 dX4_carryFrom_1 rfl ?_
  refine c_get4 C hw.1 3 (by decide) kC_56 (fun _ h => h) rfl dX4_carryFrom_2 ?_
  replace hw := hw.2
  refine g_aload_n C.1 1 dX4_carryFrom_5 rfl rfl ?_
  refine g_aload_n C.1 0 dX4_carryFrom_6 rfl rfl ?_
  refine c_get4 C hw.1 0 (by decide) kC_50 (fun _ h => h) rfl dX4_carryFrom_7 ?_
  replace hw := hw.2
  obtain ⟨a2, ha2, hw⟩ := hw
  rw [ha2]
  refine g_acmp_ne (rx := some v1) (ry := some a2) (tgt := 17) C.1 dX4_carryFrom_10 (by decide) (fun h3 => ?_) (fun h3 => ?_)
  · replace hw := hw.1 (fun e => h3 (congrArg some e))
    refine g_iload_n C.1 2 dX4_carryFrom_17 rfl rfl ?_
    refine g_ineg C.1 dX4_carryFrom_18 ?_
    refine gJ.sub [] rfl ?_
    exact wkC_X4_carryFrom_19 C hsz hR hret _ _ _ _ hw
  · replace hw := hw.2 (Option.some.inj h3)
    refine g_iload_n C.1 2 dX4_carryFrom_13 rfl rfl ?_
    refine g_goto (tgt := 19) C.1 dX4_carryFrom_14 (by decide) ?_
    refine gJ.sub [] rfl ?_
    exact wkC_X4_carryFrom_19 C hsz hR hret _ _ _ _ hw
theorem hdC_X4_carryFrom : yX4_carryFrom.cls = RX4 ∧ yX4_carryFrom.cls ≠ "java/lang/invoke/MethodHandle" ∧ yX4_carryFrom.cls ≠ "java/lang/invoke/VarHandle" ∧ (parseMethodDescriptor yX4_carryFrom.desc).map (fun d => d.parameters.length) = some 2 := by decide +kernel
theorem cC_X4_carryFrom (l : Launch) (G : cG) (s : CSt) (v0 : Nat) (v1 : Nat) (v2 : Int32) (post : CSt → Prop) (hw : wpC_X4_carryFrom_0 post s v0 v1 v2) : cMv l yX4_carryFrom cX4_carryFrom 3 0 0 0 0 G s [.ref v0, .ref v1, .int v2] post := cMv_of (by decide +kernel) rfl (Nat.le_of_ble_eq_true rfl) (fun X A H0 Q hl hR hsz hnm C hret => wkC_X4_carryFrom_0 C hsz hR hret s v0 v1 v2 hw)
def wpC_J3_checkIndex_8e157_9 (post : Int32 → CSt → Prop) (s : CSt) (v0 : Int32) (v1 : Int32) (v2 : Option Nat) : Prop := False
def wpC_J3_checkIndex_8e157_0 (post : Int32 → CSt → Prop) (s : CSt) (v0 : Int32) (v1 : Int32) (v2 : Option Nat) : Prop := (v0 < 0 → wpC_J3_checkIndex_8e157_9 post s v0 v1 v2) ∧ (¬ v0 < 0 → (v0 < v1 → post v0 s) ∧ (¬ v0 < v1 → wpC_J3_checkIndex_8e157_9 post s v0 v1 v2))
theorem wkC_J3_checkIndex_8e157_9 {X : gT} {G : cG} {A : Nat → Prop} {H0 : Heap} {Q : State → Prop} (C : cC X cJ3_checkIndex_8e157 3 RJ3 G A) (hsz : H0 = (g_s X).heap) (hR : 0 ≤ (g_R X).frames ∧ 0 ≤ (g_R X).locals ∧ 0 ≤ (g_R X).cells ∧ 0 ≤ (g_R X).slots) {post : Int32 → CSt → Prop} (hret : ∀ (r : Int32) (τ : CSt) (lv : List (Nat × Value)) (pc : Nat), post r τ → narrow .int (.int r) = .int r → decode cJ3_checkIndex_8e157 pc = .ok (.ireturn, 1) → gJ X (cWd G A H0) Q 0 0 τ lv pc [.int r]) (s : CSt) (v0 : Int32) (v1 : Int32) (v2 : Option Nat) (hw : wpC_J3_checkIndex_8e157_9 post s v0 v1 v2) : gJ X (cWd G A H0) Q 0 0 s [(0, .int v0), (1, .int v1), (2, va_rf v2)] 9 [] := by
  refine g_qload_n C.1 2 dJ3_checkIndex_8e157_9 rfl rfl ?_
  refine g_iload_n C.1 0 dJ3_checkIndex_8e157_10 rfl rfl ?_
  refine g_iload_n C.1 1 dJ3_checkIndex_8e157_11 rfl rfl ?_
  exact hw.elim
theorem wkC_J3_checkIndex_8e157_0 {X : gT} {G : cG} {A : Nat → Prop} {H0 : Heap} {Q : State → Prop} (C : cC X cJ3_checkIndex_8e157 3 RJ3 G A) (hsz : H0 = (g_s X).heap) (hR : 0 ≤ (g_R X).frames ∧ 0 ≤ (g_R X).locals ∧ 0 ≤ (g_R X).cells ∧ 0 ≤ (g_R X).slots) {post : Int32 → CSt → Prop} (hret : ∀ (r : Int32) (τ : CSt) (lv : List (Nat × Value)) (pc : Nat), post r τ → narrow .int (.int r) = .int r → decode cJ3_checkIndex_8e157 pc = .ok (.ireturn, 1) → gJ X (cWd G A H0) Q 0 0 τ lv pc [.int r]) (s : CSt) (v0 : Int32) (v1 : Int32) (v2 : Option Nat) (hw : wpC_J3_checkIndex_8e157_0 post s v0 v1 v2) : gJ X (cWd G A H0) Q 0 0 s [(0, .int v0), (1, .int v1), (2, va_rf v2)] 0 [] := by
  refine g_iload_n C.1 0 dJ3_checkIndex_8e157_0 rfl rfl ?_
  refine g_if_lt (tgt := 9) C.1 dJ3_checkIndex_8e157_1 (by decide) (fun h1 => ?_) (fun h1 => ?_)
  · replace hw := hw.1 h1
    exact wkC_J3_checkIndex_8e157_9 C hsz hR hret _ _ _ _ hw
  · replace hw := hw.2 h1
    refine g_iload_n C.1 0 dJ3_checkIndex_8e157_4 rfl rfl ?_
    refine g_iload_n C.1 1 dJ3_checkIndex_8e157_5 rfl rfl ?_
    refine g_icmp_lt (tgt := 16) C.1 dJ3_checkIndex_8e157_6 (by decide) (fun h2 => ?_) (fun h2 => ?_)
    · replace hw := hw.1 h2
      refine g_iload_n C.1 0 dJ3_checkIndex_8e157_16 rfl rfl ?_
      exact hret _ _ _ _ hw rfl dJ3_checkIndex_8e157_17
    · replace hw := hw.2 h2
      exact wkC_J3_checkIndex_8e157_9 C hsz hR hret _ _ _ _ hw
theorem hdC_J3_checkIndex_8e157 : yJ3_checkIndex_8e157.cls = RJ3 ∧ yJ3_checkIndex_8e157.cls ≠ "java/lang/invoke/MethodHandle" ∧ yJ3_checkIndex_8e157.cls ≠ "java/lang/invoke/VarHandle" ∧ (parseMethodDescriptor yJ3_checkIndex_8e157.desc).map (fun d => d.parameters.length) = some 3 := by decide +kernel
theorem cC_J3_checkIndex_8e157 (l : Launch) (G : cG) (s : CSt) (v0 : Int32) (v1 : Int32) (v2 : Option Nat) (post : Int32 → CSt → Prop) (hw : wpC_J3_checkIndex_8e157_0 post s v0 v1 v2) : cMi l yJ3_checkIndex_8e157 cJ3_checkIndex_8e157 3 .int 0 0 0 0 G s [.int v0, .int v1, va_rf v2] post := cMi_of (by decide +kernel) rfl (by first | exact Nat.le_of_ble_eq_true rfl | (simp only [lg_sl, List.flatMap_cons, List.flatMap_nil]; cases v2 <;> exact Nat.le_of_ble_eq_true rfl)) (fun X A H0 Q hl hR hsz hnm C hret => wkC_J3_checkIndex_8e157_0 C hsz hR hret s v0 v1 v2 hw)
def wpC_J15_checkIndex_7cf53_0 (post : Int32 → CSt → Prop) (s : CSt) (v0 : Int32) (v1 : Int32) : Prop := wpC_J3_checkIndex_8e157_0 (fun r2 s1 => post r2 s1) s v0 v1 none
theorem wkC_J15_checkIndex_7cf53_0 {X : gT} {G : cG} {A : Nat → Prop} {H0 : Heap} {Q : State → Prop} (C : cC X cJ15_checkIndex_7cf53 2 RJ15 G A) (hsz : H0 = (g_s X).heap) (hR : 1 ≤ (g_R X).frames ∧ 22 ≤ (g_R X).locals ∧ 0 ≤ (g_R X).cells ∧ 0 ≤ (g_R X).slots) {post : Int32 → CSt → Prop} (hret : ∀ (r : Int32) (τ : CSt) (lv : List (Nat × Value)) (pc : Nat), post r τ → narrow .int (.int r) = .int r → decode cJ15_checkIndex_7cf53 pc = .ok (.ireturn, 1) → gJ X (cWd G A H0) Q 0 0 τ lv pc [.int r]) (s : CSt) (v0 : Int32) (v1 : Int32) (hw : wpC_J15_checkIndex_7cf53_0 post s v0 v1) : gJ X (cWd G A H0) Q 0 0 s [(0, .int v0), (1, .int v1)] 0 [] := by
  refine g_iload_n C.1 0 dJ15_checkIndex_7cf53_0 rfl rfl ?_
  refine g_iload_n C.1 1 dJ15_checkIndex_7cf53_1 rfl rfl ?_
  refine g_null C.1 dJ15_checkIndex_7cf53_2 ?_
  refine c_callSi (vs := [.int v0, .int v1, va_rf none]) C hsz (cC_J3_checkIndex_8e157 (g_l X) G s _ _ _ _ hw) kC_26 kC_24 kC_25 kC_27 hdC_J3_checkIndex_8e157 ⟨(Nat.le_trans (Nat.le_of_ble_eq_true rfl) hR.1), (Nat.le_trans (Nat.le_of_ble_eq_true rfl) hR.2.1)⟩ ⟨(Nat.le_trans (Nat.le_of_ble_eq_true rfl) hR.2.2.1), (Nat.le_trans (Nat.le_of_ble_eq_true rfl) hR.2.2.2)⟩ dJ15_checkIndex_7cf53_3 rfl (Nat.le_of_ble_eq_true rfl) (fun r2 s1 hw => ?_)
  exact hret _ _ _ _ hw rfl dJ15_checkIndex_7cf53_6
theorem hdC_J15_checkIndex_7cf53 : yJ15_checkIndex_7cf53.cls = RJ15 ∧ yJ15_checkIndex_7cf53.cls ≠ "java/lang/invoke/MethodHandle" ∧ yJ15_checkIndex_7cf53.cls ≠ "java/lang/invoke/VarHandle" ∧ (parseMethodDescriptor yJ15_checkIndex_7cf53.desc).map (fun d => d.parameters.length) = some 2 := by decide +kernel
theorem cC_J15_checkIndex_7cf53 (l : Launch) (G : cG) (s : CSt) (v0 : Int32) (v1 : Int32) (post : Int32 → CSt → Prop) (hw : wpC_J15_checkIndex_7cf53_0 post s v0 v1) : cMi l yJ15_checkIndex_7cf53 cJ15_checkIndex_7cf53 2 .int 1 22 0 0 G s [.int v0, .int v1] post := cMi_of (by decide +kernel) rfl (Nat.le_of_ble_eq_true rfl) (fun X A H0 Q hl hR hsz hnm C hret => wkC_J15_checkIndex_7cf53_0 C hsz hR hret s v0 v1 hw)
def wpC_Jx4a65c_size_8abf5_0 (post : Int32 → CSt → Prop) (s : CSt) (v0 : Nat) : Prop := cAt s 0 v0 ∧ post (cI s 2 v0) s
theorem wkC_Jx4a65c_size_8abf5_0 {X : gT} {G : cG} {A : Nat → Prop} {H0 : Heap} {Q : State → Prop} (C : cC X cJx4a65c_size_8abf5 1 RJx4a65c G A) (hsz : H0 = (g_s X).heap) (hR : 0 ≤ (g_R X).frames ∧ 0 ≤ (g_R X).locals ∧ 0 ≤ (g_R X).cells ∧ 0 ≤ (g_R X).slots) {post : Int32 → CSt → Prop} (hret : ∀ (r : Int32) (τ : CSt) (lv : List (Nat × Value)) (pc : Nat), post r τ → narrow .int (.int r) = .int r → decode cJx4a65c_size_8abf5 pc = .ok (.ireturn, 1) → gJ X (cWd G A H0) Q 0 0 τ lv pc [.int r]) (s : CSt) (v0 : Nat) (hw : wpC_Jx4a65c_size_8abf5_0 post s v0) : gJ X (cWd G A H0) Q 0 0 s [(0, .ref v0)] 0 [] := by
  refine g_aload_n C.1 0 dJx4a65c_size_8abf5_0 rfl rfl ?_
  refine c_get0 C hw.1 2 (by decide) kC_15 (fun _ h => h) rfl dJx4a65c_size_8abf5_1 ?_
  replace hw := hw.2
  exact hret _ _ _ _ hw rfl dJx4a65c_size_8abf5_4
theorem hdC_Jx4a65c_size_8abf5 : yJx4a65c_size_8abf5.cls = RJx4a65c ∧ yJx4a65c_size_8abf5.cls ≠ "java/lang/invoke/MethodHandle" ∧ yJx4a65c_size_8abf5.cls ≠ "java/lang/invoke/VarHandle" ∧ (parseMethodDescriptor yJx4a65c_size_8abf5.desc).map (fun d => d.parameters.length) = some 0 := by decide +kernel
theorem cC_Jx4a65c_size_8abf5 (l : Launch) (G : cG) (s : CSt) (v0 : Nat) (post : Int32 → CSt → Prop) (hw : wpC_Jx4a65c_size_8abf5_0 post s v0) : cMi l yJx4a65c_size_8abf5 cJx4a65c_size_8abf5 1 .int 0 0 0 0 G s [.ref v0] post := cMi_of (by decide +kernel) rfl (Nat.le_of_ble_eq_true rfl) (fun X A H0 Q hl hR hsz hnm C hret => wkC_Jx4a65c_size_8abf5_0 C hsz hR hret s v0 hw)
def wpC_Jx4a65c_isEmpty_aae02_0 (post : Int32 → CSt → Prop) (s : CSt) (v0 : Nat) : Prop := cAt s 0 v0 ∧ (¬ (cI s 2 v0) = 0 → post 0 s) ∧ ((cI s 2 v0) = 0 → post 1 s)
theorem wkC_Jx4a65c_isEmpty_aae02_0 {X : gT} {G : cG} {A : Nat → Prop} {H0 : Heap} {Q : State → Prop} (C : cC X cJx4a65c_isEmpty_aae02 1 RJx4a65c G A) (hsz : H0 = (g_s X).heap) (hR : 0 ≤ (g_R X).frames ∧ 0 ≤ (g_R X).locals ∧ 0 ≤ (g_R X).cells ∧ 0 ≤ (g_R X).slots) {post : Int32 → CSt → Prop} (hret : ∀ (r : Int32) (τ : CSt) (lv : List (Nat × Value)) (pc : Nat), post r τ → narrow .boolean (.int r) = .int r → decode cJx4a65c_isEmpty_aae02 pc = .ok (.ireturn, 1) → gJ X (cWd G A H0) Q 0 0 τ lv pc [.int r]) (s : CSt) (v0 : Nat) (hw : wpC_Jx4a65c_isEmpty_aae02_0 post s v0) : gJ X (cWd G A H0) Q 0 0 s [(0, .ref v0)] 0 [] := by
  refine g_aload_n C.1 0 dJx4a65c_isEmpty_aae02_0 rfl rfl ?_
  refine c_get0 C hw.1 2 (by decide) kC_15 (fun _ h => h) rfl dJx4a65c_isEmpty_aae02_1 ?_
  replace hw := hw.2
  refine g_if_ne (tgt := 11) C.1 dJx4a65c_isEmpty_aae02_4 (by decide) (fun h1 => ?_) (fun h1 => ?_)
  · replace hw := hw.1 h1
    refine g_iconst (v := 0) C.1 dJx4a65c_isEmpty_aae02_11 (by decide) ?_
    exact hret _ _ _ _ hw rfl dJx4a65c_isEmpty_aae02_12
  · replace hw := hw.2 h1
    refine g_iconst (v := 1) C.1 dJx4a65c_isEmpty_aae02_7 (by decide) ?_
    refine g_goto (tgt := 12) C.1 dJx4a65c_isEmpty_aae02_8 (by decide) ?_
    exact hret _ _ _ _ hw rfl dJx4a65c_isEmpty_aae02_12
theorem hdC_Jx4a65c_isEmpty_aae02 : yJx4a65c_isEmpty_aae02.cls = RJx4a65c ∧ yJx4a65c_isEmpty_aae02.cls ≠ "java/lang/invoke/MethodHandle" ∧ yJx4a65c_isEmpty_aae02.cls ≠ "java/lang/invoke/VarHandle" ∧ (parseMethodDescriptor yJx4a65c_isEmpty_aae02.desc).map (fun d => d.parameters.length) = some 0 := by decide +kernel
theorem cC_Jx4a65c_isEmpty_aae02 (l : Launch) (G : cG) (s : CSt) (v0 : Nat) (post : Int32 → CSt → Prop) (hw : wpC_Jx4a65c_isEmpty_aae02_0 post s v0) : cMi l yJx4a65c_isEmpty_aae02 cJx4a65c_isEmpty_aae02 1 .boolean 0 0 0 0 G s [.ref v0] post := cMi_of (by decide +kernel) rfl (Nat.le_of_ble_eq_true rfl) (fun X A H0 Q hl hR hsz hnm C hret => wkC_Jx4a65c_isEmpty_aae02_0 C hsz hR hret s v0 hw)
def wpC_Jx4a65c_elementData_915e3_0 (post : Option Nat → CSt → Prop) (s : CSt) (v0 : Nat) (v1 : Int32) : Prop := cAt s 0 v0 ∧ ∃ a1 : Nat, cR s 1 v0 = some a1 ∧ cAt s 10 a1 ∧ vp_in v1 (cN s a1) ∧ post (cE s a1 v1.toNatClampNeg) s
theorem wkC_Jx4a65c_elementData_915e3_0 {X : gT} {G : cG} {A : Nat → Prop} {H0 : Heap} {Q : State → Prop} (C : cC X cJx4a65c_elementData_915e3 2 RJx4a65c G A) (hsz : H0 = (g_s X).heap) (hR : 0 ≤ (g_R X).frames ∧ 0 ≤ (g_R X).locals ∧ 0 ≤ (g_R X).cells ∧ 0 ≤ (g_R X).slots) {post : Option Nat → CSt → Prop} (hret : ∀ (r : Option Nat) (τ : CSt) (lv : List (Nat × Value)) (pc : Nat), post r τ → decode cJx4a65c_elementData_915e3 pc = .ok (.areturn, 1) → gJ X (cWd G A H0) Q 0 0 τ lv pc [va_rf r]) (s : CSt) (v0 : Nat) (v1 : Int32) (hw : wpC_Jx4a65c_elementData_915e3_0 post s v0 v1) : gJ X (cWd G A H0) Q 0 0 s [(0, .ref v0), (1, .int v1)] 0 [] := by
  refine g_aload_n C.1 0 dJx4a65c_elementData_915e3_0 rfl rfl ?_
  refine c_get0 C hw.1 1 (by decide) kC_32 (fun _ h => h) rfl dJx4a65c_elementData_915e3_1 ?_
  replace hw := hw.2
  obtain ⟨a1, ha1, hw⟩ := hw
  rw [ha1]
  refine g_iload_n C.1 1 dJx4a65c_elementData_915e3_4 rfl rfl ?_
  refine c_aald C hw.1 hw.2.1 dJx4a65c_elementData_915e3_5 ?_
  replace hw := hw.2.2
  exact hret (cE s a1 v1.toNatClampNeg) _ _ _ hw dJx4a65c_elementData_915e3_6
theorem hdC_Jx4a65c_elementData_915e3 : yJx4a65c_elementData_915e3.cls = RJx4a65c ∧ yJx4a65c_elementData_915e3.cls ≠ "java/lang/invoke/MethodHandle" ∧ yJx4a65c_elementData_915e3.cls ≠ "java/lang/invoke/VarHandle" ∧ (parseMethodDescriptor yJx4a65c_elementData_915e3.desc).map (fun d => d.parameters.length) = some 1 := by decide +kernel
theorem cC_Jx4a65c_elementData_915e3 (l : Launch) (G : cG) (s : CSt) (v0 : Nat) (v1 : Int32) (post : Option Nat → CSt → Prop) (hw : wpC_Jx4a65c_elementData_915e3_0 post s v0 v1) : cMq l yJx4a65c_elementData_915e3 cJx4a65c_elementData_915e3 2 (.object "java/lang/Object") 0 0 0 0 G s [.ref v0, .int v1] post := cMq_of (by decide +kernel) rfl (by first | exact Or.inl ⟨_, rfl⟩ | exact Or.inr ⟨_, rfl⟩) (Nat.le_of_ble_eq_true rfl) (fun X A H0 Q hl hR hsz hnm C hret => wkC_Jx4a65c_elementData_915e3_0 C hsz hR hret s v0 v1 hw)
def wpC_Jx4a65c_get_915e3_0 (post : Option Nat → CSt → Prop) (s : CSt) (v0 : Nat) (v1 : Int32) : Prop := cAt s 0 v0 ∧ wpC_J15_checkIndex_7cf53_0 (fun r2 s1 => cAt s1 0 v0 ∧ wpC_Jx4a65c_elementData_915e3_0 (fun r4 s3 => post r4 s3) s1 v0 v1) s v1 (cI s 2 v0)
theorem wkC_Jx4a65c_get_915e3_0 {X : gT} {G : cG} {A : Nat → Prop} {H0 : Heap} {Q : State → Prop} (C : cC X cJx4a65c_get_915e3 2 RJx4a65c G A) (hsz : H0 = (g_s X).heap) (hR : 2 ≤ (g_R X).frames ∧ 43 ≤ (g_R X).locals ∧ 0 ≤ (g_R X).cells ∧ 0 ≤ (g_R X).slots) {post : Option Nat → CSt → Prop} (hret : ∀ (r : Option Nat) (τ : CSt) (lv : List (Nat × Value)) (pc : Nat), post r τ → decode cJx4a65c_get_915e3 pc = .ok (.areturn, 1) → gJ X (cWd G A H0) Q 0 0 τ lv pc [va_rf r]) (s : CSt) (v0 : Nat) (v1 : Int32) (hw : wpC_Jx4a65c_get_915e3_0 post s v0 v1) : gJ X (cWd G A H0) Q 0 0 s [(0, .ref v0), (1, .int v1)] 0 [] := by
  refine g_iload_n C.1 1 dJx4a65c_get_915e3_0 rfl rfl ?_
  refine g_aload_n C.1 0 dJx4a65c_get_915e3_1 rfl rfl ?_
  refine c_get0 C hw.1 2 (by decide) kC_15 (fun _ h => h) rfl dJx4a65c_get_915e3_2 ?_
  replace hw := hw.2
  refine c_callSi (vs := [.int v1, .int (cI s 2 v0)]) C hsz (cC_J15_checkIndex_7cf53 (g_l X) G s _ _ _ hw) kC_22 kC_20 kC_21 kC_23 hdC_J15_checkIndex_7cf53 ⟨(Nat.le_trans (Nat.le_of_ble_eq_true rfl) hR.1), (Nat.le_trans (Nat.le_of_ble_eq_true rfl) hR.2.1)⟩ ⟨(Nat.le_trans (Nat.le_of_ble_eq_true rfl) hR.2.2.1), (Nat.le_trans (Nat.le_of_ble_eq_true rfl) hR.2.2.2)⟩ dJx4a65c_get_915e3_5 rfl (Nat.le_of_ble_eq_true rfl) (fun r2 s1 hw => ?_)
  refine g_pop C.1 dJx4a65c_get_915e3_8 rfl ?_
  refine g_aload_n C.1 0 dJx4a65c_get_915e3_9 rfl rfl ?_
  refine g_iload_n C.1 1 dJx4a65c_get_915e3_10 rfl rfl ?_
  refine c_callVq (vs := [.int v1]) C hsz (cC_Jx4a65c_elementData_915e3 (g_l X) G s1 _ _ _ hw.2) kC_13 kC_28 kC_29 kC_30 kC_31 hdC_Jx4a65c_elementData_915e3 (c_recv0 C hw.1) ⟨(Nat.le_trans (Nat.le_of_ble_eq_true rfl) hR.1), (Nat.le_trans (Nat.le_of_ble_eq_true rfl) hR.2.1)⟩ ⟨(Nat.le_trans (Nat.le_of_ble_eq_true rfl) hR.2.2.1), (Nat.le_trans (Nat.le_of_ble_eq_true rfl) hR.2.2.2)⟩ dJx4a65c_get_915e3_11 rfl (Nat.le_of_ble_eq_true rfl) (fun r4 s3 hw => ?_)
  exact hret r4 _ _ _ hw dJx4a65c_get_915e3_14
theorem hdC_Jx4a65c_get_915e3 : yJx4a65c_get_915e3.cls = RJx4a65c ∧ yJx4a65c_get_915e3.cls ≠ "java/lang/invoke/MethodHandle" ∧ yJx4a65c_get_915e3.cls ≠ "java/lang/invoke/VarHandle" ∧ (parseMethodDescriptor yJx4a65c_get_915e3.desc).map (fun d => d.parameters.length) = some 1 := by decide +kernel
theorem cC_Jx4a65c_get_915e3 (l : Launch) (G : cG) (s : CSt) (v0 : Nat) (v1 : Int32) (post : Option Nat → CSt → Prop) (hw : wpC_Jx4a65c_get_915e3_0 post s v0 v1) : cMq l yJx4a65c_get_915e3 cJx4a65c_get_915e3 2 (.object "java/lang/Object") 2 43 0 0 G s [.ref v0, .int v1] post := cMq_of (by decide +kernel) rfl (by first | exact Or.inl ⟨_, rfl⟩ | exact Or.inr ⟨_, rfl⟩) (Nat.le_of_ble_eq_true rfl) (fun X A H0 Q hl hR hsz hnm C hret => wkC_Jx4a65c_get_915e3_0 C hsz hR hret s v0 v1 hw)
def wpC_X7_checkPlace_10 (post : CSt → Prop) (pX : String → CSt → Prop) (s : CSt) : Prop := pX "java/lang/IndexOutOfBoundsException" s
def wpC_X7_checkPlace_0 (post : CSt → Prop) (pX : String → CSt → Prop) (s : CSt) (v0 : Int32) : Prop := (v0 < 0 → wpC_X7_checkPlace_10 post pX s) ∧ (¬ v0 < 0 → (v0 < 10 → post s) ∧ (¬ v0 < 10 → wpC_X7_checkPlace_10 post pX s))
theorem wkC_X7_checkPlace_10 {X : gT} {G : cG} {A : Nat → Prop} {H0 : Heap} {Q : State → Prop} (C : cC X cX7_checkPlace 1 RX7 G A) (hsz : H0 = (g_s X).heap) (hR : 6 ≤ (g_R X).frames ∧ 89 ≤ (g_R X).locals ∧ 1 ≤ (g_R X).cells ∧ 6 ≤ (g_R X).slots) {pX : String → CSt → Prop} (hfl : (g_l X).stackTraces = false) (hout : ∀ (E : String) (τ : CSt) (lv : List (Nat × Value)) (pc k n : Nat) (rest : List Value), pX E τ → k ≤ 1 → n ≤ 6 → gX X (cWd G A H0) Q k n τ lv pc rest E) (hthr : ∀ (j : Nat) (τ : CSt) (lv : List (Nat × Value)) (pc k n ik : Nat) (rest : List Value), j < 5 → pX (cNm j) τ → k + 1 ≤ 1 → n + 6 ≤ 6 → (rest.map fun v => v.category).sum ≤ 8 → Cond.classLink RX7 ik (cNm j) ∈ wC → Cond.initialized (cNm j) ∈ wC → decode cX7_checkPlace pc = .ok (.new ik, 3) → decode cX7_checkPlace (pc + 3) = .ok (.dup, 1) → decode cX7_checkPlace (pc + 4) = .ok (.invokespecial (cNi j), 3) → decode cX7_checkPlace (pc + 7) = .ok (.athrow, 1) → gJ X (cWd G A H0) Q k n τ lv pc rest) {post : CSt → Prop} (hret : ∀ (τ : CSt) (lv : List (Nat × Value)) (pc : Nat), post τ → decode cX7_checkPlace pc = .ok (.return_, 1) → gJ X (cWd G A H0) Q 1 6 τ lv pc []) (s : CSt) (hw : wpC_X7_checkPlace_10 post pX s) : gJ X (cWd G A H0) Q 0 0 s [] 10 [] := by
  exact hthr 0 _ _ _ _ _ _ _ (by decide) hw (Nat.le_of_ble_eq_true rfl) (Nat.le_of_ble_eq_true rfl) (Nat.le_of_ble_eq_true rfl) kC_415 kC_416 dX7_checkPlace_10 dX7_checkPlace_13 dX7_checkPlace_14 dX7_checkPlace_17
theorem wkC_X7_checkPlace_0 {X : gT} {G : cG} {A : Nat → Prop} {H0 : Heap} {Q : State → Prop} (C : cC X cX7_checkPlace 1 RX7 G A) (hsz : H0 = (g_s X).heap) (hR : 6 ≤ (g_R X).frames ∧ 89 ≤ (g_R X).locals ∧ 1 ≤ (g_R X).cells ∧ 6 ≤ (g_R X).slots) {pX : String → CSt → Prop} (hfl : (g_l X).stackTraces = false) (hout : ∀ (E : String) (τ : CSt) (lv : List (Nat × Value)) (pc k n : Nat) (rest : List Value), pX E τ → k ≤ 1 → n ≤ 6 → gX X (cWd G A H0) Q k n τ lv pc rest E) (hthr : ∀ (j : Nat) (τ : CSt) (lv : List (Nat × Value)) (pc k n ik : Nat) (rest : List Value), j < 5 → pX (cNm j) τ → k + 1 ≤ 1 → n + 6 ≤ 6 → (rest.map fun v => v.category).sum ≤ 8 → Cond.classLink RX7 ik (cNm j) ∈ wC → Cond.initialized (cNm j) ∈ wC → decode cX7_checkPlace pc = .ok (.new ik, 3) → decode cX7_checkPlace (pc + 3) = .ok (.dup, 1) → decode cX7_checkPlace (pc + 4) = .ok (.invokespecial (cNi j), 3) → decode cX7_checkPlace (pc + 7) = .ok (.athrow, 1) → gJ X (cWd G A H0) Q k n τ lv pc rest) {post : CSt → Prop} (hret : ∀ (τ : CSt) (lv : List (Nat × Value)) (pc : Nat), post τ → decode cX7_checkPlace pc = .ok (.return_, 1) → gJ X (cWd G A H0) Q 1 6 τ lv pc []) (s : CSt) (v0 : Int32) (hw : wpC_X7_checkPlace_0 post pX s v0) : gJ X (cWd G A H0) Q 0 0 s [(0, .int v0)] 0 [] := by
  refine g_iload_n C.1 0 dX7_checkPlace_0 rfl rfl ?_
  refine g_if_lt (tgt := 10) C.1 dX7_checkPlace_1 (by decide) (fun h1 => ?_) (fun h1 => ?_)
  · replace hw := hw.1 h1
    refine gJ.sub [] rfl ?_
    exact wkC_X7_checkPlace_10 C hsz hR hfl hout hthr hret _ hw
  · replace hw := hw.2 h1
    refine g_iload_n C.1 0 dX7_checkPlace_4 rfl rfl ?_
    refine g_bipush (v := 10) C.1 dX7_checkPlace_5 (by decide) ?_
    refine g_icmp_lt (tgt := 18) C.1 dX7_checkPlace_7 (by decide) (fun h2 => ?_) (fun h2 => ?_)
    · replace hw := hw.1 h2
      refine gJ.widen (k' := 1) (n' := 6) (Nat.le_of_ble_eq_true rfl) (Nat.le_of_ble_eq_true rfl) ?_
      exact hret _ _ _ hw dX7_checkPlace_18
    · replace hw := hw.2 h2
      refine gJ.sub [] rfl ?_
      exact wkC_X7_checkPlace_10 C hsz hR hfl hout hthr hret _ hw
theorem hdC_X7_checkPlace : yX7_checkPlace.cls = RX7 ∧ yX7_checkPlace.cls ≠ "java/lang/invoke/MethodHandle" ∧ yX7_checkPlace.cls ≠ "java/lang/invoke/VarHandle" ∧ (parseMethodDescriptor yX7_checkPlace.desc).map (fun d => d.parameters.length) = some 1 := by decide +kernel
theorem cC_X7_checkPlace (l : Launch) (hfl : l.stackTraces = false) (G : cG) (s : CSt) (v0 : Int32) (post : CSt → Prop) (pX : String → CSt → Prop) (hw : wpC_X7_checkPlace_0 post pX s v0) : cTv l yX7_checkPlace cX7_checkPlace 1 6 89 1 6 G s [.int v0] post pX := cTv_of hfl (by decide +kernel) rfl rfl (Nat.le_of_ble_eq_true rfl) ⟨by decide, by decide, by decide, by decide⟩ (fun X A H0 Q hl hR hsz C hret hout hthr => wkC_X7_checkPlace_0 C hsz hR (by rw [hl]; exact hfl) hout hthr hret s v0 hw)
def wpC_X7_checkNumber_10 (post : CSt → Prop) (pX : String → CSt → Prop) (s : CSt) : Prop := pX "java/lang/IllegalArgumentException" s
def wpC_X7_checkNumber_0 (post : CSt → Prop) (pX : String → CSt → Prop) (s : CSt) (v0 : Int32) (v1 : Int32) (v2 : Int32) : Prop := (v0 < v1 → wpC_X7_checkNumber_10 post pX s) ∧ (¬ v0 < v1 → (v0 ≤ v2 → post s) ∧ (¬ v0 ≤ v2 → wpC_X7_checkNumber_10 post pX s))
theorem wkC_X7_checkNumber_10 {X : gT} {G : cG} {A : Nat → Prop} {H0 : Heap} {Q : State → Prop} (C : cC X cX7_checkNumber 3 RX7 G A) (hsz : H0 = (g_s X).heap) (hR : 6 ≤ (g_R X).frames ∧ 89 ≤ (g_R X).locals ∧ 1 ≤ (g_R X).cells ∧ 6 ≤ (g_R X).slots) {pX : String → CSt → Prop} (hfl : (g_l X).stackTraces = false) (hout : ∀ (E : String) (τ : CSt) (lv : List (Nat × Value)) (pc k n : Nat) (rest : List Value), pX E τ → k ≤ 1 → n ≤ 6 → gX X (cWd G A H0) Q k n τ lv pc rest E) (hthr : ∀ (j : Nat) (τ : CSt) (lv : List (Nat × Value)) (pc k n ik : Nat) (rest : List Value), j < 5 → pX (cNm j) τ → k + 1 ≤ 1 → n + 6 ≤ 6 → (rest.map fun v => v.category).sum ≤ 8 → Cond.classLink RX7 ik (cNm j) ∈ wC → Cond.initialized (cNm j) ∈ wC → decode cX7_checkNumber pc = .ok (.new ik, 3) → decode cX7_checkNumber (pc + 3) = .ok (.dup, 1) → decode cX7_checkNumber (pc + 4) = .ok (.invokespecial (cNi j), 3) → decode cX7_checkNumber (pc + 7) = .ok (.athrow, 1) → gJ X (cWd G A H0) Q k n τ lv pc rest) {post : CSt → Prop} (hret : ∀ (τ : CSt) (lv : List (Nat × Value)) (pc : Nat), post τ → decode cX7_checkNumber pc = .ok (.return_, 1) → gJ X (cWd G A H0) Q 1 6 τ lv pc []) (s : CSt) (hw : wpC_X7_checkNumber_10 post pX s) : gJ X (cWd G A H0) Q 0 0 s [] 10 [] := by
  exact hthr 1 _ _ _ _ _ _ _ (by decide) hw (Nat.le_of_ble_eq_true rfl) (Nat.le_of_ble_eq_true rfl) (Nat.le_of_ble_eq_true rfl) kC_418 kC_419 dX7_checkNumber_10 dX7_checkNumber_13 dX7_checkNumber_14 dX7_checkNumber_17
theorem wkC_X7_checkNumber_0 {X : gT} {G : cG} {A : Nat → Prop} {H0 : Heap} {Q : State → Prop} (C : cC X cX7_checkNumber 3 RX7 G A) (hsz : H0 = (g_s X).heap) (hR : 6 ≤ (g_R X).frames ∧ 89 ≤ (g_R X).locals ∧ 1 ≤ (g_R X).cells ∧ 6 ≤ (g_R X).slots) {pX : String → CSt → Prop} (hfl : (g_l X).stackTraces = false) (hout : ∀ (E : String) (τ : CSt) (lv : List (Nat × Value)) (pc k n : Nat) (rest : List Value), pX E τ → k ≤ 1 → n ≤ 6 → gX X (cWd G A H0) Q k n τ lv pc rest E) (hthr : ∀ (j : Nat) (τ : CSt) (lv : List (Nat × Value)) (pc k n ik : Nat) (rest : List Value), j < 5 → pX (cNm j) τ → k + 1 ≤ 1 → n + 6 ≤ 6 → (rest.map fun v => v.category).sum ≤ 8 → Cond.classLink RX7 ik (cNm j) ∈ wC → Cond.initialized (cNm j) ∈ wC → decode cX7_checkNumber pc = .ok (.new ik, 3) → decode cX7_checkNumber (pc + 3) = .ok (.dup, 1) → decode cX7_checkNumber (pc + 4) = .ok (.invokespecial (cNi j), 3) → decode cX7_checkNumber (pc + 7) = .ok (.athrow, 1) → gJ X (cWd G A H0) Q k n τ lv pc rest) {post : CSt → Prop} (hret : ∀ (τ : CSt) (lv : List (Nat × Value)) (pc : Nat), post τ → decode cX7_checkNumber pc = .ok (.return_, 1) → gJ X (cWd G A H0) Q 1 6 τ lv pc []) (s : CSt) (v0 : Int32) (v1 : Int32) (v2 : Int32) (hw : wpC_X7_checkNumber_0 post pX s v0 v1 v2) : gJ X (cWd G A H0) Q 0 0 s [(0, .int v0), (1, .int v1), (2, .int v2)] 0 [] := by
  refine g_iload_n C.1 0 dX7_checkNumber_0 rfl rfl ?_
  refine g_iload_n C.1 1 dX7_checkNumber_1 rfl rfl ?_
  refine g_icmp_lt (tgt := 10) C.1 dX7_checkNumber_2 (by decide) (fun h1 => ?_) (fun h1 => ?_)
  · replace hw := hw.1 h1
    refine gJ.sub [] rfl ?_
    exact wkC_X7_checkNumber_10 C hsz hR hfl hout hthr hret _ hw
  · replace hw := hw.2 h1
    refine g_iload_n C.1 0 dX7_checkNumber_5 rfl rfl ?_
    refine g_iload_n C.1 2 dX7_checkNumber_6 rfl rfl ?_
    refine g_icmp_le (tgt := 18) C.1 dX7_checkNumber_7 (by decide) (fun h2 => ?_) (fun h2 => ?_)
    · replace hw := hw.1 h2
      refine gJ.widen (k' := 1) (n' := 6) (Nat.le_of_ble_eq_true rfl) (Nat.le_of_ble_eq_true rfl) ?_
      exact hret _ _ _ hw dX7_checkNumber_18
    · replace hw := hw.2 h2
      refine gJ.sub [] rfl ?_
      exact wkC_X7_checkNumber_10 C hsz hR hfl hout hthr hret _ hw
theorem hdC_X7_checkNumber : yX7_checkNumber.cls = RX7 ∧ yX7_checkNumber.cls ≠ "java/lang/invoke/MethodHandle" ∧ yX7_checkNumber.cls ≠ "java/lang/invoke/VarHandle" ∧ (parseMethodDescriptor yX7_checkNumber.desc).map (fun d => d.parameters.length) = some 3 := by decide +kernel
theorem cC_X7_checkNumber (l : Launch) (hfl : l.stackTraces = false) (G : cG) (s : CSt) (v0 : Int32) (v1 : Int32) (v2 : Int32) (post : CSt → Prop) (pX : String → CSt → Prop) (hw : wpC_X7_checkNumber_0 post pX s v0 v1 v2) : cTv l yX7_checkNumber cX7_checkNumber 3 6 89 1 6 G s [.int v0, .int v1, .int v2] post pX := cTv_of hfl (by decide +kernel) rfl rfl (Nat.le_of_ble_eq_true rfl) ⟨by decide, by decide, by decide, by decide⟩ (fun X A H0 Q hl hR hsz C hret hout hthr => wkC_X7_checkNumber_0 C hsz hR (by rw [hl]; exact hfl) hout hthr hret s v0 v1 v2 hw)
def wpC_X7_checkRoom_0 (post : CSt → Prop) (pX : String → CSt → Prop) (s : CSt) (v0 : Int32) (v1 : Int32) : Prop := (v0 < v1 → post s) ∧ (¬ v0 < v1 → pX "java/lang/UnsupportedOperationException" s)
theorem wkC_X7_checkRoom_0 {X : gT} {G : cG} {A : Nat → Prop} {H0 : Heap} {Q : State → Prop} (C : cC X cX7_checkRoom 2 RX7 G A) (hsz : H0 = (g_s X).heap) (hR : 6 ≤ (g_R X).frames ∧ 89 ≤ (g_R X).locals ∧ 1 ≤ (g_R X).cells ∧ 6 ≤ (g_R X).slots) {pX : String → CSt → Prop} (hfl : (g_l X).stackTraces = false) (hout : ∀ (E : String) (τ : CSt) (lv : List (Nat × Value)) (pc k n : Nat) (rest : List Value), pX E τ → k ≤ 1 → n ≤ 6 → gX X (cWd G A H0) Q k n τ lv pc rest E) (hthr : ∀ (j : Nat) (τ : CSt) (lv : List (Nat × Value)) (pc k n ik : Nat) (rest : List Value), j < 5 → pX (cNm j) τ → k + 1 ≤ 1 → n + 6 ≤ 6 → (rest.map fun v => v.category).sum ≤ 8 → Cond.classLink RX7 ik (cNm j) ∈ wC → Cond.initialized (cNm j) ∈ wC → decode cX7_checkRoom pc = .ok (.new ik, 3) → decode cX7_checkRoom (pc + 3) = .ok (.dup, 1) → decode cX7_checkRoom (pc + 4) = .ok (.invokespecial (cNi j), 3) → decode cX7_checkRoom (pc + 7) = .ok (.athrow, 1) → gJ X (cWd G A H0) Q k n τ lv pc rest) {post : CSt → Prop} (hret : ∀ (τ : CSt) (lv : List (Nat × Value)) (pc : Nat), post τ → decode cX7_checkRoom pc = .ok (.return_, 1) → gJ X (cWd G A H0) Q 1 6 τ lv pc []) (s : CSt) (v0 : Int32) (v1 : Int32) (hw : wpC_X7_checkRoom_0 post pX s v0 v1) : gJ X (cWd G A H0) Q 0 0 s [(0, .int v0), (1, .int v1)] 0 [] := by
  refine g_iload_n C.1 0 dX7_checkRoom_0 rfl rfl ?_
  refine g_iload_n C.1 1 dX7_checkRoom_1 rfl rfl ?_
  refine g_icmp_lt (tgt := 13) C.1 dX7_checkRoom_2 (by decide) (fun h1 => ?_) (fun h1 => ?_)
  · replace hw := hw.1 h1
    refine gJ.widen (k' := 1) (n' := 6) (Nat.le_of_ble_eq_true rfl) (Nat.le_of_ble_eq_true rfl) ?_
    exact hret _ _ _ hw dX7_checkRoom_13
  · replace hw := hw.2 h1
    exact hthr 2 _ _ _ _ _ _ _ (by decide) hw (Nat.le_of_ble_eq_true rfl) (Nat.le_of_ble_eq_true rfl) (Nat.le_of_ble_eq_true rfl) kC_421 kC_422 dX7_checkRoom_5 dX7_checkRoom_8 dX7_checkRoom_9 dX7_checkRoom_12
theorem hdC_X7_checkRoom : yX7_checkRoom.cls = RX7 ∧ yX7_checkRoom.cls ≠ "java/lang/invoke/MethodHandle" ∧ yX7_checkRoom.cls ≠ "java/lang/invoke/VarHandle" ∧ (parseMethodDescriptor yX7_checkRoom.desc).map (fun d => d.parameters.length) = some 2 := by decide +kernel
theorem cC_X7_checkRoom (l : Launch) (hfl : l.stackTraces = false) (G : cG) (s : CSt) (v0 : Int32) (v1 : Int32) (post : CSt → Prop) (pX : String → CSt → Prop) (hw : wpC_X7_checkRoom_0 post pX s v0 v1) : cTv l yX7_checkRoom cX7_checkRoom 2 6 89 1 6 G s [.int v0, .int v1] post pX := cTv_of hfl (by decide +kernel) rfl rfl (Nat.le_of_ble_eq_true rfl) ⟨by decide, by decide, by decide, by decide⟩ (fun X A H0 Q hl hR hsz C hret hout hthr => wkC_X7_checkRoom_0 C hsz hR (by rw [hl]; exact hfl) hout hthr hret s v0 v1 hw)
def wpC_J8_newLength_cabcc_21 (post : Int32 → CSt → Prop) (s : CSt) (v0 : Int32) (v1 : Int32) : Prop := False
def wpC_J8_newLength_cabcc_0 (post : Int32 → CSt → Prop) (s : CSt) (v0 : Int32) (v1 : Int32) (v2 : Int32) : Prop := ∀ x1 : Int32, x1 = (if v1 < v2 then v2 else v1) → ((v0 + x1) ≤ (0 : Int32) → wpC_J8_newLength_cabcc_21 post s v0 v1) ∧ (¬ (v0 + x1) ≤ (0 : Int32) → (2147483639 < (v0 + x1) → wpC_J8_newLength_cabcc_21 post s v0 v1) ∧ (¬ 2147483639 < (v0 + x1) → post (v0 + x1) s))
theorem wkC_J8_newLength_cabcc_21 {X : gT} {G : cG} {A : Nat → Prop} {H0 : Heap} {Q : State → Prop} (C : cC X cJ8_newLength_cabcc 4 RJ8 G A) (hsz : H0 = (g_s X).heap) (hR : 1 ≤ (g_R X).frames ∧ 24 ≤ (g_R X).locals ∧ 0 ≤ (g_R X).cells ∧ 0 ≤ (g_R X).slots) {post : Int32 → CSt → Prop} (hret : ∀ (r : Int32) (τ : CSt) (lv : List (Nat × Value)) (pc : Nat), post r τ → narrow .int (.int r) = .int r → decode cJ8_newLength_cabcc pc = .ok (.ireturn, 1) → gJ X (cWd G A H0) Q 0 0 τ lv pc [.int r]) (s : CSt) (v0 : Int32) (v1 : Int32) (hw : wpC_J8_newLength_cabcc_21 post s v0 v1) : gJ X (cWd G A H0) Q 0 0 s [(0, .int v0), (1, .int v1)] 21 [] := by
  refine g_iload_n C.1 0 dJ8_newLength_cabcc_21 rfl rfl ?_
  refine g_iload_n C.1 1 dJ8_newLength_cabcc_22 rfl rfl ?_
  exact hw.elim
theorem wkC_J8_newLength_cabcc_0 {X : gT} {G : cG} {A : Nat → Prop} {H0 : Heap} {Q : State → Prop} (C : cC X cJ8_newLength_cabcc 4 RJ8 G A) (hsz : H0 = (g_s X).heap) (hR : 1 ≤ (g_R X).frames ∧ 24 ≤ (g_R X).locals ∧ 0 ≤ (g_R X).cells ∧ 0 ≤ (g_R X).slots) {post : Int32 → CSt → Prop} (hret : ∀ (r : Int32) (τ : CSt) (lv : List (Nat × Value)) (pc : Nat), post r τ → narrow .int (.int r) = .int r → decode cJ8_newLength_cabcc pc = .ok (.ireturn, 1) → gJ X (cWd G A H0) Q 0 0 τ lv pc [.int r]) (s : CSt) (v0 : Int32) (v1 : Int32) (v2 : Int32) (hw : wpC_J8_newLength_cabcc_0 post s v0 v1 v2) : gJ X (cWd G A H0) Q 0 0 s [(0, .int v0), (1, .int v1), (2, .int v2)] 0 [] := by
  refine g_iload_n C.1 0 dJ8_newLength_cabcc_0 rfl rfl ?_
  refine g_iload_n C.1 1 dJ8_newLength_cabcc_1 rfl rfl ?_
  refine g_iload_n C.1 2 dJ8_newLength_cabcc_2 rfl rfl ?_
  refine g_mmax C.1 C.2.1 (C.2.2.1 _ kC_182) (C.2.2.1 _ kC_3) (C.2.2.1 _ kC_4) (C.2.2.1 _ kC_5) (Nat.le_trans (Nat.le_of_ble_eq_true rfl) hR.1) (Nat.le_trans (Nat.le_of_ble_eq_true rfl) hR.2.1) (Nat.le_trans (Nat.le_of_ble_eq_true rfl) hR.2.2.1) (Nat.le_trans (Nat.le_of_ble_eq_true rfl) hR.2.2.2) dJ8_newLength_cabcc_3 ?_
  refine g_topi (fun x1 ex1 => ?_)
  replace hw := hw x1 ex1
  refine g_iadd C.1 dJ8_newLength_cabcc_6 ?_
  refine g_istore_n (lv' := [(3, .int (v0 + x1)), (0, .int v0), (1, .int v1), (2, .int v2)]) C.1 dJ8_newLength_cabcc_7 rfl (by decide) rfl ?_
  refine g_iconst (v := 0) C.1 dJ8_newLength_cabcc_8 (by decide) ?_
  refine g_iload_n C.1 0 dJ8_newLength_cabcc_9 rfl rfl ?_
  refine g_icmp_ge (tgt := 21) C.1 dJ8_newLength_cabcc_10 (by decide) (fun h2 => ?_) (fun h2 => ?_)
  · replace hw := hw.1 h2
    refine gJ.sub [1, 2] rfl ?_
    exact wkC_J8_newLength_cabcc_21 C hsz hR hret _ _ _ hw
  · replace hw := hw.2 h2
    refine g_iload_n C.1 0 dJ8_newLength_cabcc_13 rfl rfl ?_
    refine g_ldc (v := 2147483639) C.1 C.2.1 (C.2.2.1 _ kC_183) dJ8_newLength_cabcc_14 ?_
    refine g_icmp_gt (tgt := 21) C.1 dJ8_newLength_cabcc_16 (by decide) (fun h3 => ?_) (fun h3 => ?_)
    · replace hw := hw.1 h3
      refine gJ.sub [1, 2] rfl ?_
      exact wkC_J8_newLength_cabcc_21 C hsz hR hret _ _ _ hw
    · replace hw := hw.2 h3
      refine g_iload_n C.1 0 dJ8_newLength_cabcc_19 rfl rfl ?_
      exact hret _ _ _ _ hw rfl dJ8_newLength_cabcc_20
theorem hdC_J8_newLength_cabcc : yJ8_newLength_cabcc.cls = RJ8 ∧ yJ8_newLength_cabcc.cls ≠ "java/lang/invoke/MethodHandle" ∧ yJ8_newLength_cabcc.cls ≠ "java/lang/invoke/VarHandle" ∧ (parseMethodDescriptor yJ8_newLength_cabcc.desc).map (fun d => d.parameters.length) = some 3 := by decide +kernel
theorem cC_J8_newLength_cabcc (l : Launch) (G : cG) (s : CSt) (v0 : Int32) (v1 : Int32) (v2 : Int32) (post : Int32 → CSt → Prop) (hw : wpC_J8_newLength_cabcc_0 post s v0 v1 v2) : cMi l yJ8_newLength_cabcc cJ8_newLength_cabcc 4 .int 1 24 0 0 G s [.int v0, .int v1, .int v2] post := cMi_of (by decide +kernel) rfl (Nat.le_of_ble_eq_true rfl) (fun X A H0 Q hl hR hsz hnm C hret => wkC_J8_newLength_cabcc_0 C hsz hR hret s v0 v1 v2 hw)
def wpC_J7_copyOf_6403c_24 (post : Option Nat → CSt → Prop) (s : CSt) (v0 : Nat) (v1 : Int32) (w0 : Nat) : Prop := (v0 = (cZ s).1 ∨ (v0 ≠ (cZ s).1 ∧ cAt s 10 v0)) ∧ ∀ x1 : Int32, x1 = (if v1 < (nI (cNq s v0)) then v1 else (nI (cNq s v0))) → cAt s 10 v0 ∧ cAt s 10 w0 ∧ ¬ (0 : Int32) < 0 ∧ ¬ (0 : Int32) < 0 ∧ ¬ x1 < 0 ∧ (0 : Int32).toNatClampNeg + x1.toNatClampNeg ≤ cN s v0 ∧ (0 : Int32).toNatClampNeg + x1.toNatClampNeg ≤ cN s w0 ∧ (∀ i : Nat, i < x1.toNatClampNeg → ∀ y : Nat, cE s v0 ((0 : Int32).toNatClampNeg + i) = some y → cElm s y) ∧ ∀ s2 : CSt, s2 = csE s w0 (va_cpy (cE s v0) (cE s w0) (0 : Int32).toNatClampNeg (0 : Int32).toNatClampNeg x1.toNatClampNeg) → post (some w0) s2
def wpC_J7_copyOf_6403c_0 (post : Option Nat → CSt → Prop) (s : CSt) (v0 : Nat) (v1 : Int32) (v2 : Nat) : Prop := (¬ v2 = ((cZ s).2) → False) ∧ (v2 = ((cZ s).2) → ¬ v1 < 0 ∧ v1.toNatClampNeg ≤ 109 ∧ ∀ q3 : Nat, q3 ∉ cL s → q3 ≠ (cZ s).1 → ∀ s4 : CSt, s4 = csA s q3 10 v1.toNatClampNeg → wpC_J7_copyOf_6403c_24 post s4 v0 v1 q3)
theorem wkC_J7_copyOf_6403c_24 {X : gT} {G : cG} {A : Nat → Prop} {H0 : Heap} {Q : State → Prop} (C : cC X cJ7_copyOf_6403c 4 RJ7 G A) (hsz : H0 = (g_s X).heap) (hR : 1 ≤ (g_R X).frames ∧ 60 ≤ (g_R X).locals ∧ 1 ≤ (g_R X).cells ∧ 109 ≤ (g_R X).slots) {post : Option Nat → CSt → Prop} (hret : ∀ (r : Option Nat) (τ : CSt) (lv : List (Nat × Value)) (pc : Nat), post r τ → decode cJ7_copyOf_6403c pc = .ok (.areturn, 1) → gJ X (cWd G A H0) Q 1 109 τ lv pc [va_rf r]) (s : CSt) (v0 : Nat) (v1 : Int32) (w0 : Nat) (hw : wpC_J7_copyOf_6403c_24 post s v0 v1 w0) : gJ X (cWd G A H0) Q 1 109 s [(0, .ref v0), (1, .int v1)] 24 [.ref w0] := by
  refine g_astore_n (lv' := [(3, .ref w0), (0, .ref v0), (1, .int v1)]) C.1 dJ7_copyOf_6403c_24 rfl (by decide) rfl ?_
  refine g_aload_n C.1 1 dJ7_copyOf_6403c_25 rfl rfl ?_
  refine g_iconst (v := 0) C.1 dJ7_copyOf_6403c_26 (by decide) ?_
  refine g_aload_n C.1 0 dJ7_copyOf_6403c_27 rfl rfl ?_
  refine g_iconst (v := 0) C.1 dJ7_copyOf_6403c_28 (by decide) ?_
  refine g_aload_n C.1 1 dJ7_copyOf_6403c_29 rfl rfl ?_
  refine c_elen C hsz hw.1 dJ7_copyOf_6403c_30 ?_
  replace hw := hw.2
  refine g_iload_n C.1 2 dJ7_copyOf_6403c_31 rfl rfl ?_
  refine g_mmin C.1 C.2.1 (C.2.2.1 _ kC_200) (C.2.2.1 _ kC_66) (C.2.2.1 _ kC_4) (C.2.2.1 _ kC_67) (Nat.le_trans (Nat.le_of_ble_eq_true rfl) hR.1) (Nat.le_trans (Nat.le_of_ble_eq_true rfl) hR.2.1) (Nat.le_trans (Nat.le_of_ble_eq_true rfl) hR.2.2.1) (Nat.le_trans (Nat.le_of_ble_eq_true rfl) hR.2.2.2) dJ7_copyOf_6403c_32 ?_
  refine g_topi (fun x1 ex1 => ?_)
  replace hw := hw x1 ex1
  refine c_copyA C hw.1 hw.2.1 kC_201 hw.2.2.1 hw.2.2.2.1 hw.2.2.2.2.1 hw.2.2.2.2.2.1 hw.2.2.2.2.2.2.1 hw.2.2.2.2.2.2.2.1 (Nat.le_trans (Nat.le_of_ble_eq_true rfl) hR.1) (Nat.le_trans (Nat.le_of_ble_eq_true rfl) hR.2.1) dJ7_copyOf_6403c_35 ?_
  replace hw := hw.2.2.2.2.2.2.2.2
  refine gJ.nm (fun s2 es2 => ?_)
  replace hw := hw s2 es2
  refine g_aload_n C.1 0 dJ7_copyOf_6403c_38 rfl rfl ?_
  exact hret (some w0) _ _ _ hw dJ7_copyOf_6403c_39
theorem wkC_J7_copyOf_6403c_0 {X : gT} {G : cG} {A : Nat → Prop} {H0 : Heap} {Q : State → Prop} (C : cC X cJ7_copyOf_6403c 4 RJ7 G A) (hsz : H0 = (g_s X).heap) (hR : 1 ≤ (g_R X).frames ∧ 60 ≤ (g_R X).locals ∧ 1 ≤ (g_R X).cells ∧ 109 ≤ (g_R X).slots) {post : Option Nat → CSt → Prop} (hret : ∀ (r : Option Nat) (τ : CSt) (lv : List (Nat × Value)) (pc : Nat), post r τ → decode cJ7_copyOf_6403c pc = .ok (.areturn, 1) → gJ X (cWd G A H0) Q 1 109 τ lv pc [va_rf r]) (s : CSt) (v0 : Nat) (v1 : Int32) (v2 : Nat) (hw : wpC_J7_copyOf_6403c_0 post s v0 v1 v2) : gJ X (cWd G A H0) Q 0 0 s [(0, .ref v0), (1, .int v1), (2, .ref v2)] 0 [] := by
  refine g_aload_n C.1 2 dJ7_copyOf_6403c_0 rfl rfl ?_
  refine c_ldcM C kC_198 dJ7_copyOf_6403c_1 ?_
  refine g_acmp_ne (rx := some v2) (ry := some ((cZ s).2)) (tgt := 13) C.1 dJ7_copyOf_6403c_3 (by decide) (fun h5 => ?_) (fun h5 => ?_)
  · replace hw := hw.1 (fun e => h5 (congrArg some e))
    refine g_aload_n C.1 2 dJ7_copyOf_6403c_13 rfl rfl ?_
    exact hw.elim
  · replace hw := hw.2 (Option.some.inj h5)
    refine g_iload_n C.1 1 dJ7_copyOf_6403c_6 rfl rfl ?_
    refine c_newQ (B := 109) C hsz kC_199 hw.1 hw.2.1 (Nat.le_of_ble_eq_true rfl) (Nat.le_trans (Nat.le_of_ble_eq_true rfl) hR.2.2.1) (Nat.le_trans (Nat.le_of_ble_eq_true rfl) hR.2.2.2) dJ7_copyOf_6403c_7 (fun q3 hq3 zq3 => ?_)
    replace hw := hw.2.2 q3 hq3 zq3
    refine gJ.nm (fun s4 es4 => ?_)
    replace hw := hw s4 es4
    refine g_goto (tgt := 24) C.1 dJ7_copyOf_6403c_10 (by decide) ?_
    refine gJ.sub [0, 1] rfl ?_
    exact wkC_J7_copyOf_6403c_24 C hsz hR hret _ _ _ _ hw
theorem hdC_J7_copyOf_6403c : yJ7_copyOf_6403c.cls = RJ7 ∧ yJ7_copyOf_6403c.cls ≠ "java/lang/invoke/MethodHandle" ∧ yJ7_copyOf_6403c.cls ≠ "java/lang/invoke/VarHandle" ∧ (parseMethodDescriptor yJ7_copyOf_6403c.desc).map (fun d => d.parameters.length) = some 3 := by decide +kernel
theorem cC_J7_copyOf_6403c (l : Launch) (G : cG) (s : CSt) (v0 : Nat) (v1 : Int32) (v2 : Nat) (post : Option Nat → CSt → Prop) (hw : wpC_J7_copyOf_6403c_0 post s v0 v1 v2) : cMq l yJ7_copyOf_6403c cJ7_copyOf_6403c 4 (.array (.object "java/lang/Object")) 1 60 1 109 G s [.ref v0, .int v1, .ref v2] post := cMq_of (by decide +kernel) rfl (by first | exact Or.inl ⟨_, rfl⟩ | exact Or.inr ⟨_, rfl⟩) (Nat.le_of_ble_eq_true rfl) (fun X A H0 Q hl hR hsz hnm C hret => wkC_J7_copyOf_6403c_0 C hsz hR hret s v0 v1 v2 hw)
