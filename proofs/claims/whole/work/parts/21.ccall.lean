/-! ===== BEGIN .. of methods that hand back an object of the pool ===== -/
section
variable {p : Program} {l : Launch} {e : Env} {R : Room} {s : State} {m : MethodId} {args : Array Value} {below : List Frame} {meth : Method} {c : Code} {H : Heap} {locs : List Loc} {cells slots : Nat} {Q : State → Prop}
variable {mc ms : Nat} {free : Addr → Prop} {A0 A1 : Nat → Prop} {H0 : Heap} {a : Array Value} {pc : Nat} {ls : Array Slot} {st0 rest : List Value}
theorem vx_callq {S SX : Type} {post : Option Nat → S → Prop} {px : SX → Prop} {B : S → State → Prop} {BX : String → SX → State → Prop} {AX : Nat → Prop} (hr : vx_Run p l e R s m args below meth c H locs cells slots mc ms (F0 m pc ls st0) rest (va_Qq post B A1 a) (vx_X px BX AX) free) (hS : va_S A0 H0 H locs) (hA : ∀ q, q < H.size → A1 q → A0 q) (hf : ∀ q, free q → A0 q) (hAX : ∀ q, q < H.size → AX q → A0 q)
    (kx : ∀ (E : String) (ce : Cell) (q9 : Addr) (u : SX) (t : State) (H1 : Heap) (locs1 : List Loc), t.heap = H1 → s.vm.Alike t.vm → px u → BX E u t → H.size ≤ H1.size → (∀ q : Nat, q < H.size → ¬ AX q → H1[q]? = H[q]?) → va_S A0 H0 H1 locs1 → H1[q9]? = some ce → ce.vm = .none → s.vm.findClass E = some ce.cls → vx_W p l e R s m args below meth c H1 locs1 (cells + mc) (slots + ms) Q (F0 m pc ls rest) q9)
    (kk : ∀ (r : Option Nat) (u : S) (t : State) (H1 : Heap) (locs1 : List Loc), t.heap = H1 → s.vm.Alike t.vm → post r u → B u t → H.size ≤ H1.size → (∀ q : Nat, q < H.size → ¬ A1 q → H1[q]? = H[q]?) → va_S A0 H0 H1 locs1 → W p l e R s m args below meth c H1 locs1 (cells + mc) (slots + ms) Q (F0 m (pc + 3) ls (va_rf r :: rest))) : W p l e R s m args below meth c H locs cells slots Q (F0 m pc ls st0) := by
  intro T hT X
  rcases hr T hT X with ⟨v, st₀, t, T', L, h0, X', hL, e1, e2, ⟨⟨r, u, hv, hp, hb⟩, hF⟩, st⟩ | ⟨q, st₀, t, T', L, E, ce, h0, X', hL, e1, e2, ⟨u, hp, hb, hF⟩, hce, hcv, hcl, st⟩
  · cases hv
    obtain ⟨k1, k2, k3⟩ := vx_keep h0 e1 hS hA hf hL hF
    obtain ⟨t2, a1, b1⟩ := kk r u t T'.heap (locs ++ L) e1.symm (by rw [← e2]; exact X'.warmed.alike) hp hb k1 k2 k3 T' rfl X'
    exact ⟨t2, st t2 a1, b1⟩
  · obtain ⟨k1, k2, k3⟩ := vx_keep h0 e1 hS hAX hf hL hF
    obtain ⟨t2, a1, b1⟩ := kx E ce q u t T'.heap (locs ++ L) e1.symm (by rw [← e2]; exact X'.warmed.alike) hp hb k1 k2 k3 (by rw [e1]; exact hce) hcv hcl T' rfl X'
    exact ⟨t2, st.trans a1, b1⟩
end
/-! ===== END ===== -/
/-! contracts over the class's world, and calls -/
abbrev cYs (y : MethodName) (b : ByteArray) (mL : Nat) (ret : Option FieldType) : List Cond := .code y b mL ret :: wC
abbrev cRm (f c mc ms : Nat) : Room := { frames := f, cells := mc, slots := ms, locals := c }
def cPc (G : cG) (σ : CSt) (sz : Nat) (vs : List Value) : Array Value → State → Prop := va_Pc vs (fun U => U.heap.size = sz ∧ va_P G.1 vwCl (cWs G σ) U.heap ∧ (va_K G.1 vwCl (cKt G) U ∧ cFx G (cA σ sz) U U.heap) ∧ va_D (fun _ => True) (cWs G σ) ∧ cZ σ = G.2.2.2.2)
def cB (G : cG) (A : Nat → Prop) (τ : CSt) (t : State) : Prop := va_P G.1 vwCl (cWs G τ) t.heap ∧ va_K G.1 vwCl (cKt G) t ∧ va_D A (cWs G τ) ∧ cZ τ = G.2.2.2.2
theorem cYs_good {y : MethodName} {b : ByteArray} {mL : Nat} {ret : Option FieldType} (h : Cond.code y b mL ret ∈ wC) : GoodIn wC (cYs y b mL ret) := fun w hw => (List.mem_cons.mp hw).elim (fun e => by rw [e]; exact kC_good _ h) (fun h => kC_good w h)
theorem c_blind {G : cG} {σ : CSt} {sz : Nat} {vs : List Value} : FrameBlind (cPc G σ sz vs) := fun a U g mk q => by
  obtain ⟨q0, q1, qP, qK, qD, qz⟩ := q
  exact ⟨q0, q1, qP, ⟨va_K.moved (u := U) (U := U.calling g mk a) (Vm.Alike.refl U.vm) qK.1, cFx.calling qK.2⟩, qD, qz⟩
theorem c_DA {G : cG} {σ : CSt} {sz : Nat} {B : Nat → Prop} (h : va_D B (cWs G σ)) : va_D (cA σ sz) (cWs G σ) := h.weaken (fun k q hk _ => by
  have h1 := List.mem_of_getElem? hk
  obtain ⟨a, ha, rfl⟩ := List.mem_map.mp h1
  exact Or.inl ha)
/-- where the class's exceptions go, at the end of a method that may throw -/
def cXX (G : cG) (A : Nat → Prop) (pX : String → CSt → Prop) : String → State → State → Prop := vx_X (fun _ : CSt => True) (fun E τ t => pX E τ ∧ cB G A τ t) A
def cMi (l : Launch) (y : MethodName) (b : ByteArray) (mL : Nat) (rt : FieldType) (f c mc ms : Nat) (G : cG) (σ : CSt) (vs : List Value) (post : Int32 → CSt → Prop) : Prop := ∀ sz : Nat, Met l y (cYs y b mL (some rt)) (cRm f c mc ms) (cPc G σ sz vs) (va_Qi post (cB G (cA σ sz)) (cA σ sz)) mc ms (cA σ sz)
def cTi (l : Launch) (y : MethodName) (b : ByteArray) (mL : Nat) (rt : FieldType) (f c mc ms : Nat) (G : cG) (σ : CSt) (vs : List Value) (post : Int32 → CSt → Prop) (pX : String → CSt → Prop) : Prop := ∀ sz : Nat, vx_Met l y (cYs y b mL (some rt)) (cRm f c mc ms) (cPc G σ sz vs) (va_Qi post (cB G (cA σ sz)) (cA σ sz)) (cXX G (cA σ sz) pX) mc ms (cA σ sz)
def cMl (l : Launch) (y : MethodName) (b : ByteArray) (mL : Nat) (f c mc ms : Nat) (G : cG) (σ : CSt) (vs : List Value) (post : Int64 → CSt → Prop) : Prop := ∀ sz : Nat, Met l y (cYs y b mL (some .long)) (cRm f c mc ms) (cPc G σ sz vs) (va_Ql post (cB G (cA σ sz)) (cA σ sz)) mc ms (cA σ sz)
def cTl (l : Launch) (y : MethodName) (b : ByteArray) (mL : Nat) (f c mc ms : Nat) (G : cG) (σ : CSt) (vs : List Value) (post : Int64 → CSt → Prop) (pX : String → CSt → Prop) : Prop := ∀ sz : Nat, vx_Met l y (cYs y b mL (some .long)) (cRm f c mc ms) (cPc G σ sz vs) (va_Ql post (cB G (cA σ sz)) (cA σ sz)) (cXX G (cA σ sz) pX) mc ms (cA σ sz)
def cMv (l : Launch) (y : MethodName) (b : ByteArray) (mL : Nat) (f c mc ms : Nat) (G : cG) (σ : CSt) (vs : List Value) (post : CSt → Prop) : Prop := ∀ sz : Nat, Met l y (cYs y b mL none) (cRm f c mc ms) (cPc G σ sz vs) (va_Qv post (cB G (cA σ sz)) (cA σ sz)) mc ms (cA σ sz)
def cTv (l : Launch) (y : MethodName) (b : ByteArray) (mL : Nat) (f c mc ms : Nat) (G : cG) (σ : CSt) (vs : List Value) (post : CSt → Prop) (pX : String → CSt → Prop) : Prop := ∀ sz : Nat, vx_Met l y (cYs y b mL none) (cRm f c mc ms) (cPc G σ sz vs) (va_Qv post (cB G (cA σ sz)) (cA σ sz)) (cXX G (cA σ sz) pX) mc ms (cA σ sz)
def cMq (l : Launch) (y : MethodName) (b : ByteArray) (mL : Nat) (rt : FieldType) (f c mc ms : Nat) (G : cG) (σ : CSt) (vs : List Value) (post : Option Nat → CSt → Prop) : Prop := ∀ sz : Nat, Met l y (cYs y b mL (some rt)) (cRm f c mc ms) (cPc G σ sz vs) (va_Qq post (cB G (cA σ sz)) (cA σ sz)) mc ms (cA σ sz)
def cTq (l : Launch) (y : MethodName) (b : ByteArray) (mL : Nat) (rt : FieldType) (f c mc ms : Nat) (G : cG) (σ : CSt) (vs : List Value) (post : Option Nat → CSt → Prop) (pX : String → CSt → Prop) : Prop := ∀ sz : Nat, vx_Met l y (cYs y b mL (some rt)) (cRm f c mc ms) (cPc G σ sz vs) (va_Qq post (cB G (cA σ sz)) (cA σ sz)) (cXX G (cA σ sz) pX) mc ms (cA σ sz)
def gX (X : gT) {S : Type} (Wd : S → Heap → List Loc → Prop) (Q : State → Prop) (k n : Nat) (σ : S) (lv : List (Nat × Value)) (pc : Nat) (st : List Value) (E : String) : Prop :=
  ∀ (H : Heap) (locs : List Loc) (ls : Array Slot) (q : Addr) (ce : Cell), Wd σ H locs → lv_has ls (g_n X) lv → H[q]? = some ce → ce.vm = .none → (g_s X).vm.findClass E = some ce.cls →
    vx_W (g_p X) (g_l X) (g_e X) (g_R X) (g_s X) (g_m X) (g_a X) (g_b X) (g_me X) (g_c X) H locs k n Q (F0 (g_m X) pc ls st) q
abbrev cNm (j : Nat) : String := ["java/lang/IndexOutOfBoundsException", "java/lang/IllegalArgumentException", "java/lang/UnsupportedOperationException", "java/lang/IllegalStateException", "java/util/NoSuchElementException"].getD j ""
abbrev cNi (j : Nat) : Nat := [260, 125, 339, 135, 272].getD j 0
theorem cCd_tab {w : Cond} (hc : cCd w = true) : w.onTables = true := by
  cases w <;> first | rfl | (exact absurd (show false = true from hc) Bool.false_ne_true)
theorem cNg_at : ∀ j : Nat, j < 5 → ∀ w ∈ (cX0 (cNm j) (cNi j)).filter (fun w => !goodWord w), w ∈ cNg := by
  intro j hj w hw
  have hap : ∀ {a b : List Cond}, w ∈ a → w ∈ a ++ b := fun h => List.mem_append_left _ h
  rcases (show j = 0 ∨ j = 1 ∨ j = 2 ∨ j = 3 ∨ j = 4 by omega) with rfl | rfl | rfl | rfl | rfl
  · exact hap (hap (hap (hap (hap hw))))
  · exact hap (hap (hap (hap (List.mem_append_right _ hw))))
  · exact hap (hap (hap (List.mem_append_right _ hw)))
  · exact hap (hap (List.mem_append_right _ hw))
  · exact hap (List.mem_append_right _ hw)
theorem cWc_at : ∀ j : Nat, j < 5 → ∀ w ∈ (cX0 (cNm j) (cNi j)).filter goodWord, w ∈ wC := by
  intro j hj w hw
  rcases (show j = 0 ∨ j = 1 ∨ j = 2 ∨ j = 3 ∨ j = 4 by omega) with rfl | rfl | rfl | rfl | rfl
  · exact kC_E0 w hw
  · exact kC_E1 w hw
  · exact kC_E2 w hw
  · exact kC_E3 w hw
  · exact kC_E4 w hw
theorem cOt_at : ∀ j : Nat, j < 5 → ∀ w ∈ cX0 (cNm j) (cNi j), vx_ot w = true := by
  have h : ((List.range 5).all fun j => (cX0 (cNm j) (cNi j)).all vx_ot) = true := by decide +kernel
  exact fun j hj w hw => List.all_eq_true.mp (List.all_eq_true.mp h j (List.mem_range.mpr hj)) w hw
theorem cFit_at : ∀ j : Nat, j < 5 → Bundle.fit (cNm j) = true := by
  have h : ((List.range 5).all fun j => Bundle.fit (cNm j)) = true := by decide +kernel
  exact fun j hj => List.all_eq_true.mp h j (List.mem_range.mpr hj)
theorem cFit_nm : ∀ n ∈ ["java/lang/RuntimeException", "java/lang/Exception"], Bundle.fit n = true := by
  have h : (["java/lang/RuntimeException", "java/lang/Exception"] : List String).all Bundle.fit = true := by decide +kernel
  exact fun n hn => List.all_eq_true.mp h n hn
section CCALL
variable {X : gT} {Q : State → Prop} {k n : Nat} {σ : CSt} {lv : List (Nat × Value)} {pc : Nat} {rest st0 : List Value} {cc : ByteArray} {nL : Nat} {own : String} {G : cG} {A : Nat → Prop} {H0 : Heap} {a : Nat} {y : MethodName} {b : ByteArray} {mL f c mc ms idx : Nat} {rt : FieldType} {vs : List Value} {cls : String}
theorem c_Ain {H : Heap} {locs : List Loc} (C : cC X cc nL own G A) (hsz : H0 = (g_s X).heap) (hW : cWd G A H0 σ H locs) : ∀ q, cA σ H.size q → A q := by
  intro q h
  rcases h with h | h
  · obtain ⟨p, hp⟩ := c_pl (G := G) h
    exact hW.2.1.2 p _ hp
  · exact C.2.2.2.2.1 q (Nat.le_trans (by rw [← hsz]; exact hW.2.2.1.1) h)
theorem c_back {H H1 : Heap} {locs locs1 : List Loc} {τ : CSt} {t : State} (C : cC X cc nL own G A) (hsz : H0 = (g_s X).heap) (hW : cWd G A H0 σ H locs) (ht : t.heap = H1) (hB : cB G (cA σ H.size) τ t) (hS : va_S A H0 H1 locs1) : cWd G A H0 τ H1 locs1 :=
  ⟨by rw [← ht]; exact hB.1, hB.2.2.1.weaken (fun k q _ h => c_Ain C hsz hW q.1 h), hS, hB.2.2.2⟩
theorem c_pre {H : Heap} {locs : List Loc} (C : cC X cc nL own G A) (hsz : H0 = (g_s X).heap) (hW : cWd G A H0 σ H locs) (vs : List Value) : ∀ U : State, U.heap = H → (g_s X).WarmedH U.vm → cPc G σ H.size vs vs.toArray U := by
  intro U hU hW'
  exact ⟨rfl, by rw [hU], by rw [hU]; exact hW.1, ⟨va_K.moved hW'.alike C.2.2.2.1, C.2.2.2.2.2.go (hsz ▸ hW.2.2.1) hU hW' (c_Ain C hsz hW)⟩, hW.2.1.weaken (fun _ _ _ _ => trivial), hW.2.2.2⟩
theorem c_wsV {ret : Option FieldType} (k0 : Cond.initialized cls ∈ wC) (k1 : Cond.methodLink own idx y ∈ wC) (k2 : Cond.instanceMethod y ∈ wC) (k3 : Cond.selects cls y y ∈ wC) (k4 : Cond.code y b mL ret ∈ wC) : GoodIn wC (wsV own idx cls y (cYs y b mL ret)) := by
  refine f_ws (cYs_good k4) (fun w hw => ?_) kC_good
  simp only [List.mem_cons, List.not_mem_nil, or_false] at hw
  rcases hw with rfl | rfl | rfl | rfl <;> assumption
theorem c_wsS {ret : Option FieldType} (k0 : Cond.initialized y.cls ∈ wC) (k1 : Cond.methodLink own idx y ∈ wC) (k2 : Cond.static y ∈ wC) (k4 : Cond.code y b mL ret ∈ wC) : GoodIn wC (va_wsS own idx y (cYs y b mL ret)) := by
  refine f_ws (cYs_good k4) (fun w hw => ?_) kC_good
  simp only [List.mem_cons, List.not_mem_nil, or_false] at hw
  rcases hw with rfl | rfl | rfl <;> assumption
theorem c_recv0 (C : cC X cc nL own G A) (hA : cAt σ 0 a) : ∀ (H : Heap) (locs : List Loc), cWd G A H0 σ H locs → ∃ cell : Cell, H[a]? = some cell ∧ cell.vm.isStatics = false ∧ (g_s X).vm.findClass RJx4a65c = some cell.cls := by
  intro H locs hW
  obtain ⟨p, hp⟩ := c_pl (G := G) hA.1
  rw [cEl_0 hA.2] at hp
  exact va_recv C.2.2.2.1 hW.1 (ci := 0) rfl hp
theorem c_recv1 (C : cC X cc nL own G A) (hA : cAt σ 1 a) : ∀ (H : Heap) (locs : List Loc), cWd G A H0 σ H locs → ∃ cell : Cell, H[a]? = some cell ∧ cell.vm.isStatics = false ∧ (g_s X).vm.findClass RX1 = some cell.cls := by
  intro H locs hW
  obtain ⟨p, hp⟩ := c_pl (G := G) hA.1
  rw [cEl_1 hA.2] at hp
  exact va_recv C.2.2.2.1 hW.1 (ci := 1) rfl hp
theorem c_recv2 (C : cC X cc nL own G A) (hA : cAt σ 2 a) : ∀ (H : Heap) (locs : List Loc), cWd G A H0 σ H locs → ∃ cell : Cell, H[a]? = some cell ∧ cell.vm.isStatics = false ∧ (g_s X).vm.findClass RX2 = some cell.cls := by
  intro H locs hW
  obtain ⟨p, hp⟩ := c_pl (G := G) hA.1
  rw [cEl_2 hA.2] at hp
  exact va_recv C.2.2.2.1 hW.1 (ci := 2) rfl hp
theorem c_recv3 (C : cC X cc nL own G A) (hA : cAt σ 3 a) : ∀ (H : Heap) (locs : List Loc), cWd G A H0 σ H locs → ∃ cell : Cell, H[a]? = some cell ∧ cell.vm.isStatics = false ∧ (g_s X).vm.findClass RX3 = some cell.cls := by
  intro H locs hW
  obtain ⟨p, hp⟩ := c_pl (G := G) hA.1
  rw [cEl_3 hA.2] at hp
  exact va_recv C.2.2.2.1 hW.1 (ci := 3) rfl hp
theorem c_recv4 (C : cC X cc nL own G A) (hA : cAt σ 4 a) : ∀ (H : Heap) (locs : List Loc), cWd G A H0 σ H locs → ∃ cell : Cell, H[a]? = some cell ∧ cell.vm.isStatics = false ∧ (g_s X).vm.findClass RX4 = some cell.cls := by
  intro H locs hW
  obtain ⟨p, hp⟩ := c_pl (G := G) hA.1
  rw [cEl_4 hA.2] at hp
  exact va_recv C.2.2.2.1 hW.1 (ci := 4) rfl hp
theorem c_recv5 (C : cC X cc nL own G A) (hA : cAt σ 5 a) : ∀ (H : Heap) (locs : List Loc), cWd G A H0 σ H locs → ∃ cell : Cell, H[a]? = some cell ∧ cell.vm.isStatics = false ∧ (g_s X).vm.findClass RX5 = some cell.cls := by
  intro H locs hW
  obtain ⟨p, hp⟩ := c_pl (G := G) hA.1
  rw [cEl_5 hA.2] at hp
  exact va_recv C.2.2.2.1 hW.1 (ci := 5) rfl hp
theorem c_recv6 (C : cC X cc nL own G A) (hA : cAt σ 6 a) : ∀ (H : Heap) (locs : List Loc), cWd G A H0 σ H locs → ∃ cell : Cell, H[a]? = some cell ∧ cell.vm.isStatics = false ∧ (g_s X).vm.findClass RX6 = some cell.cls := by
  intro H locs hW
  obtain ⟨p, hp⟩ := c_pl (G := G) hA.1
  rw [cEl_6 hA.2] at hp
  exact va_recv C.2.2.2.1 hW.1 (ci := 6) rfl hp
theorem c_recv7 (C : cC X cc nL own G A) (hA : cAt σ 7 a) : ∀ (H : Heap) (locs : List Loc), cWd G A H0 σ H locs → ∃ cell : Cell, H[a]? = some cell ∧ cell.vm.isStatics = false ∧ (g_s X).vm.findClass RX7 = some cell.cls := by
  intro H locs hW
  obtain ⟨p, hp⟩ := c_pl (G := G) hA.1
  rw [cEl_7 hA.2] at hp
  exact va_recv C.2.2.2.1 hW.1 (ci := 7) rfl hp
theorem c_callVi {post : Int32 → CSt → Prop} (C : cC X cc nL own G A) (hsz : H0 = (g_s X).heap) (hM : cMi (g_l X) y b mL rt f c mc ms G σ (.ref a :: vs) post) (k0 : Cond.initialized cls ∈ wC) (k1 : Cond.methodLink own idx y ∈ wC) (k2 : Cond.instanceMethod y ∈ wC) (k3 : Cond.selects cls y y ∈ wC) (k4 : Cond.code y b mL (some rt) ∈ wC) (hd : y.cls = cls ∧ y.cls ≠ "java/lang/invoke/MethodHandle" ∧ y.cls ≠ "java/lang/invoke/VarHandle" ∧ (parseMethodDescriptor y.desc).map (fun d => d.parameters.length) = some vs.length) (hrecv : ∀ (H : Heap) (locs : List Loc), cWd G A H0 σ H locs → ∃ cell : Cell, H[a]? = some cell ∧ cell.vm.isStatics = false ∧ (g_s X).vm.findClass cls = some cell.cls) (hR : f + 1 ≤ (g_R X).frames ∧ 8 + (mL + 11) + c ≤ (g_R X).locals) (hkn : k + mc ≤ (g_R X).cells ∧ n + ms ≤ (g_R X).slots) (hdg : decode cc pc = .ok (.invokevirtual idx, 3)) (hst0 : st0 = vs.reverse ++ .ref a :: rest) (hst : (rest.map fun v => v.category).sum ≤ 8)
    (kk : ∀ (r : Int32) (τ : CSt), post r τ → gJ X (cWd G A H0) Q (k + mc) (n + ms) τ lv (pc + 3) (.int r :: rest)) : gJ X (cWd G A H0) Q k n σ lv pc st0 := by
  intro H locs ls hW hl
  exact va_calli (va_runV (As := vs) (rest := rest) ⟨C.1.1, C.1.2.1, C.1.2.2.2, C.2.1, C.2.2.1⟩ (hM H.size) (cwV vs.length C.2.2.1 (c_wsV k0 k1 k2 k3 k4) rfl rfl rfl hd hR) ⟨c_blind, hrecv H locs hW, c_pre C hsz hW (.ref a :: vs)⟩ rfl rfl (hl.1.trans C.1.2.2.1) hst0 (lv_room hst) hdg hkn) hW.2.2.1 (fun q _ h => c_Ain C hsz hW q h) (c_Ain C hsz hW) (fun r u t H1 locs1 ht hvm hw hB hz1 hk1 hS => kk r u hw H1 locs1 ls (c_back C hsz hW ht hB hS) hl)
theorem c_throwVi {post : Int32 → CSt → Prop} {pX : String → CSt → Prop} (C : cC X cc nL own G A) (hsz : H0 = (g_s X).heap) (hM : cTi (g_l X) y b mL rt f c mc ms G σ (.ref a :: vs) post pX) (k0 : Cond.initialized cls ∈ wC) (k1 : Cond.methodLink own idx y ∈ wC) (k2 : Cond.instanceMethod y ∈ wC) (k3 : Cond.selects cls y y ∈ wC) (k4 : Cond.code y b mL (some rt) ∈ wC) (hd : y.cls = cls ∧ y.cls ≠ "java/lang/invoke/MethodHandle" ∧ y.cls ≠ "java/lang/invoke/VarHandle" ∧ (parseMethodDescriptor y.desc).map (fun d => d.parameters.length) = some vs.length) (hrecv : ∀ (H : Heap) (locs : List Loc), cWd G A H0 σ H locs → ∃ cell : Cell, H[a]? = some cell ∧ cell.vm.isStatics = false ∧ (g_s X).vm.findClass cls = some cell.cls) (hR : f + 1 ≤ (g_R X).frames ∧ 8 + (mL + 11) + c ≤ (g_R X).locals) (hkn : k + mc ≤ (g_R X).cells ∧ n + ms ≤ (g_R X).slots) (hdg : decode cc pc = .ok (.invokevirtual idx, 3)) (hst0 : st0 = vs.reverse ++ .ref a :: rest) (hst : (rest.map fun v => v.category).sum ≤ 8)
    (kx : ∀ (E : String) (τ : CSt), pX E τ → gX X (cWd G A H0) Q (k + mc) (n + ms) τ lv pc rest E)
    (kk : ∀ (r : Int32) (τ : CSt), post r τ → gJ X (cWd G A H0) Q (k + mc) (n + ms) τ lv (pc + 3) (.int r :: rest)) : gJ X (cWd G A H0) Q k n σ lv pc st0 := by
  intro H locs ls hW hl
  exact vx_calli (vx_runV (As := vs) (rest := rest) ⟨C.1.1, C.1.2.1, C.1.2.2.2, C.2.1, C.2.2.1⟩ (hM H.size) (cwV vs.length C.2.2.1 (c_wsV k0 k1 k2 k3 k4) rfl rfl rfl hd hR) ⟨c_blind, hrecv H locs hW, c_pre C hsz hW (.ref a :: vs)⟩ rfl rfl (hl.1.trans C.1.2.2.1) hst0 (lv_room hst) hdg hkn) hW.2.2.1 (fun q _ h => c_Ain C hsz hW q h) (c_Ain C hsz hW) (fun q _ h => c_Ain C hsz hW q h) (fun E ce q9 u t H1 locs1 ht hvm _ hBX hz1 hk1 hS h1 h2 h3 => kx E u hBX.1 H1 locs1 ls q9 ce (c_back C hsz hW ht hBX.2 hS) hl h1 h2 h3) (fun r u t H1 locs1 ht hvm hw hB hz1 hk1 hS => kk r u hw H1 locs1 ls (c_back C hsz hW ht hB hS) hl)
theorem c_callSi {post : Int32 → CSt → Prop} (C : cC X cc nL own G A) (hsz : H0 = (g_s X).heap) (hM : cMi (g_l X) y b mL rt f c mc ms G σ vs post) (k0 : Cond.initialized y.cls ∈ wC) (k1 : Cond.methodLink own idx y ∈ wC) (k2 : Cond.static y ∈ wC) (k4 : Cond.code y b mL (some rt) ∈ wC) (hd : y.cls = cls ∧ y.cls ≠ "java/lang/invoke/MethodHandle" ∧ y.cls ≠ "java/lang/invoke/VarHandle" ∧ (parseMethodDescriptor y.desc).map (fun d => d.parameters.length) = some vs.length) (hR : f + 1 ≤ (g_R X).frames ∧ 8 + (mL + 11) + c ≤ (g_R X).locals) (hkn : k + mc ≤ (g_R X).cells ∧ n + ms ≤ (g_R X).slots) (hdg : decode cc pc = .ok (.invokestatic idx, 3)) (hst0 : st0 = vs.reverse ++ rest) (hst : (rest.map fun v => v.category).sum ≤ 8)
    (kk : ∀ (r : Int32) (τ : CSt), post r τ → gJ X (cWd G A H0) Q (k + mc) (n + ms) τ lv (pc + 3) (.int r :: rest)) : gJ X (cWd G A H0) Q k n σ lv pc st0 := by
  intro H locs ls hW hl
  exact va_calli (va_runS (As := vs) (rest := rest) ⟨C.1.1, C.1.2.1, C.1.2.2.2, C.2.1, C.2.2.1⟩ (hM H.size) (va_cwS vs.length C.2.2.1 (c_wsS k0 k1 k2 k4) rfl rfl rfl hd.2 hR) ⟨c_blind, c_pre C hsz hW vs⟩ rfl rfl (hl.1.trans C.1.2.2.1) hst0 (lv_room hst) hdg hkn) hW.2.2.1 (fun q _ h => c_Ain C hsz hW q h) (c_Ain C hsz hW) (fun r u t H1 locs1 ht hvm hw hB hz1 hk1 hS => kk r u hw H1 locs1 ls (c_back C hsz hW ht hB hS) hl)
theorem c_throwSi {post : Int32 → CSt → Prop} {pX : String → CSt → Prop} (C : cC X cc nL own G A) (hsz : H0 = (g_s X).heap) (hM : cTi (g_l X) y b mL rt f c mc ms G σ vs post pX) (k0 : Cond.initialized y.cls ∈ wC) (k1 : Cond.methodLink own idx y ∈ wC) (k2 : Cond.static y ∈ wC) (k4 : Cond.code y b mL (some rt) ∈ wC) (hd : y.cls = cls ∧ y.cls ≠ "java/lang/invoke/MethodHandle" ∧ y.cls ≠ "java/lang/invoke/VarHandle" ∧ (parseMethodDescriptor y.desc).map (fun d => d.parameters.length) = some vs.length) (hR : f + 1 ≤ (g_R X).frames ∧ 8 + (mL + 11) + c ≤ (g_R X).locals) (hkn : k + mc ≤ (g_R X).cells ∧ n + ms ≤ (g_R X).slots) (hdg : decode cc pc = .ok (.invokestatic idx, 3)) (hst0 : st0 = vs.reverse ++ rest) (hst : (rest.map fun v => v.category).sum ≤ 8)
    (kx : ∀ (E : String) (τ : CSt), pX E τ → gX X (cWd G A H0) Q (k + mc) (n + ms) τ lv pc rest E)
    (kk : ∀ (r : Int32) (τ : CSt), post r τ → gJ X (cWd G A H0) Q (k + mc) (n + ms) τ lv (pc + 3) (.int r :: rest)) : gJ X (cWd G A H0) Q k n σ lv pc st0 := by
  intro H locs ls hW hl
  exact vx_calli (vx_runS (As := vs) (rest := rest) ⟨C.1.1, C.1.2.1, C.1.2.2.2, C.2.1, C.2.2.1⟩ (hM H.size) (va_cwS vs.length C.2.2.1 (c_wsS k0 k1 k2 k4) rfl rfl rfl hd.2 hR) ⟨c_blind, c_pre C hsz hW vs⟩ rfl rfl (hl.1.trans C.1.2.2.1) hst0 (lv_room hst) hdg hkn) hW.2.2.1 (fun q _ h => c_Ain C hsz hW q h) (c_Ain C hsz hW) (fun q _ h => c_Ain C hsz hW q h) (fun E ce q9 u t H1 locs1 ht hvm _ hBX hz1 hk1 hS h1 h2 h3 => kx E u hBX.1 H1 locs1 ls q9 ce (c_back C hsz hW ht hBX.2 hS) hl h1 h2 h3) (fun r u t H1 locs1 ht hvm hw hB hz1 hk1 hS => kk r u hw H1 locs1 ls (c_back C hsz hW ht hB hS) hl)
theorem c_callVl {post : Int64 → CSt → Prop} (C : cC X cc nL own G A) (hsz : H0 = (g_s X).heap) (hM : cMl (g_l X) y b mL f c mc ms G σ (.ref a :: vs) post) (k0 : Cond.initialized cls ∈ wC) (k1 : Cond.methodLink own idx y ∈ wC) (k2 : Cond.instanceMethod y ∈ wC) (k3 : Cond.selects cls y y ∈ wC) (k4 : Cond.code y b mL (some .long) ∈ wC) (hd : y.cls = cls ∧ y.cls ≠ "java/lang/invoke/MethodHandle" ∧ y.cls ≠ "java/lang/invoke/VarHandle" ∧ (parseMethodDescriptor y.desc).map (fun d => d.parameters.length) = some vs.length) (hrecv : ∀ (H : Heap) (locs : List Loc), cWd G A H0 σ H locs → ∃ cell : Cell, H[a]? = some cell ∧ cell.vm.isStatics = false ∧ (g_s X).vm.findClass cls = some cell.cls) (hR : f + 1 ≤ (g_R X).frames ∧ 8 + (mL + 11) + c ≤ (g_R X).locals) (hkn : k + mc ≤ (g_R X).cells ∧ n + ms ≤ (g_R X).slots) (hdg : decode cc pc = .ok (.invokevirtual idx, 3)) (hst0 : st0 = vs.reverse ++ .ref a :: rest) (hst : (rest.map fun v => v.category).sum ≤ 8)
    (kk : ∀ (r : Int64) (τ : CSt), post r τ → gJ X (cWd G A H0) Q (k + mc) (n + ms) τ lv (pc + 3) (.long r :: rest)) : gJ X (cWd G A H0) Q k n σ lv pc st0 := by
  intro H locs ls hW hl
  exact va_calll (va_runV (As := vs) (rest := rest) ⟨C.1.1, C.1.2.1, C.1.2.2.2, C.2.1, C.2.2.1⟩ (hM H.size) (cwV vs.length C.2.2.1 (c_wsV k0 k1 k2 k3 k4) rfl rfl rfl hd hR) ⟨c_blind, hrecv H locs hW, c_pre C hsz hW (.ref a :: vs)⟩ rfl rfl (hl.1.trans C.1.2.2.1) hst0 (lv_room hst) hdg hkn) hW.2.2.1 (fun q _ h => c_Ain C hsz hW q h) (c_Ain C hsz hW) (fun r u t H1 locs1 ht hvm hw hB hz1 hk1 hS => kk r u hw H1 locs1 ls (c_back C hsz hW ht hB hS) hl)
theorem c_throwVl {post : Int64 → CSt → Prop} {pX : String → CSt → Prop} (C : cC X cc nL own G A) (hsz : H0 = (g_s X).heap) (hM : cTl (g_l X) y b mL f c mc ms G σ (.ref a :: vs) post pX) (k0 : Cond.initialized cls ∈ wC) (k1 : Cond.methodLink own idx y ∈ wC) (k2 : Cond.instanceMethod y ∈ wC) (k3 : Cond.selects cls y y ∈ wC) (k4 : Cond.code y b mL (some .long) ∈ wC) (hd : y.cls = cls ∧ y.cls ≠ "java/lang/invoke/MethodHandle" ∧ y.cls ≠ "java/lang/invoke/VarHandle" ∧ (parseMethodDescriptor y.desc).map (fun d => d.parameters.length) = some vs.length) (hrecv : ∀ (H : Heap) (locs : List Loc), cWd G A H0 σ H locs → ∃ cell : Cell, H[a]? = some cell ∧ cell.vm.isStatics = false ∧ (g_s X).vm.findClass cls = some cell.cls) (hR : f + 1 ≤ (g_R X).frames ∧ 8 + (mL + 11) + c ≤ (g_R X).locals) (hkn : k + mc ≤ (g_R X).cells ∧ n + ms ≤ (g_R X).slots) (hdg : decode cc pc = .ok (.invokevirtual idx, 3)) (hst0 : st0 = vs.reverse ++ .ref a :: rest) (hst : (rest.map fun v => v.category).sum ≤ 8)
    (kx : ∀ (E : String) (τ : CSt), pX E τ → gX X (cWd G A H0) Q (k + mc) (n + ms) τ lv pc rest E)
    (kk : ∀ (r : Int64) (τ : CSt), post r τ → gJ X (cWd G A H0) Q (k + mc) (n + ms) τ lv (pc + 3) (.long r :: rest)) : gJ X (cWd G A H0) Q k n σ lv pc st0 := by
  intro H locs ls hW hl
  exact vx_calll (vx_runV (As := vs) (rest := rest) ⟨C.1.1, C.1.2.1, C.1.2.2.2, C.2.1, C.2.2.1⟩ (hM H.size) (cwV vs.length C.2.2.1 (c_wsV k0 k1 k2 k3 k4) rfl rfl rfl hd hR) ⟨c_blind, hrecv H locs hW, c_pre C hsz hW (.ref a :: vs)⟩ rfl rfl (hl.1.trans C.1.2.2.1) hst0 (lv_room hst) hdg hkn) hW.2.2.1 (fun q _ h => c_Ain C hsz hW q h) (c_Ain C hsz hW) (fun q _ h => c_Ain C hsz hW q h) (fun E ce q9 u t H1 locs1 ht hvm _ hBX hz1 hk1 hS h1 h2 h3 => kx E u hBX.1 H1 locs1 ls q9 ce (c_back C hsz hW ht hBX.2 hS) hl h1 h2 h3) (fun r u t H1 locs1 ht hvm hw hB hz1 hk1 hS => kk r u hw H1 locs1 ls (c_back C hsz hW ht hB hS) hl)
theorem c_callSl {post : Int64 → CSt → Prop} (C : cC X cc nL own G A) (hsz : H0 = (g_s X).heap) (hM : cMl (g_l X) y b mL f c mc ms G σ vs post) (k0 : Cond.initialized y.cls ∈ wC) (k1 : Cond.methodLink own idx y ∈ wC) (k2 : Cond.static y ∈ wC) (k4 : Cond.code y b mL (some .long) ∈ wC) (hd : y.cls = cls ∧ y.cls ≠ "java/lang/invoke/MethodHandle" ∧ y.cls ≠ "java/lang/invoke/VarHandle" ∧ (parseMethodDescriptor y.desc).map (fun d => d.parameters.length) = some vs.length) (hR : f + 1 ≤ (g_R X).frames ∧ 8 + (mL + 11) + c ≤ (g_R X).locals) (hkn : k + mc ≤ (g_R X).cells ∧ n + ms ≤ (g_R X).slots) (hdg : decode cc pc = .ok (.invokestatic idx, 3)) (hst0 : st0 = vs.reverse ++ rest) (hst : (rest.map fun v => v.category).sum ≤ 8)
    (kk : ∀ (r : Int64) (τ : CSt), post r τ → gJ X (cWd G A H0) Q (k + mc) (n + ms) τ lv (pc + 3) (.long r :: rest)) : gJ X (cWd G A H0) Q k n σ lv pc st0 := by
  intro H locs ls hW hl
  exact va_calll (va_runS (As := vs) (rest := rest) ⟨C.1.1, C.1.2.1, C.1.2.2.2, C.2.1, C.2.2.1⟩ (hM H.size) (va_cwS vs.length C.2.2.1 (c_wsS k0 k1 k2 k4) rfl rfl rfl hd.2 hR) ⟨c_blind, c_pre C hsz hW vs⟩ rfl rfl (hl.1.trans C.1.2.2.1) hst0 (lv_room hst) hdg hkn) hW.2.2.1 (fun q _ h => c_Ain C hsz hW q h) (c_Ain C hsz hW) (fun r u t H1 locs1 ht hvm hw hB hz1 hk1 hS => kk r u hw H1 locs1 ls (c_back C hsz hW ht hB hS) hl)
theorem c_throwSl {post : Int64 → CSt → Prop} {pX : String → CSt → Prop} (C : cC X cc nL own G A) (hsz : H0 = (g_s X).heap) (hM : cTl (g_l X) y b mL f c mc ms G σ vs post pX) (k0 : Cond.initialized y.cls ∈ wC) (k1 : Cond.methodLink own idx y ∈ wC) (k2 : Cond.static y ∈ wC) (k4 : Cond.code y b mL (some .long) ∈ wC) (hd : y.cls = cls ∧ y.cls ≠ "java/lang/invoke/MethodHandle" ∧ y.cls ≠ "java/lang/invoke/VarHandle" ∧ (parseMethodDescriptor y.desc).map (fun d => d.parameters.length) = some vs.length) (hR : f + 1 ≤ (g_R X).frames ∧ 8 + (mL + 11) + c ≤ (g_R X).locals) (hkn : k + mc ≤ (g_R X).cells ∧ n + ms ≤ (g_R X).slots) (hdg : decode cc pc = .ok (.invokestatic idx, 3)) (hst0 : st0 = vs.reverse ++ rest) (hst : (rest.map fun v => v.category).sum ≤ 8)
    (kx : ∀ (E : String) (τ : CSt), pX E τ → gX X (cWd G A H0) Q (k + mc) (n + ms) τ lv pc rest E)
    (kk : ∀ (r : Int64) (τ : CSt), post r τ → gJ X (cWd G A H0) Q (k + mc) (n + ms) τ lv (pc + 3) (.long r :: rest)) : gJ X (cWd G A H0) Q k n σ lv pc st0 := by
  intro H locs ls hW hl
  exact vx_calll (vx_runS (As := vs) (rest := rest) ⟨C.1.1, C.1.2.1, C.1.2.2.2, C.2.1, C.2.2.1⟩ (hM H.size) (va_cwS vs.length C.2.2.1 (c_wsS k0 k1 k2 k4) rfl rfl rfl hd.2 hR) ⟨c_blind, c_pre C hsz hW vs⟩ rfl rfl (hl.1.trans C.1.2.2.1) hst0 (lv_room hst) hdg hkn) hW.2.2.1 (fun q _ h => c_Ain C hsz hW q h) (c_Ain C hsz hW) (fun q _ h => c_Ain C hsz hW q h) (fun E ce q9 u t H1 locs1 ht hvm _ hBX hz1 hk1 hS h1 h2 h3 => kx E u hBX.1 H1 locs1 ls q9 ce (c_back C hsz hW ht hBX.2 hS) hl h1 h2 h3) (fun r u t H1 locs1 ht hvm hw hB hz1 hk1 hS => kk r u hw H1 locs1 ls (c_back C hsz hW ht hB hS) hl)
theorem c_callVv {post : CSt → Prop} (C : cC X cc nL own G A) (hsz : H0 = (g_s X).heap) (hM : cMv (g_l X) y b mL f c mc ms G σ (.ref a :: vs) post) (k0 : Cond.initialized cls ∈ wC) (k1 : Cond.methodLink own idx y ∈ wC) (k2 : Cond.instanceMethod y ∈ wC) (k3 : Cond.selects cls y y ∈ wC) (k4 : Cond.code y b mL none ∈ wC) (hd : y.cls = cls ∧ y.cls ≠ "java/lang/invoke/MethodHandle" ∧ y.cls ≠ "java/lang/invoke/VarHandle" ∧ (parseMethodDescriptor y.desc).map (fun d => d.parameters.length) = some vs.length) (hrecv : ∀ (H : Heap) (locs : List Loc), cWd G A H0 σ H locs → ∃ cell : Cell, H[a]? = some cell ∧ cell.vm.isStatics = false ∧ (g_s X).vm.findClass cls = some cell.cls) (hR : f + 1 ≤ (g_R X).frames ∧ 8 + (mL + 11) + c ≤ (g_R X).locals) (hkn : k + mc ≤ (g_R X).cells ∧ n + ms ≤ (g_R X).slots) (hdg : decode cc pc = .ok (.invokevirtual idx, 3)) (hst0 : st0 = vs.reverse ++ .ref a :: rest) (hst : (rest.map fun v => v.category).sum ≤ 8)
    (kk : ∀ (τ : CSt), post τ → gJ X (cWd G A H0) Q (k + mc) (n + ms) τ lv (pc + 3) (rest)) : gJ X (cWd G A H0) Q k n σ lv pc st0 := by
  intro H locs ls hW hl
  exact va_callv (va_runV (As := vs) (rest := rest) ⟨C.1.1, C.1.2.1, C.1.2.2.2, C.2.1, C.2.2.1⟩ (hM H.size) (cwV vs.length C.2.2.1 (c_wsV k0 k1 k2 k3 k4) rfl rfl rfl hd hR) ⟨c_blind, hrecv H locs hW, c_pre C hsz hW (.ref a :: vs)⟩ rfl rfl (hl.1.trans C.1.2.2.1) hst0 (lv_room hst) hdg hkn) hW.2.2.1 (fun q _ h => c_Ain C hsz hW q h) (c_Ain C hsz hW) (fun u t H1 locs1 ht hvm hw hB hz1 hk1 hS => kk u hw H1 locs1 ls (c_back C hsz hW ht hB hS) hl)
theorem c_throwVv {post : CSt → Prop} {pX : String → CSt → Prop} (C : cC X cc nL own G A) (hsz : H0 = (g_s X).heap) (hM : cTv (g_l X) y b mL f c mc ms G σ (.ref a :: vs) post pX) (k0 : Cond.initialized cls ∈ wC) (k1 : Cond.methodLink own idx y ∈ wC) (k2 : Cond.instanceMethod y ∈ wC) (k3 : Cond.selects cls y y ∈ wC) (k4 : Cond.code y b mL none ∈ wC) (hd : y.cls = cls ∧ y.cls ≠ "java/lang/invoke/MethodHandle" ∧ y.cls ≠ "java/lang/invoke/VarHandle" ∧ (parseMethodDescriptor y.desc).map (fun d => d.parameters.length) = some vs.length) (hrecv : ∀ (H : Heap) (locs : List Loc), cWd G A H0 σ H locs → ∃ cell : Cell, H[a]? = some cell ∧ cell.vm.isStatics = false ∧ (g_s X).vm.findClass cls = some cell.cls) (hR : f + 1 ≤ (g_R X).frames ∧ 8 + (mL + 11) + c ≤ (g_R X).locals) (hkn : k + mc ≤ (g_R X).cells ∧ n + ms ≤ (g_R X).slots) (hdg : decode cc pc = .ok (.invokevirtual idx, 3)) (hst0 : st0 = vs.reverse ++ .ref a :: rest) (hst : (rest.map fun v => v.category).sum ≤ 8)
    (kx : ∀ (E : String) (τ : CSt), pX E τ → gX X (cWd G A H0) Q (k + mc) (n + ms) τ lv pc rest E)
    (kk : ∀ (τ : CSt), post τ → gJ X (cWd G A H0) Q (k + mc) (n + ms) τ lv (pc + 3) (rest)) : gJ X (cWd G A H0) Q k n σ lv pc st0 := by
  intro H locs ls hW hl
  exact vx_callv (vx_runV (As := vs) (rest := rest) ⟨C.1.1, C.1.2.1, C.1.2.2.2, C.2.1, C.2.2.1⟩ (hM H.size) (cwV vs.length C.2.2.1 (c_wsV k0 k1 k2 k3 k4) rfl rfl rfl hd hR) ⟨c_blind, hrecv H locs hW, c_pre C hsz hW (.ref a :: vs)⟩ rfl rfl (hl.1.trans C.1.2.2.1) hst0 (lv_room hst) hdg hkn) hW.2.2.1 (fun q _ h => c_Ain C hsz hW q h) (c_Ain C hsz hW) (fun q _ h => c_Ain C hsz hW q h) (fun E ce q9 u t H1 locs1 ht hvm _ hBX hz1 hk1 hS h1 h2 h3 => kx E u hBX.1 H1 locs1 ls q9 ce (c_back C hsz hW ht hBX.2 hS) hl h1 h2 h3) (fun u t H1 locs1 ht hvm hw hB hz1 hk1 hS => kk u hw H1 locs1 ls (c_back C hsz hW ht hB hS) hl)
theorem c_callSv {post : CSt → Prop} (C : cC X cc nL own G A) (hsz : H0 = (g_s X).heap) (hM : cMv (g_l X) y b mL f c mc ms G σ vs post) (k0 : Cond.initialized y.cls ∈ wC) (k1 : Cond.methodLink own idx y ∈ wC) (k2 : Cond.static y ∈ wC) (k4 : Cond.code y b mL none ∈ wC) (hd : y.cls = cls ∧ y.cls ≠ "java/lang/invoke/MethodHandle" ∧ y.cls ≠ "java/lang/invoke/VarHandle" ∧ (parseMethodDescriptor y.desc).map (fun d => d.parameters.length) = some vs.length) (hR : f + 1 ≤ (g_R X).frames ∧ 8 + (mL + 11) + c ≤ (g_R X).locals) (hkn : k + mc ≤ (g_R X).cells ∧ n + ms ≤ (g_R X).slots) (hdg : decode cc pc = .ok (.invokestatic idx, 3)) (hst0 : st0 = vs.reverse ++ rest) (hst : (rest.map fun v => v.category).sum ≤ 8)
    (kk : ∀ (τ : CSt), post τ → gJ X (cWd G A H0) Q (k + mc) (n + ms) τ lv (pc + 3) (rest)) : gJ X (cWd G A H0) Q k n σ lv pc st0 := by
  intro H locs ls hW hl
  exact va_callv (va_runS (As := vs) (rest := rest) ⟨C.1.1, C.1.2.1, C.1.2.2.2, C.2.1, C.2.2.1⟩ (hM H.size) (va_cwS vs.length C.2.2.1 (c_wsS k0 k1 k2 k4) rfl rfl rfl hd.2 hR) ⟨c_blind, c_pre C hsz hW vs⟩ rfl rfl (hl.1.trans C.1.2.2.1) hst0 (lv_room hst) hdg hkn) hW.2.2.1 (fun q _ h => c_Ain C hsz hW q h) (c_Ain C hsz hW) (fun u t H1 locs1 ht hvm hw hB hz1 hk1 hS => kk u hw H1 locs1 ls (c_back C hsz hW ht hB hS) hl)
theorem c_throwSv {post : CSt → Prop} {pX : String → CSt → Prop} (C : cC X cc nL own G A) (hsz : H0 = (g_s X).heap) (hM : cTv (g_l X) y b mL f c mc ms G σ vs post pX) (k0 : Cond.initialized y.cls ∈ wC) (k1 : Cond.methodLink own idx y ∈ wC) (k2 : Cond.static y ∈ wC) (k4 : Cond.code y b mL none ∈ wC) (hd : y.cls = cls ∧ y.cls ≠ "java/lang/invoke/MethodHandle" ∧ y.cls ≠ "java/lang/invoke/VarHandle" ∧ (parseMethodDescriptor y.desc).map (fun d => d.parameters.length) = some vs.length) (hR : f + 1 ≤ (g_R X).frames ∧ 8 + (mL + 11) + c ≤ (g_R X).locals) (hkn : k + mc ≤ (g_R X).cells ∧ n + ms ≤ (g_R X).slots) (hdg : decode cc pc = .ok (.invokestatic idx, 3)) (hst0 : st0 = vs.reverse ++ rest) (hst : (rest.map fun v => v.category).sum ≤ 8)
    (kx : ∀ (E : String) (τ : CSt), pX E τ → gX X (cWd G A H0) Q (k + mc) (n + ms) τ lv pc rest E)
    (kk : ∀ (τ : CSt), post τ → gJ X (cWd G A H0) Q (k + mc) (n + ms) τ lv (pc + 3) (rest)) : gJ X (cWd G A H0) Q k n σ lv pc st0 := by
  intro H locs ls hW hl
  exact vx_callv (vx_runS (As := vs) (rest := rest) ⟨C.1.1, C.1.2.1, C.1.2.2.2, C.2.1, C.2.2.1⟩ (hM H.size) (va_cwS vs.length C.2.2.1 (c_wsS k0 k1 k2 k4) rfl rfl rfl hd.2 hR) ⟨c_blind, c_pre C hsz hW vs⟩ rfl rfl (hl.1.trans C.1.2.2.1) hst0 (lv_room hst) hdg hkn) hW.2.2.1 (fun q _ h => c_Ain C hsz hW q h) (c_Ain C hsz hW) (fun q _ h => c_Ain C hsz hW q h) (fun E ce q9 u t H1 locs1 ht hvm _ hBX hz1 hk1 hS h1 h2 h3 => kx E u hBX.1 H1 locs1 ls q9 ce (c_back C hsz hW ht hBX.2 hS) hl h1 h2 h3) (fun u t H1 locs1 ht hvm hw hB hz1 hk1 hS => kk u hw H1 locs1 ls (c_back C hsz hW ht hB hS) hl)
theorem c_callIv {post : CSt → Prop} (C : cC X cc nL own G A) (hsz : H0 = (g_s X).heap) (hM : cMv (g_l X) y b mL f c mc ms G σ (.ref a :: vs) post) (k0 : Cond.initialized y.cls ∈ wC) (k1 : Cond.methodLink own idx y ∈ wC) (k2 : Cond.instanceMethod y ∈ wC) (k4 : Cond.code y b mL none ∈ wC) (hin : y.name = "<init>") (hd : y.cls = cls ∧ y.cls ≠ "java/lang/invoke/MethodHandle" ∧ y.cls ≠ "java/lang/invoke/VarHandle" ∧ (parseMethodDescriptor y.desc).map (fun d => d.parameters.length) = some vs.length) (hR : f + 1 ≤ (g_R X).frames ∧ 8 + (mL + 11) + c ≤ (g_R X).locals) (hkn : k + mc ≤ (g_R X).cells ∧ n + ms ≤ (g_R X).slots) (hdg : decode cc pc = .ok (.invokespecial idx, 3)) (hst0 : st0 = vs.reverse ++ .ref a :: rest) (hst : (rest.map fun v => v.category).sum ≤ 8)
    (kk : ∀ (τ : CSt), post τ → gJ X (cWd G A H0) Q (k + mc) (n + ms) τ lv (pc + 3) (rest)) : gJ X (cWd G A H0) Q k n σ lv pc st0 := by
  intro H locs ls hW hl
  exact va_callv (va_runI (As := vs) (rest := rest) ⟨C.1.1, C.1.2.1, C.1.2.2.2, C.2.1, C.2.2.1⟩ (hM H.size) (cwI vs.length C.2.2.1 (cYs_good k4) rfl rfl rfl (C.2.2.1 _ k0) (C.2.2.1 _ k1) (C.2.2.1 _ k2) hin hd.2 hR) ⟨c_blind, c_pre C hsz hW (.ref a :: vs)⟩ rfl rfl (hl.1.trans C.1.2.2.1) hst0 (lv_room hst) hdg hkn) hW.2.2.1 (fun q _ h => c_Ain C hsz hW q h) (c_Ain C hsz hW) (fun u t H1 locs1 ht hvm hw hB hz1 hk1 hS => kk u hw H1 locs1 ls (c_back C hsz hW ht hB hS) hl)
theorem c_callVq {post : Option Nat → CSt → Prop} (C : cC X cc nL own G A) (hsz : H0 = (g_s X).heap) (hM : cMq (g_l X) y b mL rt f c mc ms G σ (.ref a :: vs) post) (k0 : Cond.initialized cls ∈ wC) (k1 : Cond.methodLink own idx y ∈ wC) (k2 : Cond.instanceMethod y ∈ wC) (k3 : Cond.selects cls y y ∈ wC) (k4 : Cond.code y b mL (some rt) ∈ wC) (hd : y.cls = cls ∧ y.cls ≠ "java/lang/invoke/MethodHandle" ∧ y.cls ≠ "java/lang/invoke/VarHandle" ∧ (parseMethodDescriptor y.desc).map (fun d => d.parameters.length) = some vs.length) (hrecv : ∀ (H : Heap) (locs : List Loc), cWd G A H0 σ H locs → ∃ cell : Cell, H[a]? = some cell ∧ cell.vm.isStatics = false ∧ (g_s X).vm.findClass cls = some cell.cls) (hR : f + 1 ≤ (g_R X).frames ∧ 8 + (mL + 11) + c ≤ (g_R X).locals) (hkn : k + mc ≤ (g_R X).cells ∧ n + ms ≤ (g_R X).slots) (hdg : decode cc pc = .ok (.invokevirtual idx, 3)) (hst0 : st0 = vs.reverse ++ .ref a :: rest) (hst : (rest.map fun v => v.category).sum ≤ 8)
    (kk : ∀ (r : Option Nat) (τ : CSt), post r τ → gJ X (cWd G A H0) Q (k + mc) (n + ms) τ lv (pc + 3) (va_rf r :: rest)) : gJ X (cWd G A H0) Q k n σ lv pc st0 := by
  intro H locs ls hW hl
  exact va_callq (va_runV (As := vs) (rest := rest) ⟨C.1.1, C.1.2.1, C.1.2.2.2, C.2.1, C.2.2.1⟩ (hM H.size) (cwV vs.length C.2.2.1 (c_wsV k0 k1 k2 k3 k4) rfl rfl rfl hd hR) ⟨c_blind, hrecv H locs hW, c_pre C hsz hW (.ref a :: vs)⟩ rfl rfl (hl.1.trans C.1.2.2.1) hst0 (lv_room hst) hdg hkn) hW.2.2.1 (fun q _ h => c_Ain C hsz hW q h) (c_Ain C hsz hW) (fun r u t H1 locs1 ht hvm hw hB hz1 hk1 hS => kk r u hw H1 locs1 ls (c_back C hsz hW ht hB hS) hl)
theorem c_throwVq {post : Option Nat → CSt → Prop} {pX : String → CSt → Prop} (C : cC X cc nL own G A) (hsz : H0 = (g_s X).heap) (hM : cTq (g_l X) y b mL rt f c mc ms G σ (.ref a :: vs) post pX) (k0 : Cond.initialized cls ∈ wC) (k1 : Cond.methodLink own idx y ∈ wC) (k2 : Cond.instanceMethod y ∈ wC) (k3 : Cond.selects cls y y ∈ wC) (k4 : Cond.code y b mL (some rt) ∈ wC) (hd : y.cls = cls ∧ y.cls ≠ "java/lang/invoke/MethodHandle" ∧ y.cls ≠ "java/lang/invoke/VarHandle" ∧ (parseMethodDescriptor y.desc).map (fun d => d.parameters.length) = some vs.length) (hrecv : ∀ (H : Heap) (locs : List Loc), cWd G A H0 σ H locs → ∃ cell : Cell, H[a]? = some cell ∧ cell.vm.isStatics = false ∧ (g_s X).vm.findClass cls = some cell.cls) (hR : f + 1 ≤ (g_R X).frames ∧ 8 + (mL + 11) + c ≤ (g_R X).locals) (hkn : k + mc ≤ (g_R X).cells ∧ n + ms ≤ (g_R X).slots) (hdg : decode cc pc = .ok (.invokevirtual idx, 3)) (hst0 : st0 = vs.reverse ++ .ref a :: rest) (hst : (rest.map fun v => v.category).sum ≤ 8)
    (kx : ∀ (E : String) (τ : CSt), pX E τ → gX X (cWd G A H0) Q (k + mc) (n + ms) τ lv pc rest E)
    (kk : ∀ (r : Option Nat) (τ : CSt), post r τ → gJ X (cWd G A H0) Q (k + mc) (n + ms) τ lv (pc + 3) (va_rf r :: rest)) : gJ X (cWd G A H0) Q k n σ lv pc st0 := by
  intro H locs ls hW hl
  exact vx_callq (vx_runV (As := vs) (rest := rest) ⟨C.1.1, C.1.2.1, C.1.2.2.2, C.2.1, C.2.2.1⟩ (hM H.size) (cwV vs.length C.2.2.1 (c_wsV k0 k1 k2 k3 k4) rfl rfl rfl hd hR) ⟨c_blind, hrecv H locs hW, c_pre C hsz hW (.ref a :: vs)⟩ rfl rfl (hl.1.trans C.1.2.2.1) hst0 (lv_room hst) hdg hkn) hW.2.2.1 (fun q _ h => c_Ain C hsz hW q h) (c_Ain C hsz hW) (fun q _ h => c_Ain C hsz hW q h) (fun E ce q9 u t H1 locs1 ht hvm _ hBX hz1 hk1 hS h1 h2 h3 => kx E u hBX.1 H1 locs1 ls q9 ce (c_back C hsz hW ht hBX.2 hS) hl h1 h2 h3) (fun r u t H1 locs1 ht hvm hw hB hz1 hk1 hS => kk r u hw H1 locs1 ls (c_back C hsz hW ht hB hS) hl)
theorem c_callSq {post : Option Nat → CSt → Prop} (C : cC X cc nL own G A) (hsz : H0 = (g_s X).heap) (hM : cMq (g_l X) y b mL rt f c mc ms G σ vs post) (k0 : Cond.initialized y.cls ∈ wC) (k1 : Cond.methodLink own idx y ∈ wC) (k2 : Cond.static y ∈ wC) (k4 : Cond.code y b mL (some rt) ∈ wC) (hd : y.cls = cls ∧ y.cls ≠ "java/lang/invoke/MethodHandle" ∧ y.cls ≠ "java/lang/invoke/VarHandle" ∧ (parseMethodDescriptor y.desc).map (fun d => d.parameters.length) = some vs.length) (hR : f + 1 ≤ (g_R X).frames ∧ 8 + (mL + 11) + c ≤ (g_R X).locals) (hkn : k + mc ≤ (g_R X).cells ∧ n + ms ≤ (g_R X).slots) (hdg : decode cc pc = .ok (.invokestatic idx, 3)) (hst0 : st0 = vs.reverse ++ rest) (hst : (rest.map fun v => v.category).sum ≤ 8)
    (kk : ∀ (r : Option Nat) (τ : CSt), post r τ → gJ X (cWd G A H0) Q (k + mc) (n + ms) τ lv (pc + 3) (va_rf r :: rest)) : gJ X (cWd G A H0) Q k n σ lv pc st0 := by
  intro H locs ls hW hl
  exact va_callq (va_runS (As := vs) (rest := rest) ⟨C.1.1, C.1.2.1, C.1.2.2.2, C.2.1, C.2.2.1⟩ (hM H.size) (va_cwS vs.length C.2.2.1 (c_wsS k0 k1 k2 k4) rfl rfl rfl hd.2 hR) ⟨c_blind, c_pre C hsz hW vs⟩ rfl rfl (hl.1.trans C.1.2.2.1) hst0 (lv_room hst) hdg hkn) hW.2.2.1 (fun q _ h => c_Ain C hsz hW q h) (c_Ain C hsz hW) (fun r u t H1 locs1 ht hvm hw hB hz1 hk1 hS => kk r u hw H1 locs1 ls (c_back C hsz hW ht hB hS) hl)
theorem c_throwSq {post : Option Nat → CSt → Prop} {pX : String → CSt → Prop} (C : cC X cc nL own G A) (hsz : H0 = (g_s X).heap) (hM : cTq (g_l X) y b mL rt f c mc ms G σ vs post pX) (k0 : Cond.initialized y.cls ∈ wC) (k1 : Cond.methodLink own idx y ∈ wC) (k2 : Cond.static y ∈ wC) (k4 : Cond.code y b mL (some rt) ∈ wC) (hd : y.cls = cls ∧ y.cls ≠ "java/lang/invoke/MethodHandle" ∧ y.cls ≠ "java/lang/invoke/VarHandle" ∧ (parseMethodDescriptor y.desc).map (fun d => d.parameters.length) = some vs.length) (hR : f + 1 ≤ (g_R X).frames ∧ 8 + (mL + 11) + c ≤ (g_R X).locals) (hkn : k + mc ≤ (g_R X).cells ∧ n + ms ≤ (g_R X).slots) (hdg : decode cc pc = .ok (.invokestatic idx, 3)) (hst0 : st0 = vs.reverse ++ rest) (hst : (rest.map fun v => v.category).sum ≤ 8)
    (kx : ∀ (E : String) (τ : CSt), pX E τ → gX X (cWd G A H0) Q (k + mc) (n + ms) τ lv pc rest E)
    (kk : ∀ (r : Option Nat) (τ : CSt), post r τ → gJ X (cWd G A H0) Q (k + mc) (n + ms) τ lv (pc + 3) (va_rf r :: rest)) : gJ X (cWd G A H0) Q k n σ lv pc st0 := by
  intro H locs ls hW hl
  exact vx_callq (vx_runS (As := vs) (rest := rest) ⟨C.1.1, C.1.2.1, C.1.2.2.2, C.2.1, C.2.2.1⟩ (hM H.size) (va_cwS vs.length C.2.2.1 (c_wsS k0 k1 k2 k4) rfl rfl rfl hd.2 hR) ⟨c_blind, c_pre C hsz hW vs⟩ rfl rfl (hl.1.trans C.1.2.2.1) hst0 (lv_room hst) hdg hkn) hW.2.2.1 (fun q _ h => c_Ain C hsz hW q h) (c_Ain C hsz hW) (fun q _ h => c_Ain C hsz hW q h) (fun E ce q9 u t H1 locs1 ht hvm _ hBX hz1 hk1 hS h1 h2 h3 => kx E u hBX.1 H1 locs1 ls q9 ce (c_back C hsz hW ht hBX.2 hS) hl h1 h2 h3) (fun r u t H1 locs1 ht hvm hw hB hz1 hk1 hS => kk r u hw H1 locs1 ls (c_back C hsz hW ht hB hS) hl)
theorem c_callINv {post : CSt → Prop} {host : String} (C : cC X cc nL own G A) (hsz : H0 = (g_s X).heap) (hM : cMv (g_l X) y b mL f c mc ms G σ (.ref a :: vs) post) (k0 : Cond.initialized y.cls ∈ wC) (k1 : Cond.methodLinkNest own idx y host ∈ cNg) (k2 : Cond.instanceMethod y ∈ wC) (k4 : Cond.code y b mL none ∈ wC) (hin : y.name = "<init>") (hd : y.cls = cls ∧ y.cls ≠ "java/lang/invoke/MethodHandle" ∧ y.cls ≠ "java/lang/invoke/VarHandle" ∧ (parseMethodDescriptor y.desc).map (fun d => d.parameters.length) = some vs.length) (hR : f + 1 ≤ (g_R X).frames ∧ 8 + (mL + 11) + c ≤ (g_R X).locals) (hkn : k + mc ≤ (g_R X).cells ∧ n + ms ≤ (g_R X).slots) (hdg : decode cc pc = .ok (.invokespecial idx, 3)) (hst0 : st0 = vs.reverse ++ .ref a :: rest) (hst : (rest.map fun v => v.category).sum ≤ 8)
    (kk : ∀ (τ : CSt), post τ → gJ X (cWd G A H0) Q (k + mc) (n + ms) τ lv (pc + 3) rest) : gJ X (cWd G A H0) Q k n σ lv pc st0 := by
  intro H locs ls hW hl
  exact va_callv (va_runIN (As := vs) (rest := rest) ⟨C.1.1, C.1.2.1, C.1.2.2.2, C.2.1, C.2.2.1⟩ (hM H.size) ⟨va_cnB vs.length C.2.2.1 (cYs_good k4) rfl rfl rfl (C.2.2.2.2.2.2.2.2.2.1 _ k1) (C.2.2.1 _ k0) hd.2 hR, hin, C.2.2.1 _ k2⟩ ⟨c_blind, c_pre C hsz hW (.ref a :: vs)⟩ rfl rfl (hl.1.trans C.1.2.2.1) hst0 (lv_room hst) hdg hkn) hW.2.2.1 (fun q _ h => c_Ain C hsz hW q h) (c_Ain C hsz hW) (fun u t H1 locs1 ht hvm hw hB hz1 hk1 hS => kk u hw H1 locs1 ls (c_back C hsz hW ht hB hS) hl)
end CCALL
theorem cMi_of {l : Launch} {y : MethodName} {b : ByteArray} {mL : Nat} {rt : FieldType} {f c mc ms : Nat} {G : cG} {σ : CSt} {vs : List Value} {post : Int32 → CSt → Prop} {own : String} (hy : plainName y.cls = true) (hyc : y.cls = own) (hn : (lg_sl vs).length ≤ mL)
    (body : ∀ (X : gT) (A : Nat → Prop) (H0 : Heap) (Q : State → Prop), g_l X = l → (f ≤ (g_R X).frames ∧ c ≤ (g_R X).locals ∧ mc ≤ (g_R X).cells ∧ ms ≤ (g_R X).slots) → H0 = (g_s X).heap → (g_me X).name = y.name → cC X b mL own G A → (∀ (r : Int32) (τ : CSt) (lv : List (Nat × Value)) (pc : Nat), post r τ → narrow rt (.int r) = .int r → decode b pc = .ok (.ireturn, 1) → gJ X (cWd G A H0) Q mc ms τ lv pc [.int r]) → gJ X (cWd G A H0) Q 0 0 σ (lv_args 0 vs) 0 []) : cMi l y b mL rt f c mc ms G σ vs post := by
  intro sz
  refine Met.ofW (cc := b) (maxL := mL) (ret := (some rt)) hy rfl ?_
  intro p e s m args below meth cd s₁ B hml hv
  obtain ⟨rfl, hsz, hP, ⟨hK, hF⟩, hD0, hz⟩ := hv
  have hts := atoms_spec (ws := cYs y b mL (some rt)) B.pre
  have hown : s.vm.findClass own = some m.cls := by have h := findClass_of_methodNamed B.named; rwa [hyc] at h
  subst hsz
  have hl := lv_entry vs (n := mL) hn
  rw [lg_entry_eq]
  refine body (p, l, e, cRm f c mc ms, s, m, _, below, meth, cd, mL) (cA σ s.heap.size) s.heap _ rfl ⟨Nat.le_refl _, Nat.le_refl _, Nat.le_refl _, Nat.le_refl _⟩ rfl (name_of_methodNamed B.named B.method).1 ⟨⟨B.exec, B.bytes, rfl, hml⟩, hown, fun w hw => hts w (List.mem_cons_of_mem _ hw), hK, fun q hq => Or.inr hq, hF⟩ ?_ s.heap [] _ ⟨hP, c_DA hD0, va_S.rf, hz⟩ hl
  intro r τ lv pc hpost hnar hdg H locs ls hW hl
  exact W.zret (v := r) B.exec B.bytes B.returns hnar (fun t ht hW' => ⟨⟨r, τ, rfl, hpost, by rw [ht]; exact hW.1, va_K.moved hW'.alike hK, hW.2.1, hW.2.2.2⟩, hW.2.2.1.F ht⟩) hW.2.2.1.2.2 hdg
theorem cTi_of {l : Launch} {y : MethodName} {b : ByteArray} {mL : Nat} {rt : FieldType} {f c mc ms : Nat} {G : cG} {σ : CSt} {vs : List Value} {post : Int32 → CSt → Prop} {own : String} {pX : String → CSt → Prop} (hfl : l.stackTraces = false) (hy : plainName y.cls = true) (hyc : y.cls = own) (hoX : own = RX7) (hn : (lg_sl vs).length ≤ mL) (hmc : 1 ≤ mc ∧ 6 ≤ ms ∧ 6 ≤ f ∧ 89 ≤ c)
    (body : ∀ (X : gT) (A : Nat → Prop) (H0 : Heap) (Q : State → Prop), g_l X = l → (f ≤ (g_R X).frames ∧ c ≤ (g_R X).locals ∧ mc ≤ (g_R X).cells ∧ ms ≤ (g_R X).slots) → H0 = (g_s X).heap → cC X b mL own G A → (∀ (r : Int32) (τ : CSt) (lv : List (Nat × Value)) (pc : Nat), post r τ → narrow rt (.int r) = .int r → decode b pc = .ok (.ireturn, 1) → gJ X (cWd G A H0) Q mc ms τ lv pc [.int r]) →
      (∀ (E : String) (τ : CSt) (lv : List (Nat × Value)) (pc k n : Nat) (rest : List Value), pX E τ → k ≤ mc → n ≤ ms → gX X (cWd G A H0) Q k n τ lv pc rest E) →
      (∀ (j : Nat) (τ : CSt) (lv : List (Nat × Value)) (pc k n ik : Nat) (rest : List Value), j < 5 → pX (cNm j) τ → k + 1 ≤ mc → n + 6 ≤ ms → (rest.map fun v => v.category).sum ≤ 8 → Cond.classLink own ik (cNm j) ∈ wC → Cond.initialized (cNm j) ∈ wC → decode b pc = .ok (.new ik, 3) → decode b (pc + 3) = .ok (.dup, 1) → decode b (pc + 4) = .ok (.invokespecial (cNi j), 3) → decode b (pc + 7) = .ok (.athrow, 1) → gJ X (cWd G A H0) Q k n τ lv pc rest) →
      gJ X (cWd G A H0) Q 0 0 σ (lv_args 0 vs) 0 []) : cTi l y b mL rt f c mc ms G σ vs post pX := by
  subst hoX
  intro sz
  refine vx_ofW (cc := b) (maxL := mL) (ret := (some rt)) hy rfl ?_
  intro p e s m args below meth cd s₁ B hml htab hv
  obtain ⟨rfl, hsz, hP, ⟨hK, hF⟩, hD0, hz⟩ := hv
  have hts := atoms_spec (ws := cYs y b mL (some rt)) B.pre
  have hown : s.vm.findClass RX7 = some m.cls := by have h := findClass_of_methodNamed B.named; rwa [hyc] at h
  subst hsz
  have hl := lv_entry vs (n := mL) hn
  rw [lg_entry_eq]
  refine body (p, l, e, cRm f c mc ms, s, m, _, below, meth, cd, mL) (cA σ s.heap.size) s.heap _ rfl ⟨Nat.le_refl _, Nat.le_refl _, Nat.le_refl _, Nat.le_refl _⟩ rfl ⟨⟨B.exec, B.bytes, rfl, hml⟩, hown, fun w hw => hts w (List.mem_cons_of_mem _ hw), hK, fun q hq => Or.inr hq, hF⟩ ?_ ?_ ?_ s.heap [] _ ⟨hP, c_DA hD0, va_S.rf, hz⟩ hl
  · intro r τ lv pc hpost hnar hdg H locs ls hW hl
    exact vx_ret (W.zret (v := r) B.exec B.bytes B.returns hnar (fun t ht hW' => ⟨⟨r, τ, rfl, hpost, by rw [ht]; exact hW.1, va_K.moved hW'.alike hK, hW.2.1, hW.2.2.2⟩, hW.2.2.1.F ht⟩) hW.2.2.1.2.2 hdg)
  · intro E τ lv pc k n rest hpX hk hn H locs ls q ce hW hl h1 h2 h3
    exact vx_out (fun x hx => (htab x hx).elim) B.notSynchronized h1 h2 h3 (fun t ht hvm => ⟨τ, trivial, ⟨hpX, by rw [ht]; exact hW.1, va_K.moved hvm hK, hW.2.1, hW.2.2.2⟩, hW.2.2.1.F ht⟩) hW.2.2.1.2.2 hk hn
  · intro j τ lv pc k n ik rest hj hpX hk hn hst hw1 hw2 d0 d3 d4 d7 H locs ls hW hl
    have hwd : ∀ w ∈ wC, w.before _ s = true := fun w hw => hts w (List.mem_cons_of_mem _ hw)
    refine vx_throw0 (own := RX7) (cls := cNm j) (names := ["java/lang/RuntimeException", "java/lang/Exception"]) (ik := ik) (ic := cNi j) B.exec B.bytes hfl hown (cFit_at j hj) cFit_nm (hwd _ hw1) (hwd _ hw2) (vx_hat (fun w hw => hwd w (cWc_at j hj w hw)) (fun w hw => hw) (fun w hw => va_Nw.use (cCd_tab (cNg_cd w (cNg_at j hj w hw))) (hF.2.2.2.2.1 w (cNg_at j hj w hw)))) ?_ hF.2.2.2.1.1 hF.2.2.2.1.2 hW.2.2.1 (hl.1.trans hml.symm) d0 d3 d4 d7 (fun x hx => (htab x hx).elim) ?_ ?_ ?_ ?_ B.notSynchronized ?_ hW.2.2.1.2.2 hk hn
    · intro w hw
      rcases List.mem_cons.mp hw with rfl | hw
      · rfl
      · rcases List.mem_cons.mp hw with rfl | hw
        · rfl
        · exact cOt_at j hj w hw
    · exact Nat.lt_of_lt_of_le (by decide) hmc.2.2.1
    · exact Nat.le_trans (Nat.add_le_add_right hst _) hmc.2.2.2
    · exact hk
    · exact hn
    · intro t hvm hs1 hs2
      refine ⟨τ, trivial, ⟨hpX, hW.1.kept (fun k q hk => hs2 q.1 (hW.1 k q hk).lt), va_K.moved hvm hK, hW.2.1, hW.2.2.2⟩, Nat.le_trans hW.2.2.1.1 hs1, fun q h1 h2 => (hs2 q (Nat.lt_of_lt_of_le h1 hW.2.2.1.1)).trans (hW.2.2.1.2.1 q h1 h2)⟩
theorem cMl_of {l : Launch} {y : MethodName} {b : ByteArray} {mL : Nat} {f c mc ms : Nat} {G : cG} {σ : CSt} {vs : List Value} {post : Int64 → CSt → Prop} {own : String} (hy : plainName y.cls = true) (hyc : y.cls = own) (hn : (lg_sl vs).length ≤ mL)
    (body : ∀ (X : gT) (A : Nat → Prop) (H0 : Heap) (Q : State → Prop), g_l X = l → (f ≤ (g_R X).frames ∧ c ≤ (g_R X).locals ∧ mc ≤ (g_R X).cells ∧ ms ≤ (g_R X).slots) → H0 = (g_s X).heap → (g_me X).name = y.name → cC X b mL own G A → (∀ (r : Int64) (τ : CSt) (lv : List (Nat × Value)) (pc : Nat), post r τ → decode b pc = .ok (.lreturn, 1) → gJ X (cWd G A H0) Q mc ms τ lv pc [.long r]) → gJ X (cWd G A H0) Q 0 0 σ (lv_args 0 vs) 0 []) : cMl l y b mL f c mc ms G σ vs post := by
  intro sz
  refine Met.ofW (cc := b) (maxL := mL) (ret := (some .long)) hy rfl ?_
  intro p e s m args below meth cd s₁ B hml hv
  obtain ⟨rfl, hsz, hP, ⟨hK, hF⟩, hD0, hz⟩ := hv
  have hts := atoms_spec (ws := cYs y b mL (some .long)) B.pre
  have hown : s.vm.findClass own = some m.cls := by have h := findClass_of_methodNamed B.named; rwa [hyc] at h
  subst hsz
  have hl := lv_entry vs (n := mL) hn
  rw [lg_entry_eq]
  refine body (p, l, e, cRm f c mc ms, s, m, _, below, meth, cd, mL) (cA σ s.heap.size) s.heap _ rfl ⟨Nat.le_refl _, Nat.le_refl _, Nat.le_refl _, Nat.le_refl _⟩ rfl (name_of_methodNamed B.named B.method).1 ⟨⟨B.exec, B.bytes, rfl, hml⟩, hown, fun w hw => hts w (List.mem_cons_of_mem _ hw), hK, fun q hq => Or.inr hq, hF⟩ ?_ s.heap [] _ ⟨hP, c_DA hD0, va_S.rf, hz⟩ hl
  intro r τ lv pc hpost hdg H locs ls hW hl
  exact W.lret (v := r) B.exec B.bytes B.returns (fun t ht hW' => ⟨⟨r, τ, rfl, hpost, by rw [ht]; exact hW.1, va_K.moved hW'.alike hK, hW.2.1, hW.2.2.2⟩, hW.2.2.1.F ht⟩) hW.2.2.1.2.2 hdg
theorem cTl_of {l : Launch} {y : MethodName} {b : ByteArray} {mL : Nat} {f c mc ms : Nat} {G : cG} {σ : CSt} {vs : List Value} {post : Int64 → CSt → Prop} {own : String} {pX : String → CSt → Prop} (hfl : l.stackTraces = false) (hy : plainName y.cls = true) (hyc : y.cls = own) (hoX : own = RX7) (hn : (lg_sl vs).length ≤ mL) (hmc : 1 ≤ mc ∧ 6 ≤ ms ∧ 6 ≤ f ∧ 89 ≤ c)
    (body : ∀ (X : gT) (A : Nat → Prop) (H0 : Heap) (Q : State → Prop), g_l X = l → (f ≤ (g_R X).frames ∧ c ≤ (g_R X).locals ∧ mc ≤ (g_R X).cells ∧ ms ≤ (g_R X).slots) → H0 = (g_s X).heap → cC X b mL own G A → (∀ (r : Int64) (τ : CSt) (lv : List (Nat × Value)) (pc : Nat), post r τ → decode b pc = .ok (.lreturn, 1) → gJ X (cWd G A H0) Q mc ms τ lv pc [.long r]) →
      (∀ (E : String) (τ : CSt) (lv : List (Nat × Value)) (pc k n : Nat) (rest : List Value), pX E τ → k ≤ mc → n ≤ ms → gX X (cWd G A H0) Q k n τ lv pc rest E) →
      (∀ (j : Nat) (τ : CSt) (lv : List (Nat × Value)) (pc k n ik : Nat) (rest : List Value), j < 5 → pX (cNm j) τ → k + 1 ≤ mc → n + 6 ≤ ms → (rest.map fun v => v.category).sum ≤ 8 → Cond.classLink own ik (cNm j) ∈ wC → Cond.initialized (cNm j) ∈ wC → decode b pc = .ok (.new ik, 3) → decode b (pc + 3) = .ok (.dup, 1) → decode b (pc + 4) = .ok (.invokespecial (cNi j), 3) → decode b (pc + 7) = .ok (.athrow, 1) → gJ X (cWd G A H0) Q k n τ lv pc rest) →
      gJ X (cWd G A H0) Q 0 0 σ (lv_args 0 vs) 0 []) : cTl l y b mL f c mc ms G σ vs post pX := by
  subst hoX
  intro sz
  refine vx_ofW (cc := b) (maxL := mL) (ret := (some .long)) hy rfl ?_
  intro p e s m args below meth cd s₁ B hml htab hv
  obtain ⟨rfl, hsz, hP, ⟨hK, hF⟩, hD0, hz⟩ := hv
  have hts := atoms_spec (ws := cYs y b mL (some .long)) B.pre
  have hown : s.vm.findClass RX7 = some m.cls := by have h := findClass_of_methodNamed B.named; rwa [hyc] at h
  subst hsz
  have hl := lv_entry vs (n := mL) hn
  rw [lg_entry_eq]
  refine body (p, l, e, cRm f c mc ms, s, m, _, below, meth, cd, mL) (cA σ s.heap.size) s.heap _ rfl ⟨Nat.le_refl _, Nat.le_refl _, Nat.le_refl _, Nat.le_refl _⟩ rfl ⟨⟨B.exec, B.bytes, rfl, hml⟩, hown, fun w hw => hts w (List.mem_cons_of_mem _ hw), hK, fun q hq => Or.inr hq, hF⟩ ?_ ?_ ?_ s.heap [] _ ⟨hP, c_DA hD0, va_S.rf, hz⟩ hl
  · intro r τ lv pc hpost hdg H locs ls hW hl
    exact vx_ret (W.lret (v := r) B.exec B.bytes B.returns (fun t ht hW' => ⟨⟨r, τ, rfl, hpost, by rw [ht]; exact hW.1, va_K.moved hW'.alike hK, hW.2.1, hW.2.2.2⟩, hW.2.2.1.F ht⟩) hW.2.2.1.2.2 hdg)
  · intro E τ lv pc k n rest hpX hk hn H locs ls q ce hW hl h1 h2 h3
    exact vx_out (fun x hx => (htab x hx).elim) B.notSynchronized h1 h2 h3 (fun t ht hvm => ⟨τ, trivial, ⟨hpX, by rw [ht]; exact hW.1, va_K.moved hvm hK, hW.2.1, hW.2.2.2⟩, hW.2.2.1.F ht⟩) hW.2.2.1.2.2 hk hn
  · intro j τ lv pc k n ik rest hj hpX hk hn hst hw1 hw2 d0 d3 d4 d7 H locs ls hW hl
    have hwd : ∀ w ∈ wC, w.before _ s = true := fun w hw => hts w (List.mem_cons_of_mem _ hw)
    refine vx_throw0 (own := RX7) (cls := cNm j) (names := ["java/lang/RuntimeException", "java/lang/Exception"]) (ik := ik) (ic := cNi j) B.exec B.bytes hfl hown (cFit_at j hj) cFit_nm (hwd _ hw1) (hwd _ hw2) (vx_hat (fun w hw => hwd w (cWc_at j hj w hw)) (fun w hw => hw) (fun w hw => va_Nw.use (cCd_tab (cNg_cd w (cNg_at j hj w hw))) (hF.2.2.2.2.1 w (cNg_at j hj w hw)))) ?_ hF.2.2.2.1.1 hF.2.2.2.1.2 hW.2.2.1 (hl.1.trans hml.symm) d0 d3 d4 d7 (fun x hx => (htab x hx).elim) ?_ ?_ ?_ ?_ B.notSynchronized ?_ hW.2.2.1.2.2 hk hn
    · intro w hw
      rcases List.mem_cons.mp hw with rfl | hw
      · rfl
      · rcases List.mem_cons.mp hw with rfl | hw
        · rfl
        · exact cOt_at j hj w hw
    · exact Nat.lt_of_lt_of_le (by decide) hmc.2.2.1
    · exact Nat.le_trans (Nat.add_le_add_right hst _) hmc.2.2.2
    · exact hk
    · exact hn
    · intro t hvm hs1 hs2
      refine ⟨τ, trivial, ⟨hpX, hW.1.kept (fun k q hk => hs2 q.1 (hW.1 k q hk).lt), va_K.moved hvm hK, hW.2.1, hW.2.2.2⟩, Nat.le_trans hW.2.2.1.1 hs1, fun q h1 h2 => (hs2 q (Nat.lt_of_lt_of_le h1 hW.2.2.1.1)).trans (hW.2.2.1.2.1 q h1 h2)⟩
theorem cMv_of {l : Launch} {y : MethodName} {b : ByteArray} {mL : Nat} {f c mc ms : Nat} {G : cG} {σ : CSt} {vs : List Value} {post : CSt → Prop} {own : String} (hy : plainName y.cls = true) (hyc : y.cls = own) (hn : (lg_sl vs).length ≤ mL)
    (body : ∀ (X : gT) (A : Nat → Prop) (H0 : Heap) (Q : State → Prop), g_l X = l → (f ≤ (g_R X).frames ∧ c ≤ (g_R X).locals ∧ mc ≤ (g_R X).cells ∧ ms ≤ (g_R X).slots) → H0 = (g_s X).heap → (g_me X).name = y.name → cC X b mL own G A → (∀ (τ : CSt) (lv : List (Nat × Value)) (pc : Nat), post τ → decode b pc = .ok (.return_, 1) → gJ X (cWd G A H0) Q mc ms τ lv pc []) → gJ X (cWd G A H0) Q 0 0 σ (lv_args 0 vs) 0 []) : cMv l y b mL f c mc ms G σ vs post := by
  intro sz
  refine Met.ofW (cc := b) (maxL := mL) (ret := none) hy rfl ?_
  intro p e s m args below meth cd s₁ B hml hv
  obtain ⟨rfl, hsz, hP, ⟨hK, hF⟩, hD0, hz⟩ := hv
  have hts := atoms_spec (ws := cYs y b mL none) B.pre
  have hown : s.vm.findClass own = some m.cls := by have h := findClass_of_methodNamed B.named; rwa [hyc] at h
  subst hsz
  have hl := lv_entry vs (n := mL) hn
  rw [lg_entry_eq]
  refine body (p, l, e, cRm f c mc ms, s, m, _, below, meth, cd, mL) (cA σ s.heap.size) s.heap _ rfl ⟨Nat.le_refl _, Nat.le_refl _, Nat.le_refl _, Nat.le_refl _⟩ rfl (name_of_methodNamed B.named B.method).1 ⟨⟨B.exec, B.bytes, rfl, hml⟩, hown, fun w hw => hts w (List.mem_cons_of_mem _ hw), hK, fun q hq => Or.inr hq, hF⟩ ?_ s.heap [] _ ⟨hP, c_DA hD0, va_S.rf, hz⟩ hl
  intro τ lv pc hpost hdg H locs ls hW hl
  exact W.vret B.exec B.bytes B.returns (fun t ht hW' => ⟨⟨τ, rfl, hpost, by rw [ht]; exact hW.1, va_K.moved hW'.alike hK, hW.2.1, hW.2.2.2⟩, hW.2.2.1.F ht⟩) hW.2.2.1.2.2 hdg
theorem cTv_of {l : Launch} {y : MethodName} {b : ByteArray} {mL : Nat} {f c mc ms : Nat} {G : cG} {σ : CSt} {vs : List Value} {post : CSt → Prop} {own : String} {pX : String → CSt → Prop} (hfl : l.stackTraces = false) (hy : plainName y.cls = true) (hyc : y.cls = own) (hoX : own = RX7) (hn : (lg_sl vs).length ≤ mL) (hmc : 1 ≤ mc ∧ 6 ≤ ms ∧ 6 ≤ f ∧ 89 ≤ c)
    (body : ∀ (X : gT) (A : Nat → Prop) (H0 : Heap) (Q : State → Prop), g_l X = l → (f ≤ (g_R X).frames ∧ c ≤ (g_R X).locals ∧ mc ≤ (g_R X).cells ∧ ms ≤ (g_R X).slots) → H0 = (g_s X).heap → cC X b mL own G A → (∀ (τ : CSt) (lv : List (Nat × Value)) (pc : Nat), post τ → decode b pc = .ok (.return_, 1) → gJ X (cWd G A H0) Q mc ms τ lv pc []) →
      (∀ (E : String) (τ : CSt) (lv : List (Nat × Value)) (pc k n : Nat) (rest : List Value), pX E τ → k ≤ mc → n ≤ ms → gX X (cWd G A H0) Q k n τ lv pc rest E) →
      (∀ (j : Nat) (τ : CSt) (lv : List (Nat × Value)) (pc k n ik : Nat) (rest : List Value), j < 5 → pX (cNm j) τ → k + 1 ≤ mc → n + 6 ≤ ms → (rest.map fun v => v.category).sum ≤ 8 → Cond.classLink own ik (cNm j) ∈ wC → Cond.initialized (cNm j) ∈ wC → decode b pc = .ok (.new ik, 3) → decode b (pc + 3) = .ok (.dup, 1) → decode b (pc + 4) = .ok (.invokespecial (cNi j), 3) → decode b (pc + 7) = .ok (.athrow, 1) → gJ X (cWd G A H0) Q k n τ lv pc rest) →
      gJ X (cWd G A H0) Q 0 0 σ (lv_args 0 vs) 0 []) : cTv l y b mL f c mc ms G σ vs post pX := by
  subst hoX
  intro sz
  refine vx_ofW (cc := b) (maxL := mL) (ret := none) hy rfl ?_
  intro p e s m args below meth cd s₁ B hml htab hv
  obtain ⟨rfl, hsz, hP, ⟨hK, hF⟩, hD0, hz⟩ := hv
  have hts := atoms_spec (ws := cYs y b mL none) B.pre
  have hown : s.vm.findClass RX7 = some m.cls := by have h := findClass_of_methodNamed B.named; rwa [hyc] at h
  subst hsz
  have hl := lv_entry vs (n := mL) hn
  rw [lg_entry_eq]
  refine body (p, l, e, cRm f c mc ms, s, m, _, below, meth, cd, mL) (cA σ s.heap.size) s.heap _ rfl ⟨Nat.le_refl _, Nat.le_refl _, Nat.le_refl _, Nat.le_refl _⟩ rfl ⟨⟨B.exec, B.bytes, rfl, hml⟩, hown, fun w hw => hts w (List.mem_cons_of_mem _ hw), hK, fun q hq => Or.inr hq, hF⟩ ?_ ?_ ?_ s.heap [] _ ⟨hP, c_DA hD0, va_S.rf, hz⟩ hl
  · intro τ lv pc hpost hdg H locs ls hW hl
    exact vx_ret (W.vret B.exec B.bytes B.returns (fun t ht hW' => ⟨⟨τ, rfl, hpost, by rw [ht]; exact hW.1, va_K.moved hW'.alike hK, hW.2.1, hW.2.2.2⟩, hW.2.2.1.F ht⟩) hW.2.2.1.2.2 hdg)
  · intro E τ lv pc k n rest hpX hk hn H locs ls q ce hW hl h1 h2 h3
    exact vx_out (fun x hx => (htab x hx).elim) B.notSynchronized h1 h2 h3 (fun t ht hvm => ⟨τ, trivial, ⟨hpX, by rw [ht]; exact hW.1, va_K.moved hvm hK, hW.2.1, hW.2.2.2⟩, hW.2.2.1.F ht⟩) hW.2.2.1.2.2 hk hn
  · intro j τ lv pc k n ik rest hj hpX hk hn hst hw1 hw2 d0 d3 d4 d7 H locs ls hW hl
    have hwd : ∀ w ∈ wC, w.before _ s = true := fun w hw => hts w (List.mem_cons_of_mem _ hw)
    refine vx_throw0 (own := RX7) (cls := cNm j) (names := ["java/lang/RuntimeException", "java/lang/Exception"]) (ik := ik) (ic := cNi j) B.exec B.bytes hfl hown (cFit_at j hj) cFit_nm (hwd _ hw1) (hwd _ hw2) (vx_hat (fun w hw => hwd w (cWc_at j hj w hw)) (fun w hw => hw) (fun w hw => va_Nw.use (cCd_tab (cNg_cd w (cNg_at j hj w hw))) (hF.2.2.2.2.1 w (cNg_at j hj w hw)))) ?_ hF.2.2.2.1.1 hF.2.2.2.1.2 hW.2.2.1 (hl.1.trans hml.symm) d0 d3 d4 d7 (fun x hx => (htab x hx).elim) ?_ ?_ ?_ ?_ B.notSynchronized ?_ hW.2.2.1.2.2 hk hn
    · intro w hw
      rcases List.mem_cons.mp hw with rfl | hw
      · rfl
      · rcases List.mem_cons.mp hw with rfl | hw
        · rfl
        · exact cOt_at j hj w hw
    · exact Nat.lt_of_lt_of_le (by decide) hmc.2.2.1
    · exact Nat.le_trans (Nat.add_le_add_right hst _) hmc.2.2.2
    · exact hk
    · exact hn
    · intro t hvm hs1 hs2
      refine ⟨τ, trivial, ⟨hpX, hW.1.kept (fun k q hk => hs2 q.1 (hW.1 k q hk).lt), va_K.moved hvm hK, hW.2.1, hW.2.2.2⟩, Nat.le_trans hW.2.2.1.1 hs1, fun q h1 h2 => (hs2 q (Nat.lt_of_lt_of_le h1 hW.2.2.1.1)).trans (hW.2.2.1.2.1 q h1 h2)⟩
theorem cMq_of {l : Launch} {y : MethodName} {b : ByteArray} {mL : Nat} {rt : FieldType} {f c mc ms : Nat} {G : cG} {σ : CSt} {vs : List Value} {post : Option Nat → CSt → Prop} {own : String} (hy : plainName y.cls = true) (hyc : y.cls = own) (hrt : (∃ n, rt = .object n) ∨ ∃ t, rt = .array t) (hn : (lg_sl vs).length ≤ mL)
    (body : ∀ (X : gT) (A : Nat → Prop) (H0 : Heap) (Q : State → Prop), g_l X = l → (f ≤ (g_R X).frames ∧ c ≤ (g_R X).locals ∧ mc ≤ (g_R X).cells ∧ ms ≤ (g_R X).slots) → H0 = (g_s X).heap → (g_me X).name = y.name → cC X b mL own G A → (∀ (r : Option Nat) (τ : CSt) (lv : List (Nat × Value)) (pc : Nat), post r τ → decode b pc = .ok (.areturn, 1) → gJ X (cWd G A H0) Q mc ms τ lv pc [va_rf r]) → gJ X (cWd G A H0) Q 0 0 σ (lv_args 0 vs) 0 []) : cMq l y b mL rt f c mc ms G σ vs post := by
  intro sz
  refine Met.ofW (cc := b) (maxL := mL) (ret := (some rt)) hy rfl ?_
  intro p e s m args below meth cd s₁ B hml hv
  obtain ⟨rfl, hsz, hP, ⟨hK, hF⟩, hD0, hz⟩ := hv
  have hts := atoms_spec (ws := cYs y b mL (some rt)) B.pre
  have hown : s.vm.findClass own = some m.cls := by have h := findClass_of_methodNamed B.named; rwa [hyc] at h
  subst hsz
  have hl := lv_entry vs (n := mL) hn
  rw [lg_entry_eq]
  refine body (p, l, e, cRm f c mc ms, s, m, _, below, meth, cd, mL) (cA σ s.heap.size) s.heap _ rfl ⟨Nat.le_refl _, Nat.le_refl _, Nat.le_refl _, Nat.le_refl _⟩ rfl (name_of_methodNamed B.named B.method).1 ⟨⟨B.exec, B.bytes, rfl, hml⟩, hown, fun w hw => hts w (List.mem_cons_of_mem _ hw), hK, fun q hq => Or.inr hq, hF⟩ ?_ s.heap [] _ ⟨hP, c_DA hD0, va_S.rf, hz⟩ hl
  intro r τ lv pc hpost hdg H locs ls hW hl
  exact W.aret (v := va_rf r) B.exec B.bytes B.returns hrt (va_rf_or r) (fun t ht hW' => ⟨⟨r, τ, rfl, hpost, by rw [ht]; exact hW.1, va_K.moved hW'.alike hK, hW.2.1, hW.2.2.2⟩, hW.2.2.1.F ht⟩) hW.2.2.1.2.2 hdg
theorem cTq_of {l : Launch} {y : MethodName} {b : ByteArray} {mL : Nat} {rt : FieldType} {f c mc ms : Nat} {G : cG} {σ : CSt} {vs : List Value} {post : Option Nat → CSt → Prop} {own : String} {pX : String → CSt → Prop} (hfl : l.stackTraces = false) (hy : plainName y.cls = true) (hyc : y.cls = own) (hoX : own = RX7) (hrt : (∃ n, rt = .object n) ∨ ∃ t, rt = .array t) (hn : (lg_sl vs).length ≤ mL) (hmc : 1 ≤ mc ∧ 6 ≤ ms ∧ 6 ≤ f ∧ 89 ≤ c)
    (body : ∀ (X : gT) (A : Nat → Prop) (H0 : Heap) (Q : State → Prop), g_l X = l → (f ≤ (g_R X).frames ∧ c ≤ (g_R X).locals ∧ mc ≤ (g_R X).cells ∧ ms ≤ (g_R X).slots) → H0 = (g_s X).heap → cC X b mL own G A → (∀ (r : Option Nat) (τ : CSt) (lv : List (Nat × Value)) (pc : Nat), post r τ → decode b pc = .ok (.areturn, 1) → gJ X (cWd G A H0) Q mc ms τ lv pc [va_rf r]) →
      (∀ (E : String) (τ : CSt) (lv : List (Nat × Value)) (pc k n : Nat) (rest : List Value), pX E τ → k ≤ mc → n ≤ ms → gX X (cWd G A H0) Q k n τ lv pc rest E) →
      (∀ (j : Nat) (τ : CSt) (lv : List (Nat × Value)) (pc k n ik : Nat) (rest : List Value), j < 5 → pX (cNm j) τ → k + 1 ≤ mc → n + 6 ≤ ms → (rest.map fun v => v.category).sum ≤ 8 → Cond.classLink own ik (cNm j) ∈ wC → Cond.initialized (cNm j) ∈ wC → decode b pc = .ok (.new ik, 3) → decode b (pc + 3) = .ok (.dup, 1) → decode b (pc + 4) = .ok (.invokespecial (cNi j), 3) → decode b (pc + 7) = .ok (.athrow, 1) → gJ X (cWd G A H0) Q k n τ lv pc rest) →
      gJ X (cWd G A H0) Q 0 0 σ (lv_args 0 vs) 0 []) : cTq l y b mL rt f c mc ms G σ vs post pX := by
  subst hoX
  intro sz
  refine vx_ofW (cc := b) (maxL := mL) (ret := (some rt)) hy rfl ?_
  intro p e s m args below meth cd s₁ B hml htab hv
  obtain ⟨rfl, hsz, hP, ⟨hK, hF⟩, hD0, hz⟩ := hv
  have hts := atoms_spec (ws := cYs y b mL (some rt)) B.pre
  have hown : s.vm.findClass RX7 = some m.cls := by have h := findClass_of_methodNamed B.named; rwa [hyc] at h
  subst hsz
  have hl := lv_entry vs (n := mL) hn
  rw [lg_entry_eq]
  refine body (p, l, e, cRm f c mc ms, s, m, _, below, meth, cd, mL) (cA σ s.heap.size) s.heap _ rfl ⟨Nat.le_refl _, Nat.le_refl _, Nat.le_refl _, Nat.le_refl _⟩ rfl ⟨⟨B.exec, B.bytes, rfl, hml⟩, hown, fun w hw => hts w (List.mem_cons_of_mem _ hw), hK, fun q hq => Or.inr hq, hF⟩ ?_ ?_ ?_ s.heap [] _ ⟨hP, c_DA hD0, va_S.rf, hz⟩ hl
  · intro r τ lv pc hpost hdg H locs ls hW hl
    exact vx_ret (W.aret (v := va_rf r) B.exec B.bytes B.returns hrt (va_rf_or r) (fun t ht hW' => ⟨⟨r, τ, rfl, hpost, by rw [ht]; exact hW.1, va_K.moved hW'.alike hK, hW.2.1, hW.2.2.2⟩, hW.2.2.1.F ht⟩) hW.2.2.1.2.2 hdg)
  · intro E τ lv pc k n rest hpX hk hn H locs ls q ce hW hl h1 h2 h3
    exact vx_out (fun x hx => (htab x hx).elim) B.notSynchronized h1 h2 h3 (fun t ht hvm => ⟨τ, trivial, ⟨hpX, by rw [ht]; exact hW.1, va_K.moved hvm hK, hW.2.1, hW.2.2.2⟩, hW.2.2.1.F ht⟩) hW.2.2.1.2.2 hk hn
  · intro j τ lv pc k n ik rest hj hpX hk hn hst hw1 hw2 d0 d3 d4 d7 H locs ls hW hl
    have hwd : ∀ w ∈ wC, w.before _ s = true := fun w hw => hts w (List.mem_cons_of_mem _ hw)
    refine vx_throw0 (own := RX7) (cls := cNm j) (names := ["java/lang/RuntimeException", "java/lang/Exception"]) (ik := ik) (ic := cNi j) B.exec B.bytes hfl hown (cFit_at j hj) cFit_nm (hwd _ hw1) (hwd _ hw2) (vx_hat (fun w hw => hwd w (cWc_at j hj w hw)) (fun w hw => hw) (fun w hw => va_Nw.use (cCd_tab (cNg_cd w (cNg_at j hj w hw))) (hF.2.2.2.2.1 w (cNg_at j hj w hw)))) ?_ hF.2.2.2.1.1 hF.2.2.2.1.2 hW.2.2.1 (hl.1.trans hml.symm) d0 d3 d4 d7 (fun x hx => (htab x hx).elim) ?_ ?_ ?_ ?_ B.notSynchronized ?_ hW.2.2.1.2.2 hk hn
    · intro w hw
      rcases List.mem_cons.mp hw with rfl | hw
      · rfl
      · rcases List.mem_cons.mp hw with rfl | hw
        · rfl
        · exact cOt_at j hj w hw
    · exact Nat.lt_of_lt_of_le (by decide) hmc.2.2.1
    · exact Nat.le_trans (Nat.add_le_add_right hst _) hmc.2.2.2
    · exact hk
    · exact hn
    · intro t hvm hs1 hs2
      refine ⟨τ, trivial, ⟨hpX, hW.1.kept (fun k q hk => hs2 q.1 (hW.1 k q hk).lt), va_K.moved hvm hK, hW.2.1, hW.2.2.2⟩, Nat.le_trans hW.2.2.1.1 hs1, fun q h1 h2 => (hs2 q (Nat.lt_of_lt_of_le h1 hW.2.2.1.1)).trans (hW.2.2.1.2.1 q h1 h2)⟩
