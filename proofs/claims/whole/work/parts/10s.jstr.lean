/-! String constants: length and charAt, walked in the JDK's own code; nothing is written. -/
def wSl : List Cond := [.initialized RJ0, .code yJ0_length_8abf5 cJ0_length_8abf5 1 (some .int), .fieldLink RJ0 9 "java/lang/String" "value" "[B", .methodLink RJ0 335 yJ0_coder_7d493, .instanceMethod yJ0_coder_7d493, .selects RJ0 yJ0_coder_7d493 yJ0_coder_7d493, .code yJ0_coder_7d493 cJ0_coder_7d493 1 (some .byte), .fieldLink RJ0 38 "java/lang/String" "COMPACT_STRINGS" "Z", .fieldLink RJ0 15 "java/lang/String" "coder" "B", .code yJ0_charAt_5068e cJ0_charAt_5068e 2 (some .char), .methodLink RJ0 492 yJ0_isLatin1_aae02, .instanceMethod yJ0_isLatin1_aae02, .selects RJ0 yJ0_isLatin1_aae02 yJ0_isLatin1_aae02, .code yJ0_isLatin1_aae02 cJ0_isLatin1_aae02 1 (some .boolean), .methodLink RJ0 495 yJ1_charAt_3b067, .static yJ1_charAt_3b067, .initialized RJ1, .code yJ1_charAt_3b067 cJ1_charAt_3b067 2 (some .char), .methodLink RJ1 9 yJ0_checkIndex_df160, .static yJ0_checkIndex_df160, .code yJ0_checkIndex_df160 cJ0_checkIndex_df160 2 none, .fieldLink RJ0 1053 "jdk/internal/util/Preconditions" "SIOOBE_FORMATTER" "Ljava/util/function/BiFunction;", .methodLink RJ0 1059 yJ3_checkIndex_8e157, .static yJ3_checkIndex_8e157, .initialized RJ3, .code yJ3_checkIndex_8e157 cJ3_checkIndex_8e157 3 (some .int), .instanceMethod yJ0_length_8abf5, .selects RJ0 yJ0_length_8abf5 yJ0_length_8abf5, .instanceMethod yJ0_charAt_5068e, .selects RJ0 yJ0_charAt_5068e yJ0_charAt_5068e]
theorem wSl_good : GoodIn wSl wSl := goodIn_sub (fun _ h => h) (by decide +kernel)
theorem wSl_at {w : Cond} (i : Nat) (h : wSl[i]? = some w) : w ∈ wSl := List.mem_of_getElem? h
/-- a world of its own that nothing is written in -/
def gU (H0 : Heap) (_ : Unit) (H : Heap) (locs : List Loc) : Prop := H = H0 ∧ locs = []
def fC (X : gT) (cc : ByteArray) (nL : Nat) (own : String) (ws : List Cond) : Prop := gC X cc nL ∧ (g_s X).vm.findClass own = some (g_m X).cls ∧ (∀ w ∈ ws, w.before (g_a X) (g_s X) = true) ∧ True
abbrev rRm (f c : Nat) : Room := { frames := f, cells := 0, slots := 0, locals := c }
def gFi (l : Launch) (ws : List Cond) (y : MethodName) (b : ByteArray) (mL : Nat) (rt : FieldType) (f c : Nat) (vs : List Value) (Fp : State → Prop) (post : Int32 → Prop) : Prop :=
  Met l y (.code y b mL (some rt) :: ws) (rRm f c) (va_Pc vs Fp) (vp_Si post) 0 0 (fun _ => False)
def gFv (l : Launch) (ws : List Cond) (y : MethodName) (b : ByteArray) (mL : Nat) (f c : Nat) (vs : List Value) (Fp : State → Prop) (post : Unit → Prop) : Prop :=
  Met l y (.code y b mL none :: ws) (rRm f c) (va_Pc vs Fp) (va_Sv post) 0 0 (fun _ => False)
theorem gFi_of {l : Launch} {ws : List Cond} {y : MethodName} {b : ByteArray} {mL : Nat} {rt : FieldType} {f c : Nat} {vs : List Value} {Fp : State → Prop} {post : Int32 → Prop} {own : String} (hy : plainName y.cls = true) (hyc : y.cls = own) (hn : (lg_sl vs).length ≤ mL)
    (body : ∀ (X : gT) (H0 : Heap) (Q : State → Prop), g_l X = l → g_R X = rRm f c → H0 = (g_s X).heap → fC X b mL own ws → Fp (g_s X) →
      (∀ (r : Int32) (lv : List (Nat × Value)) (pc : Nat), post r → narrow rt (.int r) = .int r → decode b pc = .ok (.ireturn, 1) → gJ X (gU H0) Q 0 0 () lv pc [.int r]) →
      gJ X (gU H0) Q 0 0 () (lv_args 0 vs) 0 []) : gFi l ws y b mL rt f c vs Fp post := by
  refine Met.ofW (cc := b) (maxL := mL) (ret := some rt) hy rfl ?_
  intro p e s m args below meth cd s₁ B hml hv
  obtain ⟨rfl, hF⟩ := hv
  have hts := atoms_spec (ws := .code y b mL (some rt) :: ws) B.pre
  have hown : s.vm.findClass own = some m.cls := by have h := findClass_of_methodNamed B.named; rwa [hyc] at h
  have hl := lv_entry vs (n := mL) hn
  rw [lg_entry_eq]
  refine body (p, l, e, rRm f c, s, m, _, below, meth, cd, mL) s.heap _ rfl rfl rfl ⟨⟨B.exec, B.bytes, rfl, hml⟩, hown, fun w hw => hts w (List.mem_cons_of_mem _ hw), trivial⟩ hF ?_ s.heap [] _ ⟨rfl, rfl⟩ hl
  intro r lv pc hpost hnar hdg H locs ls hW hl
  obtain ⟨rfl, rfl⟩ := hW
  exact W.zret (v := r) B.exec B.bytes B.returns hnar (fun t ht hW' => ⟨r, rfl, hpost, ht⟩) (fun _ h => by cases h) hdg
theorem gFv_of {l : Launch} {ws : List Cond} {y : MethodName} {b : ByteArray} {mL : Nat} {f c : Nat} {vs : List Value} {Fp : State → Prop} {post : Unit → Prop} {own : String} (hy : plainName y.cls = true) (hyc : y.cls = own) (hn : (lg_sl vs).length ≤ mL)
    (body : ∀ (X : gT) (H0 : Heap) (Q : State → Prop), g_l X = l → g_R X = rRm f c → H0 = (g_s X).heap → fC X b mL own ws → Fp (g_s X) →
      (∀ (lv : List (Nat × Value)) (pc : Nat), post () → decode b pc = .ok (.return_, 1) → gJ X (gU H0) Q 0 0 () lv pc []) →
      gJ X (gU H0) Q 0 0 () (lv_args 0 vs) 0 []) : gFv l ws y b mL f c vs Fp post := by
  refine Met.ofW (cc := b) (maxL := mL) (ret := none) hy rfl ?_
  intro p e s m args below meth cd s₁ B hml hv
  obtain ⟨rfl, hF⟩ := hv
  have hts := atoms_spec (ws := .code y b mL none :: ws) B.pre
  have hown : s.vm.findClass own = some m.cls := by have h := findClass_of_methodNamed B.named; rwa [hyc] at h
  have hl := lv_entry vs (n := mL) hn
  rw [lg_entry_eq]
  refine body (p, l, e, rRm f c, s, m, _, below, meth, cd, mL) s.heap _ rfl rfl rfl ⟨⟨B.exec, B.bytes, rfl, hml⟩, hown, fun w hw => hts w (List.mem_cons_of_mem _ hw), trivial⟩ hF ?_ s.heap [] _ ⟨rfl, rfl⟩ hl
  intro lv pc hpost hdg H locs ls hW hl
  obtain ⟨rfl, rfl⟩ := hW
  exact W.vret B.exec B.bytes B.returns (fun t ht hW' => ⟨rfl, hpost, ht⟩) (fun _ h => by cases h) hdg
section FCALL
variable {X : gT} {S : Type} {Wd : S → Heap → List Loc → Prop} {Q : State → Prop} {k n : Nat} {σ : S} {lv : List (Nat × Value)} {pc : Nat} {rest st0 : List Value} {cc : ByteArray} {nL : Nat} {own : String} {Ts ws : List Cond} {y : MethodName} {b : ByteArray} {mL f c idx : Nat} {rt : FieldType} {vs : List Value} {Fp : State → Prop}
theorem f_ws (hT : GoodIn Ts ws) {ls : List Cond} (h : ∀ w ∈ ls, w ∈ Ts) (hTs : GoodIn Ts Ts) : GoodIn Ts (ls ++ ws) := goodIn_app (fun w hw => hTs w (h w hw)) hT
theorem g_callFS {post : Int32 → Prop} (C : fC X cc nL own Ts) (hM : gFi (g_l X) ws y b mL rt f c vs Fp post) (hG : GoodIn Ts (va_wsS own idx y (.code y b mL (some rt) :: ws)))
    (hd : y.cls ≠ "java/lang/invoke/MethodHandle" ∧ y.cls ≠ "java/lang/invoke/VarHandle" ∧ (parseMethodDescriptor y.desc).map (fun d => d.parameters.length) = some vs.length) (hR : f + 1 ≤ (g_R X).frames ∧ 8 + (mL + 11) + c ≤ (g_R X).locals) (hkn : k ≤ (g_R X).cells ∧ n ≤ (g_R X).slots) (hbl : FrameBlind (va_Pc vs Fp)) (hF : ∀ (H : Heap) (locs : List Loc), Wd σ H locs → ∀ U : State, U.heap = H → (g_s X).WarmedH U.vm → Fp U)
    (hdg : decode cc pc = .ok (.invokestatic idx, 3)) (hst0 : st0 = vs.reverse ++ rest) (hst : (rest.map fun v => v.category).sum ≤ 8)
    (kk : ∀ r : Int32, post r → gJ X Wd Q k n σ lv (pc + 3) (.int r :: rest)) : gJ X Wd Q k n σ lv pc st0 := by
  intro H locs ls hW hl
  exact vp_callSi (W.runS (As := vs) (rest := rest) ⟨C.1.1, C.1.2.1, C.1.2.2.2, C.2.1, C.2.2.1⟩ hM (va_cwS vs.length C.2.2.1 hG rfl rfl rfl hd hR) ⟨hbl, fun U hU hW' => ⟨rfl, hF H locs hW U hU hW'⟩⟩ rfl rfl (hl.1.trans C.1.2.2.1) hst0 (lv_room hst) hdg hkn) (fun r hr => kk r hr H locs ls hW hl)
theorem g_callFSv {post : Unit → Prop} (C : fC X cc nL own Ts) (hM : gFv (g_l X) ws y b mL f c vs Fp post) (hG : GoodIn Ts (va_wsS own idx y (.code y b mL none :: ws)))
    (hd : y.cls ≠ "java/lang/invoke/MethodHandle" ∧ y.cls ≠ "java/lang/invoke/VarHandle" ∧ (parseMethodDescriptor y.desc).map (fun d => d.parameters.length) = some vs.length) (hR : f + 1 ≤ (g_R X).frames ∧ 8 + (mL + 11) + c ≤ (g_R X).locals) (hkn : k ≤ (g_R X).cells ∧ n ≤ (g_R X).slots) (hbl : FrameBlind (va_Pc vs Fp)) (hF : ∀ (H : Heap) (locs : List Loc), Wd σ H locs → ∀ U : State, U.heap = H → (g_s X).WarmedH U.vm → Fp U)
    (hdg : decode cc pc = .ok (.invokestatic idx, 3)) (hst0 : st0 = vs.reverse ++ rest) (hst : (rest.map fun v => v.category).sum ≤ 8)
    (kk : post () → gJ X Wd Q k n σ lv (pc + 3) rest) : gJ X Wd Q k n σ lv pc st0 := by
  intro H locs ls hW hl
  exact va_csv (W.runS (As := vs) (rest := rest) ⟨C.1.1, C.1.2.1, C.1.2.2.2, C.2.1, C.2.2.1⟩ hM (va_cwS vs.length C.2.2.1 hG rfl rfl rfl hd hR) ⟨hbl, fun U hU hW' => ⟨rfl, hF H locs hW U hU hW'⟩⟩ rfl rfl (hl.1.trans C.1.2.2.1) hst0 (lv_room hst) hdg hkn) (fun hr => kk hr H locs ls hW hl)
theorem g_callFV {post : Int32 → Prop} {a : Nat} {cls : String} (C : fC X cc nL own Ts) (hM : gFi (g_l X) ws y b mL rt f c (.ref a :: vs) Fp post) (hG : GoodIn Ts (wsV own idx cls y (.code y b mL (some rt) :: ws)))
    (hd : y.cls = cls ∧ y.cls ≠ "java/lang/invoke/MethodHandle" ∧ y.cls ≠ "java/lang/invoke/VarHandle" ∧ (parseMethodDescriptor y.desc).map (fun d => d.parameters.length) = some vs.length) (hR : f + 1 ≤ (g_R X).frames ∧ 8 + (mL + 11) + c ≤ (g_R X).locals) (hkn : k ≤ (g_R X).cells ∧ n ≤ (g_R X).slots) (hbl : FrameBlind (va_Pc (.ref a :: vs) Fp)) (hF : ∀ (H : Heap) (locs : List Loc), Wd σ H locs → (∃ cellB : Cell, H[a]? = some cellB ∧ cellB.vm.isStatics = false ∧ (g_s X).vm.findClass cls = some cellB.cls) ∧ ∀ U : State, U.heap = H → (g_s X).WarmedH U.vm → Fp U)
    (hdg : decode cc pc = .ok (.invokevirtual idx, 3)) (hst0 : st0 = vs.reverse ++ .ref a :: rest) (hst : (rest.map fun v => v.category).sum ≤ 8)
    (kk : ∀ r : Int32, post r → gJ X Wd Q k n σ lv (pc + 3) (.int r :: rest)) : gJ X Wd Q k n σ lv pc st0 := by
  intro H locs ls hW hl
  exact vp_callSi (W.runV (As := vs) (rest := rest) ⟨C.1.1, C.1.2.1, C.1.2.2.2, C.2.1, C.2.2.1⟩ hM (cwV vs.length C.2.2.1 hG rfl rfl rfl hd hR) ⟨hbl, (hF H locs hW).1, fun U hU hW' => ⟨rfl, (hF H locs hW).2 U hU hW'⟩⟩ rfl rfl (hl.1.trans C.1.2.2.1) hst0 (lv_room hst) hdg hkn) (fun r hr => kk r hr H locs ls hW hl)
end FCALL
/-- what a String constant at a, its bytes at v, holds: the text tx, of signs below 128 -/
def jS (a v : Nat) (tx : List Int32) (A : Nat → Prop) (U : State) (H : Heap) : Prop := va_O "java/lang/String" a A U H ∧ va_OF "java/lang/String" "coder" "B" (.int 0) a A U H ∧ va_OF "java/lang/String" "value" "[B" (.ref v) a A U H ∧ va_T .byte v tx.length (fun j => .int (tx.getD j 0)) A U H ∧ va_Z "java/lang/String" "COMPACT_STRINGS" "Z" (.int 1) A U H ∧ va_Zq "jdk/internal/util/Preconditions" "SIOOBE_FORMATTER" "Ljava/util/function/BiFunction;" A U H
theorem jS.moved {a v : Nat} {tx : List Int32} {A : Nat → Prop} {u U : State} {H : Heap} (hvm : u.vm.Alike U.vm) (h : jS a v tx A u H) : jS a v tx A U H := ⟨h.1.moved hvm, h.2.1.moved hvm, h.2.2.1.moved hvm, h.2.2.2.1.moved hvm, h.2.2.2.2.1.moved hvm, h.2.2.2.2.2.moved hvm⟩
theorem jS.kept {a v : Nat} {tx : List Int32} {A : Nat → Prop} {U : State} {H H1 : Heap} (h : jS a v tx A U H) (hq : ∀ a : Nat, a < H.size → ¬ A a → H1[a]? = H[a]?) : jS a v tx A U H1 := ⟨h.1.kept hq, h.2.1.kept hq, h.2.2.1.kept hq, h.2.2.2.1.kept hq, h.2.2.2.2.1.kept hq, h.2.2.2.2.2.kept hq⟩
theorem jS.narrow {a v : Nat} {tx : List Int32} {A B : Nat → Prop} {U : State} {H : Heap} (h : jS a v tx A U H) (hq : ∀ q, B q → A q) : jS a v tx B U H := ⟨h.1.narrow hq, h.2.1.narrow hq, h.2.2.1.narrow hq, h.2.2.2.1.narrow hq, h.2.2.2.2.1.narrow hq, h.2.2.2.2.2.narrow hq⟩
theorem jS.blind {a v : Nat} {tx : List Int32} {A : Nat → Prop} {vs : List Value} : FrameBlind (va_Pc vs (fun U => jS a v tx A U U.heap)) := fun b U g mk q => ⟨q.1, jS.moved (u := U) (U := U.calling g mk b) (Vm.Alike.refl U.vm) q.2⟩
theorem jT.blind {P : Prop} {vs : List Value} : FrameBlind (va_Pc vs (fun _ => P)) := fun b U g mk q => ⟨q.1, q.2⟩
/-- what length and charAt ask of their world -/
def jF (a v : Nat) (tx : List Int32) (A : Nat → Prop) (U : State) : Prop := jS a v tx A U U.heap
theorem jF.go {a v : Nat} {tx : List Int32} {A : Nat → Prop} {s U : State} {H0 H : Heap} {locs : List Loc} (h0 : H0 = s.heap) (h : jF a v tx A s) (hW : gU H0 () H locs) (hU : U.heap = H) (hW' : s.WarmedH U.vm) : jF a v tx A U := by
  obtain ⟨rfl, rfl⟩ := hW
  show jS a v tx A U U.heap
  rw [hU, h0]
  exact jS.moved hW'.alike h
section JROWS
variable {X : gT} {Q : State → Prop} {lv : List (Nat × Value)} {pc : Nat} {rest : List Value} {cc : ByteArray} {nL : Nat} {A : Nat → Prop} {H0 : Heap} {a v : Nat} {tx : List Int32}
theorem j_val (C : fC X cc nL RJ0 wSl) (hH : H0 = (g_s X).heap) (hF : jF a v tx A (g_s X)) (hdg : decode cc pc = .ok (.getfield 9, 3)) (kk : gJ X (gU H0) Q 0 0 () lv (pc + 3) (.ref v :: rest)) : gJ X (gU H0) Q 0 0 () lv pc (.ref a :: rest) := by
  intro H locs ls hW hl
  have hW' := hW
  obtain ⟨rfl, rfl⟩ := hW
  subst hH
  exact vk_getf C.1.1 C.1.2.1 hF.2.2.1 va_S.rf C.2.1 (C.2.2.1 _ (wSl_at (w := .fieldLink RJ0 9 "java/lang/String" "value" "[B") 2 rfl)) (fun _ h => h) hdg (kk _ _ ls hW' hl)
theorem j_coder (C : fC X cc nL RJ0 wSl) (hH : H0 = (g_s X).heap) (hF : jF a v tx A (g_s X)) (hdg : decode cc pc = .ok (.getfield 15, 3)) (kk : gJ X (gU H0) Q 0 0 () lv (pc + 3) (.int 0 :: rest)) : gJ X (gU H0) Q 0 0 () lv pc (.ref a :: rest) := by
  intro H locs ls hW hl
  have hW' := hW
  obtain ⟨rfl, rfl⟩ := hW
  subst hH
  exact vk_getf C.1.1 C.1.2.1 hF.2.1 va_S.rf C.2.1 (C.2.2.1 _ (wSl_at (w := .fieldLink RJ0 15 "java/lang/String" "coder" "B") 8 rfl)) (fun _ h => h) hdg (kk _ _ ls hW' hl)
theorem j_compact (C : fC X cc nL RJ0 wSl) (hH : H0 = (g_s X).heap) (hF : jF a v tx A (g_s X)) (hdg : decode cc pc = .ok (.getstatic 38, 3)) (kk : gJ X (gU H0) Q 0 0 () lv (pc + 3) (.int 1 :: rest)) : gJ X (gU H0) Q 0 0 () lv pc rest := by
  intro H locs ls hW hl
  have hW' := hW
  obtain ⟨rfl, rfl⟩ := hW
  subst hH
  exact va_gets C.1.1 C.1.2.1 hF.2.2.2.2.1 va_S.rf C.2.1 (C.2.2.1 _ (wSl_at (w := .fieldLink RJ0 38 "java/lang/String" "COMPACT_STRINGS" "Z") 7 rfl)) (fun _ h => h) hdg (kk _ _ ls hW' hl)
theorem j_len {own : String} (C : fC X cc nL own wSl) (hH : H0 = (g_s X).heap) (hF : jF a v tx A (g_s X)) (hdg : decode cc pc = .ok (.arraylength, 1)) (kk : gJ X (gU H0) Q 0 0 () lv (pc + 1) (.int (nI tx.length) :: rest)) : gJ X (gU H0) Q 0 0 () lv pc (.ref v :: rest) := by
  intro H locs ls hW hl
  have hW' := hW
  obtain ⟨rfl, rfl⟩ := hW
  subst hH
  exact va_tlen C.1.1 C.1.2.1 hF.2.2.2.1 va_S.rf rfl hdg (kk _ _ ls hW' hl)
theorem j_bald {own : String} (C : fC X cc nL own wSl) (hH : H0 = (g_s X).heap) (hF : jF a v tx A (g_s X)) {i : Int32} (hin : vp_in i tx.length) (hdg : decode cc pc = .ok (.baload, 1)) (kk : gJ X (gU H0) Q 0 0 () lv (pc + 1) (.int (tx.getD i.toNatClampNeg 0) :: rest)) : gJ X (gU H0) Q 0 0 () lv pc (.int i :: .ref v :: rest) := by
  intro H locs ls hW hl
  have hW' := hW
  obtain ⟨rfl, rfl⟩ := hW
  subst hH
  exact va_tb C.1.1 C.1.2.1 hF.2.2.2.1 va_S.rf hin rfl hdg (kk _ _ ls hW' hl)
end JROWS
theorem cJ_coder (l : Launch) (a v : Nat) (tx : List Int32) (A : Nat → Prop) (post : Int32 → Prop) (hw : post 0) : gFi l wSl yJ0_coder_7d493 cJ0_coder_7d493 1 .byte 0 0 [.ref a] (jF a v tx A) post :=
  gFi_of (own := RJ0) (by decide +kernel) rfl (Nat.le_of_ble_eq_true rfl) (fun X H0 Q hl hR hH C hF hret => by
    refine j_compact C hH hF dJ0_coder_7d493_0 ?_
    refine g_if_eq (tgt := 13) C.1 dJ0_coder_7d493_3 (by decide) (fun h => absurd h (by decide)) (fun h => ?_)
    refine g_aload_n C.1 0 dJ0_coder_7d493_6 rfl rfl ?_
    refine j_coder C hH hF dJ0_coder_7d493_7 ?_
    refine g_goto (tgt := 14) C.1 dJ0_coder_7d493_10 (by decide) ?_
    exact hret _ _ _ hw rfl dJ0_coder_7d493_14)
theorem cJ_isLatin1 (l : Launch) (a v : Nat) (tx : List Int32) (A : Nat → Prop) (post : Int32 → Prop) (hw : post 1) : gFi l wSl yJ0_isLatin1_aae02 cJ0_isLatin1_aae02 1 .boolean 0 0 [.ref a] (jF a v tx A) post :=
  gFi_of (own := RJ0) (by decide +kernel) rfl (Nat.le_of_ble_eq_true rfl) (fun X H0 Q hl hR hH C hF hret => by
    refine j_compact C hH hF dJ0_isLatin1_aae02_0 ?_
    refine g_if_eq (tgt := 17) C.1 dJ0_isLatin1_aae02_3 (by decide) (fun h => absurd h (by decide)) (fun h => ?_)
    refine g_aload_n C.1 0 dJ0_isLatin1_aae02_6 rfl rfl ?_
    refine j_coder C hH hF dJ0_isLatin1_aae02_7 ?_
    refine g_if_ne (tgt := 17) C.1 dJ0_isLatin1_aae02_10 (by decide) (fun h => absurd rfl h) (fun h => ?_)
    refine g_iconst (v := 1) C.1 dJ0_isLatin1_aae02_13 (by decide) ?_
    refine g_goto (tgt := 18) C.1 dJ0_isLatin1_aae02_14 (by decide) ?_
    exact hret _ _ _ hw rfl dJ0_isLatin1_aae02_18)
theorem j_recv {X : gT} {H0 : Heap} {a v : Nat} {tx : List Int32} {A : Nat → Prop} (hH : H0 = (g_s X).heap) (hF : jF a v tx A (g_s X)) {H : Heap} {locs : List Loc} (hW : gU H0 () H locs) : ∃ cellB : Cell, H[a]? = some cellB ∧ cellB.vm.isStatics = false ∧ (g_s X).vm.findClass RJ0 = some cellB.cls := by
  obtain ⟨cell, h1, h2, h3, -⟩ := hF.1
  obtain ⟨rfl, rfl⟩ := hW
  exact ⟨cell, by rw [hH]; exact h1, h2, h3⟩
theorem j_nar (x : Int32) : narrow .int (.int x) = .int x := rfl
theorem cJ_length (l : Launch) (a v : Nat) (tx : List Int32) (A : Nat → Prop) (post : Int32 → Prop) (hw : post (nI tx.length)) : gFi l wSl yJ0_length_8abf5 cJ0_length_8abf5 1 .int 1 20 [.ref a] (jF a v tx A) post :=
  gFi_of (own := RJ0) (by decide +kernel) rfl (Nat.le_of_ble_eq_true rfl) (fun X H0 Q hl hR hH C hF hret => by
    refine g_aload_n C.1 0 dJ0_length_8abf5_0 rfl rfl ?_
    refine j_val C hH hF dJ0_length_8abf5_1 ?_
    refine j_len C hH hF dJ0_length_8abf5_4 ?_
    refine g_aload_n C.1 0 dJ0_length_8abf5_5 rfl rfl ?_
    refine g_callFV (vs := []) (cls := RJ0) C (cJ_coder (g_l X) a v tx A (fun r => r = 0) rfl) (f_ws (goodIn_sub (fun w h => (List.mem_cons.mp h).elim (fun e => e ▸ wSl_at 6 rfl) id) (by decide +kernel)) (fun w h => ?_) wSl_good) (by decide +kernel) (by rw [hR]; exact ⟨Nat.le_of_ble_eq_true rfl, Nat.le_of_ble_eq_true rfl⟩) ⟨Nat.zero_le _, Nat.zero_le _⟩ jS.blind (fun H locs hW => ⟨j_recv hH hF hW, fun U hU hW' => jF.go hH hF hW hU hW'⟩) dJ0_length_8abf5_6 rfl (Nat.le_of_ble_eq_true rfl) (fun r hr => ?_)
    · simp only [List.mem_cons, List.not_mem_nil, or_false] at h
      rcases h with rfl | rfl | rfl | rfl
      · exact wSl_at 3 rfl
      · exact wSl_at 4 rfl
      · exact wSl_at 5 rfl
      · exact wSl_at 0 rfl
    · subst hr
      refine g_ishr C.1 dJ0_length_8abf5_9 ?_
      have e : nI tx.length >>> ((0 : Int32) &&& 31) = nI tx.length := by rw [show ((0 : Int32) &&& 31) = 0 by decide]; exact Int32.shiftRight_zero ..
      rw [e]
      exact hret _ _ _ hw rfl dJ0_length_8abf5_10)
theorem cJ_check3 (l : Launch) (i n : Int32) (r : Option Nat) (h0 : ¬ i < 0) (h1 : i < n) (post : Int32 → Prop) (hw : post i) : gFi l wSl yJ3_checkIndex_8e157 cJ3_checkIndex_8e157 3 .int 0 0 [.int i, .int n, va_rf r] (fun _ => True) post :=
  gFi_of (own := RJ3) (by decide +kernel) rfl (by cases r <;> exact Nat.le_of_ble_eq_true rfl) (fun X H0 Q hl hR hH C hF hret => by
    have ea : lv_args 0 [.int i, .int n, va_rf r] = [(0, .int i), (1, .int n), (2, va_rf r)] := by cases r <;> rfl
    rw [ea]
    refine g_iload_n C.1 0 dJ3_checkIndex_8e157_0 rfl rfl ?_
    refine g_if_lt (tgt := 9) C.1 dJ3_checkIndex_8e157_1 (by decide) (fun h => absurd h h0) (fun h => ?_)
    refine g_iload_n C.1 0 dJ3_checkIndex_8e157_4 rfl rfl ?_
    refine g_iload_n C.1 1 dJ3_checkIndex_8e157_5 rfl rfl ?_
    refine g_icmp_lt (tgt := 16) C.1 dJ3_checkIndex_8e157_6 (by decide) (fun h => ?_) (fun h => absurd h1 h)
    refine g_iload_n C.1 0 dJ3_checkIndex_8e157_16 rfl rfl ?_
    exact hret _ _ _ hw rfl dJ3_checkIndex_8e157_17)
theorem hdJ_c3 : yJ3_checkIndex_8e157.cls ≠ "java/lang/invoke/MethodHandle" ∧ yJ3_checkIndex_8e157.cls ≠ "java/lang/invoke/VarHandle" ∧ (parseMethodDescriptor yJ3_checkIndex_8e157.desc).map (fun d => d.parameters.length) = some 3 := by decide +kernel
theorem hdJ_c0 : yJ0_checkIndex_df160.cls ≠ "java/lang/invoke/MethodHandle" ∧ yJ0_checkIndex_df160.cls ≠ "java/lang/invoke/VarHandle" ∧ (parseMethodDescriptor yJ0_checkIndex_df160.desc).map (fun d => d.parameters.length) = some 2 := by decide +kernel
theorem hdJ_ch : yJ1_charAt_3b067.cls ≠ "java/lang/invoke/MethodHandle" ∧ yJ1_charAt_3b067.cls ≠ "java/lang/invoke/VarHandle" ∧ (parseMethodDescriptor yJ1_charAt_3b067.desc).map (fun d => d.parameters.length) = some 2 := by decide +kernel
theorem cJ_check0 (l : Launch) (a v : Nat) (tx : List Int32) (A : Nat → Prop) (i n : Int32) (h0 : ¬ i < 0) (h1 : i < n) (post : Unit → Prop) (hw : post ()) : gFv l wSl yJ0_checkIndex_df160 cJ0_checkIndex_df160 2 1 22 [.int i, .int n] (jF a v tx A) post :=
  gFv_of (own := RJ0) (by decide +kernel) rfl (Nat.le_of_ble_eq_true rfl) (fun X H0 Q hl hR hH C hF hret => by
    have hG : GoodIn wSl (va_wsS RJ0 1059 yJ3_checkIndex_8e157 (.code yJ3_checkIndex_8e157 cJ3_checkIndex_8e157 3 (some .int) :: wSl)) := by
      refine f_ws (goodIn_sub (fun w h => (List.mem_cons.mp h).elim (fun e => e ▸ wSl_at 25 rfl) id) (by decide +kernel)) (fun w h => ?_) wSl_good
      simp only [List.mem_cons, List.not_mem_nil, or_false] at h
      rcases h with rfl | rfl | rfl
      · exact wSl_at 22 rfl
      · exact wSl_at 23 rfl
      · exact wSl_at 24 rfl
    have go : ∀ r : Option Nat, gJ X (gU H0) Q 0 0 () [(0, .int i), (1, .int n)] 5 [va_rf r, .int n, .int i] := by
      intro r
      refine g_callFS (vs := [.int i, .int n, va_rf r]) C (cJ_check3 (g_l X) i n r h0 h1 (fun _ => True) trivial) hG hdJ_c3 (by rw [hR]; exact ⟨Nat.le_of_ble_eq_true rfl, Nat.le_of_ble_eq_true rfl⟩) ⟨Nat.zero_le _, Nat.zero_le _⟩ jT.blind (fun _ _ _ _ _ _ => trivial) dJ0_checkIndex_df160_5 rfl (Nat.le_of_ble_eq_true rfl) (fun r hr => ?_)
      refine g_pop C.1 dJ0_checkIndex_df160_8 rfl ?_
      exact hret _ _ hw dJ0_checkIndex_df160_9
    refine g_iload_n C.1 0 dJ0_checkIndex_df160_0 rfl rfl ?_
    refine g_iload_n C.1 1 dJ0_checkIndex_df160_1 rfl rfl ?_
    intro H locs ls hW hl
    have hW' := hW
    obtain ⟨rfl, rfl⟩ := hW
    subst hH
    rcases hF.2.2.2.2.2 with hz | ⟨t, hz⟩
    · exact va_gets C.1.1 C.1.2.1 hz va_S.rf C.2.1 (C.2.2.1 _ (wSl_at (w := .fieldLink RJ0 1053 "jdk/internal/util/Preconditions" "SIOOBE_FORMATTER" "Ljava/util/function/BiFunction;") 21 rfl)) (fun _ h => h) dJ0_checkIndex_df160_2 (go none _ _ ls hW' hl)
    · exact va_gets C.1.1 C.1.2.1 hz va_S.rf C.2.1 (C.2.2.1 _ (wSl_at (w := .fieldLink RJ0 1053 "jdk/internal/util/Preconditions" "SIOOBE_FORMATTER" "Ljava/util/function/BiFunction;") 21 rfl)) (fun _ h => h) dJ0_checkIndex_df160_2 (go (some t) _ _ ls hW' hl))
/-- the sign at a place of a text -/
def jAt (tx : List Int32) (i : Int32) : Int32 := ((tx.getD i.toNatClampNeg 0 &&& 255).toUInt32 % 65536).toInt32
theorem j_in {i : Int32} {n : Nat} (h0 : ¬ i < 0) (h1 : i < nI n) (hn : n < 2 ^ 31) : vp_in i n := by
  obtain ⟨j, hj, rfl⟩ := nI_of h0
  have h2 : j < n := by
    have := Int32.lt_iff_toInt_lt.mp h1
    rw [nI_toInt hj, nI_toInt hn] at this
    omega
  exact vp_in_nI h2 hn
theorem cJ_charAt1 (l : Launch) (a v : Nat) (tx : List Int32) (A : Nat → Prop) (i : Int32) (hn : tx.length < 2 ^ 31) (h0 : ¬ i < 0) (h1 : i < nI tx.length) (post : Int32 → Prop) (hw : post (jAt tx i)) : gFi l wSl yJ1_charAt_3b067 cJ1_charAt_3b067 2 .char 2 43 [.ref v, .int i] (jF a v tx A) post :=
  gFi_of (own := RJ1) (by decide +kernel) rfl (Nat.le_of_ble_eq_true rfl) (fun X H0 Q hl hR hH C hF hret => by
    refine g_iload_n C.1 1 dJ1_charAt_3b067_0 rfl rfl ?_
    refine g_aload_n C.1 0 dJ1_charAt_3b067_1 rfl rfl ?_
    refine j_len C hH hF dJ1_charAt_3b067_2 ?_
    refine g_callFSv (vs := [.int i, .int (nI tx.length)]) C (cJ_check0 (g_l X) a v tx A i (nI tx.length) h0 h1 (fun _ => True) trivial) (f_ws (goodIn_sub (fun w h => (List.mem_cons.mp h).elim (fun e => e ▸ wSl_at 20 rfl) id) (by decide +kernel)) (fun w h => ?_) wSl_good) hdJ_c0 (by rw [hR]; exact ⟨Nat.le_of_ble_eq_true rfl, Nat.le_of_ble_eq_true rfl⟩) ⟨Nat.zero_le _, Nat.zero_le _⟩ jS.blind (fun H locs hW U hU hW' => jF.go hH hF hW hU hW') dJ1_charAt_3b067_3 rfl (Nat.le_of_ble_eq_true rfl) (fun _ => ?_)
    · simp only [List.mem_cons, List.not_mem_nil, or_false] at h
      rcases h with rfl | rfl | rfl
      · exact wSl_at 18 rfl
      · exact wSl_at 19 rfl
      · exact wSl_at 0 rfl
    · refine g_aload_n C.1 0 dJ1_charAt_3b067_6 rfl rfl ?_
      refine g_iload_n C.1 1 dJ1_charAt_3b067_7 rfl rfl ?_
      refine j_bald C hH hF (j_in h0 h1 hn) dJ1_charAt_3b067_8 ?_
      refine g_sipush (v := 255) C.1 dJ1_charAt_3b067_9 (by decide) ?_
      refine g_iand C.1 dJ1_charAt_3b067_12 ?_
      refine g_i2c C.1 dJ1_charAt_3b067_13 ?_
      exact hret _ _ _ hw (pk_nc _) dJ1_charAt_3b067_14)
theorem cJ_charAt (l : Launch) (a v : Nat) (tx : List Int32) (A : Nat → Prop) (i : Int32) (hn : tx.length < 2 ^ 31) (h0 : ¬ i < 0) (h1 : i < nI tx.length) (post : Int32 → Prop) (hw : post (jAt tx i)) : gFi l wSl yJ0_charAt_5068e cJ0_charAt_5068e 2 .char 3 64 [.ref a, .int i] (jF a v tx A) post :=
  gFi_of (own := RJ0) (by decide +kernel) rfl (Nat.le_of_ble_eq_true rfl) (fun X H0 Q hl hR hH C hF hret => by
    refine g_aload_n C.1 0 dJ0_charAt_5068e_0 rfl rfl ?_
    refine g_callFV (vs := []) (cls := RJ0) C (cJ_isLatin1 (g_l X) a v tx A (fun r => r = 1) rfl) (f_ws (goodIn_sub (fun w h => (List.mem_cons.mp h).elim (fun e => e ▸ wSl_at 13 rfl) id) (by decide +kernel)) (fun w h => ?_) wSl_good) (by decide +kernel) (by rw [hR]; exact ⟨Nat.le_of_ble_eq_true rfl, Nat.le_of_ble_eq_true rfl⟩) ⟨Nat.zero_le _, Nat.zero_le _⟩ jS.blind (fun H locs hW => ⟨j_recv hH hF hW, fun U hU hW' => jF.go hH hF hW hU hW'⟩) dJ0_charAt_5068e_1 rfl (Nat.le_of_ble_eq_true rfl) (fun r hr => ?_)
    · simp only [List.mem_cons, List.not_mem_nil, or_false] at h
      rcases h with rfl | rfl | rfl | rfl
      · exact wSl_at 10 rfl
      · exact wSl_at 11 rfl
      · exact wSl_at 12 rfl
      · exact wSl_at 0 rfl
    · subst hr
      refine g_if_eq (tgt := 16) C.1 dJ0_charAt_5068e_4 (by decide) (fun h => absurd h (by decide)) (fun h => ?_)
      refine g_aload_n C.1 0 dJ0_charAt_5068e_7 rfl rfl ?_
      refine j_val C hH hF dJ0_charAt_5068e_8 ?_
      refine g_iload_n C.1 1 dJ0_charAt_5068e_11 rfl rfl ?_
      refine g_callFS (vs := [.ref v, .int i]) C (cJ_charAt1 (g_l X) a v tx A i hn h0 h1 (fun r => r = jAt tx i) rfl) (f_ws (goodIn_sub (fun w h => (List.mem_cons.mp h).elim (fun e => e ▸ wSl_at 17 rfl) id) (by decide +kernel)) (fun w h => ?_) wSl_good) hdJ_ch (by rw [hR]; exact ⟨Nat.le_of_ble_eq_true rfl, Nat.le_of_ble_eq_true rfl⟩) ⟨Nat.zero_le _, Nat.zero_le _⟩ jS.blind (fun H locs hW U hU hW' => jF.go hH hF hW hU hW') dJ0_charAt_5068e_12 rfl (Nat.le_of_ble_eq_true rfl) (fun r hr => ?_)
      · simp only [List.mem_cons, List.not_mem_nil, or_false] at h
        rcases h with rfl | rfl | rfl
        · exact wSl_at 14 rfl
        · exact wSl_at 15 rfl
        · exact wSl_at 16 rfl
      · subst hr
        exact hret _ _ _ hw (pk_nc _) dJ0_charAt_5068e_15)
