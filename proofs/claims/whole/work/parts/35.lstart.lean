/-! the law's first steps: SkiHill(), SkiHillModel(), the row of one long -/
def c_0 (z : Nat × Nat) : CSt := cmk [] (fun _ => 0) (fun _ _ => 0) (fun _ _ => none) (fun _ _ => 0) (fun _ => 0) (fun _ _ => 0) (fun _ _ => none) z
abbrev fd8 : List Value := ifs [] 0 0
section LPRO
variable {tys : List (ClassId × FieldType)} {X : gT} {Q : State → Prop} {k n : Nat} {σ : CSt} {w : va_W} {lv : List (Nat × Value)} {pc : Nat} {rest st0 : List Value} {cc : ByteArray} {nL : Nat} {G : cG} {A : Nat → Prop} {H0 : Heap}
theorem e_new7 {idx : Nat} (C : eC X cc nL G tys A) (hsz : H0 = (g_s X).heap) (hl : Cond.classLink RL idx RX7 ∈ wL) (hins : Cond.instantiable RX7 16 ∈ wL) (hini : Cond.initialized RX7 ∈ wL) (hcells : k + 1 ≤ (g_R X).cells) (hslots : n + 16 ≤ (g_R X).slots) (hdg : decode cc pc = .ok (.new idx, 3)) (kk : ∀ q : Nat, q ∉ cL σ → gJ X (eWd G (fun w : va_W => w) A H0) Q (k + 1) (n + 16) (csO σ q 7, []) lv (pc + 3) (.ref q :: rest)) : gJ X (eWd G (fun w : va_W => w) A H0) Q k n (σ, []) lv (pc) (rest) := by
  intro H locs ls hW hl'
  have hW' : cWs G σ ++ ([] : va_W) = cWs G σ := List.append_nil _
  refine va_new (D := G.1) (cl := vwCl) (ws := cWs G σ) (tys := cKt G) (ci := 7) (fs := [.null, .null, .null, .null, .null, .null, .null, .int 0, .int 0, .int 0, .int 0, .int 0, .long 0, .long 0, .long 0, .long 0]) (C := RX7) (T := TX7) (N := 16) C.1.1 C.1.2.1 C.2.2.1 (fun w h => kL_C w (kC_X7 w h)) tyX7 tyX7_ok C.2.1 (C.2.2.1 _ hl) (C.2.2.1 _ hins) (C.2.2.1 _ hini) C.2.2.2.1 (hW' ▸ hW.1) (hW' ▸ hW.2.1) hW.2.2.1 (fun q hq => C.2.2.2.2.1 q (hsz ▸ hq)) rfl (fun j hj => by rcases (show j = 0 ∨ j = 1 ∨ j = 2 ∨ j = 3 ∨ j = 4 ∨ j = 5 ∨ j = 6 ∨ j = 7 ∨ j = 8 ∨ j = 9 ∨ j = 10 ∨ j = 11 ∨ j = 12 ∨ j = 13 ∨ j = 14 ∨ j = 15 by omega) with rfl | rfl | rfl | rfl | rfl | rfl | rfl | rfl | rfl | rfl | rfl | rfl | rfl | rfl | rfl | rfl <;> rfl) hcells hslots hdg (fun q H1 hP hD hS => ?_)
  have hq : q ∉ cL σ := va_pl_fresh2 (X := []) hD
  have e := c_push (G := G) (τ := csO σ q 7) (e := .inr (7, [.null, .null, .null, .null, .null, .null, .null, .int 0, .int 0, .int 0, .int 0, .int 0, .long 0, .long 0, .long 0, .long 0])) hq rfl ((cEl_7 (σ := csO σ q 7) (va_up_self _ _ _)).trans (by simp [cf7, csO, cmk, cI, cR, cJ, va_rf])) (fun b hb => csO_o hb)
  exact kk q hq H1 locs ls ⟨(List.append_nil (cWs G (csO σ q 7))).symm ▸ (e ▸ hP), (List.append_nil (cWs G (csO σ q 7))).symm ▸ (e ▸ hD), hS, hW.2.2.2⟩ hl'
theorem e_new8 {idx : Nat} (C : eC X cc nL G tys A) (hsz : H0 = (g_s X).heap) (hl : Cond.classLink RL idx RX8 ∈ wL) (hins : Cond.instantiable RX8 49 ∈ wL) (hini : Cond.initialized RX8 ∈ wL) (hcells : k + 1 ≤ (g_R X).cells) (hslots : n + 49 ≤ (g_R X).slots) (hdg : decode cc pc = .ok (.new idx, 3)) (kk : ∀ q : Nat, gJ X (eWd G (fun w : va_W => w) A H0) Q (k + 1) (n + 49) (σ, i_w0 q) lv (pc + 3) (.ref q :: rest)) : gJ X (eWd G (fun w : va_W => w) A H0) Q k n (σ, []) lv (pc) (rest) := by
  intro H locs ls hW hl'
  have hW' : cWs G σ ++ ([] : va_W) = cWs G σ := List.append_nil _
  refine va_new (D := G.1) (cl := vwCl) (ws := cWs G σ) (tys := cKt G) (ci := 8) (fs := fd8) (C := RX8) (T := TX8) (N := 49) C.1.1 C.1.2.1 C.2.2.1 (fun w h => kL_R w (kR_X w h)) tyX8 tyX8_ok C.2.1 (C.2.2.1 _ hl) (C.2.2.1 _ hins) (C.2.2.1 _ hini) C.2.2.2.1 (hW' ▸ hW.1) (hW' ▸ hW.2.1) hW.2.2.1 (fun q hq => C.2.2.2.2.1 q (hsz ▸ hq)) rfl (fun j hj => ?_) hcells hslots hdg (fun q H1 hP hD hS => kk q H1 locs ls ⟨hP, hD, hS, hW.2.2.2⟩ hl')
  have key : ∀ j : Fin 49, defaultValue (tyX8 j) = vp_V fd8 j := by decide
  exact key ⟨j, hj⟩
theorem e_init8 {h idx : Nat} {D4 : ClassId × ClassId × ClassId × ClassId} {adK adV : Nat → Nat} (C : eC X cc nL G (iKt (G.1, D4)) A) (hsz : H0 = (g_s X).heap) (k0 : Cond.initialized yX8_init.cls ∈ wL) (k1 : Cond.methodLink RL idx yX8_init ∈ wL) (k2 : Cond.instanceMethod yX8_init ∈ wL) (k4 : Cond.code yX8_init cX8_init 1 none ∈ wL) (hR : 2 ≤ (g_R X).frames ∧ 8 + (1 + 11) + 12 ≤ (g_R X).locals) (hkn : k + 31 ≤ (g_R X).cells ∧ n + 14677 ≤ (g_R X).slots) (hdg : decode cc pc = .ok (.invokespecial idx, 3)) (hst : (rest.map fun v => v.category).sum ≤ 8)
    (kk : ∀ as : List Nat, as.length = 31 → gJ X (eWd G (fun w : va_W => w) A H0) Q (k + 31) (n + 14677) (σ, rws (iG (G.1, D4) h as adK adV) r_1) lv (pc + 3) rest) : gJ X (eWd G (fun w : va_W => w) A H0) Q k n (σ, i_w0 h) lv pc (.ref h :: rest) := by
  intro H locs ls hW hl
  have hAin : ∀ q, va_A (i_w0 h) H.size q → A q := by
    intro q hq
    rcases hq with ⟨j, e, hj⟩ | hq
    · exact hW.2.1.rigl.2 j _ hj
    · exact C.2.2.2.2.1 q (Nat.le_trans (by rw [← hsz]; exact hW.2.2.1.1) hq)
  refine va_callv (va_runI (As := []) (rest := rest) ⟨C.1.1, C.1.2.1, C.1.2.2.2, C.2.1, C.2.2.1⟩ (cR_init (g_l X) (G.1, D4) h H.size adK adV) (cwI 0 C.2.2.1 (fun w hw => (List.mem_cons.mp hw).elim (fun e => by rw [e]; exact kL_good _ k4) (fun h => kL_good w (kL_R w h))) rfl rfl rfl (C.2.2.1 _ k0) (C.2.2.1 _ k1) (C.2.2.1 _ k2) rfl (by decide +kernel) hR)
    ⟨fun a U g mk q => by obtain ⟨q0, q1, qP, qK, qD⟩ := q; exact ⟨q0, q1, qP, va_K.moved (u := U) (U := U.calling g mk a) (Vm.Alike.refl U.vm) qK, qD⟩, fun U hU hW' => ⟨rfl, by rw [hU], by rw [hU]; exact hW.1.rigl, va_K.moved hW'.alike C.2.2.2.2.2.2.1, hW.2.1.rigl.weaken (fun _ _ _ _ => trivial)⟩⟩ rfl rfl (hl.1.trans C.1.2.2.1) rfl (lv_room hst) hdg hkn) hW.2.2.1 (fun q _ h => hAin q h) hAin (fun as t H1 locs1 ht hvm has hB hz1 hk1 hS => ?_)
  have hm := e_mid (a := cWs G σ) (b := i_w0 h) (c := []) (b' := rws (iG (G.1, D4) h as adK adV) r_1) (A' := va_A (i_w0 h) H.size) (H := H) (H1 := H1) (by rw [List.append_nil]; exact hW.1) (by rw [List.append_nil]; exact hW.2.1) (ht ▸ hB.1) hB.2.2 (fun q hq => hq.elim (fun ⟨j, e, hj⟩ => Or.inl ⟨j, _, hj, rfl⟩) Or.inr) hk1 (fun q hq => C.2.2.2.2.1 q (Nat.le_trans (by rw [← hsz]; exact hW.2.2.1.1) hq))
  rw [List.append_nil] at hm
  exact kk as has H1 locs1 ls ⟨hm.1, hm.2, hS, hW.2.2.2⟩ hl
theorem e_newl {lc : ClassId} {p0 : Nat} (C : eC X cc nL G tys A) (hsz : H0 = (g_s X).heap) (hlc : tys[p0]? = some (lc, .long)) (hw : Cond.arrayClass (newarray.typeOf .long) ∈ wL) (hcells : k + 1 ≤ (g_R X).cells) (hslots : n + 1 ≤ (g_R X).slots) (hdg : decode cc pc = .ok (.newarray .long, 2)) (kk : ∀ q : Nat, gJ X (eWd G (fun w : va_W => w) A H0) Q (k + 1) (n + 1) (σ, w ++ oC lc q (fun _ => 0)) lv (pc + 2) (.ref q :: rest)) : gJ X (eWd G (fun w : va_W => w) A H0) Q k n (σ, w) lv pc (.int 1 :: rest) := by
  intro H locs ls hW hl
  refine va_newa (D := G.1) (cl := vwCl) (ws := cWs G σ ++ w) (tys := tys) (atype := .long) (ty := .long) (N' := 1) (a0 := (1, .inr (.inl (fun _ => 0)))) C.1.1 C.1.2.1 (C.2.2.1 _ hw) rfl C.2.2.2.2.2.2.1 hW.1 hW.2.1 hW.2.2.1 (fun q hq => C.2.2.2.2.1 q (hsz ▸ hq)) (fun _ => rfl) (by decide) (by decide) (by decide) hcells hslots hdg (fun q cA H1 hK hP hD hS => ?_)
  have h1 := (hK.2 tys.length (cA, .long) (by rw [List.getElem?_append_right (Nat.le_refl _), Nat.sub_self]; rfl)).2
  have h2 := (C.2.2.2.2.2.2.1.2 p0 _ hlc).2
  have e : cA = lc := Option.some.inj ((show (g_s X).vm.findClass _ = some cA from h1).symm.trans h2)
  subst e
  exact kk q H1 locs ls ⟨(List.append_assoc _ _ _) ▸ hP, (List.append_assoc _ _ _) ▸ hD, hS, hW.2.2.2⟩ hl
end LPRO
/-! THE CLAIM OUT OF ONE WALK OF THE LAW'S BODY. Your part is whole_start (and what it stands on); all else here is the same for every law, but numbers. -/
def R_law : String := "SkiHillLaw"
def lw_P (b : Addr) (xs : List Int32) (args : Array Value) (s : State) : Prop := args = #[.ref b] ∧ s.IntsAt b xs ∧ xs.length ≤ 3072 ∧ (Jvm.Cond.and given_1 narrow_1).before args s = true
def lw_Q (_ : Array Value) (s : State) (o : Outcome) (t : State) : Prop := o = .returned (some (.int 1)) ∧ Framed s o t [] room_1.cells room_1.slots
def lw_Z (below : List Frame) (a : Array Value) (s : State) : State → Prop := fun t => ∃ o, t.status = .running ∧ Ended t below o ∧ lw_Q a s o t
/-- the law's own end, with 1 on the stack, nothing written that was there before, its room as the claim has it -/
theorem lw_ret {p : Program} {l : Launch} {e : Env} {s : State} {m : MethodId} {below : List Frame} {meth : Method} {c : Code} {b : Nat} (hx : p.tables.exec = Jvm.exec) (hb : c.code = code) (hr : meth.sig.returnType = ret) (hlocks : meth.locks = false) {pc : Nat} {H : Heap} {ls : Array Slot} (hdg : decode code pc = .ok (.ireturn, 1)) : W p l e room_1 s m #[Value.ref b] below meth c H [] room_1.cells room_1.slots (lw_Z below #[Value.ref b] s) (F0 m pc ls [.int 1]) := by
  intro T hT X
  obtain ⟨fs, hret, hrun, hended, hW, hframe⟩ := X.leave (v := some (.int 1)) (hlocks := hlocks) (fun h => by rw [hr] at h; cases h)
  have hmeth' : T.vm.method? m = some meth := X.method'
  refine ⟨T.setFrames fs, ?_, .returned (some (.int 1)), hrun, hended, rfl, ⟨_, rfl⟩, hW, hframe⟩
  jvm_step X.here [X.here.top, hx, hb, hdg, hmeth', hr, ret, narrow_b1]
  (try refine ⟨rfl, ?_⟩); (try refine ⟨rfl, ?_⟩)
  first | (intro acts; rw [hret _ acts rfl rfl rfl]) | rw [hret _ _ rfl rfl rfl]
  exact Steps.refl _
/-- what holds at the law's entry: the machine, the code, the tables' words (any of lw_tbl by 'hts w (by decide +kernel)'), the script of L ints xs at the cell b, what the Statement gives of the start (any of its parts by flat_of_before) -/
def lw_At (p : Program) (s : State) (m : MethodId) (meth : Method) (c : Code) (b L : Nat) (xs : Nat → Int32) : Prop :=
  p.tables.exec = Jvm.exec ∧ c.code = code ∧ meth.sig.returnType = ret ∧ c.maxLocals = 8 ∧ s.vm.findClass R_law = some m.cls ∧ (∀ w ∈ lw_tbl, w.before #[Value.ref b] s = true) ∧ va_X b L xs s s.heap ∧ b < s.heap.size ∧ meth.locks = false ∧ (Jvm.Cond.and given_1 narrow_1).before #[Value.ref b] s = true
/-- what is left of the claim, of no machine: every script of at most 3072 ints is answered alike -/
def PURE : Prop := ∀ mc ms : Nat, 100000 ≤ mc → 4000000 ≤ ms → ∀ (z : Nat × Nat) (x L : Nat) (xs : Nat → Int32), L ≤ 3072 → wpC_X7_init_0 (fun τ => wpW_law_23 mc ms L xs (fun r _ => r = 1) (τ, (r_1, fun _ => 0)) 43 15970 x 0) (csO (c_0 z) x 7) x
theorem whole_of (hpure : PURE) {p : Program} {e : Env} {s : State} {m : MethodId} {below : List Frame} {meth : Method} {c : Code} (l : Launch) (hflags : l.flags = flags0) {b L : Nat} {xs : Nat → Int32} (hL : L ≤ 3072) (C0 : lw_At p s m meth c b L xs) : W p l e room_1 s m #[Value.ref b] below meth c s.heap [] 0 0 (lw_Z below #[Value.ref b] s) (entryFrame m ([Value.ref b] : List Value).toArray 8) := by
  obtain ⟨hx, hb, hr, hml, hown, hts, hX, hbl, hlocks, hgv⟩ := id C0
  have hfl : l.stackTraces = false := by unfold Launch.stackTraces; rw [hflags]; decide +kernel
  have hA : ∀ a : Nat, a < s.heap.size → ¬ (fun q : Nat => s.heap.size ≤ q) a := fun a h => Nat.not_le.mpr h
  have hn : ∀ w ∈ nL, w.before #[Value.ref b] s = true := flat_of_before _ hgv
  obtain ⟨D, cB, cI, cO, cJ, cZ, aC, vC, aR, vR, z, hK1, hK2, hF, hT, hLx⟩ := st_facts hA hts hn
  have hl := lv_entry ([.ref b]) (n := 8) (Nat.le_of_ble_eq_true rfl)
  rw [lg_entry_eq]
  have E : eC (p, l, e, room_1, s, m, #[Value.ref b], below, meth, c, 8) cL_law 8 (D, (cB, cI, cO), aC, vC, z) (iKt (D, (cB, cI, cJ, cZ))) (fun q : Nat => s.heap.size ≤ q) := ⟨⟨hx, hb, rfl, hml⟩, hown, fun w hw => hts w (wL_tbl w hw), hK1, fun q hq => hq, hF, hK2, hLx⟩
  refine (?_ : gJ (p, l, e, room_1, s, m, #[Value.ref b], below, meth, c, 8) (eWd (D, (cB, cI, cO), aC, vC, z) (fun w : va_W => w) (fun q : Nat => s.heap.size ≤ q) s.heap) (lw_Z below #[Value.ref b] s) 0 0 (c_0 z, []) [(0, .ref b)] 0 []) s.heap [] _ ⟨fun k q h => (by cases h), ⟨fun i j p q h => (by cases h), fun k q h => (by cases h)⟩, va_S.rf, rfl⟩ hl
  refine e_new7 E rfl kL_85 kL_86 (kL_C _ kC_412) (Nat.le_of_ble_eq_true rfl) (Nat.le_of_ble_eq_true rfl) dL_law_0 (fun x hx7 => ?_)
  refine g_dup E.1 dL_law_3 rfl ?_
  refine e_callIv (vs := []) E rfl (cC_X7_init l _ _ _ _ (hpure room_1.cells room_1.slots (by decide) (by decide) z x L xs hL)) (kL_C _ kC_412) kL_89 kL_90 (kL_C _ kC_406) rfl hdC_X7_init ⟨Nat.le_of_ble_eq_true rfl, Nat.le_of_ble_eq_true rfl⟩ ⟨Nat.le_of_ble_eq_true rfl, Nat.le_of_ble_eq_true rfl⟩ dL_law_4 rfl (Nat.le_of_ble_eq_true rfl) (fun τ hw => ?_)
  refine g_astore_n (lv' := [(1, .ref x), (0, .ref b)]) E.1 dL_law_7 rfl (by decide) rfl ?_
  refine e_new8 E rfl kL_87 kL_88 (kL_R _ kR_47) (Nat.le_of_ble_eq_true rfl) (Nat.le_of_ble_eq_true rfl) dL_law_8 (fun h => ?_)
  refine g_dup E.1 dL_law_11 rfl ?_
  refine e_init8 (adK := aR) (adV := vR) E rfl (kL_R _ kR_47) kL_91 kL_92 (kL_R _ kR_39) ⟨Nat.le_of_ble_eq_true rfl, Nat.le_of_ble_eq_true rfl⟩ ⟨Nat.le_of_ble_eq_true rfl, Nat.le_of_ble_eq_true rfl⟩ dL_law_12 (Nat.le_of_ble_eq_true rfl) (fun as has => ?_)
  refine g_astore_n (lv' := [(2, .ref h), (1, .ref x), (0, .ref b)]) E.1 dL_law_15 rfl (by decide) rfl ?_
  refine g_iconst (v := 1) E.1 dL_law_16 (by decide) ?_
  refine e_newl (lc := cJ) (p0 := 2) E rfl rfl (kL_R _ kR_25) (Nat.le_of_ble_eq_true rfl) (Nat.le_of_ble_eq_true rfl) dL_law_17 (fun oa => ?_)
  refine g_astore_n (lv' := [(3, .ref oa), (2, .ref h), (1, .ref x), (0, .ref b)]) E.1 dL_law_19 rfl (by decide) rfl ?_
  refine g_iconst (v := 0) E.1 dL_law_20 (by decide) ?_
  refine g_istore (lv' := [(4, .int 0), (3, .ref oa), (2, .ref h), (1, .ref x), (0, .ref b)]) E.1 dL_law_21 (by decide) rfl ?_
  refine gJ.sub [4, 3, 2, 1, 0] rfl ?_
  refine gJ.widen (k' := 43) (n' := 15970) (by decide) (by decide) ?_
  have E2 : lC (p, l, e, room_1, s, m, #[Value.ref b], below, meth, c, 8) cL_law 8 (D, (cB, cI, cO), aC, vC, z) (iG (D, (cB, cI, cJ, cZ)) h as aR vR).2 (fun q : Nat => s.heap.size ≤ q) b L xs := ⟨E, hT ((cB, cI, cJ, cZ), fun k => (h :: as).getD (i_p k) 0), hX, hbl, Nat.not_le.mpr hbl⟩
  have K := wkW_law_23 (oa := oa) (post := fun r _ => r = 1) (mc := room_1.cells) (ms := room_1.slots) (Q := lw_Z below #[Value.ref b] s) hfl E2 rfl ⟨Nat.le_of_ble_eq_true rfl, Nat.le_of_ble_eq_true rfl, Nat.le_refl _, Nat.le_refl _⟩ (fun r τ lv pc hpost _ hdg => by
    subst hpost
    intro H locs ls hW hl
    exact va_forget (fun q hq => hW.2.2.1.2.2 q hq) (lw_ret hx hb hr hlocks hdg)) (τ, (r_1, fun _ => 0)) 43 15970 x 0 ⟨by decide, by decide⟩ hw
  exact fun H locs ls hW hl => K H locs ls hW hl
