/-! what stands at the law's start -/
def nL : List Cond := flatC (Jvm.Cond.and given_1 narrow_1)
set_option maxRecDepth 16384 in
theorem nb {i : Nat} {w : Cond} (h : nL[i]? = some w) : w ∈ nL := List.mem_of_getElem? h
def sNm : List String := ["SkiHill$Cell", "SkiHill$Group", "SkiHill$Lift", "SkiHill$Link", "SkiHill$Slope"]
theorem cNg_tbl : ∀ w ∈ cNg, w ∈ lw_tbl ∨ w ∈ sNm.map (fun n => Cond.castable n n) := by
  have h : cNg.all (fun w => lw_tbl.contains w || (sNm.map (fun n => Cond.castable n n)).contains w) = true := by decide +kernel
  intro w hw
  have h1 := List.all_eq_true.mp h w hw
  rw [Bool.or_eq_true, List.contains_iff_mem, List.contains_iff_mem] at h1
  exact h1
theorem asg_self (vm : Vm) (c : ClassId) : vm.assignable c c = true := by
  show vm.assignableAux _ c c = true
  unfold Vm.assignableAux
  simp
theorem cast_self {s : State} {args : Array Value} {C : String} {n : Nat} (h : (Cond.instantiable C n).before args s = true) : va_Nw (.castable C C) s := by
  obtain ⟨c, k, h1, -⟩ := Cond.instantiable_spec h
  show (Cond.castable C C).before #[] s = true
  simp only [Cond.before, Cond.holds, Cond.value, h1, asg_self, beq_self_eq_true]
theorem arr_prim {s : State} {args : Array Value} {ty : FieldType} (ht : ty = .byte ∨ ty = .int ∨ ty = .long ∨ ty = .boolean) (h : (Cond.arrayClass ty).before args s = true) : ∃ cA : ClassId, ArrOfT s cA ty ∧ va_RA s cA ty := by
  obtain ⟨cA, kA, comp, h1, h2, h3⟩ := Cond.arrayClass_spec h
  exact ⟨cA, fun n z => ⟨fun k h => (by cases h), kA, h2, comp, h3⟩, by rcases ht with rfl | rfl | rfl | rfl <;> exact h1⟩
theorem arr_obj {s : State} {args : Array Value} {C : String} (h : (Cond.arrayOver (.object C)).before args s = true) : ∃ cA : ClassId, ArrOfT s cA (.object C) ∧ va_RA s cA (.object C) := by
  obtain ⟨comp, c, k, h1, h2, h3, h4, h5⟩ := Cond.arrayOver_spec h
  exact ⟨c, fun n z => ⟨fun k h => (by cases h), k, h3, comp, h4⟩, k, comp, h3, h4, h1, h5⟩
section START
variable {s : State} {args : Array Value}
theorem st_cNg (hts : ∀ w ∈ lw_tbl, w.before args s = true) : ∀ w ∈ cNg, va_Nw w s := by
  intro w hw
  rcases cNg_tbl w hw with h | h
  · exact va_Nw.of (cCd_tab (cNg_cd w hw)) (hts w h)
  · simp only [sNm, List.map_cons, List.map_nil, List.mem_cons, List.not_mem_nil, or_false] at h
    rcases h with rfl | rfl | rfl | rfl | rfl
    · exact cast_self (hts (.instantiable "SkiHill$Cell" 8) (tb_3 (i := 63) rfl))
    · exact cast_self (hts (.instantiable "SkiHill$Group" 9) (tb_4 (i := 119) rfl))
    · exact cast_self (hts (.instantiable "SkiHill$Lift" 9) (tb_2 (i := 146) rfl))
    · exact cast_self (hts (.instantiable "SkiHill$Link" 4) (tb_5 (i := 79) rfl))
    · exact cast_self (hts (.instantiable "SkiHill$Slope" 10) (tb_3 (i := 13) rfl))
theorem st_lFx (hts : ∀ w ∈ lw_tbl, w.before args s = true) (hn : ∀ w ∈ nL, w.before args s = true) : lFx s := by
  refine ⟨fun j hj => ?_, fun i j hi hj hij => ?_⟩
  · match j with
    | 0 => exact va_Nw.of (by rfl) (hts _ (tb_2 (i := 46) rfl))
    | 1 => exact va_Nw.of (by rfl) (hts _ (tb_2 (i := 114) rfl))
    | 2 => exact va_Nw.of (by rfl) (hts _ (tb_2 (i := 132) rfl))
    | 3 => exact va_Nw.of (by rfl) (hts _ (tb_4 (i := 2) rfl))
    | 4 => exact va_Nw.of (by rfl) (hts _ (tb_5 (i := 8) rfl))
    | j + 5 => omega
  · match i, j with
    | 0, 0 => exact absurd rfl hij
    | 0, 1 => exact va_Nc.of (hn _ (nb (i := 32) rfl))
    | 0, 2 => exact va_Nc.of (hn _ (nb (i := 45) rfl))
    | 0, 3 => exact va_Nc.of (hn _ (nb (i := 58) rfl))
    | 0, 4 => exact va_Nc.of (hn _ (nb (i := 71) rfl))
    | 1, 0 => exact va_Nc.of (hn _ (nb (i := 19) rfl))
    | 1, 1 => exact absurd rfl hij
    | 1, 2 => exact va_Nc.of (hn _ (nb (i := 46) rfl))
    | 1, 3 => exact va_Nc.of (hn _ (nb (i := 59) rfl))
    | 1, 4 => exact va_Nc.of (hn _ (nb (i := 72) rfl))
    | 2, 0 => exact va_Nc.of (hn _ (nb (i := 20) rfl))
    | 2, 1 => exact va_Nc.of (hn _ (nb (i := 33) rfl))
    | 2, 2 => exact absurd rfl hij
    | 2, 3 => exact va_Nc.of (hn _ (nb (i := 60) rfl))
    | 2, 4 => exact va_Nc.of (hn _ (nb (i := 73) rfl))
    | 3, 0 => exact va_Nc.of (hn _ (nb (i := 24) rfl))
    | 3, 1 => exact va_Nc.of (hn _ (nb (i := 37) rfl))
    | 3, 2 => exact va_Nc.of (hn _ (nb (i := 50) rfl))
    | 3, 3 => exact absurd rfl hij
    | 3, 4 => exact va_Nc.of (hn _ (nb (i := 77) rfl))
    | 4, 0 => exact va_Nc.of (hn _ (nb (i := 26) rfl))
    | 4, 1 => exact va_Nc.of (hn _ (nb (i := 39) rfl))
    | 4, 2 => exact va_Nc.of (hn _ (nb (i := 52) rfl))
    | 4, 3 => exact va_Nc.of (hn _ (nb (i := 65) rfl))
    | 4, 4 => exact absurd rfl hij
    | i + 5, _ => omega
    | _, j + 5 => omega
theorem st_K (hts : ∀ w ∈ lw_tbl, w.before args s = true) : ∃ D : va_G, ∀ (c : Nat) (q : vw_C), vwCl[c]? = some q → u_Kn s q.1 q.2.1 q.2.2 (D.1 c) (D.2 c) := by
  have hx : ∀ w ∈ wsJx4a65c0 ++ (wsX10 ++ (wsX20 ++ (wsX30 ++ (wsX40 ++ (wsX50 ++ (wsX60 ++ (wsX70 ++ wsX80))))))), w ∈ lw_tbl := wsX_tbl
  simp only [List.forall_mem_append] at hx
  obtain ⟨h0, h1, h2, h3, h4, h5, h6, h7, h8⟩ := hx
  have key : ∀ c : Nat, ∃ d : ClassId × (Nat → Nat), ∀ q : vw_C, vwCl[c]? = some q → u_Kn s q.1 q.2.1 q.2.2 d.1 d.2 := by
    intro c
    match c with
    | 0 => obtain ⟨a, b, h⟩ := u_known (C := RJx4a65c) (T := TJx4a65c) (N := 3) (n := 3) hts h0 (hts (.instantiable "java/util/ArrayList" 3) (tb_1 (i := 40) rfl)); exact ⟨(a, b), fun q hq => by cases hq; exact h⟩
    | 1 => obtain ⟨a, b, h⟩ := u_known (C := RX1) (T := TX1) (N := 8) (n := 8) hts h1 (hts (.instantiable "SkiHill$Cell" 8) (tb_3 (i := 63) rfl)); exact ⟨(a, b), fun q hq => by cases hq; exact h⟩
    | 2 => obtain ⟨a, b, h⟩ := u_known (C := RX2) (T := TX2) (N := 9) (n := 9) hts h2 (hts (.instantiable "SkiHill$Group" 9) (tb_4 (i := 119) rfl)); exact ⟨(a, b), fun q hq => by cases hq; exact h⟩
    | 3 => obtain ⟨a, b, h⟩ := u_known (C := RX3) (T := TX3) (N := 9) (n := 9) hts h3 (hts (.instantiable "SkiHill$Lift" 9) (tb_2 (i := 146) rfl)); exact ⟨(a, b), fun q hq => by cases hq; exact h⟩
    | 4 => obtain ⟨a, b, h⟩ := u_known (C := RX4) (T := TX4) (N := 4) (n := 4) hts h4 (hts (.instantiable "SkiHill$Link" 4) (tb_5 (i := 79) rfl)); exact ⟨(a, b), fun q hq => by cases hq; exact h⟩
    | 5 => obtain ⟨a, b, h⟩ := u_known (C := RX5) (T := TX5) (N := 12) (n := 12) hts h5 (hts (.instantiable "SkiHill$RuleReader" 12) (tb_1 (i := 66) rfl)); exact ⟨(a, b), fun q hq => by cases hq; exact h⟩
    | 6 => obtain ⟨a, b, h⟩ := u_known (C := RX6) (T := TX6) (N := 10) (n := 10) hts h6 (hts (.instantiable "SkiHill$Slope" 10) (tb_3 (i := 13) rfl)); exact ⟨(a, b), fun q hq => by cases hq; exact h⟩
    | 7 => obtain ⟨a, b, h⟩ := u_known (C := RX7) (T := TX7) (N := 16) (n := 16) hts h7 (hts (.instantiable "SkiHill" 16) (tb_1 (i := 32) rfl)); exact ⟨(a, b), fun q hq => by cases hq; exact h⟩
    | 8 => obtain ⟨a, b, h⟩ := u_known (C := RX8) (T := TX8) (N := 49) (n := 49) hts h8 (hts (.instantiable "SkiHillModel" 49) (tb_5 (i := 132) rfl)); exact ⟨(a, b), fun q hq => by cases hq; exact h⟩
    | c + 9 => exact ⟨(Classical.choice (⟨(u_known (C := RX7) (T := TX7) (N := 16) (n := 16) hts h7 (hts (.instantiable "SkiHill" 16) (tb_1 (i := 32) rfl))).choose⟩), fun _ => 0), fun q hq => by cases hq⟩
  obtain ⟨d, hd⟩ := Classical.axiomOfChoice key
  exact ⟨(fun c => (d c).1, fun c => (d c).2), hd⟩
theorem st_one {own tx : String} {k n : Nat} {bs : List Int32} {A : Nat → Prop} (hts : ∀ w ∈ lw_tbl, w.before args s = true) (hn : ∀ w ∈ nL, w.before args s = true) (hA : ∀ a : Nat, a < s.heap.size → ¬ A a) (hb : bs.length = n) (h10 : n < 10)
    (p1 : Cond.exactly (.string own k) "java/lang/String" ∈ nL) (p2 : Cond.eq (.field (.string own k) "java/lang/String" "coder" "B") (.int 0) ∈ nL) (p3 : Cond.arrayOf (.field (.string own k) "java/lang/String" "value" "[B") .byte ∈ nL) (p4 : Cond.eq (.length (.field (.string own k) "java/lang/String" "value" "[B")) (.int (Int32.ofNat n)) ∈ nL)
    (p5 : ∀ j : Nat, j < n → Cond.eq (.elem (.field (.string own k) "java/lang/String" "value" "[B") (.int (Int32.ofNat j))) (.int (bs.getD j 0)) ∈ nL) (p6 : Cond.stringRef own k tx ∈ lw_tbl) : ∃ q : Nat × Nat, jS q.1 q.2 bs A s s.heap ∧ vk_R own k tx q.1 s := by
  obtain ⟨aK, aV, hS, hev⟩ := vk_Sof (args := args) (s := s) (N := 1) (tm := fun _ => .string own k) (len := [n]) (byt := [bs]) (A := A) (fun i hi => by rw [Nat.lt_one_iff.mp hi]; exact Nat.lt_trans h10 (by decide)) (fun i hi => hn _ p1) (fun i hi => hn _ p2) (fun i hi => hn _ p3) (fun i hi => by rw [Nat.lt_one_iff.mp hi]; exact hn _ p4)
    (fun i hi j hj => by rw [Nat.lt_one_iff.mp hi] at hj ⊢; exact hn _ (p5 j hj)) (fun i j hi hj hij => absurd (by omega) hij) hA
  have hz : va_Z "java/lang/String" "COMPACT_STRINGS" "Z" (.int 1) A s s.heap := va_Zof (hts (.laysStatic "java/lang/String" "COMPACT_STRINGS" "Z") (tb_3 (i := 146) rfl)) (hts (.initialized "java/lang/String") (tb_1 (i := 22) rfl)) (va_eqt (hn (.eq (.static "java/lang/String" "COMPACT_STRINGS" "Z") (.int 1)) (nb (i := 10) rfl))) hA
  have hq : va_Zq "jdk/internal/util/Preconditions" "SIOOBE_FORMATTER" "Ljava/util/function/BiFunction;" A s s.heap := va_Zqof (hts (.laysStatic "jdk/internal/util/Preconditions" "SIOOBE_FORMATTER" "Ljava/util/function/BiFunction;") (tb_3 (i := 162) rfl)) (hts (.initialized "jdk/internal/util/Preconditions") (tb_1 (i := 21) rfl)) (hn (.isRef (.static "jdk/internal/util/Preconditions" "SIOOBE_FORMATTER" "Ljava/util/function/BiFunction;")) (nb (i := 11) rfl)) hA
  have q := hS.1 0 (by decide)
  exact ⟨(aK 0, aV 0), ⟨q.1, q.2.1, q.2.2.1, by rw [hb]; exact q.2.2.2, hz, hq⟩, vk_R.of (hts _ p6) (hev 0 (by decide))⟩
theorem st_strC {A : Nat → Prop} (hts : ∀ w ∈ lw_tbl, w.before args s = true) (hn : ∀ w ∈ nL, w.before args s = true) (hA : ∀ a : Nat, a < s.heap.size → ¬ A a) : ∃ aK aV : Nat → Nat, (∀ i : Nat, i < 9 → jS (aK i) (aV i) (ctb.getD i []) A s s.heap) ∧ ∀ i : Nat, i < 9 → vk_R RX5 (cti i) (ctx i) (aK i) s := by
  have key : ∀ i : Nat, ∃ q : Nat × Nat, i < 9 → jS q.1 q.2 (ctb.getD i []) A s s.heap ∧ vk_R RX5 (cti i) (ctx i) q.1 s := by
    intro i
    match i with
    | 0 =>
      obtain ⟨q, h⟩ := st_one (own := RX5) (k := cti 0) (tx := ctx 0) (n := 4) (bs := ctb.getD 0 []) hts hn hA rfl (by decide) (nb (i := 81) rfl) (nb (i := 82) rfl) (nb (i := 83) rfl) (nb (i := 84) rfl) (fun j hj => by
        match j with
        | 0 => exact (nb (i := 85) rfl)
        | 1 => exact (nb (i := 86) rfl)
        | 2 => exact (nb (i := 87) rfl)
        | 3 => exact (nb (i := 88) rfl)
        | j + 4 => omega) (tb_3 (i := 132) rfl)
      exact ⟨q, fun _ => h⟩
    | 1 =>
      obtain ⟨q, h⟩ := st_one (own := RX5) (k := cti 1) (tx := ctx 1) (n := 4) (bs := ctb.getD 1 []) hts hn hA rfl (by decide) (nb (i := 89) rfl) (nb (i := 90) rfl) (nb (i := 91) rfl) (nb (i := 92) rfl) (fun j hj => by
        match j with
        | 0 => exact (nb (i := 93) rfl)
        | 1 => exact (nb (i := 94) rfl)
        | 2 => exact (nb (i := 95) rfl)
        | 3 => exact (nb (i := 96) rfl)
        | j + 4 => omega) (tb_3 (i := 183) rfl)
      exact ⟨q, fun _ => h⟩
    | 2 =>
      obtain ⟨q, h⟩ := st_one (own := RX5) (k := cti 2) (tx := ctx 2) (n := 4) (bs := ctb.getD 2 []) hts hn hA rfl (by decide) (nb (i := 98) rfl) (nb (i := 99) rfl) (nb (i := 100) rfl) (nb (i := 101) rfl) (fun j hj => by
        match j with
        | 0 => exact (nb (i := 102) rfl)
        | 1 => exact (nb (i := 103) rfl)
        | 2 => exact (nb (i := 104) rfl)
        | 3 => exact (nb (i := 105) rfl)
        | j + 4 => omega) (tb_3 (i := 184) rfl)
      exact ⟨q, fun _ => h⟩
    | 3 =>
      obtain ⟨q, h⟩ := st_one (own := RX5) (k := cti 3) (tx := ctx 3) (n := 4) (bs := ctb.getD 3 []) hts hn hA rfl (by decide) (nb (i := 108) rfl) (nb (i := 109) rfl) (nb (i := 110) rfl) (nb (i := 111) rfl) (fun j hj => by
        match j with
        | 0 => exact (nb (i := 112) rfl)
        | 1 => exact (nb (i := 113) rfl)
        | 2 => exact (nb (i := 114) rfl)
        | 3 => exact (nb (i := 115) rfl)
        | j + 4 => omega) (tb_3 (i := 185) rfl)
      exact ⟨q, fun _ => h⟩
    | 4 =>
      obtain ⟨q, h⟩ := st_one (own := RX5) (k := cti 4) (tx := ctx 4) (n := 4) (bs := ctb.getD 4 []) hts hn hA rfl (by decide) (nb (i := 119) rfl) (nb (i := 120) rfl) (nb (i := 121) rfl) (nb (i := 122) rfl) (fun j hj => by
        match j with
        | 0 => exact (nb (i := 123) rfl)
        | 1 => exact (nb (i := 124) rfl)
        | 2 => exact (nb (i := 125) rfl)
        | 3 => exact (nb (i := 126) rfl)
        | j + 4 => omega) (tb_3 (i := 186) rfl)
      exact ⟨q, fun _ => h⟩
    | 5 =>
      obtain ⟨q, h⟩ := st_one (own := RX5) (k := cti 5) (tx := ctx 5) (n := 4) (bs := ctb.getD 5 []) hts hn hA rfl (by decide) (nb (i := 131) rfl) (nb (i := 132) rfl) (nb (i := 133) rfl) (nb (i := 134) rfl) (fun j hj => by
        match j with
        | 0 => exact (nb (i := 135) rfl)
        | 1 => exact (nb (i := 136) rfl)
        | 2 => exact (nb (i := 137) rfl)
        | 3 => exact (nb (i := 138) rfl)
        | j + 4 => omega) (tb_3 (i := 187) rfl)
      exact ⟨q, fun _ => h⟩
    | 6 =>
      obtain ⟨q, h⟩ := st_one (own := RX5) (k := cti 6) (tx := ctx 6) (n := 3) (bs := ctb.getD 6 []) hts hn hA rfl (by decide) (nb (i := 144) rfl) (nb (i := 145) rfl) (nb (i := 146) rfl) (nb (i := 147) rfl) (fun j hj => by
        match j with
        | 0 => exact (nb (i := 148) rfl)
        | 1 => exact (nb (i := 149) rfl)
        | 2 => exact (nb (i := 150) rfl)
        | j + 3 => omega) (tb_3 (i := 188) rfl)
      exact ⟨q, fun _ => h⟩
    | 7 =>
      obtain ⟨q, h⟩ := st_one (own := RX5) (k := cti 7) (tx := ctx 7) (n := 3) (bs := ctb.getD 7 []) hts hn hA rfl (by decide) (nb (i := 157) rfl) (nb (i := 158) rfl) (nb (i := 159) rfl) (nb (i := 160) rfl) (fun j hj => by
        match j with
        | 0 => exact (nb (i := 161) rfl)
        | 1 => exact (nb (i := 162) rfl)
        | 2 => exact (nb (i := 163) rfl)
        | j + 3 => omega) (tb_3 (i := 189) rfl)
      exact ⟨q, fun _ => h⟩
    | 8 =>
      obtain ⟨q, h⟩ := st_one (own := RX5) (k := cti 8) (tx := ctx 8) (n := 2) (bs := ctb.getD 8 []) hts hn hA rfl (by decide) (nb (i := 171) rfl) (nb (i := 172) rfl) (nb (i := 173) rfl) (nb (i := 174) rfl) (fun j hj => by
        match j with
        | 0 => exact (nb (i := 175) rfl)
        | 1 => exact (nb (i := 176) rfl)
        | j + 2 => omega) (tb_3 (i := 190) rfl)
      exact ⟨q, fun _ => h⟩
    | i + 9 => exact ⟨(0, 0), fun h => by omega⟩
  obtain ⟨q, hq⟩ := Classical.axiomOfChoice key
  exact ⟨fun i => (q i).1, fun i => (q i).2, fun i hi => (hq i hi).1, fun i hi => (hq i hi).2⟩
theorem st_strR {A : Nat → Prop} (hts : ∀ w ∈ lw_tbl, w.before args s = true) (hn : ∀ w ∈ nL, w.before args s = true) (hA : ∀ a : Nat, a < s.heap.size → ¬ A a) : ∃ aK aV : Nat → Nat, (∀ i : Nat, i < 9 → jS (aK i) (aV i) (rtb.getD i []) A s s.heap) ∧ ∀ i : Nat, i < 9 → vk_R RX8 (rti i) (rtx i) (aK i) s := by
  have key : ∀ i : Nat, ∃ q : Nat × Nat, i < 9 → jS q.1 q.2 (rtb.getD i []) A s s.heap ∧ vk_R RX8 (rti i) (rtx i) q.1 s := by
    intro i
    match i with
    | 0 =>
      obtain ⟨q, h⟩ := st_one (own := RX8) (k := rti 0) (tx := rtx 0) (n := 2) (bs := rtb.getD 0 []) hts hn hA rfl (by decide) (nb (i := 185) rfl) (nb (i := 186) rfl) (nb (i := 187) rfl) (nb (i := 188) rfl) (fun j hj => by
        match j with
        | 0 => exact (nb (i := 189) rfl)
        | 1 => exact (nb (i := 190) rfl)
        | j + 2 => omega) (tb_6 (i := 97) rfl)
      exact ⟨q, fun _ => h⟩
    | 1 =>
      obtain ⟨q, h⟩ := st_one (own := RX8) (k := rti 1) (tx := rtx 1) (n := 3) (bs := rtb.getD 1 []) hts hn hA rfl (by decide) (nb (i := 200) rfl) (nb (i := 201) rfl) (nb (i := 202) rfl) (nb (i := 203) rfl) (fun j hj => by
        match j with
        | 0 => exact (nb (i := 204) rfl)
        | 1 => exact (nb (i := 205) rfl)
        | 2 => exact (nb (i := 206) rfl)
        | j + 3 => omega) (tb_6 (i := 98) rfl)
      exact ⟨q, fun _ => h⟩
    | 2 =>
      obtain ⟨q, h⟩ := st_one (own := RX8) (k := rti 2) (tx := rtx 2) (n := 3) (bs := rtb.getD 2 []) hts hn hA rfl (by decide) (nb (i := 217) rfl) (nb (i := 218) rfl) (nb (i := 219) rfl) (nb (i := 220) rfl) (fun j hj => by
        match j with
        | 0 => exact (nb (i := 221) rfl)
        | 1 => exact (nb (i := 222) rfl)
        | 2 => exact (nb (i := 223) rfl)
        | j + 3 => omega) (tb_6 (i := 99) rfl)
      exact ⟨q, fun _ => h⟩
    | 3 =>
      obtain ⟨q, h⟩ := st_one (own := RX8) (k := rti 3) (tx := rtx 3) (n := 4) (bs := rtb.getD 3 []) hts hn hA rfl (by decide) (nb (i := 235) rfl) (nb (i := 236) rfl) (nb (i := 237) rfl) (nb (i := 238) rfl) (fun j hj => by
        match j with
        | 0 => exact (nb (i := 239) rfl)
        | 1 => exact (nb (i := 240) rfl)
        | 2 => exact (nb (i := 241) rfl)
        | 3 => exact (nb (i := 242) rfl)
        | j + 4 => omega) (tb_6 (i := 100) rfl)
      exact ⟨q, fun _ => h⟩
    | 4 =>
      obtain ⟨q, h⟩ := st_one (own := RX8) (k := rti 4) (tx := rtx 4) (n := 4) (bs := rtb.getD 4 []) hts hn hA rfl (by decide) (nb (i := 255) rfl) (nb (i := 256) rfl) (nb (i := 257) rfl) (nb (i := 258) rfl) (fun j hj => by
        match j with
        | 0 => exact (nb (i := 259) rfl)
        | 1 => exact (nb (i := 260) rfl)
        | 2 => exact (nb (i := 261) rfl)
        | 3 => exact (nb (i := 262) rfl)
        | j + 4 => omega) (tb_6 (i := 101) rfl)
      exact ⟨q, fun _ => h⟩
    | 5 =>
      obtain ⟨q, h⟩ := st_one (own := RX8) (k := rti 5) (tx := rtx 5) (n := 4) (bs := rtb.getD 5 []) hts hn hA rfl (by decide) (nb (i := 276) rfl) (nb (i := 277) rfl) (nb (i := 278) rfl) (nb (i := 279) rfl) (fun j hj => by
        match j with
        | 0 => exact (nb (i := 280) rfl)
        | 1 => exact (nb (i := 281) rfl)
        | 2 => exact (nb (i := 282) rfl)
        | 3 => exact (nb (i := 283) rfl)
        | j + 4 => omega) (tb_6 (i := 102) rfl)
      exact ⟨q, fun _ => h⟩
    | 6 =>
      obtain ⟨q, h⟩ := st_one (own := RX8) (k := rti 6) (tx := rtx 6) (n := 4) (bs := rtb.getD 6 []) hts hn hA rfl (by decide) (nb (i := 298) rfl) (nb (i := 299) rfl) (nb (i := 300) rfl) (nb (i := 301) rfl) (fun j hj => by
        match j with
        | 0 => exact (nb (i := 302) rfl)
        | 1 => exact (nb (i := 303) rfl)
        | 2 => exact (nb (i := 304) rfl)
        | 3 => exact (nb (i := 305) rfl)
        | j + 4 => omega) (tb_6 (i := 103) rfl)
      exact ⟨q, fun _ => h⟩
    | 7 =>
      obtain ⟨q, h⟩ := st_one (own := RX8) (k := rti 7) (tx := rtx 7) (n := 4) (bs := rtb.getD 7 []) hts hn hA rfl (by decide) (nb (i := 321) rfl) (nb (i := 322) rfl) (nb (i := 323) rfl) (nb (i := 324) rfl) (fun j hj => by
        match j with
        | 0 => exact (nb (i := 325) rfl)
        | 1 => exact (nb (i := 326) rfl)
        | 2 => exact (nb (i := 327) rfl)
        | 3 => exact (nb (i := 328) rfl)
        | j + 4 => omega) (tb_6 (i := 104) rfl)
      exact ⟨q, fun _ => h⟩
    | 8 =>
      obtain ⟨q, h⟩ := st_one (own := RX8) (k := rti 8) (tx := rtx 8) (n := 4) (bs := rtb.getD 8 []) hts hn hA rfl (by decide) (nb (i := 345) rfl) (nb (i := 346) rfl) (nb (i := 347) rfl) (nb (i := 348) rfl) (fun j hj => by
        match j with
        | 0 => exact (nb (i := 349) rfl)
        | 1 => exact (nb (i := 350) rfl)
        | 2 => exact (nb (i := 351) rfl)
        | 3 => exact (nb (i := 352) rfl)
        | j + 4 => omega) (tb_6 (i := 105) rfl)
      exact ⟨q, fun _ => h⟩
    | i + 9 => exact ⟨(0, 0), fun h => by omega⟩
  obtain ⟨q, hq⟩ := Classical.axiomOfChoice key
  exact ⟨fun i => (q i).1, fun i => (q i).2, fun i hi => (hq i hi).1, fun i hi => (hq i hi).2⟩
end START
theorem st_facts {s : State} {args : Array Value} {A : Nat → Prop} (hA : ∀ a : Nat, a < s.heap.size → ¬ A a) (hts : ∀ w ∈ lw_tbl, w.before args s = true) (hn : ∀ w ∈ nL, w.before args s = true) :
    ∃ (D : va_G) (cB cI cO cJ cZ : ClassId) (aC vC aR vR : Nat → Nat) (z : Nat × Nat), va_K D vwCl [(cB, .byte), (cI, .int), (cO, .object "java/lang/Object")] s ∧ va_K D vwCl [(cB, .byte), (cI, .int), (cJ, .long), (cZ, .boolean)] s ∧
      cFx (D, (cB, cI, cO), aC, vC, z) A s s.heap ∧ (∀ g : (ClassId × ClassId × ClassId × ClassId) × (Nat → Nat), rTx (D, g.1, g.2, aR, vR) A s s.heap) ∧ lFx s := by
  obtain ⟨D, hD⟩ := st_K hts
  obtain ⟨cB, b1, b2⟩ := arr_prim (Or.inl rfl) (hts (.arrayClass .byte) (tb_1 (i := 111) rfl))
  obtain ⟨cI, i1, i2⟩ := arr_prim (Or.inr (Or.inl rfl)) (hts (.arrayClass .int) (tb_1 (i := 110) rfl))
  obtain ⟨cJ, j1, j2⟩ := arr_prim (Or.inr (Or.inr (Or.inl rfl))) (hts (.arrayClass .long) (tb_6 (i := 46) rfl))
  obtain ⟨cZ, z1, z2⟩ := arr_prim (Or.inr (Or.inr (Or.inr rfl))) (hts (.arrayClass .boolean) (tb_6 (i := 45) rfl))
  have hao : (Cond.arrayOver (.object "java/lang/Object")).before args s = true := hts _ (tb_2 (i := 237) rfl)
  obtain ⟨cO, o1, o2⟩ := arr_obj hao
  obtain ⟨aC, vC, hC, hCr⟩ := st_strC (A := A) hts hn hA
  obtain ⟨aR, vR, hR, hRr⟩ := st_strR (A := A) hts hn hA
  obtain ⟨t, ht, hT⟩ := va_Tof (args := args) (s := s) (tm := .static "java/util/ArrayList" "DEFAULTCAPACITY_EMPTY_ELEMENTDATA" "[Ljava/lang/Object;") (ty := .object "java/lang/Object") (N := 0) (f := fun _ => .null) (A := A) (by decide) (hn _ (nb (i := 5) rfl)) (va_eqt (hn (.eq (.length (.static "java/util/ArrayList" "DEFAULTCAPACITY_EMPTY_ELEMENTDATA" "[Ljava/lang/Object;")) (.int 0)) (nb (i := 7) rfl))) (fun j hj => absurd hj (Nat.not_lt_zero j)) hA
  obtain ⟨mi, hmi⟩ := va_Mi.of (hn (.isRef (.mirror "[Ljava/lang/Object;")) (nb (i := 80) rfl))
  refine ⟨D, cB, cI, cO, cJ, cZ, aC, vC, aR, vR, (t, mi), ⟨hD, ?_⟩, ⟨hD, ?_⟩, ⟨hC, hCr, ⟨va_Zof (hts (.laysStatic "java/util/ArrayList" "DEFAULTCAPACITY_EMPTY_ELEMENTDATA" "[Ljava/lang/Object;") (tb_1 (i := 52) rfl)) (hts (.initialized "java/util/ArrayList") (tb_1 (i := 4) rfl)) ht hA, hT⟩,
    ⟨vx_Zqof (hts (.laysStatic Bundle.tN "UNASSIGNED_STACK" Bundle.steD) (tb_2 (i := 71) rfl)) (hts (.initialized Bundle.tN) (tb_1 (i := 7) rfl)) (hn (.isRef (.static Bundle.tN "UNASSIGNED_STACK" Bundle.steD)) (nb (i := 8) rfl)) hA, vx_Zqof (hts (.laysStatic Bundle.tN "SUPPRESSED_SENTINEL" Bundle.listD) (tb_2 (i := 73) rfl)) (hts (.initialized Bundle.tN) (tb_1 (i := 7) rfl)) (hn (.isRef (.static Bundle.tN "SUPPRESSED_SENTINEL" Bundle.listD)) (nb (i := 9) rfl)) hA⟩,
    st_cNg hts, va_AO.of hao, hmi⟩, fun g => ⟨hR, hRr⟩, st_lFx hts hn⟩
  · intro k q hq
    match k with
    | 0 => cases hq; exact ⟨b1, b2⟩
    | 1 => cases hq; exact ⟨i1, i2⟩
    | 2 => cases hq; exact ⟨o1, o2⟩
    | k + 3 => cases hq
  · intro k q hq
    match k with
    | 0 => cases hq; exact ⟨b1, b2⟩
    | 1 => cases hq; exact ⟨i1, i2⟩
    | 2 => cases hq; exact ⟨j1, j2⟩
    | 3 => cases hq; exact ⟨z1, z2⟩
    | k + 4 => cases hq
