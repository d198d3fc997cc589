def wpR_opens_111 (post : RSt → Prop) (K25 : RSt → Int32 → Prop) (K35 : RSt → Int32 → Int32 → Prop) (s : RSt) (v1 : Int32) (v2 : Int32) : Prop := K35 s v1 (v2 + 1)
def wpR_opens_103 (post : RSt → Prop) (K25 : RSt → Int32 → Prop) (K35 : RSt → Int32 → Int32 → Prop) (s : RSt) (v1 : Int32) (v2 : Int32) (w1 : Int32) (w2 : Int32) : Prop := vp_in w1 10 ∧ ∀ s1 : RSt, s1 = rsA s 40 w1.toNatClampNeg (vp_nar .boolean w2) → vp_in v2 10 ∧ ∀ s2 : RSt, s2 = rsA s1 39 v2.toNatClampNeg (vp_nar .boolean 1) → wpR_opens_111 post K25 K35 s2 v1 v2
def wpR_opens_98 (post : RSt → Prop) (K25 : RSt → Int32 → Prop) (K35 : RSt → Int32 → Int32 → Prop) (s : RSt) (v1 : Int32) (v2 : Int32) (w1 : Int32) : Prop := wpR_opens_103 post K25 K35 s v1 v2 w1 1
def wpR_opens_76 (post : RSt → Prop) (K25 : RSt → Int32 → Prop) (K35 : RSt → Int32 → Int32 → Prop) (s : RSt) (v1 : Int32) (v2 : Int32) : Prop := vp_in v2 10 ∧ ((s.2.1 18 v2.toNatClampNeg) = 0 → wpR_opens_98 post K25 K35 s v1 v2 v2) ∧ (¬ (s.2.1 18 v2.toNatClampNeg) = 0 → wpR_holds_0 (fun r5 s4 => (r5 = 0 → wpR_opens_103 post K25 K35 s4 v1 v2 v2 0) ∧ (¬ r5 = 0 → wpR_opens_98 post K25 K35 s4 v1 v2 v2)) s v2)
def wpR_opens_35_F (post : RSt → Prop) (K25 : RSt → Int32 → Prop) (K35 : RSt → Int32 → Int32 → Prop) (s : RSt) (v1 : Int32) (v2 : Int32) : Prop := ((s.1 9) ≤ v2 → K25 s (v1 + 1)) ∧ (¬ (s.1 9) ≤ v2 → vp_in v2 10 ∧ (¬ (s.2.1 39 v2.toNatClampNeg) = 0 → wpR_opens_111 post K25 K35 s v1 v2) ∧ ((s.2.1 39 v2.toNatClampNeg) = 0 → vp_in v2 10 ∧ ((s.2.1 18 v2.toNatClampNeg) = 0 → wpR_opens_76 post K25 K35 s v1 v2) ∧ (¬ (s.2.1 18 v2.toNatClampNeg) = 0 → wpR_names_0 (fun r11 s10 => wpR_areKnown_0 (fun r13 s12 => (¬ r13 = 0 → wpR_opens_76 post K25 K35 s12 v1 v2) ∧ (r13 = 0 → wpR_opens_111 post K25 K35 s12 v1 v2)) s10 r11) s v2)))
def wpR_opens_35 (post : RSt → Prop) (K25 : RSt → Int32 → Prop) (s : RSt) (v1 : Int32) (v2 : Int32) : Prop := gLP (fun (K : RSt × Int32 × Int32 → Prop) (x : RSt × Int32 × Int32) => wpR_opens_35_F post K25 (fun s v1 v2 => K (s, v1, v2)) x.1 x.2.1 x.2.2) (s, v1, v2)
def wpR_opens_25_F (post : RSt → Prop) (K25 : RSt → Int32 → Prop) (s : RSt) (v1 : Int32) : Prop := ((s.1 9) ≤ v1 → post s) ∧ (¬ (s.1 9) ≤ v1 → wpR_opens_35 post K25 s v1 0)
def wpR_opens_25 (post : RSt → Prop) (s : RSt) (v1 : Int32) : Prop := gLP (fun (K : RSt × Int32 → Prop) (x : RSt × Int32) => wpR_opens_25_F post (fun s v1 => K (s, v1)) x.1 x.2) (s, v1)
def wpR_opens_2_F (post : RSt → Prop) (K2 : RSt → Int32 → Prop) (s : RSt) (v1 : Int32) : Prop := ((s.1 9) ≤ v1 → wpR_opens_25 post s 0) ∧ (¬ (s.1 9) ≤ v1 → vp_in v1 10 ∧ ∀ s17 : RSt, s17 = rsA s 39 v1.toNatClampNeg (vp_nar .boolean 0) → K2 s17 (v1 + 1))
def wpR_opens_2 (post : RSt → Prop) (s : RSt) (v1 : Int32) : Prop := gLP (fun (K : RSt × Int32 → Prop) (x : RSt × Int32) => wpR_opens_2_F post (fun s v1 => K (s, v1)) x.1 x.2) (s, v1)
def wpR_opens_0 (post : RSt → Prop) (s : RSt) : Prop := wpR_opens_2 post s 0
theorem wkR_opens_111 {X : gT} {G : rG} {A : Nat → Prop} {H0 : Heap} {Q : State → Prop} (C : rC X cX8_opens 3 G A) (hsz : H0 = (g_s X).heap) (hR : 3 ≤ (g_R X).frames ∧ 71 ≤ (g_R X).locals) {post : RSt → Prop} (hret : ∀ (τ : RSt) (lv : List (Nat × Value)) (pc : Nat), post τ → decode cX8_opens pc = .ok (.return_, 1) → gJ X (rWd G A H0) Q 0 0 τ lv pc []) {K25 : RSt → Int32 → Prop} {K35 : RSt → Int32 → Int32 → Prop} (hK25 : ∀ (s : RSt) (v1 : Int32), K25 s v1 → gJ X (rWd G A H0) Q 0 0 s [(0, .ref (G.2.2.1 0)), (1, .int v1)] 25 []) (hK35 : ∀ (s : RSt) (v1 : Int32) (v2 : Int32), K35 s v1 v2 → gJ X (rWd G A H0) Q 0 0 s [(0, .ref (G.2.2.1 0)), (1, .int v1), (2, .int v2)] 35 []) (s : RSt) (v1 : Int32) (v2 : Int32) (hw : wpR_opens_111 post K25 K35 s v1 v2) : gJ X (rWd G A H0) Q 0 0 s [(0, .ref (G.2.2.1 0)), (1, .int v1), (2, .int v2)] 111 [] := by
  refine g_iinc (v := v2 + 1) (lv' := [(2, .int (v2 + 1)), (0, .ref (G.2.2.1 0)), (1, .int v1)]) C.1 2 dX8_opens_111 rfl rfl (by decide) rfl ?_
  refine g_goto (tgt := 35) C.1 dX8_opens_114 (by decide) ?_
  refine gJ.sub [1, 2, 0] rfl ?_
  exact hK35 _ _ _ hw
theorem wkR_opens_103 {X : gT} {G : rG} {A : Nat → Prop} {H0 : Heap} {Q : State → Prop} (C : rC X cX8_opens 3 G A) (hsz : H0 = (g_s X).heap) (hR : 3 ≤ (g_R X).frames ∧ 71 ≤ (g_R X).locals) {post : RSt → Prop} (hret : ∀ (τ : RSt) (lv : List (Nat × Value)) (pc : Nat), post τ → decode cX8_opens pc = .ok (.return_, 1) → gJ X (rWd G A H0) Q 0 0 τ lv pc []) {K25 : RSt → Int32 → Prop} {K35 : RSt → Int32 → Int32 → Prop} (hK25 : ∀ (s : RSt) (v1 : Int32), K25 s v1 → gJ X (rWd G A H0) Q 0 0 s [(0, .ref (G.2.2.1 0)), (1, .int v1)] 25 []) (hK35 : ∀ (s : RSt) (v1 : Int32) (v2 : Int32), K35 s v1 v2 → gJ X (rWd G A H0) Q 0 0 s [(0, .ref (G.2.2.1 0)), (1, .int v1), (2, .int v2)] 35 []) (s : RSt) (v1 : Int32) (v2 : Int32) (w1 : Int32) (w2 : Int32) (hw : wpR_opens_103 post K25 K35 s v1 v2 w1 w2) : gJ X (rWd G A H0) Q 0 0 s [(0, .ref (G.2.2.1 0)), (1, .int v1), (2, .int v2)] 103 [.int w2, .int w1, .ref (G.2.2.1 40)] := by
  refine r_st40 C hw.1 dX8_opens_103 ?_
  replace hw := hw.2
  refine gJ.nm (fun s1 es1 => ?_)
  replace hw := hw s1 es1
  refine g_aload_n C.1 0 dX8_opens_104 rfl rfl ?_
  refine r_g39 C dX8_opens_105 ?_
  refine g_iload_n C.1 2 dX8_opens_108 rfl rfl ?_
  refine g_iconst (v := 1) C.1 dX8_opens_109 (by decide) ?_
  refine r_st39 C hw.1 dX8_opens_110 ?_
  replace hw := hw.2
  refine gJ.nm (fun s2 es2 => ?_)
  replace hw := hw s2 es2
  exact wkR_opens_111 C hsz hR hret hK25 hK35 _ _ _ hw
theorem wkR_opens_98 {X : gT} {G : rG} {A : Nat → Prop} {H0 : Heap} {Q : State → Prop} (C : rC X cX8_opens 3 G A) (hsz : H0 = (g_s X).heap) (hR : 3 ≤ (g_R X).frames ∧ 71 ≤ (g_R X).locals) {post : RSt → Prop} (hret : ∀ (τ : RSt) (lv : List (Nat × Value)) (pc : Nat), post τ → decode cX8_opens pc = .ok (.return_, 1) → gJ X (rWd G A H0) Q 0 0 τ lv pc []) {K25 : RSt → Int32 → Prop} {K35 : RSt → Int32 → Int32 → Prop} (hK25 : ∀ (s : RSt) (v1 : Int32), K25 s v1 → gJ X (rWd G A H0) Q 0 0 s [(0, .ref (G.2.2.1 0)), (1, .int v1)] 25 []) (hK35 : ∀ (s : RSt) (v1 : Int32) (v2 : Int32), K35 s v1 v2 → gJ X (rWd G A H0) Q 0 0 s [(0, .ref (G.2.2.1 0)), (1, .int v1), (2, .int v2)] 35 []) (s : RSt) (v1 : Int32) (v2 : Int32) (w1 : Int32) (hw : wpR_opens_98 post K25 K35 s v1 v2 w1) : gJ X (rWd G A H0) Q 0 0 s [(0, .ref (G.2.2.1 0)), (1, .int v1), (2, .int v2)] 98 [.int w1, .ref (G.2.2.1 40)] := by
  refine g_iconst (v := 1) C.1 dX8_opens_98 (by decide) ?_
  refine g_goto (tgt := 103) C.1 dX8_opens_99 (by decide) ?_
  exact wkR_opens_103 C hsz hR hret hK25 hK35 _ _ _ _ _ hw
theorem wkR_opens_76 {X : gT} {G : rG} {A : Nat → Prop} {H0 : Heap} {Q : State → Prop} (C : rC X cX8_opens 3 G A) (hsz : H0 = (g_s X).heap) (hR : 3 ≤ (g_R X).frames ∧ 71 ≤ (g_R X).locals) {post : RSt → Prop} (hret : ∀ (τ : RSt) (lv : List (Nat × Value)) (pc : Nat), post τ → decode cX8_opens pc = .ok (.return_, 1) → gJ X (rWd G A H0) Q 0 0 τ lv pc []) {K25 : RSt → Int32 → Prop} {K35 : RSt → Int32 → Int32 → Prop} (hK25 : ∀ (s : RSt) (v1 : Int32), K25 s v1 → gJ X (rWd G A H0) Q 0 0 s [(0, .ref (G.2.2.1 0)), (1, .int v1)] 25 []) (hK35 : ∀ (s : RSt) (v1 : Int32) (v2 : Int32), K35 s v1 v2 → gJ X (rWd G A H0) Q 0 0 s [(0, .ref (G.2.2.1 0)), (1, .int v1), (2, .int v2)] 35 []) (s : RSt) (v1 : Int32) (v2 : Int32) (hw : wpR_opens_76 post K25 K35 s v1 v2) : gJ X (rWd G A H0) Q 0 0 s [(0, .ref (G.2.2.1 0)), (1, .int v1), (2, .int v2)] 76 [] := by
  refine g_aload_n C.1 0 dX8_opens_76 rfl rfl ?_
  refine r_g40 C dX8_opens_77 ?_
  refine g_iload_n C.1 2 dX8_opens_80 rfl rfl ?_
  refine g_aload_n C.1 0 dX8_opens_81 rfl rfl ?_
  refine r_g18 C dX8_opens_82 ?_
  refine g_iload_n C.1 2 dX8_opens_85 rfl rfl ?_
  refine r_ld18 C hw.1 dX8_opens_86 ?_
  replace hw := hw.2
  refine g_if_eq (tgt := 98) C.1 dX8_opens_87 (by decide) (fun h3 => ?_) (fun h3 => ?_)
  · replace hw := hw.1 h3
    exact wkR_opens_98 C hsz hR hret hK25 hK35 _ _ _ _ hw
  · replace hw := hw.2 h3
    refine g_aload_n C.1 0 dX8_opens_90 rfl rfl ?_
    refine g_iload_n C.1 2 dX8_opens_91 rfl rfl ?_
    refine r_calli C hsz (cR_holds (g_l X) G s _ _ hw) kR_213 kR_214 kR_215 kR_208 hdR_holds ⟨Nat.le_trans (Nat.le_of_ble_eq_true rfl) hR.1, Nat.le_trans (Nat.le_of_ble_eq_true rfl) hR.2⟩ dX8_opens_92 rfl (Nat.le_of_ble_eq_true rfl) (fun r5 s4 hw => ?_)
    refine g_if_eq (tgt := 102) C.1 dX8_opens_95 (by decide) (fun h6 => ?_) (fun h6 => ?_)
    · replace hw := hw.1 h6
      refine g_iconst (v := 0) C.1 dX8_opens_102 (by decide) ?_
      exact wkR_opens_103 C hsz hR hret hK25 hK35 _ _ _ _ _ hw
    · replace hw := hw.2 h6
      exact wkR_opens_98 C hsz hR hret hK25 hK35 _ _ _ _ hw
theorem wkR_opens_35_F {X : gT} {G : rG} {A : Nat → Prop} {H0 : Heap} {Q : State → Prop} (C : rC X cX8_opens 3 G A) (hsz : H0 = (g_s X).heap) (hR : 3 ≤ (g_R X).frames ∧ 71 ≤ (g_R X).locals) {post : RSt → Prop} (hret : ∀ (τ : RSt) (lv : List (Nat × Value)) (pc : Nat), post τ → decode cX8_opens pc = .ok (.return_, 1) → gJ X (rWd G A H0) Q 0 0 τ lv pc []) {K25 : RSt → Int32 → Prop} {K35 : RSt → Int32 → Int32 → Prop} (hK25 : ∀ (s : RSt) (v1 : Int32), K25 s v1 → gJ X (rWd G A H0) Q 0 0 s [(0, .ref (G.2.2.1 0)), (1, .int v1)] 25 []) (hK35 : ∀ (s : RSt) (v1 : Int32) (v2 : Int32), K35 s v1 v2 → gJ X (rWd G A H0) Q 0 0 s [(0, .ref (G.2.2.1 0)), (1, .int v1), (2, .int v2)] 35 []) (s : RSt) (v1 : Int32) (v2 : Int32) (hw : wpR_opens_35_F post K25 K35 s v1 v2) : gJ X (rWd G A H0) Q 0 0 s [(0, .ref (G.2.2.1 0)), (1, .int v1), (2, .int v2)] 35 [] := by
  refine g_iload_n C.1 2 dX8_opens_35 rfl rfl ?_
  refine g_aload_n C.1 0 dX8_opens_36 rfl rfl ?_
  refine r_g9 C dX8_opens_37 ?_
  refine g_icmp_ge (tgt := 117) C.1 dX8_opens_40 (by decide) (fun h7 => ?_) (fun h7 => ?_)
  · replace hw := hw.1 h7
    refine g_iinc (v := v1 + 1) (lv' := [(1, .int (v1 + 1)), (0, .ref (G.2.2.1 0)), (2, .int v2)]) C.1 1 dX8_opens_117 rfl rfl (by decide) rfl ?_
    refine g_goto (tgt := 25) C.1 dX8_opens_120 (by decide) ?_
    refine gJ.sub [1, 0] rfl ?_
    exact hK25 _ _ hw
  · replace hw := hw.2 h7
    refine g_aload_n C.1 0 dX8_opens_43 rfl rfl ?_
    refine r_g39 C dX8_opens_44 ?_
    refine g_iload_n C.1 2 dX8_opens_47 rfl rfl ?_
    refine r_ld39 C hw.1 dX8_opens_48 ?_
    replace hw := hw.2
    refine g_if_ne (tgt := 111) C.1 dX8_opens_49 (by decide) (fun h8 => ?_) (fun h8 => ?_)
    · replace hw := hw.1 h8
      exact wkR_opens_111 C hsz hR hret hK25 hK35 _ _ _ hw
    · replace hw := hw.2 h8
      refine g_aload_n C.1 0 dX8_opens_52 rfl rfl ?_
      refine r_g18 C dX8_opens_53 ?_
      refine g_iload_n C.1 2 dX8_opens_56 rfl rfl ?_
      refine r_ld18 C hw.1 dX8_opens_57 ?_
      replace hw := hw.2
      refine g_if_eq (tgt := 76) C.1 dX8_opens_58 (by decide) (fun h9 => ?_) (fun h9 => ?_)
      · replace hw := hw.1 h9
        exact wkR_opens_76 C hsz hR hret hK25 hK35 _ _ _ hw
      · replace hw := hw.2 h9
        refine g_aload_n C.1 0 dX8_opens_61 rfl rfl ?_
        refine g_aload_n C.1 0 dX8_opens_62 rfl rfl ?_
        refine g_iload_n C.1 2 dX8_opens_63 rfl rfl ?_
        refine r_calli C hsz (cR_names (g_l X) G s _ _ hw) kR_175 kR_176 kR_177 kR_174 hdR_names ⟨Nat.le_trans (Nat.le_of_ble_eq_true rfl) hR.1, Nat.le_trans (Nat.le_of_ble_eq_true rfl) hR.2⟩ dX8_opens_64 rfl (Nat.le_of_ble_eq_true rfl) (fun r11 s10 hw => ?_)
        refine r_calli C hsz (cR_areKnown (g_l X) G s10 _ _ hw) kR_210 kR_211 kR_212 kR_209 hdR_areKnown ⟨Nat.le_trans (Nat.le_of_ble_eq_true rfl) hR.1, Nat.le_trans (Nat.le_of_ble_eq_true rfl) hR.2⟩ dX8_opens_67 rfl (Nat.le_of_ble_eq_true rfl) (fun r13 s12 hw => ?_)
        refine g_if_ne (tgt := 76) C.1 dX8_opens_70 (by decide) (fun h14 => ?_) (fun h14 => ?_)
        · replace hw := hw.1 h14
          exact wkR_opens_76 C hsz hR hret hK25 hK35 _ _ _ hw
        · replace hw := hw.2 h14
          refine g_goto (tgt := 111) C.1 dX8_opens_73 (by decide) ?_
          exact wkR_opens_111 C hsz hR hret hK25 hK35 _ _ _ hw
theorem wkR_opens_35 {X : gT} {G : rG} {A : Nat → Prop} {H0 : Heap} {Q : State → Prop} (C : rC X cX8_opens 3 G A) (hsz : H0 = (g_s X).heap) (hR : 3 ≤ (g_R X).frames ∧ 71 ≤ (g_R X).locals) {post : RSt → Prop} (hret : ∀ (τ : RSt) (lv : List (Nat × Value)) (pc : Nat), post τ → decode cX8_opens pc = .ok (.return_, 1) → gJ X (rWd G A H0) Q 0 0 τ lv pc []) {K25 : RSt → Int32 → Prop} (hK25 : ∀ (s : RSt) (v1 : Int32), K25 s v1 → gJ X (rWd G A H0) Q 0 0 s [(0, .ref (G.2.2.1 0)), (1, .int v1)] 25 []) (s : RSt) (v1 : Int32) (v2 : Int32) (hw : wpR_opens_35 post K25 s v1 v2) : gJ X (rWd G A H0) Q 0 0 s [(0, .ref (G.2.2.1 0)), (1, .int v1), (2, .int v2)] 35 [] := 
  hw (fun (x : RSt × Int32 × Int32) => (fun s v1 v2 => gJ X (rWd G A H0) Q 0 0 s [(0, .ref (G.2.2.1 0)), (1, .int v1), (2, .int v2)] 35 []) x.1 x.2.1 x.2.2) (fun x hx => wkR_opens_35_F C hsz hR hret hK25 (K35 := (fun s v1 v2 => gJ X (rWd G A H0) Q 0 0 s [(0, .ref (G.2.2.1 0)), (1, .int v1), (2, .int v2)] 35 [])) (fun _ _ _ h => h) x.1 x.2.1 x.2.2 hx)
theorem wkR_opens_25_F {X : gT} {G : rG} {A : Nat → Prop} {H0 : Heap} {Q : State → Prop} (C : rC X cX8_opens 3 G A) (hsz : H0 = (g_s X).heap) (hR : 3 ≤ (g_R X).frames ∧ 71 ≤ (g_R X).locals) {post : RSt → Prop} (hret : ∀ (τ : RSt) (lv : List (Nat × Value)) (pc : Nat), post τ → decode cX8_opens pc = .ok (.return_, 1) → gJ X (rWd G A H0) Q 0 0 τ lv pc []) {K25 : RSt → Int32 → Prop} (hK25 : ∀ (s : RSt) (v1 : Int32), K25 s v1 → gJ X (rWd G A H0) Q 0 0 s [(0, .ref (G.2.2.1 0)), (1, .int v1)] 25 []) (s : RSt) (v1 : Int32) (hw : wpR_opens_25_F post K25 s v1) : gJ X (rWd G A H0) Q 0 0 s [(0, .ref (G.2.2.1 0)), (1, .int v1)] 25 [] := by
  refine g_iload_n C.1 1 dX8_opens_25 rfl rfl ?_
  refine g_aload_n C.1 0 dX8_opens_26 rfl rfl ?_
  refine r_g9 C dX8_opens_27 ?_
  refine g_icmp_ge (tgt := 123) C.1 dX8_opens_30 (by decide) (fun h15 => ?_) (fun h15 => ?_)
  · replace hw := hw.1 h15
    exact hret _ _ _ hw dX8_opens_123
  · replace hw := hw.2 h15
    refine g_iconst (v := 0) C.1 dX8_opens_33 (by decide) ?_
    refine g_istore_n (lv' := [(2, .int 0), (0, .ref (G.2.2.1 0)), (1, .int v1)]) C.1 dX8_opens_34 rfl (by decide) rfl ?_
    refine gJ.sub [1, 2, 0] rfl ?_
    exact wkR_opens_35 C hsz hR hret hK25 _ _ _ hw
theorem wkR_opens_25 {X : gT} {G : rG} {A : Nat → Prop} {H0 : Heap} {Q : State → Prop} (C : rC X cX8_opens 3 G A) (hsz : H0 = (g_s X).heap) (hR : 3 ≤ (g_R X).frames ∧ 71 ≤ (g_R X).locals) {post : RSt → Prop} (hret : ∀ (τ : RSt) (lv : List (Nat × Value)) (pc : Nat), post τ → decode cX8_opens pc = .ok (.return_, 1) → gJ X (rWd G A H0) Q 0 0 τ lv pc []) (s : RSt) (v1 : Int32) (hw : wpR_opens_25 post s v1) : gJ X (rWd G A H0) Q 0 0 s [(0, .ref (G.2.2.1 0)), (1, .int v1)] 25 [] := 
  hw (fun (x : RSt × Int32) => (fun s v1 => gJ X (rWd G A H0) Q 0 0 s [(0, .ref (G.2.2.1 0)), (1, .int v1)] 25 []) x.1 x.2) (fun x hx => wkR_opens_25_F C hsz hR hret (K25 := (fun s v1 => gJ X (rWd G A H0) Q 0 0 s [(0, .ref (G.2.2.1 0)), (1, .int v1)] 25 [])) (fun _ _ h => h) x.1 x.2 hx)
theorem wkR_opens_2_F {X : gT} {G : rG} {A : Nat → Prop} {H0 : Heap} {Q : State → Prop} (C : rC X cX8_opens 3 G A) (hsz : H0 = (g_s X).heap) (hR : 3 ≤ (g_R X).frames ∧ 71 ≤ (g_R X).locals) {post : RSt → Prop} (hret : ∀ (τ : RSt) (lv : List (Nat × Value)) (pc : Nat), post τ → decode cX8_opens pc = .ok (.return_, 1) → gJ X (rWd G A H0) Q 0 0 τ lv pc []) {K2 : RSt → Int32 → Prop} (hK2 : ∀ (s : RSt) (v1 : Int32), K2 s v1 → gJ X (rWd G A H0) Q 0 0 s [(0, .ref (G.2.2.1 0)), (1, .int v1)] 2 []) (s : RSt) (v1 : Int32) (hw : wpR_opens_2_F post K2 s v1) : gJ X (rWd G A H0) Q 0 0 s [(0, .ref (G.2.2.1 0)), (1, .int v1)] 2 [] := by
  refine g_iload_n C.1 1 dX8_opens_2 rfl rfl ?_
  refine g_aload_n C.1 0 dX8_opens_3 rfl rfl ?_
  refine r_g9 C dX8_opens_4 ?_
  refine g_icmp_ge (tgt := 23) C.1 dX8_opens_7 (by decide) (fun h16 => ?_) (fun h16 => ?_)
  · replace hw := hw.1 h16
    refine g_iconst (v := 0) C.1 dX8_opens_23 (by decide) ?_
    refine g_istore_n (lv' := [(1, .int 0), (0, .ref (G.2.2.1 0))]) C.1 dX8_opens_24 rfl (by decide) rfl ?_
    refine gJ.sub [1, 0] rfl ?_
    exact wkR_opens_25 C hsz hR hret _ _ hw
  · replace hw := hw.2 h16
    refine g_aload_n C.1 0 dX8_opens_10 rfl rfl ?_
    refine r_g39 C dX8_opens_11 ?_
    refine g_iload_n C.1 1 dX8_opens_14 rfl rfl ?_
    refine g_iconst (v := 0) C.1 dX8_opens_15 (by decide) ?_
    refine r_st39 C hw.1 dX8_opens_16 ?_
    replace hw := hw.2
    refine gJ.nm (fun s17 es17 => ?_)
    replace hw := hw s17 es17
    refine g_iinc (v := v1 + 1) (lv' := [(1, .int (v1 + 1)), (0, .ref (G.2.2.1 0))]) C.1 1 dX8_opens_17 rfl rfl (by decide) rfl ?_
    refine g_goto (tgt := 2) C.1 dX8_opens_20 (by decide) ?_
    refine gJ.sub [1, 0] rfl ?_
    exact hK2 _ _ hw
theorem wkR_opens_2 {X : gT} {G : rG} {A : Nat → Prop} {H0 : Heap} {Q : State → Prop} (C : rC X cX8_opens 3 G A) (hsz : H0 = (g_s X).heap) (hR : 3 ≤ (g_R X).frames ∧ 71 ≤ (g_R X).locals) {post : RSt → Prop} (hret : ∀ (τ : RSt) (lv : List (Nat × Value)) (pc : Nat), post τ → decode cX8_opens pc = .ok (.return_, 1) → gJ X (rWd G A H0) Q 0 0 τ lv pc []) (s : RSt) (v1 : Int32) (hw : wpR_opens_2 post s v1) : gJ X (rWd G A H0) Q 0 0 s [(0, .ref (G.2.2.1 0)), (1, .int v1)] 2 [] := 
  hw (fun (x : RSt × Int32) => (fun s v1 => gJ X (rWd G A H0) Q 0 0 s [(0, .ref (G.2.2.1 0)), (1, .int v1)] 2 []) x.1 x.2) (fun x hx => wkR_opens_2_F C hsz hR hret (K2 := (fun s v1 => gJ X (rWd G A H0) Q 0 0 s [(0, .ref (G.2.2.1 0)), (1, .int v1)] 2 [])) (fun _ _ h => h) x.1 x.2 hx)
theorem wkR_opens_0 {X : gT} {G : rG} {A : Nat → Prop} {H0 : Heap} {Q : State → Prop} (C : rC X cX8_opens 3 G A) (hsz : H0 = (g_s X).heap) (hR : 3 ≤ (g_R X).frames ∧ 71 ≤ (g_R X).locals) {post : RSt → Prop} (hret : ∀ (τ : RSt) (lv : List (Nat × Value)) (pc : Nat), post τ → decode cX8_opens pc = .ok (.return_, 1) → gJ X (rWd G A H0) Q 0 0 τ lv pc []) (s : RSt) (hw : wpR_opens_0 post s) : gJ X (rWd G A H0) Q 0 0 s [(0, .ref (G.2.2.1 0))] 0 [] := by
  refine g_iconst (v := 0) C.1 dX8_opens_0 (by decide) ?_
  refine g_istore_n (lv' := [(1, .int 0), (0, .ref (G.2.2.1 0))]) C.1 dX8_opens_1 rfl (by decide) rfl ?_
  refine gJ.sub [1, 0] rfl ?_
  exact wkR_opens_2 C hsz hR hret _ _ hw
theorem hdR_opens : yX8_opens.cls = RX8 ∧ yX8_opens.cls ≠ "java/lang/invoke/MethodHandle" ∧ yX8_opens.cls ≠ "java/lang/invoke/VarHandle" ∧ (parseMethodDescriptor yX8_opens.desc).map (fun d => d.parameters.length) = some 0 := by decide +kernel
theorem cR_opens (l : Launch) (G : rG) (s : RSt) (post : RSt → Prop) (hw : wpR_opens_0 post s) : rMv l yX8_opens cX8_opens 3 3 71 G s [] post := rMv_of (by decide +kernel) rfl (Nat.le_of_ble_eq_true rfl) (fun X A H0 Q hl hR hsz C hret => wkR_opens_0 C hsz hR hret s hw)
def wpR_wears_96 (post : RSt → Prop) (K12 : RSt → Int32 → Int32 → Int32 → Prop) (K59 : RSt → Int32 → Int32 → Int32 → Int32 → Int32 → Prop) (s : RSt) (v1 : Int32) (v2 : Int32) (v3 : Int32) (v4 : Int32) (v5 : Int32) (w0 : Int32) : Prop := vp_in ((4 * v3) + v5) 160 ∧ vp_in ((4 * v3) + v5) 160 ∧ ∀ s1 : RSt, s1 = rsA s 10 ((4 * v3) + v5).toNatClampNeg ((s.2.1 10 ((4 * v3) + v5).toNatClampNeg) - w0) → vp_in ((4 * v3) + 3) 160 ∧ vp_in ((4 * v3) + 3) 160 ∧ ∀ s2 : RSt, s2 = rsA s1 10 ((4 * v3) + 3).toNatClampNeg ((s1.2.1 10 ((4 * v3) + 3).toNatClampNeg) + w0) → vp_in 4 5 ∧ vp_in 4 5 ∧ ∀ s3 : RSt, s3 = rsJ s2 29 (4 : Int32).toNatClampNeg ((s2.2.2 29 (4 : Int32).toNatClampNeg) + w0.toInt64) → K59 s3 v1 v2 v3 (v4 - w0) (v5 + (-1))
def wpR_wears_59_F (post : RSt → Prop) (K12 : RSt → Int32 → Int32 → Int32 → Prop) (K59 : RSt → Int32 → Int32 → Int32 → Int32 → Int32 → Prop) (s : RSt) (v1 : Int32) (v2 : Int32) (v3 : Int32) (v4 : Int32) (v5 : Int32) : Prop := (v5 < 0 → K12 s v1 v2 (v3 + 1)) ∧ (¬ v5 < 0 → vp_in ((4 * v3) + v5) 160 ∧ ((s.2.1 10 ((4 * v3) + v5).toNatClampNeg) ≤ v4 → vp_in ((4 * v3) + v5) 160 ∧ wpR_wears_96 post K12 K59 s v1 v2 v3 v4 v5 (s.2.1 10 ((4 * v3) + v5).toNatClampNeg)) ∧ (¬ (s.2.1 10 ((4 * v3) + v5).toNatClampNeg) ≤ v4 → wpR_wears_96 post K12 K59 s v1 v2 v3 v4 v5 v4))
def wpR_wears_59 (post : RSt → Prop) (K12 : RSt → Int32 → Int32 → Int32 → Prop) (s : RSt) (v1 : Int32) (v2 : Int32) (v3 : Int32) (v4 : Int32) (v5 : Int32) : Prop := gLP (fun (K : RSt × Int32 × Int32 × Int32 × Int32 × Int32 → Prop) (x : RSt × Int32 × Int32 × Int32 × Int32 × Int32) => wpR_wears_59_F post K12 (fun s v1 v2 v3 v4 v5 => K (s, v1, v2, v3, v4, v5)) x.1 x.2.1 x.2.2.1 x.2.2.2.1 x.2.2.2.2.1 x.2.2.2.2.2) (s, v1, v2, v3, v4, v5)
def wpR_wears_12_F (post : RSt → Prop) (K12 : RSt → Int32 → Int32 → Int32 → Prop) (s : RSt) (v1 : Int32) (v2 : Int32) (v3 : Int32) : Prop := vp_in ((6 * v1) + 4) 60 ∧ vp_in ((6 * v1) + 5) 60 ∧ (((s.2.1 8 ((6 * v1) + 4).toNatClampNeg) + (s.2.1 8 ((6 * v1) + 5).toNatClampNeg)) ≤ v3 → post s) ∧ (¬ ((s.2.1 8 ((6 * v1) + 4).toNatClampNeg) + (s.2.1 8 ((6 * v1) + 5).toNatClampNeg)) ≤ v3 → vp_in ((6 * v1) + 3) 60 ∧ wpR_wears_59 post K12 s v1 v2 v3 (v2 * (1 + (s.2.1 8 ((6 * v1) + 3).toNatClampNeg))) 2)
def wpR_wears_12 (post : RSt → Prop) (s : RSt) (v1 : Int32) (v2 : Int32) (v3 : Int32) : Prop := gLP (fun (K : RSt × Int32 × Int32 × Int32 → Prop) (x : RSt × Int32 × Int32 × Int32) => wpR_wears_12_F post (fun s v1 v2 v3 => K (s, v1, v2, v3)) x.1 x.2.1 x.2.2.1 x.2.2.2) (s, v1, v2, v3)
def wpR_wears_0 (post : RSt → Prop) (s : RSt) (v1 : Int32) (v2 : Int32) : Prop := vp_in ((6 * v1) + 4) 60 ∧ wpR_wears_12 post s v1 v2 (s.2.1 8 ((6 * v1) + 4).toNatClampNeg)
theorem wkR_wears_96 {X : gT} {G : rG} {A : Nat → Prop} {H0 : Heap} {Q : State → Prop} (C : rC X cX8_wears 7 G A) (hsz : H0 = (g_s X).heap) (hR : 0 ≤ (g_R X).frames ∧ 0 ≤ (g_R X).locals) {post : RSt → Prop} (hret : ∀ (τ : RSt) (lv : List (Nat × Value)) (pc : Nat), post τ → decode cX8_wears pc = .ok (.return_, 1) → gJ X (rWd G A H0) Q 0 0 τ lv pc []) {K12 : RSt → Int32 → Int32 → Int32 → Prop} {K59 : RSt → Int32 → Int32 → Int32 → Int32 → Int32 → Prop} (hK12 : ∀ (s : RSt) (v1 : Int32) (v2 : Int32) (v3 : Int32), K12 s v1 v2 v3 → gJ X (rWd G A H0) Q 0 0 s [(0, .ref (G.2.2.1 0)), (1, .int v1), (2, .int v2), (3, .int v3)] 12 []) (hK59 : ∀ (s : RSt) (v1 : Int32) (v2 : Int32) (v3 : Int32) (v4 : Int32) (v5 : Int32), K59 s v1 v2 v3 v4 v5 → gJ X (rWd G A H0) Q 0 0 s [(0, .ref (G.2.2.1 0)), (1, .int v1), (2, .int v2), (3, .int v3), (4, .int v4), (5, .int v5)] 59 []) (s : RSt) (v1 : Int32) (v2 : Int32) (v3 : Int32) (v4 : Int32) (v5 : Int32) (w0 : Int32) (hw : wpR_wears_96 post K12 K59 s v1 v2 v3 v4 v5 w0) : gJ X (rWd G A H0) Q 0 0 s [(0, .ref (G.2.2.1 0)), (1, .int v1), (2, .int v2), (3, .int v3), (4, .int v4), (5, .int v5)] 96 [.int w0] := by
  refine g_istore (lv' := [(6, .int w0), (0, .ref (G.2.2.1 0)), (1, .int v1), (2, .int v2), (3, .int v3), (4, .int v4), (5, .int v5)]) C.1 dX8_wears_96 (by decide) rfl ?_
  refine g_aload_n C.1 1 dX8_wears_98 rfl rfl ?_
  refine r_g10 C dX8_wears_99 ?_
  refine g_iconst (v := 4) C.1 dX8_wears_102 (by decide) ?_
  refine g_iload_n C.1 4 dX8_wears_103 rfl rfl ?_
  refine g_imul C.1 dX8_wears_104 ?_
  refine g_iload C.1 6 dX8_wears_105 rfl ?_
  refine g_iadd C.1 dX8_wears_107 ?_
  refine g_dup2 C.1 dX8_wears_108 rfl rfl ?_
  refine r_ld10 C hw.1 dX8_wears_109 ?_
  replace hw := hw.2
  refine g_iload C.1 0 dX8_wears_110 rfl ?_
  refine g_isub C.1 dX8_wears_112 ?_
  refine r_st10 C hw.1 dX8_wears_113 ?_
  replace hw := hw.2
  refine gJ.nm (fun s1 es1 => ?_)
  replace hw := hw s1 es1
  refine g_aload_n C.1 1 dX8_wears_114 rfl rfl ?_
  refine r_g10 C dX8_wears_115 ?_
  refine g_iconst (v := 4) C.1 dX8_wears_118 (by decide) ?_
  refine g_iload_n C.1 4 dX8_wears_119 rfl rfl ?_
  refine g_imul C.1 dX8_wears_120 ?_
  refine g_iconst (v := 3) C.1 dX8_wears_121 (by decide) ?_
  refine g_iadd C.1 dX8_wears_122 ?_
  refine g_dup2 C.1 dX8_wears_123 rfl rfl ?_
  refine r_ld10 C hw.1 dX8_wears_124 ?_
  replace hw := hw.2
  refine g_iload C.1 0 dX8_wears_125 rfl ?_
  refine g_iadd C.1 dX8_wears_127 ?_
  refine r_st10 C hw.1 dX8_wears_128 ?_
  replace hw := hw.2
  refine gJ.nm (fun s2 es2 => ?_)
  replace hw := hw s2 es2
  refine g_aload_n C.1 1 dX8_wears_129 rfl rfl ?_
  refine r_g29 C dX8_wears_130 ?_
  refine g_iconst (v := 4) C.1 dX8_wears_133 (by decide) ?_
  refine g_dup2 C.1 dX8_wears_134 rfl rfl ?_
  refine r_ld29 C hw.1 dX8_wears_135 ?_
  replace hw := hw.2
  refine g_iload C.1 0 dX8_wears_136 rfl ?_
  refine g_i2l C.1 dX8_wears_138 ?_
  refine g_ladd C.1 dX8_wears_139 ?_
  refine r_st29 C hw.1 dX8_wears_140 ?_
  replace hw := hw.2
  refine gJ.nm (fun s3 es3 => ?_)
  replace hw := hw s3 es3
  refine g_iload C.1 5 dX8_wears_141 rfl ?_
  refine g_iload C.1 0 dX8_wears_143 rfl ?_
  refine g_isub C.1 dX8_wears_145 ?_
  refine g_istore (lv' := [(4, .int (v4 - w0)), (6, .int w0), (0, .ref (G.2.2.1 0)), (1, .int v1), (2, .int v2), (3, .int v3), (5, .int v5)]) C.1 dX8_wears_146 (by decide) rfl ?_
  refine g_iinc (v := v5 + (-1)) (lv' := [(5, .int (v5 + (-1))), (4, .int (v4 - w0)), (6, .int w0), (0, .ref (G.2.2.1 0)), (1, .int v1), (2, .int v2), (3, .int v3)]) C.1 6 dX8_wears_148 rfl rfl (by decide) rfl ?_
  refine g_goto (tgt := 59) C.1 dX8_wears_151 (by decide) ?_
  refine gJ.sub [3, 4, 5, 6, 1, 0] rfl ?_
  exact hK59 _ _ _ _ _ _ hw
theorem wkR_wears_59_F {X : gT} {G : rG} {A : Nat → Prop} {H0 : Heap} {Q : State → Prop} (C : rC X cX8_wears 7 G A) (hsz : H0 = (g_s X).heap) (hR : 0 ≤ (g_R X).frames ∧ 0 ≤ (g_R X).locals) {post : RSt → Prop} (hret : ∀ (τ : RSt) (lv : List (Nat × Value)) (pc : Nat), post τ → decode cX8_wears pc = .ok (.return_, 1) → gJ X (rWd G A H0) Q 0 0 τ lv pc []) {K12 : RSt → Int32 → Int32 → Int32 → Prop} {K59 : RSt → Int32 → Int32 → Int32 → Int32 → Int32 → Prop} (hK12 : ∀ (s : RSt) (v1 : Int32) (v2 : Int32) (v3 : Int32), K12 s v1 v2 v3 → gJ X (rWd G A H0) Q 0 0 s [(0, .ref (G.2.2.1 0)), (1, .int v1), (2, .int v2), (3, .int v3)] 12 []) (hK59 : ∀ (s : RSt) (v1 : Int32) (v2 : Int32) (v3 : Int32) (v4 : Int32) (v5 : Int32), K59 s v1 v2 v3 v4 v5 → gJ X (rWd G A H0) Q 0 0 s [(0, .ref (G.2.2.1 0)), (1, .int v1), (2, .int v2), (3, .int v3), (4, .int v4), (5, .int v5)] 59 []) (s : RSt) (v1 : Int32) (v2 : Int32) (v3 : Int32) (v4 : Int32) (v5 : Int32) (hw : wpR_wears_59_F post K12 K59 s v1 v2 v3 v4 v5) : gJ X (rWd G A H0) Q 0 0 s [(0, .ref (G.2.2.1 0)), (1, .int v1), (2, .int v2), (3, .int v3), (4, .int v4), (5, .int v5)] 59 [] := by
  refine g_iload C.1 5 dX8_wears_59 rfl ?_
  refine g_if_lt (tgt := 154) C.1 dX8_wears_61 (by decide) (fun h4 => ?_) (fun h4 => ?_)
  · replace hw := hw.1 h4
    refine g_iinc (v := v3 + 1) (lv' := [(3, .int (v3 + 1)), (0, .ref (G.2.2.1 0)), (1, .int v1), (2, .int v2), (4, .int v4), (5, .int v5)]) C.1 3 dX8_wears_154 rfl rfl (by decide) rfl ?_
    refine g_goto (tgt := 12) C.1 dX8_wears_157 (by decide) ?_
    refine gJ.sub [1, 2, 3, 0] rfl ?_
    exact hK12 _ _ _ _ hw
  · replace hw := hw.2 h4
    refine g_iload C.1 4 dX8_wears_64 rfl ?_
    refine g_aload_n C.1 0 dX8_wears_66 rfl rfl ?_
    refine r_g10 C dX8_wears_67 ?_
    refine g_iconst (v := 4) C.1 dX8_wears_70 (by decide) ?_
    refine g_iload_n C.1 3 dX8_wears_71 rfl rfl ?_
    refine g_imul C.1 dX8_wears_72 ?_
    refine g_iload C.1 5 dX8_wears_73 rfl ?_
    refine g_iadd C.1 dX8_wears_75 ?_
    refine r_ld10 C hw.1 dX8_wears_76 ?_
    replace hw := hw.2
    refine g_icmp_ge (tgt := 85) C.1 dX8_wears_77 (by decide) (fun h5 => ?_) (fun h5 => ?_)
    · replace hw := hw.1 h5
      refine g_aload_n C.1 0 dX8_wears_85 rfl rfl ?_
      refine r_g10 C dX8_wears_86 ?_
      refine g_iconst (v := 4) C.1 dX8_wears_89 (by decide) ?_
      refine g_iload_n C.1 3 dX8_wears_90 rfl rfl ?_
      refine g_imul C.1 dX8_wears_91 ?_
      refine g_iload C.1 5 dX8_wears_92 rfl ?_
      refine g_iadd C.1 dX8_wears_94 ?_
      refine r_ld10 C hw.1 dX8_wears_95 ?_
      replace hw := hw.2
      exact wkR_wears_96 C hsz hR hret hK12 hK59 _ _ _ _ _ _ _ hw
    · replace hw := hw.2 h5
      refine g_iload C.1 4 dX8_wears_80 rfl ?_
      refine g_goto (tgt := 96) C.1 dX8_wears_82 (by decide) ?_
      exact wkR_wears_96 C hsz hR hret hK12 hK59 _ _ _ _ _ _ _ hw
theorem wkR_wears_59 {X : gT} {G : rG} {A : Nat → Prop} {H0 : Heap} {Q : State → Prop} (C : rC X cX8_wears 7 G A) (hsz : H0 = (g_s X).heap) (hR : 0 ≤ (g_R X).frames ∧ 0 ≤ (g_R X).locals) {post : RSt → Prop} (hret : ∀ (τ : RSt) (lv : List (Nat × Value)) (pc : Nat), post τ → decode cX8_wears pc = .ok (.return_, 1) → gJ X (rWd G A H0) Q 0 0 τ lv pc []) {K12 : RSt → Int32 → Int32 → Int32 → Prop} (hK12 : ∀ (s : RSt) (v1 : Int32) (v2 : Int32) (v3 : Int32), K12 s v1 v2 v3 → gJ X (rWd G A H0) Q 0 0 s [(0, .ref (G.2.2.1 0)), (1, .int v1), (2, .int v2), (3, .int v3)] 12 []) (s : RSt) (v1 : Int32) (v2 : Int32) (v3 : Int32) (v4 : Int32) (v5 : Int32) (hw : wpR_wears_59 post K12 s v1 v2 v3 v4 v5) : gJ X (rWd G A H0) Q 0 0 s [(0, .ref (G.2.2.1 0)), (1, .int v1), (2, .int v2), (3, .int v3), (4, .int v4), (5, .int v5)] 59 [] := 
  hw (fun (x : RSt × Int32 × Int32 × Int32 × Int32 × Int32) => (fun s v1 v2 v3 v4 v5 => gJ X (rWd G A H0) Q 0 0 s [(0, .ref (G.2.2.1 0)), (1, .int v1), (2, .int v2), (3, .int v3), (4, .int v4), (5, .int v5)] 59 []) x.1 x.2.1 x.2.2.1 x.2.2.2.1 x.2.2.2.2.1 x.2.2.2.2.2) (fun x hx => wkR_wears_59_F C hsz hR hret hK12 (K59 := (fun s v1 v2 v3 v4 v5 => gJ X (rWd G A H0) Q 0 0 s [(0, .ref (G.2.2.1 0)), (1, .int v1), (2, .int v2), (3, .int v3), (4, .int v4), (5, .int v5)] 59 [])) (fun _ _ _ _ _ _ h => h) x.1 x.2.1 x.2.2.1 x.2.2.2.1 x.2.2.2.2.1 x.2.2.2.2.2 hx)
theorem wkR_wears_12_F {X : gT} {G : rG} {A : Nat → Prop} {H0 : Heap} {Q : State → Prop} (C : rC X cX8_wears 7 G A) (hsz : H0 = (g_s X).heap) (hR : 0 ≤ (g_R X).frames ∧ 0 ≤ (g_R X).locals) {post : RSt → Prop} (hret : ∀ (τ : RSt) (lv : List (Nat × Value)) (pc : Nat), post τ → decode cX8_wears pc = .ok (.return_, 1) → gJ X (rWd G A H0) Q 0 0 τ lv pc []) {K12 : RSt → Int32 → Int32 → Int32 → Prop} (hK12 : ∀ (s : RSt) (v1 : Int32) (v2 : Int32) (v3 : Int32), K12 s v1 v2 v3 → gJ X (rWd G A H0) Q 0 0 s [(0, .ref (G.2.2.1 0)), (1, .int v1), (2, .int v2), (3, .int v3)] 12 []) (s : RSt) (v1 : Int32) (v2 : Int32) (v3 : Int32) (hw : wpR_wears_12_F post K12 s v1 v2 v3) : gJ X (rWd G A H0) Q 0 0 s [(0, .ref (G.2.2.1 0)), (1, .int v1), (2, .int v2), (3, .int v3)] 12 [] := by
  refine g_iload_n C.1 3 dX8_wears_12 rfl rfl ?_
  refine g_aload_n C.1 0 dX8_wears_13 rfl rfl ?_
  refine r_g8 C dX8_wears_14 ?_
  refine g_bipush (v := 6) C.1 dX8_wears_17 (by decide) ?_
  refine g_iload_n C.1 1 dX8_wears_19 rfl rfl ?_
  refine g_imul C.1 dX8_wears_20 ?_
  refine g_iconst (v := 4) C.1 dX8_wears_21 (by decide) ?_
  refine g_iadd C.1 dX8_wears_22 ?_
  refine r_ld8 C hw.1 dX8_wears_23 ?_
  replace hw := hw.2
  refine g_aload_n C.1 0 dX8_wears_24 rfl rfl ?_
  refine r_g8 C dX8_wears_25 ?_
  refine g_bipush (v := 6) C.1 dX8_wears_28 (by decide) ?_
  refine g_iload_n C.1 1 dX8_wears_30 rfl rfl ?_
  refine g_imul C.1 dX8_wears_31 ?_
  refine g_iconst (v := 5) C.1 dX8_wears_32 (by decide) ?_
  refine g_iadd C.1 dX8_wears_33 ?_
  refine r_ld8 C hw.1 dX8_wears_34 ?_
  replace hw := hw.2
  refine g_iadd C.1 dX8_wears_35 ?_
  refine g_icmp_ge (tgt := 160) C.1 dX8_wears_36 (by decide) (fun h6 => ?_) (fun h6 => ?_)
  · replace hw := hw.1 h6
    exact hret _ _ _ hw dX8_wears_160
  · replace hw := hw.2 h6
    refine g_iload_n C.1 2 dX8_wears_39 rfl rfl ?_
    refine g_iconst (v := 1) C.1 dX8_wears_40 (by decide) ?_
    refine g_aload_n C.1 0 dX8_wears_41 rfl rfl ?_
    refine r_g8 C dX8_wears_42 ?_
    refine g_bipush (v := 6) C.1 dX8_wears_45 (by decide) ?_
    refine g_iload_n C.1 1 dX8_wears_47 rfl rfl ?_
    refine g_imul C.1 dX8_wears_48 ?_
    refine g_iconst (v := 3) C.1 dX8_wears_49 (by decide) ?_
    refine g_iadd C.1 dX8_wears_50 ?_
    refine r_ld8 C hw.1 dX8_wears_51 ?_
    replace hw := hw.2
    refine g_iadd C.1 dX8_wears_52 ?_
    refine g_imul C.1 dX8_wears_53 ?_
    refine g_istore (lv' := [(4, .int (v2 * (1 + (s.2.1 8 ((6 * v1) + 3).toNatClampNeg)))), (0, .ref (G.2.2.1 0)), (1, .int v1), (2, .int v2), (3, .int v3)]) C.1 dX8_wears_54 (by decide) rfl ?_
    refine g_iconst (v := 2) C.1 dX8_wears_56 (by decide) ?_
    refine g_istore (lv' := [(5, .int 2), (4, .int (v2 * (1 + (s.2.1 8 ((6 * v1) + 3).toNatClampNeg)))), (0, .ref (G.2.2.1 0)), (1, .int v1), (2, .int v2), (3, .int v3)]) C.1 dX8_wears_57 (by decide) rfl ?_
    refine gJ.sub [2, 3, 4, 5, 1, 0] rfl ?_
    exact wkR_wears_59 C hsz hR hret hK12 _ _ _ _ _ _ hw
theorem wkR_wears_12 {X : gT} {G : rG} {A : Nat → Prop} {H0 : Heap} {Q : State → Prop} (C : rC X cX8_wears 7 G A) (hsz : H0 = (g_s X).heap) (hR : 0 ≤ (g_R X).frames ∧ 0 ≤ (g_R X).locals) {post : RSt → Prop} (hret : ∀ (τ : RSt) (lv : List (Nat × Value)) (pc : Nat), post τ → decode cX8_wears pc = .ok (.return_, 1) → gJ X (rWd G A H0) Q 0 0 τ lv pc []) (s : RSt) (v1 : Int32) (v2 : Int32) (v3 : Int32) (hw : wpR_wears_12 post s v1 v2 v3) : gJ X (rWd G A H0) Q 0 0 s [(0, .ref (G.2.2.1 0)), (1, .int v1), (2, .int v2), (3, .int v3)] 12 [] := 
  hw (fun (x : RSt × Int32 × Int32 × Int32) => (fun s v1 v2 v3 => gJ X (rWd G A H0) Q 0 0 s [(0, .ref (G.2.2.1 0)), (1, .int v1), (2, .int v2), (3, .int v3)] 12 []) x.1 x.2.1 x.2.2.1 x.2.2.2) (fun x hx => wkR_wears_12_F C hsz hR hret (K12 := (fun s v1 v2 v3 => gJ X (rWd G A H0) Q 0 0 s [(0, .ref (G.2.2.1 0)), (1, .int v1), (2, .int v2), (3, .int v3)] 12 [])) (fun _ _ _ _ h => h) x.1 x.2.1 x.2.2.1 x.2.2.2 hx)
theorem wkR_wears_0 {X : gT} {G : rG} {A : Nat → Prop} {H0 : Heap} {Q : State → Prop} (C : rC X cX8_wears 7 G A) (hsz : H0 = (g_s X).heap) (hR : 0 ≤ (g_R X).frames ∧ 0 ≤ (g_R X).locals) {post : RSt → Prop} (hret : ∀ (τ : RSt) (lv : List (Nat × Value)) (pc : Nat), post τ → decode cX8_wears pc = .ok (.return_, 1) → gJ X (rWd G A H0) Q 0 0 τ lv pc []) (s : RSt) (v1 : Int32) (v2 : Int32) (hw : wpR_wears_0 post s v1 v2) : gJ X (rWd G A H0) Q 0 0 s [(0, .ref (G.2.2.1 0)), (1, .int v1), (2, .int v2)] 0 [] := by
  refine g_aload_n C.1 0 dX8_wears_0 rfl rfl ?_
  refine r_g8 C dX8_wears_1 ?_
  refine g_bipush (v := 6) C.1 dX8_wears_4 (by decide) ?_
  refine g_iload_n C.1 1 dX8_wears_6 rfl rfl ?_
  refine g_imul C.1 dX8_wears_7 ?_
  refine g_iconst (v := 4) C.1 dX8_wears_8 (by decide) ?_
  refine g_iadd C.1 dX8_wears_9 ?_
  refine r_ld8 C hw.1 dX8_wears_10 ?_
  replace hw := hw.2
  refine g_istore_n (lv' := [(3, .int (s.2.1 8 ((6 * v1) + 4).toNatClampNeg)), (0, .ref (G.2.2.1 0)), (1, .int v1), (2, .int v2)]) C.1 dX8_wears_11 rfl (by decide) rfl ?_
  refine gJ.sub [1, 2, 3, 0] rfl ?_
  exact wkR_wears_12 C hsz hR hret _ _ _ _ hw
theorem hdR_wears : yX8_wears.cls = RX8 ∧ yX8_wears.cls ≠ "java/lang/invoke/MethodHandle" ∧ yX8_wears.cls ≠ "java/lang/invoke/VarHandle" ∧ (parseMethodDescriptor yX8_wears.desc).map (fun d => d.parameters.length) = some 2 := by decide +kernel
theorem cR_wears (l : Launch) (G : rG) (s : RSt) (v1 : Int32) (v2 : Int32) (post : RSt → Prop) (hw : wpR_wears_0 post s v1 v2) : rMv l yX8_wears cX8_wears 7 0 0 G s [.int v1, .int v2] post := rMv_of (by decide +kernel) rfl (Nat.le_of_ble_eq_true rfl) (fun X A H0 Q hl hR hsz C hret => wkR_wears_0 C hsz hR hret s v1 v2 hw)
def wpR_waiting_4_F (post : Int32 → RSt → Prop) (K4 : RSt → Int32 → Int32 → Int32 → Prop) (s : RSt) (v1 : Int32) (v2 : Int32) (v3 : Int32) : Prop := vp_in v1 8 ∧ ((s.2.1 6 v1.toNatClampNeg) ≤ v3 → post v2 s) ∧ (¬ (s.2.1 6 v1.toNatClampNeg) ≤ v3 → vp_in ((60 * v1) + v3) 480 ∧ vp_in (7 * (s.2.1 5 ((60 * v1) + v3).toNatClampNeg)) 420 ∧ ∀ x2 : Int32, x2 = v2 + (s.2.1 21 (7 * (s.2.1 5 ((60 * v1) + v3).toNatClampNeg)).toNatClampNeg) → K4 s v1 x2 (v3 + 1))
def wpR_waiting_4 (post : Int32 → RSt → Prop) (s : RSt) (v1 : Int32) (v2 : Int32) (v3 : Int32) : Prop := gLP (fun (K : RSt × Int32 × Int32 × Int32 → Prop) (x : RSt × Int32 × Int32 × Int32) => wpR_waiting_4_F post (fun s v1 v2 v3 => K (s, v1, v2, v3)) x.1 x.2.1 x.2.2.1 x.2.2.2) (s, v1, v2, v3)
def wpR_waiting_0 (post : Int32 → RSt → Prop) (s : RSt) (v1 : Int32) : Prop := wpR_waiting_4 post s v1 0 0
theorem wkR_waiting_4_F {X : gT} {G : rG} {A : Nat → Prop} {H0 : Heap} {Q : State → Prop} (C : rC X cX8_waiting 4 G A) (hsz : H0 = (g_s X).heap) (hR : 0 ≤ (g_R X).frames ∧ 0 ≤ (g_R X).locals) {post : Int32 → RSt → Prop} (hret : ∀ (r : Int32) (τ : RSt) (lv : List (Nat × Value)) (pc : Nat), post r τ → narrow .int (.int r) = .int r → decode cX8_waiting pc = .ok (.ireturn, 1) → gJ X (rWd G A H0) Q 0 0 τ lv pc [.int r]) {K4 : RSt → Int32 → Int32 → Int32 → Prop} (hK4 : ∀ (s : RSt) (v1 : Int32) (v2 : Int32) (v3 : Int32), K4 s v1 v2 v3 → gJ X (rWd G A H0) Q 0 0 s [(0, .ref (G.2.2.1 0)), (1, .int v1), (2, .int v2), (3, .int v3)] 4 []) (s : RSt) (v1 : Int32) (v2 : Int32) (v3 : Int32) (hw : wpR_waiting_4_F post K4 s v1 v2 v3) : gJ X (rWd G A H0) Q 0 0 s [(0, .ref (G.2.2.1 0)), (1, .int v1), (2, .int v2), (3, .int v3)] 4 [] := by
  refine g_iload_n C.1 3 dX8_waiting_4 rfl rfl ?_
  refine g_aload_n C.1 0 dX8_waiting_5 rfl rfl ?_
  refine r_g6 C dX8_waiting_6 ?_
  refine g_iload_n C.1 1 dX8_waiting_9 rfl rfl ?_
  refine r_ld6 C hw.1 dX8_waiting_10 ?_
  replace hw := hw.2
  refine g_icmp_ge (tgt := 42) C.1 dX8_waiting_11 (by decide) (fun h1 => ?_) (fun h1 => ?_)
  · replace hw := hw.1 h1
    refine g_iload_n C.1 2 dX8_waiting_42 rfl rfl ?_
    exact hret _ _ _ _ hw rfl dX8_waiting_43
  · replace hw := hw.2 h1
    refine g_iload_n C.1 2 dX8_waiting_14 rfl rfl ?_
    refine g_aload_n C.1 0 dX8_waiting_15 rfl rfl ?_
    refine r_g21 C dX8_waiting_16 ?_
    refine g_bipush (v := 7) C.1 dX8_waiting_19 (by decide) ?_
    refine g_aload_n C.1 0 dX8_waiting_21 rfl rfl ?_
    refine r_g5 C dX8_waiting_22 ?_
    refine g_bipush (v := 60) C.1 dX8_waiting_25 (by decide) ?_
    refine g_iload_n C.1 1 dX8_waiting_27 rfl rfl ?_
    refine g_imul C.1 dX8_waiting_28 ?_
    refine g_iload_n C.1 3 dX8_waiting_29 rfl rfl ?_
    refine g_iadd C.1 dX8_waiting_30 ?_
    refine r_ld5 C hw.1 dX8_waiting_31 ?_
    replace hw := hw.2
    refine g_imul C.1 dX8_waiting_32 ?_
    refine r_ld21 C hw.1 dX8_waiting_33 ?_
    replace hw := hw.2
    refine g_iadd C.1 dX8_waiting_34 ?_
    refine g_topi (fun x2 ex2 => ?_)
    replace hw := hw x2 ex2
    refine g_istore_n (lv' := [(2, .int x2), (0, .ref (G.2.2.1 0)), (1, .int v1), (3, .int v3)]) C.1 dX8_waiting_35 rfl (by decide) rfl ?_
    refine g_iinc (v := v3 + 1) (lv' := [(3, .int (v3 + 1)), (2, .int x2), (0, .ref (G.2.2.1 0)), (1, .int v1)]) C.1 3 dX8_waiting_36 rfl rfl (by decide) rfl ?_
    refine g_goto (tgt := 4) C.1 dX8_waiting_39 (by decide) ?_
    refine gJ.sub [2, 3, 1, 0] rfl ?_
    exact hK4 _ _ _ _ hw
theorem wkR_waiting_4 {X : gT} {G : rG} {A : Nat → Prop} {H0 : Heap} {Q : State → Prop} (C : rC X cX8_waiting 4 G A) (hsz : H0 = (g_s X).heap) (hR : 0 ≤ (g_R X).frames ∧ 0 ≤ (g_R X).locals) {post : Int32 → RSt → Prop} (hret : ∀ (r : Int32) (τ : RSt) (lv : List (Nat × Value)) (pc : Nat), post r τ → narrow .int (.int r) = .int r → decode cX8_waiting pc = .ok (.ireturn, 1) → gJ X (rWd G A H0) Q 0 0 τ lv pc [.int r]) (s : RSt) (v1 : Int32) (v2 : Int32) (v3 : Int32) (hw : wpR_waiting_4 post s v1 v2 v3) : gJ X (rWd G A H0) Q 0 0 s [(0, .ref (G.2.2.1 0)), (1, .int v1), (2, .int v2), (3, .int v3)] 4 [] := 
  hw (fun (x : RSt × Int32 × Int32 × Int32) => (fun s v1 v2 v3 => gJ X (rWd G A H0) Q 0 0 s [(0, .ref (G.2.2.1 0)), (1, .int v1), (2, .int v2), (3, .int v3)] 4 []) x.1 x.2.1 x.2.2.1 x.2.2.2) (fun x hx => wkR_waiting_4_F C hsz hR hret (K4 := (fun s v1 v2 v3 => gJ X (rWd G A H0) Q 0 0 s [(0, .ref (G.2.2.1 0)), (1, .int v1), (2, .int v2), (3, .int v3)] 4 [])) (fun _ _ _ _ h => h) x.1 x.2.1 x.2.2.1 x.2.2.2 hx)
theorem wkR_waiting_0 {X : gT} {G : rG} {A : Nat → Prop} {H0 : Heap} {Q : State → Prop} (C : rC X cX8_waiting 4 G A) (hsz : H0 = (g_s X).heap) (hR : 0 ≤ (g_R X).frames ∧ 0 ≤ (g_R X).locals) {post : Int32 → RSt → Prop} (hret : ∀ (r : Int32) (τ : RSt) (lv : List (Nat × Value)) (pc : Nat), post r τ → narrow .int (.int r) = .int r → decode cX8_waiting pc = .ok (.ireturn, 1) → gJ X (rWd G A H0) Q 0 0 τ lv pc [.int r]) (s : RSt) (v1 : Int32) (hw : wpR_waiting_0 post s v1) : gJ X (rWd G A H0) Q 0 0 s [(0, .ref (G.2.2.1 0)), (1, .int v1)] 0 [] := by
  refine g_iconst (v := 0) C.1 dX8_waiting_0 (by decide) ?_
  refine g_istore_n (lv' := [(2, .int 0), (0, .ref (G.2.2.1 0)), (1, .int v1)]) C.1 dX8_waiting_1 rfl (by decide) rfl ?_
  refine g_iconst (v := 0) C.1 dX8_waiting_2 (by decide) ?_
  refine g_istore_n (lv' := [(3, .int 0), (2, .int 0), (0, .ref (G.2.2.1 0)), (1, .int v1)]) C.1 dX8_waiting_3 rfl (by decide) rfl ?_
  refine gJ.sub [2, 3, 1, 0] rfl ?_
  exact wkR_waiting_4 C hsz hR hret _ _ _ _ hw
theorem hdR_waiting : yX8_waiting.cls = RX8 ∧ yX8_waiting.cls ≠ "java/lang/invoke/MethodHandle" ∧ yX8_waiting.cls ≠ "java/lang/invoke/VarHandle" ∧ (parseMethodDescriptor yX8_waiting.desc).map (fun d => d.parameters.length) = some 1 := by decide +kernel
theorem cR_waiting (l : Launch) (G : rG) (s : RSt) (v1 : Int32) (post : Int32 → RSt → Prop) (hw : wpR_waiting_0 post s v1) : rMi l yX8_waiting cX8_waiting 4 .int 0 0 G s [.int v1] post := rMi_of (by decide +kernel) rfl (Nat.le_of_ble_eq_true rfl) (fun X A H0 Q hl hR hsz C hret => wkR_waiting_0 C hsz hR hret s v1 hw)
def wpR_chooses_243 (post : RSt → Prop) (K184 : RSt → Int32 → Int32 → Int32 → Int32 → Prop) (s : RSt) (v1 : Int32) (v2 : Int32) (v3 : Int32) (v4 : Int32) : Prop := K184 s v1 v2 v3 (v4 + 1)
def wpR_chooses_240 (post : RSt → Prop) (K184 : RSt → Int32 → Int32 → Int32 → Int32 → Prop) (s : RSt) (v1 : Int32) (v2 : Int32) (v4 : Int32) : Prop := wpR_chooses_243 post K184 s v1 v2 v4 v4
def wpR_chooses_184_F (post : RSt → Prop) (K184 : RSt → Int32 → Int32 → Int32 → Int32 → Prop) (s : RSt) (v1 : Int32) (v2 : Int32) (v3 : Int32) (v4 : Int32) : Prop := ((s.1 7) ≤ v4 → (0 ≤ v3 → vp_in (v2 + 2) 420 ∧ ∀ s3 : RSt, s3 = rsA s 21 (v2 + 2).toNatClampNeg 1 → vp_in (v2 + 3) 420 ∧ ∀ s4 : RSt, s4 = rsA s3 21 (v2 + 3).toNatClampNeg v3 → vp_in v3 8 ∧ vp_in ((60 * v3) + (s4.2.1 6 v3.toNatClampNeg)) 480 ∧ ∀ s5 : RSt, s5 = rsA s4 5 ((60 * v3) + (s4.2.1 6 v3.toNatClampNeg)).toNatClampNeg v1 → vp_in v3 8 ∧ vp_in v3 8 ∧ ∀ s6 : RSt, s6 = rsA s5 6 v3.toNatClampNeg ((s5.2.1 6 v3.toNatClampNeg) + 1) → post s6) ∧ (¬ 0 ≤ v3 → post s)) ∧ (¬ (s.1 7) ≤ v4 → wpR_isRunning_0 (fun r8 s7 => (r8 = 0 → wpR_chooses_243 post K184 s7 v1 v2 v3 v4) ∧ (¬ r8 = 0 → vp_in (5 * v4) 40 ∧ vp_in (v2 + 3) 420 ∧ (¬ (s7.2.1 3 (5 * v4).toNatClampNeg) = (s7.2.1 21 (v2 + 3).toNatClampNeg) → wpR_chooses_243 post K184 s7 v1 v2 v3 v4) ∧ ((s7.2.1 3 (5 * v4).toNatClampNeg) = (s7.2.1 21 (v2 + 3).toNatClampNeg) → (v3 < 0 → wpR_chooses_240 post K184 s7 v1 v2 v4) ∧ (¬ v3 < 0 → wpR_waiting_0 (fun r13 s12 => wpR_waiting_0 (fun r15 s14 => (r15 ≤ r13 → wpR_chooses_243 post K184 s14 v1 v2 v3 v4) ∧ (¬ r15 ≤ r13 → wpR_chooses_240 post K184 s14 v1 v2 v4)) s12 v3) s7 v4)))) s v4)
def wpR_chooses_184 (post : RSt → Prop) (s : RSt) (v1 : Int32) (v2 : Int32) (v3 : Int32) (v4 : Int32) : Prop := gLP (fun (K : RSt × Int32 × Int32 × Int32 × Int32 → Prop) (x : RSt × Int32 × Int32 × Int32 × Int32) => wpR_chooses_184_F post (fun s v1 v2 v3 v4 => K (s, v1, v2, v3, v4)) x.1 x.2.1 x.2.2.1 x.2.2.2.1 x.2.2.2.2) (s, v1, v2, v3, v4)
def wpR_chooses_109 (post : RSt → Prop) (K10 : RSt → Int32 → Int32 → Int32 → Int32 → Prop) (s : RSt) (v1 : Int32) (v2 : Int32) (v3 : Int32) (v4 : Int32) : Prop := K10 s v1 v2 v3 (v4 + 1)
def wpR_chooses_106 (post : RSt → Prop) (K10 : RSt → Int32 → Int32 → Int32 → Int32 → Prop) (s : RSt) (v1 : Int32) (v2 : Int32) (v4 : Int32) : Prop := wpR_chooses_109 post K10 s v1 v2 v4 v4
def wpR_chooses_10_F (post : RSt → Prop) (K10 : RSt → Int32 → Int32 → Int32 → Int32 → Prop) (s : RSt) (v1 : Int32) (v2 : Int32) (v3 : Int32) (v4 : Int32) : Prop := ((s.1 9) ≤ v4 → (v3 < 0 → wpR_chooses_184 post s v1 v2 v3 0) ∧ (¬ v3 < 0 → vp_in (v2 + 2) 420 ∧ ∀ s19 : RSt, s19 = rsA s 21 (v2 + 2).toNatClampNeg 3 → vp_in (v2 + 3) 420 ∧ ∀ s20 : RSt, s20 = rsA s19 21 (v2 + 3).toNatClampNeg v3 → vp_in ((6 * v3) + 2) 60 ∧ vp_in (v2 + 4) 420 ∧ ∀ s21 : RSt, s21 = rsA s20 21 (v2 + 4).toNatClampNeg (s20.2.1 8 ((6 * v3) + 2).toNatClampNeg) → vp_in (v2 + 6) 420 ∧ vp_in (v2 + 6) 420 ∧ ∀ s22 : RSt, s22 = rsA s21 21 (v2 + 6).toNatClampNeg ((s21.2.1 21 (v2 + 6).toNatClampNeg) + 1) → vp_in v2 420 ∧ wpR_wears_0 (fun s23 => post s23) s22 v3 (s22.2.1 21 v2.toNatClampNeg))) ∧ (¬ (s.1 9) ≤ v4 → vp_in v4 10 ∧ ((s.2.1 40 v4.toNatClampNeg) = 0 → wpR_chooses_109 post K10 s v1 v2 v3 v4) ∧ (¬ (s.2.1 40 v4.toNatClampNeg) = 0 → vp_in (6 * v4) 60 ∧ vp_in (v2 + 3) 420 ∧ (¬ (s.2.1 8 (6 * v4).toNatClampNeg) = (s.2.1 21 (v2 + 3).toNatClampNeg) → wpR_chooses_109 post K10 s v1 v2 v3 v4) ∧ ((s.2.1 8 (6 * v4).toNatClampNeg) = (s.2.1 21 (v2 + 3).toNatClampNeg) → vp_in ((6 * v4) + 3) 60 ∧ vp_in (v2 + 1) 420 ∧ ((s.2.1 8 ((6 * v4) + 3).toNatClampNeg) ≤ (s.2.1 21 (v2 + 1).toNatClampNeg) → (v3 < 0 → wpR_chooses_106 post K10 s v1 v2 v4) ∧ (¬ v3 < 0 → vp_in ((6 * v4) + 3) 60 ∧ vp_in ((6 * v3) + 3) 60 ∧ ((s.2.1 8 ((6 * v4) + 3).toNatClampNeg) ≤ (s.2.1 8 ((6 * v3) + 3).toNatClampNeg) → wpR_chooses_109 post K10 s v1 v2 v3 v4) ∧ (¬ (s.2.1 8 ((6 * v4) + 3).toNatClampNeg) ≤ (s.2.1 8 ((6 * v3) + 3).toNatClampNeg) → wpR_chooses_106 post K10 s v1 v2 v4))) ∧ (¬ (s.2.1 8 ((6 * v4) + 3).toNatClampNeg) ≤ (s.2.1 21 (v2 + 1).toNatClampNeg) → wpR_chooses_109 post K10 s v1 v2 v3 v4))))
def wpR_chooses_10 (post : RSt → Prop) (s : RSt) (v1 : Int32) (v2 : Int32) (v3 : Int32) (v4 : Int32) : Prop := gLP (fun (K : RSt × Int32 × Int32 × Int32 × Int32 → Prop) (x : RSt × Int32 × Int32 × Int32 × Int32) => wpR_chooses_10_F post (fun s v1 v2 v3 v4 => K (s, v1, v2, v3, v4)) x.1 x.2.1 x.2.2.1 x.2.2.2.1 x.2.2.2.2) (s, v1, v2, v3, v4)
def wpR_chooses_0 (post : RSt → Prop) (s : RSt) (v1 : Int32) : Prop := wpR_chooses_10 post s v1 (7 * v1) (-1) 0
theorem wkR_chooses_243 {X : gT} {G : rG} {A : Nat → Prop} {H0 : Heap} {Q : State → Prop} (C : rC X cX8_chooses 5 G A) (hsz : H0 = (g_s X).heap) (hR : 1 ≤ (g_R X).frames ∧ 26 ≤ (g_R X).locals) {post : RSt → Prop} (hret : ∀ (τ : RSt) (lv : List (Nat × Value)) (pc : Nat), post τ → decode cX8_chooses pc = .ok (.return_, 1) → gJ X (rWd G A H0) Q 0 0 τ lv pc []) {K184 : RSt → Int32 → Int32 → Int32 → Int32 → Prop} (hK184 : ∀ (s : RSt) (v1 : Int32) (v2 : Int32) (v3 : Int32) (v4 : Int32), K184 s v1 v2 v3 v4 → gJ X (rWd G A H0) Q 0 0 s [(0, .ref (G.2.2.1 0)), (1, .int v1), (2, .int v2), (3, .int v3), (4, .int v4)] 184 []) (s : RSt) (v1 : Int32) (v2 : Int32) (v3 : Int32) (v4 : Int32) (hw : wpR_chooses_243 post K184 s v1 v2 v3 v4) : gJ X (rWd G A H0) Q 0 0 s [(0, .ref (G.2.2.1 0)), (1, .int v1), (2, .int v2), (3, .int v3), (4, .int v4)] 243 [] := by
  refine g_iinc (v := v4 + 1) (lv' := [(4, .int (v4 + 1)), (0, .ref (G.2.2.1 0)), (1, .int v1), (2, .int v2), (3, .int v3)]) C.1 4 dX8_chooses_243 rfl rfl (by decide) rfl ?_
  refine g_goto (tgt := 184) C.1 dX8_chooses_246 (by decide) ?_
  refine gJ.sub [1, 2, 3, 4, 0] rfl ?_
  exact hK184 _ _ _ _ _ hw
theorem wkR_chooses_240 {X : gT} {G : rG} {A : Nat → Prop} {H0 : Heap} {Q : State → Prop} (C : rC X cX8_chooses 5 G A) (hsz : H0 = (g_s X).heap) (hR : 1 ≤ (g_R X).frames ∧ 26 ≤ (g_R X).locals) {post : RSt → Prop} (hret : ∀ (τ : RSt) (lv : List (Nat × Value)) (pc : Nat), post τ → decode cX8_chooses pc = .ok (.return_, 1) → gJ X (rWd G A H0) Q 0 0 τ lv pc []) {K184 : RSt → Int32 → Int32 → Int32 → Int32 → Prop} (hK184 : ∀ (s : RSt) (v1 : Int32) (v2 : Int32) (v3 : Int32) (v4 : Int32), K184 s v1 v2 v3 v4 → gJ X (rWd G A H0) Q 0 0 s [(0, .ref (G.2.2.1 0)), (1, .int v1), (2, .int v2), (3, .int v3), (4, .int v4)] 184 []) (s : RSt) (v1 : Int32) (v2 : Int32) (v4 : Int32) (hw : wpR_chooses_240 post K184 s v1 v2 v4) : gJ X (rWd G A H0) Q 0 0 s [(0, .ref (G.2.2.1 0)), (1, .int v1), (2, .int v2), (4, .int v4)] 240 [] := by
  refine g_iload C.1 3 dX8_chooses_240 rfl ?_
  refine g_istore_n (lv' := [(3, .int v4), (0, .ref (G.2.2.1 0)), (1, .int v1), (2, .int v2), (4, .int v4)]) C.1 dX8_chooses_242 rfl (by decide) rfl ?_
  refine gJ.sub [1, 2, 3, 0, 4] rfl ?_
  exact wkR_chooses_243 C hsz hR hret hK184 _ _ _ _ _ hw
theorem wkR_chooses_184_F {X : gT} {G : rG} {A : Nat → Prop} {H0 : Heap} {Q : State → Prop} (C : rC X cX8_chooses 5 G A) (hsz : H0 = (g_s X).heap) (hR : 1 ≤ (g_R X).frames ∧ 26 ≤ (g_R X).locals) {post : RSt → Prop} (hret : ∀ (τ : RSt) (lv : List (Nat × Value)) (pc : Nat), post τ → decode cX8_chooses pc = .ok (.return_, 1) → gJ X (rWd G A H0) Q 0 0 τ lv pc []) {K184 : RSt → Int32 → Int32 → Int32 → Int32 → Prop} (hK184 : ∀ (s : RSt) (v1 : Int32) (v2 : Int32) (v3 : Int32) (v4 : Int32), K184 s v1 v2 v3 v4 → gJ X (rWd G A H0) Q 0 0 s [(0, .ref (G.2.2.1 0)), (1, .int v1), (2, .int v2), (3, .int v3), (4, .int v4)] 184 []) (s : RSt) (v1 : Int32) (v2 : Int32) (v3 : Int32) (v4 : Int32) (hw : wpR_chooses_184_F post K184 s v1 v2 v3 v4) : gJ X (rWd G A H0) Q 0 0 s [(0, .ref (G.2.2.1 0)), (1, .int v1), (2, .int v2), (3, .int v3), (4, .int v4)] 184 [] := by
  refine g_iload C.1 4 dX8_chooses_184 rfl ?_
  refine g_aload_n C.1 0 dX8_chooses_186 rfl rfl ?_
  refine r_g7 C dX8_chooses_187 ?_
  refine g_icmp_ge (tgt := 249) C.1 dX8_chooses_190 (by decide) (fun h1 => ?_) (fun h1 => ?_)
  · replace hw := hw.1 h1
    refine g_iload_n C.1 3 dX8_chooses_249 rfl rfl ?_
    refine g_if_ge (tgt := 254) C.1 dX8_chooses_250 (by decide) (fun h2 => ?_) (fun h2 => ?_)
    · replace hw := hw.1 h2
      refine g_aload_n C.1 0 dX8_chooses_254 rfl rfl ?_
      refine r_g21 C dX8_chooses_255 ?_
      refine g_iload_n C.1 2 dX8_chooses_258 rfl rfl ?_
      refine g_iconst (v := 2) C.1 dX8_chooses_259 (by decide) ?_
      refine g_iadd C.1 dX8_chooses_260 ?_
      refine g_iconst (v := 1) C.1 dX8_chooses_261 (by decide) ?_
      refine r_st21 C hw.1 dX8_chooses_262 ?_
      replace hw := hw.2
      refine gJ.nm (fun s3 es3 => ?_)
      replace hw := hw s3 es3
      refine g_aload_n C.1 0 dX8_chooses_263 rfl rfl ?_
      refine r_g21 C dX8_chooses_264 ?_
      refine g_iload_n C.1 2 dX8_chooses_267 rfl rfl ?_
      refine g_iconst (v := 3) C.1 dX8_chooses_268 (by decide) ?_
      refine g_iadd C.1 dX8_chooses_269 ?_
      refine g_iload_n C.1 3 dX8_chooses_270 rfl rfl ?_
      refine r_st21 C hw.1 dX8_chooses_271 ?_
      replace hw := hw.2
      refine gJ.nm (fun s4 es4 => ?_)
      replace hw := hw s4 es4
      refine g_aload_n C.1 0 dX8_chooses_272 rfl rfl ?_
      refine r_g5 C dX8_chooses_273 ?_
      refine g_bipush (v := 60) C.1 dX8_chooses_276 (by decide) ?_
      refine g_iload_n C.1 3 dX8_chooses_278 rfl rfl ?_
      refine g_imul C.1 dX8_chooses_279 ?_
      refine g_aload_n C.1 0 dX8_chooses_280 rfl rfl ?_
      refine r_g6 C dX8_chooses_281 ?_
      refine g_iload_n C.1 3 dX8_chooses_284 rfl rfl ?_
      refine r_ld6 C hw.1 dX8_chooses_285 ?_
      replace hw := hw.2
      refine g_iadd C.1 dX8_chooses_286 ?_
      refine g_iload_n C.1 1 dX8_chooses_287 rfl rfl ?_
      refine r_st5 C hw.1 dX8_chooses_288 ?_
      replace hw := hw.2
      refine gJ.nm (fun s5 es5 => ?_)
      replace hw := hw s5 es5
      refine g_aload_n C.1 0 dX8_chooses_289 rfl rfl ?_
      refine r_g6 C dX8_chooses_290 ?_
      refine g_iload_n C.1 3 dX8_chooses_293 rfl rfl ?_
      refine g_dup2 C.1 dX8_chooses_294 rfl rfl ?_
      refine r_ld6 C hw.1 dX8_chooses_295 ?_
      replace hw := hw.2
      refine g_iconst (v := 1) C.1 dX8_chooses_296 (by decide) ?_
      refine g_iadd C.1 dX8_chooses_297 ?_
      refine r_st6 C hw.1 dX8_chooses_298 ?_
      replace hw := hw.2
      refine gJ.nm (fun s6 es6 => ?_)
      replace hw := hw s6 es6
      exact hret _ _ _ hw dX8_chooses_299
    · replace hw := hw.2 h2
      exact hret _ _ _ hw dX8_chooses_253
  · replace hw := hw.2 h1
    refine g_aload_n C.1 0 dX8_chooses_193 rfl rfl ?_
    refine g_iload C.1 4 dX8_chooses_194 rfl ?_
    refine r_calli C hsz (cR_isRunning (g_l X) G s _ _ hw) kR_200 kR_201 kR_202 kR_72 hdR_isRunning ⟨Nat.le_trans (Nat.le_of_ble_eq_true rfl) hR.1, Nat.le_trans (Nat.le_of_ble_eq_true rfl) hR.2⟩ dX8_chooses_196 rfl (Nat.le_of_ble_eq_true rfl) (fun r8 s7 hw => ?_)
    refine g_if_eq (tgt := 243) C.1 dX8_chooses_199 (by decide) (fun h9 => ?_) (fun h9 => ?_)
    · replace hw := hw.1 h9
      exact wkR_chooses_243 C hsz hR hret hK184 _ _ _ _ _ hw
    · replace hw := hw.2 h9
      refine g_aload_n C.1 0 dX8_chooses_202 rfl rfl ?_
      refine r_g3 C dX8_chooses_203 ?_
      refine g_iconst (v := 5) C.1 dX8_chooses_206 (by decide) ?_
      refine g_iload C.1 4 dX8_chooses_207 rfl ?_
      refine g_imul C.1 dX8_chooses_209 ?_
      refine r_ld3 C hw.1 dX8_chooses_210 ?_
      replace hw := hw.2
      refine g_aload_n C.1 0 dX8_chooses_211 rfl rfl ?_
      refine r_g21 C dX8_chooses_212 ?_
      refine g_iload_n C.1 2 dX8_chooses_215 rfl rfl ?_
      refine g_iconst (v := 3) C.1 dX8_chooses_216 (by decide) ?_
      refine g_iadd C.1 dX8_chooses_217 ?_
      refine r_ld21 C hw.1 dX8_chooses_218 ?_
      replace hw := hw.2
      refine g_icmp_ne (tgt := 243) C.1 dX8_chooses_219 (by decide) (fun h10 => ?_) (fun h10 => ?_)
      · replace hw := hw.1 h10
        exact wkR_chooses_243 C hsz hR hret hK184 _ _ _ _ _ hw
      · replace hw := hw.2 h10
        refine g_iload_n C.1 3 dX8_chooses_222 rfl rfl ?_
        refine g_if_lt (tgt := 240) C.1 dX8_chooses_223 (by decide) (fun h11 => ?_) (fun h11 => ?_)
        · replace hw := hw.1 h11
          refine gJ.sub [0, 1, 2, 4] rfl ?_
          exact wkR_chooses_240 C hsz hR hret hK184 _ _ _ _ hw
        · replace hw := hw.2 h11
          refine g_aload_n C.1 0 dX8_chooses_226 rfl rfl ?_
          refine g_iload C.1 4 dX8_chooses_227 rfl ?_
          refine r_calli C hsz (cR_waiting (g_l X) G s7 _ _ hw) kR_231 kR_232 kR_233 kR_227 hdR_waiting ⟨Nat.le_trans (Nat.le_of_ble_eq_true rfl) hR.1, Nat.le_trans (Nat.le_of_ble_eq_true rfl) hR.2⟩ dX8_chooses_229 rfl (Nat.le_of_ble_eq_true rfl) (fun r13 s12 hw => ?_)
          refine g_aload_n C.1 0 dX8_chooses_232 rfl rfl ?_
          refine g_iload_n C.1 3 dX8_chooses_233 rfl rfl ?_
          refine r_calli C hsz (cR_waiting (g_l X) G s12 _ _ hw) kR_231 kR_232 kR_233 kR_227 hdR_waiting ⟨Nat.le_trans (Nat.le_of_ble_eq_true rfl) hR.1, Nat.le_trans (Nat.le_of_ble_eq_true rfl) hR.2⟩ dX8_chooses_234 rfl (Nat.le_of_ble_eq_true rfl) (fun r15 s14 hw => ?_)
          refine g_icmp_ge (tgt := 243) C.1 dX8_chooses_237 (by decide) (fun h16 => ?_) (fun h16 => ?_)
          · replace hw := hw.1 h16
            exact wkR_chooses_243 C hsz hR hret hK184 _ _ _ _ _ hw
          · replace hw := hw.2 h16
            refine gJ.sub [0, 1, 2, 4] rfl ?_
            exact wkR_chooses_240 C hsz hR hret hK184 _ _ _ _ hw
theorem wkR_chooses_184 {X : gT} {G : rG} {A : Nat → Prop} {H0 : Heap} {Q : State → Prop} (C : rC X cX8_chooses 5 G A) (hsz : H0 = (g_s X).heap) (hR : 1 ≤ (g_R X).frames ∧ 26 ≤ (g_R X).locals) {post : RSt → Prop} (hret : ∀ (τ : RSt) (lv : List (Nat × Value)) (pc : Nat), post τ → decode cX8_chooses pc = .ok (.return_, 1) → gJ X (rWd G A H0) Q 0 0 τ lv pc []) (s : RSt) (v1 : Int32) (v2 : Int32) (v3 : Int32) (v4 : Int32) (hw : wpR_chooses_184 post s v1 v2 v3 v4) : gJ X (rWd G A H0) Q 0 0 s [(0, .ref (G.2.2.1 0)), (1, .int v1), (2, .int v2), (3, .int v3), (4, .int v4)] 184 [] := 
  hw (fun (x : RSt × Int32 × Int32 × Int32 × Int32) => (fun s v1 v2 v3 v4 => gJ X (rWd G A H0) Q 0 0 s [(0, .ref (G.2.2.1 0)), (1, .int v1), (2, .int v2), (3, .int v3), (4, .int v4)] 184 []) x.1 x.2.1 x.2.2.1 x.2.2.2.1 x.2.2.2.2) (fun x hx => wkR_chooses_184_F C hsz hR hret (K184 := (fun s v1 v2 v3 v4 => gJ X (rWd G A H0) Q 0 0 s [(0, .ref (G.2.2.1 0)), (1, .int v1), (2, .int v2), (3, .int v3), (4, .int v4)] 184 [])) (fun _ _ _ _ _ h => h) x.1 x.2.1 x.2.2.1 x.2.2.2.1 x.2.2.2.2 hx)
theorem wkR_chooses_109 {X : gT} {G : rG} {A : Nat → Prop} {H0 : Heap} {Q : State → Prop} (C : rC X cX8_chooses 5 G A) (hsz : H0 = (g_s X).heap) (hR : 1 ≤ (g_R X).frames ∧ 26 ≤ (g_R X).locals) {post : RSt → Prop} (hret : ∀ (τ : RSt) (lv : List (Nat × Value)) (pc : Nat), post τ → decode cX8_chooses pc = .ok (.return_, 1) → gJ X (rWd G A H0) Q 0 0 τ lv pc []) {K10 : RSt → Int32 → Int32 → Int32 → Int32 → Prop} (hK10 : ∀ (s : RSt) (v1 : Int32) (v2 : Int32) (v3 : Int32) (v4 : Int32), K10 s v1 v2 v3 v4 → gJ X (rWd G A H0) Q 0 0 s [(0, .ref (G.2.2.1 0)), (1, .int v1), (2, .int v2), (3, .int v3), (4, .int v4)] 10 []) (s : RSt) (v1 : Int32) (v2 : Int32) (v3 : Int32) (v4 : Int32) (hw : wpR_chooses_109 post K10 s v1 v2 v3 v4) : gJ X (rWd G A H0) Q 0 0 s [(0, .ref (G.2.2.1 0)), (1, .int v1), (2, .int v2), (3, .int v3), (4, .int v4)] 109 [] := by
  refine g_iinc (v := v4 + 1) (lv' := [(4, .int (v4 + 1)), (0, .ref (G.2.2.1 0)), (1, .int v1), (2, .int v2), (3, .int v3)]) C.1 4 dX8_chooses_109 rfl rfl (by decide) rfl ?_
  refine g_goto (tgt := 10) C.1 dX8_chooses_112 (by decide) ?_
  refine gJ.sub [1, 2, 3, 4, 0] rfl ?_
  exact hK10 _ _ _ _ _ hw
theorem wkR_chooses_106 {X : gT} {G : rG} {A : Nat → Prop} {H0 : Heap} {Q : State → Prop} (C : rC X cX8_chooses 5 G A) (hsz : H0 = (g_s X).heap) (hR : 1 ≤ (g_R X).frames ∧ 26 ≤ (g_R X).locals) {post : RSt → Prop} (hret : ∀ (τ : RSt) (lv : List (Nat × Value)) (pc : Nat), post τ → decode cX8_chooses pc = .ok (.return_, 1) → gJ X (rWd G A H0) Q 0 0 τ lv pc []) {K10 : RSt → Int32 → Int32 → Int32 → Int32 → Prop} (hK10 : ∀ (s : RSt) (v1 : Int32) (v2 : Int32) (v3 : Int32) (v4 : Int32), K10 s v1 v2 v3 v4 → gJ X (rWd G A H0) Q 0 0 s [(0, .ref (G.2.2.1 0)), (1, .int v1), (2, .int v2), (3, .int v3), (4, .int v4)] 10 []) (s : RSt) (v1 : Int32) (v2 : Int32) (v4 : Int32) (hw : wpR_chooses_106 post K10 s v1 v2 v4) : gJ X (rWd G A H0) Q 0 0 s [(0, .ref (G.2.2.1 0)), (1, .int v1), (2, .int v2), (4, .int v4)] 106 [] := by
  refine g_iload C.1 3 dX8_chooses_106 rfl ?_
  refine g_istore_n (lv' := [(3, .int v4), (0, .ref (G.2.2.1 0)), (1, .int v1), (2, .int v2), (4, .int v4)]) C.1 dX8_chooses_108 rfl (by decide) rfl ?_
  refine gJ.sub [1, 2, 3, 0, 4] rfl ?_
  exact wkR_chooses_109 C hsz hR hret hK10 _ _ _ _ _ hw
theorem wkR_chooses_10_F {X : gT} {G : rG} {A : Nat → Prop} {H0 : Heap} {Q : State → Prop} (C : rC X cX8_chooses 5 G A) (hsz : H0 = (g_s X).heap) (hR : 1 ≤ (g_R X).frames ∧ 26 ≤ (g_R X).locals) {post : RSt → Prop} (hret : ∀ (τ : RSt) (lv : List (Nat × Value)) (pc : Nat), post τ → decode cX8_chooses pc = .ok (.return_, 1) → gJ X (rWd G A H0) Q 0 0 τ lv pc []) {K10 : RSt → Int32 → Int32 → Int32 → Int32 → Prop} (hK10 : ∀ (s : RSt) (v1 : Int32) (v2 : Int32) (v3 : Int32) (v4 : Int32), K10 s v1 v2 v3 v4 → gJ X (rWd G A H0) Q 0 0 s [(0, .ref (G.2.2.1 0)), (1, .int v1), (2, .int v2), (3, .int v3), (4, .int v4)] 10 []) (s : RSt) (v1 : Int32) (v2 : Int32) (v3 : Int32) (v4 : Int32) (hw : wpR_chooses_10_F post K10 s v1 v2 v3 v4) : gJ X (rWd G A H0) Q 0 0 s [(0, .ref (G.2.2.1 0)), (1, .int v1), (2, .int v2), (3, .int v3), (4, .int v4)] 10 [] := by
  refine g_iload C.1 4 dX8_chooses_10 rfl ?_
  refine g_aload_n C.1 0 dX8_chooses_12 rfl rfl ?_
  refine r_g9 C dX8_chooses_13 ?_
  refine g_icmp_ge (tgt := 115) C.1 dX8_chooses_16 (by decide) (fun h17 => ?_) (fun h17 => ?_)
  · replace hw := hw.1 h17
    refine g_iload_n C.1 3 dX8_chooses_115 rfl rfl ?_
    refine g_if_lt (tgt := 181) C.1 dX8_chooses_116 (by decide) (fun h18 => ?_) (fun h18 => ?_)
    · replace hw := hw.1 h18
      refine g_iconst (v := 0) C.1 dX8_chooses_181 (by decide) ?_
      refine g_istore (lv' := [(4, .int 0), (0, .ref (G.2.2.1 0)), (1, .int v1), (2, .int v2), (3, .int v3)]) C.1 dX8_chooses_182 (by decide) rfl ?_
      refine gJ.sub [1, 2, 3, 4, 0] rfl ?_
      exact wkR_chooses_184 C hsz hR hret _ _ _ _ _ hw
    · replace hw := hw.2 h18
      refine g_aload_n C.1 0 dX8_chooses_119 rfl rfl ?_
      refine r_g21 C dX8_chooses_120 ?_
      refine g_iload_n C.1 2 dX8_chooses_123 rfl rfl ?_
      refine g_iconst (v := 2) C.1 dX8_chooses_124 (by decide) ?_
      refine g_iadd C.1 dX8_chooses_125 ?_
      refine g_iconst (v := 3) C.1 dX8_chooses_126 (by decide) ?_
      refine r_st21 C hw.1 dX8_chooses_127 ?_
      replace hw := hw.2
      refine gJ.nm (fun s19 es19 => ?_)
      replace hw := hw s19 es19
      refine g_aload_n C.1 0 dX8_chooses_128 rfl rfl ?_
      refine r_g21 C dX8_chooses_129 ?_
      refine g_iload_n C.1 2 dX8_chooses_132 rfl rfl ?_
      refine g_iconst (v := 3) C.1 dX8_chooses_133 (by decide) ?_
      refine g_iadd C.1 dX8_chooses_134 ?_
      refine g_iload_n C.1 3 dX8_chooses_135 rfl rfl ?_
      refine r_st21 C hw.1 dX8_chooses_136 ?_
      replace hw := hw.2
      refine gJ.nm (fun s20 es20 => ?_)
      replace hw := hw s20 es20
      refine g_aload_n C.1 0 dX8_chooses_137 rfl rfl ?_
      refine r_g21 C dX8_chooses_138 ?_
      refine g_iload_n C.1 2 dX8_chooses_141 rfl rfl ?_
      refine g_iconst (v := 4) C.1 dX8_chooses_142 (by decide) ?_
      refine g_iadd C.1 dX8_chooses_143 ?_
      refine g_aload_n C.1 0 dX8_chooses_144 rfl rfl ?_
      refine r_g8 C dX8_chooses_145 ?_
      refine g_bipush (v := 6) C.1 dX8_chooses_148 (by decide) ?_
      refine g_iload_n C.1 3 dX8_chooses_150 rfl rfl ?_
      refine g_imul C.1 dX8_chooses_151 ?_
      refine g_iconst (v := 2) C.1 dX8_chooses_152 (by decide) ?_
      refine g_iadd C.1 dX8_chooses_153 ?_
      refine r_ld8 C hw.1 dX8_chooses_154 ?_
      replace hw := hw.2
      refine r_st21 C hw.1 dX8_chooses_155 ?_
      replace hw := hw.2
      refine gJ.nm (fun s21 es21 => ?_)
      replace hw := hw s21 es21
      refine g_aload_n C.1 0 dX8_chooses_156 rfl rfl ?_
      refine r_g21 C dX8_chooses_157 ?_
      refine g_iload_n C.1 2 dX8_chooses_160 rfl rfl ?_
      refine g_bipush (v := 6) C.1 dX8_chooses_161 (by decide) ?_
      refine g_iadd C.1 dX8_chooses_163 ?_
      refine g_dup2 C.1 dX8_chooses_164 rfl rfl ?_
      refine r_ld21 C hw.1 dX8_chooses_165 ?_
      replace hw := hw.2
      refine g_iconst (v := 1) C.1 dX8_chooses_166 (by decide) ?_
      refine g_iadd C.1 dX8_chooses_167 ?_
      refine r_st21 C hw.1 dX8_chooses_168 ?_
      replace hw := hw.2
      refine gJ.nm (fun s22 es22 => ?_)
      replace hw := hw s22 es22
      refine g_aload_n C.1 0 dX8_chooses_169 rfl rfl ?_
      refine g_iload_n C.1 3 dX8_chooses_170 rfl rfl ?_
      refine g_aload_n C.1 0 dX8_chooses_171 rfl rfl ?_
      refine r_g21 C dX8_chooses_172 ?_
      refine g_iload_n C.1 2 dX8_chooses_175 rfl rfl ?_
      refine r_ld21 C hw.1 dX8_chooses_176 ?_
      replace hw := hw.2
      refine r_callv C hsz (cR_wears (g_l X) G s22 _ _ _ hw) kR_228 kR_229 kR_230 kR_226 hdR_wears ⟨Nat.le_trans (Nat.le_of_ble_eq_true rfl) hR.1, Nat.le_trans (Nat.le_of_ble_eq_true rfl) hR.2⟩ dX8_chooses_177 rfl (Nat.le_of_ble_eq_true rfl) (fun s23 hw => ?_)
      exact hret _ _ _ hw dX8_chooses_180
  · replace hw := hw.2 h17
    refine g_aload_n C.1 0 dX8_chooses_19 rfl rfl ?_
    refine r_g40 C dX8_chooses_20 ?_
    refine g_iload C.1 4 dX8_chooses_23 rfl ?_
    refine r_ld40 C hw.1 dX8_chooses_25 ?_
    replace hw := hw.2
    refine g_if_eq (tgt := 109) C.1 dX8_chooses_26 (by decide) (fun h24 => ?_) (fun h24 => ?_)
    · replace hw := hw.1 h24
      exact wkR_chooses_109 C hsz hR hret hK10 _ _ _ _ _ hw
    · replace hw := hw.2 h24
      refine g_aload_n C.1 0 dX8_chooses_29 rfl rfl ?_
      refine r_g8 C dX8_chooses_30 ?_
      refine g_bipush (v := 6) C.1 dX8_chooses_33 (by decide) ?_
      refine g_iload C.1 4 dX8_chooses_35 rfl ?_
      refine g_imul C.1 dX8_chooses_37 ?_
      refine r_ld8 C hw.1 dX8_chooses_38 ?_
      replace hw := hw.2
      refine g_aload_n C.1 0 dX8_chooses_39 rfl rfl ?_
      refine r_g21 C dX8_chooses_40 ?_
      refine g_iload_n C.1 2 dX8_chooses_43 rfl rfl ?_
      refine g_iconst (v := 3) C.1 dX8_chooses_44 (by decide) ?_
      refine g_iadd C.1 dX8_chooses_45 ?_
      refine r_ld21 C hw.1 dX8_chooses_46 ?_
      replace hw := hw.2
      refine g_icmp_ne (tgt := 109) C.1 dX8_chooses_47 (by decide) (fun h25 => ?_) (fun h25 => ?_)
      · replace hw := hw.1 h25
        exact wkR_chooses_109 C hsz hR hret hK10 _ _ _ _ _ hw
      · replace hw := hw.2 h25
        refine g_aload_n C.1 0 dX8_chooses_50 rfl rfl ?_
        refine r_g8 C dX8_chooses_51 ?_
        refine g_bipush (v := 6) C.1 dX8_chooses_54 (by decide) ?_
        refine g_iload C.1 4 dX8_chooses_56 rfl ?_
        refine g_imul C.1 dX8_chooses_58 ?_
        refine g_iconst (v := 3) C.1 dX8_chooses_59 (by decide) ?_
        refine g_iadd C.1 dX8_chooses_60 ?_
        refine r_ld8 C hw.1 dX8_chooses_61 ?_
        replace hw := hw.2
        refine g_aload_n C.1 0 dX8_chooses_62 rfl rfl ?_
        refine r_g21 C dX8_chooses_63 ?_
        refine g_iload_n C.1 2 dX8_chooses_66 rfl rfl ?_
        refine g_iconst (v := 1) C.1 dX8_chooses_67 (by decide) ?_
        refine g_iadd C.1 dX8_chooses_68 ?_
        refine r_ld21 C hw.1 dX8_chooses_69 ?_
        replace hw := hw.2
        refine g_icmp_le (tgt := 76) C.1 dX8_chooses_70 (by decide) (fun h26 => ?_) (fun h26 => ?_)
        · replace hw := hw.1 h26
          refine g_iload_n C.1 3 dX8_chooses_76 rfl rfl ?_
          refine g_if_lt (tgt := 106) C.1 dX8_chooses_77 (by decide) (fun h27 => ?_) (fun h27 => ?_)
          · replace hw := hw.1 h27
            refine gJ.sub [0, 1, 2, 4] rfl ?_
            exact wkR_chooses_106 C hsz hR hret hK10 _ _ _ _ hw
          · replace hw := hw.2 h27
            refine g_aload_n C.1 0 dX8_chooses_80 rfl rfl ?_
            refine r_g8 C dX8_chooses_81 ?_
            refine g_bipush (v := 6) C.1 dX8_chooses_84 (by decide) ?_
            refine g_iload C.1 4 dX8_chooses_86 rfl ?_
            refine g_imul C.1 dX8_chooses_88 ?_
            refine g_iconst (v := 3) C.1 dX8_chooses_89 (by decide) ?_
            refine g_iadd C.1 dX8_chooses_90 ?_
            refine r_ld8 C hw.1 dX8_chooses_91 ?_
            replace hw := hw.2
            refine g_aload_n C.1 0 dX8_chooses_92 rfl rfl ?_
            refine r_g8 C dX8_chooses_93 ?_
            refine g_bipush (v := 6) C.1 dX8_chooses_96 (by decide) ?_
            refine g_iload_n C.1 3 dX8_chooses_98 rfl rfl ?_
            refine g_imul C.1 dX8_chooses_99 ?_
            refine g_iconst (v := 3) C.1 dX8_chooses_100 (by decide) ?_
            refine g_iadd C.1 dX8_chooses_101 ?_
            refine r_ld8 C hw.1 dX8_chooses_102 ?_
            replace hw := hw.2
            refine g_icmp_le (tgt := 109) C.1 dX8_chooses_103 (by decide) (fun h28 => ?_) (fun h28 => ?_)
            · replace hw := hw.1 h28
              exact wkR_chooses_109 C hsz hR hret hK10 _ _ _ _ _ hw
            · replace hw := hw.2 h28
              refine gJ.sub [0, 1, 2, 4] rfl ?_
              exact wkR_chooses_106 C hsz hR hret hK10 _ _ _ _ hw
        · replace hw := hw.2 h26
          refine g_goto (tgt := 109) C.1 dX8_chooses_73 (by decide) ?_
          exact wkR_chooses_109 C hsz hR hret hK10 _ _ _ _ _ hw
theorem wkR_chooses_10 {X : gT} {G : rG} {A : Nat → Prop} {H0 : Heap} {Q : State → Prop} (C : rC X cX8_chooses 5 G A) (hsz : H0 = (g_s X).heap) (hR : 1 ≤ (g_R X).frames ∧ 26 ≤ (g_R X).locals) {post : RSt → Prop} (hret : ∀ (τ : RSt) (lv : List (Nat × Value)) (pc : Nat), post τ → decode cX8_chooses pc = .ok (.return_, 1) → gJ X (rWd G A H0) Q 0 0 τ lv pc []) (s : RSt) (v1 : Int32) (v2 : Int32) (v3 : Int32) (v4 : Int32) (hw : wpR_chooses_10 post s v1 v2 v3 v4) : gJ X (rWd G A H0) Q 0 0 s [(0, .ref (G.2.2.1 0)), (1, .int v1), (2, .int v2), (3, .int v3), (4, .int v4)] 10 [] := 
  hw (fun (x : RSt × Int32 × Int32 × Int32 × Int32) => (fun s v1 v2 v3 v4 => gJ X (rWd G A H0) Q 0 0 s [(0, .ref (G.2.2.1 0)), (1, .int v1), (2, .int v2), (3, .int v3), (4, .int v4)] 10 []) x.1 x.2.1 x.2.2.1 x.2.2.2.1 x.2.2.2.2) (fun x hx => wkR_chooses_10_F C hsz hR hret (K10 := (fun s v1 v2 v3 v4 => gJ X (rWd G A H0) Q 0 0 s [(0, .ref (G.2.2.1 0)), (1, .int v1), (2, .int v2), (3, .int v3), (4, .int v4)] 10 [])) (fun _ _ _ _ _ h => h) x.1 x.2.1 x.2.2.1 x.2.2.2.1 x.2.2.2.2 hx)
theorem wkR_chooses_0 {X : gT} {G : rG} {A : Nat → Prop} {H0 : Heap} {Q : State → Prop} (C : rC X cX8_chooses 5 G A) (hsz : H0 = (g_s X).heap) (hR : 1 ≤ (g_R X).frames ∧ 26 ≤ (g_R X).locals) {post : RSt → Prop} (hret : ∀ (τ : RSt) (lv : List (Nat × Value)) (pc : Nat), post τ → decode cX8_chooses pc = .ok (.return_, 1) → gJ X (rWd G A H0) Q 0 0 τ lv pc []) (s : RSt) (v1 : Int32) (hw : wpR_chooses_0 post s v1) : gJ X (rWd G A H0) Q 0 0 s [(0, .ref (G.2.2.1 0)), (1, .int v1)] 0 [] := by
  refine g_bipush (v := 7) C.1 dX8_chooses_0 (by decide) ?_
  refine g_iload_n C.1 1 dX8_chooses_2 rfl rfl ?_
  refine g_imul C.1 dX8_chooses_3 ?_
  refine g_istore_n (lv' := [(2, .int (7 * v1)), (0, .ref (G.2.2.1 0)), (1, .int v1)]) C.1 dX8_chooses_4 rfl (by decide) rfl ?_
  refine g_iconst (v := (-1)) C.1 dX8_chooses_5 (by decide) ?_
  refine g_istore_n (lv' := [(3, .int (-1)), (2, .int (7 * v1)), (0, .ref (G.2.2.1 0)), (1, .int v1)]) C.1 dX8_chooses_6 rfl (by decide) rfl ?_
  refine g_iconst (v := 0) C.1 dX8_chooses_7 (by decide) ?_
  refine g_istore (lv' := [(4, .int 0), (3, .int (-1)), (2, .int (7 * v1)), (0, .ref (G.2.2.1 0)), (1, .int v1)]) C.1 dX8_chooses_8 (by decide) rfl ?_
  refine gJ.sub [3, 4, 2, 1, 0] rfl ?_
  exact wkR_chooses_10 C hsz hR hret _ _ _ _ _ hw
theorem hdR_chooses : yX8_chooses.cls = RX8 ∧ yX8_chooses.cls ≠ "java/lang/invoke/MethodHandle" ∧ yX8_chooses.cls ≠ "java/lang/invoke/VarHandle" ∧ (parseMethodDescriptor yX8_chooses.desc).map (fun d => d.parameters.length) = some 1 := by decide +kernel
theorem cR_chooses (l : Launch) (G : rG) (s : RSt) (v1 : Int32) (post : RSt → Prop) (hw : wpR_chooses_0 post s v1) : rMv l yX8_chooses cX8_chooses 5 1 26 G s [.int v1] post := rMv_of (by decide +kernel) rfl (Nat.le_of_ble_eq_true rfl) (fun X A H0 Q hl hR hsz C hret => wkR_chooses_0 C hsz hR hret s v1 hw)
def wpR_boards_133_F (post : RSt → Prop) (K133 : RSt → Int32 → Int32 → Int32 → Prop) (s : RSt) (v1 : Int32) (v3 : Int32) (v4 : Int32) : Prop := vp_in v1 8 ∧ ((s.2.1 6 v1.toNatClampNeg) ≤ v4 → post s) ∧ (¬ (s.2.1 6 v1.toNatClampNeg) ≤ v4 → vp_in (((60 * v1) + v4) + v3) 480 ∧ vp_in ((60 * v1) + v4) 480 ∧ ∀ s2 : RSt, s2 = rsA s 5 ((60 * v1) + v4).toNatClampNeg (s.2.1 5 (((60 * v1) + v4) + v3).toNatClampNeg) → K133 s2 v1 v3 (v4 + 1))
def wpR_boards_133 (post : RSt → Prop) (s : RSt) (v1 : Int32) (v3 : Int32) (v4 : Int32) : Prop := gLP (fun (K : RSt × Int32 × Int32 × Int32 → Prop) (x : RSt × Int32 × Int32 × Int32) => wpR_boards_133_F post (fun s v1 v3 v4 => K (s, v1, v3, v4)) x.1 x.2.1 x.2.2.1 x.2.2.2) (s, v1, v3, v4)
def wpR_boards_120 (post : RSt → Prop) (s : RSt) (v1 : Int32) (v3 : Int32) : Prop := vp_in v1 8 ∧ vp_in v1 8 ∧ ∀ s3 : RSt, s3 = rsA s 6 v1.toNatClampNeg ((s.2.1 6 v1.toNatClampNeg) - v3) → wpR_boards_133 post s3 v1 v3 0
def wpR_boards_13_F (post : RSt → Prop) (K13 : RSt → Int32 → Int32 → Int32 → Prop) (s : RSt) (v1 : Int32) (v2 : Int32) (v3 : Int32) : Prop := vp_in v1 8 ∧ ((s.2.1 6 v1.toNatClampNeg) ≤ v3 → wpR_boards_120 post s v1 v3) ∧ (¬ (s.2.1 6 v1.toNatClampNeg) ≤ v3 → vp_in ((60 * v1) + v3) 480 ∧ vp_in (7 * (s.2.1 5 ((60 * v1) + v3).toNatClampNeg)) 420 ∧ (v2 < (s.2.1 21 (7 * (s.2.1 5 ((60 * v1) + v3).toNatClampNeg)).toNatClampNeg) → wpR_boards_120 post s v1 v3) ∧ (¬ v2 < (s.2.1 21 (7 * (s.2.1 5 ((60 * v1) + v3).toNatClampNeg)).toNatClampNeg) → vp_in ((60 * v1) + v3) 480 ∧ vp_in (7 * (s.2.1 5 ((60 * v1) + v3).toNatClampNeg)) 420 ∧ ∀ x6 : Int32, x6 = v2 - (s.2.1 21 (7 * (s.2.1 5 ((60 * v1) + v3).toNatClampNeg)).toNatClampNeg) → vp_in ((7 * (s.2.1 5 ((60 * v1) + v3).toNatClampNeg)) + 2) 420 ∧ ∀ s7 : RSt, s7 = rsA s 21 ((7 * (s.2.1 5 ((60 * v1) + v3).toNatClampNeg)) + 2).toNatClampNeg 2 → vp_in ((5 * v1) + 3) 40 ∧ vp_in ((7 * (s.2.1 5 ((60 * v1) + v3).toNatClampNeg)) + 4) 420 ∧ ∀ s8 : RSt, s8 = rsA s7 21 ((7 * (s.2.1 5 ((60 * v1) + v3).toNatClampNeg)) + 4).toNatClampNeg (s7.2.1 3 ((5 * v1) + 3).toNatClampNeg) → vp_in ((7 * (s.2.1 5 ((60 * v1) + v3).toNatClampNeg)) + 5) 420 ∧ vp_in ((7 * (s.2.1 5 ((60 * v1) + v3).toNatClampNeg)) + 5) 420 ∧ ∀ s9 : RSt, s9 = rsA s8 21 ((7 * (s.2.1 5 ((60 * v1) + v3).toNatClampNeg)) + 5).toNatClampNeg ((s8.2.1 21 ((7 * (s.2.1 5 ((60 * v1) + v3).toNatClampNeg)) + 5).toNatClampNeg) + 1) → K13 s9 v1 x6 (v3 + 1)))
def wpR_boards_13 (post : RSt → Prop) (s : RSt) (v1 : Int32) (v2 : Int32) (v3 : Int32) : Prop := gLP (fun (K : RSt × Int32 × Int32 × Int32 → Prop) (x : RSt × Int32 × Int32 × Int32) => wpR_boards_13_F post (fun s v1 v2 v3 => K (s, v1, v2, v3)) x.1 x.2.1 x.2.2.1 x.2.2.2) (s, v1, v2, v3)
def wpR_boards_0 (post : RSt → Prop) (s : RSt) (v1 : Int32) : Prop := vp_in ((5 * v1) + 2) 40 ∧ wpR_boards_13 post s v1 (s.2.1 3 ((5 * v1) + 2).toNatClampNeg) 0
theorem wkR_boards_133_F {X : gT} {G : rG} {A : Nat → Prop} {H0 : Heap} {Q : State → Prop} (C : rC X cX8_boards 5 G A) (hsz : H0 = (g_s X).heap) (hR : 0 ≤ (g_R X).frames ∧ 0 ≤ (g_R X).locals) {post : RSt → Prop} (hret : ∀ (τ : RSt) (lv : List (Nat × Value)) (pc : Nat), post τ → decode cX8_boards pc = .ok (.return_, 1) → gJ X (rWd G A H0) Q 0 0 τ lv pc []) {K133 : RSt → Int32 → Int32 → Int32 → Prop} (hK133 : ∀ (s : RSt) (v1 : Int32) (v3 : Int32) (v4 : Int32), K133 s v1 v3 v4 → gJ X (rWd G A H0) Q 0 0 s [(0, .ref (G.2.2.1 0)), (1, .int v1), (3, .int v3), (4, .int v4)] 133 []) (s : RSt) (v1 : Int32) (v3 : Int32) (v4 : Int32) (hw : wpR_boards_133_F post K133 s v1 v3 v4) : gJ X (rWd G A H0) Q 0 0 s [(0, .ref (G.2.2.1 0)), (1, .int v1), (3, .int v3), (4, .int v4)] 133 [] := by
  refine g_iload C.1 3 dX8_boards_133 rfl ?_
  refine g_aload_n C.1 0 dX8_boards_135 rfl rfl ?_
  refine r_g6 C dX8_boards_136 ?_
  refine g_iload_n C.1 1 dX8_boards_139 rfl rfl ?_
  refine r_ld6 C hw.1 dX8_boards_140 ?_
  replace hw := hw.2
  refine g_icmp_ge (tgt := 176) C.1 dX8_boards_141 (by decide) (fun h1 => ?_) (fun h1 => ?_)
  · replace hw := hw.1 h1
    exact hret _ _ _ hw dX8_boards_176
  · replace hw := hw.2 h1
    refine g_aload_n C.1 0 dX8_boards_144 rfl rfl ?_
    refine r_g5 C dX8_boards_145 ?_
    refine g_bipush (v := 60) C.1 dX8_boards_148 (by decide) ?_
    refine g_iload_n C.1 1 dX8_boards_150 rfl rfl ?_
    refine g_imul C.1 dX8_boards_151 ?_
    refine g_iload C.1 3 dX8_boards_152 rfl ?_
    refine g_iadd C.1 dX8_boards_154 ?_
    refine g_aload_n C.1 0 dX8_boards_155 rfl rfl ?_
    refine r_g5 C dX8_boards_156 ?_
    refine g_bipush (v := 60) C.1 dX8_boards_159 (by decide) ?_
    refine g_iload_n C.1 1 dX8_boards_161 rfl rfl ?_
    refine g_imul C.1 dX8_boards_162 ?_
    refine g_iload C.1 3 dX8_boards_163 rfl ?_
    refine g_iadd C.1 dX8_boards_165 ?_
    refine g_iload_n C.1 2 dX8_boards_166 rfl rfl ?_
    refine g_iadd C.1 dX8_boards_167 ?_
    refine r_ld5 C hw.1 dX8_boards_168 ?_
    replace hw := hw.2
    refine r_st5 C hw.1 dX8_boards_169 ?_
    replace hw := hw.2
    refine gJ.nm (fun s2 es2 => ?_)
    replace hw := hw s2 es2
    refine g_iinc (v := v4 + 1) (lv' := [(4, .int (v4 + 1)), (0, .ref (G.2.2.1 0)), (1, .int v1), (3, .int v3)]) C.1 3 dX8_boards_170 rfl rfl (by decide) rfl ?_
    refine g_goto (tgt := 133) C.1 dX8_boards_173 (by decide) ?_
    refine gJ.sub [1, 2, 3, 0] rfl ?_
    exact hK133 _ _ _ _ hw
theorem wkR_boards_133 {X : gT} {G : rG} {A : Nat → Prop} {H0 : Heap} {Q : State → Prop} (C : rC X cX8_boards 5 G A) (hsz : H0 = (g_s X).heap) (hR : 0 ≤ (g_R X).frames ∧ 0 ≤ (g_R X).locals) {post : RSt → Prop} (hret : ∀ (τ : RSt) (lv : List (Nat × Value)) (pc : Nat), post τ → decode cX8_boards pc = .ok (.return_, 1) → gJ X (rWd G A H0) Q 0 0 τ lv pc []) (s : RSt) (v1 : Int32) (v3 : Int32) (v4 : Int32) (hw : wpR_boards_133 post s v1 v3 v4) : gJ X (rWd G A H0) Q 0 0 s [(0, .ref (G.2.2.1 0)), (1, .int v1), (3, .int v3), (4, .int v4)] 133 [] := 
  hw (fun (x : RSt × Int32 × Int32 × Int32) => (fun s v1 v3 v4 => gJ X (rWd G A H0) Q 0 0 s [(0, .ref (G.2.2.1 0)), (1, .int v1), (3, .int v3), (4, .int v4)] 133 []) x.1 x.2.1 x.2.2.1 x.2.2.2) (fun x hx => wkR_boards_133_F C hsz hR hret (K133 := (fun s v1 v3 v4 => gJ X (rWd G A H0) Q 0 0 s [(0, .ref (G.2.2.1 0)), (1, .int v1), (3, .int v3), (4, .int v4)] 133 [])) (fun _ _ _ _ h => h) x.1 x.2.1 x.2.2.1 x.2.2.2 hx)
theorem wkR_boards_120 {X : gT} {G : rG} {A : Nat → Prop} {H0 : Heap} {Q : State → Prop} (C : rC X cX8_boards 5 G A) (hsz : H0 = (g_s X).heap) (hR : 0 ≤ (g_R X).frames ∧ 0 ≤ (g_R X).locals) {post : RSt → Prop} (hret : ∀ (τ : RSt) (lv : List (Nat × Value)) (pc : Nat), post τ → decode cX8_boards pc = .ok (.return_, 1) → gJ X (rWd G A H0) Q 0 0 τ lv pc []) (s : RSt) (v1 : Int32) (v3 : Int32) (hw : wpR_boards_120 post s v1 v3) : gJ X (rWd G A H0) Q 0 0 s [(0, .ref (G.2.2.1 0)), (1, .int v1), (3, .int v3)] 120 [] := by
  refine g_aload_n C.1 0 dX8_boards_120 rfl rfl ?_
  refine r_g6 C dX8_boards_121 ?_
  refine g_iload_n C.1 1 dX8_boards_124 rfl rfl ?_
  refine g_dup2 C.1 dX8_boards_125 rfl rfl ?_
  refine r_ld6 C hw.1 dX8_boards_126 ?_
  replace hw := hw.2
  refine g_iload_n C.1 2 dX8_boards_127 rfl rfl ?_
  refine g_isub C.1 dX8_boards_128 ?_
  refine r_st6 C hw.1 dX8_boards_129 ?_
  replace hw := hw.2
  refine gJ.nm (fun s3 es3 => ?_)
  replace hw := hw s3 es3
  refine g_iconst (v := 0) C.1 dX8_boards_130 (by decide) ?_
  refine g_istore (lv' := [(4, .int 0), (0, .ref (G.2.2.1 0)), (1, .int v1), (3, .int v3)]) C.1 dX8_boards_131 (by decide) rfl ?_
  refine gJ.sub [1, 2, 3, 0] rfl ?_
  exact wkR_boards_133 C hsz hR hret _ _ _ _ hw
theorem wkR_boards_13_F {X : gT} {G : rG} {A : Nat → Prop} {H0 : Heap} {Q : State → Prop} (C : rC X cX8_boards 5 G A) (hsz : H0 = (g_s X).heap) (hR : 0 ≤ (g_R X).frames ∧ 0 ≤ (g_R X).locals) {post : RSt → Prop} (hret : ∀ (τ : RSt) (lv : List (Nat × Value)) (pc : Nat), post τ → decode cX8_boards pc = .ok (.return_, 1) → gJ X (rWd G A H0) Q 0 0 τ lv pc []) {K13 : RSt → Int32 → Int32 → Int32 → Prop} (hK13 : ∀ (s : RSt) (v1 : Int32) (v2 : Int32) (v3 : Int32), K13 s v1 v2 v3 → gJ X (rWd G A H0) Q 0 0 s [(0, .ref (G.2.2.1 0)), (1, .int v1), (2, .int v2), (3, .int v3)] 13 []) (s : RSt) (v1 : Int32) (v2 : Int32) (v3 : Int32) (hw : wpR_boards_13_F post K13 s v1 v2 v3) : gJ X (rWd G A H0) Q 0 0 s [(0, .ref (G.2.2.1 0)), (1, .int v1), (2, .int v2), (3, .int v3)] 13 [] := by
  refine g_iload_n C.1 3 dX8_boards_13 rfl rfl ?_
  refine g_aload_n C.1 0 dX8_boards_14 rfl rfl ?_
  refine r_g6 C dX8_boards_15 ?_
  refine g_iload_n C.1 1 dX8_boards_18 rfl rfl ?_
  refine r_ld6 C hw.1 dX8_boards_19 ?_
  replace hw := hw.2
  refine g_icmp_ge (tgt := 120) C.1 dX8_boards_20 (by decide) (fun h4 => ?_) (fun h4 => ?_)
  · replace hw := hw.1 h4
    refine gJ.sub [0, 1, 3] rfl ?_
    exact wkR_boards_120 C hsz hR hret _ _ _ hw
  · replace hw := hw.2 h4
    refine g_aload_n C.1 0 dX8_boards_23 rfl rfl ?_
    refine r_g21 C dX8_boards_24 ?_
    refine g_bipush (v := 7) C.1 dX8_boards_27 (by decide) ?_
    refine g_aload_n C.1 0 dX8_boards_29 rfl rfl ?_
    refine r_g5 C dX8_boards_30 ?_
    refine g_bipush (v := 60) C.1 dX8_boards_33 (by decide) ?_
    refine g_iload_n C.1 1 dX8_boards_35 rfl rfl ?_
    refine g_imul C.1 dX8_boards_36 ?_
    refine g_iload_n C.1 3 dX8_boards_37 rfl rfl ?_
    refine g_iadd C.1 dX8_boards_38 ?_
    refine r_ld5 C hw.1 dX8_boards_39 ?_
    replace hw := hw.2
    refine g_imul C.1 dX8_boards_40 ?_
    refine r_ld21 C hw.1 dX8_boards_41 ?_
    replace hw := hw.2
    refine g_iload_n C.1 2 dX8_boards_42 rfl rfl ?_
    refine g_icmp_gt (tgt := 120) C.1 dX8_boards_43 (by decide) (fun h5 => ?_) (fun h5 => ?_)
    · replace hw := hw.1 h5
      refine gJ.sub [0, 1, 3] rfl ?_
      exact wkR_boards_120 C hsz hR hret _ _ _ hw
    · replace hw := hw.2 h5
      refine g_bipush (v := 7) C.1 dX8_boards_46 (by decide) ?_
      refine g_aload_n C.1 0 dX8_boards_48 rfl rfl ?_
      refine r_g5 C dX8_boards_49 ?_
      refine g_bipush (v := 60) C.1 dX8_boards_52 (by decide) ?_
      refine g_iload_n C.1 1 dX8_boards_54 rfl rfl ?_
      refine g_imul C.1 dX8_boards_55 ?_
      refine g_iload_n C.1 3 dX8_boards_56 rfl rfl ?_
      refine g_iadd C.1 dX8_boards_57 ?_
      refine r_ld5 C hw.1 dX8_boards_58 ?_
      replace hw := hw.2
      refine g_imul C.1 dX8_boards_59 ?_
      refine g_istore (lv' := [(4, .int (7 * (s.2.1 5 ((60 * v1) + v3).toNatClampNeg))), (0, .ref (G.2.2.1 0)), (1, .int v1), (2, .int v2), (3, .int v3)]) C.1 dX8_boards_60 (by decide) rfl ?_
      refine g_iload_n C.1 3 dX8_boards_62 rfl rfl ?_
      refine g_aload_n C.1 1 dX8_boards_63 rfl rfl ?_
      refine r_g21 C dX8_boards_64 ?_
      refine g_iload C.1 0 dX8_boards_67 rfl ?_
      refine r_ld21 C hw.1 dX8_boards_69 ?_
      replace hw := hw.2
      refine g_isub C.1 dX8_boards_70 ?_
      refine g_topi (fun x6 ex6 => ?_)
      replace hw := hw x6 ex6
      refine g_istore_n (lv' := [(2, .int x6), (4, .int (7 * (s.2.1 5 ((60 * v1) + v3).toNatClampNeg))), (0, .ref (G.2.2.1 0)), (1, .int v1), (3, .int v3)]) C.1 dX8_boards_71 rfl (by decide) rfl ?_
      refine g_aload_n C.1 2 dX8_boards_72 rfl rfl ?_
      refine r_g21 C dX8_boards_73 ?_
      refine g_iload C.1 1 dX8_boards_76 rfl ?_
      refine g_iconst (v := 2) C.1 dX8_boards_78 (by decide) ?_
      refine g_iadd C.1 dX8_boards_79 ?_
      refine g_iconst (v := 2) C.1 dX8_boards_80 (by decide) ?_
      refine r_st21 C hw.1 dX8_boards_81 ?_
      replace hw := hw.2
      refine gJ.nm (fun s7 es7 => ?_)
      replace hw := hw s7 es7
      refine g_aload_n C.1 2 dX8_boards_82 rfl rfl ?_
      refine r_g21 C dX8_boards_83 ?_
      refine g_iload C.1 1 dX8_boards_86 rfl ?_
      refine g_iconst (v := 4) C.1 dX8_boards_88 (by decide) ?_
      refine g_iadd C.1 dX8_boards_89 ?_
      refine g_aload_n C.1 2 dX8_boards_90 rfl rfl ?_
      refine r_g3 C dX8_boards_91 ?_
      refine g_iconst (v := 5) C.1 dX8_boards_94 (by decide) ?_
      refine g_iload_n C.1 3 dX8_boards_95 rfl rfl ?_
      refine g_imul C.1 dX8_boards_96 ?_
      refine g_iconst (v := 3) C.1 dX8_boards_97 (by decide) ?_
      refine g_iadd C.1 dX8_boards_98 ?_
      refine r_ld3 C hw.1 dX8_boards_99 ?_
      replace hw := hw.2
      refine r_st21 C hw.1 dX8_boards_100 ?_
      replace hw := hw.2
      refine gJ.nm (fun s8 es8 => ?_)
      replace hw := hw s8 es8
      refine g_aload_n C.1 2 dX8_boards_101 rfl rfl ?_
      refine r_g21 C dX8_boards_102 ?_
      refine g_iload C.1 1 dX8_boards_105 rfl ?_
      refine g_iconst (v := 5) C.1 dX8_boards_107 (by decide) ?_
      refine g_iadd C.1 dX8_boards_108 ?_
      refine g_dup2 C.1 dX8_boards_109 rfl rfl ?_
      refine r_ld21 C hw.1 dX8_boards_110 ?_
      replace hw := hw.2
      refine g_iconst (v := 1) C.1 dX8_boards_111 (by decide) ?_
      refine g_iadd C.1 dX8_boards_112 ?_
      refine r_st21 C hw.1 dX8_boards_113 ?_
      replace hw := hw.2
      refine gJ.nm (fun s9 es9 => ?_)
      replace hw := hw s9 es9
      refine g_iinc (v := v3 + 1) (lv' := [(3, .int (v3 + 1)), (2, .int x6), (4, .int (7 * (s.2.1 5 ((60 * v1) + v3).toNatClampNeg))), (0, .ref (G.2.2.1 0)), (1, .int v1)]) C.1 4 dX8_boards_114 rfl rfl (by decide) rfl ?_
      refine g_goto (tgt := 13) C.1 dX8_boards_117 (by decide) ?_
      refine gJ.sub [3, 4, 1, 0] rfl ?_
      exact hK13 _ _ _ _ hw
theorem wkR_boards_13 {X : gT} {G : rG} {A : Nat → Prop} {H0 : Heap} {Q : State → Prop} (C : rC X cX8_boards 5 G A) (hsz : H0 = (g_s X).heap) (hR : 0 ≤ (g_R X).frames ∧ 0 ≤ (g_R X).locals) {post : RSt → Prop} (hret : ∀ (τ : RSt) (lv : List (Nat × Value)) (pc : Nat), post τ → decode cX8_boards pc = .ok (.return_, 1) → gJ X (rWd G A H0) Q 0 0 τ lv pc []) (s : RSt) (v1 : Int32) (v2 : Int32) (v3 : Int32) (hw : wpR_boards_13 post s v1 v2 v3) : gJ X (rWd G A H0) Q 0 0 s [(0, .ref (G.2.2.1 0)), (1, .int v1), (2, .int v2), (3, .int v3)] 13 [] := 
  hw (fun (x : RSt × Int32 × Int32 × Int32) => (fun s v1 v2 v3 => gJ X (rWd G A H0) Q 0 0 s [(0, .ref (G.2.2.1 0)), (1, .int v1), (2, .int v2), (3, .int v3)] 13 []) x.1 x.2.1 x.2.2.1 x.2.2.2) (fun x hx => wkR_boards_13_F C hsz hR hret (K13 := (fun s v1 v2 v3 => gJ X (rWd G A H0) Q 0 0 s [(0, .ref (G.2.2.1 0)), (1, .int v1), (2, .int v2), (3, .int v3)] 13 [])) (fun _ _ _ _ h => h) x.1 x.2.1 x.2.2.1 x.2.2.2 hx)
theorem wkR_boards_0 {X : gT} {G : rG} {A : Nat → Prop} {H0 : Heap} {Q : State → Prop} (C : rC X cX8_boards 5 G A) (hsz : H0 = (g_s X).heap) (hR : 0 ≤ (g_R X).frames ∧ 0 ≤ (g_R X).locals) {post : RSt → Prop} (hret : ∀ (τ : RSt) (lv : List (Nat × Value)) (pc : Nat), post τ → decode cX8_boards pc = .ok (.return_, 1) → gJ X (rWd G A H0) Q 0 0 τ lv pc []) (s : RSt) (v1 : Int32) (hw : wpR_boards_0 post s v1) : gJ X (rWd G A H0) Q 0 0 s [(0, .ref (G.2.2.1 0)), (1, .int v1)] 0 [] := by
  refine g_aload_n C.1 0 dX8_boards_0 rfl rfl ?_
  refine r_g3 C dX8_boards_1 ?_
  refine g_iconst (v := 5) C.1 dX8_boards_4 (by decide) ?_
  refine g_iload_n C.1 1 dX8_boards_5 rfl rfl ?_
  refine g_imul C.1 dX8_boards_6 ?_
  refine g_iconst (v := 2) C.1 dX8_boards_7 (by decide) ?_
  refine g_iadd C.1 dX8_boards_8 ?_
  refine r_ld3 C hw.1 dX8_boards_9 ?_
  replace hw := hw.2
  refine g_istore_n (lv' := [(2, .int (s.2.1 3 ((5 * v1) + 2).toNatClampNeg)), (0, .ref (G.2.2.1 0)), (1, .int v1)]) C.1 dX8_boards_10 rfl (by decide) rfl ?_
  refine g_iconst (v := 0) C.1 dX8_boards_11 (by decide) ?_
  refine g_istore_n (lv' := [(3, .int 0), (2, .int (s.2.1 3 ((5 * v1) + 2).toNatClampNeg)), (0, .ref (G.2.2.1 0)), (1, .int v1)]) C.1 dX8_boards_12 rfl (by decide) rfl ?_
  refine gJ.sub [2, 3, 1, 0] rfl ?_
  exact wkR_boards_13 C hsz hR hret _ _ _ _ hw
theorem hdR_boards : yX8_boards.cls = RX8 ∧ yX8_boards.cls ≠ "java/lang/invoke/MethodHandle" ∧ yX8_boards.cls ≠ "java/lang/invoke/VarHandle" ∧ (parseMethodDescriptor yX8_boards.desc).map (fun d => d.parameters.length) = some 1 := by decide +kernel
theorem cR_boards (l : Launch) (G : rG) (s : RSt) (v1 : Int32) (post : RSt → Prop) (hw : wpR_boards_0 post s v1) : rMv l yX8_boards cX8_boards 5 0 0 G s [.int v1] post := rMv_of (by decide +kernel) rfl (Nat.le_of_ble_eq_true rfl) (fun X A H0 Q hl hR hsz C hret => wkR_boards_0 C hsz hR hret s v1 hw)
def wpR_passes_203 (post : RSt → Prop) (K182 : RSt → Int32 → Prop) (s : RSt) (v1 : Int32) : Prop := K182 s (v1 + 1)
def wpR_passes_182_F (post : RSt → Prop) (K182 : RSt → Int32 → Prop) (s : RSt) (v1 : Int32) : Prop := ((s.1 7) ≤ v1 → ∀ s2 : RSt, s2 = rsI s 28 ((s.1 28) + 1) → post s2) ∧ (¬ (s.1 7) ≤ v1 → wpR_isRunning_0 (fun r4 s3 => (r4 = 0 → wpR_passes_203 post K182 s3 v1) ∧ (¬ r4 = 0 → wpR_boards_0 (fun s6 => wpR_passes_203 post K182 s6 v1) s3 v1)) s v1)
def wpR_passes_182 (post : RSt → Prop) (s : RSt) (v1 : Int32) : Prop := gLP (fun (K : RSt × Int32 → Prop) (x : RSt × Int32) => wpR_passes_182_F post (fun s v1 => K (s, v1)) x.1 x.2) (s, v1)
def wpR_passes_174 (post : RSt → Prop) (K147 : RSt → Int32 → Prop) (s : RSt) (v1 : Int32) : Prop := K147 s (v1 + 1)
def wpR_passes_147_F (post : RSt → Prop) (K147 : RSt → Int32 → Prop) (s : RSt) (v1 : Int32) : Prop := ((s.1 22) ≤ v1 → wpR_passes_182 post s 0) ∧ (¬ (s.1 22) ≤ v1 → vp_in ((7 * v1) + 2) 420 ∧ (¬ (s.2.1 21 ((7 * v1) + 2).toNatClampNeg) = 0 → wpR_passes_174 post K147 s v1) ∧ ((s.2.1 21 ((7 * v1) + 2).toNatClampNeg) = 0 → wpR_chooses_0 (fun s9 => wpR_passes_174 post K147 s9 v1) s v1))
def wpR_passes_147 (post : RSt → Prop) (s : RSt) (v1 : Int32) : Prop := gLP (fun (K : RSt × Int32 → Prop) (x : RSt × Int32) => wpR_passes_147_F post (fun s v1 => K (s, v1)) x.1 x.2) (s, v1)
def wpR_passes_139 (post : RSt → Prop) (K6 : RSt → Int32 → Prop) (s : RSt) (v1 : Int32) : Prop := K6 s (v1 + 1)
def wpR_passes_129 (post : RSt → Prop) (K6 : RSt → Int32 → Prop) (s : RSt) (v1 : Int32) (v2 : Int32) (w1 : Int32) (w2 : Int32) : Prop := vp_in w1 420 ∧ ∀ s10 : RSt, s10 = rsA s 21 w1.toNatClampNeg w2 → vp_in (v2 + 2) 420 ∧ ∀ s11 : RSt, s11 = rsA s10 21 (v2 + 2).toNatClampNeg 0 → wpR_passes_139 post K6 s11 v1
def wpR_passes_46 (post : RSt → Prop) (K6 : RSt → Int32 → Prop) (s : RSt) (v1 : Int32) (v2 : Int32) : Prop := vp_in (v2 + 4) 420 ∧ vp_in (v2 + 4) 420 ∧ ∀ s12 : RSt, s12 = rsA s 21 (v2 + 4).toNatClampNeg ((s.2.1 21 (v2 + 4).toNatClampNeg) - 1) → vp_in (v2 + 4) 420 ∧ ((s12.2.1 21 (v2 + 4).toNatClampNeg) ≤ 0 → vp_in (v2 + 2) 420 ∧ (¬ (s12.2.1 21 (v2 + 2).toNatClampNeg) = 2 → vp_in (v2 + 3) 420 ∧ vp_in ((6 * (s12.2.1 21 (v2 + 3).toNatClampNeg)) + 1) 60 ∧ wpR_passes_129 post K6 s12 v1 v2 (v2 + 3) (s12.2.1 8 ((6 * (s12.2.1 21 (v2 + 3).toNatClampNeg)) + 1).toNatClampNeg)) ∧ ((s12.2.1 21 (v2 + 2).toNatClampNeg) = 2 → vp_in (v2 + 3) 420 ∧ vp_in ((5 * (s12.2.1 21 (v2 + 3).toNatClampNeg)) + 1) 40 ∧ wpR_passes_129 post K6 s12 v1 v2 (v2 + 3) (s12.2.1 3 ((5 * (s12.2.1 21 (v2 + 3).toNatClampNeg)) + 1).toNatClampNeg))) ∧ (¬ (s12.2.1 21 (v2 + 4).toNatClampNeg) ≤ 0 → wpR_passes_139 post K6 s12 v1)
def wpR_passes_6_F (post : RSt → Prop) (K6 : RSt → Int32 → Prop) (s : RSt) (v1 : Int32) : Prop := ((s.1 22) ≤ v1 → wpR_passes_147 post s 0) ∧ (¬ (s.1 22) ≤ v1 → vp_in ((7 * v1) + 2) 420 ∧ ((s.2.1 21 ((7 * v1) + 2).toNatClampNeg) = 2 → wpR_passes_46 post K6 s v1 (7 * v1)) ∧ (¬ (s.2.1 21 ((7 * v1) + 2).toNatClampNeg) = 2 → vp_in ((7 * v1) + 2) 420 ∧ ((s.2.1 21 ((7 * v1) + 2).toNatClampNeg) = 3 → wpR_passes_46 post K6 s v1 (7 * v1)) ∧ (¬ (s.2.1 21 ((7 * v1) + 2).toNatClampNeg) = 3 → wpR_passes_139 post K6 s v1)))
def wpR_passes_6 (post : RSt → Prop) (s : RSt) (v1 : Int32) : Prop := gLP (fun (K : RSt × Int32 → Prop) (x : RSt × Int32) => wpR_passes_6_F post (fun s v1 => K (s, v1)) x.1 x.2) (s, v1)
def wpR_passes_0 (post : RSt → Prop) (s : RSt) : Prop := wpR_opens_0 (fun s18 => wpR_passes_6 post s18 0) s
theorem wkR_passes_203 {X : gT} {G : rG} {A : Nat → Prop} {H0 : Heap} {Q : State → Prop} (C : rC X cX8_passes 3 G A) (hsz : H0 = (g_s X).heap) (hR : 4 ≤ (g_R X).frames ∧ 93 ≤ (g_R X).locals) {post : RSt → Prop} (hret : ∀ (τ : RSt) (lv : List (Nat × Value)) (pc : Nat), post τ → decode cX8_passes pc = .ok (.return_, 1) → gJ X (rWd G A H0) Q 0 0 τ lv pc []) {K182 : RSt → Int32 → Prop} (hK182 : ∀ (s : RSt) (v1 : Int32), K182 s v1 → gJ X (rWd G A H0) Q 0 0 s [(0, .ref (G.2.2.1 0)), (1, .int v1)] 182 []) (s : RSt) (v1 : Int32) (hw : wpR_passes_203 post K182 s v1) : gJ X (rWd G A H0) Q 0 0 s [(0, .ref (G.2.2.1 0)), (1, .int v1)] 203 [] := by
  refine g_iinc (v := v1 + 1) (lv' := [(1, .int (v1 + 1)), (0, .ref (G.2.2.1 0))]) C.1 1 dX8_passes_203 rfl rfl (by decide) rfl ?_
  refine g_goto (tgt := 182) C.1 dX8_passes_206 (by decide) ?_
  refine gJ.sub [1, 0] rfl ?_
  exact hK182 _ _ hw
theorem wkR_passes_182_F {X : gT} {G : rG} {A : Nat → Prop} {H0 : Heap} {Q : State → Prop} (C : rC X cX8_passes 3 G A) (hsz : H0 = (g_s X).heap) (hR : 4 ≤ (g_R X).frames ∧ 93 ≤ (g_R X).locals) {post : RSt → Prop} (hret : ∀ (τ : RSt) (lv : List (Nat × Value)) (pc : Nat), post τ → decode cX8_passes pc = .ok (.return_, 1) → gJ X (rWd G A H0) Q 0 0 τ lv pc []) {K182 : RSt → Int32 → Prop} (hK182 : ∀ (s : RSt) (v1 : Int32), K182 s v1 → gJ X (rWd G A H0) Q 0 0 s [(0, .ref (G.2.2.1 0)), (1, .int v1)] 182 []) (s : RSt) (v1 : Int32) (hw : wpR_passes_182_F post K182 s v1) : gJ X (rWd G A H0) Q 0 0 s [(0, .ref (G.2.2.1 0)), (1, .int v1)] 182 [] := by
  refine g_iload_n C.1 1 dX8_passes_182 rfl rfl ?_
  refine g_aload_n C.1 0 dX8_passes_183 rfl rfl ?_
  refine r_g7 C dX8_passes_184 ?_
  refine g_icmp_ge (tgt := 209) C.1 dX8_passes_187 (by decide) (fun h1 => ?_) (fun h1 => ?_)
  · replace hw := hw.1 h1
    refine g_aload_n C.1 0 dX8_passes_209 rfl rfl ?_
    refine g_dup C.1 dX8_passes_210 rfl ?_
    refine r_g28 C dX8_passes_211 ?_
    refine g_iconst (v := 1) C.1 dX8_passes_214 (by decide) ?_
    refine g_iadd C.1 dX8_passes_215 ?_
    refine r_p28 C dX8_passes_216 ?_
    refine gJ.nm (fun s2 es2 => ?_)
    replace hw := hw s2 es2
    exact hret _ _ _ hw dX8_passes_219
  · replace hw := hw.2 h1
    refine g_aload_n C.1 0 dX8_passes_190 rfl rfl ?_
    refine g_iload_n C.1 1 dX8_passes_191 rfl rfl ?_
    refine r_calli C hsz (cR_isRunning (g_l X) G s _ _ hw) kR_200 kR_201 kR_202 kR_72 hdR_isRunning ⟨Nat.le_trans (Nat.le_of_ble_eq_true rfl) hR.1, Nat.le_trans (Nat.le_of_ble_eq_true rfl) hR.2⟩ dX8_passes_192 rfl (Nat.le_of_ble_eq_true rfl) (fun r4 s3 hw => ?_)
    refine g_if_eq (tgt := 203) C.1 dX8_passes_195 (by decide) (fun h5 => ?_) (fun h5 => ?_)
    · replace hw := hw.1 h5
      exact wkR_passes_203 C hsz hR hret hK182 _ _ hw
    · replace hw := hw.2 h5
      refine g_aload_n C.1 0 dX8_passes_198 rfl rfl ?_
      refine g_iload_n C.1 1 dX8_passes_199 rfl rfl ?_
      refine r_callv C hsz (cR_boards (g_l X) G s3 _ _ hw) kR_239 kR_240 kR_241 kR_235 hdR_boards ⟨Nat.le_trans (Nat.le_of_ble_eq_true rfl) hR.1, Nat.le_trans (Nat.le_of_ble_eq_true rfl) hR.2⟩ dX8_passes_200 rfl (Nat.le_of_ble_eq_true rfl) (fun s6 hw => ?_)
      exact wkR_passes_203 C hsz hR hret hK182 _ _ hw
theorem wkR_passes_182 {X : gT} {G : rG} {A : Nat → Prop} {H0 : Heap} {Q : State → Prop} (C : rC X cX8_passes 3 G A) (hsz : H0 = (g_s X).heap) (hR : 4 ≤ (g_R X).frames ∧ 93 ≤ (g_R X).locals) {post : RSt → Prop} (hret : ∀ (τ : RSt) (lv : List (Nat × Value)) (pc : Nat), post τ → decode cX8_passes pc = .ok (.return_, 1) → gJ X (rWd G A H0) Q 0 0 τ lv pc []) (s : RSt) (v1 : Int32) (hw : wpR_passes_182 post s v1) : gJ X (rWd G A H0) Q 0 0 s [(0, .ref (G.2.2.1 0)), (1, .int v1)] 182 [] := 
  hw (fun (x : RSt × Int32) => (fun s v1 => gJ X (rWd G A H0) Q 0 0 s [(0, .ref (G.2.2.1 0)), (1, .int v1)] 182 []) x.1 x.2) (fun x hx => wkR_passes_182_F C hsz hR hret (K182 := (fun s v1 => gJ X (rWd G A H0) Q 0 0 s [(0, .ref (G.2.2.1 0)), (1, .int v1)] 182 [])) (fun _ _ h => h) x.1 x.2 hx)
theorem wkR_passes_174 {X : gT} {G : rG} {A : Nat → Prop} {H0 : Heap} {Q : State → Prop} (C : rC X cX8_passes 3 G A) (hsz : H0 = (g_s X).heap) (hR : 4 ≤ (g_R X).frames ∧ 93 ≤ (g_R X).locals) {post : RSt → Prop} (hret : ∀ (τ : RSt) (lv : List (Nat × Value)) (pc : Nat), post τ → decode cX8_passes pc = .ok (.return_, 1) → gJ X (rWd G A H0) Q 0 0 τ lv pc []) {K147 : RSt → Int32 → Prop} (hK147 : ∀ (s : RSt) (v1 : Int32), K147 s v1 → gJ X (rWd G A H0) Q 0 0 s [(0, .ref (G.2.2.1 0)), (1, .int v1)] 147 []) (s : RSt) (v1 : Int32) (hw : wpR_passes_174 post K147 s v1) : gJ X (rWd G A H0) Q 0 0 s [(0, .ref (G.2.2.1 0)), (1, .int v1)] 174 [] := by
  refine g_iinc (v := v1 + 1) (lv' := [(1, .int (v1 + 1)), (0, .ref (G.2.2.1 0))]) C.1 1 dX8_passes_174 rfl rfl (by decide) rfl ?_
  refine g_goto (tgt := 147) C.1 dX8_passes_177 (by decide) ?_
  refine gJ.sub [1, 0] rfl ?_
  exact hK147 _ _ hw
theorem wkR_passes_147_F {X : gT} {G : rG} {A : Nat → Prop} {H0 : Heap} {Q : State → Prop} (C : rC X cX8_passes 3 G A) (hsz : H0 = (g_s X).heap) (hR : 4 ≤ (g_R X).frames ∧ 93 ≤ (g_R X).locals) {post : RSt → Prop} (hret : ∀ (τ : RSt) (lv : List (Nat × Value)) (pc : Nat), post τ → decode cX8_passes pc = .ok (.return_, 1) → gJ X (rWd G A H0) Q 0 0 τ lv pc []) {K147 : RSt → Int32 → Prop} (hK147 : ∀ (s : RSt) (v1 : Int32), K147 s v1 → gJ X (rWd G A H0) Q 0 0 s [(0, .ref (G.2.2.1 0)), (1, .int v1)] 147 []) (s : RSt) (v1 : Int32) (hw : wpR_passes_147_F post K147 s v1) : gJ X (rWd G A H0) Q 0 0 s [(0, .ref (G.2.2.1 0)), (1, .int v1)] 147 [] := by
  refine g_iload_n C.1 1 dX8_passes_147 rfl rfl ?_
  refine g_aload_n C.1 0 dX8_passes_148 rfl rfl ?_
  refine r_g22 C dX8_passes_149 ?_
  refine g_icmp_ge (tgt := 180) C.1 dX8_passes_152 (by decide) (fun h7 => ?_) (fun h7 => ?_)
  · replace hw := hw.1 h7
    refine g_iconst (v := 0) C.1 dX8_passes_180 (by decide) ?_
    refine g_istore_n (lv' := [(1, .int 0), (0, .ref (G.2.2.1 0))]) C.1 dX8_passes_181 rfl (by decide) rfl ?_
    refine gJ.sub [1, 0] rfl ?_
    exact wkR_passes_182 C hsz hR hret _ _ hw
  · replace hw := hw.2 h7
    refine g_aload_n C.1 0 dX8_passes_155 rfl rfl ?_
    refine r_g21 C dX8_passes_156 ?_
    refine g_bipush (v := 7) C.1 dX8_passes_159 (by decide) ?_
    refine g_iload_n C.1 1 dX8_passes_161 rfl rfl ?_
    refine g_imul C.1 dX8_passes_162 ?_
    refine g_iconst (v := 2) C.1 dX8_passes_163 (by decide) ?_
    refine g_iadd C.1 dX8_passes_164 ?_
    refine r_ld21 C hw.1 dX8_passes_165 ?_
    replace hw := hw.2
    refine g_if_ne (tgt := 174) C.1 dX8_passes_166 (by decide) (fun h8 => ?_) (fun h8 => ?_)
    · replace hw := hw.1 h8
      exact wkR_passes_174 C hsz hR hret hK147 _ _ hw
    · replace hw := hw.2 h8
      refine g_aload_n C.1 0 dX8_passes_169 rfl rfl ?_
      refine g_iload_n C.1 1 dX8_passes_170 rfl rfl ?_
      refine r_callv C hsz (cR_chooses (g_l X) G s _ _ hw) kR_236 kR_237 kR_238 kR_234 hdR_chooses ⟨Nat.le_trans (Nat.le_of_ble_eq_true rfl) hR.1, Nat.le_trans (Nat.le_of_ble_eq_true rfl) hR.2⟩ dX8_passes_171 rfl (Nat.le_of_ble_eq_true rfl) (fun s9 hw => ?_)
      exact wkR_passes_174 C hsz hR hret hK147 _ _ hw
theorem wkR_passes_147 {X : gT} {G : rG} {A : Nat → Prop} {H0 : Heap} {Q : State → Prop} (C : rC X cX8_passes 3 G A) (hsz : H0 = (g_s X).heap) (hR : 4 ≤ (g_R X).frames ∧ 93 ≤ (g_R X).locals) {post : RSt → Prop} (hret : ∀ (τ : RSt) (lv : List (Nat × Value)) (pc : Nat), post τ → decode cX8_passes pc = .ok (.return_, 1) → gJ X (rWd G A H0) Q 0 0 τ lv pc []) (s : RSt) (v1 : Int32) (hw : wpR_passes_147 post s v1) : gJ X (rWd G A H0) Q 0 0 s [(0, .ref (G.2.2.1 0)), (1, .int v1)] 147 [] := 
  hw (fun (x : RSt × Int32) => (fun s v1 => gJ X (rWd G A H0) Q 0 0 s [(0, .ref (G.2.2.1 0)), (1, .int v1)] 147 []) x.1 x.2) (fun x hx => wkR_passes_147_F C hsz hR hret (K147 := (fun s v1 => gJ X (rWd G A H0) Q 0 0 s [(0, .ref (G.2.2.1 0)), (1, .int v1)] 147 [])) (fun _ _ h => h) x.1 x.2 hx)
theorem wkR_passes_139 {X : gT} {G : rG} {A : Nat → Prop} {H0 : Heap} {Q : State → Prop} (C : rC X cX8_passes 3 G A) (hsz : H0 = (g_s X).heap) (hR : 4 ≤ (g_R X).frames ∧ 93 ≤ (g_R X).locals) {post : RSt → Prop} (hret : ∀ (τ : RSt) (lv : List (Nat × Value)) (pc : Nat), post τ → decode cX8_passes pc = .ok (.return_, 1) → gJ X (rWd G A H0) Q 0 0 τ lv pc []) {K6 : RSt → Int32 → Prop} (hK6 : ∀ (s : RSt) (v1 : Int32), K6 s v1 → gJ X (rWd G A H0) Q 0 0 s [(0, .ref (G.2.2.1 0)), (1, .int v1)] 6 []) (s : RSt) (v1 : Int32) (hw : wpR_passes_139 post K6 s v1) : gJ X (rWd G A H0) Q 0 0 s [(0, .ref (G.2.2.1 0)), (1, .int v1)] 139 [] := by
  refine g_iinc (v := v1 + 1) (lv' := [(1, .int (v1 + 1)), (0, .ref (G.2.2.1 0))]) C.1 1 dX8_passes_139 rfl rfl (by decide) rfl ?_
  refine g_goto (tgt := 6) C.1 dX8_passes_142 (by decide) ?_
  refine gJ.sub [1, 0] rfl ?_
  exact hK6 _ _ hw
theorem wkR_passes_129 {X : gT} {G : rG} {A : Nat → Prop} {H0 : Heap} {Q : State → Prop} (C : rC X cX8_passes 3 G A) (hsz : H0 = (g_s X).heap) (hR : 4 ≤ (g_R X).frames ∧ 93 ≤ (g_R X).locals) {post : RSt → Prop} (hret : ∀ (τ : RSt) (lv : List (Nat × Value)) (pc : Nat), post τ → decode cX8_passes pc = .ok (.return_, 1) → gJ X (rWd G A H0) Q 0 0 τ lv pc []) {K6 : RSt → Int32 → Prop} (hK6 : ∀ (s : RSt) (v1 : Int32), K6 s v1 → gJ X (rWd G A H0) Q 0 0 s [(0, .ref (G.2.2.1 0)), (1, .int v1)] 6 []) (s : RSt) (v1 : Int32) (v2 : Int32) (w1 : Int32) (w2 : Int32) (hw : wpR_passes_129 post K6 s v1 v2 w1 w2) : gJ X (rWd G A H0) Q 0 0 s [(0, .ref (G.2.2.1 0)), (1, .int v1), (2, .int v2)] 129 [.int w2, .int w1, .ref (G.2.2.1 21)] := by
  refine r_st21 C hw.1 dX8_passes_129 ?_
  replace hw := hw.2
  refine gJ.nm (fun s10 es10 => ?_)
  replace hw := hw s10 es10
  refine g_aload_n C.1 0 dX8_passes_130 rfl rfl ?_
  refine r_g21 C dX8_passes_131 ?_
  refine g_iload_n C.1 2 dX8_passes_134 rfl rfl ?_
  refine g_iconst (v := 2) C.1 dX8_passes_135 (by decide) ?_
  refine g_iadd C.1 dX8_passes_136 ?_
  refine g_iconst (v := 0) C.1 dX8_passes_137 (by decide) ?_
  refine r_st21 C hw.1 dX8_passes_138 ?_
  replace hw := hw.2
  refine gJ.nm (fun s11 es11 => ?_)
  replace hw := hw s11 es11
  refine gJ.sub [0, 1] rfl ?_
  exact wkR_passes_139 C hsz hR hret hK6 _ _ hw
theorem wkR_passes_46 {X : gT} {G : rG} {A : Nat → Prop} {H0 : Heap} {Q : State → Prop} (C : rC X cX8_passes 3 G A) (hsz : H0 = (g_s X).heap) (hR : 4 ≤ (g_R X).frames ∧ 93 ≤ (g_R X).locals) {post : RSt → Prop} (hret : ∀ (τ : RSt) (lv : List (Nat × Value)) (pc : Nat), post τ → decode cX8_passes pc = .ok (.return_, 1) → gJ X (rWd G A H0) Q 0 0 τ lv pc []) {K6 : RSt → Int32 → Prop} (hK6 : ∀ (s : RSt) (v1 : Int32), K6 s v1 → gJ X (rWd G A H0) Q 0 0 s [(0, .ref (G.2.2.1 0)), (1, .int v1)] 6 []) (s : RSt) (v1 : Int32) (v2 : Int32) (hw : wpR_passes_46 post K6 s v1 v2) : gJ X (rWd G A H0) Q 0 0 s [(0, .ref (G.2.2.1 0)), (1, .int v1), (2, .int v2)] 46 [] := by
  refine g_aload_n C.1 0 dX8_passes_46 rfl rfl ?_
  refine r_g21 C dX8_passes_47 ?_
  refine g_iload_n C.1 2 dX8_passes_50 rfl rfl ?_
  refine g_iconst (v := 4) C.1 dX8_passes_51 (by decide) ?_
  refine g_iadd C.1 dX8_passes_52 ?_
  refine g_dup2 C.1 dX8_passes_53 rfl rfl ?_
  refine r_ld21 C hw.1 dX8_passes_54 ?_
  replace hw := hw.2
  refine g_iconst (v := 1) C.1 dX8_passes_55 (by decide) ?_
  refine g_isub C.1 dX8_passes_56 ?_
  refine r_st21 C hw.1 dX8_passes_57 ?_
  replace hw := hw.2
  refine gJ.nm (fun s12 es12 => ?_)
  replace hw := hw s12 es12
  refine g_aload_n C.1 0 dX8_passes_58 rfl rfl ?_
  refine r_g21 C dX8_passes_59 ?_
  refine g_iload_n C.1 2 dX8_passes_62 rfl rfl ?_
  refine g_iconst (v := 4) C.1 dX8_passes_63 (by decide) ?_
  refine g_iadd C.1 dX8_passes_64 ?_
  refine r_ld21 C hw.1 dX8_passes_65 ?_
  replace hw := hw.2
  refine g_if_le (tgt := 72) C.1 dX8_passes_66 (by decide) (fun h13 => ?_) (fun h13 => ?_)
  · replace hw := hw.1 h13
    refine g_aload_n C.1 0 dX8_passes_72 rfl rfl ?_
    refine r_g21 C dX8_passes_73 ?_
    refine g_iload_n C.1 2 dX8_passes_76 rfl rfl ?_
    refine g_iconst (v := 3) C.1 dX8_passes_77 (by decide) ?_
    refine g_iadd C.1 dX8_passes_78 ?_
    refine g_aload_n C.1 0 dX8_passes_79 rfl rfl ?_
    refine r_g21 C dX8_passes_80 ?_
    refine g_iload_n C.1 2 dX8_passes_83 rfl rfl ?_
    refine g_iconst (v := 2) C.1 dX8_passes_84 (by decide) ?_
    refine g_iadd C.1 dX8_passes_85 ?_
    refine r_ld21 C hw.1 dX8_passes_86 ?_
    replace hw := hw.2
    refine g_iconst (v := 2) C.1 dX8_passes_87 (by decide) ?_
    refine g_icmp_ne (tgt := 111) C.1 dX8_passes_88 (by decide) (fun h14 => ?_) (fun h14 => ?_)
    · replace hw := hw.1 h14
      refine g_aload_n C.1 0 dX8_passes_111 rfl rfl ?_
      refine r_g8 C dX8_passes_112 ?_
      refine g_bipush (v := 6) C.1 dX8_passes_115 (by decide) ?_
      refine g_aload_n C.1 0 dX8_passes_117 rfl rfl ?_
      refine r_g21 C dX8_passes_118 ?_
      refine g_iload_n C.1 2 dX8_passes_121 rfl rfl ?_
      refine g_iconst (v := 3) C.1 dX8_passes_122 (by decide) ?_
      refine g_iadd C.1 dX8_passes_123 ?_
      refine r_ld21 C hw.1 dX8_passes_124 ?_
      replace hw := hw.2
      refine g_imul C.1 dX8_passes_125 ?_
      refine g_iconst (v := 1) C.1 dX8_passes_126 (by decide) ?_
      refine g_iadd C.1 dX8_passes_127 ?_
      refine r_ld8 C hw.1 dX8_passes_128 ?_
      replace hw := hw.2
      exact wkR_passes_129 C hsz hR hret hK6 _ _ _ _ _ hw
    · replace hw := hw.2 h14
      refine g_aload_n C.1 0 dX8_passes_91 rfl rfl ?_
      refine r_g3 C dX8_passes_92 ?_
      refine g_iconst (v := 5) C.1 dX8_passes_95 (by decide) ?_
      refine g_aload_n C.1 0 dX8_passes_96 rfl rfl ?_
      refine r_g21 C dX8_passes_97 ?_
      refine g_iload_n C.1 2 dX8_passes_100 rfl rfl ?_
      refine g_iconst (v := 3) C.1 dX8_passes_101 (by decide) ?_
      refine g_iadd C.1 dX8_passes_102 ?_
      refine r_ld21 C hw.1 dX8_passes_103 ?_
      replace hw := hw.2
      refine g_imul C.1 dX8_passes_104 ?_
      refine g_iconst (v := 1) C.1 dX8_passes_105 (by decide) ?_
      refine g_iadd C.1 dX8_passes_106 ?_
      refine r_ld3 C hw.1 dX8_passes_107 ?_
      replace hw := hw.2
      refine g_goto (tgt := 129) C.1 dX8_passes_108 (by decide) ?_
      exact wkR_passes_129 C hsz hR hret hK6 _ _ _ _ _ hw
  · replace hw := hw.2 h13
    refine g_goto (tgt := 139) C.1 dX8_passes_69 (by decide) ?_
    refine gJ.sub [0, 1] rfl ?_
    exact wkR_passes_139 C hsz hR hret hK6 _ _ hw
theorem wkR_passes_6_F {X : gT} {G : rG} {A : Nat → Prop} {H0 : Heap} {Q : State → Prop} (C : rC X cX8_passes 3 G A) (hsz : H0 = (g_s X).heap) (hR : 4 ≤ (g_R X).frames ∧ 93 ≤ (g_R X).locals) {post : RSt → Prop} (hret : ∀ (τ : RSt) (lv : List (Nat × Value)) (pc : Nat), post τ → decode cX8_passes pc = .ok (.return_, 1) → gJ X (rWd G A H0) Q 0 0 τ lv pc []) {K6 : RSt → Int32 → Prop} (hK6 : ∀ (s : RSt) (v1 : Int32), K6 s v1 → gJ X (rWd G A H0) Q 0 0 s [(0, .ref (G.2.2.1 0)), (1, .int v1)] 6 []) (s : RSt) (v1 : Int32) (hw : wpR_passes_6_F post K6 s v1) : gJ X (rWd G A H0) Q 0 0 s [(0, .ref (G.2.2.1 0)), (1, .int v1)] 6 [] := by
  refine g_iload_n C.1 1 dX8_passes_6 rfl rfl ?_
  refine g_aload_n C.1 0 dX8_passes_7 rfl rfl ?_
  refine r_g22 C dX8_passes_8 ?_
  refine g_icmp_ge (tgt := 145) C.1 dX8_passes_11 (by decide) (fun h15 => ?_) (fun h15 => ?_)
  · replace hw := hw.1 h15
    refine g_iconst (v := 0) C.1 dX8_passes_145 (by decide) ?_
    refine g_istore_n (lv' := [(1, .int 0), (0, .ref (G.2.2.1 0))]) C.1 dX8_passes_146 rfl (by decide) rfl ?_
    refine gJ.sub [1, 0] rfl ?_
    exact wkR_passes_147 C hsz hR hret _ _ hw
  · replace hw := hw.2 h15
    refine g_bipush (v := 7) C.1 dX8_passes_14 (by decide) ?_
    refine g_iload_n C.1 1 dX8_passes_16 rfl rfl ?_
    refine g_imul C.1 dX8_passes_17 ?_
    refine g_istore_n (lv' := [(2, .int (7 * v1)), (0, .ref (G.2.2.1 0)), (1, .int v1)]) C.1 dX8_passes_18 rfl (by decide) rfl ?_
    refine g_aload_n C.1 1 dX8_passes_19 rfl rfl ?_
    refine r_g21 C dX8_passes_20 ?_
    refine g_iload_n C.1 0 dX8_passes_23 rfl rfl ?_
    refine g_iconst (v := 2) C.1 dX8_passes_24 (by decide) ?_
    refine g_iadd C.1 dX8_passes_25 ?_
    refine r_ld21 C hw.1 dX8_passes_26 ?_
    replace hw := hw.2
    refine g_iconst (v := 2) C.1 dX8_passes_27 (by decide) ?_
    refine g_icmp_eq (tgt := 46) C.1 dX8_passes_28 (by decide) (fun h16 => ?_) (fun h16 => ?_)
    · replace hw := hw.1 h16
      refine gJ.sub [1, 2, 0] rfl ?_
      exact wkR_passes_46 C hsz hR hret hK6 _ _ _ hw
    · replace hw := hw.2 h16
      refine g_aload_n C.1 1 dX8_passes_31 rfl rfl ?_
      refine r_g21 C dX8_passes_32 ?_
      refine g_iload_n C.1 0 dX8_passes_35 rfl rfl ?_
      refine g_iconst (v := 2) C.1 dX8_passes_36 (by decide) ?_
      refine g_iadd C.1 dX8_passes_37 ?_
      refine r_ld21 C hw.1 dX8_passes_38 ?_
      replace hw := hw.2
      refine g_iconst (v := 3) C.1 dX8_passes_39 (by decide) ?_
      refine g_icmp_eq (tgt := 46) C.1 dX8_passes_40 (by decide) (fun h17 => ?_) (fun h17 => ?_)
      · replace hw := hw.1 h17
        refine gJ.sub [1, 2, 0] rfl ?_
        exact wkR_passes_46 C hsz hR hret hK6 _ _ _ hw
      · replace hw := hw.2 h17
        refine g_goto (tgt := 139) C.1 dX8_passes_43 (by decide) ?_
        refine gJ.sub [1, 2] rfl ?_
        exact wkR_passes_139 C hsz hR hret hK6 _ _ hw
theorem wkR_passes_6 {X : gT} {G : rG} {A : Nat → Prop} {H0 : Heap} {Q : State → Prop} (C : rC X cX8_passes 3 G A) (hsz : H0 = (g_s X).heap) (hR : 4 ≤ (g_R X).frames ∧ 93 ≤ (g_R X).locals) {post : RSt → Prop} (hret : ∀ (τ : RSt) (lv : List (Nat × Value)) (pc : Nat), post τ → decode cX8_passes pc = .ok (.return_, 1) → gJ X (rWd G A H0) Q 0 0 τ lv pc []) (s : RSt) (v1 : Int32) (hw : wpR_passes_6 post s v1) : gJ X (rWd G A H0) Q 0 0 s [(0, .ref (G.2.2.1 0)), (1, .int v1)] 6 [] := 
  hw (fun (x : RSt × Int32) => (fun s v1 => gJ X (rWd G A H0) Q 0 0 s [(0, .ref (G.2.2.1 0)), (1, .int v1)] 6 []) x.1 x.2) (fun x hx => wkR_passes_6_F C hsz hR hret (K6 := (fun s v1 => gJ X (rWd G A H0) Q 0 0 s [(0, .ref (G.2.2.1 0)), (1, .int v1)] 6 [])) (fun _ _ h => h) x.1 x.2 hx)
theorem wkR_passes_0 {X : gT} {G : rG} {A : Nat → Prop} {H0 : Heap} {Q : State → Prop} (C : rC X cX8_passes 3 G A) (hsz : H0 = (g_s X).heap) (hR : 4 ≤ (g_R X).frames ∧ 93 ≤ (g_R X).locals) {post : RSt → Prop} (hret : ∀ (τ : RSt) (lv : List (Nat × Value)) (pc : Nat), post τ → decode cX8_passes pc = .ok (.return_, 1) → gJ X (rWd G A H0) Q 0 0 τ lv pc []) (s : RSt) (hw : wpR_passes_0 post s) : gJ X (rWd G A H0) Q 0 0 s [(0, .ref (G.2.2.1 0))] 0 [] := by
  refine g_aload_n C.1 0 dX8_passes_0 rfl rfl ?_
  refine r_callv C hsz (cR_opens (g_l X) G s _ hw) kR_217 kR_218 kR_219 kR_216 hdR_opens ⟨Nat.le_trans (Nat.le_of_ble_eq_true rfl) hR.1, Nat.le_trans (Nat.le_of_ble_eq_true rfl) hR.2⟩ dX8_passes_1 rfl (Nat.le_of_ble_eq_true rfl) (fun s18 hw => ?_)
  refine g_iconst (v := 0) C.1 dX8_passes_4 (by decide) ?_
  refine g_istore_n (lv' := [(1, .int 0), (0, .ref (G.2.2.1 0))]) C.1 dX8_passes_5 rfl (by decide) rfl ?_
  refine gJ.sub [1, 0] rfl ?_
  exact wkR_passes_6 C hsz hR hret _ _ hw
theorem hdR_passes : yX8_passes.cls = RX8 ∧ yX8_passes.cls ≠ "java/lang/invoke/MethodHandle" ∧ yX8_passes.cls ≠ "java/lang/invoke/VarHandle" ∧ (parseMethodDescriptor yX8_passes.desc).map (fun d => d.parameters.length) = some 0 := by decide +kernel
theorem cR_passes (l : Launch) (G : rG) (s : RSt) (post : RSt → Prop) (hw : wpR_passes_0 post s) : rMv l yX8_passes cX8_passes 3 4 93 G s [] post := rMv_of (by decide +kernel) rfl (Nat.le_of_ble_eq_true rfl) (fun X A H0 Q hl hR hsz C hret => wkR_passes_0 C hsz hR hret s hw)
