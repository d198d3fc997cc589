def wpR_ways_232 (post : RSt → Prop) (K149 : RSt → Int32 → Prop) (K159 : RSt → Int32 → Int32 → Prop) (K169 : RSt → Int32 → Int32 → Int32 → Prop) (s : RSt) (v1 : Int32) (v2 : Int32) (v3 : Int32) : Prop := K169 s v1 v2 (v3 + 1)
def wpR_ways_169_F (post : RSt → Prop) (K149 : RSt → Int32 → Prop) (K159 : RSt → Int32 → Int32 → Prop) (K169 : RSt → Int32 → Int32 → Int32 → Prop) (s : RSt) (v1 : Int32) (v2 : Int32) (v3 : Int32) : Prop := ((s.1 14) ≤ v3 → K159 s v1 (v2 + 1)) ∧ (¬ (s.1 14) ≤ v3 → vp_in ((40 * v2) + v1) 1600 ∧ vp_in ((40 * v1) + v3) 1600 ∧ ∀ x2 : Int64, x2 = (s.2.2 42 ((40 * v2) + v1).toNatClampNeg) + (s.2.2 42 ((40 * v1) + v3).toNatClampNeg) → vp_in ((40 * v2) + v3) 1600 ∧ (0 ≤ (lg_cmp x2 (s.2.2 42 ((40 * v2) + v3).toNatClampNeg)) → wpR_ways_232 post K149 K159 K169 s v1 v2 v3) ∧ (¬ 0 ≤ (lg_cmp x2 (s.2.2 42 ((40 * v2) + v3).toNatClampNeg)) → vp_in ((40 * v2) + v3) 1600 ∧ ∀ s4 : RSt, s4 = rsJ s 42 ((40 * v2) + v3).toNatClampNeg x2 → wpR_ways_232 post K149 K159 K169 s4 v1 v2 v3))
def wpR_ways_169 (post : RSt → Prop) (K149 : RSt → Int32 → Prop) (K159 : RSt → Int32 → Int32 → Prop) (s : RSt) (v1 : Int32) (v2 : Int32) (v3 : Int32) : Prop := gLP (fun (K : RSt × Int32 × Int32 × Int32 → Prop) (x : RSt × Int32 × Int32 × Int32) => wpR_ways_169_F post K149 K159 (fun s v1 v2 v3 => K (s, v1, v2, v3)) x.1 x.2.1 x.2.2.1 x.2.2.2) (s, v1, v2, v3)
def wpR_ways_159_F (post : RSt → Prop) (K149 : RSt → Int32 → Prop) (K159 : RSt → Int32 → Int32 → Prop) (s : RSt) (v1 : Int32) (v2 : Int32) : Prop := ((s.1 14) ≤ v2 → K149 s (v1 + 1)) ∧ (¬ (s.1 14) ≤ v2 → wpR_ways_169 post K149 K159 s v1 v2 0)
def wpR_ways_159 (post : RSt → Prop) (K149 : RSt → Int32 → Prop) (s : RSt) (v1 : Int32) (v2 : Int32) : Prop := gLP (fun (K : RSt × Int32 × Int32 → Prop) (x : RSt × Int32 × Int32) => wpR_ways_159_F post K149 (fun s v1 v2 => K (s, v1, v2)) x.1 x.2.1 x.2.2) (s, v1, v2)
def wpR_ways_149_F (post : RSt → Prop) (K149 : RSt → Int32 → Prop) (s : RSt) (v1 : Int32) : Prop := ((s.1 14) ≤ v1 → post s) ∧ (¬ (s.1 14) ≤ v1 → wpR_ways_159 post K149 s v1 0)
def wpR_ways_149 (post : RSt → Prop) (s : RSt) (v1 : Int32) : Prop := gLP (fun (K : RSt × Int32 → Prop) (x : RSt × Int32) => wpR_ways_149_F post (fun s v1 => K (s, v1)) x.1 x.2) (s, v1)
def wpR_ways_128 (post : RSt → Prop) (K48 : RSt → Int32 → Prop) (s : RSt) (v1 : Int32) (v2 : Int32) (v3 : Int32) (w1 : Int32) (w2 : Int64) : Prop := vp_in w1 1600 ∧ ∀ s7 : RSt, s7 = rsJ s 42 w1.toNatClampNeg w2 → vp_in v2 1600 ∧ vp_in v3 1600 ∧ ∀ s8 : RSt, s8 = rsJ s7 42 v3.toNatClampNeg (s7.2.2 42 v2.toNatClampNeg) → K48 s8 (v1 + 1)
def wpR_ways_48_F (post : RSt → Prop) (K48 : RSt → Int32 → Prop) (s : RSt) (v1 : Int32) : Prop := ((s.1 26) ≤ v1 → wpR_ways_149 post s 0) ∧ (¬ (s.1 26) ≤ v1 → vp_in v1 80 ∧ vp_in v1 80 ∧ ∀ x10 : Int32, x10 = (40 * (s.2.1 23 v1.toNatClampNeg)) + (s.2.1 24 v1.toNatClampNeg) → vp_in v1 80 ∧ vp_in v1 80 ∧ ∀ x11 : Int32, x11 = (40 * (s.2.1 24 v1.toNatClampNeg)) + (s.2.1 23 v1.toNatClampNeg) → vp_in v1 80 ∧ vp_in x10 1600 ∧ (0 ≤ (lg_cmp ((s.2.1 25 v1.toNatClampNeg).toInt64) (s.2.2 42 x10.toNatClampNeg)) → vp_in x10 1600 ∧ wpR_ways_128 post K48 s v1 x10 x11 x10 (s.2.2 42 x10.toNatClampNeg)) ∧ (¬ 0 ≤ (lg_cmp ((s.2.1 25 v1.toNatClampNeg).toInt64) (s.2.2 42 x10.toNatClampNeg)) → vp_in v1 80 ∧ wpR_ways_128 post K48 s v1 x10 x11 x10 ((s.2.1 25 v1.toNatClampNeg).toInt64)))
def wpR_ways_48 (post : RSt → Prop) (s : RSt) (v1 : Int32) : Prop := gLP (fun (K : RSt × Int32 → Prop) (x : RSt × Int32) => wpR_ways_48_F post (fun s v1 => K (s, v1)) x.1 x.2) (s, v1)
def wpR_ways_32 (post : RSt → Prop) (K2 : RSt → Int32 → Prop) (s : RSt) (v1 : Int32) (w1 : Int32) (w2 : Int64) : Prop := vp_in w1 1600 ∧ ∀ s13 : RSt, s13 = rsJ s 42 w1.toNatClampNeg w2 → vp_in v1 1600 ∧ ∀ s14 : RSt, s14 = rsJ s13 43 v1.toNatClampNeg 0 → K2 s14 (v1 + 1)
def wpR_ways_2_F (post : RSt → Prop) (K2 : RSt → Int32 → Prop) (s : RSt) (v1 : Int32) : Prop := (1600 ≤ v1 → wpR_ways_48 post s 0) ∧ (¬ 1600 ≤ v1 → (¬ (v1 - v1 / 40 * 40) = (v1 / 40) → wpR_ways_32 post K2 s v1 v1 1000000000000) ∧ ((v1 - v1 / 40 * 40) = (v1 / 40) → wpR_ways_32 post K2 s v1 v1 0))
def wpR_ways_2 (post : RSt → Prop) (s : RSt) (v1 : Int32) : Prop := gLP (fun (K : RSt × Int32 → Prop) (x : RSt × Int32) => wpR_ways_2_F post (fun s v1 => K (s, v1)) x.1 x.2) (s, v1)
def wpR_ways_0 (post : RSt → Prop) (s : RSt) : Prop := wpR_ways_2 post s 0
theorem wkR_ways_232 {X : gT} {G : rG} {A : Nat → Prop} {H0 : Heap} {Q : State → Prop} (C : rC X cX8_ways 6 G A) (hsz : H0 = (g_s X).heap) (hR : 0 ≤ (g_R X).frames ∧ 0 ≤ (g_R X).locals) {post : RSt → Prop} (hret : ∀ (τ : RSt) (lv : List (Nat × Value)) (pc : Nat), post τ → decode cX8_ways pc = .ok (.return_, 1) → gJ X (rWd G A H0) Q 0 0 τ lv pc []) {K149 : RSt → Int32 → Prop} {K159 : RSt → Int32 → Int32 → Prop} {K169 : RSt → Int32 → Int32 → Int32 → Prop} (hK149 : ∀ (s : RSt) (v1 : Int32), K149 s v1 → gJ X (rWd G A H0) Q 0 0 s [(0, .ref (G.2.2.1 0)), (1, .int v1)] 149 []) (hK159 : ∀ (s : RSt) (v1 : Int32) (v2 : Int32), K159 s v1 v2 → gJ X (rWd G A H0) Q 0 0 s [(0, .ref (G.2.2.1 0)), (1, .int v1), (2, .int v2)] 159 []) (hK169 : ∀ (s : RSt) (v1 : Int32) (v2 : Int32) (v3 : Int32), K169 s v1 v2 v3 → gJ X (rWd G A H0) Q 0 0 s [(0, .ref (G.2.2.1 0)), (1, .int v1), (2, .int v2), (3, .int v3)] 169 []) (s : RSt) (v1 : Int32) (v2 : Int32) (v3 : Int32) (hw : wpR_ways_232 post K149 K159 K169 s v1 v2 v3) : gJ X (rWd G A H0) Q 0 0 s [(0, .ref (G.2.2.1 0)), (1, .int v1), (2, .int v2), (3, .int v3)] 232 [] := by
  refine g_iinc (v := v3 + 1) (lv' := [(3, .int (v3 + 1)), (0, .ref (G.2.2.1 0)), (1, .int v1), (2, .int v2)]) C.1 3 dX8_ways_232 rfl rfl (by decide) rfl ?_
  refine g_goto (tgt := 169) C.1 dX8_ways_235 (by decide) ?_
  refine gJ.sub [1, 2, 3, 0] rfl ?_
  exact hK169 _ _ _ _ hw
theorem wkR_ways_169_F {X : gT} {G : rG} {A : Nat → Prop} {H0 : Heap} {Q : State → Prop} (C : rC X cX8_ways 6 G A) (hsz : H0 = (g_s X).heap) (hR : 0 ≤ (g_R X).frames ∧ 0 ≤ (g_R X).locals) {post : RSt → Prop} (hret : ∀ (τ : RSt) (lv : List (Nat × Value)) (pc : Nat), post τ → decode cX8_ways pc = .ok (.return_, 1) → gJ X (rWd G A H0) Q 0 0 τ lv pc []) {K149 : RSt → Int32 → Prop} {K159 : RSt → Int32 → Int32 → Prop} {K169 : RSt → Int32 → Int32 → Int32 → Prop} (hK149 : ∀ (s : RSt) (v1 : Int32), K149 s v1 → gJ X (rWd G A H0) Q 0 0 s [(0, .ref (G.2.2.1 0)), (1, .int v1)] 149 []) (hK159 : ∀ (s : RSt) (v1 : Int32) (v2 : Int32), K159 s v1 v2 → gJ X (rWd G A H0) Q 0 0 s [(0, .ref (G.2.2.1 0)), (1, .int v1), (2, .int v2)] 159 []) (hK169 : ∀ (s : RSt) (v1 : Int32) (v2 : Int32) (v3 : Int32), K169 s v1 v2 v3 → gJ X (rWd G A H0) Q 0 0 s [(0, .ref (G.2.2.1 0)), (1, .int v1), (2, .int v2), (3, .int v3)] 169 []) (s : RSt) (v1 : Int32) (v2 : Int32) (v3 : Int32) (hw : wpR_ways_169_F post K149 K159 K169 s v1 v2 v3) : gJ X (rWd G A H0) Q 0 0 s [(0, .ref (G.2.2.1 0)), (1, .int v1), (2, .int v2), (3, .int v3)] 169 [] := by
  refine g_iload_n C.1 3 dX8_ways_169 rfl rfl ?_
  refine g_aload_n C.1 0 dX8_ways_170 rfl rfl ?_
  refine r_g14 C dX8_ways_171 ?_
  refine g_icmp_ge (tgt := 238) C.1 dX8_ways_174 (by decide) (fun h1 => ?_) (fun h1 => ?_)
  · replace hw := hw.1 h1
    refine g_iinc (v := v2 + 1) (lv' := [(2, .int (v2 + 1)), (0, .ref (G.2.2.1 0)), (1, .int v1), (3, .int v3)]) C.1 2 dX8_ways_238 rfl rfl (by decide) rfl ?_
    refine g_goto (tgt := 159) C.1 dX8_ways_241 (by decide) ?_
    refine gJ.sub [1, 2, 0] rfl ?_
    exact hK159 _ _ _ hw
  · replace hw := hw.2 h1
    refine g_aload_n C.1 0 dX8_ways_177 rfl rfl ?_
    refine r_g42 C dX8_ways_178 ?_
    refine g_bipush (v := 40) C.1 dX8_ways_181 (by decide) ?_
    refine g_iload_n C.1 2 dX8_ways_183 rfl rfl ?_
    refine g_imul C.1 dX8_ways_184 ?_
    refine g_iload_n C.1 1 dX8_ways_185 rfl rfl ?_
    refine g_iadd C.1 dX8_ways_186 ?_
    refine r_ld42 C hw.1 dX8_ways_187 ?_
    replace hw := hw.2
    refine g_aload_n C.1 0 dX8_ways_188 rfl rfl ?_
    refine r_g42 C dX8_ways_189 ?_
    refine g_bipush (v := 40) C.1 dX8_ways_192 (by decide) ?_
    refine g_iload_n C.1 1 dX8_ways_194 rfl rfl ?_
    refine g_imul C.1 dX8_ways_195 ?_
    refine g_iload_n C.1 3 dX8_ways_196 rfl rfl ?_
    refine g_iadd C.1 dX8_ways_197 ?_
    refine r_ld42 C hw.1 dX8_ways_198 ?_
    replace hw := hw.2
    refine g_ladd C.1 dX8_ways_199 ?_
    refine g_topl (fun x2 ex2 => ?_)
    replace hw := hw x2 ex2
    refine g_lstore (lv' := [(4, .long x2), (0, .ref (G.2.2.1 0)), (1, .int v1), (2, .int v2), (3, .int v3)]) C.1 dX8_ways_200 (by decide) rfl ?_
    refine g_lload C.1 0 dX8_ways_202 rfl ?_
    refine g_aload_n C.1 1 dX8_ways_204 rfl rfl ?_
    refine r_g42 C dX8_ways_205 ?_
    refine g_bipush (v := 40) C.1 dX8_ways_208 (by decide) ?_
    refine g_iload_n C.1 3 dX8_ways_210 rfl rfl ?_
    refine g_imul C.1 dX8_ways_211 ?_
    refine g_iload_n C.1 4 dX8_ways_212 rfl rfl ?_
    refine g_iadd C.1 dX8_ways_213 ?_
    refine r_ld42 C hw.1 dX8_ways_214 ?_
    replace hw := hw.2
    refine g_lcmp C.1 dX8_ways_215 ?_
    refine g_if_ge (tgt := 232) C.1 dX8_ways_216 (by decide) (fun h3 => ?_) (fun h3 => ?_)
    · replace hw := hw.1 h3
      refine gJ.sub [1, 2, 3, 4] rfl ?_
      exact wkR_ways_232 C hsz hR hret hK149 hK159 hK169 _ _ _ _ hw
    · replace hw := hw.2 h3
      refine g_aload_n C.1 1 dX8_ways_219 rfl rfl ?_
      refine r_g42 C dX8_ways_220 ?_
      refine g_bipush (v := 40) C.1 dX8_ways_223 (by decide) ?_
      refine g_iload_n C.1 3 dX8_ways_225 rfl rfl ?_
      refine g_imul C.1 dX8_ways_226 ?_
      refine g_iload_n C.1 4 dX8_ways_227 rfl rfl ?_
      refine g_iadd C.1 dX8_ways_228 ?_
      refine g_lload C.1 0 dX8_ways_229 rfl ?_
      refine r_st42 C hw.1 dX8_ways_231 ?_
      replace hw := hw.2
      refine gJ.nm (fun s4 es4 => ?_)
      replace hw := hw s4 es4
      refine gJ.sub [1, 2, 3, 4] rfl ?_
      exact wkR_ways_232 C hsz hR hret hK149 hK159 hK169 _ _ _ _ hw
theorem wkR_ways_169 {X : gT} {G : rG} {A : Nat → Prop} {H0 : Heap} {Q : State → Prop} (C : rC X cX8_ways 6 G A) (hsz : H0 = (g_s X).heap) (hR : 0 ≤ (g_R X).frames ∧ 0 ≤ (g_R X).locals) {post : RSt → Prop} (hret : ∀ (τ : RSt) (lv : List (Nat × Value)) (pc : Nat), post τ → decode cX8_ways pc = .ok (.return_, 1) → gJ X (rWd G A H0) Q 0 0 τ lv pc []) {K149 : RSt → Int32 → Prop} {K159 : RSt → Int32 → Int32 → Prop} (hK149 : ∀ (s : RSt) (v1 : Int32), K149 s v1 → gJ X (rWd G A H0) Q 0 0 s [(0, .ref (G.2.2.1 0)), (1, .int v1)] 149 []) (hK159 : ∀ (s : RSt) (v1 : Int32) (v2 : Int32), K159 s v1 v2 → gJ X (rWd G A H0) Q 0 0 s [(0, .ref (G.2.2.1 0)), (1, .int v1), (2, .int v2)] 159 []) (s : RSt) (v1 : Int32) (v2 : Int32) (v3 : Int32) (hw : wpR_ways_169 post K149 K159 s v1 v2 v3) : gJ X (rWd G A H0) Q 0 0 s [(0, .ref (G.2.2.1 0)), (1, .int v1), (2, .int v2), (3, .int v3)] 169 [] := 
  hw (fun (x : RSt × Int32 × Int32 × Int32) => (fun s v1 v2 v3 => gJ X (rWd G A H0) Q 0 0 s [(0, .ref (G.2.2.1 0)), (1, .int v1), (2, .int v2), (3, .int v3)] 169 []) x.1 x.2.1 x.2.2.1 x.2.2.2) (fun x hx => wkR_ways_169_F C hsz hR hret hK149 hK159 (K169 := (fun s v1 v2 v3 => gJ X (rWd G A H0) Q 0 0 s [(0, .ref (G.2.2.1 0)), (1, .int v1), (2, .int v2), (3, .int v3)] 169 [])) (fun _ _ _ _ h => h) x.1 x.2.1 x.2.2.1 x.2.2.2 hx)
theorem wkR_ways_159_F {X : gT} {G : rG} {A : Nat → Prop} {H0 : Heap} {Q : State → Prop} (C : rC X cX8_ways 6 G A) (hsz : H0 = (g_s X).heap) (hR : 0 ≤ (g_R X).frames ∧ 0 ≤ (g_R X).locals) {post : RSt → Prop} (hret : ∀ (τ : RSt) (lv : List (Nat × Value)) (pc : Nat), post τ → decode cX8_ways pc = .ok (.return_, 1) → gJ X (rWd G A H0) Q 0 0 τ lv pc []) {K149 : RSt → Int32 → Prop} {K159 : RSt → Int32 → Int32 → Prop} (hK149 : ∀ (s : RSt) (v1 : Int32), K149 s v1 → gJ X (rWd G A H0) Q 0 0 s [(0, .ref (G.2.2.1 0)), (1, .int v1)] 149 []) (hK159 : ∀ (s : RSt) (v1 : Int32) (v2 : Int32), K159 s v1 v2 → gJ X (rWd G A H0) Q 0 0 s [(0, .ref (G.2.2.1 0)), (1, .int v1), (2, .int v2)] 159 []) (s : RSt) (v1 : Int32) (v2 : Int32) (hw : wpR_ways_159_F post K149 K159 s v1 v2) : gJ X (rWd G A H0) Q 0 0 s [(0, .ref (G.2.2.1 0)), (1, .int v1), (2, .int v2)] 159 [] := by
  refine g_iload_n C.1 2 dX8_ways_159 rfl rfl ?_
  refine g_aload_n C.1 0 dX8_ways_160 rfl rfl ?_
  refine r_g14 C dX8_ways_161 ?_
  refine g_icmp_ge (tgt := 244) C.1 dX8_ways_164 (by decide) (fun h5 => ?_) (fun h5 => ?_)
  · replace hw := hw.1 h5
    refine g_iinc (v := v1 + 1) (lv' := [(1, .int (v1 + 1)), (0, .ref (G.2.2.1 0)), (2, .int v2)]) C.1 1 dX8_ways_244 rfl rfl (by decide) rfl ?_
    refine g_goto (tgt := 149) C.1 dX8_ways_247 (by decide) ?_
    refine gJ.sub [1, 0] rfl ?_
    exact hK149 _ _ hw
  · replace hw := hw.2 h5
    refine g_iconst (v := 0) C.1 dX8_ways_167 (by decide) ?_
    refine g_istore_n (lv' := [(3, .int 0), (0, .ref (G.2.2.1 0)), (1, .int v1), (2, .int v2)]) C.1 dX8_ways_168 rfl (by decide) rfl ?_
    refine gJ.sub [1, 2, 3, 0] rfl ?_
    exact wkR_ways_169 C hsz hR hret hK149 hK159 _ _ _ _ hw
theorem wkR_ways_159 {X : gT} {G : rG} {A : Nat → Prop} {H0 : Heap} {Q : State → Prop} (C : rC X cX8_ways 6 G A) (hsz : H0 = (g_s X).heap) (hR : 0 ≤ (g_R X).frames ∧ 0 ≤ (g_R X).locals) {post : RSt → Prop} (hret : ∀ (τ : RSt) (lv : List (Nat × Value)) (pc : Nat), post τ → decode cX8_ways pc = .ok (.return_, 1) → gJ X (rWd G A H0) Q 0 0 τ lv pc []) {K149 : RSt → Int32 → Prop} (hK149 : ∀ (s : RSt) (v1 : Int32), K149 s v1 → gJ X (rWd G A H0) Q 0 0 s [(0, .ref (G.2.2.1 0)), (1, .int v1)] 149 []) (s : RSt) (v1 : Int32) (v2 : Int32) (hw : wpR_ways_159 post K149 s v1 v2) : gJ X (rWd G A H0) Q 0 0 s [(0, .ref (G.2.2.1 0)), (1, .int v1), (2, .int v2)] 159 [] := 
  hw (fun (x : RSt × Int32 × Int32) => (fun s v1 v2 => gJ X (rWd G A H0) Q 0 0 s [(0, .ref (G.2.2.1 0)), (1, .int v1), (2, .int v2)] 159 []) x.1 x.2.1 x.2.2) (fun x hx => wkR_ways_159_F C hsz hR hret hK149 (K159 := (fun s v1 v2 => gJ X (rWd G A H0) Q 0 0 s [(0, .ref (G.2.2.1 0)), (1, .int v1), (2, .int v2)] 159 [])) (fun _ _ _ h => h) x.1 x.2.1 x.2.2 hx)
theorem wkR_ways_149_F {X : gT} {G : rG} {A : Nat → Prop} {H0 : Heap} {Q : State → Prop} (C : rC X cX8_ways 6 G A) (hsz : H0 = (g_s X).heap) (hR : 0 ≤ (g_R X).frames ∧ 0 ≤ (g_R X).locals) {post : RSt → Prop} (hret : ∀ (τ : RSt) (lv : List (Nat × Value)) (pc : Nat), post τ → decode cX8_ways pc = .ok (.return_, 1) → gJ X (rWd G A H0) Q 0 0 τ lv pc []) {K149 : RSt → Int32 → Prop} (hK149 : ∀ (s : RSt) (v1 : Int32), K149 s v1 → gJ X (rWd G A H0) Q 0 0 s [(0, .ref (G.2.2.1 0)), (1, .int v1)] 149 []) (s : RSt) (v1 : Int32) (hw : wpR_ways_149_F post K149 s v1) : gJ X (rWd G A H0) Q 0 0 s [(0, .ref (G.2.2.1 0)), (1, .int v1)] 149 [] := by
  refine g_iload_n C.1 1 dX8_ways_149 rfl rfl ?_
  refine g_aload_n C.1 0 dX8_ways_150 rfl rfl ?_
  refine r_g14 C dX8_ways_151 ?_
  refine g_icmp_ge (tgt := 250) C.1 dX8_ways_154 (by decide) (fun h6 => ?_) (fun h6 => ?_)
  · replace hw := hw.1 h6
    exact hret _ _ _ hw dX8_ways_250
  · replace hw := hw.2 h6
    refine g_iconst (v := 0) C.1 dX8_ways_157 (by decide) ?_
    refine g_istore_n (lv' := [(2, .int 0), (0, .ref (G.2.2.1 0)), (1, .int v1)]) C.1 dX8_ways_158 rfl (by decide) rfl ?_
    refine gJ.sub [1, 2, 0] rfl ?_
    exact wkR_ways_159 C hsz hR hret hK149 _ _ _ hw
theorem wkR_ways_149 {X : gT} {G : rG} {A : Nat → Prop} {H0 : Heap} {Q : State → Prop} (C : rC X cX8_ways 6 G A) (hsz : H0 = (g_s X).heap) (hR : 0 ≤ (g_R X).frames ∧ 0 ≤ (g_R X).locals) {post : RSt → Prop} (hret : ∀ (τ : RSt) (lv : List (Nat × Value)) (pc : Nat), post τ → decode cX8_ways pc = .ok (.return_, 1) → gJ X (rWd G A H0) Q 0 0 τ lv pc []) (s : RSt) (v1 : Int32) (hw : wpR_ways_149 post s v1) : gJ X (rWd G A H0) Q 0 0 s [(0, .ref (G.2.2.1 0)), (1, .int v1)] 149 [] := 
  hw (fun (x : RSt × Int32) => (fun s v1 => gJ X (rWd G A H0) Q 0 0 s [(0, .ref (G.2.2.1 0)), (1, .int v1)] 149 []) x.1 x.2) (fun x hx => wkR_ways_149_F C hsz hR hret (K149 := (fun s v1 => gJ X (rWd G A H0) Q 0 0 s [(0, .ref (G.2.2.1 0)), (1, .int v1)] 149 [])) (fun _ _ h => h) x.1 x.2 hx)
theorem wkR_ways_128 {X : gT} {G : rG} {A : Nat → Prop} {H0 : Heap} {Q : State → Prop} (C : rC X cX8_ways 6 G A) (hsz : H0 = (g_s X).heap) (hR : 0 ≤ (g_R X).frames ∧ 0 ≤ (g_R X).locals) {post : RSt → Prop} (hret : ∀ (τ : RSt) (lv : List (Nat × Value)) (pc : Nat), post τ → decode cX8_ways pc = .ok (.return_, 1) → gJ X (rWd G A H0) Q 0 0 τ lv pc []) {K48 : RSt → Int32 → Prop} (hK48 : ∀ (s : RSt) (v1 : Int32), K48 s v1 → gJ X (rWd G A H0) Q 0 0 s [(0, .ref (G.2.2.1 0)), (1, .int v1)] 48 []) (s : RSt) (v1 : Int32) (v2 : Int32) (v3 : Int32) (w1 : Int32) (w2 : Int64) (hw : wpR_ways_128 post K48 s v1 v2 v3 w1 w2) : gJ X (rWd G A H0) Q 0 0 s [(0, .ref (G.2.2.1 0)), (1, .int v1), (2, .int v2), (3, .int v3)] 128 [.long w2, .int w1, .ref (G.2.2.1 42)] := by
  refine r_st42 C hw.1 dX8_ways_128 ?_
  replace hw := hw.2
  refine gJ.nm (fun s7 es7 => ?_)
  replace hw := hw s7 es7
  refine g_aload_n C.1 0 dX8_ways_129 rfl rfl ?_
  refine r_g42 C dX8_ways_130 ?_
  refine g_iload_n C.1 3 dX8_ways_133 rfl rfl ?_
  refine g_aload_n C.1 0 dX8_ways_134 rfl rfl ?_
  refine r_g42 C dX8_ways_135 ?_
  refine g_iload_n C.1 2 dX8_ways_138 rfl rfl ?_
  refine r_ld42 C hw.1 dX8_ways_139 ?_
  replace hw := hw.2
  refine r_st42 C hw.1 dX8_ways_140 ?_
  replace hw := hw.2
  refine gJ.nm (fun s8 es8 => ?_)
  replace hw := hw s8 es8
  refine g_iinc (v := v1 + 1) (lv' := [(1, .int (v1 + 1)), (0, .ref (G.2.2.1 0)), (2, .int v2), (3, .int v3)]) C.1 1 dX8_ways_141 rfl rfl (by decide) rfl ?_
  refine g_goto (tgt := 48) C.1 dX8_ways_144 (by decide) ?_
  refine gJ.sub [1, 0] rfl ?_
  exact hK48 _ _ hw
theorem wkR_ways_48_F {X : gT} {G : rG} {A : Nat → Prop} {H0 : Heap} {Q : State → Prop} (C : rC X cX8_ways 6 G A) (hsz : H0 = (g_s X).heap) (hR : 0 ≤ (g_R X).frames ∧ 0 ≤ (g_R X).locals) {post : RSt → Prop} (hret : ∀ (τ : RSt) (lv : List (Nat × Value)) (pc : Nat), post τ → decode cX8_ways pc = .ok (.return_, 1) → gJ X (rWd G A H0) Q 0 0 τ lv pc []) {K48 : RSt → Int32 → Prop} (hK48 : ∀ (s : RSt) (v1 : Int32), K48 s v1 → gJ X (rWd G A H0) Q 0 0 s [(0, .ref (G.2.2.1 0)), (1, .int v1)] 48 []) (s : RSt) (v1 : Int32) (hw : wpR_ways_48_F post K48 s v1) : gJ X (rWd G A H0) Q 0 0 s [(0, .ref (G.2.2.1 0)), (1, .int v1)] 48 [] := by
  refine g_iload_n C.1 1 dX8_ways_48 rfl rfl ?_
  refine g_aload_n C.1 0 dX8_ways_49 rfl rfl ?_
  refine r_g26 C dX8_ways_50 ?_
  refine g_icmp_ge (tgt := 147) C.1 dX8_ways_53 (by decide) (fun h9 => ?_) (fun h9 => ?_)
  · replace hw := hw.1 h9
    refine g_iconst (v := 0) C.1 dX8_ways_147 (by decide) ?_
    refine g_istore_n (lv' := [(1, .int 0), (0, .ref (G.2.2.1 0))]) C.1 dX8_ways_148 rfl (by decide) rfl ?_
    refine gJ.sub [1, 0] rfl ?_
    exact wkR_ways_149 C hsz hR hret _ _ hw
  · replace hw := hw.2 h9
    refine g_bipush (v := 40) C.1 dX8_ways_56 (by decide) ?_
    refine g_aload_n C.1 0 dX8_ways_58 rfl rfl ?_
    refine r_g23 C dX8_ways_59 ?_
    refine g_iload_n C.1 1 dX8_ways_62 rfl rfl ?_
    refine r_ld23 C hw.1 dX8_ways_63 ?_
    replace hw := hw.2
    refine g_imul C.1 dX8_ways_64 ?_
    refine g_aload_n C.1 0 dX8_ways_65 rfl rfl ?_
    refine r_g24 C dX8_ways_66 ?_
    refine g_iload_n C.1 1 dX8_ways_69 rfl rfl ?_
    refine r_ld24 C hw.1 dX8_ways_70 ?_
    replace hw := hw.2
    refine g_iadd C.1 dX8_ways_71 ?_
    refine g_topi (fun x10 ex10 => ?_)
    replace hw := hw x10 ex10
    refine g_istore_n (lv' := [(2, .int x10), (0, .ref (G.2.2.1 0)), (1, .int v1)]) C.1 dX8_ways_72 rfl (by decide) rfl ?_
    refine g_bipush (v := 40) C.1 dX8_ways_73 (by decide) ?_
    refine g_aload_n C.1 1 dX8_ways_75 rfl rfl ?_
    refine r_g24 C dX8_ways_76 ?_
    refine g_iload_n C.1 2 dX8_ways_79 rfl rfl ?_
    refine r_ld24 C hw.1 dX8_ways_80 ?_
    replace hw := hw.2
    refine g_imul C.1 dX8_ways_81 ?_
    refine g_aload_n C.1 1 dX8_ways_82 rfl rfl ?_
    refine r_g23 C dX8_ways_83 ?_
    refine g_iload_n C.1 2 dX8_ways_86 rfl rfl ?_
    refine r_ld23 C hw.1 dX8_ways_87 ?_
    replace hw := hw.2
    refine g_iadd C.1 dX8_ways_88 ?_
    refine g_topi (fun x11 ex11 => ?_)
    replace hw := hw x11 ex11
    refine g_istore_n (lv' := [(3, .int x11), (2, .int x10), (0, .ref (G.2.2.1 0)), (1, .int v1)]) C.1 dX8_ways_89 rfl (by decide) rfl ?_
    refine g_aload_n C.1 2 dX8_ways_90 rfl rfl ?_
    refine r_g42 C dX8_ways_91 ?_
    refine g_iload_n C.1 1 dX8_ways_94 rfl rfl ?_
    refine g_aload_n C.1 2 dX8_ways_95 rfl rfl ?_
    refine r_g25 C dX8_ways_96 ?_
    refine g_iload_n C.1 3 dX8_ways_99 rfl rfl ?_
    refine r_ld25 C hw.1 dX8_ways_100 ?_
    replace hw := hw.2
    refine g_i2l C.1 dX8_ways_101 ?_
    refine g_aload_n C.1 2 dX8_ways_102 rfl rfl ?_
    refine r_g42 C dX8_ways_103 ?_
    refine g_iload_n C.1 1 dX8_ways_106 rfl rfl ?_
    refine r_ld42 C hw.1 dX8_ways_107 ?_
    replace hw := hw.2
    refine g_lcmp C.1 dX8_ways_108 ?_
    refine g_if_ge (tgt := 122) C.1 dX8_ways_109 (by decide) (fun h12 => ?_) (fun h12 => ?_)
    · replace hw := hw.1 h12
      refine g_aload_n C.1 2 dX8_ways_122 rfl rfl ?_
      refine r_g42 C dX8_ways_123 ?_
      refine g_iload_n C.1 1 dX8_ways_126 rfl rfl ?_
      refine r_ld42 C hw.1 dX8_ways_127 ?_
      replace hw := hw.2
      refine gJ.sub [2, 3, 1, 0] rfl ?_
      exact wkR_ways_128 C hsz hR hret hK48 _ _ _ _ _ _ hw
    · replace hw := hw.2 h12
      refine g_aload_n C.1 2 dX8_ways_112 rfl rfl ?_
      refine r_g25 C dX8_ways_113 ?_
      refine g_iload_n C.1 3 dX8_ways_116 rfl rfl ?_
      refine r_ld25 C hw.1 dX8_ways_117 ?_
      replace hw := hw.2
      refine g_i2l C.1 dX8_ways_118 ?_
      refine g_goto (tgt := 128) C.1 dX8_ways_119 (by decide) ?_
      refine gJ.sub [2, 3, 1, 0] rfl ?_
      exact wkR_ways_128 C hsz hR hret hK48 _ _ _ _ _ _ hw
theorem wkR_ways_48 {X : gT} {G : rG} {A : Nat → Prop} {H0 : Heap} {Q : State → Prop} (C : rC X cX8_ways 6 G A) (hsz : H0 = (g_s X).heap) (hR : 0 ≤ (g_R X).frames ∧ 0 ≤ (g_R X).locals) {post : RSt → Prop} (hret : ∀ (τ : RSt) (lv : List (Nat × Value)) (pc : Nat), post τ → decode cX8_ways pc = .ok (.return_, 1) → gJ X (rWd G A H0) Q 0 0 τ lv pc []) (s : RSt) (v1 : Int32) (hw : wpR_ways_48 post s v1) : gJ X (rWd G A H0) Q 0 0 s [(0, .ref (G.2.2.1 0)), (1, .int v1)] 48 [] := 
  hw (fun (x : RSt × Int32) => (fun s v1 => gJ X (rWd G A H0) Q 0 0 s [(0, .ref (G.2.2.1 0)), (1, .int v1)] 48 []) x.1 x.2) (fun x hx => wkR_ways_48_F C hsz hR hret (K48 := (fun s v1 => gJ X (rWd G A H0) Q 0 0 s [(0, .ref (G.2.2.1 0)), (1, .int v1)] 48 [])) (fun _ _ h => h) x.1 x.2 hx)
theorem wkR_ways_32 {X : gT} {G : rG} {A : Nat → Prop} {H0 : Heap} {Q : State → Prop} (C : rC X cX8_ways 6 G A) (hsz : H0 = (g_s X).heap) (hR : 0 ≤ (g_R X).frames ∧ 0 ≤ (g_R X).locals) {post : RSt → Prop} (hret : ∀ (τ : RSt) (lv : List (Nat × Value)) (pc : Nat), post τ → decode cX8_ways pc = .ok (.return_, 1) → gJ X (rWd G A H0) Q 0 0 τ lv pc []) {K2 : RSt → Int32 → Prop} (hK2 : ∀ (s : RSt) (v1 : Int32), K2 s v1 → gJ X (rWd G A H0) Q 0 0 s [(0, .ref (G.2.2.1 0)), (1, .int v1)] 2 []) (s : RSt) (v1 : Int32) (w1 : Int32) (w2 : Int64) (hw : wpR_ways_32 post K2 s v1 w1 w2) : gJ X (rWd G A H0) Q 0 0 s [(0, .ref (G.2.2.1 0)), (1, .int v1)] 32 [.long w2, .int w1, .ref (G.2.2.1 42)] := by
  refine r_st42 C hw.1 dX8_ways_32 ?_
  replace hw := hw.2
  refine gJ.nm (fun s13 es13 => ?_)
  replace hw := hw s13 es13
  refine g_aload_n C.1 0 dX8_ways_33 rfl rfl ?_
  refine r_g43 C dX8_ways_34 ?_
  refine g_iload_n C.1 1 dX8_ways_37 rfl rfl ?_
  refine g_lconst (v := 0) C.1 dX8_ways_38 (by decide) ?_
  refine r_st43 C hw.1 dX8_ways_39 ?_
  replace hw := hw.2
  refine gJ.nm (fun s14 es14 => ?_)
  replace hw := hw s14 es14
  refine g_iinc (v := v1 + 1) (lv' := [(1, .int (v1 + 1)), (0, .ref (G.2.2.1 0))]) C.1 1 dX8_ways_40 rfl rfl (by decide) rfl ?_
  refine g_goto (tgt := 2) C.1 dX8_ways_43 (by decide) ?_
  refine gJ.sub [1, 0] rfl ?_
  exact hK2 _ _ hw
theorem wkR_ways_2_F {X : gT} {G : rG} {A : Nat → Prop} {H0 : Heap} {Q : State → Prop} (C : rC X cX8_ways 6 G A) (hsz : H0 = (g_s X).heap) (hR : 0 ≤ (g_R X).frames ∧ 0 ≤ (g_R X).locals) {post : RSt → Prop} (hret : ∀ (τ : RSt) (lv : List (Nat × Value)) (pc : Nat), post τ → decode cX8_ways pc = .ok (.return_, 1) → gJ X (rWd G A H0) Q 0 0 τ lv pc []) {K2 : RSt → Int32 → Prop} (hK2 : ∀ (s : RSt) (v1 : Int32), K2 s v1 → gJ X (rWd G A H0) Q 0 0 s [(0, .ref (G.2.2.1 0)), (1, .int v1)] 2 []) (s : RSt) (v1 : Int32) (hw : wpR_ways_2_F post K2 s v1) : gJ X (rWd G A H0) Q 0 0 s [(0, .ref (G.2.2.1 0)), (1, .int v1)] 2 [] := by
  refine g_iload_n C.1 1 dX8_ways_2 rfl rfl ?_
  refine g_sipush (v := 1600) C.1 dX8_ways_3 (by decide) ?_
  refine g_icmp_ge (tgt := 46) C.1 dX8_ways_6 (by decide) (fun h15 => ?_) (fun h15 => ?_)
  · replace hw := hw.1 h15
    refine g_iconst (v := 0) C.1 dX8_ways_46 (by decide) ?_
    refine g_istore_n (lv' := [(1, .int 0), (0, .ref (G.2.2.1 0))]) C.1 dX8_ways_47 rfl (by decide) rfl ?_
    refine gJ.sub [1, 0] rfl ?_
    exact wkR_ways_48 C hsz hR hret _ _ hw
  · replace hw := hw.2 h15
    refine g_aload_n C.1 0 dX8_ways_9 rfl rfl ?_
    refine r_g42 C dX8_ways_10 ?_
    refine g_iload_n C.1 1 dX8_ways_13 rfl rfl ?_
    refine g_iload_n C.1 1 dX8_ways_14 rfl rfl ?_
    refine g_bipush (v := 40) C.1 dX8_ways_15 (by decide) ?_
    refine g_irem C.1 dX8_ways_17 (by decide) ?_
    refine g_iload_n C.1 1 dX8_ways_18 rfl rfl ?_
    refine g_bipush (v := 40) C.1 dX8_ways_19 (by decide) ?_
    refine g_idiv C.1 dX8_ways_21 (by decide) ?_
    refine g_icmp_ne (tgt := 29) C.1 dX8_ways_22 (by decide) (fun h16 => ?_) (fun h16 => ?_)
    · replace hw := hw.1 h16
      refine g_ldc2 (v := 1000000000000) C.1 C.2.1 (C.2.2.1 _ kR_267) dX8_ways_29 ?_
      exact wkR_ways_32 C hsz hR hret hK2 _ _ _ _ hw
    · replace hw := hw.2 h16
      refine g_lconst (v := 0) C.1 dX8_ways_25 (by decide) ?_
      refine g_goto (tgt := 32) C.1 dX8_ways_26 (by decide) ?_
      exact wkR_ways_32 C hsz hR hret hK2 _ _ _ _ hw
theorem wkR_ways_2 {X : gT} {G : rG} {A : Nat → Prop} {H0 : Heap} {Q : State → Prop} (C : rC X cX8_ways 6 G A) (hsz : H0 = (g_s X).heap) (hR : 0 ≤ (g_R X).frames ∧ 0 ≤ (g_R X).locals) {post : RSt → Prop} (hret : ∀ (τ : RSt) (lv : List (Nat × Value)) (pc : Nat), post τ → decode cX8_ways pc = .ok (.return_, 1) → gJ X (rWd G A H0) Q 0 0 τ lv pc []) (s : RSt) (v1 : Int32) (hw : wpR_ways_2 post s v1) : gJ X (rWd G A H0) Q 0 0 s [(0, .ref (G.2.2.1 0)), (1, .int v1)] 2 [] := 
  hw (fun (x : RSt × Int32) => (fun s v1 => gJ X (rWd G A H0) Q 0 0 s [(0, .ref (G.2.2.1 0)), (1, .int v1)] 2 []) x.1 x.2) (fun x hx => wkR_ways_2_F C hsz hR hret (K2 := (fun s v1 => gJ X (rWd G A H0) Q 0 0 s [(0, .ref (G.2.2.1 0)), (1, .int v1)] 2 [])) (fun _ _ h => h) x.1 x.2 hx)
theorem wkR_ways_0 {X : gT} {G : rG} {A : Nat → Prop} {H0 : Heap} {Q : State → Prop} (C : rC X cX8_ways 6 G A) (hsz : H0 = (g_s X).heap) (hR : 0 ≤ (g_R X).frames ∧ 0 ≤ (g_R X).locals) {post : RSt → Prop} (hret : ∀ (τ : RSt) (lv : List (Nat × Value)) (pc : Nat), post τ → decode cX8_ways pc = .ok (.return_, 1) → gJ X (rWd G A H0) Q 0 0 τ lv pc []) (s : RSt) (hw : wpR_ways_0 post s) : gJ X (rWd G A H0) Q 0 0 s [(0, .ref (G.2.2.1 0))] 0 [] := by
  refine g_iconst (v := 0) C.1 dX8_ways_0 (by decide) ?_
  refine g_istore_n (lv' := [(1, .int 0), (0, .ref (G.2.2.1 0))]) C.1 dX8_ways_1 rfl (by decide) rfl ?_
  refine gJ.sub [1, 0] rfl ?_
  exact wkR_ways_2 C hsz hR hret _ _ hw
theorem hdR_ways : yX8_ways.cls = RX8 ∧ yX8_ways.cls ≠ "java/lang/invoke/MethodHandle" ∧ yX8_ways.cls ≠ "java/lang/invoke/VarHandle" ∧ (parseMethodDescriptor yX8_ways.desc).map (fun d => d.parameters.length) = some 0 := by decide +kernel
theorem cR_ways (l : Launch) (G : rG) (s : RSt) (post : RSt → Prop) (hw : wpR_ways_0 post s) : rMv l yX8_ways cX8_ways 6 0 0 G s [] post := rMv_of (by decide +kernel) rfl (Nat.le_of_ble_eq_true rfl) (fun X A H0 Q hl hR hsz C hret => wkR_ways_0 C hsz hR hret s hw)
def wpR_seeks_384 (post : Int32 → RSt → Prop) (K321 : RSt → Int32 → Int32 → Prop) (s : RSt) (v2 : Int32) (v3 : Int32) : Prop := K321 s v2 (v3 + 1)
def wpR_seeks_382 (post : Int32 → RSt → Prop) (K321 : RSt → Int32 → Int32 → Prop) (s : RSt) (v3 : Int32) : Prop := wpR_seeks_384 post K321 s v3 v3
def wpR_seeks_321_F (post : Int32 → RSt → Prop) (K321 : RSt → Int32 → Int32 → Prop) (s : RSt) (v2 : Int32) (v3 : Int32) : Prop := ((s.1 14) ≤ v3 → post v2 s) ∧ (¬ (s.1 14) ≤ v3 → vp_in v3 40 ∧ (0 ≤ (lg_cmp (s.2.2 44 v3.toNatClampNeg) 0) → wpR_seeks_384 post K321 s v2 v3) ∧ (¬ 0 ≤ (lg_cmp (s.2.2 44 v3.toNatClampNeg) 0) → vp_in (40 + v3) 80 ∧ (0 ≤ (lg_cmp (s.2.2 45 (40 + v3).toNatClampNeg) 1000000000000) → wpR_seeks_384 post K321 s v2 v3) ∧ (¬ 0 ≤ (lg_cmp (s.2.2 45 (40 + v3).toNatClampNeg) 1000000000000) → (v2 < 0 → wpR_seeks_382 post K321 s v3) ∧ (¬ v2 < 0 → vp_in (40 + v3) 80 ∧ vp_in (40 + v2) 80 ∧ (0 ≤ (lg_cmp (s.2.2 45 (40 + v3).toNatClampNeg) (s.2.2 45 (40 + v2).toNatClampNeg)) → wpR_seeks_384 post K321 s v2 v3) ∧ (¬ 0 ≤ (lg_cmp (s.2.2 45 (40 + v3).toNatClampNeg) (s.2.2 45 (40 + v2).toNatClampNeg)) → wpR_seeks_382 post K321 s v3)))))
def wpR_seeks_321 (post : Int32 → RSt → Prop) (s : RSt) (v2 : Int32) (v3 : Int32) : Prop := gLP (fun (K : RSt × Int32 × Int32 → Prop) (x : RSt × Int32 × Int32) => wpR_seeks_321_F post (fun s v2 v3 => K (s, v2, v3)) x.1 x.2.1 x.2.2) (s, v2, v3)
def wpR_seeks_302 (post : Int32 → RSt → Prop) (K71 : RSt → Int32 → Prop) (K79 : RSt → Int32 → Int32 → Prop) (K89 : RSt → Int32 → Int32 → Int32 → Prop) (s : RSt) (v1 : Int32) (v2 : Int32) (v3 : Int32) : Prop := K89 s v1 v2 (v3 + 1)
def wpR_seeks_215 (post : Int32 → RSt → Prop) (K71 : RSt → Int32 → Prop) (K79 : RSt → Int32 → Int32 → Prop) (K89 : RSt → Int32 → Int32 → Int32 → Prop) (s : RSt) (v1 : Int32) (v2 : Int32) (v3 : Int32) (v4 : Int32) : Prop := vp_in v4 1600 ∧ ((lg_cmp (s.2.2 43 v4.toNatClampNeg) 0) ≤ 0 → wpR_seeks_302 post K71 K79 K89 s v1 v2 v3) ∧ (¬ (lg_cmp (s.2.2 43 v4.toNatClampNeg) 0) ≤ 0 → vp_in (40 + v3) 80 ∧ (0 ≤ (lg_cmp (s.2.2 45 (40 + v3).toNatClampNeg) 1000000000000) → wpR_seeks_302 post K71 K79 K89 s v1 v2 v3) ∧ (¬ 0 ≤ (lg_cmp (s.2.2 45 (40 + v3).toNatClampNeg) 1000000000000) → vp_in (40 + v3) 80 ∧ vp_in v4 1600 ∧ vp_in v2 80 ∧ (0 ≤ (lg_cmp ((s.2.2 45 (40 + v3).toNatClampNeg) - (s.2.2 42 v4.toNatClampNeg)) (s.2.2 45 v2.toNatClampNeg)) → wpR_seeks_302 post K71 K79 K89 s v1 v2 v3) ∧ (¬ 0 ≤ (lg_cmp ((s.2.2 45 (40 + v3).toNatClampNeg) - (s.2.2 42 v4.toNatClampNeg)) (s.2.2 45 v2.toNatClampNeg)) → vp_in (40 + v3) 80 ∧ vp_in v4 1600 ∧ vp_in v2 80 ∧ ∀ s9 : RSt, s9 = rsJ s 45 v2.toNatClampNeg ((s.2.2 45 (40 + v3).toNatClampNeg) - (s.2.2 42 v4.toNatClampNeg)) → vp_in v2 80 ∧ ∀ s10 : RSt, s10 = rsA s9 46 v2.toNatClampNeg v3 → wpR_seeks_302 post K71 K79 K89 s10 1 v2 v3)))
def wpR_seeks_89_F (post : Int32 → RSt → Prop) (K71 : RSt → Int32 → Prop) (K79 : RSt → Int32 → Int32 → Prop) (K89 : RSt → Int32 → Int32 → Int32 → Prop) (s : RSt) (v1 : Int32) (v2 : Int32) (v3 : Int32) : Prop := ((s.1 14) ≤ v3 → K79 s v1 (v2 + 1)) ∧ (¬ (s.1 14) ≤ v3 → vp_in v2 40 ∧ ((s.2.1 47 v2.toNatClampNeg) = 0 → wpR_seeks_302 post K71 K79 K89 s v1 v2 v3) ∧ (¬ (s.2.1 47 v2.toNatClampNeg) = 0 → vp_in v3 40 ∧ (¬ (s.2.1 48 v3.toNatClampNeg) = 0 → vp_in v2 80 ∧ (0 ≤ (lg_cmp (s.2.2 45 v2.toNatClampNeg) 1000000000000) → wpR_seeks_215 post K71 K79 K89 s v1 v2 v3 ((40 * v2) + v3)) ∧ (¬ 0 ≤ (lg_cmp (s.2.2 45 v2.toNatClampNeg) 1000000000000) → vp_in ((40 * v2) + v3) 1600 ∧ (0 ≤ (lg_cmp (s.2.2 42 ((40 * v2) + v3).toNatClampNeg) 1000000000000) → wpR_seeks_215 post K71 K79 K89 s v1 v2 v3 ((40 * v2) + v3)) ∧ (¬ 0 ≤ (lg_cmp (s.2.2 42 ((40 * v2) + v3).toNatClampNeg) 1000000000000) → vp_in v2 80 ∧ vp_in ((40 * v2) + v3) 1600 ∧ vp_in (40 + v3) 80 ∧ (0 ≤ (lg_cmp ((s.2.2 45 v2.toNatClampNeg) + (s.2.2 42 ((40 * v2) + v3).toNatClampNeg)) (s.2.2 45 (40 + v3).toNatClampNeg)) → wpR_seeks_215 post K71 K79 K89 s v1 v2 v3 ((40 * v2) + v3)) ∧ (¬ 0 ≤ (lg_cmp ((s.2.2 45 v2.toNatClampNeg) + (s.2.2 42 ((40 * v2) + v3).toNatClampNeg)) (s.2.2 45 (40 + v3).toNatClampNeg)) → vp_in v2 80 ∧ vp_in ((40 * v2) + v3) 1600 ∧ vp_in (40 + v3) 80 ∧ ∀ s17 : RSt, s17 = rsJ s 45 (40 + v3).toNatClampNeg ((s.2.2 45 v2.toNatClampNeg) + (s.2.2 42 ((40 * v2) + v3).toNatClampNeg)) → vp_in (40 + v3) 80 ∧ ∀ s18 : RSt, s18 = rsA s17 46 (40 + v3).toNatClampNeg v2 → wpR_seeks_215 post K71 K79 K89 s18 1 v2 v3 ((40 * v2) + v3))))) ∧ ((s.2.1 48 v3.toNatClampNeg) = 0 → wpR_seeks_302 post K71 K79 K89 s v1 v2 v3)))
def wpR_seeks_89 (post : Int32 → RSt → Prop) (K71 : RSt → Int32 → Prop) (K79 : RSt → Int32 → Int32 → Prop) (s : RSt) (v1 : Int32) (v2 : Int32) (v3 : Int32) : Prop := gLP (fun (K : RSt × Int32 × Int32 × Int32 → Prop) (x : RSt × Int32 × Int32 × Int32) => wpR_seeks_89_F post K71 K79 (fun s v1 v2 v3 => K (s, v1, v2, v3)) x.1 x.2.1 x.2.2.1 x.2.2.2) (s, v1, v2, v3)
def wpR_seeks_79_F (post : Int32 → RSt → Prop) (K71 : RSt → Int32 → Prop) (K79 : RSt → Int32 → Int32 → Prop) (s : RSt) (v1 : Int32) (v2 : Int32) : Prop := ((s.1 14) ≤ v2 → K71 s v1) ∧ (¬ (s.1 14) ≤ v2 → wpR_seeks_89 post K71 K79 s v1 v2 0)
def wpR_seeks_79 (post : Int32 → RSt → Prop) (K71 : RSt → Int32 → Prop) (s : RSt) (v1 : Int32) (v2 : Int32) : Prop := gLP (fun (K : RSt × Int32 × Int32 → Prop) (x : RSt × Int32 × Int32) => wpR_seeks_79_F post K71 (fun s v1 v2 => K (s, v1, v2)) x.1 x.2.1 x.2.2) (s, v1, v2)
def wpR_seeks_71_F (post : Int32 → RSt → Prop) (K71 : RSt → Int32 → Prop) (s : RSt) (v1 : Int32) : Prop := (v1 = 0 → wpR_seeks_321 post s (-1) 0) ∧ (¬ v1 = 0 → wpR_seeks_79 post K71 s 0 0)
def wpR_seeks_71 (post : Int32 → RSt → Prop) (s : RSt) (v1 : Int32) : Prop := gLP (fun (K : RSt × Int32 → Prop) (x : RSt × Int32) => wpR_seeks_71_F post (fun s v1 => K (s, v1)) x.1 x.2) (s, v1)
def wpR_seeks_33 (post : Int32 → RSt → Prop) (K2 : RSt → Int32 → Prop) (s : RSt) (v1 : Int32) (w1 : Int32) (w2 : Int64) : Prop := vp_in w1 80 ∧ ∀ s21 : RSt, s21 = rsJ s 45 w1.toNatClampNeg w2 → vp_in (40 + v1) 80 ∧ ∀ s22 : RSt, s22 = rsJ s21 45 (40 + v1).toNatClampNeg 1000000000000 → vp_in v1 80 ∧ ∀ s23 : RSt, s23 = rsA s22 46 v1.toNatClampNeg (-1) → vp_in (40 + v1) 80 ∧ ∀ s24 : RSt, s24 = rsA s23 46 (40 + v1).toNatClampNeg (-1) → K2 s24 (v1 + 1)
def wpR_seeks_2_F (post : Int32 → RSt → Prop) (K2 : RSt → Int32 → Prop) (s : RSt) (v1 : Int32) : Prop := ((s.1 14) ≤ v1 → wpR_seeks_71 post s 1) ∧ (¬ (s.1 14) ≤ v1 → vp_in v1 40 ∧ ((lg_cmp (s.2.2 44 v1.toNatClampNeg) 0) ≤ 0 → wpR_seeks_33 post K2 s v1 v1 1000000000000) ∧ (¬ (lg_cmp (s.2.2 44 v1.toNatClampNeg) 0) ≤ 0 → wpR_seeks_33 post K2 s v1 v1 0))
def wpR_seeks_2 (post : Int32 → RSt → Prop) (s : RSt) (v1 : Int32) : Prop := gLP (fun (K : RSt × Int32 → Prop) (x : RSt × Int32) => wpR_seeks_2_F post (fun s v1 => K (s, v1)) x.1 x.2) (s, v1)
def wpR_seeks_0 (post : Int32 → RSt → Prop) (s : RSt) : Prop := wpR_seeks_2 post s 0
theorem wkR_seeks_384 {X : gT} {G : rG} {A : Nat → Prop} {H0 : Heap} {Q : State → Prop} (C : rC X cX8_seeks 5 G A) (hsz : H0 = (g_s X).heap) (hR : 0 ≤ (g_R X).frames ∧ 0 ≤ (g_R X).locals) {post : Int32 → RSt → Prop} (hret : ∀ (r : Int32) (τ : RSt) (lv : List (Nat × Value)) (pc : Nat), post r τ → narrow .int (.int r) = .int r → decode cX8_seeks pc = .ok (.ireturn, 1) → gJ X (rWd G A H0) Q 0 0 τ lv pc [.int r]) {K321 : RSt → Int32 → Int32 → Prop} (hK321 : ∀ (s : RSt) (v2 : Int32) (v3 : Int32), K321 s v2 v3 → gJ X (rWd G A H0) Q 0 0 s [(0, .ref (G.2.2.1 0)), (2, .int v2), (3, .int v3)] 321 []) (s : RSt) (v2 : Int32) (v3 : Int32) (hw : wpR_seeks_384 post K321 s v2 v3) : gJ X (rWd G A H0) Q 0 0 s [(0, .ref (G.2.2.1 0)), (2, .int v2), (3, .int v3)] 384 [] := by
  refine g_iinc (v := v3 + 1) (lv' := [(3, .int (v3 + 1)), (0, .ref (G.2.2.1 0)), (2, .int v2)]) C.1 2 dX8_seeks_384 rfl rfl (by decide) rfl ?_
  refine g_goto (tgt := 321) C.1 dX8_seeks_387 (by decide) ?_
  refine gJ.sub [1, 2, 0] rfl ?_
  exact hK321 _ _ _ hw
theorem wkR_seeks_382 {X : gT} {G : rG} {A : Nat → Prop} {H0 : Heap} {Q : State → Prop} (C : rC X cX8_seeks 5 G A) (hsz : H0 = (g_s X).heap) (hR : 0 ≤ (g_R X).frames ∧ 0 ≤ (g_R X).locals) {post : Int32 → RSt → Prop} (hret : ∀ (r : Int32) (τ : RSt) (lv : List (Nat × Value)) (pc : Nat), post r τ → narrow .int (.int r) = .int r → decode cX8_seeks pc = .ok (.ireturn, 1) → gJ X (rWd G A H0) Q 0 0 τ lv pc [.int r]) {K321 : RSt → Int32 → Int32 → Prop} (hK321 : ∀ (s : RSt) (v2 : Int32) (v3 : Int32), K321 s v2 v3 → gJ X (rWd G A H0) Q 0 0 s [(0, .ref (G.2.2.1 0)), (2, .int v2), (3, .int v3)] 321 []) (s : RSt) (v3 : Int32) (hw : wpR_seeks_382 post K321 s v3) : gJ X (rWd G A H0) Q 0 0 s [(0, .ref (G.2.2.1 0)), (3, .int v3)] 382 [] := by
  refine g_iload_n C.1 1 dX8_seeks_382 rfl rfl ?_
  refine g_istore_n (lv' := [(2, .int v3), (0, .ref (G.2.2.1 0)), (3, .int v3)]) C.1 dX8_seeks_383 rfl (by decide) rfl ?_
  refine gJ.sub [1, 0, 2] rfl ?_
  exact wkR_seeks_384 C hsz hR hret hK321 _ _ _ hw
theorem wkR_seeks_321_F {X : gT} {G : rG} {A : Nat → Prop} {H0 : Heap} {Q : State → Prop} (C : rC X cX8_seeks 5 G A) (hsz : H0 = (g_s X).heap) (hR : 0 ≤ (g_R X).frames ∧ 0 ≤ (g_R X).locals) {post : Int32 → RSt → Prop} (hret : ∀ (r : Int32) (τ : RSt) (lv : List (Nat × Value)) (pc : Nat), post r τ → narrow .int (.int r) = .int r → decode cX8_seeks pc = .ok (.ireturn, 1) → gJ X (rWd G A H0) Q 0 0 τ lv pc [.int r]) {K321 : RSt → Int32 → Int32 → Prop} (hK321 : ∀ (s : RSt) (v2 : Int32) (v3 : Int32), K321 s v2 v3 → gJ X (rWd G A H0) Q 0 0 s [(0, .ref (G.2.2.1 0)), (2, .int v2), (3, .int v3)] 321 []) (s : RSt) (v2 : Int32) (v3 : Int32) (hw : wpR_seeks_321_F post K321 s v2 v3) : gJ X (rWd G A H0) Q 0 0 s [(0, .ref (G.2.2.1 0)), (2, .int v2), (3, .int v3)] 321 [] := by
  refine g_iload_n C.1 2 dX8_seeks_321 rfl rfl ?_
  refine g_aload_n C.1 0 dX8_seeks_322 rfl rfl ?_
  refine r_g14 C dX8_seeks_323 ?_
  refine g_icmp_ge (tgt := 390) C.1 dX8_seeks_326 (by decide) (fun h1 => ?_) (fun h1 => ?_)
  · replace hw := hw.1 h1
    refine g_iload_n C.1 1 dX8_seeks_390 rfl rfl ?_
    exact hret _ _ _ _ hw rfl dX8_seeks_391
  · replace hw := hw.2 h1
    refine g_aload_n C.1 0 dX8_seeks_329 rfl rfl ?_
    refine r_g44 C dX8_seeks_330 ?_
    refine g_iload_n C.1 2 dX8_seeks_333 rfl rfl ?_
    refine r_ld44 C hw.1 dX8_seeks_334 ?_
    replace hw := hw.2
    refine g_lconst (v := 0) C.1 dX8_seeks_335 (by decide) ?_
    refine g_lcmp C.1 dX8_seeks_336 ?_
    refine g_if_ge (tgt := 384) C.1 dX8_seeks_337 (by decide) (fun h2 => ?_) (fun h2 => ?_)
    · replace hw := hw.1 h2
      exact wkR_seeks_384 C hsz hR hret hK321 _ _ _ hw
    · replace hw := hw.2 h2
      refine g_aload_n C.1 0 dX8_seeks_340 rfl rfl ?_
      refine r_g45 C dX8_seeks_341 ?_
      refine g_bipush (v := 40) C.1 dX8_seeks_344 (by decide) ?_
      refine g_iload_n C.1 2 dX8_seeks_346 rfl rfl ?_
      refine g_iadd C.1 dX8_seeks_347 ?_
      refine r_ld45 C hw.1 dX8_seeks_348 ?_
      replace hw := hw.2
      refine g_ldc2 (v := 1000000000000) C.1 C.2.1 (C.2.2.1 _ kR_267) dX8_seeks_349 ?_
      refine g_lcmp C.1 dX8_seeks_352 ?_
      refine g_if_ge (tgt := 384) C.1 dX8_seeks_353 (by decide) (fun h3 => ?_) (fun h3 => ?_)
      · replace hw := hw.1 h3
        exact wkR_seeks_384 C hsz hR hret hK321 _ _ _ hw
      · replace hw := hw.2 h3
        refine g_iload_n C.1 1 dX8_seeks_356 rfl rfl ?_
        refine g_if_lt (tgt := 382) C.1 dX8_seeks_357 (by decide) (fun h4 => ?_) (fun h4 => ?_)
        · replace hw := hw.1 h4
          refine gJ.sub [0, 2] rfl ?_
          exact wkR_seeks_382 C hsz hR hret hK321 _ _ hw
        · replace hw := hw.2 h4
          refine g_aload_n C.1 0 dX8_seeks_360 rfl rfl ?_
          refine r_g45 C dX8_seeks_361 ?_
          refine g_bipush (v := 40) C.1 dX8_seeks_364 (by decide) ?_
          refine g_iload_n C.1 2 dX8_seeks_366 rfl rfl ?_
          refine g_iadd C.1 dX8_seeks_367 ?_
          refine r_ld45 C hw.1 dX8_seeks_368 ?_
          replace hw := hw.2
          refine g_aload_n C.1 0 dX8_seeks_369 rfl rfl ?_
          refine r_g45 C dX8_seeks_370 ?_
          refine g_bipush (v := 40) C.1 dX8_seeks_373 (by decide) ?_
          refine g_iload_n C.1 1 dX8_seeks_375 rfl rfl ?_
          refine g_iadd C.1 dX8_seeks_376 ?_
          refine r_ld45 C hw.1 dX8_seeks_377 ?_
          replace hw := hw.2
          refine g_lcmp C.1 dX8_seeks_378 ?_
          refine g_if_ge (tgt := 384) C.1 dX8_seeks_379 (by decide) (fun h5 => ?_) (fun h5 => ?_)
          · replace hw := hw.1 h5
            exact wkR_seeks_384 C hsz hR hret hK321 _ _ _ hw
          · replace hw := hw.2 h5
            refine gJ.sub [0, 2] rfl ?_
            exact wkR_seeks_382 C hsz hR hret hK321 _ _ hw
theorem wkR_seeks_321 {X : gT} {G : rG} {A : Nat → Prop} {H0 : Heap} {Q : State → Prop} (C : rC X cX8_seeks 5 G A) (hsz : H0 = (g_s X).heap) (hR : 0 ≤ (g_R X).frames ∧ 0 ≤ (g_R X).locals) {post : Int32 → RSt → Prop} (hret : ∀ (r : Int32) (τ : RSt) (lv : List (Nat × Value)) (pc : Nat), post r τ → narrow .int (.int r) = .int r → decode cX8_seeks pc = .ok (.ireturn, 1) → gJ X (rWd G A H0) Q 0 0 τ lv pc [.int r]) (s : RSt) (v2 : Int32) (v3 : Int32) (hw : wpR_seeks_321 post s v2 v3) : gJ X (rWd G A H0) Q 0 0 s [(0, .ref (G.2.2.1 0)), (2, .int v2), (3, .int v3)] 321 [] := 
  hw (fun (x : RSt × Int32 × Int32) => (fun s v2 v3 => gJ X (rWd G A H0) Q 0 0 s [(0, .ref (G.2.2.1 0)), (2, .int v2), (3, .int v3)] 321 []) x.1 x.2.1 x.2.2) (fun x hx => wkR_seeks_321_F C hsz hR hret (K321 := (fun s v2 v3 => gJ X (rWd G A H0) Q 0 0 s [(0, .ref (G.2.2.1 0)), (2, .int v2), (3, .int v3)] 321 [])) (fun _ _ _ h => h) x.1 x.2.1 x.2.2 hx)
theorem wkR_seeks_302 {X : gT} {G : rG} {A : Nat → Prop} {H0 : Heap} {Q : State → Prop} (C : rC X cX8_seeks 5 G A) (hsz : H0 = (g_s X).heap) (hR : 0 ≤ (g_R X).frames ∧ 0 ≤ (g_R X).locals) {post : Int32 → RSt → Prop} (hret : ∀ (r : Int32) (τ : RSt) (lv : List (Nat × Value)) (pc : Nat), post r τ → narrow .int (.int r) = .int r → decode cX8_seeks pc = .ok (.ireturn, 1) → gJ X (rWd G A H0) Q 0 0 τ lv pc [.int r]) {K71 : RSt → Int32 → Prop} {K79 : RSt → Int32 → Int32 → Prop} {K89 : RSt → Int32 → Int32 → Int32 → Prop} (hK71 : ∀ (s : RSt) (v1 : Int32), K71 s v1 → gJ X (rWd G A H0) Q 0 0 s [(0, .ref (G.2.2.1 0)), (1, .int v1)] 71 []) (hK79 : ∀ (s : RSt) (v1 : Int32) (v2 : Int32), K79 s v1 v2 → gJ X (rWd G A H0) Q 0 0 s [(0, .ref (G.2.2.1 0)), (1, .int v1), (2, .int v2)] 79 []) (hK89 : ∀ (s : RSt) (v1 : Int32) (v2 : Int32) (v3 : Int32), K89 s v1 v2 v3 → gJ X (rWd G A H0) Q 0 0 s [(0, .ref (G.2.2.1 0)), (1, .int v1), (2, .int v2), (3, .int v3)] 89 []) (s : RSt) (v1 : Int32) (v2 : Int32) (v3 : Int32) (hw : wpR_seeks_302 post K71 K79 K89 s v1 v2 v3) : gJ X (rWd G A H0) Q 0 0 s [(0, .ref (G.2.2.1 0)), (1, .int v1), (2, .int v2), (3, .int v3)] 302 [] := by
  refine g_iinc (v := v3 + 1) (lv' := [(3, .int (v3 + 1)), (0, .ref (G.2.2.1 0)), (1, .int v1), (2, .int v2)]) C.1 3 dX8_seeks_302 rfl rfl (by decide) rfl ?_
  refine g_goto (tgt := 89) C.1 dX8_seeks_305 (by decide) ?_
  refine gJ.sub [1, 2, 3, 0] rfl ?_
  exact hK89 _ _ _ _ hw
theorem wkR_seeks_215 {X : gT} {G : rG} {A : Nat → Prop} {H0 : Heap} {Q : State → Prop} (C : rC X cX8_seeks 5 G A) (hsz : H0 = (g_s X).heap) (hR : 0 ≤ (g_R X).frames ∧ 0 ≤ (g_R X).locals) {post : Int32 → RSt → Prop} (hret : ∀ (r : Int32) (τ : RSt) (lv : List (Nat × Value)) (pc : Nat), post r τ → narrow .int (.int r) = .int r → decode cX8_seeks pc = .ok (.ireturn, 1) → gJ X (rWd G A H0) Q 0 0 τ lv pc [.int r]) {K71 : RSt → Int32 → Prop} {K79 : RSt → Int32 → Int32 → Prop} {K89 : RSt → Int32 → Int32 → Int32 → Prop} (hK71 : ∀ (s : RSt) (v1 : Int32), K71 s v1 → gJ X (rWd G A H0) Q 0 0 s [(0, .ref (G.2.2.1 0)), (1, .int v1)] 71 []) (hK79 : ∀ (s : RSt) (v1 : Int32) (v2 : Int32), K79 s v1 v2 → gJ X (rWd G A H0) Q 0 0 s [(0, .ref (G.2.2.1 0)), (1, .int v1), (2, .int v2)] 79 []) (hK89 : ∀ (s : RSt) (v1 : Int32) (v2 : Int32) (v3 : Int32), K89 s v1 v2 v3 → gJ X (rWd G A H0) Q 0 0 s [(0, .ref (G.2.2.1 0)), (1, .int v1), (2, .int v2), (3, .int v3)] 89 []) (s : RSt) (v1 : Int32) (v2 : Int32) (v3 : Int32) (v4 : Int32) (hw : wpR_seeks_215 post K71 K79 K89 s v1 v2 v3 v4) : gJ X (rWd G A H0) Q 0 0 s [(0, .ref (G.2.2.1 0)), (1, .int v1), (2, .int v2), (3, .int v3), (4, .int v4)] 215 [] := by
  refine g_aload_n C.1 0 dX8_seeks_215 rfl rfl ?_
  refine r_g43 C dX8_seeks_216 ?_
  refine g_iload C.1 4 dX8_seeks_219 rfl ?_
  refine r_ld43 C hw.1 dX8_seeks_221 ?_
  replace hw := hw.2
  refine g_lconst (v := 0) C.1 dX8_seeks_222 (by decide) ?_
  refine g_lcmp C.1 dX8_seeks_223 ?_
  refine g_if_le (tgt := 302) C.1 dX8_seeks_224 (by decide) (fun h6 => ?_) (fun h6 => ?_)
  · replace hw := hw.1 h6
    refine gJ.sub [0, 1, 2, 3] rfl ?_
    exact wkR_seeks_302 C hsz hR hret hK71 hK79 hK89 _ _ _ _ hw
  · replace hw := hw.2 h6
    refine g_aload_n C.1 0 dX8_seeks_227 rfl rfl ?_
    refine r_g45 C dX8_seeks_228 ?_
    refine g_bipush (v := 40) C.1 dX8_seeks_231 (by decide) ?_
    refine g_iload_n C.1 3 dX8_seeks_233 rfl rfl ?_
    refine g_iadd C.1 dX8_seeks_234 ?_
    refine r_ld45 C hw.1 dX8_seeks_235 ?_
    replace hw := hw.2
    refine g_ldc2 (v := 1000000000000) C.1 C.2.1 (C.2.2.1 _ kR_267) dX8_seeks_236 ?_
    refine g_lcmp C.1 dX8_seeks_239 ?_
    refine g_if_ge (tgt := 302) C.1 dX8_seeks_240 (by decide) (fun h7 => ?_) (fun h7 => ?_)
    · replace hw := hw.1 h7
      refine gJ.sub [0, 1, 2, 3] rfl ?_
      exact wkR_seeks_302 C hsz hR hret hK71 hK79 hK89 _ _ _ _ hw
    · replace hw := hw.2 h7
      refine g_aload_n C.1 0 dX8_seeks_243 rfl rfl ?_
      refine r_g45 C dX8_seeks_244 ?_
      refine g_bipush (v := 40) C.1 dX8_seeks_247 (by decide) ?_
      refine g_iload_n C.1 3 dX8_seeks_249 rfl rfl ?_
      refine g_iadd C.1 dX8_seeks_250 ?_
      refine r_ld45 C hw.1 dX8_seeks_251 ?_
      replace hw := hw.2
      refine g_aload_n C.1 0 dX8_seeks_252 rfl rfl ?_
      refine r_g42 C dX8_seeks_253 ?_
      refine g_iload C.1 4 dX8_seeks_256 rfl ?_
      refine r_ld42 C hw.1 dX8_seeks_258 ?_
      replace hw := hw.2
      refine g_lsub C.1 dX8_seeks_259 ?_
      refine g_aload_n C.1 0 dX8_seeks_260 rfl rfl ?_
      refine r_g45 C dX8_seeks_261 ?_
      refine g_iload_n C.1 2 dX8_seeks_264 rfl rfl ?_
      refine r_ld45 C hw.1 dX8_seeks_265 ?_
      replace hw := hw.2
      refine g_lcmp C.1 dX8_seeks_266 ?_
      refine g_if_ge (tgt := 302) C.1 dX8_seeks_267 (by decide) (fun h8 => ?_) (fun h8 => ?_)
      · replace hw := hw.1 h8
        refine gJ.sub [0, 1, 2, 3] rfl ?_
        exact wkR_seeks_302 C hsz hR hret hK71 hK79 hK89 _ _ _ _ hw
      · replace hw := hw.2 h8
        refine g_aload_n C.1 0 dX8_seeks_270 rfl rfl ?_
        refine r_g45 C dX8_seeks_271 ?_
        refine g_iload_n C.1 2 dX8_seeks_274 rfl rfl ?_
        refine g_aload_n C.1 0 dX8_seeks_275 rfl rfl ?_
        refine r_g45 C dX8_seeks_276 ?_
        refine g_bipush (v := 40) C.1 dX8_seeks_279 (by decide) ?_
        refine g_iload_n C.1 3 dX8_seeks_281 rfl rfl ?_
        refine g_iadd C.1 dX8_seeks_282 ?_
        refine r_ld45 C hw.1 dX8_seeks_283 ?_
        replace hw := hw.2
        refine g_aload_n C.1 0 dX8_seeks_284 rfl rfl ?_
        refine r_g42 C dX8_seeks_285 ?_
        refine g_iload C.1 4 dX8_seeks_288 rfl ?_
        refine r_ld42 C hw.1 dX8_seeks_290 ?_
        replace hw := hw.2
        refine g_lsub C.1 dX8_seeks_291 ?_
        refine r_st45 C hw.1 dX8_seeks_292 ?_
        replace hw := hw.2
        refine gJ.nm (fun s9 es9 => ?_)
        replace hw := hw s9 es9
        refine g_aload_n C.1 0 dX8_seeks_293 rfl rfl ?_
        refine r_g46 C dX8_seeks_294 ?_
        refine g_iload_n C.1 2 dX8_seeks_297 rfl rfl ?_
        refine g_iload_n C.1 3 dX8_seeks_298 rfl rfl ?_
        refine r_st46 C hw.1 dX8_seeks_299 ?_
        replace hw := hw.2
        refine gJ.nm (fun s10 es10 => ?_)
        replace hw := hw s10 es10
        refine g_iconst (v := 1) C.1 dX8_seeks_300 (by decide) ?_
        refine g_istore_n (lv' := [(1, .int 1), (0, .ref (G.2.2.1 0)), (2, .int v2), (3, .int v3), (4, .int v4)]) C.1 dX8_seeks_301 rfl (by decide) rfl ?_
        refine gJ.sub [1, 0, 2, 3] rfl ?_
        exact wkR_seeks_302 C hsz hR hret hK71 hK79 hK89 _ _ _ _ hw
theorem wkR_seeks_89_F {X : gT} {G : rG} {A : Nat → Prop} {H0 : Heap} {Q : State → Prop} (C : rC X cX8_seeks 5 G A) (hsz : H0 = (g_s X).heap) (hR : 0 ≤ (g_R X).frames ∧ 0 ≤ (g_R X).locals) {post : Int32 → RSt → Prop} (hret : ∀ (r : Int32) (τ : RSt) (lv : List (Nat × Value)) (pc : Nat), post r τ → narrow .int (.int r) = .int r → decode cX8_seeks pc = .ok (.ireturn, 1) → gJ X (rWd G A H0) Q 0 0 τ lv pc [.int r]) {K71 : RSt → Int32 → Prop} {K79 : RSt → Int32 → Int32 → Prop} {K89 : RSt → Int32 → Int32 → Int32 → Prop} (hK71 : ∀ (s : RSt) (v1 : Int32), K71 s v1 → gJ X (rWd G A H0) Q 0 0 s [(0, .ref (G.2.2.1 0)), (1, .int v1)] 71 []) (hK79 : ∀ (s : RSt) (v1 : Int32) (v2 : Int32), K79 s v1 v2 → gJ X (rWd G A H0) Q 0 0 s [(0, .ref (G.2.2.1 0)), (1, .int v1), (2, .int v2)] 79 []) (hK89 : ∀ (s : RSt) (v1 : Int32) (v2 : Int32) (v3 : Int32), K89 s v1 v2 v3 → gJ X (rWd G A H0) Q 0 0 s [(0, .ref (G.2.2.1 0)), (1, .int v1), (2, .int v2), (3, .int v3)] 89 []) (s : RSt) (v1 : Int32) (v2 : Int32) (v3 : Int32) (hw : wpR_seeks_89_F post K71 K79 K89 s v1 v2 v3) : gJ X (rWd G A H0) Q 0 0 s [(0, .ref (G.2.2.1 0)), (1, .int v1), (2, .int v2), (3, .int v3)] 89 [] := by
  refine g_iload_n C.1 3 dX8_seeks_89 rfl rfl ?_
  refine g_aload_n C.1 0 dX8_seeks_90 rfl rfl ?_
  refine r_g14 C dX8_seeks_91 ?_
  refine g_icmp_ge (tgt := 308) C.1 dX8_seeks_94 (by decide) (fun h11 => ?_) (fun h11 => ?_)
  · replace hw := hw.1 h11
    refine g_iinc (v := v2 + 1) (lv' := [(2, .int (v2 + 1)), (0, .ref (G.2.2.1 0)), (1, .int v1), (3, .int v3)]) C.1 2 dX8_seeks_308 rfl rfl (by decide) rfl ?_
    refine g_goto (tgt := 79) C.1 dX8_seeks_311 (by decide) ?_
    refine gJ.sub [1, 2, 0] rfl ?_
    exact hK79 _ _ _ hw
  · replace hw := hw.2 h11
    refine g_aload_n C.1 0 dX8_seeks_97 rfl rfl ?_
    refine r_g47 C dX8_seeks_98 ?_
    refine g_iload_n C.1 2 dX8_seeks_101 rfl rfl ?_
    refine r_ld47 C hw.1 dX8_seeks_102 ?_
    replace hw := hw.2
    refine g_if_eq (tgt := 302) C.1 dX8_seeks_103 (by decide) (fun h12 => ?_) (fun h12 => ?_)
    · replace hw := hw.1 h12
      exact wkR_seeks_302 C hsz hR hret hK71 hK79 hK89 _ _ _ _ hw
    · replace hw := hw.2 h12
      refine g_aload_n C.1 0 dX8_seeks_106 rfl rfl ?_
      refine r_g48 C dX8_seeks_107 ?_
      refine g_iload_n C.1 3 dX8_seeks_110 rfl rfl ?_
      refine r_ld48 C hw.1 dX8_seeks_111 ?_
      replace hw := hw.2
      refine g_if_ne (tgt := 118) C.1 dX8_seeks_112 (by decide) (fun h13 => ?_) (fun h13 => ?_)
      · replace hw := hw.1 h13
        refine g_bipush (v := 40) C.1 dX8_seeks_118 (by decide) ?_
        refine g_iload_n C.1 2 dX8_seeks_120 rfl rfl ?_
        refine g_imul C.1 dX8_seeks_121 ?_
        refine g_iload_n C.1 3 dX8_seeks_122 rfl rfl ?_
        refine g_iadd C.1 dX8_seeks_123 ?_
        refine g_istore (lv' := [(4, .int ((40 * v2) + v3)), (0, .ref (G.2.2.1 0)), (1, .int v1), (2, .int v2), (3, .int v3)]) C.1 dX8_seeks_124 (by decide) rfl ?_
        refine g_aload_n C.1 1 dX8_seeks_126 rfl rfl ?_
        refine r_g45 C dX8_seeks_127 ?_
        refine g_iload_n C.1 3 dX8_seeks_130 rfl rfl ?_
        refine r_ld45 C hw.1 dX8_seeks_131 ?_
        replace hw := hw.2
        refine g_ldc2 (v := 1000000000000) C.1 C.2.1 (C.2.2.1 _ kR_267) dX8_seeks_132 ?_
        refine g_lcmp C.1 dX8_seeks_135 ?_
        refine g_if_ge (tgt := 215) C.1 dX8_seeks_136 (by decide) (fun h14 => ?_) (fun h14 => ?_)
        · replace hw := hw.1 h14
          refine gJ.sub [1, 2, 3, 4, 0] rfl ?_
          exact wkR_seeks_215 C hsz hR hret hK71 hK79 hK89 _ _ _ _ _ hw
        · replace hw := hw.2 h14
          refine g_aload_n C.1 1 dX8_seeks_139 rfl rfl ?_
          refine r_g42 C dX8_seeks_140 ?_
          refine g_iload C.1 0 dX8_seeks_143 rfl ?_
          refine r_ld42 C hw.1 dX8_seeks_145 ?_
          replace hw := hw.2
          refine g_ldc2 (v := 1000000000000) C.1 C.2.1 (C.2.2.1 _ kR_267) dX8_seeks_146 ?_
          refine g_lcmp C.1 dX8_seeks_149 ?_
          refine g_if_ge (tgt := 215) C.1 dX8_seeks_150 (by decide) (fun h15 => ?_) (fun h15 => ?_)
          · replace hw := hw.1 h15
            refine gJ.sub [1, 2, 3, 4, 0] rfl ?_
            exact wkR_seeks_215 C hsz hR hret hK71 hK79 hK89 _ _ _ _ _ hw
          · replace hw := hw.2 h15
            refine g_aload_n C.1 1 dX8_seeks_153 rfl rfl ?_
            refine r_g45 C dX8_seeks_154 ?_
            refine g_iload_n C.1 3 dX8_seeks_157 rfl rfl ?_
            refine r_ld45 C hw.1 dX8_seeks_158 ?_
            replace hw := hw.2
            refine g_aload_n C.1 1 dX8_seeks_159 rfl rfl ?_
            refine r_g42 C dX8_seeks_160 ?_
            refine g_iload C.1 0 dX8_seeks_163 rfl ?_
            refine r_ld42 C hw.1 dX8_seeks_165 ?_
            replace hw := hw.2
            refine g_ladd C.1 dX8_seeks_166 ?_
            refine g_aload_n C.1 1 dX8_seeks_167 rfl rfl ?_
            refine r_g45 C dX8_seeks_168 ?_
            refine g_bipush (v := 40) C.1 dX8_seeks_171 (by decide) ?_
            refine g_iload_n C.1 4 dX8_seeks_173 rfl rfl ?_
            refine g_iadd C.1 dX8_seeks_174 ?_
            refine r_ld45 C hw.1 dX8_seeks_175 ?_
            replace hw := hw.2
            refine g_lcmp C.1 dX8_seeks_176 ?_
            refine g_if_ge (tgt := 215) C.1 dX8_seeks_177 (by decide) (fun h16 => ?_) (fun h16 => ?_)
            · replace hw := hw.1 h16
              refine gJ.sub [1, 2, 3, 4, 0] rfl ?_
              exact wkR_seeks_215 C hsz hR hret hK71 hK79 hK89 _ _ _ _ _ hw
            · replace hw := hw.2 h16
              refine g_aload_n C.1 1 dX8_seeks_180 rfl rfl ?_
              refine r_g45 C dX8_seeks_181 ?_
              refine g_bipush (v := 40) C.1 dX8_seeks_184 (by decide) ?_
              refine g_iload_n C.1 4 dX8_seeks_186 rfl rfl ?_
              refine g_iadd C.1 dX8_seeks_187 ?_
              refine g_aload_n C.1 1 dX8_seeks_188 rfl rfl ?_
              refine r_g45 C dX8_seeks_189 ?_
              refine g_iload_n C.1 3 dX8_seeks_192 rfl rfl ?_
              refine r_ld45 C hw.1 dX8_seeks_193 ?_
              replace hw := hw.2
              refine g_aload_n C.1 1 dX8_seeks_194 rfl rfl ?_
              refine r_g42 C dX8_seeks_195 ?_
              refine g_iload C.1 0 dX8_seeks_198 rfl ?_
              refine r_ld42 C hw.1 dX8_seeks_200 ?_
              replace hw := hw.2
              refine g_ladd C.1 dX8_seeks_201 ?_
              refine r_st45 C hw.1 dX8_seeks_202 ?_
              replace hw := hw.2
              refine gJ.nm (fun s17 es17 => ?_)
              replace hw := hw s17 es17
              refine g_aload_n C.1 1 dX8_seeks_203 rfl rfl ?_
              refine r_g46 C dX8_seeks_204 ?_
              refine g_bipush (v := 40) C.1 dX8_seeks_207 (by decide) ?_
              refine g_iload_n C.1 4 dX8_seeks_209 rfl rfl ?_
              refine g_iadd C.1 dX8_seeks_210 ?_
              refine g_iload_n C.1 3 dX8_seeks_211 rfl rfl ?_
              refine r_st46 C hw.1 dX8_seeks_212 ?_
              replace hw := hw.2
              refine gJ.nm (fun s18 es18 => ?_)
              replace hw := hw s18 es18
              refine g_iconst (v := 1) C.1 dX8_seeks_213 (by decide) ?_
              refine g_istore_n (lv' := [(1, .int 1), (4, .int ((40 * v2) + v3)), (0, .ref (G.2.2.1 0)), (2, .int v2), (3, .int v3)]) C.1 dX8_seeks_214 rfl (by decide) rfl ?_
              refine gJ.sub [2, 0, 3, 4, 1] rfl ?_
              exact wkR_seeks_215 C hsz hR hret hK71 hK79 hK89 _ _ _ _ _ hw
      · replace hw := hw.2 h13
        refine g_goto (tgt := 302) C.1 dX8_seeks_115 (by decide) ?_
        exact wkR_seeks_302 C hsz hR hret hK71 hK79 hK89 _ _ _ _ hw
theorem wkR_seeks_89 {X : gT} {G : rG} {A : Nat → Prop} {H0 : Heap} {Q : State → Prop} (C : rC X cX8_seeks 5 G A) (hsz : H0 = (g_s X).heap) (hR : 0 ≤ (g_R X).frames ∧ 0 ≤ (g_R X).locals) {post : Int32 → RSt → Prop} (hret : ∀ (r : Int32) (τ : RSt) (lv : List (Nat × Value)) (pc : Nat), post r τ → narrow .int (.int r) = .int r → decode cX8_seeks pc = .ok (.ireturn, 1) → gJ X (rWd G A H0) Q 0 0 τ lv pc [.int r]) {K71 : RSt → Int32 → Prop} {K79 : RSt → Int32 → Int32 → Prop} (hK71 : ∀ (s : RSt) (v1 : Int32), K71 s v1 → gJ X (rWd G A H0) Q 0 0 s [(0, .ref (G.2.2.1 0)), (1, .int v1)] 71 []) (hK79 : ∀ (s : RSt) (v1 : Int32) (v2 : Int32), K79 s v1 v2 → gJ X (rWd G A H0) Q 0 0 s [(0, .ref (G.2.2.1 0)), (1, .int v1), (2, .int v2)] 79 []) (s : RSt) (v1 : Int32) (v2 : Int32) (v3 : Int32) (hw : wpR_seeks_89 post K71 K79 s v1 v2 v3) : gJ X (rWd G A H0) Q 0 0 s [(0, .ref (G.2.2.1 0)), (1, .int v1), (2, .int v2), (3, .int v3)] 89 [] := 
  hw (fun (x : RSt × Int32 × Int32 × Int32) => (fun s v1 v2 v3 => gJ X (rWd G A H0) Q 0 0 s [(0, .ref (G.2.2.1 0)), (1, .int v1), (2, .int v2), (3, .int v3)] 89 []) x.1 x.2.1 x.2.2.1 x.2.2.2) (fun x hx => wkR_seeks_89_F C hsz hR hret hK71 hK79 (K89 := (fun s v1 v2 v3 => gJ X (rWd G A H0) Q 0 0 s [(0, .ref (G.2.2.1 0)), (1, .int v1), (2, .int v2), (3, .int v3)] 89 [])) (fun _ _ _ _ h => h) x.1 x.2.1 x.2.2.1 x.2.2.2 hx)
theorem wkR_seeks_79_F {X : gT} {G : rG} {A : Nat → Prop} {H0 : Heap} {Q : State → Prop} (C : rC X cX8_seeks 5 G A) (hsz : H0 = (g_s X).heap) (hR : 0 ≤ (g_R X).frames ∧ 0 ≤ (g_R X).locals) {post : Int32 → RSt → Prop} (hret : ∀ (r : Int32) (τ : RSt) (lv : List (Nat × Value)) (pc : Nat), post r τ → narrow .int (.int r) = .int r → decode cX8_seeks pc = .ok (.ireturn, 1) → gJ X (rWd G A H0) Q 0 0 τ lv pc [.int r]) {K71 : RSt → Int32 → Prop} {K79 : RSt → Int32 → Int32 → Prop} (hK71 : ∀ (s : RSt) (v1 : Int32), K71 s v1 → gJ X (rWd G A H0) Q 0 0 s [(0, .ref (G.2.2.1 0)), (1, .int v1)] 71 []) (hK79 : ∀ (s : RSt) (v1 : Int32) (v2 : Int32), K79 s v1 v2 → gJ X (rWd G A H0) Q 0 0 s [(0, .ref (G.2.2.1 0)), (1, .int v1), (2, .int v2)] 79 []) (s : RSt) (v1 : Int32) (v2 : Int32) (hw : wpR_seeks_79_F post K71 K79 s v1 v2) : gJ X (rWd G A H0) Q 0 0 s [(0, .ref (G.2.2.1 0)), (1, .int v1), (2, .int v2)] 79 [] := by
  refine g_iload_n C.1 2 dX8_seeks_79 rfl rfl ?_
  refine g_aload_n C.1 0 dX8_seeks_80 rfl rfl ?_
  refine r_g14 C dX8_seeks_81 ?_
  refine g_icmp_ge (tgt := 314) C.1 dX8_seeks_84 (by decide) (fun h19 => ?_) (fun h19 => ?_)
  · replace hw := hw.1 h19
    refine g_goto (tgt := 71) C.1 dX8_seeks_314 (by decide) ?_
    refine gJ.sub [0, 1] rfl ?_
    exact hK71 _ _ hw
  · replace hw := hw.2 h19
    refine g_iconst (v := 0) C.1 dX8_seeks_87 (by decide) ?_
    refine g_istore_n (lv' := [(3, .int 0), (0, .ref (G.2.2.1 0)), (1, .int v1), (2, .int v2)]) C.1 dX8_seeks_88 rfl (by decide) rfl ?_
    refine gJ.sub [1, 2, 3, 0] rfl ?_
    exact wkR_seeks_89 C hsz hR hret hK71 hK79 _ _ _ _ hw
theorem wkR_seeks_79 {X : gT} {G : rG} {A : Nat → Prop} {H0 : Heap} {Q : State → Prop} (C : rC X cX8_seeks 5 G A) (hsz : H0 = (g_s X).heap) (hR : 0 ≤ (g_R X).frames ∧ 0 ≤ (g_R X).locals) {post : Int32 → RSt → Prop} (hret : ∀ (r : Int32) (τ : RSt) (lv : List (Nat × Value)) (pc : Nat), post r τ → narrow .int (.int r) = .int r → decode cX8_seeks pc = .ok (.ireturn, 1) → gJ X (rWd G A H0) Q 0 0 τ lv pc [.int r]) {K71 : RSt → Int32 → Prop} (hK71 : ∀ (s : RSt) (v1 : Int32), K71 s v1 → gJ X (rWd G A H0) Q 0 0 s [(0, .ref (G.2.2.1 0)), (1, .int v1)] 71 []) (s : RSt) (v1 : Int32) (v2 : Int32) (hw : wpR_seeks_79 post K71 s v1 v2) : gJ X (rWd G A H0) Q 0 0 s [(0, .ref (G.2.2.1 0)), (1, .int v1), (2, .int v2)] 79 [] := 
  hw (fun (x : RSt × Int32 × Int32) => (fun s v1 v2 => gJ X (rWd G A H0) Q 0 0 s [(0, .ref (G.2.2.1 0)), (1, .int v1), (2, .int v2)] 79 []) x.1 x.2.1 x.2.2) (fun x hx => wkR_seeks_79_F C hsz hR hret hK71 (K79 := (fun s v1 v2 => gJ X (rWd G A H0) Q 0 0 s [(0, .ref (G.2.2.1 0)), (1, .int v1), (2, .int v2)] 79 [])) (fun _ _ _ h => h) x.1 x.2.1 x.2.2 hx)
theorem wkR_seeks_71_F {X : gT} {G : rG} {A : Nat → Prop} {H0 : Heap} {Q : State → Prop} (C : rC X cX8_seeks 5 G A) (hsz : H0 = (g_s X).heap) (hR : 0 ≤ (g_R X).frames ∧ 0 ≤ (g_R X).locals) {post : Int32 → RSt → Prop} (hret : ∀ (r : Int32) (τ : RSt) (lv : List (Nat × Value)) (pc : Nat), post r τ → narrow .int (.int r) = .int r → decode cX8_seeks pc = .ok (.ireturn, 1) → gJ X (rWd G A H0) Q 0 0 τ lv pc [.int r]) {K71 : RSt → Int32 → Prop} (hK71 : ∀ (s : RSt) (v1 : Int32), K71 s v1 → gJ X (rWd G A H0) Q 0 0 s [(0, .ref (G.2.2.1 0)), (1, .int v1)] 71 []) (s : RSt) (v1 : Int32) (hw : wpR_seeks_71_F post K71 s v1) : gJ X (rWd G A H0) Q 0 0 s [(0, .ref (G.2.2.1 0)), (1, .int v1)] 71 [] := by
  refine g_iload_n C.1 1 dX8_seeks_71 rfl rfl ?_
  refine g_if_eq (tgt := 317) C.1 dX8_seeks_72 (by decide) (fun h20 => ?_) (fun h20 => ?_)
  · replace hw := hw.1 h20
    refine g_iconst (v := (-1)) C.1 dX8_seeks_317 (by decide) ?_
    refine g_istore_n (lv' := [(2, .int (-1)), (0, .ref (G.2.2.1 0)), (1, .int v1)]) C.1 dX8_seeks_318 rfl (by decide) rfl ?_
    refine g_iconst (v := 0) C.1 dX8_seeks_319 (by decide) ?_
    refine g_istore_n (lv' := [(3, .int 0), (2, .int (-1)), (0, .ref (G.2.2.1 0)), (1, .int v1)]) C.1 dX8_seeks_320 rfl (by decide) rfl ?_
    refine gJ.sub [2, 1, 0] rfl ?_
    exact wkR_seeks_321 C hsz hR hret _ _ _ hw
  · replace hw := hw.2 h20
    refine g_iconst (v := 0) C.1 dX8_seeks_75 (by decide) ?_
    refine g_istore_n (lv' := [(1, .int 0), (0, .ref (G.2.2.1 0))]) C.1 dX8_seeks_76 rfl (by decide) rfl ?_
    refine g_iconst (v := 0) C.1 dX8_seeks_77 (by decide) ?_
    refine g_istore_n (lv' := [(2, .int 0), (1, .int 0), (0, .ref (G.2.2.1 0))]) C.1 dX8_seeks_78 rfl (by decide) rfl ?_
    refine gJ.sub [2, 1, 0] rfl ?_
    exact wkR_seeks_79 C hsz hR hret hK71 _ _ _ hw
theorem wkR_seeks_71 {X : gT} {G : rG} {A : Nat → Prop} {H0 : Heap} {Q : State → Prop} (C : rC X cX8_seeks 5 G A) (hsz : H0 = (g_s X).heap) (hR : 0 ≤ (g_R X).frames ∧ 0 ≤ (g_R X).locals) {post : Int32 → RSt → Prop} (hret : ∀ (r : Int32) (τ : RSt) (lv : List (Nat × Value)) (pc : Nat), post r τ → narrow .int (.int r) = .int r → decode cX8_seeks pc = .ok (.ireturn, 1) → gJ X (rWd G A H0) Q 0 0 τ lv pc [.int r]) (s : RSt) (v1 : Int32) (hw : wpR_seeks_71 post s v1) : gJ X (rWd G A H0) Q 0 0 s [(0, .ref (G.2.2.1 0)), (1, .int v1)] 71 [] := 
  hw (fun (x : RSt × Int32) => (fun s v1 => gJ X (rWd G A H0) Q 0 0 s [(0, .ref (G.2.2.1 0)), (1, .int v1)] 71 []) x.1 x.2) (fun x hx => wkR_seeks_71_F C hsz hR hret (K71 := (fun s v1 => gJ X (rWd G A H0) Q 0 0 s [(0, .ref (G.2.2.1 0)), (1, .int v1)] 71 [])) (fun _ _ h => h) x.1 x.2 hx)
theorem wkR_seeks_33 {X : gT} {G : rG} {A : Nat → Prop} {H0 : Heap} {Q : State → Prop} (C : rC X cX8_seeks 5 G A) (hsz : H0 = (g_s X).heap) (hR : 0 ≤ (g_R X).frames ∧ 0 ≤ (g_R X).locals) {post : Int32 → RSt → Prop} (hret : ∀ (r : Int32) (τ : RSt) (lv : List (Nat × Value)) (pc : Nat), post r τ → narrow .int (.int r) = .int r → decode cX8_seeks pc = .ok (.ireturn, 1) → gJ X (rWd G A H0) Q 0 0 τ lv pc [.int r]) {K2 : RSt → Int32 → Prop} (hK2 : ∀ (s : RSt) (v1 : Int32), K2 s v1 → gJ X (rWd G A H0) Q 0 0 s [(0, .ref (G.2.2.1 0)), (1, .int v1)] 2 []) (s : RSt) (v1 : Int32) (w1 : Int32) (w2 : Int64) (hw : wpR_seeks_33 post K2 s v1 w1 w2) : gJ X (rWd G A H0) Q 0 0 s [(0, .ref (G.2.2.1 0)), (1, .int v1)] 33 [.long w2, .int w1, .ref (G.2.2.1 45)] := by
  refine r_st45 C hw.1 dX8_seeks_33 ?_
  replace hw := hw.2
  refine gJ.nm (fun s21 es21 => ?_)
  replace hw := hw s21 es21
  refine g_aload_n C.1 0 dX8_seeks_34 rfl rfl ?_
  refine r_g45 C dX8_seeks_35 ?_
  refine g_bipush (v := 40) C.1 dX8_seeks_38 (by decide) ?_
  refine g_iload_n C.1 1 dX8_seeks_40 rfl rfl ?_
  refine g_iadd C.1 dX8_seeks_41 ?_
  refine g_ldc2 (v := 1000000000000) C.1 C.2.1 (C.2.2.1 _ kR_267) dX8_seeks_42 ?_
  refine r_st45 C hw.1 dX8_seeks_45 ?_
  replace hw := hw.2
  refine gJ.nm (fun s22 es22 => ?_)
  replace hw := hw s22 es22
  refine g_aload_n C.1 0 dX8_seeks_46 rfl rfl ?_
  refine r_g46 C dX8_seeks_47 ?_
  refine g_iload_n C.1 1 dX8_seeks_50 rfl rfl ?_
  refine g_iconst (v := (-1)) C.1 dX8_seeks_51 (by decide) ?_
  refine r_st46 C hw.1 dX8_seeks_52 ?_
  replace hw := hw.2
  refine gJ.nm (fun s23 es23 => ?_)
  replace hw := hw s23 es23
  refine g_aload_n C.1 0 dX8_seeks_53 rfl rfl ?_
  refine r_g46 C dX8_seeks_54 ?_
  refine g_bipush (v := 40) C.1 dX8_seeks_57 (by decide) ?_
  refine g_iload_n C.1 1 dX8_seeks_59 rfl rfl ?_
  refine g_iadd C.1 dX8_seeks_60 ?_
  refine g_iconst (v := (-1)) C.1 dX8_seeks_61 (by decide) ?_
  refine r_st46 C hw.1 dX8_seeks_62 ?_
  replace hw := hw.2
  refine gJ.nm (fun s24 es24 => ?_)
  replace hw := hw s24 es24
  refine g_iinc (v := v1 + 1) (lv' := [(1, .int (v1 + 1)), (0, .ref (G.2.2.1 0))]) C.1 1 dX8_seeks_63 rfl rfl (by decide) rfl ?_
  refine g_goto (tgt := 2) C.1 dX8_seeks_66 (by decide) ?_
  refine gJ.sub [1, 0] rfl ?_
  exact hK2 _ _ hw
theorem wkR_seeks_2_F {X : gT} {G : rG} {A : Nat → Prop} {H0 : Heap} {Q : State → Prop} (C : rC X cX8_seeks 5 G A) (hsz : H0 = (g_s X).heap) (hR : 0 ≤ (g_R X).frames ∧ 0 ≤ (g_R X).locals) {post : Int32 → RSt → Prop} (hret : ∀ (r : Int32) (τ : RSt) (lv : List (Nat × Value)) (pc : Nat), post r τ → narrow .int (.int r) = .int r → decode cX8_seeks pc = .ok (.ireturn, 1) → gJ X (rWd G A H0) Q 0 0 τ lv pc [.int r]) {K2 : RSt → Int32 → Prop} (hK2 : ∀ (s : RSt) (v1 : Int32), K2 s v1 → gJ X (rWd G A H0) Q 0 0 s [(0, .ref (G.2.2.1 0)), (1, .int v1)] 2 []) (s : RSt) (v1 : Int32) (hw : wpR_seeks_2_F post K2 s v1) : gJ X (rWd G A H0) Q 0 0 s [(0, .ref (G.2.2.1 0)), (1, .int v1)] 2 [] := by
  refine g_iload_n C.1 1 dX8_seeks_2 rfl rfl ?_
  refine g_aload_n C.1 0 dX8_seeks_3 rfl rfl ?_
  refine r_g14 C dX8_seeks_4 ?_
  refine g_icmp_ge (tgt := 69) C.1 dX8_seeks_7 (by decide) (fun h25 => ?_) (fun h25 => ?_)
  · replace hw := hw.1 h25
    refine g_iconst (v := 1) C.1 dX8_seeks_69 (by decide) ?_
    refine g_istore_n (lv' := [(1, .int 1), (0, .ref (G.2.2.1 0))]) C.1 dX8_seeks_70 rfl (by decide) rfl ?_
    refine gJ.sub [1, 0] rfl ?_
    exact wkR_seeks_71 C hsz hR hret _ _ hw
  · replace hw := hw.2 h25
    refine g_aload_n C.1 0 dX8_seeks_10 rfl rfl ?_
    refine r_g45 C dX8_seeks_11 ?_
    refine g_iload_n C.1 1 dX8_seeks_14 rfl rfl ?_
    refine g_aload_n C.1 0 dX8_seeks_15 rfl rfl ?_
    refine r_g44 C dX8_seeks_16 ?_
    refine g_iload_n C.1 1 dX8_seeks_19 rfl rfl ?_
    refine r_ld44 C hw.1 dX8_seeks_20 ?_
    replace hw := hw.2
    refine g_lconst (v := 0) C.1 dX8_seeks_21 (by decide) ?_
    refine g_lcmp C.1 dX8_seeks_22 ?_
    refine g_if_le (tgt := 30) C.1 dX8_seeks_23 (by decide) (fun h26 => ?_) (fun h26 => ?_)
    · replace hw := hw.1 h26
      refine g_ldc2 (v := 1000000000000) C.1 C.2.1 (C.2.2.1 _ kR_267) dX8_seeks_30 ?_
      exact wkR_seeks_33 C hsz hR hret hK2 _ _ _ _ hw
    · replace hw := hw.2 h26
      refine g_lconst (v := 0) C.1 dX8_seeks_26 (by decide) ?_
      refine g_goto (tgt := 33) C.1 dX8_seeks_27 (by decide) ?_
      exact wkR_seeks_33 C hsz hR hret hK2 _ _ _ _ hw
theorem wkR_seeks_2 {X : gT} {G : rG} {A : Nat → Prop} {H0 : Heap} {Q : State → Prop} (C : rC X cX8_seeks 5 G A) (hsz : H0 = (g_s X).heap) (hR : 0 ≤ (g_R X).frames ∧ 0 ≤ (g_R X).locals) {post : Int32 → RSt → Prop} (hret : ∀ (r : Int32) (τ : RSt) (lv : List (Nat × Value)) (pc : Nat), post r τ → narrow .int (.int r) = .int r → decode cX8_seeks pc = .ok (.ireturn, 1) → gJ X (rWd G A H0) Q 0 0 τ lv pc [.int r]) (s : RSt) (v1 : Int32) (hw : wpR_seeks_2 post s v1) : gJ X (rWd G A H0) Q 0 0 s [(0, .ref (G.2.2.1 0)), (1, .int v1)] 2 [] := 
  hw (fun (x : RSt × Int32) => (fun s v1 => gJ X (rWd G A H0) Q 0 0 s [(0, .ref (G.2.2.1 0)), (1, .int v1)] 2 []) x.1 x.2) (fun x hx => wkR_seeks_2_F C hsz hR hret (K2 := (fun s v1 => gJ X (rWd G A H0) Q 0 0 s [(0, .ref (G.2.2.1 0)), (1, .int v1)] 2 [])) (fun _ _ h => h) x.1 x.2 hx)
theorem wkR_seeks_0 {X : gT} {G : rG} {A : Nat → Prop} {H0 : Heap} {Q : State → Prop} (C : rC X cX8_seeks 5 G A) (hsz : H0 = (g_s X).heap) (hR : 0 ≤ (g_R X).frames ∧ 0 ≤ (g_R X).locals) {post : Int32 → RSt → Prop} (hret : ∀ (r : Int32) (τ : RSt) (lv : List (Nat × Value)) (pc : Nat), post r τ → narrow .int (.int r) = .int r → decode cX8_seeks pc = .ok (.ireturn, 1) → gJ X (rWd G A H0) Q 0 0 τ lv pc [.int r]) (s : RSt) (hw : wpR_seeks_0 post s) : gJ X (rWd G A H0) Q 0 0 s [(0, .ref (G.2.2.1 0))] 0 [] := by
  refine g_iconst (v := 0) C.1 dX8_seeks_0 (by decide) ?_
  refine g_istore_n (lv' := [(1, .int 0), (0, .ref (G.2.2.1 0))]) C.1 dX8_seeks_1 rfl (by decide) rfl ?_
  refine gJ.sub [1, 0] rfl ?_
  exact wkR_seeks_2 C hsz hR hret _ _ hw
theorem hdR_seeks : yX8_seeks.cls = RX8 ∧ yX8_seeks.cls ≠ "java/lang/invoke/MethodHandle" ∧ yX8_seeks.cls ≠ "java/lang/invoke/VarHandle" ∧ (parseMethodDescriptor yX8_seeks.desc).map (fun d => d.parameters.length) = some 0 := by decide +kernel
theorem cR_seeks (l : Launch) (G : rG) (s : RSt) (post : Int32 → RSt → Prop) (hw : wpR_seeks_0 post s) : rMi l yX8_seeks cX8_seeks 5 .int 0 0 G s [] post := rMi_of (by decide +kernel) rfl (Nat.le_of_ble_eq_true rfl) (fun X A H0 Q hl hR hsz C hret => wkR_seeks_0 C hsz hR hret s hw)
def wpR_carries_153_F (post : Int64 → RSt → Prop) (K153 : RSt → Int64 → Int32 → Int64 → Prop) (s : RSt) (v2 : Int64) (v5 : Int32) (v6 : Int64) : Prop := vp_in v5 80 ∧ ((s.2.1 46 v5.toNatClampNeg) < 0 → post v6 s) ∧ (¬ (s.2.1 46 v5.toNatClampNeg) < 0 → vp_in v5 80 ∧ vp_in ((40 * v5) + (s.2.1 46 v5.toNatClampNeg)) 1600 ∧ vp_in ((40 * v5) + (s.2.1 46 v5.toNatClampNeg)) 1600 ∧ ∀ s2 : RSt, s2 = rsJ s 43 ((40 * v5) + (s.2.1 46 v5.toNatClampNeg)).toNatClampNeg ((s.2.2 43 ((40 * v5) + (s.2.1 46 v5.toNatClampNeg)).toNatClampNeg) - v2) → vp_in (40 + (s.2.1 46 v5.toNatClampNeg)) 80 ∧ vp_in ((40 * (s2.2.1 46 (40 + (s.2.1 46 v5.toNatClampNeg)).toNatClampNeg)) + (s.2.1 46 v5.toNatClampNeg)) 1600 ∧ vp_in ((40 * (s2.2.1 46 (40 + (s.2.1 46 v5.toNatClampNeg)).toNatClampNeg)) + (s.2.1 46 v5.toNatClampNeg)) 1600 ∧ ∀ s3 : RSt, s3 = rsJ s2 43 ((40 * (s2.2.1 46 (40 + (s.2.1 46 v5.toNatClampNeg)).toNatClampNeg)) + (s.2.1 46 v5.toNatClampNeg)).toNatClampNeg ((s2.2.2 43 ((40 * (s2.2.1 46 (40 + (s.2.1 46 v5.toNatClampNeg)).toNatClampNeg)) + (s.2.1 46 v5.toNatClampNeg)).toNatClampNeg) + v2) → K153 s3 v2 (s2.2.1 46 (40 + (s.2.1 46 v5.toNatClampNeg)).toNatClampNeg) v6)
def wpR_carries_153 (post : Int64 → RSt → Prop) (s : RSt) (v2 : Int64) (v5 : Int32) (v6 : Int64) : Prop := gLP (fun (K : RSt × Int64 × Int32 × Int64 → Prop) (x : RSt × Int64 × Int32 × Int64) => wpR_carries_153_F post (fun s v2 v5 v6 => K (s, v2, v5, v6)) x.1 x.2.1 x.2.2.1 x.2.2.2) (s, v2, v5, v6)
def wpR_carries_23_F (post : Int64 → RSt → Prop) (K23 : RSt → Int32 → Int64 → Int32 → Prop) (s : RSt) (v1 : Int32) (v2 : Int64) (v5 : Int32) : Prop := vp_in v5 80 ∧ ((s.2.1 46 v5.toNatClampNeg) < 0 → vp_in v5 40 ∧ ∀ x5 : Int64, x5 = (if (s.2.2 44 v5.toNatClampNeg) < v2 then (s.2.2 44 v5.toNatClampNeg) else v2) → vp_in v5 40 ∧ vp_in v5 40 ∧ ∀ s6 : RSt, s6 = rsJ s 44 v5.toNatClampNeg ((s.2.2 44 v5.toNatClampNeg) - x5) → vp_in v1 40 ∧ vp_in v1 40 ∧ ∀ s7 : RSt, s7 = rsJ s6 44 v1.toNatClampNeg ((s6.2.2 44 v1.toNatClampNeg) + x5) → vp_in (40 + v1) 80 ∧ vp_in (40 + v1) 80 ∧ vp_in ((40 * (s7.2.1 46 (40 + v1).toNatClampNeg)) + v1) 1600 ∧ vp_in ((40 * (s7.2.1 46 (40 + v1).toNatClampNeg)) + v1) 1600 ∧ ∀ s8 : RSt, s8 = rsJ s7 43 ((40 * (s7.2.1 46 (40 + v1).toNatClampNeg)) + v1).toNatClampNeg ((s7.2.2 43 ((40 * (s7.2.1 46 (40 + v1).toNatClampNeg)) + v1).toNatClampNeg) + x5) → wpR_carries_153 post s8 x5 (s7.2.1 46 (40 + v1).toNatClampNeg) (x5 * (s7.2.2 45 (40 + v1).toNatClampNeg))) ∧ (¬ (s.2.1 46 v5.toNatClampNeg) < 0 → vp_in v5 80 ∧ vp_in ((40 * v5) + (s.2.1 46 v5.toNatClampNeg)) 1600 ∧ ∀ x9 : Int64, x9 = (if (s.2.2 43 ((40 * v5) + (s.2.1 46 v5.toNatClampNeg)).toNatClampNeg) < v2 then (s.2.2 43 ((40 * v5) + (s.2.1 46 v5.toNatClampNeg)).toNatClampNeg) else v2) → vp_in (40 + (s.2.1 46 v5.toNatClampNeg)) 80 ∧ K23 s v1 x9 (s.2.1 46 (40 + (s.2.1 46 v5.toNatClampNeg)).toNatClampNeg))
def wpR_carries_23 (post : Int64 → RSt → Prop) (s : RSt) (v1 : Int32) (v2 : Int64) (v5 : Int32) : Prop := gLP (fun (K : RSt × Int32 × Int64 × Int32 → Prop) (x : RSt × Int32 × Int64 × Int32) => wpR_carries_23_F post (fun s v1 v2 v5 => K (s, v1, v2, v5)) x.1 x.2.1 x.2.2.1 x.2.2.2) (s, v1, v2, v5)
def wpR_carries_0 (post : Int64 → RSt → Prop) (s : RSt) (v1 : Int32) : Prop := vp_in v1 40 ∧ vp_in (40 + v1) 80 ∧ wpR_carries_23 post s v1 (-(s.2.2 44 v1.toNatClampNeg)) (s.2.1 46 (40 + v1).toNatClampNeg)
theorem wkR_carries_153_F {X : gT} {G : rG} {A : Nat → Prop} {H0 : Heap} {Q : State → Prop} (C : rC X cX8_carries 8 G A) (hsz : H0 = (g_s X).heap) (hR : 1 ≤ (g_R X).frames ∧ 24 ≤ (g_R X).locals) {post : Int64 → RSt → Prop} (hret : ∀ (r : Int64) (τ : RSt) (lv : List (Nat × Value)) (pc : Nat), post r τ → decode cX8_carries pc = .ok (.lreturn, 1) → gJ X (rWd G A H0) Q 0 0 τ lv pc [.long r]) {K153 : RSt → Int64 → Int32 → Int64 → Prop} (hK153 : ∀ (s : RSt) (v2 : Int64) (v5 : Int32) (v6 : Int64), K153 s v2 v5 v6 → gJ X (rWd G A H0) Q 0 0 s [(0, .ref (G.2.2.1 0)), (2, .long v2), (5, .int v5), (6, .long v6)] 153 []) (s : RSt) (v2 : Int64) (v5 : Int32) (v6 : Int64) (hw : wpR_carries_153_F post K153 s v2 v5 v6) : gJ X (rWd G A H0) Q 0 0 s [(0, .ref (G.2.2.1 0)), (2, .long v2), (5, .int v5), (6, .long v6)] 153 [] := by
  refine g_aload_n C.1 0 dX8_carries_153 rfl rfl ?_
  refine r_g46 C dX8_carries_154 ?_
  refine g_iload C.1 2 dX8_carries_157 rfl ?_
  refine r_ld46 C hw.1 dX8_carries_159 ?_
  replace hw := hw.2
  refine g_if_lt (tgt := 221) C.1 dX8_carries_160 (by decide) (fun h1 => ?_) (fun h1 => ?_)
  · replace hw := hw.1 h1
    refine g_lload C.1 3 dX8_carries_221 rfl ?_
    exact hret _ _ _ _ hw dX8_carries_223
  · replace hw := hw.2 h1
    refine g_aload_n C.1 0 dX8_carries_163 rfl rfl ?_
    refine r_g46 C dX8_carries_164 ?_
    refine g_iload C.1 2 dX8_carries_167 rfl ?_
    refine r_ld46 C hw.1 dX8_carries_169 ?_
    replace hw := hw.2
    refine g_istore (lv' := [(4, .int (s.2.1 46 v5.toNatClampNeg)), (0, .ref (G.2.2.1 0)), (2, .long v2), (5, .int v5), (6, .long v6)]) C.1 dX8_carries_170 (by decide) rfl ?_
    refine g_aload_n C.1 1 dX8_carries_172 rfl rfl ?_
    refine r_g43 C dX8_carries_173 ?_
    refine g_bipush (v := 40) C.1 dX8_carries_176 (by decide) ?_
    refine g_iload C.1 3 dX8_carries_178 rfl ?_
    refine g_imul C.1 dX8_carries_180 ?_
    refine g_iload C.1 0 dX8_carries_181 rfl ?_
    refine g_iadd C.1 dX8_carries_183 ?_
    refine g_dup2 C.1 dX8_carries_184 rfl rfl ?_
    refine r_ld43 C hw.1 dX8_carries_185 ?_
    replace hw := hw.2
    refine g_lload_n C.1 2 dX8_carries_186 rfl rfl ?_
    refine g_lsub C.1 dX8_carries_187 ?_
    refine r_st43 C hw.1 dX8_carries_188 ?_
    replace hw := hw.2
    refine gJ.nm (fun s2 es2 => ?_)
    replace hw := hw s2 es2
    refine g_aload_n C.1 1 dX8_carries_189 rfl rfl ?_
    refine r_g46 C dX8_carries_190 ?_
    refine g_bipush (v := 40) C.1 dX8_carries_193 (by decide) ?_
    refine g_iload C.1 0 dX8_carries_195 rfl ?_
    refine g_iadd C.1 dX8_carries_197 ?_
    refine r_ld46 C hw.1 dX8_carries_198 ?_
    replace hw := hw.2
    refine g_istore (lv' := [(5, .int (s2.2.1 46 (40 + (s.2.1 46 v5.toNatClampNeg)).toNatClampNeg)), (4, .int (s.2.1 46 v5.toNatClampNeg)), (0, .ref (G.2.2.1 0)), (2, .long v2), (6, .long v6)]) C.1 dX8_carries_199 (by decide) rfl ?_
    refine g_aload_n C.1 2 dX8_carries_201 rfl rfl ?_
    refine r_g43 C dX8_carries_202 ?_
    refine g_bipush (v := 40) C.1 dX8_carries_205 (by decide) ?_
    refine g_iload C.1 0 dX8_carries_207 rfl ?_
    refine g_imul C.1 dX8_carries_209 ?_
    refine g_iload C.1 1 dX8_carries_210 rfl ?_
    refine g_iadd C.1 dX8_carries_212 ?_
    refine g_dup2 C.1 dX8_carries_213 rfl rfl ?_
    refine r_ld43 C hw.1 dX8_carries_214 ?_
    replace hw := hw.2
    refine g_lload_n C.1 3 dX8_carries_215 rfl rfl ?_
    refine g_ladd C.1 dX8_carries_216 ?_
    refine r_st43 C hw.1 dX8_carries_217 ?_
    replace hw := hw.2
    refine gJ.nm (fun s3 es3 => ?_)
    replace hw := hw s3 es3
    refine g_goto (tgt := 153) C.1 dX8_carries_218 (by decide) ?_
    refine gJ.sub [2, 3, 0, 4] rfl ?_
    exact hK153 _ _ _ _ hw
theorem wkR_carries_153 {X : gT} {G : rG} {A : Nat → Prop} {H0 : Heap} {Q : State → Prop} (C : rC X cX8_carries 8 G A) (hsz : H0 = (g_s X).heap) (hR : 1 ≤ (g_R X).frames ∧ 24 ≤ (g_R X).locals) {post : Int64 → RSt → Prop} (hret : ∀ (r : Int64) (τ : RSt) (lv : List (Nat × Value)) (pc : Nat), post r τ → decode cX8_carries pc = .ok (.lreturn, 1) → gJ X (rWd G A H0) Q 0 0 τ lv pc [.long r]) (s : RSt) (v2 : Int64) (v5 : Int32) (v6 : Int64) (hw : wpR_carries_153 post s v2 v5 v6) : gJ X (rWd G A H0) Q 0 0 s [(0, .ref (G.2.2.1 0)), (2, .long v2), (5, .int v5), (6, .long v6)] 153 [] := 
  hw (fun (x : RSt × Int64 × Int32 × Int64) => (fun s v2 v5 v6 => gJ X (rWd G A H0) Q 0 0 s [(0, .ref (G.2.2.1 0)), (2, .long v2), (5, .int v5), (6, .long v6)] 153 []) x.1 x.2.1 x.2.2.1 x.2.2.2) (fun x hx => wkR_carries_153_F C hsz hR hret (K153 := (fun s v2 v5 v6 => gJ X (rWd G A H0) Q 0 0 s [(0, .ref (G.2.2.1 0)), (2, .long v2), (5, .int v5), (6, .long v6)] 153 [])) (fun _ _ _ _ h => h) x.1 x.2.1 x.2.2.1 x.2.2.2 hx)
theorem wkR_carries_23_F {X : gT} {G : rG} {A : Nat → Prop} {H0 : Heap} {Q : State → Prop} (C : rC X cX8_carries 8 G A) (hsz : H0 = (g_s X).heap) (hR : 1 ≤ (g_R X).frames ∧ 24 ≤ (g_R X).locals) {post : Int64 → RSt → Prop} (hret : ∀ (r : Int64) (τ : RSt) (lv : List (Nat × Value)) (pc : Nat), post r τ → decode cX8_carries pc = .ok (.lreturn, 1) → gJ X (rWd G A H0) Q 0 0 τ lv pc [.long r]) {K23 : RSt → Int32 → Int64 → Int32 → Prop} (hK23 : ∀ (s : RSt) (v1 : Int32) (v2 : Int64) (v5 : Int32), K23 s v1 v2 v5 → gJ X (rWd G A H0) Q 0 0 s [(0, .ref (G.2.2.1 0)), (1, .int v1), (2, .long v2), (5, .int v5)] 23 []) (s : RSt) (v1 : Int32) (v2 : Int64) (v5 : Int32) (hw : wpR_carries_23_F post K23 s v1 v2 v5) : gJ X (rWd G A H0) Q 0 0 s [(0, .ref (G.2.2.1 0)), (1, .int v1), (2, .long v2), (5, .int v5)] 23 [] := by
  refine g_aload_n C.1 0 dX8_carries_23 rfl rfl ?_
  refine r_g46 C dX8_carries_24 ?_
  refine g_iload C.1 3 dX8_carries_27 rfl ?_
  refine r_ld46 C hw.1 dX8_carries_29 ?_
  replace hw := hw.2
  refine g_if_lt (tgt := 75) C.1 dX8_carries_30 (by decide) (fun h4 => ?_) (fun h4 => ?_)
  · replace hw := hw.1 h4
    refine g_lload_n C.1 2 dX8_carries_75 rfl rfl ?_
    refine g_aload_n C.1 0 dX8_carries_76 rfl rfl ?_
    refine r_g44 C dX8_carries_77 ?_
    refine g_iload C.1 3 dX8_carries_80 rfl ?_
    refine r_ld44 C hw.1 dX8_carries_82 ?_
    replace hw := hw.2
    refine g_mmin_long C.1 C.2.1 (C.2.2.1 _ kR_270) (C.2.2.1 _ kR_271) (C.2.2.1 _ kR_272) (C.2.2.1 _ kR_273) (Nat.le_trans (Nat.le_of_ble_eq_true rfl) hR.1) (Nat.le_trans (Nat.le_of_ble_eq_true rfl) hR.2) (Nat.zero_le _) (Nat.zero_le _) dX8_carries_83 ?_
    refine g_topl (fun x5 ex5 => ?_)
    replace hw := hw x5 ex5
    refine g_lstore_n (lv' := [(2, .long x5), (0, .ref (G.2.2.1 0)), (1, .int v1), (5, .int v5)]) C.1 dX8_carries_86 rfl (by decide) rfl ?_
    refine g_aload_n C.1 1 dX8_carries_87 rfl rfl ?_
    refine r_g44 C dX8_carries_88 ?_
    refine g_iload C.1 3 dX8_carries_91 rfl ?_
    refine g_dup2 C.1 dX8_carries_93 rfl rfl ?_
    refine r_ld44 C hw.1 dX8_carries_94 ?_
    replace hw := hw.2
    refine g_lload_n C.1 0 dX8_carries_95 rfl rfl ?_
    refine g_lsub C.1 dX8_carries_96 ?_
    refine r_st44 C hw.1 dX8_carries_97 ?_
    replace hw := hw.2
    refine gJ.nm (fun s6 es6 => ?_)
    replace hw := hw s6 es6
    refine g_aload_n C.1 1 dX8_carries_98 rfl rfl ?_
    refine r_g44 C dX8_carries_99 ?_
    refine g_iload_n C.1 2 dX8_carries_102 rfl rfl ?_
    refine g_dup2 C.1 dX8_carries_103 rfl rfl ?_
    refine r_ld44 C hw.1 dX8_carries_104 ?_
    replace hw := hw.2
    refine g_lload_n C.1 0 dX8_carries_105 rfl rfl ?_
    refine g_ladd C.1 dX8_carries_106 ?_
    refine r_st44 C hw.1 dX8_carries_107 ?_
    replace hw := hw.2
    refine gJ.nm (fun s7 es7 => ?_)
    replace hw := hw s7 es7
    refine g_lload_n C.1 0 dX8_carries_108 rfl rfl ?_
    refine g_aload_n C.1 1 dX8_carries_109 rfl rfl ?_
    refine r_g45 C dX8_carries_110 ?_
    refine g_bipush (v := 40) C.1 dX8_carries_113 (by decide) ?_
    refine g_iload_n C.1 2 dX8_carries_115 rfl rfl ?_
    refine g_iadd C.1 dX8_carries_116 ?_
    refine r_ld45 C hw.1 dX8_carries_117 ?_
    replace hw := hw.2
    refine g_lmul C.1 dX8_carries_118 ?_
    refine g_lstore (lv' := [(6, .long (x5 * (s7.2.2 45 (40 + v1).toNatClampNeg))), (2, .long x5), (0, .ref (G.2.2.1 0)), (1, .int v1), (5, .int v5)]) C.1 dX8_carries_119 (by decide) rfl ?_
    refine g_iload_n C.1 3 dX8_carries_121 rfl rfl ?_
    refine g_istore (lv' := [(4, .int v1), (6, .long (x5 * (s7.2.2 45 (40 + v1).toNatClampNeg))), (2, .long x5), (0, .ref (G.2.2.1 0)), (1, .int v1), (5, .int v5)]) C.1 dX8_carries_122 (by decide) rfl ?_
    refine g_aload_n C.1 3 dX8_carries_124 rfl rfl ?_
    refine r_g46 C dX8_carries_125 ?_
    refine g_bipush (v := 40) C.1 dX8_carries_128 (by decide) ?_
    refine g_iload C.1 0 dX8_carries_130 rfl ?_
    refine g_iadd C.1 dX8_carries_132 ?_
    refine r_ld46 C hw.1 dX8_carries_133 ?_
    replace hw := hw.2
    refine g_istore (lv' := [(5, .int (s7.2.1 46 (40 + v1).toNatClampNeg)), (4, .int v1), (6, .long (x5 * (s7.2.2 45 (40 + v1).toNatClampNeg))), (2, .long x5), (0, .ref (G.2.2.1 0)), (1, .int v1)]) C.1 dX8_carries_134 (by decide) rfl ?_
    refine g_aload_n C.1 4 dX8_carries_136 rfl rfl ?_
    refine r_g43 C dX8_carries_137 ?_
    refine g_bipush (v := 40) C.1 dX8_carries_140 (by decide) ?_
    refine g_iload C.1 0 dX8_carries_142 rfl ?_
    refine g_imul C.1 dX8_carries_144 ?_
    refine g_iload C.1 1 dX8_carries_145 rfl ?_
    refine g_iadd C.1 dX8_carries_147 ?_
    refine g_dup2 C.1 dX8_carries_148 rfl rfl ?_
    refine r_ld43 C hw.1 dX8_carries_149 ?_
    replace hw := hw.2
    refine g_lload_n C.1 3 dX8_carries_150 rfl rfl ?_
    refine g_ladd C.1 dX8_carries_151 ?_
    refine r_st43 C hw.1 dX8_carries_152 ?_
    replace hw := hw.2
    refine gJ.nm (fun s8 es8 => ?_)
    replace hw := hw s8 es8
    refine gJ.sub [4, 3, 0, 2] rfl ?_
    exact wkR_carries_153 C hsz hR hret _ _ _ _ hw
  · replace hw := hw.2 h4
    refine g_aload_n C.1 0 dX8_carries_33 rfl rfl ?_
    refine r_g46 C dX8_carries_34 ?_
    refine g_iload C.1 3 dX8_carries_37 rfl ?_
    refine r_ld46 C hw.1 dX8_carries_39 ?_
    replace hw := hw.2
    refine g_istore (lv' := [(4, .int (s.2.1 46 v5.toNatClampNeg)), (0, .ref (G.2.2.1 0)), (1, .int v1), (2, .long v2), (5, .int v5)]) C.1 dX8_carries_40 (by decide) rfl ?_
    refine g_lload_n C.1 3 dX8_carries_42 rfl rfl ?_
    refine g_aload_n C.1 1 dX8_carries_43 rfl rfl ?_
    refine r_g43 C dX8_carries_44 ?_
    refine g_bipush (v := 40) C.1 dX8_carries_47 (by decide) ?_
    refine g_iload C.1 4 dX8_carries_49 rfl ?_
    refine g_imul C.1 dX8_carries_51 ?_
    refine g_iload C.1 0 dX8_carries_52 rfl ?_
    refine g_iadd C.1 dX8_carries_54 ?_
    refine r_ld43 C hw.1 dX8_carries_55 ?_
    replace hw := hw.2
    refine g_mmin_long C.1 C.2.1 (C.2.2.1 _ kR_270) (C.2.2.1 _ kR_271) (C.2.2.1 _ kR_272) (C.2.2.1 _ kR_273) (Nat.le_trans (Nat.le_of_ble_eq_true rfl) hR.1) (Nat.le_trans (Nat.le_of_ble_eq_true rfl) hR.2) (Nat.zero_le _) (Nat.zero_le _) dX8_carries_56 ?_
    refine g_topl (fun x9 ex9 => ?_)
    replace hw := hw x9 ex9
    refine g_lstore_n (lv' := [(2, .long x9), (4, .int (s.2.1 46 v5.toNatClampNeg)), (0, .ref (G.2.2.1 0)), (1, .int v1), (5, .int v5)]) C.1 dX8_carries_59 rfl (by decide) rfl ?_
    refine g_aload_n C.1 2 dX8_carries_60 rfl rfl ?_
    refine r_g46 C dX8_carries_61 ?_
    refine g_bipush (v := 40) C.1 dX8_carries_64 (by decide) ?_
    refine g_iload C.1 1 dX8_carries_66 rfl ?_
    refine g_iadd C.1 dX8_carries_68 ?_
    refine r_ld46 C hw.1 dX8_carries_69 ?_
    replace hw := hw.2
    refine g_istore (lv' := [(5, .int (s.2.1 46 (40 + (s.2.1 46 v5.toNatClampNeg)).toNatClampNeg)), (2, .long x9), (4, .int (s.2.1 46 v5.toNatClampNeg)), (0, .ref (G.2.2.1 0)), (1, .int v1)]) C.1 dX8_carries_70 (by decide) rfl ?_
    refine g_goto (tgt := 23) C.1 dX8_carries_72 (by decide) ?_
    refine gJ.sub [3, 4, 1, 0] rfl ?_
    exact hK23 _ _ _ _ hw
theorem wkR_carries_23 {X : gT} {G : rG} {A : Nat → Prop} {H0 : Heap} {Q : State → Prop} (C : rC X cX8_carries 8 G A) (hsz : H0 = (g_s X).heap) (hR : 1 ≤ (g_R X).frames ∧ 24 ≤ (g_R X).locals) {post : Int64 → RSt → Prop} (hret : ∀ (r : Int64) (τ : RSt) (lv : List (Nat × Value)) (pc : Nat), post r τ → decode cX8_carries pc = .ok (.lreturn, 1) → gJ X (rWd G A H0) Q 0 0 τ lv pc [.long r]) (s : RSt) (v1 : Int32) (v2 : Int64) (v5 : Int32) (hw : wpR_carries_23 post s v1 v2 v5) : gJ X (rWd G A H0) Q 0 0 s [(0, .ref (G.2.2.1 0)), (1, .int v1), (2, .long v2), (5, .int v5)] 23 [] := 
  hw (fun (x : RSt × Int32 × Int64 × Int32) => (fun s v1 v2 v5 => gJ X (rWd G A H0) Q 0 0 s [(0, .ref (G.2.2.1 0)), (1, .int v1), (2, .long v2), (5, .int v5)] 23 []) x.1 x.2.1 x.2.2.1 x.2.2.2) (fun x hx => wkR_carries_23_F C hsz hR hret (K23 := (fun s v1 v2 v5 => gJ X (rWd G A H0) Q 0 0 s [(0, .ref (G.2.2.1 0)), (1, .int v1), (2, .long v2), (5, .int v5)] 23 [])) (fun _ _ _ _ h => h) x.1 x.2.1 x.2.2.1 x.2.2.2 hx)
theorem wkR_carries_0 {X : gT} {G : rG} {A : Nat → Prop} {H0 : Heap} {Q : State → Prop} (C : rC X cX8_carries 8 G A) (hsz : H0 = (g_s X).heap) (hR : 1 ≤ (g_R X).frames ∧ 24 ≤ (g_R X).locals) {post : Int64 → RSt → Prop} (hret : ∀ (r : Int64) (τ : RSt) (lv : List (Nat × Value)) (pc : Nat), post r τ → decode cX8_carries pc = .ok (.lreturn, 1) → gJ X (rWd G A H0) Q 0 0 τ lv pc [.long r]) (s : RSt) (v1 : Int32) (hw : wpR_carries_0 post s v1) : gJ X (rWd G A H0) Q 0 0 s [(0, .ref (G.2.2.1 0)), (1, .int v1)] 0 [] := by
  refine g_aload_n C.1 0 dX8_carries_0 rfl rfl ?_
  refine r_g44 C dX8_carries_1 ?_
  refine g_iload_n C.1 1 dX8_carries_4 rfl rfl ?_
  refine r_ld44 C hw.1 dX8_carries_5 ?_
  replace hw := hw.2
  refine g_lneg C.1 dX8_carries_6 ?_
  refine g_lstore_n (lv' := [(2, .long (-(s.2.2 44 v1.toNatClampNeg))), (0, .ref (G.2.2.1 0)), (1, .int v1)]) C.1 dX8_carries_7 rfl (by decide) rfl ?_
  refine g_iload_n C.1 2 dX8_carries_8 rfl rfl ?_
  refine g_istore (lv' := [(4, .int v1), (2, .long (-(s.2.2 44 v1.toNatClampNeg))), (0, .ref (G.2.2.1 0)), (1, .int v1)]) C.1 dX8_carries_9 (by decide) rfl ?_
  refine g_aload_n C.1 2 dX8_carries_11 rfl rfl ?_
  refine r_g46 C dX8_carries_12 ?_
  refine g_bipush (v := 40) C.1 dX8_carries_15 (by decide) ?_
  refine g_iload C.1 0 dX8_carries_17 rfl ?_
  refine g_iadd C.1 dX8_carries_19 ?_
  refine r_ld46 C hw.1 dX8_carries_20 ?_
  replace hw := hw.2
  refine g_istore (lv' := [(5, .int (s.2.1 46 (40 + v1).toNatClampNeg)), (4, .int v1), (2, .long (-(s.2.2 44 v1.toNatClampNeg))), (0, .ref (G.2.2.1 0)), (1, .int v1)]) C.1 dX8_carries_21 (by decide) rfl ?_
  refine gJ.sub [3, 4, 2, 0] rfl ?_
  exact wkR_carries_23 C hsz hR hret _ _ _ _ hw
theorem hdR_carries : yX8_carries.cls = RX8 ∧ yX8_carries.cls ≠ "java/lang/invoke/MethodHandle" ∧ yX8_carries.cls ≠ "java/lang/invoke/VarHandle" ∧ (parseMethodDescriptor yX8_carries.desc).map (fun d => d.parameters.length) = some 1 := by decide +kernel
theorem cR_carries (l : Launch) (G : rG) (s : RSt) (v1 : Int32) (post : Int64 → RSt → Prop) (hw : wpR_carries_0 post s v1) : rMl l yX8_carries cX8_carries 8 1 24 G s [.int v1] post := rMl_of (by decide +kernel) rfl (Nat.le_of_ble_eq_true rfl) (fun X A H0 Q hl hR hsz C hret => wkR_carries_0 C hsz hR hret s v1 hw)
def wpR_rule_154_F (post : Int32 → RSt → Prop) (K154 : RSt → Int32 → Int32 → Prop) (s : RSt) (v1 : Int32) (v2 : Int32) : Prop := vp_in 10 11 ∧ ((s.2.1 17 (10 : Int32).toNatClampNeg) ≤ v2 → vp_in 10 11 ∧ vp_in v1 11 ∧ ∀ s2 : RSt, s2 = rsA s 17 v1.toNatClampNeg (s.2.1 17 (10 : Int32).toNatClampNeg) → vp_in v1 10 ∧ ∀ s3 : RSt, s3 = rsA s2 18 v1.toNatClampNeg (vp_nar .boolean 1) → wpR_names_0 (fun r5 s4 => wpR_J6_bitCount_0f7a4_0 (fun r6 => post r6 s4) r5) s3 v1) ∧ (¬ (s.2.1 17 (10 : Int32).toNatClampNeg) ≤ v2 → vp_in (4000 + v2) 4400 ∧ vp_in ((400 * v1) + v2) 4400 ∧ ∀ s7 : RSt, s7 = rsA s 15 ((400 * v1) + v2).toNatClampNeg (s.2.1 15 (4000 + v2).toNatClampNeg) → vp_in (4000 + v2) 4400 ∧ vp_in ((400 * v1) + v2) 4400 ∧ ∀ s8 : RSt, s8 = rsA s7 16 ((400 * v1) + v2).toNatClampNeg (s7.2.1 16 (4000 + v2).toNatClampNeg) → K154 s8 v1 (v2 + 1))
def wpR_rule_154 (post : Int32 → RSt → Prop) (s : RSt) (v1 : Int32) (v2 : Int32) : Prop := gLP (fun (K : RSt × Int32 × Int32 → Prop) (x : RSt × Int32 × Int32) => wpR_rule_154_F post (fun s v1 v2 => K (s, v1, v2)) x.1 x.2.1 x.2.2) (s, v1, v2)
def wpR_rule_143 (post : Int32 → RSt → Prop) (s : RSt) (v1 : Int32) (w1 : Int32) : Prop := wpR_throwsIf_0 (fun r10 s9 => (r10 = 0 → wpR_rule_154 post s9 v1 0) ∧ (¬ r10 = 0 → post 0 s9)) s w1 3
def wpR_rule_112 (post : Int32 → RSt → Prop) (s : RSt) (v1 : Int32) (w1 : Int32) : Prop := wpR_throwsIf_0 (fun r13 s12 => (r13 = 0 → wpR_ring_0 (fun r16 s15 => ∀ s17 : RSt, s17 = rsI s15 20 r16 → ((s17.1 20) = 0 → wpR_rule_143 post s17 v1 0) ∧ (¬ (s17.1 20) = 0 → wpR_rule_143 post s17 v1 1)) s12 v1) ∧ (¬ r13 = 0 → post 0 s12)) s w1 2
def wpR_rule_86 (post : Int32 → RSt → Prop) (s : RSt) (v1 : Int32) : Prop := ∀ s19 : RSt, s19 = rsI s 19 (s.1 37) → ∀ s20 : RSt, s20 = rsI s19 20 0 → ((s20.1 37) < 0 → wpR_rule_112 post s20 v1 0) ∧ (¬ (s20.1 37) < 0 → wpR_rule_112 post s20 v1 1)
def wpR_rule_0 (post : Int32 → RSt → Prop) (s : RSt) (v1 : Int32) : Prop := ∀ s22 : RSt, s22 = rsI s 0 0 → ∀ s23 : RSt, s23 = rsI s22 32 (s22.1 2) → ∀ s24 : RSt, s24 = rsI s23 2 0 → wpR_noSlope_0 (fun r26 s25 => wpR_throwsIf_0 (fun r28 s27 => (r28 = 0 → ∀ s30 : RSt, s30 = rsI s27 31 0 → ∀ s31 : RSt, s31 = rsI s30 36 0 → ∀ s32 : RSt, s32 = rsI s31 37 (-1) → vp_in 10 11 ∧ ∀ s33 : RSt, s33 = rsA s32 17 (10 : Int32).toNatClampNeg 0 → wpR_next_0 (fun s34 => wpR_eitherD_0 (fun s35 => (0 ≤ (s35.1 37) → wpR_rule_86 post s35 v1) ∧ (¬ 0 ≤ (s35.1 37) → ((s35.1 33) = 0 → wpR_rule_86 post s35 v1) ∧ (¬ (s35.1 33) = 0 → wpR_fail_0 (fun s38 => wpR_rule_86 post s38 v1) s35 (s35.1 34)))) s34) s33) ∧ (¬ r28 = 0 → post 0 s27)) s25 r26 1) s24 v1
theorem wkR_rule_154_F {X : gT} {G : rG} {A : Nat → Prop} {H0 : Heap} {Q : State → Prop} (C : rC X cX8_rule 3 G A) (hsz : H0 = (g_s X).heap) (hR : 73 ≤ (g_R X).frames ∧ 1494 ≤ (g_R X).locals) {post : Int32 → RSt → Prop} (hret : ∀ (r : Int32) (τ : RSt) (lv : List (Nat × Value)) (pc : Nat), post r τ → narrow .int (.int r) = .int r → decode cX8_rule pc = .ok (.ireturn, 1) → gJ X (rWd G A H0) Q 0 0 τ lv pc [.int r]) {K154 : RSt → Int32 → Int32 → Prop} (hK154 : ∀ (s : RSt) (v1 : Int32) (v2 : Int32), K154 s v1 v2 → gJ X (rWd G A H0) Q 0 0 s [(0, .ref (G.2.2.1 0)), (1, .int v1), (2, .int v2)] 154 []) (s : RSt) (v1 : Int32) (v2 : Int32) (hw : wpR_rule_154_F post K154 s v1 v2) : gJ X (rWd G A H0) Q 0 0 s [(0, .ref (G.2.2.1 0)), (1, .int v1), (2, .int v2)] 154 [] := by
  refine g_iload_n C.1 2 dX8_rule_154 rfl rfl ?_
  refine g_aload_n C.1 0 dX8_rule_155 rfl rfl ?_
  refine r_g17 C dX8_rule_156 ?_
  refine g_bipush (v := 10) C.1 dX8_rule_159 (by decide) ?_
  refine r_ld17 C hw.1 dX8_rule_161 ?_
  replace hw := hw.2
  refine g_icmp_ge (tgt := 215) C.1 dX8_rule_162 (by decide) (fun h1 => ?_) (fun h1 => ?_)
  · replace hw := hw.1 h1
    refine g_aload_n C.1 0 dX8_rule_215 rfl rfl ?_
    refine r_g17 C dX8_rule_216 ?_
    refine g_iload_n C.1 1 dX8_rule_219 rfl rfl ?_
    refine g_aload_n C.1 0 dX8_rule_220 rfl rfl ?_
    refine r_g17 C dX8_rule_221 ?_
    refine g_bipush (v := 10) C.1 dX8_rule_224 (by decide) ?_
    refine r_ld17 C hw.1 dX8_rule_226 ?_
    replace hw := hw.2
    refine r_st17 C hw.1 dX8_rule_227 ?_
    replace hw := hw.2
    refine gJ.nm (fun s2 es2 => ?_)
    replace hw := hw s2 es2
    refine g_aload_n C.1 0 dX8_rule_228 rfl rfl ?_
    refine r_g18 C dX8_rule_229 ?_
    refine g_iload_n C.1 1 dX8_rule_232 rfl rfl ?_
    refine g_iconst (v := 1) C.1 dX8_rule_233 (by decide) ?_
    refine r_st18 C hw.1 dX8_rule_234 ?_
    replace hw := hw.2
    refine gJ.nm (fun s3 es3 => ?_)
    replace hw := hw s3 es3
    refine g_aload_n C.1 0 dX8_rule_235 rfl rfl ?_
    refine g_iload_n C.1 1 dX8_rule_236 rfl rfl ?_
    refine r_calli C hsz (cR_names (g_l X) G s3 _ _ hw) kR_175 kR_176 kR_177 kR_174 hdR_names ⟨Nat.le_trans (Nat.le_of_ble_eq_true rfl) hR.1, Nat.le_trans (Nat.le_of_ble_eq_true rfl) hR.2⟩ dX8_rule_237 rfl (Nat.le_of_ble_eq_true rfl) (fun r5 s4 hw => ?_)
    refine g_callSi (rC.s C) (cR_J6_bitCount_0f7a4 (g_l X) _ _ hw) kR_183 kR_184 kR_186 hdR_J6_bitCount_0f7a4 ⟨Nat.le_trans (Nat.le_of_ble_eq_true rfl) hR.1, Nat.le_trans (Nat.le_of_ble_eq_true rfl) hR.2⟩ dX8_rule_240 rfl (Nat.le_of_ble_eq_true rfl) (fun r6 hw => ?_)
    exact hret _ _ _ _ hw rfl dX8_rule_243
  · replace hw := hw.2 h1
    refine g_aload_n C.1 0 dX8_rule_165 rfl rfl ?_
    refine r_g15 C dX8_rule_166 ?_
    refine g_sipush (v := 400) C.1 dX8_rule_169 (by decide) ?_
    refine g_iload_n C.1 1 dX8_rule_172 rfl rfl ?_
    refine g_imul C.1 dX8_rule_173 ?_
    refine g_iload_n C.1 2 dX8_rule_174 rfl rfl ?_
    refine g_iadd C.1 dX8_rule_175 ?_
    refine g_aload_n C.1 0 dX8_rule_176 rfl rfl ?_
    refine r_g15 C dX8_rule_177 ?_
    refine g_sipush (v := 4000) C.1 dX8_rule_180 (by decide) ?_
    refine g_iload_n C.1 2 dX8_rule_183 rfl rfl ?_
    refine g_iadd C.1 dX8_rule_184 ?_
    refine r_ld15 C hw.1 dX8_rule_185 ?_
    replace hw := hw.2
    refine r_st15 C hw.1 dX8_rule_186 ?_
    replace hw := hw.2
    refine gJ.nm (fun s7 es7 => ?_)
    replace hw := hw s7 es7
    refine g_aload_n C.1 0 dX8_rule_187 rfl rfl ?_
    refine r_g16 C dX8_rule_188 ?_
    refine g_sipush (v := 400) C.1 dX8_rule_191 (by decide) ?_
    refine g_iload_n C.1 1 dX8_rule_194 rfl rfl ?_
    refine g_imul C.1 dX8_rule_195 ?_
    refine g_iload_n C.1 2 dX8_rule_196 rfl rfl ?_
    refine g_iadd C.1 dX8_rule_197 ?_
    refine g_aload_n C.1 0 dX8_rule_198 rfl rfl ?_
    refine r_g16 C dX8_rule_199 ?_
    refine g_sipush (v := 4000) C.1 dX8_rule_202 (by decide) ?_
    refine g_iload_n C.1 2 dX8_rule_205 rfl rfl ?_
    refine g_iadd C.1 dX8_rule_206 ?_
    refine r_ld16 C hw.1 dX8_rule_207 ?_
    replace hw := hw.2
    refine r_st16 C hw.1 dX8_rule_208 ?_
    replace hw := hw.2
    refine gJ.nm (fun s8 es8 => ?_)
    replace hw := hw s8 es8
    refine g_iinc (v := v2 + 1) (lv' := [(2, .int (v2 + 1)), (0, .ref (G.2.2.1 0)), (1, .int v1)]) C.1 2 dX8_rule_209 rfl rfl (by decide) rfl ?_
    refine g_goto (tgt := 154) C.1 dX8_rule_212 (by decide) ?_
    refine gJ.sub [1, 2, 0] rfl ?_
    exact hK154 _ _ _ hw
theorem wkR_rule_154 {X : gT} {G : rG} {A : Nat → Prop} {H0 : Heap} {Q : State → Prop} (C : rC X cX8_rule 3 G A) (hsz : H0 = (g_s X).heap) (hR : 73 ≤ (g_R X).frames ∧ 1494 ≤ (g_R X).locals) {post : Int32 → RSt → Prop} (hret : ∀ (r : Int32) (τ : RSt) (lv : List (Nat × Value)) (pc : Nat), post r τ → narrow .int (.int r) = .int r → decode cX8_rule pc = .ok (.ireturn, 1) → gJ X (rWd G A H0) Q 0 0 τ lv pc [.int r]) (s : RSt) (v1 : Int32) (v2 : Int32) (hw : wpR_rule_154 post s v1 v2) : gJ X (rWd G A H0) Q 0 0 s [(0, .ref (G.2.2.1 0)), (1, .int v1), (2, .int v2)] 154 [] := 
  hw (fun (x : RSt × Int32 × Int32) => (fun s v1 v2 => gJ X (rWd G A H0) Q 0 0 s [(0, .ref (G.2.2.1 0)), (1, .int v1), (2, .int v2)] 154 []) x.1 x.2.1 x.2.2) (fun x hx => wkR_rule_154_F C hsz hR hret (K154 := (fun s v1 v2 => gJ X (rWd G A H0) Q 0 0 s [(0, .ref (G.2.2.1 0)), (1, .int v1), (2, .int v2)] 154 [])) (fun _ _ _ h => h) x.1 x.2.1 x.2.2 hx)
theorem wkR_rule_143 {X : gT} {G : rG} {A : Nat → Prop} {H0 : Heap} {Q : State → Prop} (C : rC X cX8_rule 3 G A) (hsz : H0 = (g_s X).heap) (hR : 73 ≤ (g_R X).frames ∧ 1494 ≤ (g_R X).locals) {post : Int32 → RSt → Prop} (hret : ∀ (r : Int32) (τ : RSt) (lv : List (Nat × Value)) (pc : Nat), post r τ → narrow .int (.int r) = .int r → decode cX8_rule pc = .ok (.ireturn, 1) → gJ X (rWd G A H0) Q 0 0 τ lv pc [.int r]) (s : RSt) (v1 : Int32) (w1 : Int32) (hw : wpR_rule_143 post s v1 w1) : gJ X (rWd G A H0) Q 0 0 s [(0, .ref (G.2.2.1 0)), (1, .int v1)] 143 [.int w1, .ref (G.2.2.1 0)] := by
  refine g_iconst (v := 3) C.1 dX8_rule_143 (by decide) ?_
  refine r_calli C hsz (cR_throwsIf (g_l X) G s _ _ _ hw) kR_65 kR_66 kR_67 kR_42 hdR_throwsIf ⟨Nat.le_trans (Nat.le_of_ble_eq_true rfl) hR.1, Nat.le_trans (Nat.le_of_ble_eq_true rfl) hR.2⟩ dX8_rule_144 rfl (Nat.le_of_ble_eq_true rfl) (fun r10 s9 hw => ?_)
  refine g_if_eq (tgt := 152) C.1 dX8_rule_147 (by decide) (fun h11 => ?_) (fun h11 => ?_)
  · replace hw := hw.1 h11
    refine g_iconst (v := 0) C.1 dX8_rule_152 (by decide) ?_
    refine g_istore_n (lv' := [(2, .int 0), (0, .ref (G.2.2.1 0)), (1, .int v1)]) C.1 dX8_rule_153 rfl (by decide) rfl ?_
    refine gJ.sub [1, 2, 0] rfl ?_
    exact wkR_rule_154 C hsz hR hret _ _ _ hw
  · replace hw := hw.2 h11
    refine g_iconst (v := 0) C.1 dX8_rule_150 (by decide) ?_
    exact hret _ _ _ _ hw rfl dX8_rule_151
theorem wkR_rule_112 {X : gT} {G : rG} {A : Nat → Prop} {H0 : Heap} {Q : State → Prop} (C : rC X cX8_rule 3 G A) (hsz : H0 = (g_s X).heap) (hR : 73 ≤ (g_R X).frames ∧ 1494 ≤ (g_R X).locals) {post : Int32 → RSt → Prop} (hret : ∀ (r : Int32) (τ : RSt) (lv : List (Nat × Value)) (pc : Nat), post r τ → narrow .int (.int r) = .int r → decode cX8_rule pc = .ok (.ireturn, 1) → gJ X (rWd G A H0) Q 0 0 τ lv pc [.int r]) (s : RSt) (v1 : Int32) (w1 : Int32) (hw : wpR_rule_112 post s v1 w1) : gJ X (rWd G A H0) Q 0 0 s [(0, .ref (G.2.2.1 0)), (1, .int v1)] 112 [.int w1, .ref (G.2.2.1 0)] := by
  refine g_iconst (v := 2) C.1 dX8_rule_112 (by decide) ?_
  refine r_calli C hsz (cR_throwsIf (g_l X) G s _ _ _ hw) kR_65 kR_66 kR_67 kR_42 hdR_throwsIf ⟨Nat.le_trans (Nat.le_of_ble_eq_true rfl) hR.1, Nat.le_trans (Nat.le_of_ble_eq_true rfl) hR.2⟩ dX8_rule_113 rfl (Nat.le_of_ble_eq_true rfl) (fun r13 s12 hw => ?_)
  refine g_if_eq (tgt := 121) C.1 dX8_rule_116 (by decide) (fun h14 => ?_) (fun h14 => ?_)
  · replace hw := hw.1 h14
    refine g_aload_n C.1 0 dX8_rule_121 rfl rfl ?_
    refine g_aload_n C.1 0 dX8_rule_122 rfl rfl ?_
    refine g_iload_n C.1 1 dX8_rule_123 rfl rfl ?_
    refine r_calli C hsz (cR_ring (g_l X) G s12 _ _ hw) kR_180 kR_181 kR_182 kR_178 hdR_ring ⟨Nat.le_trans (Nat.le_of_ble_eq_true rfl) hR.1, Nat.le_trans (Nat.le_of_ble_eq_true rfl) hR.2⟩ dX8_rule_124 rfl (Nat.le_of_ble_eq_true rfl) (fun r16 s15 hw => ?_)
    refine r_p20 C dX8_rule_127 ?_
    refine gJ.nm (fun s17 es17 => ?_)
    replace hw := hw s17 es17
    refine g_aload_n C.1 0 dX8_rule_130 rfl rfl ?_
    refine g_aload_n C.1 0 dX8_rule_131 rfl rfl ?_
    refine r_g20 C dX8_rule_132 ?_
    refine g_if_eq (tgt := 142) C.1 dX8_rule_135 (by decide) (fun h18 => ?_) (fun h18 => ?_)
    · replace hw := hw.1 h18
      refine g_iconst (v := 0) C.1 dX8_rule_142 (by decide) ?_
      exact wkR_rule_143 C hsz hR hret _ _ _ hw
    · replace hw := hw.2 h18
      refine g_iconst (v := 1) C.1 dX8_rule_138 (by decide) ?_
      refine g_goto (tgt := 143) C.1 dX8_rule_139 (by decide) ?_
      exact wkR_rule_143 C hsz hR hret _ _ _ hw
  · replace hw := hw.2 h14
    refine g_iconst (v := 0) C.1 dX8_rule_119 (by decide) ?_
    exact hret _ _ _ _ hw rfl dX8_rule_120
theorem wkR_rule_86 {X : gT} {G : rG} {A : Nat → Prop} {H0 : Heap} {Q : State → Prop} (C : rC X cX8_rule 3 G A) (hsz : H0 = (g_s X).heap) (hR : 73 ≤ (g_R X).frames ∧ 1494 ≤ (g_R X).locals) {post : Int32 → RSt → Prop} (hret : ∀ (r : Int32) (τ : RSt) (lv : List (Nat × Value)) (pc : Nat), post r τ → narrow .int (.int r) = .int r → decode cX8_rule pc = .ok (.ireturn, 1) → gJ X (rWd G A H0) Q 0 0 τ lv pc [.int r]) (s : RSt) (v1 : Int32) (hw : wpR_rule_86 post s v1) : gJ X (rWd G A H0) Q 0 0 s [(0, .ref (G.2.2.1 0)), (1, .int v1)] 86 [] := by
  refine g_aload_n C.1 0 dX8_rule_86 rfl rfl ?_
  refine g_aload_n C.1 0 dX8_rule_87 rfl rfl ?_
  refine r_g37 C dX8_rule_88 ?_
  refine r_p19 C dX8_rule_91 ?_
  refine gJ.nm (fun s19 es19 => ?_)
  replace hw := hw s19 es19
  refine g_aload_n C.1 0 dX8_rule_94 rfl rfl ?_
  refine g_iconst (v := 0) C.1 dX8_rule_95 (by decide) ?_
  refine r_p20 C dX8_rule_96 ?_
  refine gJ.nm (fun s20 es20 => ?_)
  replace hw := hw s20 es20
  refine g_aload_n C.1 0 dX8_rule_99 rfl rfl ?_
  refine g_aload_n C.1 0 dX8_rule_100 rfl rfl ?_
  refine r_g37 C dX8_rule_101 ?_
  refine g_if_lt (tgt := 111) C.1 dX8_rule_104 (by decide) (fun h21 => ?_) (fun h21 => ?_)
  · replace hw := hw.1 h21
    refine g_iconst (v := 0) C.1 dX8_rule_111 (by decide) ?_
    exact wkR_rule_112 C hsz hR hret _ _ _ hw
  · replace hw := hw.2 h21
    refine g_iconst (v := 1) C.1 dX8_rule_107 (by decide) ?_
    refine g_goto (tgt := 112) C.1 dX8_rule_108 (by decide) ?_
    exact wkR_rule_112 C hsz hR hret _ _ _ hw
theorem wkR_rule_0 {X : gT} {G : rG} {A : Nat → Prop} {H0 : Heap} {Q : State → Prop} (C : rC X cX8_rule 3 G A) (hsz : H0 = (g_s X).heap) (hR : 73 ≤ (g_R X).frames ∧ 1494 ≤ (g_R X).locals) {post : Int32 → RSt → Prop} (hret : ∀ (r : Int32) (τ : RSt) (lv : List (Nat × Value)) (pc : Nat), post r τ → narrow .int (.int r) = .int r → decode cX8_rule pc = .ok (.ireturn, 1) → gJ X (rWd G A H0) Q 0 0 τ lv pc [.int r]) (s : RSt) (v1 : Int32) (hw : wpR_rule_0 post s v1) : gJ X (rWd G A H0) Q 0 0 s [(0, .ref (G.2.2.1 0)), (1, .int v1)] 0 [] := by
  refine g_aload_n C.1 0 dX8_rule_0 rfl rfl ?_
  refine g_iconst (v := 0) C.1 dX8_rule_1 (by decide) ?_
  refine r_p0 C dX8_rule_2 ?_
  refine gJ.nm (fun s22 es22 => ?_)
  replace hw := hw s22 es22
  refine g_aload_n C.1 0 dX8_rule_5 rfl rfl ?_
  refine g_aload_n C.1 0 dX8_rule_6 rfl rfl ?_
  refine r_g2 C dX8_rule_7 ?_
  refine r_p32 C dX8_rule_10 ?_
  refine gJ.nm (fun s23 es23 => ?_)
  replace hw := hw s23 es23
  refine g_aload_n C.1 0 dX8_rule_13 rfl rfl ?_
  refine g_iconst (v := 0) C.1 dX8_rule_14 (by decide) ?_
  refine r_p2 C dX8_rule_15 ?_
  refine gJ.nm (fun s24 es24 => ?_)
  replace hw := hw s24 es24
  refine g_aload_n C.1 0 dX8_rule_18 rfl rfl ?_
  refine g_aload_n C.1 0 dX8_rule_19 rfl rfl ?_
  refine g_iload_n C.1 1 dX8_rule_20 rfl rfl ?_
  refine r_calli C hsz (cR_noSlope (g_l X) G s24 _ _ hw) kR_145 kR_146 kR_147 kR_50 hdR_noSlope ⟨Nat.le_trans (Nat.le_of_ble_eq_true rfl) hR.1, Nat.le_trans (Nat.le_of_ble_eq_true rfl) hR.2⟩ dX8_rule_21 rfl (Nat.le_of_ble_eq_true rfl) (fun r26 s25 hw => ?_)
  refine g_iconst (v := 1) C.1 dX8_rule_24 (by decide) ?_
  refine r_calli C hsz (cR_throwsIf (g_l X) G s25 _ _ _ hw) kR_65 kR_66 kR_67 kR_42 hdR_throwsIf ⟨Nat.le_trans (Nat.le_of_ble_eq_true rfl) hR.1, Nat.le_trans (Nat.le_of_ble_eq_true rfl) hR.2⟩ dX8_rule_25 rfl (Nat.le_of_ble_eq_true rfl) (fun r28 s27 hw => ?_)
  refine g_if_eq (tgt := 33) C.1 dX8_rule_28 (by decide) (fun h29 => ?_) (fun h29 => ?_)
  · replace hw := hw.1 h29
    refine g_aload_n C.1 0 dX8_rule_33 rfl rfl ?_
    refine g_iconst (v := 0) C.1 dX8_rule_34 (by decide) ?_
    refine r_p31 C dX8_rule_35 ?_
    refine gJ.nm (fun s30 es30 => ?_)
    replace hw := hw s30 es30
    refine g_aload_n C.1 0 dX8_rule_38 rfl rfl ?_
    refine g_iconst (v := 0) C.1 dX8_rule_39 (by decide) ?_
    refine r_p36 C dX8_rule_40 ?_
    refine gJ.nm (fun s31 es31 => ?_)
    replace hw := hw s31 es31
    refine g_aload_n C.1 0 dX8_rule_43 rfl rfl ?_
    refine g_iconst (v := (-1)) C.1 dX8_rule_44 (by decide) ?_
    refine r_p37 C dX8_rule_45 ?_
    refine gJ.nm (fun s32 es32 => ?_)
    replace hw := hw s32 es32
    refine g_aload_n C.1 0 dX8_rule_48 rfl rfl ?_
    refine r_g17 C dX8_rule_49 ?_
    refine g_bipush (v := 10) C.1 dX8_rule_52 (by decide) ?_
    refine g_iconst (v := 0) C.1 dX8_rule_54 (by decide) ?_
    refine r_st17 C hw.1 dX8_rule_55 ?_
    replace hw := hw.2
    refine gJ.nm (fun s33 es33 => ?_)
    replace hw := hw s33 es33
    refine g_aload_n C.1 0 dX8_rule_56 rfl rfl ?_
    refine r_callv C hsz (cR_next (g_l X) G s33 _ hw) kR_142 kR_143 kR_144 kR_139 hdR_next ⟨Nat.le_trans (Nat.le_of_ble_eq_true rfl) hR.1, Nat.le_trans (Nat.le_of_ble_eq_true rfl) hR.2⟩ dX8_rule_57 rfl (Nat.le_of_ble_eq_true rfl) (fun s34 hw => ?_)
    refine g_aload_n C.1 0 dX8_rule_60 rfl rfl ?_
    refine r_callv C hsz (cR_eitherD (g_l X) G s34 _ hw) kR_167 kR_168 kR_169 kR_161 hdR_either ⟨Nat.le_trans (Nat.le_of_ble_eq_true rfl) hR.1, Nat.le_trans (Nat.le_of_ble_eq_true rfl) hR.2⟩ dX8_rule_61 rfl (Nat.le_of_ble_eq_true rfl) (fun s35 hw => ?_)
    refine g_aload_n C.1 0 dX8_rule_64 rfl rfl ?_
    refine r_g37 C dX8_rule_65 ?_
    refine g_if_ge (tgt := 86) C.1 dX8_rule_68 (by decide) (fun h36 => ?_) (fun h36 => ?_)
    · replace hw := hw.1 h36
      exact wkR_rule_86 C hsz hR hret _ _ hw
    · replace hw := hw.2 h36
      refine g_aload_n C.1 0 dX8_rule_71 rfl rfl ?_
      refine r_g33 C dX8_rule_72 ?_
      refine g_if_eq (tgt := 86) C.1 dX8_rule_75 (by decide) (fun h37 => ?_) (fun h37 => ?_)
      · replace hw := hw.1 h37
        exact wkR_rule_86 C hsz hR hret _ _ hw
      · replace hw := hw.2 h37
        refine g_aload_n C.1 0 dX8_rule_78 rfl rfl ?_
        refine g_aload_n C.1 0 dX8_rule_79 rfl rfl ?_
        refine r_g34 C dX8_rule_80 ?_
        refine r_callv C hsz (cR_fail (g_l X) G s35 _ _ hw) kR_136 kR_137 kR_138 kR_75 hdR_fail ⟨Nat.le_trans (Nat.le_of_ble_eq_true rfl) hR.1, Nat.le_trans (Nat.le_of_ble_eq_true rfl) hR.2⟩ dX8_rule_83 rfl (Nat.le_of_ble_eq_true rfl) (fun s38 hw => ?_)
        exact wkR_rule_86 C hsz hR hret _ _ hw
  · replace hw := hw.2 h29
    refine g_iconst (v := 0) C.1 dX8_rule_31 (by decide) ?_
    exact hret _ _ _ _ hw rfl dX8_rule_32
theorem hdR_rule : yX8_rule.cls = RX8 ∧ yX8_rule.cls ≠ "java/lang/invoke/MethodHandle" ∧ yX8_rule.cls ≠ "java/lang/invoke/VarHandle" ∧ (parseMethodDescriptor yX8_rule.desc).map (fun d => d.parameters.length) = some 1 := by decide +kernel
theorem cR_rule (l : Launch) (G : rG) (s : RSt) (v1 : Int32) (post : Int32 → RSt → Prop) (hw : wpR_rule_0 post s v1) : rMi l yX8_rule cX8_rule 3 .int 73 1494 G s [.int v1] post := rMi_of (by decide +kernel) rfl (Nat.le_of_ble_eq_true rfl) (fun X A H0 Q hl hR hsz C hret => wkR_rule_0 C hsz hR hret s v1 hw)
