def wpC_X7_openSlopes_121 (post : Int32 → CSt → Prop) (K19 : CSt → Nat → Int32 → Int32 → Int32 → Int32 → Prop) (K39 : CSt → Nat → Int32 → Int32 → Int32 → Int32 → Int32 → Prop) (s : CSt) (v0 : Nat) (v1 : Int32) (v2 : Int32) (v3 : Int32) (v4 : Int32) (v5 : Int32) : Prop := K39 s v0 v1 v2 v3 v4 (v5 + 1)
def wpC_X7_openSlopes_114 (post : Int32 → CSt → Prop) (K19 : CSt → Nat → Int32 → Int32 → Int32 → Int32 → Prop) (K39 : CSt → Nat → Int32 → Int32 → Int32 → Int32 → Int32 → Prop) (s : CSt) (v0 : Nat) (v1 : Int32) (v2 : Int32) (v3 : Int32) (v4 : Int32) (v5 : Int32) : Prop := wpC_X7_openSlopes_121 post K19 K39 s v0 v1 v2 (v3 ||| (1 <<< (v5 &&& 31))) v4 v5
def wpC_X7_openSlopes_39_F (post : Int32 → CSt → Prop) (K19 : CSt → Nat → Int32 → Int32 → Int32 → Int32 → Prop) (K39 : CSt → Nat → Int32 → Int32 → Int32 → Int32 → Int32 → Prop) (s : CSt) (v0 : Nat) (v1 : Int32) (v2 : Int32) (v3 : Int32) (v4 : Int32) (v5 : Int32) : Prop := cAt s 7 v0 ∧ ∃ a1 : Nat, cR s 113 v0 = some a1 ∧ cAt s 0 a1 ∧ wpC_Jx4a65c_size_8abf5_0 (fun r3 s2 => (r3 ≤ v5 → K19 s2 v0 v1 v2 v3 (v4 + 1)) ∧ (¬ r3 ≤ v5 → cAt s2 7 v0 ∧ ∃ a5 : Nat, cR s2 113 v0 = some a5 ∧ cAt s2 0 a5 ∧ wpC_Jx4a65c_get_915e3_0 (fun r7 s6 => ∃ a8 : Nat, r7 = some a8 ∧ cAt s6 6 a8 ∧ wpC_X7_hasBit_0 (fun r10 s9 => (¬ r10 = 0 → wpC_X7_openSlopes_121 post K19 K39 s9 v0 v1 v2 v3 v4 v5) ∧ (r10 = 0 → cAt s9 6 a8 ∧ (((cI s9 103 a8) &&& (v2 ^^^ (-1))) = 0 → cAt s9 6 a8 ∧ ((cI s9 102 a8) = 0 → wpC_X7_openSlopes_114 post K19 K39 s9 v0 v1 (v2 ||| (1 <<< (v5 &&& 31))) v3 v4 v5) ∧ (¬ (cI s9 102 a8) = 0 → cAt s9 7 v0 ∧ wpC_X7_holds_0 (fun r15 s14 => (r15 = 0 → wpC_X7_openSlopes_121 post K19 K39 s14 v0 v1 (v2 ||| (1 <<< (v5 &&& 31))) v3 v4 v5) ∧ (¬ r15 = 0 → wpC_X7_openSlopes_114 post K19 K39 s14 v0 v1 (v2 ||| (1 <<< (v5 &&& 31))) v3 v4 v5)) s9 v0 a8 v3)) ∧ (¬ ((cI s9 103 a8) &&& (v2 ^^^ (-1))) = 0 → wpC_X7_openSlopes_121 post K19 K39 s9 v0 v1 v2 v3 v4 v5))) s6 v2 v5) s2 a5 v5)) s a1
def wpC_X7_openSlopes_39 (post : Int32 → CSt → Prop) (K19 : CSt → Nat → Int32 → Int32 → Int32 → Int32 → Prop) (s : CSt) (v0 : Nat) (v1 : Int32) (v2 : Int32) (v3 : Int32) (v4 : Int32) (v5 : Int32) : Prop := gLP (fun (K : CSt × Nat × Int32 × Int32 × Int32 × Int32 × Int32 → Prop) (x : CSt × Nat × Int32 × Int32 × Int32 × Int32 × Int32) => wpC_X7_openSlopes_39_F post K19 (fun s v0 v1 v2 v3 v4 v5 => K (s, v0, v1, v2, v3, v4, v5)) x.1 x.2.1 x.2.2.1 x.2.2.2.1 x.2.2.2.2.1 x.2.2.2.2.2.1 x.2.2.2.2.2.2) (s, v0, v1, v2, v3, v4, v5)
def wpC_X7_openSlopes_19_F (post : Int32 → CSt → Prop) (K19 : CSt → Nat → Int32 → Int32 → Int32 → Int32 → Prop) (s : CSt) (v0 : Nat) (v1 : Int32) (v2 : Int32) (v3 : Int32) (v4 : Int32) : Prop := cAt s 7 v0 ∧ ∃ a17 : Nat, cR s 113 v0 = some a17 ∧ cAt s 0 a17 ∧ wpC_Jx4a65c_size_8abf5_0 (fun r19 s18 => (r19 ≤ v4 → post v3 s18) ∧ (¬ r19 ≤ v4 → (v2 = v1 → post v3 s18) ∧ (¬ v2 = v1 → wpC_X7_openSlopes_39 post K19 s18 v0 v1 v2 v3 v4 0))) s a17
def wpC_X7_openSlopes_19 (post : Int32 → CSt → Prop) (s : CSt) (v0 : Nat) (v1 : Int32) (v2 : Int32) (v3 : Int32) (v4 : Int32) : Prop := gLP (fun (K : CSt × Nat × Int32 × Int32 × Int32 × Int32 → Prop) (x : CSt × Nat × Int32 × Int32 × Int32 × Int32) => wpC_X7_openSlopes_19_F post (fun s v0 v1 v2 v3 v4 => K (s, v0, v1, v2, v3, v4)) x.1 x.2.1 x.2.2.1 x.2.2.2.1 x.2.2.2.2.1 x.2.2.2.2.2) (s, v0, v1, v2, v3, v4)
def wpC_X7_openSlopes_0 (post : Int32 → CSt → Prop) (s : CSt) (v0 : Nat) : Prop := cAt s 7 v0 ∧ ∃ a22 : Nat, cR s 113 v0 = some a22 ∧ cAt s 0 a22 ∧ wpC_Jx4a65c_size_8abf5_0 (fun r24 s23 => wpC_X7_openSlopes_19 post s23 v0 ((1 <<< (r24 &&& 31)) - 1) 0 0 0) s a22
theorem wkC_X7_openSlopes_121 {X : gT} {G : cG} {A : Nat → Prop} {H0 : Heap} {Q : State → Prop} (C : cC X cX7_openSlopes 7 RX7 G A) (hsz : H0 = (g_s X).heap) (hR : 6 ≤ (g_R X).frames ∧ 140 ≤ (g_R X).locals ∧ 0 ≤ (g_R X).cells ∧ 0 ≤ (g_R X).slots) {post : Int32 → CSt → Prop} (hret : ∀ (r : Int32) (τ : CSt) (lv : List (Nat × Value)) (pc : Nat), post r τ → narrow .int (.int r) = .int r → decode cX7_openSlopes pc = .ok (.ireturn, 1) → gJ X (cWd G A H0) Q 0 0 τ lv pc [.int r]) {K19 : CSt → Nat → Int32 → Int32 → Int32 → Int32 → Prop} {K39 : CSt → Nat → Int32 → Int32 → Int32 → Int32 → Int32 → Prop} (hK19 : ∀ (s : CSt) (v0 : Nat) (v1 : Int32) (v2 : Int32) (v3 : Int32) (v4 : Int32), K19 s v0 v1 v2 v3 v4 → gJ X (cWd G A H0) Q 0 0 s [(0, .ref v0), (1, .int v1), (2, .int v2), (3, .int v3), (4, .int v4)] 19 []) (hK39 : ∀ (s : CSt) (v0 : Nat) (v1 : Int32) (v2 : Int32) (v3 : Int32) (v4 : Int32) (v5 : Int32), K39 s v0 v1 v2 v3 v4 v5 → gJ X (cWd G A H0) Q 0 0 s [(0, .ref v0), (1, .int v1), (2, .int v2), (3, .int v3), (4, .int v4), (5, .int v5)] 39 []) (s : CSt) (v0 : Nat) (v1 : Int32) (v2 : Int32) (v3 : Int32) (v4 : Int32) (v5 : Int32) (hw : wpC_X7_openSlopes_121 post K19 K39 s v0 v1 v2 v3 v4 v5) : gJ X (cWd G A H0) Q 0 0 s [(0, .ref v0), (1, .int v1), (2, .int v2), (3, .int v3), (4, .int v4), (5, .int v5)] 121 [] := by
  refine g_iinc (v := v5 + 1) (lv' := [(5, .int (v5 + 1)), (0, .ref v0), (1, .int v1), (2, .int v2), (3, .int v3), (4, .int v4)]) C.1 5 dX7_openSlopes_121 rfl rfl (by decide) rfl ?_
  refine g_goto (tgt := 39) C.1 dX7_openSlopes_124 (by decide) ?_
  refine gJ.sub [1, 2, 3, 4, 5, 0] rfl ?_
  exact hK39 _ _ _ _ _ _ _ hw
theorem wkC_X7_openSlopes_114 {X : gT} {G : cG} {A : Nat → Prop} {H0 : Heap} {Q : State → Prop} (C : cC X cX7_openSlopes 7 RX7 G A) (hsz : H0 = (g_s X).heap) (hR : 6 ≤ (g_R X).frames ∧ 140 ≤ (g_R X).locals ∧ 0 ≤ (g_R X).cells ∧ 0 ≤ (g_R X).slots) {post : Int32 → CSt → Prop} (hret : ∀ (r : Int32) (τ : CSt) (lv : List (Nat × Value)) (pc : Nat), post r τ → narrow .int (.int r) = .int r → decode cX7_openSlopes pc = .ok (.ireturn, 1) → gJ X (cWd G A H0) Q 0 0 τ lv pc [.int r]) {K19 : CSt → Nat → Int32 → Int32 → Int32 → Int32 → Prop} {K39 : CSt → Nat → Int32 → Int32 → Int32 → Int32 → Int32 → Prop} (hK19 : ∀ (s : CSt) (v0 : Nat) (v1 : Int32) (v2 : Int32) (v3 : Int32) (v4 : Int32), K19 s v0 v1 v2 v3 v4 → gJ X (cWd G A H0) Q 0 0 s [(0, .ref v0), (1, .int v1), (2, .int v2), (3, .int v3), (4, .int v4)] 19 []) (hK39 : ∀ (s : CSt) (v0 : Nat) (v1 : Int32) (v2 : Int32) (v3 : Int32) (v4 : Int32) (v5 : Int32), K39 s v0 v1 v2 v3 v4 v5 → gJ X (cWd G A H0) Q 0 0 s [(0, .ref v0), (1, .int v1), (2, .int v2), (3, .int v3), (4, .int v4), (5, .int v5)] 39 []) (s : CSt) (v0 : Nat) (v1 : Int32) (v2 : Int32) (v3 : Int32) (v4 : Int32) (v5 : Int32) (hw : wpC_X7_openSlopes_114 post K19 K39 s v0 v1 v2 v3 v4 v5) : gJ X (cWd G A H0) Q 0 0 s [(0, .ref v0), (1, .int v1), (2, .int v2), (3, .int v3), (4, .int v4), (5, .int v5)] 114 [] := by
  refine g_iload_n C.1 3 dX7_openSlopes_114 rfl rfl ?_
  refine g_iconst (v := 1) C.1 dX7_openSlopes_115 (by decide) ?_
  refine g_iload C.1 5 dX7_openSlopes_116 rfl ?_
  refine g_ishl C.1 dX7_openSlopes_118 ?_
  refine g_ior C.1 dX7_openSlopes_119 ?_
  refine g_istore_n (lv' := [(3, .int (v3 ||| (1 <<< (v5 &&& 31)))), (0, .ref v0), (1, .int v1), (2, .int v2), (4, .int v4), (5, .int v5)]) C.1 dX7_openSlopes_120 rfl (by decide) rfl ?_
  refine gJ.sub [1, 2, 3, 0, 4, 5] rfl ?_
  exact wkC_X7_openSlopes_121 C hsz hR hret hK19 hK39 _ _ _ _ _ _ _ hw
theorem wkC_X7_openSlopes_39_F {X : gT} {G : cG} {A : Nat → Prop} {H0 : Heap} {Q : State → Prop} (C : cC X cX7_openSlopes 7 RX7 G A) (hsz : H0 = (g_s X).heap) (hR : 6 ≤ (g_R X).frames ∧ 140 ≤ (g_R X).locals ∧ 0 ≤ (g_R X).cells ∧ 0 ≤ (g_R X).slots) {post : Int32 → CSt → Prop} (hret : ∀ (r : Int32) (τ : CSt) (lv : List (Nat × Value)) (pc : Nat), post r τ → narrow .int (.int r) = .int r → decode cX7_openSlopes pc = .ok (.ireturn, 1) → gJ X (cWd G A H0) Q 0 0 τ lv pc [.int r]) {K19 : CSt → Nat → Int32 → Int32 → Int32 → Int32 → Prop} {K39 : CSt → Nat → Int32 → Int32 → Int32 → Int32 → Int32 → Prop} (hK19 : ∀ (s : CSt) (v0 : Nat) (v1 : Int32) (v2 : Int32) (v3 : Int32) (v4 : Int32), K19 s v0 v1 v2 v3 v4 → gJ X (cWd G A H0) Q 0 0 s [(0, .ref v0), (1, .int v1), (2, .int v2), (3, .int v3), (4, .int v4)] 19 []) (hK39 : ∀ (s : CSt) (v0 : Nat) (v1 : Int32) (v2 : Int32) (v3 : Int32) (v4 : Int32) (v5 : Int32), K39 s v0 v1 v2 v3 v4 v5 → gJ X (cWd G A H0) Q 0 0 s [(0, .ref v0), (1, .int v1), (2, .int v2), (3, .int v3), (4, .int v4), (5, .int v5)] 39 []) (s : CSt) (v0 : Nat) (v1 : Int32) (v2 : Int32) (v3 : Int32) (v4 : Int32) (v5 : Int32) (hw : wpC_X7_openSlopes_39_F post K19 K39 s v0 v1 v2 v3 v4 v5) : gJ X (cWd G A H0) Q 0 0 s [(0, .ref v0), (1, .int v1), (2, .int v2), (3, .int v3), (4, .int v4), (5, .int v5)] 39 [] := by
  refine g_iload C.1 5 dX7_openSlopes_39 rfl ?_
  refine g_aload_n C.1 0 dX7_openSlopes_41 rfl rfl ?_
  refine c_get7 C hw.1 1 (by decide) kC_395 (fun _ h => h) rfl dX7_openSlopes_42 ?_
  replace hw := hw.2
  obtain ⟨a1, ha1, hw⟩ := hw
  rw [ha1]
  refine c_callVi (vs := []) C hsz (cC_Jx4a65c_size_8abf5 (g_l X) G s _ _ hw.2) kC_13 kC_431 kC_11 kC_12 kC_14 hdC_Jx4a65c_size_8abf5 (c_recv0 C hw.1) ⟨(Nat.le_trans (Nat.le_of_ble_eq_true rfl) hR.1), (Nat.le_trans (Nat.le_of_ble_eq_true rfl) hR.2.1)⟩ ⟨(Nat.le_trans (Nat.le_of_ble_eq_true rfl) hR.2.2.1), (Nat.le_trans (Nat.le_of_ble_eq_true rfl) hR.2.2.2)⟩ dX7_openSlopes_45 rfl (Nat.le_of_ble_eq_true rfl) (fun r3 s2 hw => ?_)
  refine g_icmp_ge (tgt := 127) C.1 dX7_openSlopes_48 (by decide) (fun h4 => ?_) (fun h4 => ?_)
  · replace hw := hw.1 h4
    refine g_iinc (v := v4 + 1) (lv' := [(4, .int (v4 + 1)), (0, .ref v0), (1, .int v1), (2, .int v2), (3, .int v3), (5, .int v5)]) C.1 4 dX7_openSlopes_127 rfl rfl (by decide) rfl ?_
    refine g_goto (tgt := 19) C.1 dX7_openSlopes_130 (by decide) ?_
    refine gJ.sub [1, 2, 3, 4, 0] rfl ?_
    exact hK19 _ _ _ _ _ _ hw
  · replace hw := hw.2 h4
    refine g_aload_n C.1 0 dX7_openSlopes_51 rfl rfl ?_
    refine c_get7 C hw.1 1 (by decide) kC_395 (fun _ h => h) rfl dX7_openSlopes_52 ?_
    replace hw := hw.2
    obtain ⟨a5, ha5, hw⟩ := hw
    rw [ha5]
    refine g_iload C.1 5 dX7_openSlopes_55 rfl ?_
    refine c_callVq (vs := [.int v5]) C hsz (cC_Jx4a65c_get_915e3 (g_l X) G s2 _ _ _ hw.2) kC_13 kC_455 kC_17 kC_18 kC_19 hdC_Jx4a65c_get_915e3 (c_recv0 C hw.1) ⟨(Nat.le_trans (Nat.le_of_ble_eq_true rfl) hR.1), (Nat.le_trans (Nat.le_of_ble_eq_true rfl) hR.2.1)⟩ ⟨(Nat.le_trans (Nat.le_of_ble_eq_true rfl) hR.2.2.1), (Nat.le_trans (Nat.le_of_ble_eq_true rfl) hR.2.2.2)⟩ dX7_openSlopes_57 rfl (Nat.le_of_ble_eq_true rfl) (fun r7 s6 hw => ?_)
    obtain ⟨a8, ha8, hw⟩ := hw
    rw [ha8]
    refine c_cast6 C hw.1 kC_470 dX7_openSlopes_60 ?_
    replace hw := hw.2
    refine g_astore (lv' := [(6, .ref a8), (0, .ref v0), (1, .int v1), (2, .int v2), (3, .int v3), (4, .int v4), (5, .int v5)]) C.1 dX7_openSlopes_63 (by decide) rfl ?_
    refine g_iload_n C.1 3 dX7_openSlopes_65 rfl rfl ?_
    refine g_iload C.1 6 dX7_openSlopes_66 rfl ?_
    refine c_callSi (vs := [.int v2, .int v5]) C hsz (cC_X7_hasBit (g_l X) G s6 _ _ _ hw) kC_412 kC_475 kC_476 kC_472 hdC_X7_hasBit ⟨(Nat.le_trans (Nat.le_of_ble_eq_true rfl) hR.1), (Nat.le_trans (Nat.le_of_ble_eq_true rfl) hR.2.1)⟩ ⟨(Nat.le_trans (Nat.le_of_ble_eq_true rfl) hR.2.2.1), (Nat.le_trans (Nat.le_of_ble_eq_true rfl) hR.2.2.2)⟩ dX7_openSlopes_68 rfl (Nat.le_of_ble_eq_true rfl) (fun r10 s9 hw => ?_)
    refine g_if_ne (tgt := 121) C.1 dX7_openSlopes_71 (by decide) (fun h11 => ?_) (fun h11 => ?_)
    · replace hw := hw.1 h11
      refine gJ.sub [1, 2, 3, 4, 5, 6] rfl ?_
      exact wkC_X7_openSlopes_121 C hsz hR hret hK19 hK39 _ _ _ _ _ _ _ hw
    · replace hw := hw.2 h11
      refine g_aload C.1 0 dX7_openSlopes_74 rfl ?_
      refine c_get6 C hw.1 7 (by decide) kC_473 (fun _ h => h) rfl dX7_openSlopes_76 ?_
      replace hw := hw.2
      refine g_iload_n C.1 3 dX7_openSlopes_79 rfl rfl ?_
      refine g_iconst (v := (-1)) C.1 dX7_openSlopes_80 (by decide) ?_
      refine g_ixor C.1 dX7_openSlopes_81 ?_
      refine g_iand C.1 dX7_openSlopes_82 ?_
      refine g_if_eq (tgt := 89) C.1 dX7_openSlopes_83 (by decide) (fun h12 => ?_) (fun h12 => ?_)
      · replace hw := hw.1 h12
        refine g_iload_n C.1 3 dX7_openSlopes_89 rfl rfl ?_
        refine g_iconst (v := 1) C.1 dX7_openSlopes_90 (by decide) ?_
        refine g_iload C.1 6 dX7_openSlopes_91 rfl ?_
        refine g_ishl C.1 dX7_openSlopes_93 ?_
        refine g_ior C.1 dX7_openSlopes_94 ?_
        refine g_istore_n (lv' := [(2, .int (v2 ||| (1 <<< (v5 &&& 31)))), (6, .ref a8), (0, .ref v0), (1, .int v1), (3, .int v3), (4, .int v4), (5, .int v5)]) C.1 dX7_openSlopes_95 rfl (by decide) rfl ?_
        refine g_aload C.1 1 dX7_openSlopes_96 rfl ?_
        refine c_get6 C hw.1 6 (by decide) kC_483 (fun _ h => h) rfl dX7_openSlopes_98 ?_
        replace hw := hw.2
        refine g_if_eq (tgt := 114) C.1 dX7_openSlopes_101 (by decide) (fun h13 => ?_) (fun h13 => ?_)
        · replace hw := hw.1 h13
          refine gJ.sub [2, 3, 0, 4, 5, 6] rfl ?_
          exact wkC_X7_openSlopes_114 C hsz hR hret hK19 hK39 _ _ _ _ _ _ _ hw
        · replace hw := hw.2 h13
          refine g_aload_n C.1 2 dX7_openSlopes_104 rfl rfl ?_
          refine g_aload C.1 1 dX7_openSlopes_105 rfl ?_
          refine g_iload_n C.1 4 dX7_openSlopes_107 rfl rfl ?_
          refine c_callVi (vs := [.ref a8, .int v3]) C hsz (cC_X7_holds (g_l X) G s9 _ _ _ _ hw.2) kC_412 kC_523 kC_524 kC_525 kC_522 hdC_X7_holds (c_recv7 C hw.1) ⟨(Nat.le_trans (Nat.le_of_ble_eq_true rfl) hR.1), (Nat.le_trans (Nat.le_of_ble_eq_true rfl) hR.2.1)⟩ ⟨(Nat.le_trans (Nat.le_of_ble_eq_true rfl) hR.2.2.1), (Nat.le_trans (Nat.le_of_ble_eq_true rfl) hR.2.2.2)⟩ dX7_openSlopes_108 rfl (Nat.le_of_ble_eq_true rfl) (fun r15 s14 hw => ?_)
          refine g_if_eq (tgt := 121) C.1 dX7_openSlopes_111 (by decide) (fun h16 => ?_) (fun h16 => ?_)
          · replace hw := hw.1 h16
            refine gJ.sub [2, 3, 0, 4, 5, 6] rfl ?_
            exact wkC_X7_openSlopes_121 C hsz hR hret hK19 hK39 _ _ _ _ _ _ _ hw
          · replace hw := hw.2 h16
            refine gJ.sub [2, 3, 0, 4, 5, 6] rfl ?_
            exact wkC_X7_openSlopes_114 C hsz hR hret hK19 hK39 _ _ _ _ _ _ _ hw
      · replace hw := hw.2 h12
        refine g_goto (tgt := 121) C.1 dX7_openSlopes_86 (by decide) ?_
        refine gJ.sub [1, 2, 3, 4, 5, 6] rfl ?_
        exact wkC_X7_openSlopes_121 C hsz hR hret hK19 hK39 _ _ _ _ _ _ _ hw
theorem wkC_X7_openSlopes_39 {X : gT} {G : cG} {A : Nat → Prop} {H0 : Heap} {Q : State → Prop} (C : cC X cX7_openSlopes 7 RX7 G A) (hsz : H0 = (g_s X).heap) (hR : 6 ≤ (g_R X).frames ∧ 140 ≤ (g_R X).locals ∧ 0 ≤ (g_R X).cells ∧ 0 ≤ (g_R X).slots) {post : Int32 → CSt → Prop} (hret : ∀ (r : Int32) (τ : CSt) (lv : List (Nat × Value)) (pc : Nat), post r τ → narrow .int (.int r) = .int r → decode cX7_openSlopes pc = .ok (.ireturn, 1) → gJ X (cWd G A H0) Q 0 0 τ lv pc [.int r]) {K19 : CSt → Nat → Int32 → Int32 → Int32 → Int32 → Prop} (hK19 : ∀ (s : CSt) (v0 : Nat) (v1 : Int32) (v2 : Int32) (v3 : Int32) (v4 : Int32), K19 s v0 v1 v2 v3 v4 → gJ X (cWd G A H0) Q 0 0 s [(0, .ref v0), (1, .int v1), (2, .int v2), (3, .int v3), (4, .int v4)] 19 []) (s : CSt) (v0 : Nat) (v1 : Int32) (v2 : Int32) (v3 : Int32) (v4 : Int32) (v5 : Int32) (hw : wpC_X7_openSlopes_39 post K19 s v0 v1 v2 v3 v4 v5) : gJ X (cWd G A H0) Q 0 0 s [(0, .ref v0), (1, .int v1), (2, .int v2), (3, .int v3), (4, .int v4), (5, .int v5)] 39 [] := 
  hw (fun (x : CSt × Nat × Int32 × Int32 × Int32 × Int32 × Int32) => (fun s v0 v1 v2 v3 v4 v5 => gJ X (cWd G A H0) Q 0 0 s [(0, .ref v0), (1, .int v1), (2, .int v2), (3, .int v3), (4, .int v4), (5, .int v5)] 39 []) x.1 x.2.1 x.2.2.1 x.2.2.2.1 x.2.2.2.2.1 x.2.2.2.2.2.1 x.2.2.2.2.2.2) (fun x hx => wkC_X7_openSlopes_39_F C hsz hR hret hK19 (K39 := (fun s v0 v1 v2 v3 v4 v5 => gJ X (cWd G A H0) Q 0 0 s [(0, .ref v0), (1, .int v1), (2, .int v2), (3, .int v3), (4, .int v4), (5, .int v5)] 39 [])) (fun _ _ _ _ _ _ _ h => h) x.1 x.2.1 x.2.2.1 x.2.2.2.1 x.2.2.2.2.1 x.2.2.2.2.2.1 x.2.2.2.2.2.2 hx)
theorem wkC_X7_openSlopes_19_F {X : gT} {G : cG} {A : Nat → Prop} {H0 : Heap} {Q : State → Prop} (C : cC X cX7_openSlopes 7 RX7 G A) (hsz : H0 = (g_s X).heap) (hR : 6 ≤ (g_R X).frames ∧ 140 ≤ (g_R X).locals ∧ 0 ≤ (g_R X).cells ∧ 0 ≤ (g_R X).slots) {post : Int32 → CSt → Prop} (hret : ∀ (r : Int32) (τ : CSt) (lv : List (Nat × Value)) (pc : Nat), post r τ → narrow .int (.int r) = .int r → decode cX7_openSlopes pc = .ok (.ireturn, 1) → gJ X (cWd G A H0) Q 0 0 τ lv pc [.int r]) {K19 : CSt → Nat → Int32 → Int32 → Int32 → Int32 → Prop} (hK19 : ∀ (s : CSt) (v0 : Nat) (v1 : Int32) (v2 : Int32) (v3 : Int32) (v4 : Int32), K19 s v0 v1 v2 v3 v4 → gJ X (cWd G A H0) Q 0 0 s [(0, .ref v0), (1, .int v1), (2, .int v2), (3, .int v3), (4, .int v4)] 19 []) (s : CSt) (v0 : Nat) (v1 : Int32) (v2 : Int32) (v3 : Int32) (v4 : Int32) (hw : wpC_X7_openSlopes_19_F post K19 s v0 v1 v2 v3 v4) : gJ X (cWd G A H0) Q 0 0 s [(0, .ref v0), (1, .int v1), (2, .int v2), (3, .int v3), (4, .int v4)] 19 [] := by
  refine g_iload C.1 4 dX7_openSlopes_19 rfl ?_
  refine g_aload_n C.1 0 dX7_openSlopes_21 rfl rfl ?_
  refine c_get7 C hw.1 1 (by decide) kC_395 (fun _ h => h) rfl dX7_openSlopes_22 ?_
  replace hw := hw.2
  obtain ⟨a17, ha17, hw⟩ := hw
  rw [ha17]
  refine c_callVi (vs := []) C hsz (cC_Jx4a65c_size_8abf5 (g_l X) G s _ _ hw.2) kC_13 kC_431 kC_11 kC_12 kC_14 hdC_Jx4a65c_size_8abf5 (c_recv0 C hw.1) ⟨(Nat.le_trans (Nat.le_of_ble_eq_true rfl) hR.1), (Nat.le_trans (Nat.le_of_ble_eq_true rfl) hR.2.1)⟩ ⟨(Nat.le_trans (Nat.le_of_ble_eq_true rfl) hR.2.2.1), (Nat.le_trans (Nat.le_of_ble_eq_true rfl) hR.2.2.2)⟩ dX7_openSlopes_25 rfl (Nat.le_of_ble_eq_true rfl) (fun r19 s18 hw => ?_)
  refine g_icmp_ge (tgt := 133) C.1 dX7_openSlopes_28 (by decide) (fun h20 => ?_) (fun h20 => ?_)
  · replace hw := hw.1 h20
    refine g_iload_n C.1 3 dX7_openSlopes_133 rfl rfl ?_
    exact hret _ _ _ _ hw rfl dX7_openSlopes_134
  · replace hw := hw.2 h20
    refine g_iload_n C.1 2 dX7_openSlopes_31 rfl rfl ?_
    refine g_iload_n C.1 1 dX7_openSlopes_32 rfl rfl ?_
    refine g_icmp_eq (tgt := 133) C.1 dX7_openSlopes_33 (by decide) (fun h21 => ?_) (fun h21 => ?_)
    · replace hw := hw.1 h21
      refine g_iload_n C.1 3 dX7_openSlopes_133 rfl rfl ?_
      exact hret _ _ _ _ hw rfl dX7_openSlopes_134
    · replace hw := hw.2 h21
      refine g_iconst (v := 0) C.1 dX7_openSlopes_36 (by decide) ?_
      refine g_istore (lv' := [(5, .int 0), (0, .ref v0), (1, .int v1), (2, .int v2), (3, .int v3), (4, .int v4)]) C.1 dX7_openSlopes_37 (by decide) rfl ?_
      refine gJ.sub [1, 2, 3, 4, 5, 0] rfl ?_
      exact wkC_X7_openSlopes_39 C hsz hR hret hK19 _ _ _ _ _ _ _ hw
theorem wkC_X7_openSlopes_19 {X : gT} {G : cG} {A : Nat → Prop} {H0 : Heap} {Q : State → Prop} (C : cC X cX7_openSlopes 7 RX7 G A) (hsz : H0 = (g_s X).heap) (hR : 6 ≤ (g_R X).frames ∧ 140 ≤ (g_R X).locals ∧ 0 ≤ (g_R X).cells ∧ 0 ≤ (g_R X).slots) {post : Int32 → CSt → Prop} (hret : ∀ (r : Int32) (τ : CSt) (lv : List (Nat × Value)) (pc : Nat), post r τ → narrow .int (.int r) = .int r → decode cX7_openSlopes pc = .ok (.ireturn, 1) → gJ X (cWd G A H0) Q 0 0 τ lv pc [.int r]) (s : CSt) (v0 : Nat) (v1 : Int32) (v2 : Int32) (v3 : Int32) (v4 : Int32) (hw : wpC_X7_openSlopes_19 post s v0 v1 v2 v3 v4) : gJ X (cWd G A H0) Q 0 0 s [(0, .ref v0), (1, .int v1), (2, .int v2), (3, .int v3), (4, .int v4)] 19 [] := 
  hw (fun (x : CSt × Nat × Int32 × Int32 × Int32 × Int32) => (fun s v0 v1 v2 v3 v4 => gJ X (cWd G A H0) Q 0 0 s [(0, .ref v0), (1, .int v1), (2, .int v2), (3, .int v3), (4, .int v4)] 19 []) x.1 x.2.1 x.2.2.1 x.2.2.2.1 x.2.2.2.2.1 x.2.2.2.2.2) (fun x hx => wkC_X7_openSlopes_19_F C hsz hR hret (K19 := (fun s v0 v1 v2 v3 v4 => gJ X (cWd G A H0) Q 0 0 s [(0, .ref v0), (1, .int v1), (2, .int v2), (3, .int v3), (4, .int v4)] 19 [])) (fun _ _ _ _ _ _ h => h) x.1 x.2.1 x.2.2.1 x.2.2.2.1 x.2.2.2.2.1 x.2.2.2.2.2 hx)
theorem wkC_X7_openSlopes_0 {X : gT} {G : cG} {A : Nat → Prop} {H0 : Heap} {Q : State → Prop} (C : cC X cX7_openSlopes 7 RX7 G A) (hsz : H0 = (g_s X).heap) (hR : 6 ≤ (g_R X).frames ∧ 140 ≤ (g_R X).locals ∧ 0 ≤ (g_R X).cells ∧ 0 ≤ (g_R X).slots) {post : Int32 → CSt → Prop} (hret : ∀ (r : Int32) (τ : CSt) (lv : List (Nat × Value)) (pc : Nat), post r τ → narrow .int (.int r) = .int r → decode cX7_openSlopes pc = .ok (.ireturn, 1) → gJ X (cWd G A H0) Q 0 0 τ lv pc [.int r]) (s : CSt) (v0 : Nat) (hw : wpC_X7_openSlopes_0 post s v0) : gJ X (cWd G A H0) Q 0 0 s [(0, .ref v0)] 0 [] := by
  refine g_iconst (v := 1) C.1 dX7_openSlopes_0 (by decide) ?_
  refine g_aload_n C.1 0 dX7_openSlopes_1 rfl rfl ?_
  refine c_get7 C hw.1 1 (by decide) kC_395 (fun _ h => h) rfl dX7_openSlopes_2 ?_
  replace hw := hw.2
  obtain ⟨a22, ha22, hw⟩ := hw
  rw [ha22]
  refine c_callVi (vs := []) C hsz (cC_Jx4a65c_size_8abf5 (g_l X) G s _ _ hw.2) kC_13 kC_431 kC_11 kC_12 kC_14 hdC_Jx4a65c_size_8abf5 (c_recv0 C hw.1) ⟨(Nat.le_trans (Nat.le_of_ble_eq_true rfl) hR.1), (Nat.le_trans (Nat.le_of_ble_eq_true rfl) hR.2.1)⟩ ⟨(Nat.le_trans (Nat.le_of_ble_eq_true rfl) hR.2.2.1), (Nat.le_trans (Nat.le_of_ble_eq_true rfl) hR.2.2.2)⟩ dX7_openSlopes_5 rfl (Nat.le_of_ble_eq_true rfl) (fun r24 s23 hw => ?_)
  refine g_ishl C.1 dX7_openSlopes_8 ?_
  refine g_iconst (v := 1) C.1 dX7_openSlopes_9 (by decide) ?_
  refine g_isub C.1 dX7_openSlopes_10 ?_
  refine g_istore_n (lv' := [(1, .int ((1 <<< (r24 &&& 31)) - 1)), (0, .ref v0)]) C.1 dX7_openSlopes_11 rfl (by decide) rfl ?_
  refine g_iconst (v := 0) C.1 dX7_openSlopes_12 (by decide) ?_
  refine g_istore_n (lv' := [(2, .int 0), (1, .int ((1 <<< (r24 &&& 31)) - 1)), (0, .ref v0)]) C.1 dX7_openSlopes_13 rfl (by decide) rfl ?_
  refine g_iconst (v := 0) C.1 dX7_openSlopes_14 (by decide) ?_
  refine g_istore_n (lv' := [(3, .int 0), (2, .int 0), (1, .int ((1 <<< (r24 &&& 31)) - 1)), (0, .ref v0)]) C.1 dX7_openSlopes_15 rfl (by decide) rfl ?_
  refine g_iconst (v := 0) C.1 dX7_openSlopes_16 (by decide) ?_
  refine g_istore (lv' := [(4, .int 0), (3, .int 0), (2, .int 0), (1, .int ((1 <<< (r24 &&& 31)) - 1)), (0, .ref v0)]) C.1 dX7_openSlopes_17 (by decide) rfl ?_
  refine gJ.sub [4, 3, 2, 1, 0] rfl ?_
  exact wkC_X7_openSlopes_19 C hsz hR hret _ _ _ _ _ _ hw
theorem hdC_X7_openSlopes : yX7_openSlopes.cls = RX7 ∧ yX7_openSlopes.cls ≠ "java/lang/invoke/MethodHandle" ∧ yX7_openSlopes.cls ≠ "java/lang/invoke/VarHandle" ∧ (parseMethodDescriptor yX7_openSlopes.desc).map (fun d => d.parameters.length) = some 0 := by decide +kernel
theorem cC_X7_openSlopes (l : Launch) (G : cG) (s : CSt) (v0 : Nat) (post : Int32 → CSt → Prop) (hw : wpC_X7_openSlopes_0 post s v0) : cMi l yX7_openSlopes cX7_openSlopes 7 .int 6 140 0 0 G s [.ref v0] post := cMi_of (by decide +kernel) rfl (Nat.le_of_ble_eq_true rfl) (fun X A H0 Q hl hR hsz hnm C hret => wkC_X7_openSlopes_0 C hsz hR hret s v0 hw)
def wpC_X7_open_0 (post : Int32 → CSt → Prop) (pX : String → CSt → Prop) (s : CSt) (v0 : Nat) (v1 : Int32) : Prop := cAt s 7 v0 ∧ wpC_X7_slopeAt_0 (fun r2 s1 => cAt s1 7 v0 ∧ wpC_X7_openSlopes_0 (fun r4 s3 => ∃ a5 : Nat, r2 = some a5 ∧ cAt s3 6 a5 ∧ wpC_X7_hasBit_0 (fun r7 s6 => narrow .boolean (.int r7) = .int r7 ∧ post r7 s6) s3 r4 (cI s3 96 a5)) s1 v0) pX s v0 v1
theorem wkC_X7_open_0 {X : gT} {G : cG} {A : Nat → Prop} {H0 : Heap} {Q : State → Prop} (C : cC X cX7_open 3 RX7 G A) (hsz : H0 = (g_s X).heap) (hR : 7 ≤ (g_R X).frames ∧ 166 ≤ (g_R X).locals ∧ 1 ≤ (g_R X).cells ∧ 6 ≤ (g_R X).slots) {pX : String → CSt → Prop} (hfl : (g_l X).stackTraces = false) (hout : ∀ (E : String) (τ : CSt) (lv : List (Nat × Value)) (pc k n : Nat) (rest : List Value), pX E τ → k ≤ 1 → n ≤ 6 → gX X (cWd G A H0) Q k n τ lv pc rest E) (hthr : ∀ (j : Nat) (τ : CSt) (lv : List (Nat × Value)) (pc k n ik : Nat) (rest : List Value), j < 5 → pX (cNm j) τ → k + 1 ≤ 1 → n + 6 ≤ 6 → (rest.map fun v => v.category).sum ≤ 8 → Cond.classLink RX7 ik (cNm j) ∈ wC → Cond.initialized (cNm j) ∈ wC → decode cX7_open pc = .ok (.new ik, 3) → decode cX7_open (pc + 3) = .ok (.dup, 1) → decode cX7_open (pc + 4) = .ok (.invokespecial (cNi j), 3) → decode cX7_open (pc + 7) = .ok (.athrow, 1) → gJ X (cWd G A H0) Q k n τ lv pc rest) {post : Int32 → CSt → Prop} (hret : ∀ (r : Int32) (τ : CSt) (lv : List (Nat × Value)) (pc : Nat), post r τ → narrow .boolean (.int r) = .int r → decode cX7_open pc = .ok (.ireturn, 1) → gJ X (cWd G A H0) Q 1 6 τ lv pc [.int r]) (s : CSt) (v0 : Nat) (v1 : Int32) (hw : wpC_X7_open_0 post pX s v0 v1) : gJ X (cWd G A H0) Q 0 0 s [(0, .ref v0), (1, .int v1)] 0 [] := by
  refine g_aload_n C.1 0 dX7_open_0 rfl rfl ?_
  refine g_iload_n C.1 1 dX7_open_1 rfl rfl ?_
  refine c_throwVq (vs := [.int v1]) C hsz (cC_X7_slopeAt (g_l X) hfl G s _ _ _ _ hw.2) kC_412 kC_485 kC_486 kC_487 kC_471 hdC_X7_slopeAt (c_recv7 C hw.1) ⟨(Nat.le_trans (Nat.le_of_ble_eq_true rfl) hR.1), (Nat.le_trans (Nat.le_of_ble_eq_true rfl) hR.2.1)⟩ ⟨(Nat.le_trans (Nat.le_of_ble_eq_true rfl) hR.2.2.1), (Nat.le_trans (Nat.le_of_ble_eq_true rfl) hR.2.2.2)⟩ dX7_open_2 rfl (Nat.le_of_ble_eq_true rfl) (fun E τ h => hout E τ _ _ _ _ _ h (Nat.le_of_ble_eq_true rfl) (Nat.le_of_ble_eq_true rfl)) (fun r2 s1 hw => ?_)
  refine g_qstore_n (lv' := [(2, va_rf r2), (0, .ref v0), (1, .int v1)]) C.1 dX7_open_5 rfl (by decide) rfl ?_
  refine g_aload_n C.1 1 dX7_open_6 rfl rfl ?_
  refine c_callVi (vs := []) C hsz (cC_X7_openSlopes (g_l X) G s1 _ _ hw.2) kC_412 kC_527 kC_528 kC_529 kC_526 hdC_X7_openSlopes (c_recv7 C hw.1) ⟨(Nat.le_trans (Nat.le_of_ble_eq_true rfl) hR.1), (Nat.le_trans (Nat.le_of_ble_eq_true rfl) hR.2.1)⟩ ⟨(Nat.le_trans (Nat.le_of_ble_eq_true rfl) hR.2.2.1), (Nat.le_trans (Nat.le_of_ble_eq_true rfl) hR.2.2.2)⟩ dX7_open_7 rfl (Nat.le_of_ble_eq_true rfl) (fun r4 s3 hw => ?_)
  refine g_qload_n C.1 0 dX7_open_10 rfl rfl ?_
  obtain ⟨a5, ha5, hw⟩ := hw
  rw [ha5]
  refine c_get6 C hw.1 0 (by decide) kC_440 (fun _ h => h) rfl dX7_open_11 ?_
  replace hw := hw.2
  refine c_callSi (vs := [.int r4, .int (cI s3 96 a5)]) C hsz (cC_X7_hasBit (g_l X) G s3 _ _ _ hw) kC_412 kC_475 kC_476 kC_472 hdC_X7_hasBit ⟨(Nat.le_trans (Nat.le_of_ble_eq_true rfl) hR.1), (Nat.le_trans (Nat.le_of_ble_eq_true rfl) hR.2.1)⟩ ⟨(Nat.le_trans (Nat.le_of_ble_eq_true rfl) hR.2.2.1), (Nat.le_trans (Nat.le_of_ble_eq_true rfl) hR.2.2.2)⟩ dX7_open_14 rfl (Nat.le_of_ble_eq_true rfl) (fun r7 s6 hw => ?_)
  exact hret _ _ _ _ hw.2 hw.1 dX7_open_17
theorem hdC_X7_open : yX7_open.cls = RX7 ∧ yX7_open.cls ≠ "java/lang/invoke/MethodHandle" ∧ yX7_open.cls ≠ "java/lang/invoke/VarHandle" ∧ (parseMethodDescriptor yX7_open.desc).map (fun d => d.parameters.length) = some 1 := by decide +kernel
theorem cC_X7_open (l : Launch) (hfl : l.stackTraces = false) (G : cG) (s : CSt) (v0 : Nat) (v1 : Int32) (post : Int32 → CSt → Prop) (pX : String → CSt → Prop) (hw : wpC_X7_open_0 post pX s v0 v1) : cTi l yX7_open cX7_open 3 .boolean 7 166 1 6 G s [.ref v0, .int v1] post pX := cTi_of hfl (by decide +kernel) rfl rfl (Nat.le_of_ble_eq_true rfl) ⟨by decide, by decide, by decide, by decide⟩ (fun X A H0 Q hl hR hsz C hret hout hthr => wkC_X7_open_0 C hsz hR (by rw [hl]; exact hfl) hout hthr hret s v0 v1 hw)
def wpC_X7_group_0 (mc ms : Nat) (post : Int32 → CSt → Prop) (pX : String → CSt → Prop) (s : CSt) (v0 : Nat) (v1 : Int32) (v2 : Int32) (v3 : Int32) : Prop := 0 + 1 ≤ mc ∧ 0 + 6 ≤ ms ∧ wpC_X7_checkPlace_0 (fun s1 => 0 + 1 + 1 ≤ mc ∧ 0 + 6 + 6 ≤ ms ∧ wpC_X7_checkNumber_0 (fun s3 => 0 + 1 + 1 + 1 ≤ mc ∧ 0 + 6 + 6 + 6 ≤ ms ∧ wpC_X7_checkNumber_0 (fun s5 => cAt s5 7 v0 ∧ ∃ a7 : Nat, cR s5 115 v0 = some a7 ∧ cAt s5 0 a7 ∧ wpC_Jx4a65c_size_8abf5_0 (fun r9 s8 => 0 + 1 + 1 + 1 + 1 ≤ mc ∧ 0 + 6 + 6 + 6 + 6 ≤ ms ∧ wpC_X7_checkRoom_0 (fun s10 => cAt s10 7 v0 ∧ ∃ a12 : Nat, cR s10 115 v0 = some a12 ∧ cAt s10 0 a12 ∧ wpC_Jx4a65c_size_8abf5_0 (fun r14 s13 => cAt s13 7 v0 ∧ ∃ a15 : Nat, cR s13 115 v0 = some a15 ∧ 0 + 1 + 1 + 1 + 1 + 1 ≤ mc ∧ 0 + 6 + 6 + 6 + 6 + 9 ≤ ms ∧ ∀ q16 : Nat, q16 ∉ cL s13 → ∀ s17 : CSt, s17 = csO s13 q16 2 → wpC_X2_init_0 (fun s19 => ∃ m20 m21 : Nat, 0 + 1 + 1 + 1 + 1 + 1 + m20 ≤ mc ∧ 0 + 6 + 6 + 6 + 6 + 9 + m21 ≤ ms ∧ cAt s19 0 a15 ∧ wpC_Jx4a65c_add_9ea2d_0 m20 m21 (fun r24 s22 => 0 + 1 + 1 + 1 + 1 + 1 + m20 ≤ mc ∧ 0 + 6 + 6 + 6 + 6 + 9 + m21 ≤ ms ∧ post r14 s22) s19 a15 q16) s17 q16 r14 v1 v2 v3) s10 a12) pX s8 r9 60) s5 a7) pX s3 v2 0 9) pX s1 v1 1 4) pX s v3
theorem wkC_X7_group_0 {mc ms : Nat} {X : gT} {G : cG} {A : Nat → Prop} {H0 : Heap} {Q : State → Prop} (C : cC X cX7_group 5 RX7 G A) (hsz : H0 = (g_s X).heap) (hR : 7 ≤ (g_R X).frames ∧ 191 ≤ (g_R X).locals ∧ mc ≤ (g_R X).cells ∧ ms ≤ (g_R X).slots) {pX : String → CSt → Prop} (hfl : (g_l X).stackTraces = false) (hout : ∀ (E : String) (τ : CSt) (lv : List (Nat × Value)) (pc k n : Nat) (rest : List Value), pX E τ → k ≤ mc → n ≤ ms → gX X (cWd G A H0) Q k n τ lv pc rest E) (hthr : ∀ (j : Nat) (τ : CSt) (lv : List (Nat × Value)) (pc k n ik : Nat) (rest : List Value), j < 5 → pX (cNm j) τ → k + 1 ≤ mc → n + 6 ≤ ms → (rest.map fun v => v.category).sum ≤ 8 → Cond.classLink RX7 ik (cNm j) ∈ wC → Cond.initialized (cNm j) ∈ wC → decode cX7_group pc = .ok (.new ik, 3) → decode cX7_group (pc + 3) = .ok (.dup, 1) → decode cX7_group (pc + 4) = .ok (.invokespecial (cNi j), 3) → decode cX7_group (pc + 7) = .ok (.athrow, 1) → gJ X (cWd G A H0) Q k n τ lv pc rest) {post : Int32 → CSt → Prop} (hret : ∀ (r : Int32) (τ : CSt) (lv : List (Nat × Value)) (pc : Nat), post r τ → narrow .int (.int r) = .int r → decode cX7_group pc = .ok (.ireturn, 1) → gJ X (cWd G A H0) Q mc ms τ lv pc [.int r]) (s : CSt) (v0 : Nat) (v1 : Int32) (v2 : Int32) (v3 : Int32) (hw : wpC_X7_group_0 mc ms post pX s v0 v1 v2 v3) : gJ X (cWd G A H0) Q 0 0 s [(0, .ref v0), (1, .int v1), (2, .int v2), (3, .int v3)] 0 [] := by
  refine g_iload_n C.1 3 dX7_group_0 rfl rfl ?_
  have hk2 : 0 + 1 ≤ mc ∧ 0 + 6 ≤ ms := ⟨hw.1, hw.2.1⟩
  replace hw := hw.2.2
  refine c_throwSv (vs := [.int v3]) C hsz (cC_X7_checkPlace (g_l X) hfl G s _ _ _ hw) kC_412 kC_427 kC_428 kC_417 hdC_X7_checkPlace ⟨(Nat.le_trans (Nat.le_of_ble_eq_true rfl) hR.1), (Nat.le_trans (Nat.le_of_ble_eq_true rfl) hR.2.1)⟩ ⟨Nat.le_trans hk2.1 hR.2.2.1, Nat.le_trans hk2.2 hR.2.2.2⟩ dX7_group_1 rfl (Nat.le_of_ble_eq_true rfl) (fun E τ h => hout E τ _ _ _ _ _ h hk2.1 hk2.2) (fun s1 hw => ?_)
  refine g_iload_n C.1 1 dX7_group_4 rfl rfl ?_
  refine g_iconst (v := 1) C.1 dX7_group_5 (by decide) ?_
  refine g_iconst (v := 4) C.1 dX7_group_6 (by decide) ?_
  have hk4 : 0 + 1 + 1 ≤ mc ∧ 0 + 6 + 6 ≤ ms := ⟨hw.1, hw.2.1⟩
  replace hw := hw.2.2
  refine c_throwSv (vs := [.int v1, .int 1, .int 4]) C hsz (cC_X7_checkNumber (g_l X) hfl G s1 _ _ _ _ _ hw) kC_412 kC_429 kC_430 kC_420 hdC_X7_checkNumber ⟨(Nat.le_trans (Nat.le_of_ble_eq_true rfl) hR.1), (Nat.le_trans (Nat.le_of_ble_eq_true rfl) hR.2.1)⟩ ⟨Nat.le_trans hk4.1 hR.2.2.1, Nat.le_trans hk4.2 hR.2.2.2⟩ dX7_group_7 rfl (Nat.le_of_ble_eq_true rfl) (fun E τ h => hout E τ _ _ _ _ _ h hk4.1 hk4.2) (fun s3 hw => ?_)
  refine g_iload_n C.1 2 dX7_group_10 rfl rfl ?_
  refine g_iconst (v := 0) C.1 dX7_group_11 (by decide) ?_
  refine g_bipush (v := 9) C.1 dX7_group_12 (by decide) ?_
  have hk6 : 0 + 1 + 1 + 1 ≤ mc ∧ 0 + 6 + 6 + 6 ≤ ms := ⟨hw.1, hw.2.1⟩
  replace hw := hw.2.2
  refine c_throwSv (vs := [.int v2, .int 0, .int 9]) C hsz (cC_X7_checkNumber (g_l X) hfl G s3 _ _ _ _ _ hw) kC_412 kC_429 kC_430 kC_420 hdC_X7_checkNumber ⟨(Nat.le_trans (Nat.le_of_ble_eq_true rfl) hR.1), (Nat.le_trans (Nat.le_of_ble_eq_true rfl) hR.2.1)⟩ ⟨Nat.le_trans hk6.1 hR.2.2.1, Nat.le_trans hk6.2 hR.2.2.2⟩ dX7_group_14 rfl (Nat.le_of_ble_eq_true rfl) (fun E τ h => hout E τ _ _ _ _ _ h hk6.1 hk6.2) (fun s5 hw => ?_)
  refine g_aload_n C.1 0 dX7_group_17 rfl rfl ?_
  refine c_get7 C hw.1 3 (by decide) kC_397 (fun _ h => h) rfl dX7_group_18 ?_
  replace hw := hw.2
  obtain ⟨a7, ha7, hw⟩ := hw
  rw [ha7]
  refine c_callVi (vs := []) C hsz (cC_Jx4a65c_size_8abf5 (g_l X) G s5 _ _ hw.2) kC_13 kC_431 kC_11 kC_12 kC_14 hdC_Jx4a65c_size_8abf5 (c_recv0 C hw.1) ⟨(Nat.le_trans (Nat.le_of_ble_eq_true rfl) hR.1), (Nat.le_trans (Nat.le_of_ble_eq_true rfl) hR.2.1)⟩ ⟨Nat.le_trans hk6.1 hR.2.2.1, Nat.le_trans hk6.2 hR.2.2.2⟩ dX7_group_21 rfl (Nat.le_of_ble_eq_true rfl) (fun r9 s8 hw => ?_)
  refine g_bipush (v := 60) C.1 dX7_group_24 (by decide) ?_
  have hk11 : 0 + 1 + 1 + 1 + 1 ≤ mc ∧ 0 + 6 + 6 + 6 + 6 ≤ ms := ⟨hw.1, hw.2.1⟩
  replace hw := hw.2.2
  refine c_throwSv (vs := [.int r9, .int 60]) C hsz (cC_X7_checkRoom (g_l X) hfl G s8 _ _ _ _ hw) kC_412 kC_432 kC_433 kC_423 hdC_X7_checkRoom ⟨(Nat.le_trans (Nat.le_of_ble_eq_true rfl) hR.1), (Nat.le_trans (Nat.le_of_ble_eq_true rfl) hR.2.1)⟩ ⟨Nat.le_trans hk11.1 hR.2.2.1, Nat.le_trans hk11.2 hR.2.2.2⟩ dX7_group_26 rfl (Nat.le_of_ble_eq_true rfl) (fun E τ h => hout E τ _ _ _ _ _ h hk11.1 hk11.2) (fun s10 hw => ?_)
  refine g_aload_n C.1 0 dX7_group_29 rfl rfl ?_
  refine c_get7 C hw.1 3 (by decide) kC_397 (fun _ h => h) rfl dX7_group_30 ?_
  replace hw := hw.2
  obtain ⟨a12, ha12, hw⟩ := hw
  rw [ha12]
  refine c_callVi (vs := []) C hsz (cC_Jx4a65c_size_8abf5 (g_l X) G s10 _ _ hw.2) kC_13 kC_431 kC_11 kC_12 kC_14 hdC_Jx4a65c_size_8abf5 (c_recv0 C hw.1) ⟨(Nat.le_trans (Nat.le_of_ble_eq_true rfl) hR.1), (Nat.le_trans (Nat.le_of_ble_eq_true rfl) hR.2.1)⟩ ⟨Nat.le_trans hk11.1 hR.2.2.1, Nat.le_trans hk11.2 hR.2.2.2⟩ dX7_group_33 rfl (Nat.le_of_ble_eq_true rfl) (fun r14 s13 hw => ?_)
  refine g_istore (lv' := [(4, .int r14), (0, .ref v0), (1, .int v1), (2, .int v2), (3, .int v3)]) C.1 dX7_group_36 (by decide) rfl ?_
  refine g_aload_n C.1 1 dX7_group_38 rfl rfl ?_
  refine c_get7 C hw.1 3 (by decide) kC_397 (fun _ h => h) rfl dX7_group_39 ?_
  replace hw := hw.2
  obtain ⟨a15, ha15, hw⟩ := hw
  rw [ha15]
  have hk18 : 0 + 1 + 1 + 1 + 1 + 1 ≤ mc ∧ 0 + 6 + 6 + 6 + 6 + 9 ≤ ms := ⟨hw.1, hw.2.1⟩
  replace hw := hw.2.2
  refine c_new2 C hsz kC_531 kC_532 kC_224 (Nat.le_trans hk18.1 hR.2.2.1) (Nat.le_trans hk18.2 hR.2.2.2) dX7_group_42 (fun q16 hq16 => ?_)
  replace hw := hw q16 hq16
  refine gJ.nm (fun s17 es17 => ?_)
  replace hw := hw s17 es17
  refine g_dup C.1 dX7_group_45 rfl ?_
  refine g_iload C.1 0 dX7_group_46 rfl ?_
  refine g_iload_n C.1 2 dX7_group_48 rfl rfl ?_
  refine g_iload_n C.1 3 dX7_group_49 rfl rfl ?_
  refine g_iload_n C.1 4 dX7_group_50 rfl rfl ?_
  refine c_callIv (vs := [.int r14, .int v1, .int v2, .int v3]) C hsz (cC_X2_init (g_l X) G s17 _ _ _ _ _ _ hw) kC_224 kC_533 kC_534 kC_116 rfl hdC_X2_init ⟨(Nat.le_trans (Nat.le_of_ble_eq_true rfl) hR.1), (Nat.le_trans (Nat.le_of_ble_eq_true rfl) hR.2.1)⟩ ⟨Nat.le_trans hk18.1 hR.2.2.1, Nat.le_trans hk18.2 hR.2.2.2⟩ dX7_group_51 rfl (Nat.le_of_ble_eq_true rfl) (fun s19 hw => ?_)
  obtain ⟨m20, m21, gm20, gm21, hw⟩ := hw
  have hk23 : 0 + 1 + 1 + 1 + 1 + 1 + m20 ≤ mc ∧ 0 + 6 + 6 + 6 + 6 + 9 + m21 ≤ ms := ⟨gm20, gm21⟩
  refine c_callVi (vs := [.ref q16]) C hsz (cC_Jx4a65c_add_9ea2d m20 m21 (g_l X) G s19 _ _ _ hw.2) kC_13 kC_436 kC_159 kC_160 kC_161 hdC_Jx4a65c_add_9ea2d (c_recv0 C hw.1) ⟨(Nat.le_trans (Nat.le_of_ble_eq_true rfl) hR.1), (Nat.le_trans (Nat.le_of_ble_eq_true rfl) hR.2.1)⟩ ⟨Nat.le_trans hk23.1 hR.2.2.1, Nat.le_trans hk23.2 hR.2.2.2⟩ dX7_group_54 rfl (Nat.le_of_ble_eq_true rfl) (fun r24 s22 hw => ?_)
  refine g_pop C.1 dX7_group_57 rfl ?_
  refine g_iload C.1 0 dX7_group_58 rfl ?_
  refine gJ.widen hw.1 hw.2.1 ?_
  replace hw := hw.2.2
  exact hret _ _ _ _ hw rfl dX7_group_60
theorem hdC_X7_group : yX7_group.cls = RX7 ∧ yX7_group.cls ≠ "java/lang/invoke/MethodHandle" ∧ yX7_group.cls ≠ "java/lang/invoke/VarHandle" ∧ (parseMethodDescriptor yX7_group.desc).map (fun d => d.parameters.length) = some 3 := by decide +kernel
theorem cC_X7_group (mc ms : Nat) (l : Launch) (hfl : l.stackTraces = false) (G : cG) (s : CSt) (v0 : Nat) (v1 : Int32) (v2 : Int32) (v3 : Int32) (post : Int32 → CSt → Prop) (pX : String → CSt → Prop) (hm : 1 ≤ mc ∧ 6 ≤ ms) (hw : wpC_X7_group_0 mc ms post pX s v0 v1 v2 v3) : cTi l yX7_group cX7_group 5 .int 7 191 mc ms G s [.ref v0, .int v1, .int v2, .int v3] post pX := cTi_of hfl (by decide +kernel) rfl rfl (Nat.le_of_ble_eq_true rfl) ⟨hm.1, hm.2, by decide, by decide⟩ (fun X A H0 Q hl hR hsz C hret hout hthr => wkC_X7_group_0 C hsz hR (by rw [hl]; exact hfl) hout hthr hret s v0 v1 v2 v3 hw)
def wpC_X7_slopeFor_95 (post : Option Nat → CSt → Prop) (K5 : CSt → Nat → Nat → Int32 → Option Nat → Int32 → Prop) (s : CSt) (v0 : Nat) (v1 : Nat) (v2 : Int32) (v3 : Option Nat) (v4 : Int32) : Prop := K5 s v0 v1 v2 v3 (v4 + 1)
def wpC_X7_slopeFor_92 (post : Option Nat → CSt → Prop) (K5 : CSt → Nat → Nat → Int32 → Option Nat → Int32 → Prop) (s : CSt) (v0 : Nat) (v1 : Nat) (v2 : Int32) (v4 : Int32) (v5 : Nat) : Prop := wpC_X7_slopeFor_95 post K5 s v0 v1 v2 (some v5) v4
def wpC_X7_slopeFor_69 (post : Option Nat → CSt → Prop) (K5 : CSt → Nat → Nat → Int32 → Option Nat → Int32 → Prop) (s : CSt) (v0 : Nat) (v1 : Nat) (v2 : Int32) (v3 : Option Nat) (v4 : Int32) (v5 : Nat) (w0 : Int32) : Prop := (w0 = 0 → wpC_X7_slopeFor_95 post K5 s v0 v1 v2 v3 v4) ∧ (¬ w0 = 0 → (v3 = none → wpC_X7_slopeFor_92 post K5 s v0 v1 v2 v4 v5) ∧ (∀ a3 : Nat, v3 = some a3 → cAt s 6 v5 ∧ cAt s 6 a3 ∧ ((cI s 100 v5) ≤ (cI s 100 a3) → wpC_X7_slopeFor_95 post K5 s v0 v1 v2 (some a3) v4) ∧ (¬ (cI s 100 v5) ≤ (cI s 100 a3) → wpC_X7_slopeFor_92 post K5 s v0 v1 v2 v4 v5)))
def wpC_X7_slopeFor_68 (post : Option Nat → CSt → Prop) (K5 : CSt → Nat → Nat → Int32 → Option Nat → Int32 → Prop) (s : CSt) (v0 : Nat) (v1 : Nat) (v2 : Int32) (v3 : Option Nat) (v4 : Int32) (v5 : Nat) : Prop := wpC_X7_slopeFor_69 post K5 s v0 v1 v2 v3 v4 v5 0
def wpC_X7_slopeFor_5_F (post : Option Nat → CSt → Prop) (K5 : CSt → Nat → Nat → Int32 → Option Nat → Int32 → Prop) (s : CSt) (v0 : Nat) (v1 : Nat) (v2 : Int32) (v3 : Option Nat) (v4 : Int32) : Prop := cAt s 7 v0 ∧ ∃ a5 : Nat, cR s 113 v0 = some a5 ∧ cAt s 0 a5 ∧ wpC_Jx4a65c_size_8abf5_0 (fun r7 s6 => (r7 ≤ v4 → post v3 s6) ∧ (¬ r7 ≤ v4 → cAt s6 7 v0 ∧ ∃ a9 : Nat, cR s6 113 v0 = some a9 ∧ cAt s6 0 a9 ∧ wpC_Jx4a65c_get_915e3_0 (fun r11 s10 => ∃ a12 : Nat, r11 = some a12 ∧ cAt s10 6 a12 ∧ cAt s10 6 a12 ∧ cAt s10 2 v1 ∧ (¬ (cI s10 97 a12) = (cI s10 36 v1) → wpC_X7_slopeFor_68 post K5 s10 v0 v1 v2 v3 v4 a12) ∧ ((cI s10 97 a12) = (cI s10 36 v1) → cAt s10 6 a12 ∧ cAt s10 2 v1 ∧ ((cI s10 34 v1) < (cI s10 100 a12) → wpC_X7_slopeFor_68 post K5 s10 v0 v1 v2 v3 v4 a12) ∧ (¬ (cI s10 34 v1) < (cI s10 100 a12) → wpC_X7_hasBit_0 (fun r16 s15 => (r16 = 0 → wpC_X7_slopeFor_68 post K5 s15 v0 v1 v2 v3 v4 a12) ∧ (¬ r16 = 0 → wpC_X7_slopeFor_69 post K5 s15 v0 v1 v2 v3 v4 a12 1)) s10 v2 v4))) s6 a9 v4)) s a5
def wpC_X7_slopeFor_5 (post : Option Nat → CSt → Prop) (s : CSt) (v0 : Nat) (v1 : Nat) (v2 : Int32) (v3 : Option Nat) (v4 : Int32) : Prop := gLP (fun (K : CSt × Nat × Nat × Int32 × Option Nat × Int32 → Prop) (x : CSt × Nat × Nat × Int32 × Option Nat × Int32) => wpC_X7_slopeFor_5_F post (fun s v0 v1 v2 v3 v4 => K (s, v0, v1, v2, v3, v4)) x.1 x.2.1 x.2.2.1 x.2.2.2.1 x.2.2.2.2.1 x.2.2.2.2.2) (s, v0, v1, v2, v3, v4)
def wpC_X7_slopeFor_0 (post : Option Nat → CSt → Prop) (s : CSt) (v0 : Nat) (v1 : Nat) (v2 : Int32) : Prop := wpC_X7_slopeFor_5 post s v0 v1 v2 none 0
theorem wkC_X7_slopeFor_95 {X : gT} {G : cG} {A : Nat → Prop} {H0 : Heap} {Q : State → Prop} (C : cC X cX7_slopeFor 7 RX7 G A) (hsz : H0 = (g_s X).heap) (hR : 3 ≤ (g_R X).frames ∧ 64 ≤ (g_R X).locals ∧ 0 ≤ (g_R X).cells ∧ 0 ≤ (g_R X).slots) {post : Option Nat → CSt → Prop} (hret : ∀ (r : Option Nat) (τ : CSt) (lv : List (Nat × Value)) (pc : Nat), post r τ → decode cX7_slopeFor pc = .ok (.areturn, 1) → gJ X (cWd G A H0) Q 0 0 τ lv pc [va_rf r]) {K5 : CSt → Nat → Nat → Int32 → Option Nat → Int32 → Prop} (hK5 : ∀ (s : CSt) (v0 : Nat) (v1 : Nat) (v2 : Int32) (v3 : Option Nat) (v4 : Int32), K5 s v0 v1 v2 v3 v4 → gJ X (cWd G A H0) Q 0 0 s [(0, .ref v0), (1, .ref v1), (2, .int v2), (3, va_rf v3), (4, .int v4)] 5 []) (s : CSt) (v0 : Nat) (v1 : Nat) (v2 : Int32) (v3 : Option Nat) (v4 : Int32) (hw : wpC_X7_slopeFor_95 post K5 s v0 v1 v2 v3 v4) : gJ X (cWd G A H0) Q 0 0 s [(0, .ref v0), (1, .ref v1), (2, .int v2), (3, va_rf v3), (4, .int v4)] 95 [] := by
  refine g_iinc (v := v4 + 1) (lv' := [(4, .int (v4 + 1)), (0, .ref v0), (1, .ref v1), (2, .int v2), (3, va_rf v3)]) C.1 4 dX7_slopeFor_95 rfl rfl (by decide) (by simp [va_rf_cat]) ?_
  refine g_goto (tgt := 5) C.1 dX7_slopeFor_98 (by decide) ?_
  refine gJ.sub [1, 2, 3, 4, 0] rfl ?_
  exact hK5 _ _ _ _ _ _ hw
theorem wkC_X7_slopeFor_92 {X : gT} {G : cG} {A : Nat → Prop} {H0 : Heap} {Q : State → Prop} (C : cC X cX7_slopeFor 7 RX7 G A) (hsz : H0 = (g_s X).heap) (hR : 3 ≤ (g_R X).frames ∧ 64 ≤ (g_R X).locals ∧ 0 ≤ (g_R X).cells ∧ 0 ≤ (g_R X).slots) {post : Option Nat → CSt → Prop} (hret : ∀ (r : Option Nat) (τ : CSt) (lv : List (Nat × Value)) (pc : Nat), post r τ → decode cX7_slopeFor pc = .ok (.areturn, 1) → gJ X (cWd G A H0) Q 0 0 τ lv pc [va_rf r]) {K5 : CSt → Nat → Nat → Int32 → Option Nat → Int32 → Prop} (hK5 : ∀ (s : CSt) (v0 : Nat) (v1 : Nat) (v2 : Int32) (v3 : Option Nat) (v4 : Int32), K5 s v0 v1 v2 v3 v4 → gJ X (cWd G A H0) Q 0 0 s [(0, .ref v0), (1, .ref v1), (2, .int v2), (3, va_rf v3), (4, .int v4)] 5 []) (s : CSt) (v0 : Nat) (v1 : Nat) (v2 : Int32) (v4 : Int32) (v5 : Nat) (hw : wpC_X7_slopeFor_92 post K5 s v0 v1 v2 v4 v5) : gJ X (cWd G A H0) Q 0 0 s [(0, .ref v0), (1, .ref v1), (2, .int v2), (4, .int v4), (5, .ref v5)] 92 [] := by
  refine g_aload C.1 4 dX7_slopeFor_92 rfl ?_
  refine g_astore_n (lv' := [(3, .ref v5), (0, .ref v0), (1, .ref v1), (2, .int v2), (4, .int v4), (5, .ref v5)]) C.1 dX7_slopeFor_94 rfl (by decide) rfl ?_
  refine gJ.sub [1, 2, 3, 0, 4] rfl ?_
  exact wkC_X7_slopeFor_95 C hsz hR hret hK5 _ _ _ _ _ _ hw
theorem wkC_X7_slopeFor_69 {X : gT} {G : cG} {A : Nat → Prop} {H0 : Heap} {Q : State → Prop} (C : cC X cX7_slopeFor 7 RX7 G A) (hsz : H0 = (g_s X).heap) (hR : 3 ≤ (g_R X).frames ∧ 64 ≤ (g_R X).locals ∧ 0 ≤ (g_R X).cells ∧ 0 ≤ (g_R X).slots) {post : Option Nat → CSt → Prop} (hret : ∀ (r : Option Nat) (τ : CSt) (lv : List (Nat × Value)) (pc : Nat), post r τ → decode cX7_slopeFor pc = .ok (.areturn, 1) → gJ X (cWd G A H0) Q 0 0 τ lv pc [va_rf r]) {K5 : CSt → Nat → Nat → Int32 → Option Nat → Int32 → Prop} (hK5 : ∀ (s : CSt) (v0 : Nat) (v1 : Nat) (v2 : Int32) (v3 : Option Nat) (v4 : Int32), K5 s v0 v1 v2 v3 v4 → gJ X (cWd G A H0) Q 0 0 s [(0, .ref v0), (1, .ref v1), (2, .int v2), (3, va_rf v3), (4, .int v4)] 5 []) (s : CSt) (v0 : Nat) (v1 : Nat) (v2 : Int32) (v3 : Option Nat) (v4 : Int32) (v5 : Nat) (w0 : Int32) (hw : wpC_X7_slopeFor_69 post K5 s v0 v1 v2 v3 v4 v5 w0) : gJ X (cWd G A H0) Q 0 0 s [(0, .ref v0), (1, .ref v1), (2, .int v2), (3, va_rf v3), (4, .int v4), (5, .ref v5)] 69 [.int w0] := by
  refine g_istore (lv' := [(6, .int w0), (0, .ref v0), (1, .ref v1), (2, .int v2), (3, va_rf v3), (4, .int v4), (5, .ref v5)]) C.1 dX7_slopeFor_69 (by decide) rfl ?_
  refine g_iload C.1 0 dX7_slopeFor_71 rfl ?_
  refine g_if_eq (tgt := 95) C.1 dX7_slopeFor_73 (by decide) (fun h1 => ?_) (fun h1 => ?_)
  · replace hw := hw.1 h1
    refine gJ.sub [1, 2, 3, 4, 5] rfl ?_
    exact wkC_X7_slopeFor_95 C hsz hR hret hK5 _ _ _ _ _ _ hw
  · replace hw := hw.2 h1
    refine g_qload_n C.1 4 dX7_slopeFor_76 rfl rfl ?_
    refine g_ifnull (tgt := 92) C.1 dX7_slopeFor_77 (by decide) (fun h2 => ?_) (fun a3 h2 => ?_)
    · replace hw := hw.1 h2
      refine gJ.sub [1, 2, 3, 5, 6] rfl ?_
      exact wkC_X7_slopeFor_92 C hsz hR hret hK5 _ _ _ _ _ _ hw
    · replace hw := hw.2 a3 h2
      rw [h2]
      refine g_aload C.1 6 dX7_slopeFor_80 rfl ?_
      refine c_get6 C hw.1 4 (by decide) kC_538 (fun _ h => h) rfl dX7_slopeFor_82 ?_
      replace hw := hw.2
      refine g_aload_n C.1 4 dX7_slopeFor_85 rfl rfl ?_
      refine c_get6 C hw.1 4 (by decide) kC_538 (fun _ h => h) rfl dX7_slopeFor_86 ?_
      replace hw := hw.2
      refine g_icmp_le (tgt := 95) C.1 dX7_slopeFor_89 (by decide) (fun h4 => ?_) (fun h4 => ?_)
      · replace hw := hw.1 h4
        refine gJ.sub [1, 2, 3, 4, 5] rfl ?_
        exact wkC_X7_slopeFor_95 C hsz hR hret hK5 _ _ _ _ _ _ hw
      · replace hw := hw.2 h4
        refine gJ.sub [1, 2, 3, 5, 6] rfl ?_
        exact wkC_X7_slopeFor_92 C hsz hR hret hK5 _ _ _ _ _ _ hw
theorem wkC_X7_slopeFor_68 {X : gT} {G : cG} {A : Nat → Prop} {H0 : Heap} {Q : State → Prop} (C : cC X cX7_slopeFor 7 RX7 G A) (hsz : H0 = (g_s X).heap) (hR : 3 ≤ (g_R X).frames ∧ 64 ≤ (g_R X).locals ∧ 0 ≤ (g_R X).cells ∧ 0 ≤ (g_R X).slots) {post : Option Nat → CSt → Prop} (hret : ∀ (r : Option Nat) (τ : CSt) (lv : List (Nat × Value)) (pc : Nat), post r τ → decode cX7_slopeFor pc = .ok (.areturn, 1) → gJ X (cWd G A H0) Q 0 0 τ lv pc [va_rf r]) {K5 : CSt → Nat → Nat → Int32 → Option Nat → Int32 → Prop} (hK5 : ∀ (s : CSt) (v0 : Nat) (v1 : Nat) (v2 : Int32) (v3 : Option Nat) (v4 : Int32), K5 s v0 v1 v2 v3 v4 → gJ X (cWd G A H0) Q 0 0 s [(0, .ref v0), (1, .ref v1), (2, .int v2), (3, va_rf v3), (4, .int v4)] 5 []) (s : CSt) (v0 : Nat) (v1 : Nat) (v2 : Int32) (v3 : Option Nat) (v4 : Int32) (v5 : Nat) (hw : wpC_X7_slopeFor_68 post K5 s v0 v1 v2 v3 v4 v5) : gJ X (cWd G A H0) Q 0 0 s [(0, .ref v0), (1, .ref v1), (2, .int v2), (3, va_rf v3), (4, .int v4), (5, .ref v5)] 68 [] := by
  refine g_iconst (v := 0) C.1 dX7_slopeFor_68 (by decide) ?_
  exact wkC_X7_slopeFor_69 C hsz hR hret hK5 _ _ _ _ _ _ _ _ hw
theorem wkC_X7_slopeFor_5_F {X : gT} {G : cG} {A : Nat → Prop} {H0 : Heap} {Q : State → Prop} (C : cC X cX7_slopeFor 7 RX7 G A) (hsz : H0 = (g_s X).heap) (hR : 3 ≤ (g_R X).frames ∧ 64 ≤ (g_R X).locals ∧ 0 ≤ (g_R X).cells ∧ 0 ≤ (g_R X).slots) {post : Option Nat → CSt → Prop} (hret : ∀ (r : Option Nat) (τ : CSt) (lv : List (Nat × Value)) (pc : Nat), post r τ → decode cX7_slopeFor pc = .ok (.areturn, 1) → gJ X (cWd G A H0) Q 0 0 τ lv pc [va_rf r]) {K5 : CSt → Nat → Nat → Int32 → Option Nat → Int32 → Prop} (hK5 : ∀ (s : CSt) (v0 : Nat) (v1 : Nat) (v2 : Int32) (v3 : Option Nat) (v4 : Int32), K5 s v0 v1 v2 v3 v4 → gJ X (cWd G A H0) Q 0 0 s [(0, .ref v0), (1, .ref v1), (2, .int v2), (3, va_rf v3), (4, .int v4)] 5 []) (s : CSt) (v0 : Nat) (v1 : Nat) (v2 : Int32) (v3 : Option Nat) (v4 : Int32) (hw : wpC_X7_slopeFor_5_F post K5 s v0 v1 v2 v3 v4) : gJ X (cWd G A H0) Q 0 0 s [(0, .ref v0), (1, .ref v1), (2, .int v2), (3, va_rf v3), (4, .int v4)] 5 [] := by
  refine g_iload C.1 4 dX7_slopeFor_5 rfl ?_
  refine g_aload_n C.1 0 dX7_slopeFor_7 rfl rfl ?_
  refine c_get7 C hw.1 1 (by decide) kC_395 (fun _ h => h) rfl dX7_slopeFor_8 ?_
  replace hw := hw.2
  obtain ⟨a5, ha5, hw⟩ := hw
  rw [ha5]
  refine c_callVi (vs := []) C hsz (cC_Jx4a65c_size_8abf5 (g_l X) G s _ _ hw.2) kC_13 kC_431 kC_11 kC_12 kC_14 hdC_Jx4a65c_size_8abf5 (c_recv0 C hw.1) ⟨(Nat.le_trans (Nat.le_of_ble_eq_true rfl) hR.1), (Nat.le_trans (Nat.le_of_ble_eq_true rfl) hR.2.1)⟩ ⟨(Nat.le_trans (Nat.le_of_ble_eq_true rfl) hR.2.2.1), (Nat.le_trans (Nat.le_of_ble_eq_true rfl) hR.2.2.2)⟩ dX7_slopeFor_11 rfl (Nat.le_of_ble_eq_true rfl) (fun r7 s6 hw => ?_)
  refine g_icmp_ge (tgt := 101) C.1 dX7_slopeFor_14 (by decide) (fun h8 => ?_) (fun h8 => ?_)
  · replace hw := hw.1 h8
    refine g_qload_n C.1 3 dX7_slopeFor_101 rfl rfl ?_
    exact hret v3 _ _ _ hw dX7_slopeFor_102
  · replace hw := hw.2 h8
    refine g_aload_n C.1 0 dX7_slopeFor_17 rfl rfl ?_
    refine c_get7 C hw.1 1 (by decide) kC_395 (fun _ h => h) rfl dX7_slopeFor_18 ?_
    replace hw := hw.2
    obtain ⟨a9, ha9, hw⟩ := hw
    rw [ha9]
    refine g_iload C.1 4 dX7_slopeFor_21 rfl ?_
    refine c_callVq (vs := [.int v4]) C hsz (cC_Jx4a65c_get_915e3 (g_l X) G s6 _ _ _ hw.2) kC_13 kC_455 kC_17 kC_18 kC_19 hdC_Jx4a65c_get_915e3 (c_recv0 C hw.1) ⟨(Nat.le_trans (Nat.le_of_ble_eq_true rfl) hR.1), (Nat.le_trans (Nat.le_of_ble_eq_true rfl) hR.2.1)⟩ ⟨(Nat.le_trans (Nat.le_of_ble_eq_true rfl) hR.2.2.1), (Nat.le_trans (Nat.le_of_ble_eq_true rfl) hR.2.2.2)⟩ dX7_slopeFor_23 rfl (Nat.le_of_ble_eq_true rfl) (fun r11 s10 hw => ?_)
    obtain ⟨a12, ha12, hw⟩ := hw
    rw [ha12]
    refine c_cast6 C hw.1 kC_470 dX7_slopeFor_26 ?_
    replace hw := hw.2
    refine g_astore (lv' := [(5, .ref a12), (0, .ref v0), (1, .ref v1), (2, .int v2), (3, va_rf v3), (4, .int v4)]) C.1 dX7_slopeFor_29 (by decide) rfl ?_
    refine g_aload C.1 0 dX7_slopeFor_31 rfl ?_
    refine c_get6 C hw.1 1 (by decide) kC_536 (fun _ h => h) rfl dX7_slopeFor_33 ?_
    replace hw := hw.2
    refine g_aload_n C.1 2 dX7_slopeFor_36 rfl rfl ?_
    refine c_get2 C hw.1 4 (by decide) kC_537 (fun _ h => h) rfl dX7_slopeFor_37 ?_
    replace hw := hw.2
    refine g_icmp_ne (tgt := 68) C.1 dX7_slopeFor_40 (by decide) (fun h13 => ?_) (fun h13 => ?_)
    · replace hw := hw.1 h13
      refine gJ.sub [1, 2, 3, 4, 5, 0] rfl ?_
      exact wkC_X7_slopeFor_68 C hsz hR hret hK5 _ _ _ _ _ _ _ hw
    · replace hw := hw.2 h13
      refine g_aload C.1 0 dX7_slopeFor_43 rfl ?_
      refine c_get6 C hw.1 4 (by decide) kC_538 (fun _ h => h) rfl dX7_slopeFor_45 ?_
      replace hw := hw.2
      refine g_aload_n C.1 2 dX7_slopeFor_48 rfl rfl ?_
      refine c_get2 C hw.1 2 (by decide) kC_539 (fun _ h => h) rfl dX7_slopeFor_49 ?_
      replace hw := hw.2
      refine g_icmp_gt (tgt := 68) C.1 dX7_slopeFor_52 (by decide) (fun h14 => ?_) (fun h14 => ?_)
      · replace hw := hw.1 h14
        refine gJ.sub [1, 2, 3, 4, 5, 0] rfl ?_
        exact wkC_X7_slopeFor_68 C hsz hR hret hK5 _ _ _ _ _ _ _ hw
      · replace hw := hw.2 h14
        refine g_iload_n C.1 3 dX7_slopeFor_55 rfl rfl ?_
        refine g_iload C.1 5 dX7_slopeFor_56 rfl ?_
        refine c_callSi (vs := [.int v2, .int v4]) C hsz (cC_X7_hasBit (g_l X) G s10 _ _ _ hw) kC_412 kC_475 kC_476 kC_472 hdC_X7_hasBit ⟨(Nat.le_trans (Nat.le_of_ble_eq_true rfl) hR.1), (Nat.le_trans (Nat.le_of_ble_eq_true rfl) hR.2.1)⟩ ⟨(Nat.le_trans (Nat.le_of_ble_eq_true rfl) hR.2.2.1), (Nat.le_trans (Nat.le_of_ble_eq_true rfl) hR.2.2.2)⟩ dX7_slopeFor_58 rfl (Nat.le_of_ble_eq_true rfl) (fun r16 s15 hw => ?_)
        refine g_if_eq (tgt := 68) C.1 dX7_slopeFor_61 (by decide) (fun h17 => ?_) (fun h17 => ?_)
        · replace hw := hw.1 h17
          refine gJ.sub [1, 2, 3, 4, 5, 0] rfl ?_
          exact wkC_X7_slopeFor_68 C hsz hR hret hK5 _ _ _ _ _ _ _ hw
        · replace hw := hw.2 h17
          refine g_iconst (v := 1) C.1 dX7_slopeFor_64 (by decide) ?_
          refine g_goto (tgt := 69) C.1 dX7_slopeFor_65 (by decide) ?_
          refine gJ.sub [1, 2, 3, 4, 5, 0] rfl ?_
          exact wkC_X7_slopeFor_69 C hsz hR hret hK5 _ _ _ _ _ _ _ _ hw
theorem wkC_X7_slopeFor_5 {X : gT} {G : cG} {A : Nat → Prop} {H0 : Heap} {Q : State → Prop} (C : cC X cX7_slopeFor 7 RX7 G A) (hsz : H0 = (g_s X).heap) (hR : 3 ≤ (g_R X).frames ∧ 64 ≤ (g_R X).locals ∧ 0 ≤ (g_R X).cells ∧ 0 ≤ (g_R X).slots) {post : Option Nat → CSt → Prop} (hret : ∀ (r : Option Nat) (τ : CSt) (lv : List (Nat × Value)) (pc : Nat), post r τ → decode cX7_slopeFor pc = .ok (.areturn, 1) → gJ X (cWd G A H0) Q 0 0 τ lv pc [va_rf r]) (s : CSt) (v0 : Nat) (v1 : Nat) (v2 : Int32) (v3 : Option Nat) (v4 : Int32) (hw : wpC_X7_slopeFor_5 post s v0 v1 v2 v3 v4) : gJ X (cWd G A H0) Q 0 0 s [(0, .ref v0), (1, .ref v1), (2, .int v2), (3, va_rf v3), (4, .int v4)] 5 [] := 
  hw (fun (x : CSt × Nat × Nat × Int32 × Option Nat × Int32) => (fun s v0 v1 v2 v3 v4 => gJ X (cWd G A H0) Q 0 0 s [(0, .ref v0), (1, .ref v1), (2, .int v2), (3, va_rf v3), (4, .int v4)] 5 []) x.1 x.2.1 x.2.2.1 x.2.2.2.1 x.2.2.2.2.1 x.2.2.2.2.2) (fun x hx => wkC_X7_slopeFor_5_F C hsz hR hret (K5 := (fun s v0 v1 v2 v3 v4 => gJ X (cWd G A H0) Q 0 0 s [(0, .ref v0), (1, .ref v1), (2, .int v2), (3, va_rf v3), (4, .int v4)] 5 [])) (fun _ _ _ _ _ _ h => h) x.1 x.2.1 x.2.2.1 x.2.2.2.1 x.2.2.2.2.1 x.2.2.2.2.2 hx)
theorem wkC_X7_slopeFor_0 {X : gT} {G : cG} {A : Nat → Prop} {H0 : Heap} {Q : State → Prop} (C : cC X cX7_slopeFor 7 RX7 G A) (hsz : H0 = (g_s X).heap) (hR : 3 ≤ (g_R X).frames ∧ 64 ≤ (g_R X).locals ∧ 0 ≤ (g_R X).cells ∧ 0 ≤ (g_R X).slots) {post : Option Nat → CSt → Prop} (hret : ∀ (r : Option Nat) (τ : CSt) (lv : List (Nat × Value)) (pc : Nat), post r τ → decode cX7_slopeFor pc = .ok (.areturn, 1) → gJ X (cWd G A H0) Q 0 0 τ lv pc [va_rf r]) (s : CSt) (v0 : Nat) (v1 : Nat) (v2 : Int32) (hw : wpC_X7_slopeFor_0 post s v0 v1 v2) : gJ X (cWd G A H0) Q 0 0 s [(0, .ref v0), (1, .ref v1), (2, .int v2)] 0 [] := by
  refine g_null C.1 dX7_slopeFor_0 ?_
  refine g_nstore_n (lv' := [(3, .null), (0, .ref v0), (1, .ref v1), (2, .int v2)]) C.1 dX7_slopeFor_1 rfl (by decide) rfl ?_
  refine g_iconst (v := 0) C.1 dX7_slopeFor_2 (by decide) ?_
  refine g_istore (lv' := [(4, .int 0), (3, .null), (0, .ref v0), (1, .ref v1), (2, .int v2)]) C.1 dX7_slopeFor_3 (by decide) rfl ?_
  refine gJ.sub [2, 3, 4, 1, 0] rfl ?_
  exact wkC_X7_slopeFor_5 C hsz hR hret _ _ _ _ _ _ hw
theorem hdC_X7_slopeFor : yX7_slopeFor.cls = RX7 ∧ yX7_slopeFor.cls ≠ "java/lang/invoke/MethodHandle" ∧ yX7_slopeFor.cls ≠ "java/lang/invoke/VarHandle" ∧ (parseMethodDescriptor yX7_slopeFor.desc).map (fun d => d.parameters.length) = some 2 := by decide +kernel
theorem cC_X7_slopeFor (l : Launch) (G : cG) (s : CSt) (v0 : Nat) (v1 : Nat) (v2 : Int32) (post : Option Nat → CSt → Prop) (hw : wpC_X7_slopeFor_0 post s v0 v1 v2) : cMq l yX7_slopeFor cX7_slopeFor 7 (.object "SkiHill$Slope") 3 64 0 0 G s [.ref v0, .ref v1, .int v2] post := cMq_of (by decide +kernel) rfl (by first | exact Or.inl ⟨_, rfl⟩ | exact Or.inr ⟨_, rfl⟩) (Nat.le_of_ble_eq_true rfl) (fun X A H0 Q hl hR hsz hnm C hret => wkC_X7_slopeFor_0 C hsz hR hret s v0 v1 v2 hw)
def wpC_X7_liftFor_80 (post : Option Nat → CSt → Prop) (K4 : CSt → Nat → Nat → Option Nat → Int32 → Prop) (s : CSt) (v0 : Nat) (v1 : Nat) (v2 : Option Nat) (v3 : Int32) : Prop := K4 s v0 v1 v2 (v3 + 1)
def wpC_X7_liftFor_77 (post : Option Nat → CSt → Prop) (K4 : CSt → Nat → Nat → Option Nat → Int32 → Prop) (s : CSt) (v0 : Nat) (v1 : Nat) (v3 : Int32) (v4 : Nat) : Prop := wpC_X7_liftFor_80 post K4 s v0 v1 (some v4) v3
def wpC_X7_liftFor_54 (post : Option Nat → CSt → Prop) (K4 : CSt → Nat → Nat → Option Nat → Int32 → Prop) (s : CSt) (v0 : Nat) (v1 : Nat) (v2 : Option Nat) (v3 : Int32) (v4 : Nat) (w0 : Int32) : Prop := (w0 = 0 → wpC_X7_liftFor_80 post K4 s v0 v1 v2 v3) ∧ (¬ w0 = 0 → (v2 = none → wpC_X7_liftFor_77 post K4 s v0 v1 v3 v4) ∧ (∀ a3 : Nat, v2 = some a3 → cAt s 3 v4 ∧ cAt s 3 a3 ∧ ((cI s 55 a3) ≤ (cI s 55 v4) → wpC_X7_liftFor_80 post K4 s v0 v1 (some a3) v3) ∧ (¬ (cI s 55 a3) ≤ (cI s 55 v4) → wpC_X7_liftFor_77 post K4 s v0 v1 v3 v4)))
def wpC_X7_liftFor_53 (post : Option Nat → CSt → Prop) (K4 : CSt → Nat → Nat → Option Nat → Int32 → Prop) (s : CSt) (v0 : Nat) (v1 : Nat) (v2 : Option Nat) (v3 : Int32) (v4 : Nat) : Prop := wpC_X7_liftFor_54 post K4 s v0 v1 v2 v3 v4 0
def wpC_X7_liftFor_4_F (post : Option Nat → CSt → Prop) (K4 : CSt → Nat → Nat → Option Nat → Int32 → Prop) (s : CSt) (v0 : Nat) (v1 : Nat) (v2 : Option Nat) (v3 : Int32) : Prop := cAt s 7 v0 ∧ ∃ a5 : Nat, cR s 112 v0 = some a5 ∧ cAt s 0 a5 ∧ wpC_Jx4a65c_size_8abf5_0 (fun r7 s6 => (r7 ≤ v3 → post v2 s6) ∧ (¬ r7 ≤ v3 → cAt s6 7 v0 ∧ ∃ a9 : Nat, cR s6 112 v0 = some a9 ∧ cAt s6 0 a9 ∧ wpC_Jx4a65c_get_915e3_0 (fun r11 s10 => ∃ a12 : Nat, r11 = some a12 ∧ cAt s10 3 a12 ∧ cAt s10 3 a12 ∧ cAt s10 2 v1 ∧ (¬ (cI s10 49 a12) = (cI s10 36 v1) → wpC_X7_liftFor_53 post K4 s10 v0 v1 v2 v3 a12) ∧ ((cI s10 49 a12) = (cI s10 36 v1) → cAt s10 7 v0 ∧ wpC_X7_isRunning_0 (fun r15 s14 => (r15 = 0 → wpC_X7_liftFor_53 post K4 s14 v0 v1 v2 v3 a12) ∧ (¬ r15 = 0 → wpC_X7_liftFor_54 post K4 s14 v0 v1 v2 v3 a12 1)) s10 v0 a12)) s6 a9 v3)) s a5
def wpC_X7_liftFor_4 (post : Option Nat → CSt → Prop) (s : CSt) (v0 : Nat) (v1 : Nat) (v2 : Option Nat) (v3 : Int32) : Prop := gLP (fun (K : CSt × Nat × Nat × Option Nat × Int32 → Prop) (x : CSt × Nat × Nat × Option Nat × Int32) => wpC_X7_liftFor_4_F post (fun s v0 v1 v2 v3 => K (s, v0, v1, v2, v3)) x.1 x.2.1 x.2.2.1 x.2.2.2.1 x.2.2.2.2) (s, v0, v1, v2, v3)
def wpC_X7_liftFor_0 (post : Option Nat → CSt → Prop) (s : CSt) (v0 : Nat) (v1 : Nat) : Prop := wpC_X7_liftFor_4 post s v0 v1 none 0
theorem wkC_X7_liftFor_80 {X : gT} {G : cG} {A : Nat → Prop} {H0 : Heap} {Q : State → Prop} (C : cC X cX7_liftFor 6 RX7 G A) (hsz : H0 = (g_s X).heap) (hR : 3 ≤ (g_R X).frames ∧ 64 ≤ (g_R X).locals ∧ 0 ≤ (g_R X).cells ∧ 0 ≤ (g_R X).slots) {post : Option Nat → CSt → Prop} (hret : ∀ (r : Option Nat) (τ : CSt) (lv : List (Nat × Value)) (pc : Nat), post r τ → decode cX7_liftFor pc = .ok (.areturn, 1) → gJ X (cWd G A H0) Q 0 0 τ lv pc [va_rf r]) {K4 : CSt → Nat → Nat → Option Nat → Int32 → Prop} (hK4 : ∀ (s : CSt) (v0 : Nat) (v1 : Nat) (v2 : Option Nat) (v3 : Int32), K4 s v0 v1 v2 v3 → gJ X (cWd G A H0) Q 0 0 s [(0, .ref v0), (1, .ref v1), (2, va_rf v2), (3, .int v3)] 4 []) (s : CSt) (v0 : Nat) (v1 : Nat) (v2 : Option Nat) (v3 : Int32) (hw : wpC_X7_liftFor_80 post K4 s v0 v1 v2 v3) : gJ X (cWd G A H0) Q 0 0 s [(0, .ref v0), (1, .ref v1), (2, va_rf v2), (3, .int v3)] 80 [] := by
  refine g_iinc (v := v3 + 1) (lv' := [(3, .int (v3 + 1)), (0, .ref v0), (1, .ref v1), (2, va_rf v2)]) C.1 3 dX7_liftFor_80 rfl rfl (by decide) (by simp [va_rf_cat]) ?_
  refine g_goto (tgt := 4) C.1 dX7_liftFor_83 (by decide) ?_
  refine gJ.sub [1, 2, 3, 0] rfl ?_
  exact hK4 _ _ _ _ _ hw
theorem wkC_X7_liftFor_77 {X : gT} {G : cG} {A : Nat → Prop} {H0 : Heap} {Q : State → Prop} (C : cC X cX7_liftFor 6 RX7 G A) (hsz : H0 = (g_s X).heap) (hR : 3 ≤ (g_R X).frames ∧ 64 ≤ (g_R X).locals ∧ 0 ≤ (g_R X).cells ∧ 0 ≤ (g_R X).slots) {post : Option Nat → CSt → Prop} (hret : ∀ (r : Option Nat) (τ : CSt) (lv : List (Nat × Value)) (pc : Nat), post r τ → decode cX7_liftFor pc = .ok (.areturn, 1) → gJ X (cWd G A H0) Q 0 0 τ lv pc [va_rf r]) {K4 : CSt → Nat → Nat → Option Nat → Int32 → Prop} (hK4 : ∀ (s : CSt) (v0 : Nat) (v1 : Nat) (v2 : Option Nat) (v3 : Int32), K4 s v0 v1 v2 v3 → gJ X (cWd G A H0) Q 0 0 s [(0, .ref v0), (1, .ref v1), (2, va_rf v2), (3, .int v3)] 4 []) (s : CSt) (v0 : Nat) (v1 : Nat) (v3 : Int32) (v4 : Nat) (hw : wpC_X7_liftFor_77 post K4 s v0 v1 v3 v4) : gJ X (cWd G A H0) Q 0 0 s [(0, .ref v0), (1, .ref v1), (3, .int v3), (4, .ref v4)] 77 [] := by
  refine g_aload C.1 3 dX7_liftFor_77 rfl ?_
  refine g_astore_n (lv' := [(2, .ref v4), (0, .ref v0), (1, .ref v1), (3, .int v3), (4, .ref v4)]) C.1 dX7_liftFor_79 rfl (by decide) rfl ?_
  refine gJ.sub [1, 2, 0, 3] rfl ?_
  exact wkC_X7_liftFor_80 C hsz hR hret hK4 _ _ _ _ _ hw
theorem wkC_X7_liftFor_54 {X : gT} {G : cG} {A : Nat → Prop} {H0 : Heap} {Q : State → Prop} (C : cC X cX7_liftFor 6 RX7 G A) (hsz : H0 = (g_s X).heap) (hR : 3 ≤ (g_R X).frames ∧ 64 ≤ (g_R X).locals ∧ 0 ≤ (g_R X).cells ∧ 0 ≤ (g_R X).slots) {post : Option Nat → CSt → Prop} (hret : ∀ (r : Option Nat) (τ : CSt) (lv : List (Nat × Value)) (pc : Nat), post r τ → decode cX7_liftFor pc = .ok (.areturn, 1) → gJ X (cWd G A H0) Q 0 0 τ lv pc [va_rf r]) {K4 : CSt → Nat → Nat → Option Nat → Int32 → Prop} (hK4 : ∀ (s : CSt) (v0 : Nat) (v1 : Nat) (v2 : Option Nat) (v3 : Int32), K4 s v0 v1 v2 v3 → gJ X (cWd G A H0) Q 0 0 s [(0, .ref v0), (1, .ref v1), (2, va_rf v2), (3, .int v3)] 4 []) (s : CSt) (v0 : Nat) (v1 : Nat) (v2 : Option Nat) (v3 : Int32) (v4 : Nat) (w0 : Int32) (hw : wpC_X7_liftFor_54 post K4 s v0 v1 v2 v3 v4 w0) : gJ X (cWd G A H0) Q 0 0 s [(0, .ref v0), (1, .ref v1), (2, va_rf v2), (3, .int v3), (4, .ref v4)] 54 [.int w0] := by
  refine g_istore (lv' := [(5, .int w0), (0, .ref v0), (1, .ref v1), (2, va_rf v2), (3, .int v3), (4, .ref v4)]) C.1 dX7_liftFor_54 (by decide) rfl ?_
  refine g_iload C.1 0 dX7_liftFor_56 rfl ?_
  refine g_if_eq (tgt := 80) C.1 dX7_liftFor_58 (by decide) (fun h1 => ?_) (fun h1 => ?_)
  · replace hw := hw.1 h1
    refine gJ.sub [1, 2, 3, 4] rfl ?_
    exact wkC_X7_liftFor_80 C hsz hR hret hK4 _ _ _ _ _ hw
  · replace hw := hw.2 h1
    refine g_qload_n C.1 3 dX7_liftFor_61 rfl rfl ?_
    refine g_ifnull (tgt := 77) C.1 dX7_liftFor_62 (by decide) (fun h2 => ?_) (fun a3 h2 => ?_)
    · replace hw := hw.1 h2
      refine gJ.sub [1, 2, 4, 5] rfl ?_
      exact wkC_X7_liftFor_77 C hsz hR hret hK4 _ _ _ _ _ hw
    · replace hw := hw.2 a3 h2
      rw [h2]
      refine g_aload C.1 5 dX7_liftFor_65 rfl ?_
      refine c_get3 C hw.1 7 (by decide) kC_542 (fun _ h => h) rfl dX7_liftFor_67 ?_
      replace hw := hw.2
      refine g_aload_n C.1 3 dX7_liftFor_70 rfl rfl ?_
      refine c_get3 C hw.1 7 (by decide) kC_542 (fun _ h => h) rfl dX7_liftFor_71 ?_
      replace hw := hw.2
      refine g_icmp_ge (tgt := 80) C.1 dX7_liftFor_74 (by decide) (fun h4 => ?_) (fun h4 => ?_)
      · replace hw := hw.1 h4
        refine gJ.sub [1, 2, 3, 4] rfl ?_
        exact wkC_X7_liftFor_80 C hsz hR hret hK4 _ _ _ _ _ hw
      · replace hw := hw.2 h4
        refine gJ.sub [1, 2, 4, 5] rfl ?_
        exact wkC_X7_liftFor_77 C hsz hR hret hK4 _ _ _ _ _ hw
theorem wkC_X7_liftFor_53 {X : gT} {G : cG} {A : Nat → Prop} {H0 : Heap} {Q : State → Prop} (C : cC X cX7_liftFor 6 RX7 G A) (hsz : H0 = (g_s X).heap) (hR : 3 ≤ (g_R X).frames ∧ 64 ≤ (g_R X).locals ∧ 0 ≤ (g_R X).cells ∧ 0 ≤ (g_R X).slots) {post : Option Nat → CSt → Prop} (hret : ∀ (r : Option Nat) (τ : CSt) (lv : List (Nat × Value)) (pc : Nat), post r τ → decode cX7_liftFor pc = .ok (.areturn, 1) → gJ X (cWd G A H0) Q 0 0 τ lv pc [va_rf r]) {K4 : CSt → Nat → Nat → Option Nat → Int32 → Prop} (hK4 : ∀ (s : CSt) (v0 : Nat) (v1 : Nat) (v2 : Option Nat) (v3 : Int32), K4 s v0 v1 v2 v3 → gJ X (cWd G A H0) Q 0 0 s [(0, .ref v0), (1, .ref v1), (2, va_rf v2), (3, .int v3)] 4 []) (s : CSt) (v0 : Nat) (v1 : Nat) (v2 : Option Nat) (v3 : Int32) (v4 : Nat) (hw : wpC_X7_liftFor_53 post K4 s v0 v1 v2 v3 v4) : gJ X (cWd G A H0) Q 0 0 s [(0, .ref v0), (1, .ref v1), (2, va_rf v2), (3, .int v3), (4, .ref v4)] 53 [] := by
  refine g_iconst (v := 0) C.1 dX7_liftFor_53 (by decide) ?_
  exact wkC_X7_liftFor_54 C hsz hR hret hK4 _ _ _ _ _ _ _ hw
theorem wkC_X7_liftFor_4_F {X : gT} {G : cG} {A : Nat → Prop} {H0 : Heap} {Q : State → Prop} (C : cC X cX7_liftFor 6 RX7 G A) (hsz : H0 = (g_s X).heap) (hR : 3 ≤ (g_R X).frames ∧ 64 ≤ (g_R X).locals ∧ 0 ≤ (g_R X).cells ∧ 0 ≤ (g_R X).slots) {post : Option Nat → CSt → Prop} (hret : ∀ (r : Option Nat) (τ : CSt) (lv : List (Nat × Value)) (pc : Nat), post r τ → decode cX7_liftFor pc = .ok (.areturn, 1) → gJ X (cWd G A H0) Q 0 0 τ lv pc [va_rf r]) {K4 : CSt → Nat → Nat → Option Nat → Int32 → Prop} (hK4 : ∀ (s : CSt) (v0 : Nat) (v1 : Nat) (v2 : Option Nat) (v3 : Int32), K4 s v0 v1 v2 v3 → gJ X (cWd G A H0) Q 0 0 s [(0, .ref v0), (1, .ref v1), (2, va_rf v2), (3, .int v3)] 4 []) (s : CSt) (v0 : Nat) (v1 : Nat) (v2 : Option Nat) (v3 : Int32) (hw : wpC_X7_liftFor_4_F post K4 s v0 v1 v2 v3) : gJ X (cWd G A H0) Q 0 0 s [(0, .ref v0), (1, .ref v1), (2, va_rf v2), (3, .int v3)] 4 [] := by
  refine g_iload_n C.1 3 dX7_liftFor_4 rfl rfl ?_
  refine g_aload_n C.1 0 dX7_liftFor_5 rfl rfl ?_
  refine c_get7 C hw.1 0 (by decide) kC_394 (fun _ h => h) rfl dX7_liftFor_6 ?_
  replace hw := hw.2
  obtain ⟨a5, ha5, hw⟩ := hw
  rw [ha5]
  refine c_callVi (vs := []) C hsz (cC_Jx4a65c_size_8abf5 (g_l X) G s _ _ hw.2) kC_13 kC_431 kC_11 kC_12 kC_14 hdC_Jx4a65c_size_8abf5 (c_recv0 C hw.1) ⟨(Nat.le_trans (Nat.le_of_ble_eq_true rfl) hR.1), (Nat.le_trans (Nat.le_of_ble_eq_true rfl) hR.2.1)⟩ ⟨(Nat.le_trans (Nat.le_of_ble_eq_true rfl) hR.2.2.1), (Nat.le_trans (Nat.le_of_ble_eq_true rfl) hR.2.2.2)⟩ dX7_liftFor_9 rfl (Nat.le_of_ble_eq_true rfl) (fun r7 s6 hw => ?_)
  refine g_icmp_ge (tgt := 86) C.1 dX7_liftFor_12 (by decide) (fun h8 => ?_) (fun h8 => ?_)
  · replace hw := hw.1 h8
    refine g_qload_n C.1 2 dX7_liftFor_86 rfl rfl ?_
    exact hret v2 _ _ _ hw dX7_liftFor_87
  · replace hw := hw.2 h8
    refine g_aload_n C.1 0 dX7_liftFor_15 rfl rfl ?_
    refine c_get7 C hw.1 0 (by decide) kC_394 (fun _ h => h) rfl dX7_liftFor_16 ?_
    replace hw := hw.2
    obtain ⟨a9, ha9, hw⟩ := hw
    rw [ha9]
    refine g_iload_n C.1 3 dX7_liftFor_19 rfl rfl ?_
    refine c_callVq (vs := [.int v3]) C hsz (cC_Jx4a65c_get_915e3 (g_l X) G s6 _ _ _ hw.2) kC_13 kC_455 kC_17 kC_18 kC_19 hdC_Jx4a65c_get_915e3 (c_recv0 C hw.1) ⟨(Nat.le_trans (Nat.le_of_ble_eq_true rfl) hR.1), (Nat.le_trans (Nat.le_of_ble_eq_true rfl) hR.2.1)⟩ ⟨(Nat.le_trans (Nat.le_of_ble_eq_true rfl) hR.2.2.1), (Nat.le_trans (Nat.le_of_ble_eq_true rfl) hR.2.2.2)⟩ dX7_liftFor_20 rfl (Nat.le_of_ble_eq_true rfl) (fun r11 s10 hw => ?_)
    obtain ⟨a12, ha12, hw⟩ := hw
    rw [ha12]
    refine c_cast3 C hw.1 kC_454 dX7_liftFor_23 ?_
    replace hw := hw.2
    refine g_astore (lv' := [(4, .ref a12), (0, .ref v0), (1, .ref v1), (2, va_rf v2), (3, .int v3)]) C.1 dX7_liftFor_26 (by decide) rfl ?_
    refine g_aload C.1 0 dX7_liftFor_28 rfl ?_
    refine c_get3 C hw.1 1 (by decide) kC_541 (fun _ h => h) rfl dX7_liftFor_30 ?_
    replace hw := hw.2
    refine g_aload_n C.1 2 dX7_liftFor_33 rfl rfl ?_
    refine c_get2 C hw.1 4 (by decide) kC_537 (fun _ h => h) rfl dX7_liftFor_34 ?_
    replace hw := hw.2
    refine g_icmp_ne (tgt := 53) C.1 dX7_liftFor_37 (by decide) (fun h13 => ?_) (fun h13 => ?_)
    · replace hw := hw.1 h13
      refine gJ.sub [1, 2, 3, 4, 0] rfl ?_
      exact wkC_X7_liftFor_53 C hsz hR hret hK4 _ _ _ _ _ _ hw
    · replace hw := hw.2 h13
      refine g_aload_n C.1 1 dX7_liftFor_40 rfl rfl ?_
      refine g_aload C.1 0 dX7_liftFor_41 rfl ?_
      refine c_callVi (vs := [.ref a12]) C hsz (cC_X7_isRunning (g_l X) G s10 _ _ _ hw.2) kC_412 kC_464 kC_465 kC_466 kC_460 hdC_X7_isRunning (c_recv7 C hw.1) ⟨(Nat.le_trans (Nat.le_of_ble_eq_true rfl) hR.1), (Nat.le_trans (Nat.le_of_ble_eq_true rfl) hR.2.1)⟩ ⟨(Nat.le_trans (Nat.le_of_ble_eq_true rfl) hR.2.2.1), (Nat.le_trans (Nat.le_of_ble_eq_true rfl) hR.2.2.2)⟩ dX7_liftFor_43 rfl (Nat.le_of_ble_eq_true rfl) (fun r15 s14 hw => ?_)
      refine g_if_eq (tgt := 53) C.1 dX7_liftFor_46 (by decide) (fun h16 => ?_) (fun h16 => ?_)
      · replace hw := hw.1 h16
        refine gJ.sub [1, 2, 3, 4, 0] rfl ?_
        exact wkC_X7_liftFor_53 C hsz hR hret hK4 _ _ _ _ _ _ hw
      · replace hw := hw.2 h16
        refine g_iconst (v := 1) C.1 dX7_liftFor_49 (by decide) ?_
        refine g_goto (tgt := 54) C.1 dX7_liftFor_50 (by decide) ?_
        refine gJ.sub [1, 2, 3, 4, 0] rfl ?_
        exact wkC_X7_liftFor_54 C hsz hR hret hK4 _ _ _ _ _ _ _ hw
theorem wkC_X7_liftFor_4 {X : gT} {G : cG} {A : Nat → Prop} {H0 : Heap} {Q : State → Prop} (C : cC X cX7_liftFor 6 RX7 G A) (hsz : H0 = (g_s X).heap) (hR : 3 ≤ (g_R X).frames ∧ 64 ≤ (g_R X).locals ∧ 0 ≤ (g_R X).cells ∧ 0 ≤ (g_R X).slots) {post : Option Nat → CSt → Prop} (hret : ∀ (r : Option Nat) (τ : CSt) (lv : List (Nat × Value)) (pc : Nat), post r τ → decode cX7_liftFor pc = .ok (.areturn, 1) → gJ X (cWd G A H0) Q 0 0 τ lv pc [va_rf r]) (s : CSt) (v0 : Nat) (v1 : Nat) (v2 : Option Nat) (v3 : Int32) (hw : wpC_X7_liftFor_4 post s v0 v1 v2 v3) : gJ X (cWd G A H0) Q 0 0 s [(0, .ref v0), (1, .ref v1), (2, va_rf v2), (3, .int v3)] 4 [] := 
  hw (fun (x : CSt × Nat × Nat × Option Nat × Int32) => (fun s v0 v1 v2 v3 => gJ X (cWd G A H0) Q 0 0 s [(0, .ref v0), (1, .ref v1), (2, va_rf v2), (3, .int v3)] 4 []) x.1 x.2.1 x.2.2.1 x.2.2.2.1 x.2.2.2.2) (fun x hx => wkC_X7_liftFor_4_F C hsz hR hret (K4 := (fun s v0 v1 v2 v3 => gJ X (cWd G A H0) Q 0 0 s [(0, .ref v0), (1, .ref v1), (2, va_rf v2), (3, .int v3)] 4 [])) (fun _ _ _ _ _ h => h) x.1 x.2.1 x.2.2.1 x.2.2.2.1 x.2.2.2.2 hx)
theorem wkC_X7_liftFor_0 {X : gT} {G : cG} {A : Nat → Prop} {H0 : Heap} {Q : State → Prop} (C : cC X cX7_liftFor 6 RX7 G A) (hsz : H0 = (g_s X).heap) (hR : 3 ≤ (g_R X).frames ∧ 64 ≤ (g_R X).locals ∧ 0 ≤ (g_R X).cells ∧ 0 ≤ (g_R X).slots) {post : Option Nat → CSt → Prop} (hret : ∀ (r : Option Nat) (τ : CSt) (lv : List (Nat × Value)) (pc : Nat), post r τ → decode cX7_liftFor pc = .ok (.areturn, 1) → gJ X (cWd G A H0) Q 0 0 τ lv pc [va_rf r]) (s : CSt) (v0 : Nat) (v1 : Nat) (hw : wpC_X7_liftFor_0 post s v0 v1) : gJ X (cWd G A H0) Q 0 0 s [(0, .ref v0), (1, .ref v1)] 0 [] := by
  refine g_null C.1 dX7_liftFor_0 ?_
  refine g_nstore_n (lv' := [(2, .null), (0, .ref v0), (1, .ref v1)]) C.1 dX7_liftFor_1 rfl (by decide) rfl ?_
  refine g_iconst (v := 0) C.1 dX7_liftFor_2 (by decide) ?_
  refine g_istore_n (lv' := [(3, .int 0), (2, .null), (0, .ref v0), (1, .ref v1)]) C.1 dX7_liftFor_3 rfl (by decide) rfl ?_
  refine gJ.sub [2, 3, 1, 0] rfl ?_
  exact wkC_X7_liftFor_4 C hsz hR hret _ _ _ _ _ hw
theorem hdC_X7_liftFor : yX7_liftFor.cls = RX7 ∧ yX7_liftFor.cls ≠ "java/lang/invoke/MethodHandle" ∧ yX7_liftFor.cls ≠ "java/lang/invoke/VarHandle" ∧ (parseMethodDescriptor yX7_liftFor.desc).map (fun d => d.parameters.length) = some 1 := by decide +kernel
theorem cC_X7_liftFor (l : Launch) (G : cG) (s : CSt) (v0 : Nat) (v1 : Nat) (post : Option Nat → CSt → Prop) (hw : wpC_X7_liftFor_0 post s v0 v1) : cMq l yX7_liftFor cX7_liftFor 6 (.object "SkiHill$Lift") 3 64 0 0 G s [.ref v0, .ref v1] post := cMq_of (by decide +kernel) rfl (by first | exact Or.inl ⟨_, rfl⟩ | exact Or.inr ⟨_, rfl⟩) (Nat.le_of_ble_eq_true rfl) (fun X A H0 Q hl hR hsz hnm C hret => wkC_X7_liftFor_0 C hsz hR hret s v0 v1 hw)
def wpC_X7_send_0 (mc ms : Nat) (post : CSt → Prop) (s : CSt) (v0 : Nat) (v1 : Nat) (v2 : Int32) : Prop := cAt s 7 v0 ∧ wpC_X7_slopeFor_0 (fun r2 s1 => (r2 = none → cAt s1 7 v0 ∧ wpC_X7_liftFor_0 (fun r6 s5 => (r6 = none → 0 ≤ mc ∧ 0 ≤ ms ∧ post s5) ∧ (∀ a8 : Nat, r6 = some a8 → cAt s5 2 v1 ∧ wpC_X2_waitAt_0 (fun s9 => ∃ m10 m11 : Nat, 0 + m10 ≤ mc ∧ 0 + m11 ≤ ms ∧ cAt s9 3 a8 ∧ wpC_X3_takeLast_0 m10 m11 (fun s12 => 0 + m10 ≤ mc ∧ 0 + m11 ≤ ms ∧ post s12) s9 a8 v1) s5 v1 a8)) s1 v0 v1) ∧ (∀ a4 : Nat, r2 = some a4 → cAt s1 2 v1 ∧ wpC_X2_goDown_0 (fun s14 => cAt s14 7 v0 ∧ cAt s14 2 v1 ∧ cAt s14 6 a4 ∧ wpC_X6_wear_0 (fun r16 s15 => cAt s15 7 v0 ∧ ∀ s17 : CSt, s17 = csJ s15 127 v0 ((cJ s14 127 v0) + r16.toInt64) → 0 ≤ mc ∧ 0 ≤ ms ∧ post s17) s14 a4 (cI s14 33 v1)) s1 v1 a4)) s v0 v1 v2
theorem wkC_X7_send_0 {mc ms : Nat} {X : gT} {G : cG} {A : Nat → Prop} {H0 : Heap} {Q : State → Prop} (C : cC X cX7_send 5 RX7 G A) (hsz : H0 = (g_s X).heap) (hR : 8 ≤ (g_R X).frames ∧ 212 ≤ (g_R X).locals ∧ mc ≤ (g_R X).cells ∧ ms ≤ (g_R X).slots) {post : CSt → Prop} (hret : ∀ (τ : CSt) (lv : List (Nat × Value)) (pc : Nat), post τ → decode cX7_send pc = .ok (.return_, 1) → gJ X (cWd G A H0) Q mc ms τ lv pc []) (s : CSt) (v0 : Nat) (v1 : Nat) (v2 : Int32) (hw : wpC_X7_send_0 mc ms post s v0 v1 v2) : gJ X (cWd G A H0) Q 0 0 s [(0, .ref v0), (1, .ref v1), (2, .int v2)] 0 [] := by
  refine g_aload_n C.1 0 dX7_send_0 rfl rfl ?_
  refine g_aload_n C.1 1 dX7_send_1 rfl rfl ?_
  refine g_iload_n C.1 2 dX7_send_2 rfl rfl ?_
  refine c_callVq (vs := [.ref v1, .int v2]) C hsz (cC_X7_slopeFor (g_l X) G s _ _ _ _ hw.2) kC_412 kC_546 kC_547 kC_548 kC_540 hdC_X7_slopeFor (c_recv7 C hw.1) ⟨(Nat.le_trans (Nat.le_of_ble_eq_true rfl) hR.1), (Nat.le_trans (Nat.le_of_ble_eq_true rfl) hR.2.1)⟩ ⟨Nat.le_trans (k0_ mc ms).1 hR.2.2.1, Nat.le_trans (k0_ mc ms).2 hR.2.2.2⟩ dX7_send_3 rfl (Nat.le_of_ble_eq_true rfl) (fun r2 s1 hw => ?_)
  refine g_qstore_n (lv' := [(3, va_rf r2), (0, .ref v0), (1, .ref v1), (2, .int v2)]) C.1 dX7_send_6 rfl (by decide) rfl ?_
  refine g_qload_n C.1 0 dX7_send_7 rfl rfl ?_
  refine g_ifnull (tgt := 35) C.1 dX7_send_8 (by decide) (fun h3 => ?_) (fun a4 h3 => ?_)
  · replace hw := hw.1 h3
    refine g_aload_n C.1 1 dX7_send_35 rfl rfl ?_
    refine g_aload_n C.1 2 dX7_send_36 rfl rfl ?_
    refine c_callVq (vs := [.ref v1]) C hsz (cC_X7_liftFor (g_l X) G s1 _ _ _ hw.2) kC_412 kC_555 kC_556 kC_557 kC_543 hdC_X7_liftFor (c_recv7 C hw.1) ⟨(Nat.le_trans (Nat.le_of_ble_eq_true rfl) hR.1), (Nat.le_trans (Nat.le_of_ble_eq_true rfl) hR.2.1)⟩ ⟨Nat.le_trans (k0_ mc ms).1 hR.2.2.1, Nat.le_trans (k0_ mc ms).2 hR.2.2.2⟩ dX7_send_37 rfl (Nat.le_of_ble_eq_true rfl) (fun r6 s5 hw => ?_)
    refine g_qstore (lv' := [(4, va_rf r6), (3, va_rf r2), (0, .ref v0), (1, .ref v1), (2, .int v2)]) C.1 dX7_send_40 (by decide) (by simp [va_rf_cat]) ?_
    refine g_qload C.1 0 dX7_send_42 rfl ?_
    refine g_ifnull (tgt := 59) C.1 dX7_send_44 (by decide) (fun h7 => ?_) (fun a8 h7 => ?_)
    · replace hw := hw.1 h7
      refine gJ.widen hw.1 hw.2.1 ?_
      replace hw := hw.2.2
      exact hret _ _ _ hw dX7_send_59
    · replace hw := hw.2 a8 h7
      rw [h7]
      refine g_aload_n C.1 3 dX7_send_47 rfl rfl ?_
      refine g_aload C.1 0 dX7_send_48 rfl ?_
      refine c_callVv (vs := [.ref a8]) C hsz (cC_X2_waitAt (g_l X) G s5 _ _ _ hw.2) kC_224 kC_558 kC_559 kC_560 kC_126 hdC_X2_waitAt (c_recv2 C hw.1) ⟨(Nat.le_trans (Nat.le_of_ble_eq_true rfl) hR.1), (Nat.le_trans (Nat.le_of_ble_eq_true rfl) hR.2.1)⟩ ⟨Nat.le_trans (k0_ mc ms).1 hR.2.2.1, Nat.le_trans (k0_ mc ms).2 hR.2.2.2⟩ dX7_send_50 rfl (Nat.le_of_ble_eq_true rfl) (fun s9 hw => ?_)
      refine g_aload C.1 0 dX7_send_53 rfl ?_
      refine g_aload_n C.1 3 dX7_send_55 rfl rfl ?_
      obtain ⟨m10, m11, gm10, gm11, hw⟩ := hw
      have hk13 : 0 + m10 ≤ mc ∧ 0 + m11 ≤ ms := ⟨gm10, gm11⟩
      refine c_callVv (vs := [.ref v1]) C hsz (cC_X3_takeLast m10 m11 (g_l X) G s9 _ _ _ hw.2) kC_426 kC_561 kC_562 kC_563 kC_205 hdC_X3_takeLast (c_recv3 C hw.1) ⟨(Nat.le_trans (Nat.le_of_ble_eq_true rfl) hR.1), (Nat.le_trans (Nat.le_of_ble_eq_true rfl) hR.2.1)⟩ ⟨Nat.le_trans hk13.1 hR.2.2.1, Nat.le_trans hk13.2 hR.2.2.2⟩ dX7_send_56 rfl (Nat.le_of_ble_eq_true rfl) (fun s12 hw => ?_)
      refine gJ.widen hw.1 hw.2.1 ?_
      replace hw := hw.2.2
      exact hret _ _ _ hw dX7_send_59
  · replace hw := hw.2 a4 h3
    rw [h3]
    refine g_aload_n C.1 2 dX7_send_11 rfl rfl ?_
    refine g_aload_n C.1 0 dX7_send_12 rfl rfl ?_
    refine c_callVv (vs := [.ref a4]) C hsz (cC_X2_goDown (g_l X) G s1 _ _ _ hw.2) kC_224 kC_549 kC_550 kC_551 kC_124 hdC_X2_goDown (c_recv2 C hw.1) ⟨(Nat.le_trans (Nat.le_of_ble_eq_true rfl) hR.1), (Nat.le_trans (Nat.le_of_ble_eq_true rfl) hR.2.1)⟩ ⟨Nat.le_trans (k0_ mc ms).1 hR.2.2.1, Nat.le_trans (k0_ mc ms).2 hR.2.2.2⟩ dX7_send_13 rfl (Nat.le_of_ble_eq_true rfl) (fun s14 hw => ?_)
    refine g_aload_n C.1 1 dX7_send_16 rfl rfl ?_
    refine g_dup C.1 dX7_send_17 rfl ?_
    refine c_get7 C hw.1 15 (by decide) kC_544 (fun _ h => h) rfl dX7_send_18 ?_
    replace hw := hw.2
    refine g_aload_n C.1 0 dX7_send_21 rfl rfl ?_
    refine g_aload_n C.1 2 dX7_send_22 rfl rfl ?_
    refine c_get2 C hw.1 1 (by decide) kC_545 (fun _ h => h) rfl dX7_send_23 ?_
    replace hw := hw.2
    refine c_callVi (vs := [.int (cI s14 33 v1)]) C hsz (cC_X6_wear (g_l X) G s14 _ _ _ hw.2) kC_447 kC_552 kC_553 kC_554 kC_391 hdC_X6_wear (c_recv6 C hw.1) ⟨(Nat.le_trans (Nat.le_of_ble_eq_true rfl) hR.1), (Nat.le_trans (Nat.le_of_ble_eq_true rfl) hR.2.1)⟩ ⟨Nat.le_trans (k0_ mc ms).1 hR.2.2.1, Nat.le_trans (k0_ mc ms).2 hR.2.2.2⟩ dX7_send_26 rfl (Nat.le_of_ble_eq_true rfl) (fun r16 s15 hw => ?_)
    refine g_i2l C.1 dX7_send_29 ?_
    refine g_ladd C.1 dX7_send_30 ?_
    refine c_put7 C (τ := csJ s15 127 v0 ((cJ s14 127 v0) + r16.toInt64)) hw.1 15 (by decide) kC_544 (fun _ h => h) rfl (ty := .long) (by decide +kernel) rfl rfl rfl hw.1.2 rfl (cx_7_15 _ _ _) (fun _ hb => csJ_o hb) dX7_send_31 ?_
    replace hw := hw.2
    refine gJ.nm (fun s17 es17 => ?_)
    replace hw := hw s17 es17
    refine gJ.widen hw.1 hw.2.1 ?_
    replace hw := hw.2.2
    exact hret _ _ _ hw dX7_send_34
theorem hdC_X7_send : yX7_send.cls = RX7 ∧ yX7_send.cls ≠ "java/lang/invoke/MethodHandle" ∧ yX7_send.cls ≠ "java/lang/invoke/VarHandle" ∧ (parseMethodDescriptor yX7_send.desc).map (fun d => d.parameters.length) = some 2 := by decide +kernel
theorem cC_X7_send (mc ms : Nat) (l : Launch) (G : cG) (s : CSt) (v0 : Nat) (v1 : Nat) (v2 : Int32) (post : CSt → Prop) (hw : wpC_X7_send_0 mc ms post s v0 v1 v2) : cMv l yX7_send cX7_send 5 8 212 mc ms G s [.ref v0, .ref v1, .int v2] post := cMv_of (by decide +kernel) rfl (Nat.le_of_ble_eq_true rfl) (fun X A H0 Q hl hR hsz hnm C hret => wkC_X7_send_0 C hsz hR hret s v0 v1 v2 hw)
def wpC_X7_sendFree_46 (mc ms : Nat) (post : CSt → Prop) (K2 : CSt → Nat → Nat → Nat → Int32 → Int32 → Prop) (s : CSt) (k : Nat) (n : Nat) (v0 : Nat) (v1 : Int32) (v2 : Int32) : Prop := K2 s k n v0 v1 (v2 + 1)
def wpC_X7_sendFree_2_F (mc ms : Nat) (post : CSt → Prop) (K2 : CSt → Nat → Nat → Nat → Int32 → Int32 → Prop) (s : CSt) (k : Nat) (n : Nat) (v0 : Nat) (v1 : Int32) (v2 : Int32) : Prop := cAt s 7 v0 ∧ ∃ a1 : Nat, cR s 115 v0 = some a1 ∧ cAt s 0 a1 ∧ wpC_Jx4a65c_size_8abf5_0 (fun r3 s2 => (r3 ≤ v2 → k ≤ mc ∧ n ≤ ms ∧ post s2) ∧ (¬ r3 ≤ v2 → cAt s2 7 v0 ∧ ∃ a5 : Nat, cR s2 115 v0 = some a5 ∧ cAt s2 0 a5 ∧ wpC_Jx4a65c_get_915e3_0 (fun r7 s6 => ∃ a8 : Nat, r7 = some a8 ∧ cAt s6 2 a8 ∧ cAt s6 2 a8 ∧ (¬ (cI s6 35 a8) = 0 → wpC_X7_sendFree_46 mc ms post K2 s6 k n v0 v1 v2) ∧ ((cI s6 35 a8) = 0 → cAt s6 7 v0 ∧ ∃ a10 : Nat, cR s6 115 v0 = some a10 ∧ cAt s6 0 a10 ∧ wpC_Jx4a65c_get_915e3_0 (fun r12 s11 => ∃ a13 : Nat, r12 = some a13 ∧ cAt s11 2 a13 ∧ ∃ m14 m15 : Nat, k + m14 ≤ mc ∧ n + m15 ≤ ms ∧ cAt s11 7 v0 ∧ wpC_X7_send_0 m14 m15 (fun s16 => wpC_X7_sendFree_46 mc ms post K2 s16 (k + m14) (n + m15) v0 v1 v2) s11 v0 a13 v1) s6 a10 v2)) s2 a5 v2)) s a1
def wpC_X7_sendFree_2 (mc ms : Nat) (post : CSt → Prop) (s : CSt) (k : Nat) (n : Nat) (v0 : Nat) (v1 : Int32) (v2 : Int32) : Prop := gLP (fun (K : CSt × Nat × Nat × Nat × Int32 × Int32 → Prop) (x : CSt × Nat × Nat × Nat × Int32 × Int32) => wpC_X7_sendFree_2_F mc ms post (fun s k n v0 v1 v2 => K (s, k, n, v0, v1, v2)) x.1 x.2.1 x.2.2.1 x.2.2.2.1 x.2.2.2.2.1 x.2.2.2.2.2) (s, k, n, v0, v1, v2)
def wpC_X7_sendFree_0 (mc ms : Nat) (post : CSt → Prop) (s : CSt) (v0 : Nat) (v1 : Int32) : Prop := wpC_X7_sendFree_2 mc ms post s 0 0 v0 v1 0
theorem wkC_X7_sendFree_46 {mc ms : Nat} {X : gT} {G : cG} {A : Nat → Prop} {H0 : Heap} {Q : State → Prop} (C : cC X cX7_sendFree 3 RX7 G A) (hsz : H0 = (g_s X).heap) (hR : 9 ≤ (g_R X).frames ∧ 236 ≤ (g_R X).locals ∧ mc ≤ (g_R X).cells ∧ ms ≤ (g_R X).slots) {post : CSt → Prop} (hret : ∀ (τ : CSt) (lv : List (Nat × Value)) (pc : Nat), post τ → decode cX7_sendFree pc = .ok (.return_, 1) → gJ X (cWd G A H0) Q mc ms τ lv pc []) {K2 : CSt → Nat → Nat → Nat → Int32 → Int32 → Prop} (hK2 : ∀ (s : CSt) (k : Nat) (n : Nat) (v0 : Nat) (v1 : Int32) (v2 : Int32), K2 s k n v0 v1 v2 → k ≤ mc ∧ n ≤ ms → gJ X (cWd G A H0) Q k n s [(0, .ref v0), (1, .int v1), (2, .int v2)] 2 []) (s : CSt) (k : Nat) (n : Nat) (v0 : Nat) (v1 : Int32) (v2 : Int32) (hk : k ≤ mc ∧ n ≤ ms) (hw : wpC_X7_sendFree_46 mc ms post K2 s k n v0 v1 v2) : gJ X (cWd G A H0) Q k n s [(0, .ref v0), (1, .int v1), (2, .int v2)] 46 [] := by
  refine g_iinc (v := v2 + 1) (lv' := [(2, .int (v2 + 1)), (0, .ref v0), (1, .int v1)]) C.1 2 dX7_sendFree_46 rfl rfl (by decide) rfl ?_
  refine g_goto (tgt := 2) C.1 dX7_sendFree_49 (by decide) ?_
  refine gJ.sub [1, 2, 0] rfl ?_
  exact hK2 _ _ _ _ _ _ hw hk
theorem wkC_X7_sendFree_2_F {mc ms : Nat} {X : gT} {G : cG} {A : Nat → Prop} {H0 : Heap} {Q : State → Prop} (C : cC X cX7_sendFree 3 RX7 G A) (hsz : H0 = (g_s X).heap) (hR : 9 ≤ (g_R X).frames ∧ 236 ≤ (g_R X).locals ∧ mc ≤ (g_R X).cells ∧ ms ≤ (g_R X).slots) {post : CSt → Prop} (hret : ∀ (τ : CSt) (lv : List (Nat × Value)) (pc : Nat), post τ → decode cX7_sendFree pc = .ok (.return_, 1) → gJ X (cWd G A H0) Q mc ms τ lv pc []) {K2 : CSt → Nat → Nat → Nat → Int32 → Int32 → Prop} (hK2 : ∀ (s : CSt) (k : Nat) (n : Nat) (v0 : Nat) (v1 : Int32) (v2 : Int32), K2 s k n v0 v1 v2 → k ≤ mc ∧ n ≤ ms → gJ X (cWd G A H0) Q k n s [(0, .ref v0), (1, .int v1), (2, .int v2)] 2 []) (s : CSt) (k : Nat) (n : Nat) (v0 : Nat) (v1 : Int32) (v2 : Int32) (hk : k ≤ mc ∧ n ≤ ms) (hw : wpC_X7_sendFree_2_F mc ms post K2 s k n v0 v1 v2) : gJ X (cWd G A H0) Q k n s [(0, .ref v0), (1, .int v1), (2, .int v2)] 2 [] := by
  refine g_iload_n C.1 2 dX7_sendFree_2 rfl rfl ?_
  refine g_aload_n C.1 0 dX7_sendFree_3 rfl rfl ?_
  refine c_get7 C hw.1 3 (by decide) kC_397 (fun _ h => h) rfl dX7_sendFree_4 ?_
  replace hw := hw.2
  obtain ⟨a1, ha1, hw⟩ := hw
  rw [ha1]
  refine c_callVi (vs := []) C hsz (cC_Jx4a65c_size_8abf5 (g_l X) G s _ _ hw.2) kC_13 kC_431 kC_11 kC_12 kC_14 hdC_Jx4a65c_size_8abf5 (c_recv0 C hw.1) ⟨(Nat.le_trans (Nat.le_of_ble_eq_true rfl) hR.1), (Nat.le_trans (Nat.le_of_ble_eq_true rfl) hR.2.1)⟩ ⟨Nat.le_trans hk.1 hR.2.2.1, Nat.le_trans hk.2 hR.2.2.2⟩ dX7_sendFree_7 rfl (Nat.le_of_ble_eq_true rfl) (fun r3 s2 hw => ?_)
  refine g_icmp_ge (tgt := 52) C.1 dX7_sendFree_10 (by decide) (fun h4 => ?_) (fun h4 => ?_)
  · replace hw := hw.1 h4
    refine gJ.widen hw.1 hw.2.1 ?_
    replace hw := hw.2.2
    exact hret _ _ _ hw dX7_sendFree_52
  · replace hw := hw.2 h4
    refine g_aload_n C.1 0 dX7_sendFree_13 rfl rfl ?_
    refine c_get7 C hw.1 3 (by decide) kC_397 (fun _ h => h) rfl dX7_sendFree_14 ?_
    replace hw := hw.2
    obtain ⟨a5, ha5, hw⟩ := hw
    rw [ha5]
    refine g_iload_n C.1 2 dX7_sendFree_17 rfl rfl ?_
    refine c_callVq (vs := [.int v2]) C hsz (cC_Jx4a65c_get_915e3 (g_l X) G s2 _ _ _ hw.2) kC_13 kC_455 kC_17 kC_18 kC_19 hdC_Jx4a65c_get_915e3 (c_recv0 C hw.1) ⟨(Nat.le_trans (Nat.le_of_ble_eq_true rfl) hR.1), (Nat.le_trans (Nat.le_of_ble_eq_true rfl) hR.2.1)⟩ ⟨Nat.le_trans hk.1 hR.2.2.1, Nat.le_trans hk.2 hR.2.2.2⟩ dX7_sendFree_18 rfl (Nat.le_of_ble_eq_true rfl) (fun r7 s6 hw => ?_)
    obtain ⟨a8, ha8, hw⟩ := hw
    rw [ha8]
    refine c_cast2 C hw.1 kC_565 dX7_sendFree_21 ?_
    replace hw := hw.2
    refine c_get2 C hw.1 3 (by decide) kC_566 (fun _ h => h) rfl dX7_sendFree_24 ?_
    replace hw := hw.2
    refine g_if_ne (tgt := 46) C.1 dX7_sendFree_27 (by decide) (fun h9 => ?_) (fun h9 => ?_)
    · replace hw := hw.1 h9
      exact wkC_X7_sendFree_46 C hsz hR hret hK2 _ _ _ _ _ _ hk hw
    · replace hw := hw.2 h9
      refine g_aload_n C.1 0 dX7_sendFree_30 rfl rfl ?_
      refine g_aload_n C.1 0 dX7_sendFree_31 rfl rfl ?_
      refine c_get7 C hw.1 3 (by decide) kC_397 (fun _ h => h) rfl dX7_sendFree_32 ?_
      replace hw := hw.2
      obtain ⟨a10, ha10, hw⟩ := hw
      rw [ha10]
      refine g_iload_n C.1 2 dX7_sendFree_35 rfl rfl ?_
      refine c_callVq (vs := [.int v2]) C hsz (cC_Jx4a65c_get_915e3 (g_l X) G s6 _ _ _ hw.2) kC_13 kC_455 kC_17 kC_18 kC_19 hdC_Jx4a65c_get_915e3 (c_recv0 C hw.1) ⟨(Nat.le_trans (Nat.le_of_ble_eq_true rfl) hR.1), (Nat.le_trans (Nat.le_of_ble_eq_true rfl) hR.2.1)⟩ ⟨Nat.le_trans hk.1 hR.2.2.1, Nat.le_trans hk.2 hR.2.2.2⟩ dX7_sendFree_36 rfl (Nat.le_of_ble_eq_true rfl) (fun r12 s11 hw => ?_)
      obtain ⟨a13, ha13, hw⟩ := hw
      rw [ha13]
      refine c_cast2 C hw.1 kC_565 dX7_sendFree_39 ?_
      replace hw := hw.2
      refine g_iload_n C.1 1 dX7_sendFree_42 rfl rfl ?_
      obtain ⟨m14, m15, gm14, gm15, hw⟩ := hw
      have hk17 : k + m14 ≤ mc ∧ n + m15 ≤ ms := ⟨gm14, gm15⟩
      refine c_callVv (vs := [.ref a13, .int v1]) C hsz (cC_X7_send m14 m15 (g_l X) G s11 _ _ _ _ hw.2) kC_412 kC_567 kC_568 kC_569 kC_564 hdC_X7_send (c_recv7 C hw.1) ⟨(Nat.le_trans (Nat.le_of_ble_eq_true rfl) hR.1), (Nat.le_trans (Nat.le_of_ble_eq_true rfl) hR.2.1)⟩ ⟨Nat.le_trans hk17.1 hR.2.2.1, Nat.le_trans hk17.2 hR.2.2.2⟩ dX7_sendFree_43 rfl (Nat.le_of_ble_eq_true rfl) (fun s16 hw => ?_)
      exact wkC_X7_sendFree_46 C hsz hR hret hK2 _ _ _ _ _ _ hk17 hw
theorem wkC_X7_sendFree_2 {mc ms : Nat} {X : gT} {G : cG} {A : Nat → Prop} {H0 : Heap} {Q : State → Prop} (C : cC X cX7_sendFree 3 RX7 G A) (hsz : H0 = (g_s X).heap) (hR : 9 ≤ (g_R X).frames ∧ 236 ≤ (g_R X).locals ∧ mc ≤ (g_R X).cells ∧ ms ≤ (g_R X).slots) {post : CSt → Prop} (hret : ∀ (τ : CSt) (lv : List (Nat × Value)) (pc : Nat), post τ → decode cX7_sendFree pc = .ok (.return_, 1) → gJ X (cWd G A H0) Q mc ms τ lv pc []) (s : CSt) (k : Nat) (n : Nat) (v0 : Nat) (v1 : Int32) (v2 : Int32) (hk : k ≤ mc ∧ n ≤ ms) (hw : wpC_X7_sendFree_2 mc ms post s k n v0 v1 v2) : gJ X (cWd G A H0) Q k n s [(0, .ref v0), (1, .int v1), (2, .int v2)] 2 [] := 
  hw (fun (x : CSt × Nat × Nat × Nat × Int32 × Int32) => (fun s k n v0 v1 v2 => (k ≤ mc ∧ n ≤ ms → gJ X (cWd G A H0) Q k n s [(0, .ref v0), (1, .int v1), (2, .int v2)] 2 [])) x.1 x.2.1 x.2.2.1 x.2.2.2.1 x.2.2.2.2.1 x.2.2.2.2.2) (fun x hx hk => wkC_X7_sendFree_2_F C hsz hR hret (K2 := (fun s k n v0 v1 v2 => (k ≤ mc ∧ n ≤ ms → gJ X (cWd G A H0) Q k n s [(0, .ref v0), (1, .int v1), (2, .int v2)] 2 []))) (fun _ _ _ _ _ _ h => h) x.1 x.2.1 x.2.2.1 x.2.2.2.1 x.2.2.2.2.1 x.2.2.2.2.2 hk hx) hk
theorem wkC_X7_sendFree_0 {mc ms : Nat} {X : gT} {G : cG} {A : Nat → Prop} {H0 : Heap} {Q : State → Prop} (C : cC X cX7_sendFree 3 RX7 G A) (hsz : H0 = (g_s X).heap) (hR : 9 ≤ (g_R X).frames ∧ 236 ≤ (g_R X).locals ∧ mc ≤ (g_R X).cells ∧ ms ≤ (g_R X).slots) {post : CSt → Prop} (hret : ∀ (τ : CSt) (lv : List (Nat × Value)) (pc : Nat), post τ → decode cX7_sendFree pc = .ok (.return_, 1) → gJ X (cWd G A H0) Q mc ms τ lv pc []) (s : CSt) (v0 : Nat) (v1 : Int32) (hw : wpC_X7_sendFree_0 mc ms post s v0 v1) : gJ X (cWd G A H0) Q 0 0 s [(0, .ref v0), (1, .int v1)] 0 [] := by
  refine g_iconst (v := 0) C.1 dX7_sendFree_0 (by decide) ?_
  refine g_istore_n (lv' := [(2, .int 0), (0, .ref v0), (1, .int v1)]) C.1 dX7_sendFree_1 rfl (by decide) rfl ?_
  refine gJ.sub [1, 2, 0] rfl ?_
  exact wkC_X7_sendFree_2 C hsz hR hret _ _ _ _ _ _ (k0_ mc ms) hw
theorem hdC_X7_sendFree : yX7_sendFree.cls = RX7 ∧ yX7_sendFree.cls ≠ "java/lang/invoke/MethodHandle" ∧ yX7_sendFree.cls ≠ "java/lang/invoke/VarHandle" ∧ (parseMethodDescriptor yX7_sendFree.desc).map (fun d => d.parameters.length) = some 1 := by decide +kernel
theorem cC_X7_sendFree (mc ms : Nat) (l : Launch) (G : cG) (s : CSt) (v0 : Nat) (v1 : Int32) (post : CSt → Prop) (hw : wpC_X7_sendFree_0 mc ms post s v0 v1) : cMv l yX7_sendFree cX7_sendFree 3 9 236 mc ms G s [.ref v0, .int v1] post := cMv_of (by decide +kernel) rfl (Nat.le_of_ble_eq_true rfl) (fun X A H0 Q hl hR hsz hnm C hret => wkC_X7_sendFree_0 C hsz hR hret s v0 v1 hw)
def wpC_X7_passMinute_109 (mc ms : Nat) (post : CSt → Prop) (K66 : CSt → Nat → Nat → Nat → Int32 → Prop) (s : CSt) (k : Nat) (n : Nat) (v0 : Nat) (v2 : Int32) : Prop := K66 s k n v0 (v2 + 1)
def wpC_X7_passMinute_66_F (mc ms : Nat) (post : CSt → Prop) (K66 : CSt → Nat → Nat → Nat → Int32 → Prop) (s : CSt) (k : Nat) (n : Nat) (v0 : Nat) (v2 : Int32) : Prop := cAt s 7 v0 ∧ ∃ a1 : Nat, cR s 112 v0 = some a1 ∧ cAt s 0 a1 ∧ wpC_Jx4a65c_size_8abf5_0 (fun r3 s2 => (r3 ≤ v2 → cAt s2 7 v0 ∧ cAt s2 7 v0 ∧ ∀ s5 : CSt, s5 = csI s2 121 v0 ((cI s2 121 v0) + 1) → k ≤ mc ∧ n ≤ ms ∧ post s5) ∧ (¬ r3 ≤ v2 → cAt s2 7 v0 ∧ ∃ a6 : Nat, cR s2 112 v0 = some a6 ∧ cAt s2 0 a6 ∧ wpC_Jx4a65c_get_915e3_0 (fun r8 s7 => ∃ a9 : Nat, r8 = some a9 ∧ cAt s7 3 a9 ∧ cAt s7 7 v0 ∧ wpC_X7_isRunning_0 (fun r11 s10 => (r11 = 0 → wpC_X7_passMinute_109 mc ms post K66 s10 k n v0 v2) ∧ (¬ r11 = 0 → cAt s10 7 v0 ∧ ∃ a13 : Nat, cR s10 112 v0 = some a13 ∧ cAt s10 0 a13 ∧ wpC_Jx4a65c_get_915e3_0 (fun r15 s14 => ∃ a16 : Nat, r15 = some a16 ∧ cAt s14 3 a16 ∧ cAt s14 3 a16 ∧ wpC_X3_fill_0 (fun s17 => wpC_X7_passMinute_109 mc ms post K66 s17 k n v0 v2) s14 a16) s10 a13 v2)) s7 v0 a9) s2 a6 v2)) s a1
def wpC_X7_passMinute_66 (mc ms : Nat) (post : CSt → Prop) (s : CSt) (k : Nat) (n : Nat) (v0 : Nat) (v2 : Int32) : Prop := gLP (fun (K : CSt × Nat × Nat × Nat × Int32 → Prop) (x : CSt × Nat × Nat × Nat × Int32) => wpC_X7_passMinute_66_F mc ms post (fun s k n v0 v2 => K (s, k, n, v0, v2)) x.1 x.2.1 x.2.2.1 x.2.2.2.1 x.2.2.2.2) (s, k, n, v0, v2)
def wpC_X7_passMinute_64 (mc ms : Nat) (post : CSt → Prop) (s : CSt) (k : Nat) (n : Nat) (v0 : Nat) : Prop := wpC_X7_passMinute_66 mc ms post s k n v0 0
def wpC_X7_passMinute_44 (mc ms : Nat) (post : CSt → Prop) (K4 : CSt → Nat → Nat → Nat → Int32 → Int32 → Prop) (s : CSt) (k : Nat) (n : Nat) (v0 : Nat) (v2 : Int32) (w0 : Int32) (w1 : Int32) : Prop := K4 s k n v0 (w0 ||| w1) (v2 + 1)
def wpC_X7_passMinute_4_F (mc ms : Nat) (post : CSt → Prop) (K4 : CSt → Nat → Nat → Nat → Int32 → Int32 → Prop) (s : CSt) (k : Nat) (n : Nat) (v0 : Nat) (v1 : Int32) (v2 : Int32) : Prop := cAt s 7 v0 ∧ ∃ a18 : Nat, cR s 115 v0 = some a18 ∧ cAt s 0 a18 ∧ wpC_Jx4a65c_size_8abf5_0 (fun r20 s19 => (r20 ≤ v2 → (v1 = 0 → wpC_X7_passMinute_64 mc ms post s19 k n v0) ∧ (¬ v1 = 0 → cAt s19 7 v0 ∧ wpC_X7_openSlopes_0 (fun r24 s23 => ∃ m25 m26 : Nat, k + m25 ≤ mc ∧ n + m26 ≤ ms ∧ cAt s23 7 v0 ∧ wpC_X7_sendFree_0 m25 m26 (fun s27 => wpC_X7_passMinute_64 mc ms post s27 (k + m25) (n + m26) v0) s23 v0 r24) s19 v0)) ∧ (¬ r20 ≤ v2 → cAt s19 7 v0 ∧ ∃ a29 : Nat, cR s19 115 v0 = some a29 ∧ cAt s19 0 a29 ∧ wpC_Jx4a65c_get_915e3_0 (fun r31 s30 => ∃ a32 : Nat, r31 = some a32 ∧ cAt s30 2 a32 ∧ cAt s30 2 a32 ∧ wpC_X2_goOn_0 (fun s33 => cAt s33 2 a32 ∧ (¬ (cI s33 35 a32) = 0 → wpC_X7_passMinute_44 mc ms post K4 s33 k n v0 v2 v1 0) ∧ ((cI s33 35 a32) = 0 → wpC_X7_passMinute_44 mc ms post K4 s33 k n v0 v2 v1 1)) s30 a32) s19 a29 v2)) s a18
def wpC_X7_passMinute_4 (mc ms : Nat) (post : CSt → Prop) (s : CSt) (k : Nat) (n : Nat) (v0 : Nat) (v1 : Int32) (v2 : Int32) : Prop := gLP (fun (K : CSt × Nat × Nat × Nat × Int32 × Int32 → Prop) (x : CSt × Nat × Nat × Nat × Int32 × Int32) => wpC_X7_passMinute_4_F mc ms post (fun s k n v0 v1 v2 => K (s, k, n, v0, v1, v2)) x.1 x.2.1 x.2.2.1 x.2.2.2.1 x.2.2.2.2.1 x.2.2.2.2.2) (s, k, n, v0, v1, v2)
def wpC_X7_passMinute_0 (mc ms : Nat) (post : CSt → Prop) (s : CSt) (v0 : Nat) : Prop := wpC_X7_passMinute_4 mc ms post s 0 0 v0 0 0
theorem wkC_X7_passMinute_109 {mc ms : Nat} {X : gT} {G : cG} {A : Nat → Prop} {H0 : Heap} {Q : State → Prop} (C : cC X cX7_passMinute 4 RX7 G A) (hsz : H0 = (g_s X).heap) (hR : 10 ≤ (g_R X).frames ∧ 258 ≤ (g_R X).locals ∧ mc ≤ (g_R X).cells ∧ ms ≤ (g_R X).slots) {post : CSt → Prop} (hret : ∀ (τ : CSt) (lv : List (Nat × Value)) (pc : Nat), post τ → decode cX7_passMinute pc = .ok (.return_, 1) → gJ X (cWd G A H0) Q mc ms τ lv pc []) {K66 : CSt → Nat → Nat → Nat → Int32 → Prop} (hK66 : ∀ (s : CSt) (k : Nat) (n : Nat) (v0 : Nat) (v2 : Int32), K66 s k n v0 v2 → k ≤ mc ∧ n ≤ ms → gJ X (cWd G A H0) Q k n s [(0, .ref v0), (2, .int v2)] 66 []) (s : CSt) (k : Nat) (n : Nat) (v0 : Nat) (v2 : Int32) (hk : k ≤ mc ∧ n ≤ ms) (hw : wpC_X7_passMinute_109 mc ms post K66 s k n v0 v2) : gJ X (cWd G A H0) Q k n s [(0, .ref v0), (2, .int v2)] 109 [] := by
  refine g_iinc (v := v2 + 1) (lv' := [(2, .int (v2 + 1)), (0, .ref v0)]) C.1 1 dX7_passMinute_109 rfl rfl (by decide) rfl ?_
  refine g_goto (tgt := 66) C.1 dX7_passMinute_112 (by decide) ?_
  refine gJ.sub [1, 0] rfl ?_
  exact hK66 _ _ _ _ _ hw hk
theorem wkC_X7_passMinute_66_F {mc ms : Nat} {X : gT} {G : cG} {A : Nat → Prop} {H0 : Heap} {Q : State → Prop} (C : cC X cX7_passMinute 4 RX7 G A) (hsz : H0 = (g_s X).heap) (hR : 10 ≤ (g_R X).frames ∧ 258 ≤ (g_R X).locals ∧ mc ≤ (g_R X).cells ∧ ms ≤ (g_R X).slots) {post : CSt → Prop} (hret : ∀ (τ : CSt) (lv : List (Nat × Value)) (pc : Nat), post τ → decode cX7_passMinute pc = .ok (.return_, 1) → gJ X (cWd G A H0) Q mc ms τ lv pc []) {K66 : CSt → Nat → Nat → Nat → Int32 → Prop} (hK66 : ∀ (s : CSt) (k : Nat) (n : Nat) (v0 : Nat) (v2 : Int32), K66 s k n v0 v2 → k ≤ mc ∧ n ≤ ms → gJ X (cWd G A H0) Q k n s [(0, .ref v0), (2, .int v2)] 66 []) (s : CSt) (k : Nat) (n : Nat) (v0 : Nat) (v2 : Int32) (hk : k ≤ mc ∧ n ≤ ms) (hw : wpC_X7_passMinute_66_F mc ms post K66 s k n v0 v2) : gJ X (cWd G A H0) Q k n s [(0, .ref v0), (2, .int v2)] 66 [] := by
  refine g_iload_n C.1 1 dX7_passMinute_66 rfl rfl ?_
  refine g_aload_n C.1 0 dX7_passMinute_67 rfl rfl ?_
  refine c_get7 C hw.1 0 (by decide) kC_394 (fun _ h => h) rfl dX7_passMinute_68 ?_
  replace hw := hw.2
  obtain ⟨a1, ha1, hw⟩ := hw
  rw [ha1]
  refine c_callVi (vs := []) C hsz (cC_Jx4a65c_size_8abf5 (g_l X) G s _ _ hw.2) kC_13 kC_431 kC_11 kC_12 kC_14 hdC_Jx4a65c_size_8abf5 (c_recv0 C hw.1) ⟨(Nat.le_trans (Nat.le_of_ble_eq_true rfl) hR.1), (Nat.le_trans (Nat.le_of_ble_eq_true rfl) hR.2.1)⟩ ⟨Nat.le_trans hk.1 hR.2.2.1, Nat.le_trans hk.2 hR.2.2.2⟩ dX7_passMinute_71 rfl (Nat.le_of_ble_eq_true rfl) (fun r3 s2 hw => ?_)
  refine g_icmp_ge (tgt := 115) C.1 dX7_passMinute_74 (by decide) (fun h4 => ?_) (fun h4 => ?_)
  · replace hw := hw.1 h4
    refine g_aload_n C.1 0 dX7_passMinute_115 rfl rfl ?_
    refine g_dup C.1 dX7_passMinute_116 rfl ?_
    refine c_get7 C hw.1 9 (by decide) kC_509 (fun _ h => h) rfl dX7_passMinute_117 ?_
    replace hw := hw.2
    refine g_iconst (v := 1) C.1 dX7_passMinute_120 (by decide) ?_
    refine g_iadd C.1 dX7_passMinute_121 ?_
    refine c_put7 C (τ := csI s2 121 v0 ((cI s2 121 v0) + 1)) hw.1 9 (by decide) kC_509 (fun _ h => h) rfl (ty := .int) (by decide +kernel) rfl rfl rfl hw.1.2 rfl (cx_7_9 _ _ _) (fun _ hb => csI_o hb) dX7_passMinute_122 ?_
    replace hw := hw.2
    refine gJ.nm (fun s5 es5 => ?_)
    replace hw := hw s5 es5
    refine gJ.widen hw.1 hw.2.1 ?_
    replace hw := hw.2.2
    exact hret _ _ _ hw dX7_passMinute_125
  · replace hw := hw.2 h4
    refine g_aload_n C.1 0 dX7_passMinute_77 rfl rfl ?_
    refine g_aload_n C.1 0 dX7_passMinute_78 rfl rfl ?_
    refine c_get7 C hw.1 0 (by decide) kC_394 (fun _ h => h) rfl dX7_passMinute_79 ?_
    replace hw := hw.2
    obtain ⟨a6, ha6, hw⟩ := hw
    rw [ha6]
    refine g_iload_n C.1 1 dX7_passMinute_82 rfl rfl ?_
    refine c_callVq (vs := [.int v2]) C hsz (cC_Jx4a65c_get_915e3 (g_l X) G s2 _ _ _ hw.2) kC_13 kC_455 kC_17 kC_18 kC_19 hdC_Jx4a65c_get_915e3 (c_recv0 C hw.1) ⟨(Nat.le_trans (Nat.le_of_ble_eq_true rfl) hR.1), (Nat.le_trans (Nat.le_of_ble_eq_true rfl) hR.2.1)⟩ ⟨Nat.le_trans hk.1 hR.2.2.1, Nat.le_trans hk.2 hR.2.2.2⟩ dX7_passMinute_83 rfl (Nat.le_of_ble_eq_true rfl) (fun r8 s7 hw => ?_)
    obtain ⟨a9, ha9, hw⟩ := hw
    rw [ha9]
    refine c_cast3 C hw.1 kC_454 dX7_passMinute_86 ?_
    replace hw := hw.2
    refine c_callVi (vs := [.ref a9]) C hsz (cC_X7_isRunning (g_l X) G s7 _ _ _ hw.2) kC_412 kC_464 kC_465 kC_466 kC_460 hdC_X7_isRunning (c_recv7 C hw.1) ⟨(Nat.le_trans (Nat.le_of_ble_eq_true rfl) hR.1), (Nat.le_trans (Nat.le_of_ble_eq_true rfl) hR.2.1)⟩ ⟨Nat.le_trans hk.1 hR.2.2.1, Nat.le_trans hk.2 hR.2.2.2⟩ dX7_passMinute_89 rfl (Nat.le_of_ble_eq_true rfl) (fun r11 s10 hw => ?_)
    refine g_if_eq (tgt := 109) C.1 dX7_passMinute_92 (by decide) (fun h12 => ?_) (fun h12 => ?_)
    · replace hw := hw.1 h12
      exact wkC_X7_passMinute_109 C hsz hR hret hK66 _ _ _ _ _ hk hw
    · replace hw := hw.2 h12
      refine g_aload_n C.1 0 dX7_passMinute_95 rfl rfl ?_
      refine c_get7 C hw.1 0 (by decide) kC_394 (fun _ h => h) rfl dX7_passMinute_96 ?_
      replace hw := hw.2
      obtain ⟨a13, ha13, hw⟩ := hw
      rw [ha13]
      refine g_iload_n C.1 1 dX7_passMinute_99 rfl rfl ?_
      refine c_callVq (vs := [.int v2]) C hsz (cC_Jx4a65c_get_915e3 (g_l X) G s10 _ _ _ hw.2) kC_13 kC_455 kC_17 kC_18 kC_19 hdC_Jx4a65c_get_915e3 (c_recv0 C hw.1) ⟨(Nat.le_trans (Nat.le_of_ble_eq_true rfl) hR.1), (Nat.le_trans (Nat.le_of_ble_eq_true rfl) hR.2.1)⟩ ⟨Nat.le_trans hk.1 hR.2.2.1, Nat.le_trans hk.2 hR.2.2.2⟩ dX7_passMinute_100 rfl (Nat.le_of_ble_eq_true rfl) (fun r15 s14 hw => ?_)
      obtain ⟨a16, ha16, hw⟩ := hw
      rw [ha16]
      refine c_cast3 C hw.1 kC_454 dX7_passMinute_103 ?_
      replace hw := hw.2
      refine c_callVv (vs := []) C hsz (cC_X3_fill (g_l X) G s14 _ _ hw.2) kC_426 kC_577 kC_578 kC_579 kC_225 hdC_X3_fill (c_recv3 C hw.1) ⟨(Nat.le_trans (Nat.le_of_ble_eq_true rfl) hR.1), (Nat.le_trans (Nat.le_of_ble_eq_true rfl) hR.2.1)⟩ ⟨Nat.le_trans hk.1 hR.2.2.1, Nat.le_trans hk.2 hR.2.2.2⟩ dX7_passMinute_106 rfl (Nat.le_of_ble_eq_true rfl) (fun s17 hw => ?_)
      exact wkC_X7_passMinute_109 C hsz hR hret hK66 _ _ _ _ _ hk hw
theorem wkC_X7_passMinute_66 {mc ms : Nat} {X : gT} {G : cG} {A : Nat → Prop} {H0 : Heap} {Q : State → Prop} (C : cC X cX7_passMinute 4 RX7 G A) (hsz : H0 = (g_s X).heap) (hR : 10 ≤ (g_R X).frames ∧ 258 ≤ (g_R X).locals ∧ mc ≤ (g_R X).cells ∧ ms ≤ (g_R X).slots) {post : CSt → Prop} (hret : ∀ (τ : CSt) (lv : List (Nat × Value)) (pc : Nat), post τ → decode cX7_passMinute pc = .ok (.return_, 1) → gJ X (cWd G A H0) Q mc ms τ lv pc []) (s : CSt) (k : Nat) (n : Nat) (v0 : Nat) (v2 : Int32) (hk : k ≤ mc ∧ n ≤ ms) (hw : wpC_X7_passMinute_66 mc ms post s k n v0 v2) : gJ X (cWd G A H0) Q k n s [(0, .ref v0), (2, .int v2)] 66 [] := 
  hw (fun (x : CSt × Nat × Nat × Nat × Int32) => (fun s k n v0 v2 => (k ≤ mc ∧ n ≤ ms → gJ X (cWd G A H0) Q k n s [(0, .ref v0), (2, .int v2)] 66 [])) x.1 x.2.1 x.2.2.1 x.2.2.2.1 x.2.2.2.2) (fun x hx hk => wkC_X7_passMinute_66_F C hsz hR hret (K66 := (fun s k n v0 v2 => (k ≤ mc ∧ n ≤ ms → gJ X (cWd G A H0) Q k n s [(0, .ref v0), (2, .int v2)] 66 []))) (fun _ _ _ _ _ h => h) x.1 x.2.1 x.2.2.1 x.2.2.2.1 x.2.2.2.2 hk hx) hk
theorem wkC_X7_passMinute_64 {mc ms : Nat} {X : gT} {G : cG} {A : Nat → Prop} {H0 : Heap} {Q : State → Prop} (C : cC X cX7_passMinute 4 RX7 G A) (hsz : H0 = (g_s X).heap) (hR : 10 ≤ (g_R X).frames ∧ 258 ≤ (g_R X).locals ∧ mc ≤ (g_R X).cells ∧ ms ≤ (g_R X).slots) {post : CSt → Prop} (hret : ∀ (τ : CSt) (lv : List (Nat × Value)) (pc : Nat), post τ → decode cX7_passMinute pc = .ok (.return_, 1) → gJ X (cWd G A H0) Q mc ms τ lv pc []) (s : CSt) (k : Nat) (n : Nat) (v0 : Nat) (hk : k ≤ mc ∧ n ≤ ms) (hw : wpC_X7_passMinute_64 mc ms post s k n v0) : gJ X (cWd G A H0) Q k n s [(0, .ref v0)] 64 [] := by
  refine g_iconst (v := 0) C.1 dX7_passMinute_64 (by decide) ?_
  refine g_istore_n (lv' := [(2, .int 0), (0, .ref v0)]) C.1 dX7_passMinute_65 rfl (by decide) rfl ?_
  refine gJ.sub [1, 0] rfl ?_
  exact wkC_X7_passMinute_66 C hsz hR hret _ _ _ _ _ hk hw
theorem wkC_X7_passMinute_44 {mc ms : Nat} {X : gT} {G : cG} {A : Nat → Prop} {H0 : Heap} {Q : State → Prop} (C : cC X cX7_passMinute 4 RX7 G A) (hsz : H0 = (g_s X).heap) (hR : 10 ≤ (g_R X).frames ∧ 258 ≤ (g_R X).locals ∧ mc ≤ (g_R X).cells ∧ ms ≤ (g_R X).slots) {post : CSt → Prop} (hret : ∀ (τ : CSt) (lv : List (Nat × Value)) (pc : Nat), post τ → decode cX7_passMinute pc = .ok (.return_, 1) → gJ X (cWd G A H0) Q mc ms τ lv pc []) {K4 : CSt → Nat → Nat → Nat → Int32 → Int32 → Prop} (hK4 : ∀ (s : CSt) (k : Nat) (n : Nat) (v0 : Nat) (v1 : Int32) (v2 : Int32), K4 s k n v0 v1 v2 → k ≤ mc ∧ n ≤ ms → gJ X (cWd G A H0) Q k n s [(0, .ref v0), (1, .int v1), (2, .int v2)] 4 []) (s : CSt) (k : Nat) (n : Nat) (v0 : Nat) (v2 : Int32) (w0 : Int32) (w1 : Int32) (hk : k ≤ mc ∧ n ≤ ms) (hw : wpC_X7_passMinute_44 mc ms post K4 s k n v0 v2 w0 w1) : gJ X (cWd G A H0) Q k n s [(0, .ref v0), (2, .int v2)] 44 [.int w1, .int w0] := by
  refine g_ior C.1 dX7_passMinute_44 ?_
  refine g_istore_n (lv' := [(1, .int (w0 ||| w1)), (0, .ref v0), (2, .int v2)]) C.1 dX7_passMinute_45 rfl (by decide) rfl ?_
  refine g_iinc (v := v2 + 1) (lv' := [(2, .int (v2 + 1)), (1, .int (w0 ||| w1)), (0, .ref v0)]) C.1 2 dX7_passMinute_46 rfl rfl (by decide) rfl ?_
  refine g_goto (tgt := 4) C.1 dX7_passMinute_49 (by decide) ?_
  refine gJ.sub [2, 1, 0] rfl ?_
  exact hK4 _ _ _ _ _ _ hw hk
theorem wkC_X7_passMinute_4_F {mc ms : Nat} {X : gT} {G : cG} {A : Nat → Prop} {H0 : Heap} {Q : State → Prop} (C : cC X cX7_passMinute 4 RX7 G A) (hsz : H0 = (g_s X).heap) (hR : 10 ≤ (g_R X).frames ∧ 258 ≤ (g_R X).locals ∧ mc ≤ (g_R X).cells ∧ ms ≤ (g_R X).slots) {post : CSt → Prop} (hret : ∀ (τ : CSt) (lv : List (Nat × Value)) (pc : Nat), post τ → decode cX7_passMinute pc = .ok (.return_, 1) → gJ X (cWd G A H0) Q mc ms τ lv pc []) {K4 : CSt → Nat → Nat → Nat → Int32 → Int32 → Prop} (hK4 : ∀ (s : CSt) (k : Nat) (n : Nat) (v0 : Nat) (v1 : Int32) (v2 : Int32), K4 s k n v0 v1 v2 → k ≤ mc ∧ n ≤ ms → gJ X (cWd G A H0) Q k n s [(0, .ref v0), (1, .int v1), (2, .int v2)] 4 []) (s : CSt) (k : Nat) (n : Nat) (v0 : Nat) (v1 : Int32) (v2 : Int32) (hk : k ≤ mc ∧ n ≤ ms) (hw : wpC_X7_passMinute_4_F mc ms post K4 s k n v0 v1 v2) : gJ X (cWd G A H0) Q k n s [(0, .ref v0), (1, .int v1), (2, .int v2)] 4 [] := by
  refine g_iload_n C.1 2 dX7_passMinute_4 rfl rfl ?_
  refine g_aload_n C.1 0 dX7_passMinute_5 rfl rfl ?_
  refine c_get7 C hw.1 3 (by decide) kC_397 (fun _ h => h) rfl dX7_passMinute_6 ?_
  replace hw := hw.2
  obtain ⟨a18, ha18, hw⟩ := hw
  rw [ha18]
  refine c_callVi (vs := []) C hsz (cC_Jx4a65c_size_8abf5 (g_l X) G s _ _ hw.2) kC_13 kC_431 kC_11 kC_12 kC_14 hdC_Jx4a65c_size_8abf5 (c_recv0 C hw.1) ⟨(Nat.le_trans (Nat.le_of_ble_eq_true rfl) hR.1), (Nat.le_trans (Nat.le_of_ble_eq_true rfl) hR.2.1)⟩ ⟨Nat.le_trans hk.1 hR.2.2.1, Nat.le_trans hk.2 hR.2.2.2⟩ dX7_passMinute_9 rfl (Nat.le_of_ble_eq_true rfl) (fun r20 s19 hw => ?_)
  refine g_icmp_ge (tgt := 52) C.1 dX7_passMinute_12 (by decide) (fun h21 => ?_) (fun h21 => ?_)
  · replace hw := hw.1 h21
    refine g_iload_n C.1 1 dX7_passMinute_52 rfl rfl ?_
    refine g_if_eq (tgt := 64) C.1 dX7_passMinute_53 (by decide) (fun h22 => ?_) (fun h22 => ?_)
    · replace hw := hw.1 h22
      refine gJ.sub [0] rfl ?_
      exact wkC_X7_passMinute_64 C hsz hR hret _ _ _ _ hk hw
    · replace hw := hw.2 h22
      refine g_aload_n C.1 0 dX7_passMinute_56 rfl rfl ?_
      refine g_aload_n C.1 0 dX7_passMinute_57 rfl rfl ?_
      refine c_callVi (vs := []) C hsz (cC_X7_openSlopes (g_l X) G s19 _ _ hw.2) kC_412 kC_527 kC_528 kC_529 kC_526 hdC_X7_openSlopes (c_recv7 C hw.1) ⟨(Nat.le_trans (Nat.le_of_ble_eq_true rfl) hR.1), (Nat.le_trans (Nat.le_of_ble_eq_true rfl) hR.2.1)⟩ ⟨Nat.le_trans hk.1 hR.2.2.1, Nat.le_trans hk.2 hR.2.2.2⟩ dX7_passMinute_58 rfl (Nat.le_of_ble_eq_true rfl) (fun r24 s23 hw => ?_)
      obtain ⟨m25, m26, gm25, gm26, hw⟩ := hw
      have hk28 : k + m25 ≤ mc ∧ n + m26 ≤ ms := ⟨gm25, gm26⟩
      refine c_callVv (vs := [.int r24]) C hsz (cC_X7_sendFree m25 m26 (g_l X) G s23 _ _ _ hw.2) kC_412 kC_574 kC_575 kC_576 kC_570 hdC_X7_sendFree (c_recv7 C hw.1) ⟨(Nat.le_trans (Nat.le_of_ble_eq_true rfl) hR.1), (Nat.le_trans (Nat.le_of_ble_eq_true rfl) hR.2.1)⟩ ⟨Nat.le_trans hk28.1 hR.2.2.1, Nat.le_trans hk28.2 hR.2.2.2⟩ dX7_passMinute_61 rfl (Nat.le_of_ble_eq_true rfl) (fun s27 hw => ?_)
      refine gJ.sub [0] rfl ?_
      exact wkC_X7_passMinute_64 C hsz hR hret _ _ _ _ hk28 hw
  · replace hw := hw.2 h21
    refine g_aload_n C.1 0 dX7_passMinute_15 rfl rfl ?_
    refine c_get7 C hw.1 3 (by decide) kC_397 (fun _ h => h) rfl dX7_passMinute_16 ?_
    replace hw := hw.2
    obtain ⟨a29, ha29, hw⟩ := hw
    rw [ha29]
    refine g_iload_n C.1 2 dX7_passMinute_19 rfl rfl ?_
    refine c_callVq (vs := [.int v2]) C hsz (cC_Jx4a65c_get_915e3 (g_l X) G s19 _ _ _ hw.2) kC_13 kC_455 kC_17 kC_18 kC_19 hdC_Jx4a65c_get_915e3 (c_recv0 C hw.1) ⟨(Nat.le_trans (Nat.le_of_ble_eq_true rfl) hR.1), (Nat.le_trans (Nat.le_of_ble_eq_true rfl) hR.2.1)⟩ ⟨Nat.le_trans hk.1 hR.2.2.1, Nat.le_trans hk.2 hR.2.2.2⟩ dX7_passMinute_20 rfl (Nat.le_of_ble_eq_true rfl) (fun r31 s30 hw => ?_)
    obtain ⟨a32, ha32, hw⟩ := hw
    rw [ha32]
    refine c_cast2 C hw.1 kC_565 dX7_passMinute_23 ?_
    replace hw := hw.2
    refine g_astore_n (lv' := [(3, .ref a32), (0, .ref v0), (1, .int v1), (2, .int v2)]) C.1 dX7_passMinute_26 rfl (by decide) rfl ?_
    refine g_aload_n C.1 0 dX7_passMinute_27 rfl rfl ?_
    refine c_callVv (vs := []) C hsz (cC_X2_goOn (g_l X) G s30 _ _ hw.2) kC_224 kC_571 kC_572 kC_573 kC_119 hdC_X2_goOn (c_recv2 C hw.1) ⟨(Nat.le_trans (Nat.le_of_ble_eq_true rfl) hR.1), (Nat.le_trans (Nat.le_of_ble_eq_true rfl) hR.2.1)⟩ ⟨Nat.le_trans hk.1 hR.2.2.1, Nat.le_trans hk.2 hR.2.2.2⟩ dX7_passMinute_28 rfl (Nat.le_of_ble_eq_true rfl) (fun s33 hw => ?_)
    refine g_iload_n C.1 2 dX7_passMinute_31 rfl rfl ?_
    refine g_aload_n C.1 0 dX7_passMinute_32 rfl rfl ?_
    refine c_get2 C hw.1 3 (by decide) kC_566 (fun _ h => h) rfl dX7_passMinute_33 ?_
    replace hw := hw.2
    refine g_if_ne (tgt := 43) C.1 dX7_passMinute_36 (by decide) (fun h34 => ?_) (fun h34 => ?_)
    · replace hw := hw.1 h34
      refine g_iconst (v := 0) C.1 dX7_passMinute_43 (by decide) ?_
      refine gJ.sub [1, 3] rfl ?_
      exact wkC_X7_passMinute_44 C hsz hR hret hK4 _ _ _ _ _ _ _ hk hw
    · replace hw := hw.2 h34
      refine g_iconst (v := 1) C.1 dX7_passMinute_39 (by decide) ?_
      refine g_goto (tgt := 44) C.1 dX7_passMinute_40 (by decide) ?_
      refine gJ.sub [1, 3] rfl ?_
      exact wkC_X7_passMinute_44 C hsz hR hret hK4 _ _ _ _ _ _ _ hk hw
theorem wkC_X7_passMinute_4 {mc ms : Nat} {X : gT} {G : cG} {A : Nat → Prop} {H0 : Heap} {Q : State → Prop} (C : cC X cX7_passMinute 4 RX7 G A) (hsz : H0 = (g_s X).heap) (hR : 10 ≤ (g_R X).frames ∧ 258 ≤ (g_R X).locals ∧ mc ≤ (g_R X).cells ∧ ms ≤ (g_R X).slots) {post : CSt → Prop} (hret : ∀ (τ : CSt) (lv : List (Nat × Value)) (pc : Nat), post τ → decode cX7_passMinute pc = .ok (.return_, 1) → gJ X (cWd G A H0) Q mc ms τ lv pc []) (s : CSt) (k : Nat) (n : Nat) (v0 : Nat) (v1 : Int32) (v2 : Int32) (hk : k ≤ mc ∧ n ≤ ms) (hw : wpC_X7_passMinute_4 mc ms post s k n v0 v1 v2) : gJ X (cWd G A H0) Q k n s [(0, .ref v0), (1, .int v1), (2, .int v2)] 4 [] := 
  hw (fun (x : CSt × Nat × Nat × Nat × Int32 × Int32) => (fun s k n v0 v1 v2 => (k ≤ mc ∧ n ≤ ms → gJ X (cWd G A H0) Q k n s [(0, .ref v0), (1, .int v1), (2, .int v2)] 4 [])) x.1 x.2.1 x.2.2.1 x.2.2.2.1 x.2.2.2.2.1 x.2.2.2.2.2) (fun x hx hk => wkC_X7_passMinute_4_F C hsz hR hret (K4 := (fun s k n v0 v1 v2 => (k ≤ mc ∧ n ≤ ms → gJ X (cWd G A H0) Q k n s [(0, .ref v0), (1, .int v1), (2, .int v2)] 4 []))) (fun _ _ _ _ _ _ h => h) x.1 x.2.1 x.2.2.1 x.2.2.2.1 x.2.2.2.2.1 x.2.2.2.2.2 hk hx) hk
theorem wkC_X7_passMinute_0 {mc ms : Nat} {X : gT} {G : cG} {A : Nat → Prop} {H0 : Heap} {Q : State → Prop} (C : cC X cX7_passMinute 4 RX7 G A) (hsz : H0 = (g_s X).heap) (hR : 10 ≤ (g_R X).frames ∧ 258 ≤ (g_R X).locals ∧ mc ≤ (g_R X).cells ∧ ms ≤ (g_R X).slots) {post : CSt → Prop} (hret : ∀ (τ : CSt) (lv : List (Nat × Value)) (pc : Nat), post τ → decode cX7_passMinute pc = .ok (.return_, 1) → gJ X (cWd G A H0) Q mc ms τ lv pc []) (s : CSt) (v0 : Nat) (hw : wpC_X7_passMinute_0 mc ms post s v0) : gJ X (cWd G A H0) Q 0 0 s [(0, .ref v0)] 0 [] := by
  refine g_iconst (v := 0) C.1 dX7_passMinute_0 (by decide) ?_
  refine g_istore_n (lv' := [(1, .int 0), (0, .ref v0)]) C.1 dX7_passMinute_1 rfl (by decide) rfl ?_
  refine g_iconst (v := 0) C.1 dX7_passMinute_2 (by decide) ?_
  refine g_istore_n (lv' := [(2, .int 0), (1, .int 0), (0, .ref v0)]) C.1 dX7_passMinute_3 rfl (by decide) rfl ?_
  refine gJ.sub [2, 1, 0] rfl ?_
  exact wkC_X7_passMinute_4 C hsz hR hret _ _ _ _ _ _ (k0_ mc ms) hw
theorem hdC_X7_passMinute : yX7_passMinute.cls = RX7 ∧ yX7_passMinute.cls ≠ "java/lang/invoke/MethodHandle" ∧ yX7_passMinute.cls ≠ "java/lang/invoke/VarHandle" ∧ (parseMethodDescriptor yX7_passMinute.desc).map (fun d => d.parameters.length) = some 0 := by decide +kernel
theorem cC_X7_passMinute (mc ms : Nat) (l : Launch) (G : cG) (s : CSt) (v0 : Nat) (post : CSt → Prop) (hw : wpC_X7_passMinute_0 mc ms post s v0) : cMv l yX7_passMinute cX7_passMinute 4 10 258 mc ms G s [.ref v0] post := cMv_of (by decide +kernel) rfl (Nat.le_of_ble_eq_true rfl) (fun X A H0 Q hl hR hsz hnm C hret => wkC_X7_passMinute_0 C hsz hR hret s v0 hw)
