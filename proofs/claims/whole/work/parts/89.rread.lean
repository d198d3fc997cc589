section
/-! rules' texts: the reference reads the next word, number or sign -/
section RR1
variable {ρ ρ' : RSt} {b : Nat → Nat} {e : Nat}
theorem rI_s {k : Nat} {v : Int32} : (rsI ρ k v).1 k = v := by
  show upd ρ.1 k v k = v
  rw [upd_ap, if_pos rfl]
theorem rI_n {k k' : Nat} {v : Int32} (h : k' ≠ k) : (rsI ρ k v).1 k' = ρ.1 k' := by
  show upd ρ.1 k v k' = _
  rw [upd_ap, if_neg h]
/-- the tape, as the reference has it -/
def TpR (ρ : RSt) (b : Nat → Nat) (e : Nat) : Prop := ρ.1 32 = nI e ∧ e ≤ 400 ∧ ∀ i : Nat, i < 400 → b i < 256 ∧ ρ.2.1 1 i = sB (b i)
theorem TpR.en (h : TpR ρ b e) : ρ.1 32 = nI e := h.1
theorem TpR.I (h : TpR ρ b e) {k : Nat} {v : Int32} (hk : k ≠ 32) : TpR (rsI ρ k v) b e := ⟨by rw [rI_n (Ne.symm hk)]; exact h.1, h.2⟩
theorem TpR.A (h : TpR ρ b e) {k i : Nat} {v : Int32} (hk : k ≠ 1) : TpR (rsA ρ k i v) b e := ⟨h.1, h.2.1, fun q hq => ⟨(h.2.2 q hq).1, by rw [rA_n (fun e => absurd e (Ne.symm hk))]; exact (h.2.2 q hq).2⟩⟩
theorem TpR.t (h : TpR ρ b e) {i : Nat} (hi : i < 400) : ρ.2.1 1 (nI i).toNatClampNeg = sB (b i) := by rw [nI_clamp (by omega)]; exact (h.2.2 i hi).2
theorem TpR.bb (h : TpR ρ b e) {i : Nat} (hi : i < 400) : b i < 256 := (h.2.2 i hi).1
/-- only these numbers change -/
def frI (K : Nat → Prop) (ρ ρ' : RSt) : Prop := (∀ k, ¬ K k → ρ'.1 k = ρ.1 k) ∧ ρ'.2 = ρ.2
theorem frI.rf {K : Nat → Prop} : frI K ρ ρ := ⟨fun _ _ => rfl, rfl⟩
theorem frI.tr {K : Nat → Prop} {ρ'' : RSt} (h : frI K ρ ρ') (g : frI K ρ' ρ'') : frI K ρ ρ'' := ⟨fun k hk => (g.1 k hk).trans (h.1 k hk), g.2.trans h.2⟩
theorem frI.I {K : Nat → Prop} {k : Nat} {v : Int32} (hk : K k) : frI K ρ (rsI ρ k v) := ⟨fun q hq => rI_n (fun e => hq (by rw [e]; exact hk)), rfl⟩
def nxK : Nat → Prop := fun k => k = 31 ∨ k = 33 ∨ k = 34 ∨ k = 35 ∨ k = 37
theorem frI.tp (h : frI nxK ρ ρ') (g : TpR ρ b e) : TpR ρ' b e := ⟨(h.1 32 (by unfold nxK; omega)).trans g.1, g.2.1, fun i hi => by rw [h.2]; exact g.2.2 i hi⟩
def vkd (k : Nat) : Nat := if k ≤ 5 then k + 4 else 9 - k
def sgc (k : Nat) : Nat := if k = 9 then 60 else if k = 10 then 62 else if k = 11 then 61 else if k = 12 then 40 else 41
/-- what was read, as the reference has it -/
def RT (ρ : RSt) (τ : Tk) : Prop := ρ.1 34 = nI τ.1 ∧ ρ.1 31 = nI τ.2.1 ∧ (τ.2.2.1 = 15 → ρ.1 33 = 0) ∧ (τ.2.2.1 < 9 → ρ.1 33 = 1 ∧ ρ.1 35 = nI (vkd τ.2.2.1)) ∧ (τ.2.2.1 = 14 → ρ.1 33 = 2 ∧ ρ.1 35 = nI τ.2.2.2) ∧ (9 ≤ τ.2.2.1 → τ.2.2.1 ≤ 13 → ρ.1 33 = 3 ∧ ρ.1 35 = nI (sgc τ.2.2.1))
/-- live, or already wrong at the word that was read -/
def RLk (ρ : RSt) (τ : Tk) : Prop := (τ.2.2.1 ≠ 16 → ρ.1 37 = -1 ∧ RT ρ τ) ∧ (τ.2.2.1 = 16 → ρ.1 37 = nI τ.1)
theorem sR_fail {post : RSt → Prop} {v : Int32} (h : ρ.1 37 = -1) (hp : post (rsI ρ 37 v)) : wpR_fail_0 post ρ v := by
  refine ⟨fun e => absurd (show (0 : Int32) ≤ -1 by rw [h] at e; exact e) (by decide), fun _ => ?_⟩
  rintro s2 rfl
  exact hp
theorem words_r : ∀ k : Nat, k < 9 → rtb.getD k [] = ctb.getD (if k ≤ 2 then 8 - k else k - 3) [] := by decide +kernel
theorem sR_isWord {post : Int32 → RSt → Prop} {i f a : Nat} (h : TpR ρ b e) (hi : i < 9) (hf : ρ.1 34 = nI f) (ha : ρ.1 31 = nI a) (hfa : f ≤ a) (hae : a ≤ e) (hlet : ∀ q : Nat, f ≤ q → q < a → b q < 128) (hy : isw b f (a - f) (rtb.getD i []) → post 1 ρ) (hn : ¬ isw b f (a - f) (rtb.getD i []) → post 0 ρ) : wpR_isWord_0 post ρ i := by
  have hlen : (rtb.getD i []).length ≤ 4 := by rw [words_r i hi]; exact words_len _ (by split <;> omega)
  have hle := h.2.1
  unfold wpR_isWord_0
  rw [ha, hf, nI_sub hfa]
  generalize hw : rtb.getD i [] = w at hy hn hlen ⊢
  have key : ∀ v : Int32, ((v = 1 ∧ a - f = w.length) ∨ (v = 0 ∧ ¬ isw b f (a - f) w)) → wpR_isWord_21 post ρ i v := by
    intro v hv
    refine gLP.up (w.length + 1) (fun k (x : RSt × Nat × Int32 × Int32) => k ≤ w.length + 1 ∧ ∃ v : Int32, ((v = 1 ∧ a - f = w.length ∧ k ≤ w.length ∧ ∀ q : Nat, q < k → nI (b (f + q)) = jAt w (nI q)) ∨ (v = 0 ∧ ¬ isw b f (a - f) w)) ∧ x = (ρ, i, v, nI k)) (fun k x h => h.1) ?_ (j := 0) ⟨Nat.zero_le _, v, hv.imp (fun g => ⟨g.1, g.2, Nat.zero_le _, fun q hq => absurd hq (Nat.not_lt_zero _)⟩) id, rfl⟩
    rintro k x P ⟨hk, v, hv, rfl⟩ hP
    dsimp only
    unfold wpR_isWord_24_F
    rw [hw, hf]
    rcases hv with ⟨rfl, h1, h2, h3⟩ | ⟨rfl, h1⟩
    · refine ⟨fun e => absurd e (by decide), fun _ => ⟨hi, fun e2 => ⟨by decide, ?_⟩, fun e2 => ?_⟩⟩
      · rw [nI_leI (by omega) (by omega)] at e2
        exact hy ⟨h1, fun q hq => h3 q (by omega)⟩
      · rw [nI_leI (by omega) (by omega)] at e2
        rw [nI_add, h.t (by omega), sB_lo (hlet (f + k) (by omega) (by omega))]
        refine ⟨vp_in_nI (by omega) (by omega), hi, nI_nn (by omega), by rw [nI_ltI (by omega) (by omega)]; omega, fun e3 => hP _ ⟨by omega, 0, Or.inr ⟨rfl, fun g => e3 (g.2 k (by omega))⟩, by rw [nI_1]⟩, fun e3 => hP _ ⟨by omega, 1, Or.inl ⟨rfl, h1, by omega, fun q hq => ?_⟩, by rw [nI_1]⟩⟩
        by_cases eq : q = k
        · subst eq; exact e3
        · exact h3 q (by omega)
    · exact ⟨fun _ => ⟨by decide, hn h1⟩, fun e => absurd rfl e⟩
  refine ⟨hi, fun e1 => key 0 (Or.inr ⟨rfl, fun g => ?_⟩), fun e1 => key 1 (Or.inl ⟨rfl, ?_⟩)⟩
  · rw [nI_eq (by omega) (by omega)] at e1; exact e1 g.1
  · rw [nI_eq (by omega) (by omega)] at e1; exact e1
theorem sR_wordNo {post : Nat → Prop} {k : Nat} (h1 : 1 ≤ k) (h9 : k ≤ 9) (hp : post (k - 1)) : wpR_word_0 post (nI k) := by
  unfold wpR_word_0
  rcases (show k = 1 ∨ k = 2 ∨ k = 3 ∨ k = 4 ∨ k = 5 ∨ k = 6 ∨ k = 7 ∨ k = 8 ∨ k = 9 by omega) with rfl | rfl | rfl | rfl | rfl | rfl | rfl | rfl | rfl
  · exact ⟨fun _ => hp, fun e => absurd e (by decide), fun e => absurd e (by decide), fun e => absurd e (by decide), fun e => absurd e (by decide), fun e => absurd e (by decide), fun e => absurd e (by decide), fun e => absurd e (by decide), fun e => absurd e (by decide)⟩
  · exact ⟨fun e => absurd e (by decide), fun _ => hp, fun e => absurd e (by decide), fun e => absurd e (by decide), fun e => absurd e (by decide), fun e => absurd e (by decide), fun e => absurd e (by decide), fun e => absurd e (by decide), fun e => absurd e (by decide)⟩
  · exact ⟨fun e => absurd e (by decide), fun e => absurd e (by decide), fun _ => hp, fun e => absurd e (by decide), fun e => absurd e (by decide), fun e => absurd e (by decide), fun e => absurd e (by decide), fun e => absurd e (by decide), fun e => absurd e (by decide)⟩
  · exact ⟨fun e => absurd e (by decide), fun e => absurd e (by decide), fun e => absurd e (by decide), fun _ => hp, fun e => absurd e (by decide), fun e => absurd e (by decide), fun e => absurd e (by decide), fun e => absurd e (by decide), fun e => absurd e (by decide)⟩
  · exact ⟨fun e => absurd e (by decide), fun e => absurd e (by decide), fun e => absurd e (by decide), fun e => absurd e (by decide), fun _ => hp, fun e => absurd e (by decide), fun e => absurd e (by decide), fun e => absurd e (by decide), fun e => absurd e (by decide)⟩
  · exact ⟨fun e => absurd e (by decide), fun e => absurd e (by decide), fun e => absurd e (by decide), fun e => absurd e (by decide), fun e => absurd e (by decide), fun _ => hp, fun e => absurd e (by decide), fun e => absurd e (by decide), fun e => absurd e (by decide)⟩
  · exact ⟨fun e => absurd e (by decide), fun e => absurd e (by decide), fun e => absurd e (by decide), fun e => absurd e (by decide), fun e => absurd e (by decide), fun e => absurd e (by decide), fun _ => hp, fun e => absurd e (by decide), fun e => absurd e (by decide)⟩
  · exact ⟨fun e => absurd e (by decide), fun e => absurd e (by decide), fun e => absurd e (by decide), fun e => absurd e (by decide), fun e => absurd e (by decide), fun e => absurd e (by decide), fun e => absurd e (by decide), fun _ => hp, fun e => absurd e (by decide)⟩
  · exact ⟨fun e => absurd e (by decide), fun e => absurd e (by decide), fun e => absurd e (by decide), fun e => absurd e (by decide), fun e => absurd e (by decide), fun e => absurd e (by decide), fun e => absurd e (by decide), fun e => absurd e (by decide), fun _ => hp⟩
/-- the reference's words -/
theorem sR_words {post : RSt → Prop} {f a : Nat} (h : TpR ρ b e) (hf : ρ.1 34 = nI f) (ha : ρ.1 31 = nI a) (h35 : ρ.1 35 = 0) (h37 : ρ.1 37 = -1) (h33 : ρ.1 33 = 1) (hfa : f ≤ a) (hae : a ≤ e) (hlet : ∀ q : Nat, f ≤ q → q < a → b q < 128) (hp : ∀ ρ', RLk ρ' (f, a, kwd b f (a - f), 0) → frI nxK ρ ρ' → post ρ') : wpR_next_147 post ρ := by
  have hle := h.2.1
  have hc := kwd_c (b := b) (f := f) (n := a - f)
  generalize hK : kwd b f (a - f) = K at hp hc
  refine gLP.up 10 (fun k (x : RSt × Int32) => k ≤ 10 ∧ 1 ≤ k ∧ x.1.1 34 = nI f ∧ x.1.1 31 = nI a ∧ x.1.1 33 = 1 ∧ x.1.1 37 = -1 ∧ x.1.1 35 = nI (if K < 9 ∧ vkd K < k then vkd K else 0) ∧ frI nxK ρ x.1 ∧ x.2 = nI k) (fun k x h => h.1) ?_ (j := 1) ⟨by decide, by decide, hf, ha, h33, h37, ?_, frI.rf, rfl⟩
  rotate_left
  · rw [h35, if_neg (by unfold vkd; split <;> omega)]; rfl
  rintro k ⟨s, y⟩ P ⟨hk, hk1, g34, g31, g33, g37, g35, gfr, e0⟩ hP
  dsimp only at g34 g31 g33 g37 g35 gfr e0
  subst e0
  dsimp only
  have hT := gfr.tp h
  unfold wpR_next_149_F
  rw [show (10 : Int32) = nI 10 from rfl, nI_leI (by omega) (by omega)]
  refine ⟨fun e1 => ?_, fun e1 => ?_⟩
  · obtain rfl : k = 10 := by omega
    rcases hc with hc | hc
    · have hv : 1 ≤ vkd K ∧ vkd K ≤ 9 := by unfold vkd; split <;> omega
      rw [if_pos ⟨hc.1, by omega⟩] at g35
      rw [g35, show (0 : Int32) = nI 0 from rfl, nI_eq (by omega) (by omega)]
      refine ⟨fun _ => hp s ⟨fun _ => ⟨g37, g34, g31, fun e => ?_, fun _ => ⟨g33, g35⟩, fun e => ?_, fun e => ?_⟩, fun e => ?_⟩ gfr, fun e => absurd e (by omega)⟩
      · have e' : K = 15 := e; omega
      · have e' : K = 14 := e; omega
      · have e' : 9 ≤ K := e; omega
      · have e' : K = 16 := e; omega
    · rw [if_neg (by omega)] at g35
      rw [g35]
      refine ⟨fun e => absurd rfl e, fun _ => sR_fail g37 (hp _ ⟨fun e => absurd hc.1 e, fun _ => ?_⟩ (gfr.tr (frI.I (by unfold nxK; omega))))⟩
      rw [rI_s]; exact g34
  · refine sR_wordNo hk1 (by omega) (sR_isWord hT (by omega) g34 g31 hfa hae hlet (fun hy => ⟨fun e => absurd e (by decide), fun _ => ?_⟩) (fun hn => ⟨fun _ => ?_, fun e => absurd rfl e⟩))
    · rw [words_r (k - 1) (by omega)] at hy
      have hkw := kwd_y (by split <;> omega) hy
      rw [hK] at hkw
      have hv : vkd K = k := by rw [hkw]; unfold vkd; split <;> split <;> omega
      have hK9 : K < 9 := by rw [hkw]; split <;> omega
      rintro s28 rfl
      refine hP _ ⟨by omega, by omega, by rw [rI_n (by decide)]; exact g34, by rw [rI_n (by decide)]; exact g31, by rw [rI_n (by decide)]; exact g33, by rw [rI_n (by decide)]; exact g37, ?_, gfr.tr (frI.I (by unfold nxK; omega)), by rw [nI_1]⟩
      rw [rI_s, if_pos ⟨hK9, by omega⟩, hv]
    · refine hP _ ⟨by omega, by omega, g34, g31, g33, g37, ?_, gfr, by rw [nI_1]⟩
      rw [g35]
      congr 1
      rcases hc with hc | hc
      · have hne : vkd K ≠ k := by
          intro ev
          refine hn ?_
          rw [words_r (k - 1) (by omega), show (if k - 1 ≤ 2 then 8 - (k - 1) else k - 1 - 3) = K by unfold vkd at ev; split at ev <;> split <;> omega]
          exact hc.2
        by_cases e2 : vkd K < k
        · rw [if_pos ⟨hc.1, e2⟩, if_pos ⟨hc.1, by omega⟩]
        · rw [if_neg (fun g => e2 g.2), if_neg (fun g => by omega)]
      · rw [if_neg (by omega), if_neg (by omega)]
theorem sR_next {post : RSt → Prop} {a : Nat} (h : TpR ρ b e) (ha : ρ.1 31 = nI a) (hae : a ≤ e) (h37 : ρ.1 37 = -1) (hp : ∀ ρ', RLk ρ' (tok b e a) → frI nxK ρ ρ' → post ρ') : wpR_next_0 post ρ := by
  have hle := h.2.1
  refine gLP.up e (fun k (s : RSt) => a ≤ k ∧ k ≤ e ∧ rn (isSp b) e k = rn (isSp b) e a ∧ s.1 31 = nI k ∧ s.1 37 = -1 ∧ frI nxK ρ s) (fun k x h => h.2.1) ?_ (j := a) ⟨Nat.le_refl _, hae, rfl, ha, h37, frI.rf⟩
  rintro k s P ⟨hak, hke, hrn, g31, g37, gfr⟩ hP
  have hT := gfr.tp h
  have hend : rn (isSp b) e k = k → wpR_next_38 post s := by
    intro hk
    have hkf : rn (isSp b) e a = k := hrn.symm.trans hk
    have htok : tok b e a = (if e ≤ k then (k, k, 15, 0) else if isLe b k = true then (k, rn (isLe b) e k, kwd b k (rn (isLe b) e k - k), 0) else if isDi b k = true then (k, rn (isDi b) e k, (if rn (isDi b) e k - k ≤ 6 then 14 else 16), dvN b k (rn (isDi b) e k - k)) else (k, k + 1, sgk (b k), 0)) := by
      unfold tok
      rw [hkf]
    rw [htok] at hp
    unfold wpR_next_38
    rw [g31]
    rintro s33 rfl s34 rfl
    have q31 : (rsI (rsI s 34 (nI k)) 35 0).1 31 = nI k := by rw [rI_n (by decide), rI_n (by decide)]; exact g31
    have q34 : (rsI (rsI s 34 (nI k)) 35 0).1 34 = nI k := by rw [rI_n (by decide), rI_s]
    have q35 : (rsI (rsI s 34 (nI k)) 35 0).1 35 = 0 := rI_s
    have q37 : (rsI (rsI s 34 (nI k)) 35 0).1 37 = -1 := by rw [rI_n (by decide), rI_n (by decide)]; exact g37
    have qfr : frI nxK ρ (rsI (rsI s 34 (nI k)) 35 0) := (gfr.tr (frI.I (by unfold nxK; omega))).tr (frI.I (by unfold nxK; omega))
    generalize rsI (rsI s 34 (nI k)) 35 0 = t at q31 q34 q35 q37 qfr
    have hTt := qfr.tp h
    rw [q31, hTt.en, nI_eq (by omega) (by omega)]
    refine ⟨fun e1 => ⟨vp_in_nI (by omega) (by omega), ?_⟩, fun e1 => ?_⟩
    rotate_left
    · rintro s39 rfl
      rw [if_pos (by omega)] at hp
      refine hp _ ⟨fun _ => ⟨by rw [rI_n (by decide)]; exact q37, by rw [rI_n (by decide)]; exact q34, by rw [rI_n (by decide)]; exact q31, fun _ => rI_s, fun e => absurd (show (15 : Nat) < 9 from e) (by decide), fun e => absurd (show (15 : Nat) = 14 from e) (by decide), fun _ e => absurd (show (15 : Nat) ≤ 13 from e) (by decide)⟩, fun e => absurd (show (15 : Nat) = 16 from e) (by decide)⟩ (qfr.tr (frI.I (by unfold nxK; omega)))
    have hbk := hTt.bb (i := k) (by omega)
    obtain ⟨b1, b2, b3, b4, b5⟩ := sB_all _ hbk
    rw [if_neg (by omega)] at hp
    rw [hTt.t (by omega), b1, b2]
    have hother : ¬ isLe b k = true → wpR_next_195 post t (sB (b k)) := by
      intro hl
      rw [if_neg hl] at hp
      have hsig : ¬ isDi b k = true → wpR_next_327 post t (sB (b k)) := by
        intro hd
        rw [if_neg hd] at hp
        obtain ⟨c1, c2, c3, c4, c5⟩ := sB_sg _ hbk
        unfold wpR_next_327
        rintro s1 rfl s2 rfl s3 rfl
        have u34 : (rsI (rsI (rsI t 33 3) 35 (sB (b k))) 31 ((rsI (rsI t 33 3) 35 (sB (b k))).1 31 + 1)).1 34 = nI k := by rw [rI_n (by decide), rI_n (by decide), rI_n (by decide)]; exact q34
        have u31 : (rsI (rsI (rsI t 33 3) 35 (sB (b k))) 31 ((rsI (rsI t 33 3) 35 (sB (b k))).1 31 + 1)).1 31 = nI (k + 1) := by rw [rI_s, rI_n (by decide), rI_n (by decide), q31, nI_1]
        have u33 : (rsI (rsI (rsI t 33 3) 35 (sB (b k))) 31 ((rsI (rsI t 33 3) 35 (sB (b k))).1 31 + 1)).1 33 = 3 := by rw [rI_n (by decide), rI_n (by decide), rI_s]
        have u35 : (rsI (rsI (rsI t 33 3) 35 (sB (b k))) 31 ((rsI (rsI t 33 3) 35 (sB (b k))).1 31 + 1)).1 35 = sB (b k) := by rw [rI_n (by decide), rI_s]
        have u37 : (rsI (rsI (rsI t 33 3) 35 (sB (b k))) 31 ((rsI (rsI t 33 3) 35 (sB (b k))).1 31 + 1)).1 37 = -1 := by rw [rI_n (by decide), rI_n (by decide), rI_n (by decide)]; exact q37
        have ufr : frI nxK ρ (rsI (rsI (rsI t 33 3) 35 (sB (b k))) 31 ((rsI (rsI t 33 3) 35 (sB (b k))).1 31 + 1)) := ((qfr.tr (frI.I (by unfold nxK; omega))).tr (frI.I (by unfold nxK; omega))).tr (frI.I (by unfold nxK; omega))
        generalize rsI (rsI (rsI t 33 3) 35 (sB (b k))) 31 ((rsI (rsI t 33 3) 35 (sB (b k))).1 31 + 1) = u at u34 u31 u33 u35 u37 ufr
        have good : b k < 128 → sgk (b k) ≤ 13 → sgc (sgk (b k)) = b k → post u := by
          intro h128 h13 hs
          have hsg := sgk_c (b k)
          refine hp u ⟨fun _ => ⟨u37, u34, u31, fun e => ?_, fun e => ?_, fun e => ?_, fun _ _ => ⟨u33, ?_⟩⟩, fun e => ?_⟩ ufr
          · dsimp only at e; omega
          · dsimp only at e; omega
          · dsimp only at e; omega
          · rw [u35, sB_lo h128]; dsimp only; rw [hs]
          · dsimp only at e; omega
        obtain ⟨d1, d2, d3, d4, d5, d6⟩ := sgk_e (c := b k)
        rw [c1, c2, c3, c4, c5]
        refine ⟨fun x1 => good (by omega) (by rw [d3 x1]; decide) (by rw [d3 x1, x1]; rfl), fun x1 => ⟨fun x2 => good (by omega) (by rw [d5 x2]; decide) (by rw [d5 x2, x2]; rfl), fun x2 => ⟨fun x3 => good (by omega) (by rw [d4 x3]; decide) (by rw [d4 x3, x3]; rfl), fun x3 => ⟨fun x4 => good (by omega) (by rw [d1 x4]; decide) (by rw [d1 x4, x4]; rfl), fun x4 => ⟨fun x5 => good (by omega) (by rw [d2 x5]; decide) (by rw [d2 x5, x5]; rfl), fun x5 => sR_fail u37 (hp _ ⟨fun e => absurd (d6 x4 x5 x1 x3 x2) e, fun _ => ?_⟩ (ufr.tr (frI.I (by unfold nxK; omega))))⟩⟩⟩⟩⟩
        rw [rI_s]; exact u34
      have hdi : isDi b k = true ↔ 48 ≤ b k ∧ b k ≤ 57 := isDi_t
      unfold wpR_next_195
      rw [b3, b4]
      refine ⟨fun e2 => hsig (fun g => by have := hdi.mp g; omega), fun e2 => ⟨fun e3 => hsig (fun g => by have := hdi.mp g; omega), fun e3 => ?_⟩⟩
      have hd : isDi b k = true := hdi.mpr (by omega)
      rw [if_pos hd] at hp
      rintro s20 rfl
      refine gLP.up e (fun q (x : RSt) => k ≤ q ∧ q ≤ e ∧ rn (isDi b) e q = rn (isDi b) e k ∧ x.1 31 = nI q ∧ x.1 34 = nI k ∧ x.1 33 = 2 ∧ x.1 35 = nI (dvN b k (q - k)) ∧ x.1 37 = -1 ∧ frI nxK ρ x) (fun k x h => h.2.1) ?_ (j := k) ⟨Nat.le_refl _, hke, rfl, by rw [rI_n (by decide)]; exact q31, by rw [rI_n (by decide)]; exact q34, rI_s, by rw [rI_n (by decide), q35, Nat.sub_self]; rfl, by rw [rI_n (by decide)]; exact q37, qfr.tr (frI.I (by unfold nxK; omega))⟩
      rintro q u Q ⟨hkq, hqe, hrq, w31, w34, w33, w35, w37, wfr⟩ hQ
      have hTu := wfr.tp h
      have hfin : rn (isDi b) e q = q → wpR_next_302 post u := by
        intro hq
        have hqk : rn (isDi b) e k = q := hrq.symm.trans hq
        rw [hqk] at hp
        unfold wpR_next_302
        rw [w31, w34, nI_sub hkq, show (6 : Int32) = nI 6 from rfl, nI_leI (by omega) (by omega)]
        refine ⟨fun e4 => ?_, fun e4 => sR_fail w37 ?_⟩
        · rw [if_pos e4] at hp
          exact hp u ⟨fun _ => ⟨w37, w34, w31, fun e => absurd (show (14 : Nat) = 15 from e) (by decide), fun e => absurd (show (14 : Nat) < 9 from e) (by decide), fun _ => ⟨w33, w35⟩, fun _ e => absurd (show (14 : Nat) ≤ 13 from e) (by decide)⟩, fun e => absurd (show (14 : Nat) = 16 from e) (by decide)⟩ wfr
        · rw [if_neg e4] at hp
          exact hp _ ⟨fun e => absurd rfl e, fun _ => rI_s⟩ (wfr.tr (frI.I (by unfold nxK; omega)))
      unfold wpR_next_212_F
      rw [hTu.en, w31, nI_leI (by omega) (by omega)]
      refine ⟨fun e4 => hfin (rn_no (fun g => absurd g (by omega))), fun e4 => ⟨vp_in_nI (by omega) (by omega), ?_⟩⟩
      obtain ⟨-, -, b3', b4', -⟩ := sB_all _ (hTu.bb (i := q) (by omega))
      have hdi' : isDi b q = true ↔ 48 ≤ b q ∧ b q ≤ 57 := isDi_t
      rw [hTu.t (by omega), b3', b4']
      refine ⟨fun e5 => hfin (rn_no (fun _ g => by have := hdi'.mp g; omega)), fun e5 => ⟨vp_in_nI (by omega) (by omega), fun e6 => hfin (rn_no (fun _ g => by have := hdi'.mp g; omega)), fun e6 => ?_⟩⟩
      have hdq : isDi b q = true := hdi'.mpr (by omega)
      have hr1 : rn (isDi b) e (q + 1) = rn (isDi b) e k := (rn_st (by omega) hdq).symm.trans hrq
      have hnx : ∀ s', s'.1 31 = nI q → s'.1 34 = nI k → s'.1 33 = 2 → s'.1 35 = nI (dvN b k (q + 1 - k)) → s'.1 37 = -1 → frI nxK ρ s' → wpR_next_289 post (fun s => Q s) s' := by
        intro s' g1 g2 g3 g4 g5 g6
        unfold wpR_next_289
        rw [g1, nI_1]
        rintro s12 rfl
        exact hQ _ ⟨by omega, by omega, hr1, rI_s, by rw [rI_n (by decide)]; exact g2, by rw [rI_n (by decide)]; exact g3, by rw [rI_n (by decide)]; exact g4, by rw [rI_n (by decide)]; exact g5, g6.tr (frI.I (by unfold nxK; omega))⟩
      rw [w34, nI_sub hkq, show (6 : Int32) = nI 6 from rfl, nI_leI (by omega) (by omega)]
      refine ⟨fun e7 => hnx u w31 w34 w33 ?_ w37 wfr, fun e7 => ⟨vp_in_nI (by omega) (by omega), ?_⟩⟩
      · rw [w35, show q + 1 - k = (q - k) + 1 by omega]
        show _ = nI (if q - k < 6 then _ else dvN b k (q - k))
        rw [if_neg (by omega)]
      · rintro s17 rfl
        refine hnx _ (by rw [rI_n (by decide)]; exact w31) (by rw [rI_n (by decide)]; exact w34) (by rw [rI_n (by decide)]; exact w33) ?_ (by rw [rI_n (by decide)]; exact w37) (wfr.tr (frI.I (by unfold nxK; omega)))
        rw [rI_s, w35, show q + 1 - k = (q - k) + 1 by omega]
        show _ = nI (if q - k < 6 then dvN b k (q - k) * 10 + (b (k + (q - k)) - 48) else _)
        rw [if_pos (by omega), show k + (q - k) = q by omega, sB_lo (by omega)]
        rw [show (10 : Int32) = nI 10 from rfl, nI_mul, nI_add, show (48 : Int32) = nI 48 from rfl, nI_sub (by omega)]
        congr 1
        omega
    have hle' : isLe b k = true ↔ 97 ≤ b k ∧ b k ≤ 122 := isLe_t
    refine ⟨fun e2 => hother (fun g => by have := hle'.mp g; omega), fun e2 => ⟨fun e3 => hother (fun g => by have := hle'.mp g; omega), fun e3 => ?_⟩⟩
    have hl : isLe b k = true := hle'.mpr (by omega)
    rw [if_pos hl] at hp
    rintro s38 rfl
    refine gLP.up e (fun q (x : RSt) => k ≤ q ∧ q ≤ e ∧ rn (isLe b) e q = rn (isLe b) e k ∧ (∀ i : Nat, k ≤ i → i < q → b i < 128) ∧ x.1 31 = nI q ∧ x.1 34 = nI k ∧ x.1 33 = 1 ∧ x.1 35 = 0 ∧ x.1 37 = -1 ∧ frI nxK ρ x) (fun k x h => h.2.1) ?_ (j := k) ⟨Nat.le_refl _, hke, rfl, fun i h1 h2 => by omega, by rw [rI_n (by decide)]; exact q31, by rw [rI_n (by decide)]; exact q34, rI_s, by rw [rI_n (by decide)]; exact q35, by rw [rI_n (by decide)]; exact q37, qfr.tr (frI.I (by unfold nxK; omega))⟩
    rintro q u Q ⟨hkq, hqe, hrq, hlet, w31, w34, w33, w35, w37, wfr⟩ hQ
    have hTu := wfr.tp h
    have hfin : rn (isLe b) e q = q → wpR_next_147 post u := by
      intro hq
      have hqk : rn (isLe b) e k = q := hrq.symm.trans hq
      rw [hqk] at hp
      exact sR_words hTu w34 w31 w35 w37 w33 hkq hqe hlet (fun ρ' g1 g2 => hp ρ' g1 (wfr.tr g2))
    unfold wpR_next_95_F
    rw [hTu.en, w31, nI_leI (by omega) (by omega)]
    refine ⟨fun e4 => hfin (rn_no (fun g => absurd g (by omega))), fun e4 => ⟨vp_in_nI (by omega) (by omega), ?_⟩⟩
    obtain ⟨b1', b2', -⟩ := sB_all _ (hTu.bb (i := q) (by omega))
    have hle2 : isLe b q = true ↔ 97 ≤ b q ∧ b q ≤ 122 := isLe_t
    rw [hTu.t (by omega), b1', b2']
    refine ⟨fun e5 => hfin (rn_no (fun _ g => by have := hle2.mp g; omega)), fun e5 => ⟨vp_in_nI (by omega) (by omega), fun e6 => hfin (rn_no (fun _ g => by have := hle2.mp g; omega)), fun e6 => ?_⟩⟩
    rw [nI_1]
    rintro s32 rfl
    refine hQ _ ⟨by omega, by omega, (rn_st (by omega) (hle2.mpr (by omega))).symm.trans hrq, fun i h1 h2 => ?_, rI_s, by rw [rI_n (by decide)]; exact w34, by rw [rI_n (by decide)]; exact w33, by rw [rI_n (by decide)]; exact w35, by rw [rI_n (by decide)]; exact w37, wfr.tr (frI.I (by unfold nxK; omega))⟩
    by_cases eq : i = q
    · subst eq; omega
    · exact hlet i h1 (by omega)
  unfold wpR_next_0_F
  rw [hT.en, g31, nI_leI (by omega) (by omega)]
  refine ⟨fun e1 => hend (rn_no (fun g => absurd g (by omega))), fun e1 => ⟨vp_in_nI (by omega) (by omega), ?_⟩⟩
  obtain ⟨-, -, -, -, b5⟩ := sB_all _ (hT.bb (i := k) (by omega))
  rw [hT.t (by omega), b5]
  refine ⟨fun e2 => hend (rn_no (fun _ g => e2 (isSp_t.mp g))), fun e2 => ?_⟩
  rw [nI_1]
  rintro s42 rfl
  exact hP _ ⟨by omega, by omega, (rn_st (by omega) (isSp_t.mpr e2)).symm.trans hrn, rI_s, by rw [rI_n (by decide)]; exact g37, gfr.tr (frI.I (by unfold nxK; omega))⟩
end RR1
end
