section
/-! rules' texts: the class reads the next word, number or sign -/
section CR1
variable {σ0 σ σ' : CSt} {lab : Nat → Nat} {ad : Nat → Nat → Nat} {b : Nat → Nat} {e nS nL : Nat}
def rdX : Nat → Nat → Prop := fun k a => (k = 5 ∨ k = 9) ∧ a = 0
def RdC (σ0 σ : CSt) (lab : Nat → Nat) (ad : Nat → Nat → Nat) (b : Nat → Nat) (e nS nL : Nat) : Prop :=
  keepS rdX σ0 lab σ lab ∧ (obj σ lab ad 5 0 ∧ cR σ 82 (ad 5 0) = some (ad 9 0) ∧ obj σ lab ad 9 0 ∧ cN σ (ad 9 0) = 400) ∧ (cR σ 84 (ad 5 0) = some (ad 8 0) ∧ cAt σ 8 (ad 8 0) ∧ cN σ (ad 8 0) = 400 ∧ ∀ i : Nat, i < 400 → b i < 256 ∧ cV σ (ad 8 0) i = sB (b i)) ∧ cI σ 85 (ad 5 0) = nI e ∧ cI σ 86 (ad 5 0) = nI nS ∧ cI σ 87 (ad 5 0) = nI nL ∧ e ≤ 400 ∧ nS ≤ 10 ∧ nL ≤ 8
theorem RdC.o (h : RdC σ0 σ lab ad b e nS nL) : cAt σ 5 (ad 5 0) := h.2.1.1.1
theorem RdC.en (h : RdC σ0 σ lab ad b e nS nL) : cI σ 85 (ad 5 0) = nI e := h.2.2.2.1
theorem RdC.le (h : RdC σ0 σ lab ad b e nS nL) : e ≤ 400 := h.2.2.2.2.2.2.1
theorem RdC.bb (h : RdC σ0 σ lab ad b e nS nL) {i : Nat} (hi : i < 400) : b i < 256 := (h.2.2.1.2.2.2 i hi).1
theorem RdC.I (h : RdC σ0 σ lab ad b e nS nL) {k : Nat} {v : Int32} (hk : k ≠ 85 ∧ k ≠ 86 ∧ k ≠ 87) : RdC σ0 (csI σ k (ad 5 0) v) lab ad b e nS nL := by
  obtain ⟨h1, h2, h3, h4, h5, h6, h7⟩ := h
  refine ⟨h1.tr ((keep_csI h2.1.1 h2.1.2 k v).s.mono (fun a l hx => ?_)), h2, h3, ?_, ?_, ?_, h7⟩
  · exact ⟨Or.inl hx.1, hx.2⟩
  · rw [pI_csI, cu2_ap, if_neg (by omega)]; exact h4
  · rw [pI_csI, cu2_ap, if_neg (by omega)]; exact h5
  · rw [pI_csI, cu2_ap, if_neg (by omega)]; exact h6
/-- what stays of the reader -/
def frK (K : Nat → Prop) (σ σ' : CSt) (ad : Nat → Nat → Nat) : Prop := (∀ k, ¬ K k → cI σ' k (ad 5 0) = cI σ k (ad 5 0)) ∧ ∀ i, cV σ' (ad 9 0) i = cV σ (ad 9 0) i
theorem frK.rf {K : Nat → Prop} : frK K σ σ ad := ⟨fun _ _ => rfl, fun _ => rfl⟩
theorem frK.tr {K : Nat → Prop} {σ'' : CSt} (h : frK K σ σ' ad) (g : frK K σ' σ'' ad) : frK K σ σ'' ad := ⟨fun k hk => (g.1 k hk).trans (h.1 k hk), fun i => (g.2 i).trans (h.2 i)⟩
theorem frK.I {K : Nat → Prop} {k : Nat} {v : Int32} (hk : K k) : frK K σ (csI σ k (ad 5 0) v) ad := ⟨fun q hq => by rw [pI_csI, cu2_ap, if_neg (fun e => hq (by rw [e]; exact hk))], fun _ => rfl⟩
def adK : Nat → Prop := fun k => k = 88 ∨ k = 89 ∨ k = 90 ∨ k = 91
def XT (σ : CSt) (ad : Nat → Nat → Nat) (τ : Tk) : Prop := cI σ 89 (ad 5 0) = nI τ.1 ∧ cI σ 88 (ad 5 0) = nI τ.2.1 ∧ cI σ 90 (ad 5 0) = nI τ.2.2.1 ∧ (τ.2.2.1 = 14 → cI σ 91 (ad 5 0) = nI τ.2.2.2)
theorem cI_s {k a : Nat} {v : Int32} : cI (csI σ k a v) k a = v := by rw [pI_csI, cu2_ap, if_pos rfl, if_pos rfl]
theorem cI_n {k k' a : Nat} {v : Int32} (h : k' ≠ k) : cI (csI σ k a v) k' a = cI σ k' a := by rw [pI_csI, cu2_ap, if_neg h]
theorem sC_byte {post : Int32 → CSt → Prop} {i : Nat} (h : RdC σ0 σ lab ad b e nS nL) (hi : i < 400) (hp : post (nI (b i)) σ) : wpC_X5_byteAt_0 post σ (ad 5 0) (nI i) := by
  obtain ⟨g1, g2, g3, g4⟩ := h.2.2.1
  refine ⟨fun e => absurd e (nI_nn (by omega)), fun _ => ⟨h.o, _, g1, g2, fun e => ?_, fun e => ⟨h.o, _, g1, g2, ?_, ?_⟩⟩⟩
  · rw [g3, nI_leI (by omega) (by omega)] at e; omega
  · rw [g3]; exact vp_in_nI (by omega) (by omega)
  · rw [nI_clamp (by omega), (g4 i hi).2, sB_and _ (g4 i hi).1]; exact hp
theorem sC_letter {post : Int32 → CSt → Prop} {i : Nat} (hb : b i < 256) (hy : isLe b i = true → post 1 σ) (hn : ¬ isLe b i = true → post 0 σ) : wpC_X5_isLetter_0 post σ (nI (b i)) := by
  rw [isLe_t] at hy hn
  refine ⟨fun e => hn ?_, fun e => ⟨fun e2 => hn ?_, fun e2 => hy ?_⟩⟩
  · rw [show (97 : Int32) = nI 97 from rfl, nI_ltI (by omega) (by omega)] at e; omega
  · rw [show (122 : Int32) = nI 122 from rfl, nI_ltI (by omega) (by omega)] at e2; omega
  · rw [show (97 : Int32) = nI 97 from rfl, nI_ltI (by omega) (by omega)] at e
    rw [show (122 : Int32) = nI 122 from rfl, nI_ltI (by omega) (by omega)] at e2; omega
theorem sC_digit {post : Int32 → CSt → Prop} {i : Nat} (hb : b i < 256) (hy : isDi b i = true → post 1 σ) (hn : ¬ isDi b i = true → post 0 σ) : wpC_X5_isDigit_0 post σ (nI (b i)) := by
  rw [isDi_t] at hy hn
  refine ⟨fun e => hn ?_, fun e => ⟨fun e2 => hn ?_, fun e2 => hy ?_⟩⟩
  · rw [show (48 : Int32) = nI 48 from rfl, nI_ltI (by omega) (by omega)] at e; omega
  · rw [show (57 : Int32) = nI 57 from rfl, nI_ltI (by omega) (by omega)] at e2; omega
  · rw [show (48 : Int32) = nI 48 from rfl, nI_ltI (by omega) (by omega)] at e
    rw [show (57 : Int32) = nI 57 from rfl, nI_ltI (by omega) (by omega)] at e2; omega
theorem words_len : ∀ i : Nat, i < 9 → (ctb.getD i []).length ≤ 4 := by decide +kernel
theorem sC_spells {post : Int32 → CSt → Prop} {i f a : Nat} (h : RdC σ0 σ lab ad b e nS nL) (hi : i < 9) (hf : cI σ 89 (ad 5 0) = nI f) (ha : cI σ 88 (ad 5 0) = nI a) (hfa : f ≤ a) (hae : a ≤ e) (hy : isw b f (a - f) (ctb.getD i []) → post 1 σ) (hn : ¬ isw b f (a - f) (ctb.getD i []) → post 0 σ) : wpC_X5_spells_0 post σ (ad 5 0) i := by
  have hlen := words_len i hi
  have hle := h.le
  unfold wpC_X5_spells_0
  rw [ha, hf, nI_sub hfa]
  generalize hw : ctb.getD i [] = w at hy hn hlen ⊢
  refine ⟨h.o, h.o, hi, fun e1 => ?_, fun e1 => ?_⟩
  rotate_left
  · rw [nI_eq (by omega) (by omega)] at e1
    exact hn (fun g => e1 g.1)
  · rw [nI_eq (by omega) (by omega)] at e1
    refine gLP.up w.length (fun k (x : CSt × Nat × Nat × Int32) => k ≤ w.length ∧ (∀ q : Nat, q < k → nI (b (f + q)) = jAt w (nI q)) ∧ x = (σ, ad 5 0, i, nI k)) (fun k x h => h.1) ?_ (j := 0) ⟨Nat.zero_le _, fun q hq => absurd hq (Nat.not_lt_zero _), rfl⟩
    rintro k x P ⟨hk, hq, rfl⟩ hP
    dsimp only
    unfold wpC_X5_spells_20_F
    rw [hw]
    refine ⟨hi, fun e2 => ?_, fun e2 => ⟨h.o, h.o, ?_⟩⟩
    · rw [nI_leI (by omega) (by omega)] at e2
      exact hy ⟨e1, fun q hq' => hq q (by omega)⟩
    · rw [nI_leI (by omega) (by omega)] at e2
      rw [hf, nI_add]
      refine sC_byte h (by omega) ⟨hi, nI_nn (by omega), by rw [nI_ltI (by omega) (by omega)]; omega, fun e3 => hP _ ⟨by omega, fun q hq' => ?_, by rw [nI_1]⟩, fun e3 => hn (fun g => e3 (g.2 k (by omega)))⟩
      by_cases eq : q = k
      · subst eq; exact e3
      · exact hq q (by omega)
theorem sC_word {post : Int32 → CSt → Prop} {f a : Nat} (h : RdC σ0 σ lab ad b e nS nL) (hf : cI σ 89 (ad 5 0) = nI f) (ha : cI σ 88 (ad 5 0) = nI a) (hfa : f ≤ a) (hae : a ≤ e) (hp : post (nI (kwd b f (a - f))) σ) : wpC_X5_kindOfWord_0 post σ (ad 5 0) := by
  have S : ∀ (post : Int32 → CSt → Prop) (i : Nat), i < 9 → (isw b f (a - f) (ctb.getD i []) → post 1 σ) → (¬ isw b f (a - f) (ctb.getD i []) → post 0 σ) → wpC_X5_spells_0 post σ (ad 5 0) i := fun post i hi hy hn => sC_spells h hi hf ha hfa hae hy hn
  refine ⟨h.o, S _ 0 (by decide) (fun g => ⟨fun e => absurd e (by decide), fun _ => by rw [kwd_y (by decide) g] at hp; exact hp⟩) (fun g0 => ⟨fun _ => ⟨h.o, S _ 1 (by decide) (fun g => ⟨fun e => absurd e (by decide), fun _ => by rw [kwd_y (by decide) g] at hp; exact hp⟩) (fun g1 => ⟨fun _ => ⟨h.o, ?_⟩, fun e => absurd rfl e⟩)⟩, fun e => absurd rfl e⟩)⟩
  refine S _ 2 (by decide) (fun g => ⟨fun e => absurd e (by decide), fun _ => by rw [kwd_y (by decide) g] at hp; exact hp⟩) (fun g2 => ⟨fun _ => ⟨h.o, ?_⟩, fun e => absurd rfl e⟩)
  refine S _ 3 (by decide) (fun g => ⟨fun e => absurd e (by decide), fun _ => by rw [kwd_y (by decide) g] at hp; exact hp⟩) (fun g3 => ⟨fun _ => ⟨h.o, ?_⟩, fun e => absurd rfl e⟩)
  refine S _ 4 (by decide) (fun g => ⟨fun e => absurd e (by decide), fun _ => by rw [kwd_y (by decide) g] at hp; exact hp⟩) (fun g4 => ⟨fun _ => ⟨h.o, ?_⟩, fun e => absurd rfl e⟩)
  refine S _ 5 (by decide) (fun g => ⟨fun e => absurd e (by decide), fun _ => by rw [kwd_y (by decide) g] at hp; exact hp⟩) (fun g5 => ⟨fun _ => ⟨h.o, ?_⟩, fun e => absurd rfl e⟩)
  refine S _ 6 (by decide) (fun g => ⟨fun e => absurd e (by decide), fun _ => by rw [kwd_y (by decide) g] at hp; exact hp⟩) (fun g6 => ⟨fun _ => ⟨h.o, ?_⟩, fun e => absurd rfl e⟩)
  refine S _ 7 (by decide) (fun g => ⟨fun e => absurd e (by decide), fun _ => by rw [kwd_y (by decide) g] at hp; exact hp⟩) (fun g7 => ⟨fun _ => ⟨h.o, ?_⟩, fun e => absurd rfl e⟩)
  refine S _ 8 (by decide) (fun g => ⟨fun e => absurd e (by decide), fun _ => by rw [kwd_y (by decide) g] at hp; exact hp⟩) (fun g8 => ⟨fun _ => ?_, fun e => absurd rfl e⟩)
  rw [kwd_n (fun i hi => by
    rcases (show i = 0 ∨ i = 1 ∨ i = 2 ∨ i = 3 ∨ i = 4 ∨ i = 5 ∨ i = 6 ∨ i = 7 ∨ i = 8 by omega) with rfl | rfl | rfl | rfl | rfl | rfl | rfl | rfl | rfl
    · exact g0
    · exact g1
    · exact g2
    · exact g3
    · exact g4
    · exact g5
    · exact g6
    · exact g7
    · exact g8)] at hp
  exact hp
theorem sC_number {post : CSt → Prop} {f : Nat} (h : RdC σ0 σ lab ad b e nS nL) (hf : cI σ 89 (ad 5 0) = nI f) (ha : cI σ 88 (ad 5 0) = nI f) (hfe : f ≤ e) (hp : ∀ σ', RdC σ0 σ' lab ad b e nS nL → XT σ' ad (f, rn (isDi b) e f, (if rn (isDi b) e f - f ≤ 6 then 14 else 16), dvN b f (rn (isDi b) e f - f)) → frK adK σ σ' ad → post σ') : wpC_X5_advanceNumber_0 post σ (ad 5 0) := by
  have hle := h.le
  refine ⟨h.o, ?_⟩
  rintro s14 rfl
  refine gLP.up e (fun k (x : CSt × Nat) => f ≤ k ∧ k ≤ e ∧ rn (isDi b) e k = rn (isDi b) e f ∧ (∀ i : Nat, f ≤ i → i < k → isDi b i = true) ∧ RdC σ0 x.1 lab ad b e nS nL ∧ cI x.1 89 (ad 5 0) = nI f ∧ cI x.1 88 (ad 5 0) = nI k ∧ cI x.1 91 (ad 5 0) = nI (dvN b f (k - f)) ∧ frK adK σ x.1 ad ∧ x.2 = ad 5 0) (fun k x h => h.2.1) ?_ (j := f) ⟨Nat.le_refl _, hfe, rfl, fun i h1 h2 => by omega, h.I (by decide), by rw [cI_n (by decide)]; exact hf, by rw [cI_n (by decide)]; exact ha, by rw [cI_s, Nat.sub_self]; rfl, frK.I (by unfold adK; omega), rfl⟩
  rintro k ⟨s, y⟩ P ⟨hfk, hke, hrn, hall, hC, h89, h88, h91, hfr, e0⟩ hP
  dsimp only at hC h89 h88 h91 hfr e0
  subst e0
  dsimp only
  have hend : rn (isDi b) e k = k → wpC_X5_advanceNumber_80 post s (ad 5 0) := by
    intro hk
    have hkf : rn (isDi b) e f = k := hrn.symm.trans hk
    rw [hkf] at hp
    unfold wpC_X5_advanceNumber_80
    rw [h88, h89, nI_sub hfk]
    refine ⟨hC.o, hC.o, fun e1 => ⟨hC.o, ?_⟩, fun e1 => ⟨hC.o, ?_⟩⟩
    · rintro s1 rfl
      rw [show (6 : Int32) = nI 6 from rfl, nI_ltI (by omega) (by omega)] at e1
      refine hp _ (hC.I (by decide)) ?_ (hfr.tr (frK.I (by unfold adK; omega)))
      rw [if_neg (by omega)]
      exact ⟨by rw [cI_n (by decide)]; exact h89, by rw [cI_n (by decide)]; exact h88, cI_s, fun e => absurd (show (16 : Nat) = 14 from e) (by decide)⟩
    · rintro s1 rfl
      rw [show (6 : Int32) = nI 6 from rfl, nI_ltI (by omega) (by omega)] at e1
      refine hp _ (hC.I (by decide)) ?_ (hfr.tr (frK.I (by unfold adK; omega)))
      rw [if_pos (by omega)]
      exact ⟨by rw [cI_n (by decide)]; exact h89, by rw [cI_n (by decide)]; exact h88, cI_s, fun _ => by rw [cI_n (by decide)]; exact h91⟩
  unfold wpC_X5_advanceNumber_5_F
  rw [hC.en, h88, nI_leI (by omega) (by omega)]
  refine ⟨hC.o, hC.o, fun e1 => hend (rn_no (fun g => absurd g (by omega))), fun e1 => ⟨hC.o, hC.o, sC_byte hC (by omega) (sC_digit (hC.bb (by omega)) (fun hd => ⟨fun e => absurd e (by decide), fun _ => ⟨hC.o, hC.o, ?_⟩⟩) (fun hd => ⟨fun _ => hend (rn_no (fun _ => hd)), fun e => absurd rfl e⟩))⟩⟩
  have hr1 : rn (isDi b) e (k + 1) = rn (isDi b) e f := (rn_st (by omega) hd).symm.trans hrn
  have hall' : ∀ i : Nat, f ≤ i → i < k + 1 → isDi b i = true := fun i h1 h2 => by
    by_cases e : i = k
    · subst e; exact hd
    · exact hall i h1 (by omega)
  rw [h88, h89, nI_sub hfk]
  have hnx : ∀ s', RdC σ0 s' lab ad b e nS nL → cI s' 89 (ad 5 0) = nI f → cI s' 88 (ad 5 0) = nI k → cI s' 91 (ad 5 0) = nI (dvN b f (k + 1 - f)) → frK adK σ s' ad → wpC_X5_advanceNumber_67 post (fun s v0 => P (s, v0)) s' (ad 5 0) := by
    intro s' g1 g2 g3 g4 g5
    refine ⟨g1.o, g1.o, ?_⟩
    rw [g3, nI_1]
    rintro s3 rfl
    exact hP _ ⟨by omega, by omega, hr1, hall', g1.I (by decide), by rw [cI_n (by decide)]; exact g2, cI_s, by rw [cI_n (by decide)]; exact g4, g5.tr (frK.I (by unfold adK; omega)), rfl⟩
  rw [show (6 : Int32) = nI 6 from rfl, nI_leI (by omega) (by omega)]
  refine ⟨fun e2 => hnx s hC h89 h88 ?_ hfr, fun e2 => ⟨hC.o, hC.o, hC.o, sC_byte hC (by omega) ⟨hC.o, ?_⟩⟩⟩
  · rw [h91, show k + 1 - f = (k - f) + 1 by omega]
    show _ = nI (if k - f < 6 then _ else dvN b f (k - f))
    rw [if_neg (by omega)]
  · rintro s13 rfl
    refine hnx _ (hC.I (by decide)) (by rw [cI_n (by decide)]; exact h89) (by rw [cI_n (by decide)]; exact h88) ?_ (hfr.tr (frK.I (by unfold adK; omega)))
    rw [cI_s, h91, show k + 1 - f = (k - f) + 1 by omega]
    show _ = nI (if k - f < 6 then dvN b f (k - f) * 10 + (b (f + (k - f)) - 48) else _)
    rw [if_pos (by omega), show f + (k - f) = k by omega]
    rw [isDi_t] at hd
    rw [show (10 : Int32) = nI 10 from rfl, nI_mul, nI_add, show (48 : Int32) = nI 48 from rfl, nI_sub (by omega)]
    congr 1
    omega
theorem sgk_e {c : Nat} : (c = 40 → sgk c = 12) ∧ (c = 41 → sgk c = 13) ∧ (c = 60 → sgk c = 9) ∧ (c = 61 → sgk c = 11) ∧ (c = 62 → sgk c = 10) ∧ (¬ c = 40 → ¬ c = 41 → ¬ c = 60 → ¬ c = 61 → ¬ c = 62 → sgk c = 16) := by
  refine ⟨fun e => by rw [e]; rfl, fun e => by rw [e]; rfl, fun e => by rw [e]; rfl, fun e => by rw [e]; rfl, fun e => by rw [e]; rfl, fun a b c d f => ?_⟩
  unfold sgk
  rw [if_neg c, if_neg f, if_neg d, if_neg a, if_neg b]
theorem sC_sign {post : Int32 → CSt → Prop} {c : Nat} (hc : c < 256) (hp : post (nI (sgk c)) σ) : wpC_X5_kindOfSign_0 post σ (nI c) := by
  obtain ⟨a1, a2, a3, a4, a5, a6⟩ := sgk_e (c := c)
  unfold wpC_X5_kindOfSign_0
  rw [show (40 : Int32) = nI 40 from rfl, show (41 : Int32) = nI 41 from rfl, show (60 : Int32) = nI 60 from rfl, show (61 : Int32) = nI 61 from rfl, show (62 : Int32) = nI 62 from rfl, nI_eq (by omega) (by omega), nI_eq (by omega) (by omega), nI_eq (by omega) (by omega), nI_eq (by omega) (by omega), nI_eq (by omega) (by omega)]
  refine ⟨fun e => by rw [a1 e] at hp; exact hp, fun e => by rw [a2 e] at hp; exact hp, fun e => by rw [a3 e] at hp; exact hp, fun e => by rw [a4 e] at hp; exact hp, fun e => by rw [a5 e] at hp; exact hp, fun x1 x2 x3 x4 x5 => by rw [a6 x1 x2 x3 x4 x5] at hp; exact hp⟩
theorem sC_advance {post : CSt → Prop} {a : Nat} (h : RdC σ0 σ lab ad b e nS nL) (ha : cI σ 88 (ad 5 0) = nI a) (hae : a ≤ e) (hp : ∀ σ', RdC σ0 σ' lab ad b e nS nL → XT σ' ad (tok b e a) → frK adK σ σ' ad → post σ') : wpC_X5_advance_0 post σ (ad 5 0) := by
  have hle := h.le
  refine gLP.up e (fun k (x : CSt × Nat) => a ≤ k ∧ k ≤ e ∧ rn (isSp b) e k = rn (isSp b) e a ∧ RdC σ0 x.1 lab ad b e nS nL ∧ cI x.1 88 (ad 5 0) = nI k ∧ frK adK σ x.1 ad ∧ x.2 = ad 5 0) (fun k x h => h.2.1) ?_ (j := a) ⟨Nat.le_refl _, hae, rfl, h, ha, frK.rf, rfl⟩
  rintro k ⟨s, y⟩ P ⟨hak, hke, hrn, hC, h88, hfr, e0⟩ hP
  dsimp only at hC h88 hfr e0
  subst e0
  dsimp only
  have hend : rn (isSp b) e k = k → wpC_X5_advance_37 post s (ad 5 0) := by
    intro hk
    have hkf : rn (isSp b) e a = k := hrn.symm.trans hk
    have htok : tok b e a = (if e ≤ k then (k, k, 15, 0) else if isLe b k = true then (k, rn (isLe b) e k, kwd b k (rn (isLe b) e k - k), 0) else if isDi b k = true then (k, rn (isDi b) e k, (if rn (isDi b) e k - k ≤ 6 then 14 else 16), dvN b k (rn (isDi b) e k - k)) else (k, k + 1, sgk (b k), 0)) := by
      unfold tok
      rw [hkf]
    rw [htok] at hp
    unfold wpC_X5_advance_37
    refine ⟨hC.o, hC.o, ?_⟩
    rw [h88]
    rintro s11 rfl
    have hC1 := hC.I (k := 89) (v := nI k) (by decide)
    have h88' : cI (csI s 89 (ad 5 0) (nI k)) 88 (ad 5 0) = nI k := by rw [cI_n (by decide)]; exact h88
    have h89' : cI (csI s 89 (ad 5 0) (nI k)) 89 (ad 5 0) = nI k := cI_s
    have hfr1 : frK adK σ (csI s 89 (ad 5 0) (nI k)) ad := hfr.tr (frK.I (by unfold adK; omega))
    generalize csI s 89 (ad 5 0) (nI k) = t at hC1 h88' h89' hfr1
    rw [h88', hC1.en, nI_ltI (by omega) (by omega)]
    refine ⟨hC1.o, hC1.o, fun e1 => ⟨hC1.o, hC1.o, sC_byte hC1 (by omega) (sC_letter (hC1.bb (by omega)) (fun hl => ⟨fun e => absurd e (by decide), fun _ => ?_⟩) (fun hl => ⟨fun _ => ⟨hC1.o, hC1.o, ?_⟩, fun e => absurd rfl e⟩))⟩, fun e1 => ⟨hC1.o, ?_⟩⟩
    · rw [if_neg (by omega), if_pos hl] at hp
      refine gLP.up e (fun q (x : CSt × Nat) => k ≤ q ∧ q ≤ e ∧ rn (isLe b) e q = rn (isLe b) e k ∧ RdC σ0 x.1 lab ad b e nS nL ∧ cI x.1 88 (ad 5 0) = nI q ∧ cI x.1 89 (ad 5 0) = nI k ∧ frK adK σ x.1 ad ∧ x.2 = ad 5 0) (fun k x h => h.2.1) ?_ (j := k) ⟨Nat.le_refl _, hke, rfl, hC1, h88', h89', hfr1, rfl⟩
      rintro q ⟨u, y⟩ Q ⟨hkq, hqe, hrq, hU, g88, g89, gfr, e0⟩ hQ
      dsimp only at hU g88 g89 gfr e0
      subst e0
      dsimp only
      have hfin : rn (isLe b) e q = q → wpC_X5_advance_117 post u (ad 5 0) := by
        intro hq
        have hqk : rn (isLe b) e k = q := hrq.symm.trans hq
        rw [hqk] at hp
        refine ⟨hU.o, sC_word hU g89 g88 hkq hqe ⟨hU.o, ?_⟩⟩
        rintro s3 rfl
        have hkw := kwd_le (b := b) (f := k) (n := q - k)
        refine hp _ (hU.I (by decide)) ⟨by rw [cI_n (by decide)]; exact g89, by rw [cI_n (by decide)]; exact g88, cI_s, fun e => ?_⟩ (gfr.tr (frK.I (by unfold adK; omega)))
        dsimp only at e
        omega
      unfold wpC_X5_advance_79_F
      rw [hU.en, g88, nI_leI (by omega) (by omega)]
      refine ⟨hU.o, hU.o, fun e2 => hfin (rn_no (fun g => absurd g (by omega))), fun e2 => ⟨hU.o, hU.o, sC_byte hU (by omega) (sC_letter (hU.bb (by omega)) (fun hl2 => ⟨fun e => absurd e (by decide), fun _ => ⟨hU.o, hU.o, ?_⟩⟩) (fun hl2 => ⟨fun _ => hfin (rn_no (fun _ => hl2)), fun e => absurd rfl e⟩))⟩⟩
      rw [g88, nI_1]
      rintro s10 rfl
      exact hQ _ ⟨by omega, by omega, (rn_st (by omega) hl2).symm.trans hrq, hU.I (by decide), cI_s, by rw [cI_n (by decide)]; exact g89, gfr.tr (frK.I (by unfold adK; omega)), rfl⟩
    · rw [h88']
      refine sC_byte hC1 (by omega) (sC_digit (hC1.bb (by omega)) (fun hd => ⟨fun e => absurd e (by decide), fun _ => ⟨hC1.o, ?_⟩⟩) (fun hd => ⟨fun _ => ⟨hC1.o, hC1.o, ?_⟩, fun e => absurd rfl e⟩))
      · rw [if_neg (by omega), if_neg hl, if_pos hd] at hp
        exact sC_number hC1 h89' h88' hke (fun σ' g1 g2 g3 => hp σ' g1 g2 (hfr1.tr g3))
      · rw [if_neg (by omega), if_neg hl, if_neg hd] at hp
        rw [h88']
        refine sC_byte hC1 (by omega) (sC_sign (hC1.bb (by omega)) ⟨hC1.o, ?_⟩)
        rintro s27 rfl
        refine ⟨hC1.o, hC1.o, ?_⟩
        rw [cI_n (by decide), h88', nI_1]
        rintro s28 rfl
        have hsg := sgk_c (b k)
        refine hp _ ((hC1.I (by decide)).I (by decide)) ⟨by rw [cI_n (by decide), cI_n (by decide)]; exact h89', cI_s, by rw [cI_n (by decide)]; exact cI_s, fun e => ?_⟩ ((hfr1.tr (frK.I (by unfold adK; omega))).tr (frK.I (by unfold adK; omega)))
        dsimp only at e
        omega
    · rintro s30 rfl
      rw [if_pos (by omega)] at hp
      exact hp _ (hC1.I (by decide)) ⟨by rw [cI_n (by decide)]; exact h89', by rw [cI_n (by decide)]; exact h88', cI_s, fun e => absurd (show (15 : Nat) = 14 from e) (by decide)⟩ (hfr1.tr (frK.I (by unfold adK; omega)))
  unfold wpC_X5_advance_0_F
  rw [hC.en, h88, nI_leI (by omega) (by omega)]
  refine ⟨hC.o, hC.o, fun e1 => hend (rn_no (fun g => absurd g (by omega))), fun e1 => ⟨hC.o, hC.o, sC_byte hC (by omega) ?_⟩⟩
  have hb := hC.bb (i := k) (by omega)
  rw [show (32 : Int32) = nI 32 from rfl, nI_eq (by omega) (by omega)]
  refine ⟨fun e2 => hend (rn_no (fun _ g => e2 (isSp_t.mp g))), fun e2 => ⟨hC.o, hC.o, ?_⟩⟩
  rw [h88, nI_1]
  rintro s35 rfl
  exact hP _ ⟨by omega, by omega, (rn_st (by omega) (isSp_t.mpr e2)).symm.trans hrn, hC.I (by decide), cI_s, hfr.tr (frK.I (by unfold adK; omega)), rfl⟩
end CR1
end
