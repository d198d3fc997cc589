section
/-! a whole minute, in the model and in the class -/
section PM
variable {σ σ' : CSt} {lab lab' : Nat → Nat} {ad : Nat → Nat → Nat} {μ μ' : MSt} {j : Nat}
theorem mB_ok {l : Nat} : isB μ l (mB μ l) := by
  have key : ∀ n : Nat, n ≤ μ.2.1 6 l → (∃ k, isB μ l k) ∨ ∀ i : Nat, i < n → ¬ stB μ l i := by
    intro n
    induction n with
    | zero => intro _; exact Or.inr (fun i hi => absurd hi (Nat.not_lt_zero _))
    | succ n ih =>
      intro hn
      rcases ih (by omega) with h | h
      · exact Or.inl h
      · by_cases e : stB μ l n
        · exact Or.inl ⟨n, by omega, e, h⟩
        · refine Or.inr (fun i hi => ?_)
          by_cases e2 : i = n
          · subst e2; exact e
          · exact h i (by omega)
  have hex : ∃ k, isB μ l k := by
    rcases key _ (Nat.le_refl _) with h | h
    · exact h
    · exact ⟨μ.2.1 6 l, Nat.le_refl _, Or.inl rfl, h⟩
  exact Classical.epsilon_spec (p := isB μ l) hex
noncomputable def mFil (μ : MSt) : Nat → MSt
  | 0 => μ
  | l + 1 => if mRun (mFil μ l) l = true then mBo (mFil μ l) l (mB (mFil μ l) l) else mFil μ l
theorem mFil_y {l : Nat} (h : mRun (mFil μ l) l = true) : mFil μ (l + 1) = mBo (mFil μ l) l (mB (mFil μ l) l) := if_pos h
theorem mFil_n {l : Nat} (h : ¬ mRun (mFil μ l) l = true) : mFil μ (l + 1) = mFil μ l := if_neg h
theorem mFil_MI (hI : MI μ j) : ∀ n : Nat, n ≤ μ.1 7 → MI (mFil μ n) j ∧ (mFil μ n).1 = μ.1
  | 0, _ => ⟨hI, rfl⟩
  | n + 1, h => by
    obtain ⟨a, b⟩ := mFil_MI hI n (by omega)
    by_cases e : mRun (mFil μ n) n = true
    · rw [mFil_y e]
      exact ⟨mBo_MI a (by rw [b]; omega) mB_ok.1, b⟩
    · rw [mFil_n e]; exact ⟨a, b⟩
noncomputable def mSent (μ : MSt) : MSt := mChoN (mGoN μ (μ.1 22)) (mOp μ) (μ.1 22)
noncomputable def mPass (μ : MSt) : MSt := m1 (mFil (mSent μ) (μ.1 7)) 28 (μ.1 28 + 1)
noncomputable def cpPass (μ : MSt) (c : Nat → Nat) : Nat → Nat := cpN (mGoN μ (μ.1 22)) (mOp μ) c (μ.1 22)
theorem mSent_MI (hI : MI μ j) : MI (mSent μ) j ∧ ∀ k, k ≠ 54 → (mSent μ).1 k = μ.1 k := by
  obtain ⟨a, b⟩ := mChoN_MI (op := mOp μ) (mGoN_MI hI (μ.1 22) (Nat.le_refl _)) (μ.1 22) (by rw [mGoN_1]; exact Nat.le_refl _)
  exact ⟨a, fun k hk => (b k hk).trans (by rw [mGoN_1])⟩
theorem MI_28 {n j' : Nat} (hI : MI μ j) (hn : n ≤ 600 * j) : MI (m1 μ 28 n) j := by
  refine MI_st hI (fun k _ h => m1_n h) (by rw [m1_s]; exact hn) (fun _ _ _ _ _ => rfl) rfl ?_ ?_ ?_ (fun _ _ => rfl) (fun _ _ => rfl) (fun _ _ => rfl)
  · unfold mGr
    rw [m1_n (by decide), m1_n (by decide), m1_n (by decide)]
    exact hI.gr
  · unfold mQu
    rw [m1_n (by decide), m1_n (by decide)]
    exact hI.qu
  · unfold mSn
    rw [m1_n (by decide)]
    exact hI.sn
theorem mPass_MI (hI : MI μ j) (h28 : μ.1 28 + 1 ≤ 600 * j) : MI (mPass μ) j ∧ (mPass μ).1 28 = μ.1 28 + 1 ∧ (mPass μ).1 7 = μ.1 7 ∧ (mPass μ).1 22 = μ.1 22 := by
  obtain ⟨a, b⟩ := mSent_MI hI
  obtain ⟨c, d⟩ := mFil_MI a (μ.1 7) (by rw [b 7 (by decide)]; exact Nat.le_refl _)
  refine ⟨MI_28 (j' := j) c h28, m1_s, ?_, ?_⟩
  · show (m1 _ _ _).1 7 = _
    rw [m1_n (by decide), d, b 7 (by decide)]
  · show (m1 _ _ _).1 22 = _
    rw [m1_n (by decide), d, b 22 (by decide)]
theorem cpN_none {op : Nat → Bool} {c : Nat → Nat} : ∀ n : Nat, (∀ g : Nat, g < n → ¬ μ.2.1 21 (7 * g + 2) = 0) → cpN μ op c n = c
  | 0, _ => rfl
  | n + 1, h => by
    have ih := cpN_none (op := op) (c := c) n (fun g hg => h g (by omega))
    have e := mChoN_none (μ := μ) (op := op) n (fun g hg => h g (by omega))
    rw [cpN_x (by rw [e]; exact h n (by omega)), ih]
theorem sC_lifts {post : CSt → Prop} {mc ms k n : Nat} (h : CRep σ lab ad μ) (hI : MI μ j) (hk : k ≤ mc) (hn : n ≤ ms) (hp : ∀ σ', CRep σ' lab ad (m1 (mFil μ (μ.1 7)) 28 (μ.1 28 + 1)) → capS σ ad (μ.1 7) σ' → post σ') : wpC_X7_passMinute_64 mc ms post σ k n (ad 7 0) := by
  have hc := hI.cs
  refine gLP.up (μ.1 7) (fun i (x : CSt × Nat × Nat × Nat × Int32) => i ≤ μ.1 7 ∧ CRep x.1 lab ad (mFil μ i) ∧ capS σ ad (μ.1 7) x.1 ∧ x.2 = (k, n, ad 7 0, nI i)) (fun k x h => h.1) ?_ (j := 0) ⟨Nat.zero_le _, h, fun _ _ => rfl, rfl⟩
  rintro i ⟨s, y⟩ P ⟨hi, hC, hcap, e⟩ hP
  dsimp only at hC hcap e
  subst e
  dsimp only
  obtain ⟨hIi, h1i⟩ := mFil_MI hI i hi
  have hls := hC.ls.1
  rw [h1i] at hls
  refine ⟨hC.x7, _, hC.x.2.1.1, hls.1, sC_size hls ⟨fun e => ?_, fun e => ?_⟩⟩
  · rw [nI_leI (by omega) (by omega)] at e
    obtain rfl : i = μ.1 7 := by omega
    refine ⟨hC.x7, hC.x7, ?_⟩
    have e28 : cI s 121 (ad 7 0) = nI (μ.1 28) := by have := hC.x.2.2.2.2.1; rw [h1i] at this; exact this
    rw [e28, nI_1]
    rintro s5 rfl
    have hx := hC.x
    have hF : CRep (csI s 121 (ad 7 0) (nI (μ.1 28 + 1))) lab ad (m1 (mFil μ (μ.1 7)) 28 (μ.1 28 + 1)) := by
      refine hC.setX (keep_x hC) ?_ rfl (fun _ _ => rfl) (fun k hk => m1_n (by omega))
      unfold cX
      rw [m1_s, m1_n (by decide), m1_n (by decide), m1_n (by decide), m1_n (by decide), m1_n (by decide), m1_n (by decide), m1_n (by decide)]
      refine ⟨hx.1, hx.2.1, ?_, ?_, ?_, ?_, ?_, hx.2.2.2.2.2.2.2.1, hx.2.2.2.2.2.2.2.2.1, hx.2.2.2.2.2.2.2.2.2.1, hx.2.2.2.2.2.2.2.2.2.2⟩
      · simp only [pI_csI, cu2_ap]; exact hx.2.2.1
      · simp only [pI_csI, cu2_ap]; exact hx.2.2.2.1
      · simp only [pI_csI, cu2_ap, if_true]
      · simp only [pI_csI, cu2_ap]; exact hx.2.2.2.2.2.1
      · simp only [pI_csI, cu2_ap]; exact hx.2.2.2.2.2.2.1
    exact ⟨hk, hn, hp _ hF hcap⟩
  · rw [nI_leI (by omega) (by omega)] at e
    have hi7 : i < (mFil μ i).1 7 := by rw [h1i]; omega
    have hL := hC.li hi7
    refine ⟨hC.x7, _, hC.x.2.1.1, hls.1, sC_get hls (by omega) ⟨_, rfl, hL.1.1, hC.x7, sC_run hC hIi hi7 ?_⟩⟩
    cases hr : mRun (mFil μ i) i with
    | false =>
      refine ⟨fun _ => hP _ ⟨by omega, by rw [mFil_n (by rw [hr]; decide)]; exact hC, hcap, by rw [nI_1]⟩, fun e => absurd rfl e⟩
    | true =>
      refine ⟨fun e => absurd e (by decide), fun _ => ⟨hC.x7, _, hC.x.2.1.1, hls.1, sC_get hls (by omega) ⟨_, rfl, hL.1.1, hL.1.1, ?_⟩⟩⟩
      refine sC_fill hC hIi hi7 (fun σ' h' hc' => hP _ ⟨by omega, by rw [mFil_y hr]; exact h', ?_, by rw [nI_1]⟩)
      rw [h1i] at hc'
      exact hcap.tr hc'
theorem sC_passMinute {post : CSt → Prop} {mc ms : Nat} (h : CRep σ lab ad μ) (hI : MI μ j) (hj : j ≤ 512) (hm : PF (cpPass μ (cc σ ad)) (μ.1 7) ≤ PF (cc σ ad) (μ.1 7) + mc) (hms : 109 * PF (cpPass μ (cc σ ad)) (μ.1 7) ≤ 109 * PF (cc σ ad) (μ.1 7) + ms)
    (hp : ∀ σ' lab', CRep σ' lab' ad (mPass μ) → (∀ q : Nat, q < μ.1 7 → cc σ' ad q = cpPass μ (cc σ ad) q) → post σ') : wpC_X7_passMinute_0 mc ms post σ (ad 7 0) := by
  have hc := hI.cs
  refine gLP.up (μ.1 22) (fun i (x : CSt × Nat × Nat × Nat × Int32 × Int32) => i ≤ μ.1 22 ∧ CRep x.1 lab ad (mGoN μ i) ∧ capS σ ad (μ.1 7) x.1 ∧ ∃ f : Int32, x.2 = (0, 0, ad 7 0, f, nI i) ∧ ((f = 0 ∧ ∀ g : Nat, g < i → ¬ (mGoN μ i).2.1 21 (7 * g + 2) = 0) ∨ f = 1)) (fun k x h => h.1) ?_ (j := 0) ⟨Nat.zero_le _, h, fun _ _ => rfl, 0, rfl, Or.inl ⟨rfl, fun g hg => absurd hg (Nat.not_lt_zero _)⟩⟩
  rintro i ⟨s, y⟩ P ⟨hi, hC, hcap, f, e, hf⟩ hP
  dsimp only at hC hcap e
  subst e
  dsimp only
  have hIi := mGoN_MI hI i hi
  have h1i : (mGoN μ i).1 = μ.1 := mGoN_1 i
  have hls := hC.ls.2.2.2.1
  rw [h1i] at hls
  refine ⟨hC.x7, _, hC.x.2.1.2.2.2.1, hls.1, sC_size hls ⟨fun e => ?_, fun e => ?_⟩⟩
  · rw [nI_leI (by omega) (by omega)] at e
    obtain rfl : i = μ.1 22 := by omega
    have hcq : ∀ q : Nat, q < μ.1 7 → cc s ad q = cc σ ad q := hcap
    have hsent := mSent_MI hI
    have hfin : ∀ σ1 lab1, CRep σ1 lab1 ad (mSent μ) → (∀ q : Nat, q < μ.1 7 → cc σ1 ad q = cpPass μ (cc σ ad) q) → ∀ k n : Nat, k ≤ mc → n ≤ ms → wpC_X7_passMinute_64 mc ms post σ1 k n (ad 7 0) := by
      intro σ1 lab1 h1 hc1 k n hk hn
      refine sC_lifts h1 hsent.1 hk hn (fun σ' h' hc' => hp σ' lab1 ?_ (fun q hq => ?_))
      · rw [hsent.2 7 (by decide), hsent.2 28 (by decide)] at h'
        exact h'
      · rw [hsent.2 7 (by decide)] at hc'
        exact (hc' q hq).trans (hc1 q hq)
    refine ⟨fun ef => ?_, fun ef => ⟨hC.x7, cO_opens hC hIi hj (fun ob ho => ?_)⟩⟩
    · have hno := hf.resolve_right (fun e1 => by rw [ef] at e1; exact absurd e1 (by decide))
      refine hfin s lab ?_ (fun q hq => ?_) 0 0 (Nat.zero_le _) (Nat.zero_le _)
      · show CRep s lab ad (mChoN (mGoN μ (μ.1 22)) (mOp μ) (μ.1 22))
        rw [mChoN_none _ hno.2]
        exact hC
      · show _ = cpN (mGoN μ (μ.1 22)) (mOp μ) (cc σ ad) (μ.1 22) q
        rw [cpN_none _ hno.2]
        exact hcq q hq
    · have ho' : isOp μ (bt ob) := (isOp_21 h1i (fun k hk => mGoN_2 _ k hk)).mp ho
      have hop := mOp_eq hI ho'
      have hcc : ∀ q : Nat, q < μ.1 7 → cpN (mGoN μ (μ.1 22)) (mOp μ) (cc s ad) (μ.1 22) q = cpPass μ (cc σ ad) q := by
        have key : ∀ n : Nat, n ≤ μ.1 22 → ∀ q : Nat, q < μ.1 7 → cpN (mGoN μ (μ.1 22)) (mOp μ) (cc s ad) n q = cpN (mGoN μ (μ.1 22)) (mOp μ) (cc σ ad) n q := by
          intro n
          induction n with
          | zero => intro _ q hq; exact hcq q hq
          | succ n ih =>
            intro hn q hq
            have b := (mChoN_MI (op := mOp μ) hIi n (by rw [h1i]; omega)).2 7 (by decide)
            rw [h1i] at b
            by_cases e0 : (mChoN (mGoN μ (μ.1 22)) (mOp μ) n).2.1 21 (7 * n + 2) = 0
            · rw [cpN_y e0, cpN_y e0]
              exact cpCho_cg (by rw [b]; exact ih (by omega)) q (by rw [b]; exact hq)
            · rw [cpN_x e0, cpN_x e0]
              exact ih (by omega) q hq
        exact key _ (Nat.le_refl _)
      have hPF : PF (cc s ad) (μ.1 7) = PF (cc σ ad) (μ.1 7) := PF_cg hcq
      have hPF2 : PF (cpN (mGoN μ (μ.1 22)) (mOp μ) (cc s ad) (μ.1 22)) (μ.1 7) = PF (cpPass μ (cc σ ad)) (μ.1 7) := PF_cg hcc
      refine ⟨mc, ms, by omega, by omega, hC.x7, sC_sendFree hC hIi hj (op := mOp μ) (by rw [h1i]; exact hop) (by rw [h1i, hPF, hPF2]; exact hm) (by rw [h1i, hPF, hPF2]; exact hms) (fun σ1 lab1 h1 hc1 => ?_)⟩
      rw [h1i] at h1 hc1
      exact hfin σ1 lab1 h1 (fun q hq => (hc1 q hq).trans (hcc q hq)) _ _ (by omega) (by omega)
  · rw [nI_leI (by omega) (by omega)] at e
    have hi22 : i < (mGoN μ i).1 22 := by rw [h1i]; omega
    have hG := hC.gr hi22
    refine ⟨hC.x7, _, hC.x.2.1.2.2.2.1, hls.1, sC_get hls (by omega) ⟨_, rfl, hG.1.1, hG.1.1, sC_goOn hC hIi hi22 (fun σ' h' hc' e35 => ?_)⟩⟩
    have hG' := h'.gr (i := i) (by rw [mGo_1]; exact hi22)
    have hb' := (mGo_MI hIi hi22).gr i (by rw [mGo_1]; exact hi22)
    rw [h1i] at hc'
    refine ⟨hG'.1.1, ?_⟩
    rw [e35, show (0 : Int32) = nI 0 from rfl, nI_eq (by omega) (by omega)]
    have hold : (∀ g : Nat, g < i → ¬ (mGoN μ i).2.1 21 (7 * g + 2) = 0) → ¬ (mGo (mGoN μ i) i).2.1 21 (7 * i + 2) = 0 → ∀ g : Nat, g < i + 1 → ¬ (mGoN μ (i + 1)).2.1 21 (7 * g + 2) = 0 := by
      intro ho hn g hg
      show ¬ (mGo (mGoN μ i) i).2.1 21 (7 * g + 2) = 0
      by_cases eg : g = i
      · subst eg; exact hn
      · rw [mGo_2 (by omega)]; exact ho g (by omega)
    refine ⟨fun e0 => ?_, fun e0 => ?_⟩
    · rcases hf with ⟨rfl, ho⟩ | rfl
      · exact hP _ ⟨by omega, h', hcap.tr hc', 0, by rw [← nI_1]; rfl, Or.inl ⟨rfl, hold ho e0⟩⟩
      · exact hP _ ⟨by omega, h', hcap.tr hc', 1, by rw [← nI_1]; rfl, Or.inr rfl⟩
    · rcases hf with ⟨rfl, ho⟩ | rfl
      · exact hP _ ⟨by omega, h', hcap.tr hc', 1, by rw [← nI_1]; rfl, Or.inr rfl⟩
      · exact hP _ ⟨by omega, h', hcap.tr hc', 1, by rw [← nI_1]; rfl, Or.inr rfl⟩
end PM
end
