section
/-! step: in the model and in the class -/
section ST
variable {σ σ' : CSt} {lab lab' : Nat → Nat} {ad : Nat → Nat → Nat} {μ μ' : MSt} {j : Nat} {v : Int32}
noncomputable def mStp (μ : MSt) : Nat → MSt
  | 0 => μ
  | n + 1 => mPass (mStp μ n)
noncomputable def cpStp (μ : MSt) (c : Nat → Nat) : Nat → Nat → Nat
  | 0 => c
  | n + 1 => cpPass (mStp μ n) (cpStp μ c n)
theorem mStp_MI (hI : MI μ j) : ∀ n : Nat, n ≤ 600 → MI (mStp μ n) (j + 1) ∧ (mStp μ n).1 28 = μ.1 28 + n ∧ (mStp μ n).1 7 = μ.1 7 ∧ (mStp μ n).1 22 = μ.1 22
  | 0, _ => ⟨hI.up, rfl, rfl, rfl⟩
  | n + 1, h => by
    obtain ⟨a, b, c, d⟩ := mStp_MI hI n (by omega)
    have h0 := hI.c0
    unfold mC0 at h0
    obtain ⟨e, f, g, i⟩ := mPass_MI a (by rw [b]; omega)
    exact ⟨e, f.trans (by rw [b]; omega), g.trans c, i.trans d⟩
theorem cpPass_ok {c : Nat → Nat} (hI : MI μ j) (h : okC c (μ.1 7)) : okC (cpPass μ c) (μ.1 7) ∧ PF c (μ.1 7) ≤ PF (cpPass μ c) (μ.1 7) := by
  have hIi := mGoN_MI hI (μ.1 22) (Nat.le_refl _)
  have h1 : (mGoN μ (μ.1 22)).1 = μ.1 := mGoN_1 _
  have a := cpN_ok (op := mOp μ) hIi (c := c) (by rw [h1]; exact h) (μ.1 22) (by rw [h1]; exact Nat.le_refl _)
  have b := cpN_up (op := mOp μ) hIi (c := c) (by rw [h1]; exact h) (n := 0) (μ.1 22) (by rw [h1]; omega)
  rw [h1] at a b
  rw [Nat.zero_add] at b
  exact ⟨a, b⟩
theorem cpPass_cg {c c' : Nat → Nat} (hI : MI μ j) (h : ∀ q : Nat, q < μ.1 7 → c q = c' q) : ∀ q : Nat, q < μ.1 7 → cpPass μ c q = cpPass μ c' q := by
  have hIi := mGoN_MI hI (μ.1 22) (Nat.le_refl _)
  have h1 : (mGoN μ (μ.1 22)).1 = μ.1 := mGoN_1 _
  have key : ∀ n : Nat, n ≤ μ.1 22 → ∀ q : Nat, q < μ.1 7 → cpN (mGoN μ (μ.1 22)) (mOp μ) c n q = cpN (mGoN μ (μ.1 22)) (mOp μ) c' n q := by
    intro n
    induction n with
    | zero => intro _ q hq; exact h q hq
    | succ n ih =>
      intro hn q hq
      have b := (mChoN_MI (op := mOp μ) hIi n (by rw [h1]; omega)).2 7 (by decide)
      rw [h1] at b
      by_cases e0 : (mChoN (mGoN μ (μ.1 22)) (mOp μ) n).2.1 21 (7 * n + 2) = 0
      · rw [cpN_y e0, cpN_y e0]
        exact cpCho_cg (by rw [b]; exact ih (by omega)) q (by rw [b]; exact hq)
      · rw [cpN_x e0, cpN_x e0]
        exact ih (by omega) q hq
  exact key _ (Nat.le_refl _)
theorem cpStp_ok {c : Nat → Nat} (hI : MI μ j) (h : okC c (μ.1 7)) : ∀ n : Nat, n ≤ 600 → okC (cpStp μ c n) (μ.1 7)
  | 0, _ => h
  | n + 1, hn => by
    obtain ⟨a, b, c', d⟩ := mStp_MI hI n (by omega)
    have ih := cpStp_ok hI h n (by omega)
    have := (cpPass_ok a (by rw [c']; exact ih)).1
    rw [c'] at this
    exact this
theorem cpStp_up {c : Nat → Nat} (hI : MI μ j) (h : okC c (μ.1 7)) {n : Nat} (hn : n < 600) : PF (cpStp μ c n) (μ.1 7) ≤ PF (cpStp μ c (n + 1)) (μ.1 7) := by
  obtain ⟨a, b, c', d⟩ := mStp_MI hI n (by omega)
  have := (cpPass_ok a (by rw [c']; exact cpStp_ok hI h n (by omega))).2
  rw [c'] at this
  exact this
theorem cO_step {post : Int32 → CSt → Prop} {pX : String → CSt → Prop} {mc ms : Nat} (h : CRep σ lab ad μ) (hI : MI μ j) (hj : j < 512) (hmc : 57 ≤ mc) (hms : 6110 ≤ ms) (h1 : ∀ n : Nat, n ≤ 600 → v = nI n → ∀ σ' lab', CRep σ' lab' ad (mStp μ n) → post (nI (μ.1 28 + n)) σ') (h0 : (¬ v < 0 → ¬ v ≤ 600) → pX "java/lang/IllegalArgumentException" σ) : wpC_X7_step_0 mc ms post pX σ (ad 7 0) v := by
  have hc := hI.cs
  refine ⟨by omega, by omega, sC_num (fun a b => ?_) h0⟩
  obtain ⟨N, hN, rfl⟩ := nI_of2 (M := 600) (n := 600) rfl a b
  have h1 := h1 N hN rfl
  have hok : okC (cc σ ad) (μ.1 7) := fun l hl => (capL_ok (h.ro hl)).1
  generalize hc0 : cc σ ad = c0 at hok
  refine gLP.up N (fun i (x : CSt × Nat × Nat × Nat × Int32 × Int32) => i ≤ N ∧ (∃ lab', CRep x.1 lab' ad (mStp μ i)) ∧ (∀ q : Nat, q < μ.1 7 → cc x.1 ad q = cpStp μ c0 i q) ∧ PF c0 (μ.1 7) + x.2.1 = PF (cpStp μ c0 i) (μ.1 7) + 1 ∧ x.2.2.1 + 109 = 109 * x.2.1 + 6 ∧ x.2.2.2 = (ad 7 0, nI N, nI i)) (fun k x h => h.1) ?_ (j := 0) ⟨Nat.zero_le _, ⟨lab, h⟩, fun q _ => by rw [hc0]; rfl, rfl, rfl, rfl⟩
  rintro i ⟨s, k, n, y⟩ P ⟨hi, ⟨lab1, hC⟩, hcc, hk, hn, e⟩ hP
  dsimp only at hC hcc hk hn e
  subst e
  dsimp only
  obtain ⟨hIi, e28, e7, e22⟩ := mStp_MI hI i (by omega)
  have hle := PF_le (cpStp μ c0 i) (μ.1 7)
  refine ⟨fun e => ?_, fun e => ?_⟩
  · rw [nI_leI (by omega) (by omega)] at e
    obtain rfl : i = N := by omega
    have e121 : cI s 121 (ad 7 0) = nI (μ.1 28 + i) := by rw [← e28]; exact hC.x.2.2.2.2.1
    rw [e121]
    exact ⟨hC.x7, by omega, by omega, h1 s lab1 hC⟩
  · rw [nI_leI (by omega) (by omega)] at e
    have hst := cpStp_up hI hok (n := i) (by omega)
    have hle2 := PF_le (cpStp μ c0 (i + 1)) (μ.1 7)
    have hcg : ∀ q : Nat, q < μ.1 7 → cpPass (mStp μ i) (cc s ad) q = cpStp μ c0 (i + 1) q := fun q hq => cpPass_cg hIi (by rw [e7]; exact hcc) q (by rw [e7]; exact hq)
    have hpf : PF (cc s ad) (μ.1 7) = PF (cpStp μ c0 i) (μ.1 7) := PF_cg hcc
    have hpf2 : PF (cpPass (mStp μ i) (cc s ad)) (μ.1 7) = PF (cpStp μ c0 (i + 1)) (μ.1 7) := PF_cg hcg
    refine ⟨PF (cpStp μ c0 (i + 1)) (μ.1 7) - PF (cpStp μ c0 i) (μ.1 7), 109 * (PF (cpStp μ c0 (i + 1)) (μ.1 7) - PF (cpStp μ c0 i) (μ.1 7)), by omega, by omega, hC.x7, ?_⟩
    refine sC_passMinute hC hIi (by omega) (by rw [e7, hpf, hpf2]; omega) (by rw [e7, hpf, hpf2]; omega) (fun σ' lab' h' hc' => hP _ ⟨by omega, ⟨lab', h'⟩, fun q hq => by rw [← hcg q hq]; exact hc' q (by rw [e7]; exact hq), ?_, ?_, by rw [nI_1]⟩)
    · dsimp only; omega
    · dsimp only; omega
end ST
end
