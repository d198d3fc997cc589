section
/-! the class's minute: the free groups are sent -/
section SF
variable {σ σ' : CSt} {lab lab' : Nat → Nat} {ad : Nat → Nat → Nat} {μ μ' : MSt} {j : Nat} {op : Nat → Bool} {ob : Int32}
theorem cpCho_cg {g : Nat} {c c' : Nat → Nat} (h : ∀ q : Nat, q < μ.1 7 → c q = c' q) : ∀ q : Nat, q < μ.1 7 → cpCho μ op g c q = cpCho μ op g c' q := by
  intro q hq
  cases hs : bsl μ op g (μ.1 9) with
  | some s => rw [cpCho_s hs, cpCho_s hs]; exact h q hq
  | none =>
    cases hl : bli μ g (μ.1 7) with
    | none => rw [cpCho_n hs hl, cpCho_n hs hl]; exact h q hq
    | some l =>
      have hl7 := bli_lt _ _ hl
      rw [cpCho_l hs hl, cpCho_l hs hl, h l hl7]
      split
      · rw [up_ap, up_ap]
        split
        · rfl
        · exact h q hq
      · exact h q hq
def okC (c : Nat → Nat) (n : Nat) : Prop := ∀ l : Nat, l < n → c l = 0 ∨ capOk (c l)
theorem capG_ok {n : Nat} (h : n = 0 ∨ capOk n) (h60 : n < 60) : capOk (capG n) := by
  rcases h with rfl | rfl | rfl | rfl | rfl | rfl | rfl | rfl
  · unfold capOk; decide
  · unfold capOk; decide
  · unfold capOk; decide
  · unfold capOk; decide
  · unfold capOk; decide
  · unfold capOk; decide
  · omega
  · omega
theorem cpCho_ok {g : Nat} {c : Nat → Nat} (hI : MI μ j) (hg : g < μ.1 22) (h0 : μ.2.1 21 (7 * g + 2) = 0) (h : okC c (μ.1 7)) : okC (cpCho μ op g c) (μ.1 7) ∧ PF c (μ.1 7) ≤ PF (cpCho μ op g c) (μ.1 7) ∧ (∀ l : Nat, bsl μ op g (μ.1 9) = none → bli μ g (μ.1 7) = some l → μ.2.1 6 l = c l → PF (cpCho μ op g c) (μ.1 7) = PF c (μ.1 7) + 1) := by
  cases hs : bsl μ op g (μ.1 9) with
  | some s => rw [cpCho_s hs]; exact ⟨h, Nat.le_refl _, fun l e => absurd e (by simp)⟩
  | none =>
    cases hl : bli μ g (μ.1 7) with
    | none => rw [cpCho_n hs hl]; exact ⟨h, Nat.le_refl _, fun l _ e => absurd e (by simp)⟩
    | some l =>
      have hl7 := bli_lt _ _ hl
      rw [cpCho_l hs hl]
      have hr := qu_room hI hg hl7 h0
      by_cases e : μ.2.1 6 l = c l
      · rw [if_pos e]
        have h1 := PF_up (c := c) (l := l) (v := capG (c l)) (μ.1 7) hl7
        rw [capG_rk (h l hl7) (by omega)] at h1
        refine ⟨fun q hq => ?_, by omega, fun l' _ _ _ => by omega⟩
        rw [up_ap]
        split
        · exact Or.inr (capG_ok (h l hl7) (by omega))
        · exact h q hq
      · rw [if_neg e]
        exact ⟨h, Nat.le_refl _, fun l' _ e1 e2 => by cases e1; exact absurd e2 e⟩
noncomputable def cpN (μ : MSt) (op : Nat → Bool) (c : Nat → Nat) : Nat → Nat → Nat
  | 0 => c
  | n + 1 => if (mChoN μ op n).2.1 21 (7 * n + 2) = 0 then cpCho (mChoN μ op n) op n (cpN μ op c n) else cpN μ op c n
theorem mChoN_y {n : Nat} (h : (mChoN μ op n).2.1 21 (7 * n + 2) = 0) : mChoN μ op (n + 1) = mCho (mChoN μ op n) op n := if_pos h
theorem mChoN_x {n : Nat} (h : ¬ (mChoN μ op n).2.1 21 (7 * n + 2) = 0) : mChoN μ op (n + 1) = mChoN μ op n := if_neg h
theorem cpN_y {n : Nat} {c : Nat → Nat} (h : (mChoN μ op n).2.1 21 (7 * n + 2) = 0) : cpN μ op c (n + 1) = cpCho (mChoN μ op n) op n (cpN μ op c n) := if_pos h
theorem cpN_x {n : Nat} {c : Nat → Nat} (h : ¬ (mChoN μ op n).2.1 21 (7 * n + 2) = 0) : cpN μ op c (n + 1) = cpN μ op c n := if_neg h
theorem cpN_ok {c : Nat → Nat} (hI : MI μ j) (h : okC c (μ.1 7)) : ∀ n : Nat, n ≤ μ.1 22 → okC (cpN μ op c n) (μ.1 7)
  | 0, _ => h
  | n + 1, hn => by
    have ih := cpN_ok hI h n (by omega)
    obtain ⟨a, b⟩ := mChoN_MI (op := op) hI n (by omega)
    by_cases e : (mChoN μ op n).2.1 21 (7 * n + 2) = 0
    · rw [cpN_y e, ← b 7 (by decide)]
      exact (cpCho_ok a (by rw [b 22 (by decide)]; omega) e (by rw [b 7 (by decide)]; exact ih)).1
    · rw [cpN_x e]; exact ih
theorem cpN_st {c : Nat → Nat} (hI : MI μ j) (h : okC c (μ.1 7)) {n : Nat} (hn : n < μ.1 22) : PF (cpN μ op c n) (μ.1 7) ≤ PF (cpN μ op c (n + 1)) (μ.1 7) := by
  have ih := cpN_ok (op := op) hI h n (by omega)
  obtain ⟨a, b⟩ := mChoN_MI (op := op) hI n (by omega)
  by_cases e : (mChoN μ op n).2.1 21 (7 * n + 2) = 0
  · rw [cpN_y e, ← b 7 (by decide)]
    exact (cpCho_ok a (by rw [b 22 (by decide)]; omega) e (by rw [b 7 (by decide)]; exact ih)).2.1
  · rw [cpN_x e]; exact Nat.le_refl _
theorem cpN_up {c : Nat → Nat} (hI : MI μ j) (h : okC c (μ.1 7)) {n : Nat} : ∀ d : Nat, n + d ≤ μ.1 22 → PF (cpN μ op c n) (μ.1 7) ≤ PF (cpN μ op c (n + d)) (μ.1 7)
  | 0, _ => Nat.le_refl _
  | d + 1, hd => Nat.le_trans (cpN_up hI h d (by omega)) (cpN_st hI h (n := n + d) (by omega))
theorem sC_send {post : CSt → Prop} {g mc ms : Nat} (h : CRep σ lab ad μ) (hI : MI μ j) (hj : j ≤ 512) (hg : g < μ.1 22) (h0 : μ.2.1 21 (7 * g + 2) = 0) (hop : ∀ i : Nat, i < μ.1 9 → bt ob i = op i) (hm : PF (cpCho μ op g (cc σ ad)) (μ.1 7) ≤ PF (cc σ ad) (μ.1 7) + mc) (hms : 109 * PF (cpCho μ op g (cc σ ad)) (μ.1 7) ≤ 109 * PF (cc σ ad) (μ.1 7) + ms)
    (hp : ∀ σ' lab', CRep σ' lab' ad (mCho μ op g) → (∀ q : Nat, q < μ.1 7 → cc σ' ad q = cpCho μ op g (cc σ ad) q) → post σ') : wpC_X7_send_0 mc ms post σ (ad 7 0) (ad 2 g) ob := by
  have hc := hI.cs
  have hok : okC (cc σ ad) (μ.1 7) := fun l hl => (capL_ok (h.ro hl)).1
  obtain ⟨-, -, hgrow⟩ := cpCho_ok (op := op) hI hg h0 hok
  refine ⟨h.x7, sC_slopeFor h hI hg hop ?_⟩
  cases hs : bsl μ op g (μ.1 9) with
  | none =>
    refine ⟨fun _ => ⟨h.x7, sC_liftFor h hI hg ?_⟩, fun a e => by cases e⟩
    cases hl : bli μ g (μ.1 7) with
    | none =>
      refine ⟨fun _ => ⟨Nat.zero_le _, Nat.zero_le _, hp σ lab ?_ (fun q _ => ?_)⟩, fun a e => by cases e⟩
      · rw [mCho_n hs hl]; exact h
      · rw [cpCho_n hs hl]
    | some l =>
      have hl7 := bli_lt _ _ hl
      refine ⟨fun e => (by cases e), fun a e => ?_⟩
      have e' : a = ad 3 l := by injection e with e; exact e.symm
      subst e'
      refine ⟨(h.gr hg).1.1, sC_queue h hI hg hl7 h0 (fun e1 => ?_) (fun σ' lab' h' hc' => hp σ' lab' ?_ (fun q hq => ?_))⟩
      · have := hgrow l hs hl e1
        omega
      · rw [mCho_l hs hl]; exact h'
      · rw [cpCho_l hs hl]; exact hc' q hq
  | some s =>
    have hs9 := bsl_lt _ _ hs
    refine ⟨fun e => (by cases e), fun a e => ?_⟩
    have e' : a = ad 6 s := by injection e with e; exact e.symm
    subst e'
    refine ⟨(h.gr hg).1.1, sC_goDown h hI hg hs9 (fun σ1 h1 k1 => ?_)⟩
    have hI1 := mDown_MI hI hg hs9 h0
    have hs1 : s < (mDown μ g s).1 9 := hs9
    have hG1 := h1.gr (i := g) hg
    have hsz := (hI1.gr g hg).1
    have e0 : (mDown μ g s).2.1 21 (7 * g) = μ.2.1 21 (7 * g) := mDown_2 (by omega)
    rw [e0] at hsz
    refine ⟨h1.x7, hG1.1.1, (h1.sl hs1).1.1, ?_⟩
    rw [hG1.2.2.1, e0]
    have e83 : (mDown μ g s).2.1 8 (6 * s + 3) = μ.2.1 8 (6 * s + 3) := mDown_2 (by omega)
    have e85 : (mDown μ g s).2.1 8 (6 * s + 5) = μ.2.1 8 (6 * s + 5) := mDown_2 (by omega)
    refine sC_wear h1 hI1 hj hs1 (by omega) (fun σ2 h2 k2 => ⟨h2.x7, ?_⟩)
    rw [e83, e85] at h2 ⊢
    have hsl := hI.sl s hs9
    have hw54 := wrT_54 (μ := mDown μ g s) (s := s) (due := μ.2.1 21 (7 * g) * (1 + μ.2.1 8 (6 * s + 3))) (μ.2.1 8 (6 * s + 5))
    have hwle := wrT_le (μ := mDown μ g s) (s := s) (due := μ.2.1 21 (7 * g) * (1 + μ.2.1 8 (6 * s + 3))) (μ.2.1 8 (6 * s + 5))
    have hle2 : μ.2.1 8 (6 * s + 5) * (μ.2.1 21 (7 * g) * (1 + μ.2.1 8 (6 * s + 3))) ≤ 40 * (4 * 10) := Nat.mul_le_mul (by omega) (Nat.mul_le_mul (by omega) (by omega))
    generalize wrT (mDown μ g s) s (μ.2.1 21 (7 * g) * (1 + μ.2.1 8 (6 * s + 3))) (μ.2.1 8 (6 * s + 5)) = W at hw54 hwle ⊢
    rintro s17 rfl
    have hx2 := h2.x
    have e54 : cJ σ1 127 (ad 7 0) = lN (μ.1 54) := h1.x.2.2.2.2.2.2.2.2.2.2
    have h3 : CRep (csJ σ2 127 (ad 7 0) (cJ σ1 127 (ad 7 0) + (nI W).toInt64)) lab ad (mCho μ op g) := by
      rw [mCho_s hs]
      refine h2.setX (keep_xJ h2) ?_ rfl (fun _ _ => rfl) (fun k hk => mWrN_1 (by omega) _)
      unfold cX
      rw [hw54, mWrN_1 (by decide), mWrN_1 (by decide), mWrN_1 (by decide), mWrN_1 (by decide), mWrN_1 (by decide), mWrN_1 (by decide), mWrN_1 (by decide)]
      refine ⟨hx2.1, hx2.2.1, hx2.2.2.1, hx2.2.2.2.1, hx2.2.2.2.2.1, hx2.2.2.2.2.2.1, hx2.2.2.2.2.2.2.1, hx2.2.2.2.2.2.2.2.1, hx2.2.2.2.2.2.2.2.2.1, hx2.2.2.2.2.2.2.2.2.2.1, ?_⟩
      rw [pJ_csJ, cu2_ap, if_pos rfl, if_pos rfl, e54, nI_l (by omega), lN_add]
      rfl
    refine ⟨Nat.zero_le _, Nat.zero_le _, hp _ lab h3 (fun q hq => ?_)⟩
    rw [cpCho_s hs]
    have c1 : cc σ1 ad q = cc σ ad q := capL_kp (h.ro hq) k1 (by unfold atX; omega)
    have c2 : cc σ2 ad q = cc σ1 ad q := capL_kp (h1.ro (i := q) hq) k2 (by omega)
    have c3 : cc (csJ σ2 127 (ad 7 0) (cJ σ1 127 (ad 7 0) + (nI W).toInt64)) ad q = cc σ2 ad q := capL_kp (h2.ro (i := q) hq) (keep_xJ h2) (by unfold atX; omega)
    exact c3.trans (c2.trans c1)
theorem sC_sendFree {post : CSt → Prop} {mc ms : Nat} (h : CRep σ lab ad μ) (hI : MI μ j) (hj : j ≤ 512) (hop : ∀ i : Nat, i < μ.1 9 → bt ob i = op i) (hm : PF (cpN μ op (cc σ ad) (μ.1 22)) (μ.1 7) ≤ PF (cc σ ad) (μ.1 7) + mc) (hms : 109 * PF (cpN μ op (cc σ ad) (μ.1 22)) (μ.1 7) ≤ 109 * PF (cc σ ad) (μ.1 7) + ms)
    (hp : ∀ σ' lab', CRep σ' lab' ad (mChoN μ op (μ.1 22)) → (∀ q : Nat, q < μ.1 7 → cc σ' ad q = cpN μ op (cc σ ad) (μ.1 22) q) → post σ') : wpC_X7_sendFree_0 mc ms post σ (ad 7 0) ob := by
  have hc := hI.cs
  have hok : okC (cc σ ad) (μ.1 7) := fun l hl => (capL_ok (h.ro hl)).1
  generalize hc0 : cc σ ad = c0 at hm hms hp hok
  refine gLP.up (μ.1 22) (fun i (x : CSt × Nat × Nat × Nat × Int32 × Int32) => i ≤ μ.1 22 ∧ (∃ lab', CRep x.1 lab' ad (mChoN μ op i)) ∧ (∀ q : Nat, q < μ.1 7 → cc x.1 ad q = cpN μ op c0 i q) ∧ PF c0 (μ.1 7) + x.2.1 = PF (cpN μ op c0 i) (μ.1 7) ∧ x.2.2.1 = 109 * x.2.1 ∧ x.2.2.2 = (ad 7 0, ob, nI i)) (fun k x h => h.1) ?_ (j := 0) ⟨Nat.zero_le _, ⟨lab, h⟩, fun q _ => by rw [hc0]; rfl, rfl, rfl, rfl⟩
  rintro i ⟨s, k, n, y⟩ P ⟨hi, ⟨lab1, hC⟩, hcc, hk, hn, e⟩ hP
  dsimp only at hC hcc hk hn e
  subst e hn
  dsimp only
  obtain ⟨hIi, h1i⟩ := mChoN_MI (op := op) hI i hi
  have e7 := h1i 7 (by decide)
  have e9 := h1i 9 (by decide)
  have e22 := h1i 22 (by decide)
  have hls := hC.ls.2.2.2.1
  rw [e22] at hls
  refine ⟨hC.x7, _, hC.x.2.1.2.2.2.1, hls.1, sC_size hls ⟨fun e => ?_, fun e => ?_⟩⟩
  · rw [nI_leI (by omega) (by omega)] at e
    obtain rfl : i = μ.1 22 := by omega
    exact ⟨by omega, by omega, hp s lab1 hC hcc⟩
  · rw [nI_leI (by omega) (by omega)] at e
    have hG := hC.gr (i := i) (by omega)
    have hbi := hIi.gr i (by omega)
    refine ⟨hC.x7, _, hC.x.2.1.2.2.2.1, hls.1, sC_get hls (by omega) ⟨_, rfl, hG.1.1, hG.1.1, ?_⟩⟩
    rw [hG.2.2.2.2.1, show (0 : Int32) = nI 0 from rfl, nI_eq (by omega) (by omega)]
    refine ⟨fun e0 => hP _ ⟨by omega, ⟨lab1, by rw [mChoN_x e0]; exact hC⟩, by rw [cpN_x e0]; exact hcc, by rw [cpN_x e0]; exact hk, rfl, by rw [nI_1]⟩, fun e0 => ⟨hC.x7, _, hC.x.2.1.2.2.2.1, hls.1, sC_get hls (by omega) ⟨_, rfl, hG.1.1, ?_⟩⟩⟩
    have hst := cpN_st (op := op) hI hok (n := i) (by omega)
    have hup := cpN_up (op := op) hI hok (n := i + 1) (μ.1 22 - (i + 1)) (by omega)
    rw [show i + 1 + (μ.1 22 - (i + 1)) = μ.1 22 by omega] at hup
    have hpf : PF (cc s ad) (μ.1 7) = PF (cpN μ op c0 i) (μ.1 7) := PF_cg hcc
    have hcg : ∀ q : Nat, q < μ.1 7 → cpCho (mChoN μ op i) op i (cc s ad) q = cpN μ op c0 (i + 1) q := fun q hq => by rw [cpN_y e0]; exact cpCho_cg (by rw [e7]; exact hcc) q (by rw [e7]; exact hq)
    have hpf2 : PF (cpCho (mChoN μ op i) op i (cc s ad)) (μ.1 7) = PF (cpN μ op c0 (i + 1)) (μ.1 7) := PF_cg hcg
    refine ⟨PF (cpN μ op c0 (i + 1)) (μ.1 7) - PF (cpN μ op c0 i) (μ.1 7), 109 * (PF (cpN μ op c0 (i + 1)) (μ.1 7) - PF (cpN μ op c0 i) (μ.1 7)), by omega, by omega, hC.x7, ?_⟩
    refine sC_send hC hIi hj (by omega) e0 (by rw [e9]; exact hop) (by rw [e7, hpf, hpf2]; omega) (by rw [e7, hpf, hpf2]; omega) (fun σ' lab' h' hc' => hP _ ⟨by omega, ⟨lab', by rw [mChoN_y e0]; exact h'⟩, fun q hq => by rw [← hcg q hq]; exact hc' q (by rw [e7]; exact hq), ?_, ?_, by rw [nI_1]⟩)
    · dsimp only; omega
    · dsimp only; omega
end SF
end
