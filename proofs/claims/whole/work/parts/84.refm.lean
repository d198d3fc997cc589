section
/-! the reference's minute: waiting, wear, choice -/
section RW
variable {ρ ρ' : RSt} {μ : MSt} {j : Nat}
theorem nI_nn {n : Nat} (h : n < 2 ^ 31) : ¬ nI n < 0 := by rw [show (0 : Int32) = nI 0 from rfl, nI_ltI h (by decide)]; omega
theorem ix {C K : Int32} {c k i : Nat} (hC : C = nI c) (hK : K = nI k) : C * nI i + K = nI (c * i + k) := by rw [hC, hK, nI_mul, nI_add]
theorem ix0 {C : Int32} {c i : Nat} (hC : C = nI c) : C * nI i = nI (c * i) := by rw [hC, nI_mul]
theorem ixa {K : Int32} {k i : Nat} (hK : K = nI k) : nI i + K = nI (i + k) := by rw [hK, nI_add]
theorem RR.g (h : RR ρ μ) {k i : Nat} (hk : sc2 k i) (hi : i < 2 ^ 31) : ρ.2.1 k (nI i).toNatClampNeg = nI (μ.2.1 k i) := by rw [nI_clamp hi]; exact h.s2 hk
theorem RR.w (h : RR ρ μ) {k i n : Nat} {v : Int32} (hv : v = nI n) (h1 : k ≠ 1) (h13 : k ≠ 13) (hi : i < 2 ^ 31) : RR (rsA ρ k (nI i).toNatClampNeg v) (m2 μ k i n) := by rw [nI_clamp hi]; exact h.u2 hv h1 h13
/-- what a minute leaves in place -/
def s40 (ρ ρ' : RSt) : Prop := ρ'.1 0 = ρ.1 0 ∧ ∀ i, ρ'.2.1 40 i = ρ.2.1 40 i
theorem s40.rf : s40 ρ ρ := ⟨rfl, fun _ => rfl⟩
theorem s40.tr {ρ'' : RSt} (h : s40 ρ ρ') (g : s40 ρ' ρ'') : s40 ρ ρ'' := ⟨g.1.trans h.1, fun i => (g.2 i).trans (h.2 i)⟩
theorem s40.A {k i : Nat} {v : Int32} (hk : k ≠ 40) : s40 ρ (rsA ρ k i v) := ⟨rfl, fun _ => rA_n (fun e => absurd e.symm hk)⟩
theorem s40.J {k i : Nat} {v : Int64} : s40 ρ (rsJ ρ k i v) := ⟨rfl, fun _ => rfl⟩
theorem sR_waiting {post : Int32 → RSt → Prop} {l : Nat} (hR : RR ρ μ) (hI : MI μ j) (hl : l < μ.1 7) (hp : post (nI (mWait μ l)) ρ) : wpR_waiting_0 post ρ (nI l) := by
  have hc := hI.cs
  have hq := hI.qu l hl
  refine gLP.up (μ.2.1 6 l) (fun k (x : RSt × Int32 × Int32 × Int32) => k ≤ μ.2.1 6 l ∧ x = (ρ, nI l, nI (sumN (fun k => μ.2.1 21 (7 * μ.2.1 5 (60 * l + k))) k), nI k)) (fun k x h => h.1) ?_ (j := 0) ⟨Nat.zero_le _, rfl⟩
  rintro k x P ⟨hk, rfl⟩ hP
  dsimp only
  have e6 := hR.g (k := 6) (i := l) (by unfold sc2; omega) (by omega)
  refine ⟨vp_in_nI (by omega) (by omega), fun e => ?_, fun e => ?_⟩
  · rw [e6, nI_leI (by omega) (by omega)] at e
    obtain rfl : k = μ.2.1 6 l := by omega
    exact hp
  · rw [e6, nI_leI (by omega) (by omega)] at e
    have hk' : k < μ.2.1 6 l := by omega
    have hx : (60 : Int32) * nI l + nI k = nI (60 * l + k) := ix rfl rfl
    have e5 := hR.g (k := 5) (i := 60 * l + k) (by unfold sc2; omega) (by omega)
    have hg := (hq.2 k hk').1
    rw [hx, e5]
    have hy : (7 : Int32) * nI (μ.2.1 5 (60 * l + k)) = nI (7 * μ.2.1 5 (60 * l + k)) := ix0 rfl
    rw [hy, hR.g (k := 21) (i := 7 * μ.2.1 5 (60 * l + k)) (by unfold sc2; omega) (by omega)]
    refine ⟨vp_in_nI (by omega) (by omega), vp_in_nI (by omega) (by omega), ?_⟩
    rintro x2 rfl
    exact hP _ ⟨by omega, by rw [nI_add, nI_1]; rfl⟩
def wq (μ : MSt) (c q w : Nat) : MSt := m1 (m2 (m2 μ 10 (4 * c + q) (μ.2.1 10 (4 * c + q) - w)) 10 (4 * c + 3) (μ.2.1 10 (4 * c + 3) + w)) 54 (μ.1 54 + w)
theorem wq_n {c q w a i : Nat} (h : a = 10 → i ≠ 4 * c + q ∧ i ≠ 4 * c + 3) : (wq μ c q w).2.1 a i = μ.2.1 a i := by
  show (m2 (m2 μ _ _ _) _ _ _).2.1 a i = _
  rw [m2_n (by omega), m2_n (by omega)]
theorem wq_s {c q w : Nat} (h : q < 3) : (wq μ c q w).2.1 10 (4 * c + q) = μ.2.1 10 (4 * c + q) - w := by
  show (m2 (m2 μ _ _ _) _ _ _).2.1 10 _ = _
  rw [m2_n (by omega), m2_s]
theorem wq_3 {c q w : Nat} : (wq μ c q w).2.1 10 (4 * c + 3) = μ.2.1 10 (4 * c + 3) + w := by
  show (m2 (m2 μ _ _ _) _ _ _).2.1 10 _ = _
  rw [m2_s]
theorem wq_54 {c q w : Nat} : (wq μ c q w).1 54 = μ.1 54 + w := m1_s
theorem wq_1 {c q w k : Nat} (h : k ≠ 54) : (wq μ c q w).1 k = μ.1 k := m1_n h
theorem wq_mWr {c due : Nat} : RR ρ (wq (wq (wq μ c 2 (wr1 μ c due)) c 1 (wr2 μ c due)) c 0 (wr3 μ c due)) → RR ρ (mWr μ c due) := by
  intro h
  refine h.congr (fun k _ => ?_) (fun k i _ => ?_) ⟨fun _ => rfl, fun _ => rfl, rfl⟩
  · by_cases e : k = 54
    · subst e
      rw [mWr_54, wq_54, wq_54, wq_54]
      unfold wrS
      omega
    · rw [mWr_1 e, wq_1 e, wq_1 e, wq_1 e]
  · obtain ⟨q0, q1, q2, q3⟩ := mWr_c (μ := μ) (c := c) (due := due)
    by_cases e : k = 10 ∧ 4 * c ≤ i ∧ i < 4 * c + 4
    · obtain ⟨rfl, e⟩ := e
      rcases (show i = 4 * c ∨ i = 4 * c + 1 ∨ i = 4 * c + 2 ∨ i = 4 * c + 3 by omega) with rfl | rfl | rfl | rfl
      · rw [q0]
        refine Eq.symm ((wq_s (q := 0) (by decide)).trans ?_)
        show (wq (wq μ c 2 (wr1 μ c due)) c 1 (wr2 μ c due)).2.1 10 (4 * c) - wr3 μ c due = _
        rw [wq_n (by omega), wq_n (by omega)]
      · rw [q1, wq_n (by omega), wq_s (by decide), wq_n (by omega)]
      · rw [q2, wq_n (by omega), wq_n (by omega), wq_s (by decide)]
      · rw [q3, wq_3, wq_3, wq_3]
        unfold wrS
        omega
    · rw [mWr_2 (by omega), wq_n (by omega), wq_n (by omega), wq_n (by omega)]
theorem sR_wears {post : RSt → Prop} {s sz : Nat} (hR : RR ρ μ) (hI : MI μ j) (hj : j ≤ 512) (hs : s < μ.1 9) (hz : sz ≤ 4) (hp : ∀ ρ', RR ρ' (mWrN μ s (sz * (1 + μ.2.1 8 (6 * s + 3))) (μ.2.1 8 (6 * s + 5))) → s40 ρ ρ' → post ρ') : wpR_wears_0 post ρ (nI s) (nI sz) := by
  have hsl := hI.sl s hs
  have hc := hI.cs
  have hmul : sz * (1 + μ.2.1 8 (6 * s + 3)) ≤ 40 := Nat.le_trans (Nat.mul_le_mul hz (show 1 + μ.2.1 8 (6 * s + 3) ≤ 10 by omega)) (by decide)
  generalize hdue : sz * (1 + μ.2.1 8 (6 * s + 3)) = due at hp hmul
  have hMI := fun n hn => mWrN_MI (due := due) hI hs n hn
  have x4 : (6 : Int32) * nI s + 4 = nI (6 * s + 4) := ix rfl rfl
  have x5 : (6 : Int32) * nI s + 5 = nI (6 * s + 5) := ix rfl rfl
  have x3 : (6 : Int32) * nI s + 3 = nI (6 * s + 3) := ix rfl rfl
  unfold wpR_wears_0
  rw [x4, hR.g (k := 8) (i := 6 * s + 4) (by unfold sc2; omega) (by omega)]
  refine ⟨vp_in_nI (by omega) (by omega), ?_⟩
  refine gLP.up (μ.2.1 8 (6 * s + 5)) (fun n (x : RSt × Int32 × Int32 × Int32) => n ≤ μ.2.1 8 (6 * s + 5) ∧ RR x.1 (mWrN μ s due n) ∧ s40 ρ x.1 ∧ x.2 = (nI s, nI sz, nI (μ.2.1 8 (6 * s + 4) + n))) (fun k x h => h.1) ?_ (j := 0) ⟨Nat.zero_le _, hR, s40.rf, rfl⟩
  rintro n ⟨r, y⟩ P ⟨hn, hC, hk, e⟩ hP
  dsimp only at hC hk e
  subst e
  dsimp only
  have e8 : ∀ i, i < 2 ^ 31 → r.2.1 8 (nI i).toNatClampNeg = nI (μ.2.1 8 i) := fun i hi => by rw [hC.g (k := 8) (i := i) (by unfold sc2; omega) hi, mWrN_2 (by decide)]
  unfold wpR_wears_12_F
  rw [x4, x5, x3, e8 _ (by omega), e8 _ (by omega), e8 _ (by omega), nI_add, nI_leI (by omega) (by omega)]
  refine ⟨vp_in_nI (by omega) (by omega), vp_in_nI (by omega) (by omega), fun e => ?_, fun e => ⟨vp_in_nI (by omega) (by omega), ?_⟩⟩
  · obtain rfl : n = μ.2.1 8 (6 * s + 5) := by omega
    exact hp r hC hk
  rw [show nI sz * (1 + nI (μ.2.1 8 (6 * s + 3))) = nI due by rw [show (1 : Int32) = nI 1 from rfl, nI_add, nI_mul, hdue]]
  generalize hcd : μ.2.1 8 (6 * s + 4) + n = c
  generalize hM : mWrN μ s due n = M at hC
  have hcc : c < μ.1 14 := by omega
  have hIM : MI M j := by rw [← hM]; exact hMI n (by omega)
  have hsn := hIM.sn c (by rw [← hM, mWrN_1 (by decide)]; exact hcc)
  have hP : ∀ r', RR r' (mWr M c due) → s40 r r' → P (r', nI s, nI sz, nI c + 1) := fun r' h1 h2 => hP _ ⟨by omega, by show RR r' (mWr (mWrN μ s due n) (μ.2.1 8 (6 * s + 4) + n) due); rw [hM, hcd]; exact h1, hk.tr h2, by rw [nI_1, ← hcd]; rfl⟩
  -- the three kinds
  let X : Nat → MSt := fun k => if k = 0 then M else if k = 1 then wq M c 2 (wr1 M c due) else if k = 2 then wq (wq M c 2 (wr1 M c due)) c 1 (wr2 M c due) else wq (wq (wq M c 2 (wr1 M c due)) c 1 (wr2 M c due)) c 0 (wr3 M c due)
  let T : Nat → Nat := fun k => if k = 0 then due else if k = 1 then due - wr1 M c due else if k = 2 then due - wr1 M c due - wr2 M c due else due - wr1 M c due - wr2 M c due - wr3 M c due
  let sh : Nat → Int32 := fun k => if k = 0 then 2 else if k = 1 then 1 else if k = 2 then 0 else -1
  refine gLP.up 3 (fun k (x : RSt × Int32 × Int32 × Int32 × Int32 × Int32) => k ≤ 3 ∧ RR x.1 (X k) ∧ s40 r x.1 ∧ x.2 = (nI s, nI sz, nI c, nI (T k), sh k)) (fun k x h => h.1) ?_ (j := 0) ⟨by decide, hC, s40.rf, rfl⟩
  rintro k ⟨u, y⟩ Q ⟨hk3, hU, hku, e⟩ hQ
  dsimp only at hU hku e
  subst e
  dsimp only
  have step : ∀ (q a : Nat) (B : MSt), q < 3 → RR u B → B.2.1 10 (4 * c + q) = M.2.1 10 (4 * c + q) → B.2.1 10 (4 * c + 3) ≤ 60000000 → sh k = nI q → a = T k → a ≤ 40 → (∀ u', RR u' (wq B c q (min a (M.2.1 10 (4 * c + q)))) → s40 r u' → Q (u', nI s, nI sz, nI c, nI (a - min a (M.2.1 10 (4 * c + q))), nI q + (-1))) → wpR_wears_59_F post (fun s v1 v2 v3 => P (s, v1, v2, v3)) (fun s v1 v2 v3 v4 v5 => Q (s, v1, v2, v3, v4, v5)) u (nI s) (nI sz) (nI c) (nI (T k)) (sh k) := by
    intro q a B hq hB eB hb3 es ea ha hQ'
    rw [es, ← ea]
    have xq : (4 : Int32) * nI c + nI q = nI (4 * c + q) := ix rfl rfl
    have xq3 : (4 : Int32) * nI c + 3 = nI (4 * c + 3) := ix rfl rfl
    have hbq : M.2.1 10 (4 * c + q) ≤ 60000000 := by
      rcases (show q = 0 ∨ q = 1 ∨ q = 2 by omega) with rfl | rfl | rfl
      · show M.2.1 10 (4 * c) ≤ _; omega
      · omega
      · omega
    have e10 := hB.g (k := 10) (i := 4 * c + q) (by unfold sc2; omega) (by omega)
    rw [eB] at e10
    have tail : ∀ w : Nat, w = min a (M.2.1 10 (4 * c + q)) → wpR_wears_96 post (fun s v1 v2 v3 => P (s, v1, v2, v3)) (fun s v1 v2 v3 v4 v5 => Q (s, v1, v2, v3, v4, v5)) u (nI s) (nI sz) (nI c) (nI a) (nI q) (nI w) := by
      intro w hw
      unfold wpR_wears_96
      rw [xq, xq3]
      refine ⟨vp_in_nI (by omega) (by omega), vp_in_nI (by omega) (by omega), ?_⟩
      rw [e10, nI_sub (show w ≤ M.2.1 10 (4 * c + q) by omega)]
      rintro s1 rfl
      have h1 := hB.w (k := 10) (i := 4 * c + q) (v := nI (M.2.1 10 (4 * c + q) - w)) rfl (by decide) (by decide) (by omega)
      refine ⟨vp_in_nI (by omega) (by omega), vp_in_nI (by omega) (by omega), ?_⟩
      rw [h1.g (k := 10) (i := 4 * c + 3) (by unfold sc2; omega) (by omega), m2_n (by omega), nI_add]
      rintro s2 rfl
      have h2 := h1.w (k := 10) (i := 4 * c + 3) (v := nI (B.2.1 10 (4 * c + 3) + w)) rfl (by decide) (by decide) (by omega)
      refine ⟨vp_in_nI (n := 4) (by omega) (by omega), vp_in_nI (n := 4) (by omega) (by omega), ?_⟩
      rintro s3 rfl
      rw [nI_sub (show w ≤ a by omega), hw]
      rw [hw] at h2
      refine hQ' _ ?_ (((hku.tr (s40.A (by decide))).tr (s40.A (by decide))).tr s40.J)
      have h3 := h2.uJ (i := 4) (n := B.1 54 + min a (M.2.1 10 (4 * c + q))) (v := (rsA (rsA u 10 (nI (4 * c + q)).toNatClampNeg (nI (M.2.1 10 (4 * c + q) - min a (M.2.1 10 (4 * c + q))))) 10 (nI (4 * c + 3)).toNatClampNeg (nI (B.2.1 10 (4 * c + 3) + min a (M.2.1 10 (4 * c + q))))).2.2 29 4 + (nI (min a (M.2.1 10 (4 * c + q)))).toInt64) (by
        rw [h2.2.2.2 4 (by decide), nI_l (by omega), lN_add]
        rfl)
      unfold wq
      rw [eB]
      exact h3
    refine ⟨fun e => absurd e (nI_nn (by omega)), fun _ => ⟨by rw [xq]; exact vp_in_nI (by omega) (by omega), ?_⟩⟩
    rw [xq, e10, nI_leI (by omega) (by omega)]
    refine ⟨fun e => ⟨vp_in_nI (by omega) (by omega), tail _ (by omega)⟩, fun e => tail _ (by omega)⟩
  have hle : wrS M c due ≤ due := (mWr_sum (μ := M) (c := c) (due := due)).2
  rcases (show k = 0 ∨ k = 1 ∨ k = 2 ∨ k = 3 by omega) with rfl | rfl | rfl | rfl
  · exact step 2 due M (by decide) hU rfl (by omega) rfl rfl hmul (fun u' h1 h2 => hQ _ ⟨by decide, h1, h2, rfl⟩)
  · exact step 1 (due - wr1 M c due) (wq M c 2 (wr1 M c due)) (by decide) hU (wq_n (by omega)) (by rw [wq_3]; unfold wr1; omega) rfl rfl (by omega) (fun u' h1 h2 => hQ _ ⟨by decide, h1, h2, rfl⟩)
  · exact step 0 (due - wr1 M c due - wr2 M c due) (wq (wq M c 2 (wr1 M c due)) c 1 (wr2 M c due)) (by decide) hU (by rw [wq_n (by omega), wq_n (by omega)]) (by rw [wq_3, wq_3]; unfold wr2 wr1; omega) rfl rfl (by omega) (fun u' h1 h2 => hQ _ ⟨by decide, h1, h2, rfl⟩)
  · exact ⟨fun _ => hP _ (wq_mWr hU) hku, fun e => absurd (show (-1 : Int32) < 0 by decide) e⟩
end RW
end
