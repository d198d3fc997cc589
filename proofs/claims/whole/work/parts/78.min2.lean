section
/-! the class's minute: wear, which slope, which lift -/
section WR
variable {σ σ' : CSt} {lab lab' : Nat → Nat} {ad : Nat → Nat → Nat} {μ μ' : MSt} {j : Nat}
theorem CRep.cg {μ' : MSt} (h : CRep σ lab ad μ) (e1 : μ'.1 = μ.1) (e2 : ∀ a i, μ'.2.1 a i = μ.2.1 a i) (e3 : μ'.2.2 = μ.2.2) : CRep σ lab ad μ' := by
  have : μ' = μ := by
    obtain ⟨a, b, c⟩ := μ
    obtain ⟨a', b', c'⟩ := μ'
    dsimp only at e1 e2 e3
    subst e1; subst e3
    have : b' = b := by funext x y; exact e2 x y
    rw [this]
  rw [this]; exact h
theorem sC_wornC {post : Int32 → CSt → Prop} {c due : Nat} (h : CRep σ lab ad μ) (hc : c < μ.1 14) (hc4 : c < 100) (hd : due < 2 ^ 31) (hb : ∀ k : Nat, k < 4 → μ.2.1 10 (4 * c + k) < 2 ^ 31) (hp : ∀ σ', CRep σ' lab ad (μ.1, (mWr μ c due).2) → keepS (atX 9 (100 + c)) σ lab σ' lab → post (nI (wrS μ c due)) σ') : wpC_X1_becomeWorn_0 post σ (ad 1 c) (nI due) := by
  let T : Nat → Nat := fun k => if k = 0 then 0 else if k = 1 then wr1 μ c due else if k = 2 then wr1 μ c due + wr2 μ c due else wrS μ c due
  let M : Nat → MSt := fun k => if k = 0 then μ else if k = 1 then m2 μ 10 (4 * c + 2) (μ.2.1 10 (4 * c + 2) - wr1 μ c due) else if k = 2 then m2 (m2 μ 10 (4 * c + 2) (μ.2.1 10 (4 * c + 2) - wr1 μ c due)) 10 (4 * c + 1) (μ.2.1 10 (4 * c + 1) - wr2 μ c due) else m2 (m2 (m2 μ 10 (4 * c + 2) (μ.2.1 10 (4 * c + 2) - wr1 μ c due)) 10 (4 * c + 1) (μ.2.1 10 (4 * c + 1) - wr2 μ c due)) 10 (4 * c + 0) (μ.2.1 10 (4 * c + 0) - wr3 μ c due)
  have hM1 : ∀ k, (M k).1 = μ.1 := by
    intro k
    show (if k = 0 then μ else if k = 1 then _ else if k = 2 then _ else _ : MSt).1 = μ.1
    split
    · rfl
    · split
      · rfl
      · split <;> rfl
  have hTd : ∀ k, T k ≤ due := by
    intro k
    show (if k = 0 then 0 else if k = 1 then _ else if k = 2 then _ else _) ≤ due
    have := (mWr_sum (μ := μ) (c := c) (due := due)).2
    have h2 : wr1 μ c due + wr2 μ c due ≤ wrS μ c due := by unfold wrS; omega
    split
    · omega
    · split
      · omega
      · split <;> omega
  let sh : Nat → Int32 := fun k => if k = 0 then 2 else if k = 1 then 1 else if k = 2 then 0 else -1
  refine gLP.up 3 (fun k (x : CSt × Nat × Int32 × Int32 × Int32) => k ≤ 3 ∧ CRep x.1 lab ad (M k) ∧ keepS (atX 9 (100 + c)) σ lab x.1 lab ∧ x.2 = (ad 1 c, nI due, nI (T k), sh k)) (fun k x h => h.1) ?_ (j := 0) ⟨by decide, h, keepS.rf, rfl⟩
  rintro k ⟨s, y⟩ P ⟨hk3, hC, hkp, e⟩ hP
  dsimp only at hC hkp e
  subst e
  dsimp only
  have hc' : c < (M k).1 14 := by rw [hM1]; exact hc
  have hsn := hC.sn hc'
  have hN : cN s (ad 9 (100 + c)) = 4 := hsn.2.1
  have ev : ∀ q : Nat, q < 4 → cV s (ad 9 (100 + c)) q = nI ((M k).2.1 10 (4 * c + q)) := hsn.2.2
  have hstep : ∀ (q a : Nat), q < 4 → (M k).2.1 10 (4 * c + q) = μ.2.1 10 (4 * c + q) → a = due - T k → T (k + 1) = T k + min a (μ.2.1 10 (4 * c + q)) → k < 3 → M (k + 1) = m2 (M k) 10 (4 * c + q) (μ.2.1 10 (4 * c + q) - min a (μ.2.1 10 (4 * c + q))) → sh k = nI q → sh k + (-1) = sh (k + 1) → wpC_X1_take_0 (fun r5 s4 => P (s4, ad 1 c, nI due, nI (T k) + r5, sh k + (-1))) s (ad 1 c) (sh k) (nI due - nI (T k)) := by
    intro q a hq eM ea eT hk eM' es es'
    rw [nI_sub (hTd k), es, ← ea]
    have hbq := hb q hq
    refine sC_take hC hc' hc4 hq (by omega) (by rw [eM]; exact hbq) (fun σ' h' hk' => ?_)
    rw [eM] at h' ⊢
    refine hP _ ⟨by omega, by rw [eM']; exact h', hkp.tr hk', ?_⟩
    rw [nI_add, ← eT, ← es, es']
  rcases (show k = 0 ∨ k = 1 ∨ k = 2 ∨ k = 3 by omega) with rfl | rfl | rfl | rfl
  · refine ⟨fun e => absurd (show (2 : Int32) < 0 from e) (by decide), fun _ => ⟨(hC.ce hc').1.1, ?_⟩⟩
    exact hstep 2 due (by decide) rfl (by show due = due - 0; omega) (by show wr1 μ c due = 0 + min due _; unfold wr1; omega) (by decide) rfl rfl (by decide)
  · refine ⟨fun e => absurd (show (1 : Int32) < 0 from e) (by decide), fun _ => ⟨(hC.ce hc').1.1, ?_⟩⟩
    exact hstep 1 (due - wr1 μ c due) (by decide) (m2_n (by omega)) rfl rfl (by decide) rfl rfl (by decide)
  · refine ⟨fun e => absurd (show (0 : Int32) < 0 from e) (by decide), fun _ => ⟨(hC.ce hc').1.1, ?_⟩⟩
    exact hstep 0 (due - wr1 μ c due - wr2 μ c due) (by decide) ((m2_n (by omega)).trans (m2_n (by omega))) (by show _ = due - (wr1 μ c due + wr2 μ c due); omega) rfl (by decide) rfl rfl (by decide)
  · have e3 : (M 3).2.1 10 (4 * c + 3) = μ.2.1 10 (4 * c + 3) := (m2_n (by omega)).trans ((m2_n (by omega)).trans (m2_n (by omega)))
    refine ⟨fun _ => ⟨(hC.ce hc').1.1, _, (hC.ce hc').2.1, hsn.1.1, (vi4 hN).2.2.2, hsn.1.1, (vi4 hN).2.2.2, ?_⟩, fun e => absurd (show (-1 : Int32) < 0 by decide) e⟩
    rintro s3 rfl
    have hw := sn_wr (k := 3) (n := μ.2.1 10 (4 * c + 3) + wrS μ c due) (w := cV s (ad 9 (100 + c)) (3 : Int32).toNatClampNeg + nI (T 3)) hC hc' hc4 (by decide) (by rw [show (3 : Int32).toNatClampNeg = 3 from rfl, ev 3 (by decide), e3, nI_add]; rfl)
    refine hp _ (hw.cg rfl (fun a i => ?_) rfl) (hkp.tr (keep_csV hsn.1.1 hsn.1.2 _).s)
    show (mWr μ c due).2.1 a i = (m2 (m2 (m2 (m2 μ 10 (4 * c + 2) (μ.2.1 10 (4 * c + 2) - wr1 μ c due)) 10 (4 * c + 1) (μ.2.1 10 (4 * c + 1) - wr2 μ c due)) 10 (4 * c + 0) (μ.2.1 10 (4 * c + 0) - wr3 μ c due)) 10 (4 * c + 3) (μ.2.1 10 (4 * c + 3) + wrS μ c due)).2.1 a i
    obtain ⟨q0, q1, q2, q3⟩ := mWr_c (μ := μ) (c := c) (due := due)
    by_cases e : a = 10 ∧ 4 * c ≤ i ∧ i < 4 * c + 4
    · obtain ⟨rfl, e⟩ := e
      rcases (show i = 4 * c ∨ i = 4 * c + 1 ∨ i = 4 * c + 2 ∨ i = 4 * c + 3 by omega) with rfl | rfl | rfl | rfl
      · rw [q0, m2_n (by omega)]; exact (m2_s (i := 4 * c + 0)).symm
      · rw [q1, m2_n (by omega), m2_n (by omega), m2_s]
      · rw [q2, m2_n (by omega), m2_n (by omega), m2_n (by omega), m2_s]
      · rw [q3, m2_s]
    · rw [mWr_2 (by omega), m2_n (by omega), m2_n (by omega), m2_n (by omega), m2_n (by omega)]
def wrT (μ : MSt) (s due n : Nat) : Nat := sumN (fun i => wrS (mWrN μ s due i) (μ.2.1 8 (6 * s + 4) + i) due) n
theorem wrT_54 {s due : Nat} : ∀ n : Nat, (mWrN μ s due n).1 54 = μ.1 54 + wrT μ s due n
  | 0 => rfl
  | n + 1 => by
    show (mWr _ _ _).1 54 = _
    rw [mWr_54, wrT_54 n]
    show _ = μ.1 54 + (wrT μ s due n + wrS (mWrN μ s due n) (μ.2.1 8 (6 * s + 4) + n) due)
    omega
theorem wrT_le {s due : Nat} : ∀ n : Nat, wrT μ s due n ≤ n * due
  | 0 => Nat.zero_le _
  | n + 1 => by
    have h1 : wrT μ s due n ≤ n * due := wrT_le n
    have h2 := (mWr_sum (μ := mWrN μ s due n) (c := μ.2.1 8 (6 * s + 4) + n) (due := due)).2
    show wrT μ s due n + wrS _ _ _ ≤ _
    have h3 : (n + 1) * due = n * due + due := Nat.succ_mul n due
    omega
theorem sC_wear {post : Int32 → CSt → Prop} {s sz : Nat} (h : CRep σ lab ad μ) (hI : MI μ j) (hj : j ≤ 512) (hs : s < μ.1 9) (hz : sz ≤ 4) (hp : ∀ σ', CRep σ' lab ad (μ.1, (mWrN μ s (sz * (1 + μ.2.1 8 (6 * s + 3))) (μ.2.1 8 (6 * s + 5))).2) → keepS (fun k l => k = 9 ∧ 100 ≤ l ∧ l < 200) σ lab σ' lab → post (nI (wrT μ s (sz * (1 + μ.2.1 8 (6 * s + 3))) (μ.2.1 8 (6 * s + 5)))) σ') : wpC_X6_wear_0 post σ (ad 6 s) (nI sz) := by
  have hsl := hI.sl s hs
  have hc := hI.cs
  have hmul : sz * (1 + μ.2.1 8 (6 * s + 3)) ≤ 40 := Nat.le_trans (Nat.mul_le_mul hz (show 1 + μ.2.1 8 (6 * s + 3) ≤ 10 by omega)) (by decide)
  generalize hdue : sz * (1 + μ.2.1 8 (6 * s + 3)) = due at hp hmul
  have hMI := fun n hn => mWrN_MI (due := due) hI hs n hn
  refine gLP.up (μ.2.1 8 (6 * s + 5)) (fun n (x : CSt × Nat × Int32 × Int32 × Int32) => n ≤ μ.2.1 8 (6 * s + 5) ∧ CRep x.1 lab ad (μ.1, (mWrN μ s due n).2) ∧ keepS (fun k l => k = 9 ∧ 100 ≤ l ∧ l < 200) σ lab x.1 lab ∧ x.2 = (ad 6 s, nI sz, nI (wrT μ s due n), nI n)) (fun k x h => h.1) ?_ (j := 0) ⟨Nat.zero_le _, h, keepS.rf, rfl⟩
  rintro n ⟨τ, y⟩ P ⟨hn, hC, hk, e⟩ hP
  dsimp only at hC hk e
  subst e
  dsimp only
  have e8 : ∀ i, (mWrN μ s due n).2.1 8 i = μ.2.1 8 i := fun i => mWrN_2 (by decide) n
  have hsl' := hC.sl (i := s) hs
  have hsc' := hC.sc (i := s) hs
  unfold cSc at hsc'
  rw [show ((μ.1, (mWrN μ s due n).2) : MSt).2.1 8 (6 * s + 5) = μ.2.1 8 (6 * s + 5) from e8 _, show ((μ.1, (mWrN μ s due n).2) : MSt).2.1 8 (6 * s + 4) = μ.2.1 8 (6 * s + 4) from e8 _] at hsc'
  refine ⟨hsl'.1.1, _, hsl'.2.1, hsc'.1, sC_size hsc' ⟨fun e => ?_, fun e => ?_⟩⟩
  · rw [nI_leI (by omega) (by omega)] at e
    obtain rfl : n = μ.2.1 8 (6 * s + 5) := by omega
    exact hp τ hC hk
  · rw [nI_leI (by omega) (by omega)] at e
    have hcc : μ.2.1 8 (6 * s + 4) + n < μ.1 14 := by omega
    have hce := hC.ce (i := μ.2.1 8 (6 * s + 4) + n) hcc
    refine ⟨hsl'.1.1, _, hsl'.2.1, hsc'.1, sC_get hsc' (by omega) ⟨_, rfl, hce.1.1, hsl'.1.1, hce.1.1, ?_⟩⟩
    rw [hsl'.2.2.2.2.2.2.2.1, show ((μ.1, (mWrN μ s due n).2) : MSt).2.1 8 (6 * s + 3) = μ.2.1 8 (6 * s + 3) from e8 _, show nI sz * (1 + nI (μ.2.1 8 (6 * s + 3))) = nI due by rw [show (1 : Int32) = nI 1 from rfl, nI_add, nI_mul, hdue]]
    have hsn := (hMI n (by omega)).sn (μ.2.1 8 (6 * s + 4) + n) (by rw [mWrN_1 (by decide)]; exact hcc)
    refine sC_wornC hC hcc (by omega) (by omega) (fun q hq => ?_) (fun σ' h' hk' => hP _ ⟨by omega, ?_, hk.tr (hk'.mono (fun k l hx => by unfold atX at hx; omega)), ?_⟩)
    · show (mWrN μ s due n).2.1 10 _ < _
      rcases (show q = 0 ∨ q = 1 ∨ q = 2 ∨ q = 3 by omega) with rfl | rfl | rfl | rfl
      · show (mWrN μ s due n).2.1 10 (4 * (μ.2.1 8 (6 * s + 4) + n)) < _; omega
      · omega
      · omega
      · omega
    · exact h'
    · rw [nI_add, nI_1]
      rfl
theorem sC_slopeFor {post : Option Nat → CSt → Prop} {g : Nat} {op : Nat → Bool} {ob : Int32} (h : CRep σ lab ad μ) (hI : MI μ j) (hg : g < μ.1 22) (hop : ∀ i : Nat, i < μ.1 9 → bt ob i = op i) (hp : post ((bsl μ op g (μ.1 9)).map (ad 6)) σ) : wpC_X7_slopeFor_0 post σ (ad 7 0) (ad 2 g) ob := by
  have hc := hI.cs
  have hG := h.gr hg
  have hb := hI.gr g hg
  refine gLP.up (μ.1 9) (fun k (x : CSt × Nat × Nat × Int32 × Option Nat × Int32) => k ≤ μ.1 9 ∧ x = (σ, ad 7 0, ad 2 g, ob, (bsl μ op g k).map (ad 6), nI k)) (fun k x h => h.1) ?_ (j := 0) ⟨Nat.zero_le _, rfl⟩
  rintro k x P ⟨hk, rfl⟩ hP
  dsimp only
  refine ⟨h.x7, _, h.x.2.1.2.1, h.ls.2.1.1, sC_size h.ls.2.1 ⟨fun e => ?_, fun e => ?_⟩⟩
  · rw [nI_leI (by omega) (by omega)] at e
    obtain rfl : k = μ.1 9 := by omega
    exact hp
  · rw [nI_leI (by omega) (by omega)] at e
    have hk9 : k < μ.1 9 := by omega
    have hl := h.sl hk9
    have hm := hI.sl k hk9
    have hP : ∀ b : Option Nat, b = bsl μ op g (k + 1) → P (σ, ad 7 0, ad 2 g, ob, b.map (ad 6), nI k + 1) := fun b eb => hP _ ⟨by omega, by rw [eb, nI_1]⟩
    have hno : ¬ fitS μ op g k → wpC_X7_slopeFor_68 post (fun s v0 v1 v2 v3 v4 => P (s, v0, v1, v2, v3, v4)) σ (ad 7 0) (ad 2 g) ob ((bsl μ op g k).map (ad 6)) (nI k) (ad 6 k) := by
      intro hf
      refine ⟨fun _ => ?_, fun e => absurd rfl e⟩
      exact hP _ (bsl_n hf).symm
    refine ⟨h.x7, _, h.x.2.1.2.1, h.ls.2.1.1, sC_get h.ls.2.1 hk9 ⟨_, rfl, hl.1.1, hl.1.1, hG.1.1, ?_⟩⟩
    rw [hl.2.2.2.2.1, hG.2.2.2.2.2.1, nI_eq (by omega) (by omega)]
    refine ⟨fun e1 => hno (fun hf => e1 hf.1), fun e1 => ⟨hl.1.1, hG.1.1, ?_⟩⟩
    rw [hG.2.2.2.1, hl.2.2.2.2.2.2.2.1, nI_ltI (by omega) (by omega)]
    refine ⟨fun e2 => hno (fun hf => by have := hf.2.1; omega), fun e2 => ?_⟩
    unfold wpC_X7_hasBit_0
    rw [hb_1 (by omega), hop k hk9]
    refine ⟨fun e3 => ⟨fun _ => hno (fun hf => e3 hf.2.2), fun e => absurd rfl e⟩, fun e3 => ⟨fun e => absurd e (by decide), fun _ => ?_⟩⟩
    have hf : fitS μ op g k := ⟨e1, by omega, e3⟩
    have hy := bsl_y hf
    refine ⟨fun e => absurd e (by decide), fun _ => ⟨fun en => ?_, fun a3 ea => ?_⟩⟩
    · have hb0 : bsl μ op g k = none := by
        cases hx : bsl μ op g k with
        | none => rfl
        | some b => rw [hx] at en; cases en
      rw [hb0] at hy
      exact hP (some k) hy.symm
    · cases hx : bsl μ op g k with
      | none => rw [hx] at ea; cases ea
      | some b =>
        rw [hx] at ea hy
        cases ea
        have hb9 := bsl_lt _ _ hx
        have hlb := h.sl (show b < μ.1 9 by omega)
        have hmb := hI.sl b (by omega)
        have hy' : bsl μ op g (k + 1) = if μ.2.1 8 (6 * b + 3) < μ.2.1 8 (6 * k + 3) then some k else some b := hy
        refine ⟨hl.1.1, hlb.1.1, ?_⟩
        rw [hl.2.2.2.2.2.2.2.1, hlb.2.2.2.2.2.2.2.1, nI_leI (by omega) (by omega)]
        refine ⟨fun e4 => ?_, fun e4 => ?_⟩
        · rw [if_neg (by omega)] at hy'
          exact hP (some b) hy'.symm
        · rw [if_pos (by omega)] at hy'
          exact hP (some k) hy'.symm
theorem mWait_le {l : Nat} (hI : MI μ j) (hl : l < μ.1 7) : mWait μ l ≤ 240 := by
  have hq := hI.qu l hl
  have key : ∀ n : Nat, n ≤ μ.2.1 6 l → sumN (fun k => μ.2.1 21 (7 * μ.2.1 5 (60 * l + k))) n ≤ 4 * n := by
    intro n
    induction n with
    | zero => intro _; exact Nat.le_refl _
    | succ n ih =>
      intro hn
      have h1 := ih (by omega)
      have h2 := (hI.gr _ (hq.2 n (by omega)).1).1
      show _ + _ ≤ _
      dsimp only
      omega
  have := key _ (Nat.le_refl _)
  unfold mWait
  omega
theorem sC_liftFor {post : Option Nat → CSt → Prop} {g : Nat} (h : CRep σ lab ad μ) (hI : MI μ j) (hg : g < μ.1 22) (hp : post ((bli μ g (μ.1 7)).map (ad 3)) σ) : wpC_X7_liftFor_0 post σ (ad 7 0) (ad 2 g) := by
  have hc := hI.cs
  have hG := h.gr hg
  have hb := hI.gr g hg
  refine gLP.up (μ.1 7) (fun k (x : CSt × Nat × Nat × Option Nat × Int32) => k ≤ μ.1 7 ∧ x = (σ, ad 7 0, ad 2 g, (bli μ g k).map (ad 3), nI k)) (fun k x h => h.1) ?_ (j := 0) ⟨Nat.zero_le _, rfl⟩
  rintro k x P ⟨hk, rfl⟩ hP
  dsimp only
  refine ⟨h.x7, _, h.x.2.1.1, h.ls.1.1, sC_size h.ls.1 ⟨fun e => ?_, fun e => ?_⟩⟩
  · rw [nI_leI (by omega) (by omega)] at e
    obtain rfl : k = μ.1 7 := by omega
    exact hp
  · rw [nI_leI (by omega) (by omega)] at e
    have hk9 : k < μ.1 7 := by omega
    have hl := h.li hk9
    have hm := hI.li k hk9
    have hP : ∀ b : Option Nat, b = bli μ g (k + 1) → P (σ, ad 7 0, ad 2 g, b.map (ad 3), nI k + 1) := fun b eb => hP _ ⟨by omega, by rw [eb, nI_1]⟩
    have hno : ¬ fitL μ g k → wpC_X7_liftFor_53 post (fun s v0 v1 v2 v3 => P (s, v0, v1, v2, v3)) σ (ad 7 0) (ad 2 g) ((bli μ g k).map (ad 3)) (nI k) (ad 3 k) := by
      intro hf
      refine ⟨fun _ => ?_, fun e => absurd rfl e⟩
      exact hP _ (bli_n hf).symm
    refine ⟨h.x7, _, h.x.2.1.1, h.ls.1.1, sC_get h.ls.1 hk9 ⟨_, rfl, hl.1.1, hl.1.1, hG.1.1, ?_⟩⟩
    rw [hl.2.2.2.1, hG.2.2.2.2.2.1, nI_eq (by omega) (by omega)]
    refine ⟨fun e1 => hno (fun hf => e1 hf.1), fun e1 => ⟨h.x7, sC_run h hI hk9 ?_⟩⟩
    refine ⟨fun e3 => hno (fun hf => ?_), fun e3 => ?_⟩
    · rw [hf.2] at e3; exact absurd e3 (by decide)
    have hr : mRun μ k = true := by
      cases hx : mRun μ k with
      | true => rfl
      | false => rw [hx] at e3; exact absurd rfl e3
    have hf : fitL μ g k := ⟨e1, hr⟩
    have hy := bli_y hf
    refine ⟨fun e => absurd e (by decide), fun _ => ⟨fun en => ?_, fun a3 ea => ?_⟩⟩
    · have hb0 : bli μ g k = none := by
        cases hx : bli μ g k with
        | none => rfl
        | some b => rw [hx] at en; cases en
      rw [hb0] at hy
      exact hP (some k) hy.symm
    · cases hx : bli μ g k with
      | none => rw [hx] at ea; cases ea
      | some b =>
        rw [hx] at ea hy
        cases ea
        have hb9 := bli_lt _ _ hx
        have hlb := h.li (show b < μ.1 7 by omega)
        have w1 := mWait_le hI hk9
        have w2 := mWait_le hI (show b < μ.1 7 by omega)
        have hy' : bli μ g (k + 1) = if mWait μ k < mWait μ b then some k else some b := hy
        refine ⟨hl.1.1, hlb.1.1, ?_⟩
        rw [hl.2.2.2.2.2.2.2.2.1, hlb.2.2.2.2.2.2.2.2.1, nI_leI (by omega) (by omega)]
        refine ⟨fun e4 => ?_, fun e4 => ?_⟩
        · rw [if_neg (by omega)] at hy'
          exact hP (some b) hy'.symm
        · rw [if_pos (by omega)] at hy'
          exact hP (some k) hy'.symm
end WR
end
