section
/-! calls: fault, wind, stop, runs, unrule, look, row, want, price -/
theorem bool_n {x : Int32} {n : Nat} (h : x = nI n) (hn : n ≤ 1) : narrow .boolean (.int x) = .int x ∧ vp_nar .boolean x = x := by
  subst h
  rcases (show n = 0 ∨ n = 1 by omega) with rfl | rfl
  · exact ⟨rfl, rfl⟩
  · exact ⟨rfl, rfl⟩
section CL
variable {σ : CSt} {lab : Nat → Nat} {ad : Nat → Nat → Nat} {μ : MSt} {j : Nat} {v : Int32}
theorem MI.cs (h : MI μ j) : μ.1 2 ≤ 400 ∧ μ.1 7 ≤ 8 ∧ μ.1 9 ≤ 10 ∧ μ.1 14 ≤ 40 ∧ μ.1 22 ≤ 60 ∧ μ.1 26 ≤ 80 ∧ μ.1 27 ≤ 300 := by
  have := h.1
  unfold mC0 at this
  omega
theorem MI.li (h : MI μ j) : mLi μ := h.2.1
theorem MI.sl (h : MI μ j) : mSl μ := h.2.2.1
theorem MI.sn (h : MI μ j) : mSn μ j := h.2.2.2.1
theorem MI.gr (h : MI μ j) : mGr μ := h.2.2.2.2.1
theorem MI.qu (h : MI μ j) : mQu μ := h.2.2.2.2.2.1
theorem MI.ru (h : MI μ j) : mRu μ := h.2.2.2.2.2.2.1
theorem MI.lk (h : MI μ j) : mLk μ := h.2.2.2.2.2.2.2.1
theorem MI.wt (h : MI μ j) : mWt μ := h.2.2.2.2.2.2.2.2.1
theorem MI.ze (h : MI μ j) : mZe μ := h.2.2.2.2.2.2.2.2.2
def mRun (μ : MSt) (i : Nat) : Bool := μ.2.1 4 i == 0 && decide (μ.1 27 ≤ μ.2.1 3 (5 * i + 4))
theorem cO_fault {post : Int32 → CSt → Prop} (h : CRep σ lab ad μ) (hp : post (if v = 0 then μ.2.2 19 0 else if v = 1 then nI (μ.1 20) else -1) σ) : wpC_X7_fault_0 post σ (ad 7 0) v := by
  refine ⟨fun e => ⟨fun e2 => ?_, fun e2 => ⟨h.x7, ?_⟩⟩, fun e => ⟨h.x7, ?_⟩⟩
  · rw [if_neg e, if_neg e2] at hp; exact hp
  · rw [if_neg e, if_pos e2] at hp; rw [h.x.2.2.2.2.2.2.1]; exact hp
  · rw [if_pos e] at hp; rw [h.x.2.2.2.2.2.1]; exact hp
theorem cO_wind {post : CSt → Prop} {pX : String → CSt → Prop} (h : CRep σ lab ad μ) (h1 : ∀ n : Nat, n ≤ 300 → v = nI n → ∀ σ', CRep σ' lab ad (m1 μ 27 n) → post σ') (h0 : (¬ v < 0 → ¬ v ≤ 300) → pX "java/lang/IllegalArgumentException" σ) : wpC_X7_wind_0 post pX σ (ad 7 0) v := by
  refine sC_num (fun a b => ⟨h.x7, ?_⟩) h0
  rintro s2 rfl
  obtain ⟨n, hn, rfl⟩ := nI_of2 (M := 300) (n := 300) rfl a b
  refine h1 n hn rfl _ (h.setX (keep_x h) ?_ rfl (fun _ _ => rfl) (fun k hk => by show va_up μ.1 27 n k = _; rw [up_ap, if_neg (by omega)]))
  exact ⟨h.x.1, h.x.2.1, h.x.2.2.1, by rw [pI_csI, cu2_ap, if_pos rfl, if_pos rfl]; rfl, h.x.2.2.2.2⟩
theorem sC_run {post : Int32 → CSt → Prop} {i : Nat} (h : CRep σ lab ad μ) (hI : MI μ j) (hi : i < μ.1 7) (hp : post (if mRun μ i then 1 else 0) σ) : wpC_X7_isRunning_0 post σ (ad 7 0) (ad 3 i) := by
  have hl := h.li hi
  have hb := hI.li i hi
  have hc := hI.cs
  unfold mRun at hp
  refine ⟨hl.1.1, fun e => ?_, fun e => ⟨h.x7, hl.1.1, fun e2 => ?_, fun e2 => ?_⟩⟩
  · rw [hl.2.2.2.2.2.2.2.2.2] at e
    have : ¬ μ.2.1 4 i = 0 := fun g => e (by rw [g]; rfl)
    simpa [this] using hp
  · rw [hl.2.2.2.2.2.2.2.1, h.x.2.2.2.1, nI_ltI (by omega) (by omega)] at e2
    rw [hl.2.2.2.2.2.2.2.2.2] at e
    simpa [show ¬ μ.1 27 ≤ μ.2.1 3 (5 * i + 4) by omega] using hp
  · rw [hl.2.2.2.2.2.2.2.1, h.x.2.2.2.1, nI_ltI (by omega) (by omega)] at e2
    rw [hl.2.2.2.2.2.2.2.2.2] at e
    have g : μ.2.1 4 i = 0 := by
      by_cases g : μ.2.1 4 i = 0
      · exact g
      · exact absurd e (nI_ne0 (by omega) (by omega))
    simpa [g, show μ.1 27 ≤ μ.2.1 3 (5 * i + 4) by omega] using hp
theorem bl_n (b : Bool) : narrow .boolean (.int (if b then 1 else 0)) = .int (if b then 1 else 0) := by cases b <;> rfl
theorem cO_runs {post : Int32 → CSt → Prop} {pX : String → CSt → Prop} (h : CRep σ lab ad μ) (hI : MI μ j) (h1 : ∀ i : Nat, i < μ.1 7 → v = nI i → post (if mRun μ i then 1 else 0) σ) (h0 : (¬ v < 0 → ¬ v < nI (μ.1 7)) → pX "java/lang/IndexOutOfBoundsException" σ) : wpC_X7_runs_0 post pX σ (ad 7 0) v :=
  ⟨h.x7, sC_liftAt h (by have := hI.cs; omega) (fun i hi e => ⟨_, rfl, h.x7, sC_run h hI hi ⟨bl_n _, h1 i hi e⟩⟩) h0⟩
theorem cO_stop {post : Int32 → CSt → Prop} {pX : String → CSt → Prop} {w : Nat} (hw : w ≤ 1) (h : CRep σ lab ad μ) (hI : MI μ j) (h1 : ∀ i : Nat, i < μ.1 7 → v = nI i → ∀ σ', CRep σ' lab ad (m2 μ 4 i w) → post (if μ.2.1 4 i = w then 0 else 1) σ') (h0 : (¬ v < 0 → ¬ v < nI (μ.1 7)) → pX "java/lang/IndexOutOfBoundsException" σ) : wpC_X7_stop_0 post pX σ (ad 7 0) v (nI w) := by
  refine ⟨h.x7, sC_liftAt h (by have := hI.cs; omega) (fun i hi e => ?_) h0⟩
  have hl := h.li hi
  have hb := hI.li i hi
  have hs := hl.2.2.2.2.2.2.2.2.2
  have hw2 : nI w = 0 ∨ nI w = 1 := by
    rcases (show w = 0 ∨ w = 1 by omega) with rfl | rfl
    · exact Or.inl rfl
    · exact Or.inr rfl
  have hset : CRep (csI σ 56 (ad 3 i) (nI w)) lab ad (m2 μ 4 i w) := by
    refine h.setLi (l := i) (keep_csI hl.1.1 hl.1.2 56 _).s (fun _ => ?_) rfl rfl (fun k hk => by funext q; show cu2 μ.2.1 4 i w k q = _; rw [cu2_ap, if_neg hk]) (fun q hq => by show cu2 μ.2.1 4 i w 4 q = _; rw [cu2_ap, if_pos rfl, if_neg hq])
    refine ⟨hl.1, hl.2.1, hl.2.2.1, hl.2.2.2.1, hl.2.2.2.2.1, hl.2.2.2.2.2.1, hl.2.2.2.2.2.2.1, hl.2.2.2.2.2.2.2.1, ?_, ?_⟩
    · rw [show mWait (m2 μ 4 i w) i = mWait μ i from mWait_eq rfl (fun _ _ => rfl) (fun _ _ => rfl)]; exact hl.2.2.2.2.2.2.2.2.1
    · rw [pI_csI, cu2_ap, if_pos rfl, if_pos rfl]; show _ = nI (cu2 μ.2.1 4 i w 4 i); rw [cu2_ap, if_pos rfl, if_pos rfl]
  refine ⟨_, rfl, hl.1.1, fun e2 => ?_, fun e2 => ?_⟩
  · refine ⟨_, rfl, hl.1.1, hw2, ?_⟩
    rintro s2 rfl
    rw [hs, nI_eq (by omega) (by omega)] at e2
    have := h1 i hi e _ hset
    rw [if_pos e2] at this
    exact ⟨rfl, this⟩
  · refine ⟨_, rfl, hl.1.1, hw2, ?_⟩
    rintro s2 rfl
    rw [hs, nI_eq (by omega) (by omega)] at e2
    have := h1 i hi e _ hset
    rw [if_neg e2] at this
    exact ⟨rfl, this⟩
theorem cO_unrule {post : Int32 → CSt → Prop} {pX : String → CSt → Prop} (h : CRep σ lab ad μ) (hI : MI μ j) (h1 : ∀ i : Nat, i < μ.1 9 → v = nI i → ∀ σ', CRep σ' lab ad (m2 μ 18 i 0) → post (nI (μ.2.1 18 i)) σ') (h0 : (¬ v < 0 → ¬ v < nI (μ.1 9)) → pX "java/lang/IndexOutOfBoundsException" σ) : wpC_X7_unrule_0 post pX σ (ad 7 0) v := by
  refine ⟨h.x7, sC_slopeAt h (by have := hI.cs; omega) (fun i hi e => ?_) h0⟩
  have hl := h.sl hi
  have hb := hI.sl i hi
  refine ⟨_, rfl, hl.1.1, hl.1.1, ?_⟩
  rintro s4 rfl
  refine ⟨hl.1.1, ?_⟩
  rintro s5 rfl
  rw [hl.2.2.2.2.2.2.2.2.1]
  refine ⟨(bool_n rfl (by omega)).1, h1 i hi e _ ?_⟩
  refine h.setSl (l := i) ((keep_csI hl.1.1 hl.1.2 102 _).s.tr (keep_csI (σ := csI σ 102 (ad 6 i) 0) hl.1.1 hl.1.2 103 _).s) (fun _ => ?_) rfl rfl (fun k hk => by funext q; show cu2 μ.2.1 18 i 0 k q = _; rw [cu2_ap, if_neg hk]) (fun q hq => by show cu2 μ.2.1 18 i 0 18 q = _; rw [cu2_ap, if_pos rfl, if_neg hq]) (by show cu2 μ.2.1 18 i 0 18 i ≠ 1; rw [cu2_ap, if_pos rfl, if_pos rfl]; decide)
  have e18 : (m2 μ 18 i 0).2.1 18 i = 0 := by show cu2 μ.2.1 18 i 0 18 i = 0; rw [cu2_ap, if_pos rfl, if_pos rfl]
  refine ⟨hl.1, hl.2.1, hl.2.2.1, hl.2.2.2.1, hl.2.2.2.2.1, hl.2.2.2.2.2.1, hl.2.2.2.2.2.2.1, hl.2.2.2.2.2.2.2.1, ?_, ?_⟩
  · rw [e18, pI_csI, cu2_ap, if_neg (by decide), pI_csI, cu2_ap, if_pos rfl, if_pos rfl]; rfl
  · unfold mNm; rw [e18, if_neg (by decide), pI_csI, cu2_ap, if_pos rfl, if_pos rfl]; rfl
theorem ge_of {w : Int32} {n : Nat} (hn : n < 2 ^ 31) (h : ¬ w < 0 → ¬ w < nI n) : w < 0 ∨ nI n ≤ w := by
  by_cases e : w < 0
  · exact Or.inl e
  · exact Or.inr (Int32.not_lt.mp (h e))
theorem cO_look {post : Int32 → CSt → Prop} {pX : String → CSt → Prop} {w : Int32} (h : CRep σ lab ad μ) (hI : MI μ j) (h1 : ∀ g : Nat, g < μ.1 22 → v = nI g → ∀ k : Nat, k < 5 → w = nI k → post (nI (μ.2.1 21 (7 * g + (k + 2)))) σ) (h2 : ∀ g : Nat, g < μ.1 22 → v = nI g → w.toInt < 0 ∨ 4 < w.toInt → pX "java/util/NoSuchElementException" σ) (h0 : (¬ v < 0 → ¬ v < nI (μ.1 22)) → pX "java/lang/IndexOutOfBoundsException" σ) : wpC_X7_look_0 post pX σ (ad 7 0) v w := by
  have hc := hI.cs
  refine ⟨fun e => h0 (fun g => absurd e g), fun e => ⟨h.x7, _, h.x.2.1.2.2.2.1, h.ls.2.2.2.1.1, sC_size h.ls.2.2.2.1 ⟨fun e2 => ⟨h.x7, _, h.x.2.1.2.2.2.1, h.ls.2.2.2.1.1, ?_⟩, fun e2 => h0 (fun _ => e2)⟩⟩⟩
  obtain ⟨g, hg, rfl⟩ := nI_of e
  rw [nI_ltI hg (by omega)] at e2
  have hl := h.gr e2
  refine sC_get h.ls.2.2.2.1 e2 ⟨_, rfl, hl.1.1, fun e => ⟨hl.1.1, ?_⟩, fun e => ⟨hl.1.1, ?_⟩, fun e => ⟨hl.1.1, ?_⟩, fun e => ⟨hl.1.1, ?_⟩, fun e => ⟨hl.1.1, ?_⟩, h2 g e2 rfl⟩
  · rw [hl.2.2.2.2.1]; exact h1 g e2 rfl 0 (by decide) e
  · rw [hl.2.2.2.2.2.1]; exact h1 g e2 rfl 1 (by decide) e
  · rw [hl.2.2.2.2.2.2.1]; exact h1 g e2 rfl 2 (by decide) e
  · rw [hl.2.2.2.2.2.2.2.1]; exact h1 g e2 rfl 3 (by decide) e
  · rw [hl.2.2.2.2.2.2.2.2.1]; exact h1 g e2 rfl 4 (by decide) e
theorem cO_row {post : Int32 → CSt → Prop} {pX : String → CSt → Prop} {w : Int32} (h : CRep σ lab ad μ) (hI : MI μ j) (h1 : ∀ l : Nat, l < μ.1 7 → v = nI l → ∀ k : Nat, k < μ.2.1 6 l → w = nI k → post (nI (μ.2.1 5 (60 * l + k))) σ) (h2 : ∀ l : Nat, l < μ.1 7 → v = nI l → (¬ w < 0 → ¬ w < nI (μ.2.1 6 l)) → post (-1) σ) (h0 : (¬ v < 0 → ¬ v < nI (μ.1 7)) → pX "java/lang/IndexOutOfBoundsException" σ) : wpC_X7_row_0 post pX σ (ad 7 0) v w := by
  have hc := hI.cs
  refine ⟨h.x7, sC_liftAt h (by omega) (fun l hl e => ⟨fun e2 => h2 l hl e (fun g => absurd e2 g), fun e2 => ⟨_, rfl, (h.li hl).1.1, _, (h.li hl).2.1, (h.ro hl).1, sC_size (h.ro hl) ⟨fun e3 => ⟨(h.li hl).1.1, _, (h.li hl).2.1, (h.ro hl).1, ?_⟩, fun e3 => h2 l hl e (fun _ => e3)⟩⟩⟩) h0⟩
  obtain ⟨k, hk, rfl⟩ := nI_of e2
  have hq := hI.qu l hl
  rw [nI_ltI hk (by omega)] at e3
  have hg := h.gr (hq.2 k e3).1
  refine sC_get (h.ro hl) e3 ⟨_, rfl, hg.1.1, hg.1.1, ?_⟩
  rw [hg.2.1]
  exact h1 l hl e k e3 rfl
theorem cO_want {post : CSt → Prop} {pX : String → CSt → Prop} {w : Int32} (h : CRep σ lab ad μ) (hI : MI μ j) (h1 : ∀ c : Nat, c < μ.1 14 → v = nI c → ∀ n : Nat, n ≤ 1000000 → w = nI n → ∀ σ', CRep σ' lab ad (m2 μ 12 c n) → post σ') (h2 : ∀ c : Nat, c < μ.1 14 → v = nI c → (¬ w < 0 → ¬ w ≤ 1000000) → pX "java/lang/IllegalArgumentException" σ) (h0 : (¬ v < 0 → ¬ v < nI (μ.1 14)) → pX "java/lang/IndexOutOfBoundsException" σ) : wpC_X7_want_0 post pX σ (ad 7 0) v w := by
  have hc := hI.cs
  refine ⟨h.x7, sC_cellAt h (by omega) (fun c hcl e => sC_num (fun a b => ?_) (h2 c hcl e)) h0⟩
  have hl := h.ce hcl
  obtain ⟨n, hn, rfl⟩ := nI_of2 (M := 1000000) (n := 1000000) rfl a b
  refine ⟨_, rfl, hl.1.1, ?_⟩
  rintro s5 rfl
  refine h1 c hcl e n hn rfl _ (h.setCe (l := c) (keep_csI hl.1.1 hl.1.2 18 _).s (fun _ => ?_) rfl (fun _ _ => rfl) (fun k hk => by funext q; show cu2 μ.2.1 12 c n k q = _; rw [cu2_ap, if_neg hk]) (fun q hq => ⟨by show cu2 μ.2.1 12 c n 12 q = _; rw [cu2_ap, if_pos rfl, if_neg hq], rfl⟩))
  refine ⟨hl.1, hl.2.1, hl.2.2.1, ?_, hl.2.2.2.2⟩
  rw [pI_csI, cu2_ap, if_pos rfl, if_pos rfl]; show _ = nI (cu2 μ.2.1 12 c n 12 c); rw [cu2_ap, if_pos rfl, if_pos rfl]
theorem cO_price {post : CSt → Prop} {pX : String → CSt → Prop} {w : Int32} (h : CRep σ lab ad μ) (hI : MI μ j) (h1 : ∀ c : Nat, c < μ.1 14 → v = nI c → ¬ w < -10000 → w ≤ 10000 → ∀ σ', CRep σ' lab ad (m3 μ 13 c w) → post σ') (h2 : ∀ c : Nat, c < μ.1 14 → v = nI c → (¬ w < -10000 → ¬ w ≤ 10000) → pX "java/lang/IllegalArgumentException" σ) (h0 : (¬ v < 0 → ¬ v < nI (μ.1 14)) → pX "java/lang/IndexOutOfBoundsException" σ) : wpC_X7_price_0 post pX σ (ad 7 0) v w := by
  have hc := hI.cs
  refine ⟨h.x7, sC_cellAt h (by omega) (fun c hcl e => sC_num (fun a b => ?_) (h2 c hcl e)) h0⟩
  have hl := h.ce hcl
  refine ⟨_, rfl, hl.1.1, ?_⟩
  rintro s5 rfl
  refine h1 c hcl e a b _ (h.setCe (l := c) (keep_csI hl.1.1 hl.1.2 19 _).s (fun _ => ?_) rfl (fun k hk => by funext q; show cu2 μ.2.2 13 c w k q = _; rw [cu2_ap, if_neg hk]) (fun _ _ => rfl) (fun q hq => ⟨rfl, by show cu2 μ.2.2 13 c w 13 q = _; rw [cu2_ap, if_pos rfl, if_neg hq]⟩))
  refine ⟨hl.1, hl.2.1, hl.2.2.1, hl.2.2.2.1, ?_⟩
  rw [pI_csI, cu2_ap, if_pos rfl, if_pos rfl]; show _ = cu2 μ.2.2 13 c w 13 c; rw [cu2_ap, if_pos rfl, if_pos rfl]
end CL
section RF
variable {ρ : RSt} {μ : MSt} {j : Nat} {v : Int32}
theorem rsI_0 {ρ : RSt} {w : Int32} : (rsI ρ 0 w).1 0 = w := rfl
theorem rO_fault {post : Int32 → RSt → Prop} (hR : RR ρ μ) (hp : ∀ ρ', RR ρ' μ → post (if v = 0 then μ.2.2 19 0 else if v = 1 then nI (μ.1 20) else -1) ρ') : wpR_fault_0 post ρ v := by
  rintro s1 rfl
  have hR' := hR.sI (k := 0) 0 (by unfold sc1; omega) (by decide)
  have hp := hp _ hR'
  refine ⟨fun e => ⟨fun e2 => ?_, fun e2 => ?_⟩, fun e => ?_⟩
  · rw [if_neg e, if_neg e2] at hp; exact hp
  · rw [if_neg e, if_pos e2] at hp; rw [hR'.s1 (k := 20) (by unfold sc1; omega)]; exact hp
  · rw [if_pos e] at hp; rw [hR'.2.2.1.2.2]; exact hp
theorem rO_wind {post : RSt → Prop} (hR : RR ρ μ) (h1 : ∀ n : Nat, n ≤ 300 → v = nI n → ∀ ρ', RR ρ' (m1 μ 27 n) → ρ'.1 0 = 0 → post ρ') (h0 : (¬ v < 0 → ¬ v ≤ 300) → ∀ ρ', RR ρ' μ → ρ'.1 0 = 1 → post ρ') : wpR_wind_0 post ρ v := by
  rintro s5 rfl
  have hR' := hR.sI (k := 0) 0 (by unfold sc1; omega) (by decide)
  refine sR_inI (lo := 0) (hi := 300) rfl rfl (fun a b => ⟨fun _ => sR_t0 ⟨fun _ => ?_, fun e => absurd rfl e⟩, fun e => absurd e (by decide)⟩) (fun a => ⟨fun e => absurd rfl e, fun _ => sR_t1 ⟨fun e => absurd e (by decide), fun _ => ?_⟩⟩)
  · rintro s4 rfl
    obtain ⟨n, hn, rfl⟩ := nI_of2 (M := 300) (n := 300) rfl a b
    exact h1 n hn rfl _ (hR'.u1 rfl (by decide) (by decide)) rfl
  · exact h0 a _ (hR'.sI 1 (by unfold sc1; omega) (by decide)) rfl
theorem sR_run {post : Int32 → RSt → Prop} {i : Nat} (hR : RR ρ μ) (hI : MI μ j) (hi : i < μ.1 7) (hp : post (if mRun μ i then 1 else 0) ρ) : wpR_isRunning_0 post ρ (nI i) := by
  have hb := hI.li i hi
  have hc := hI.cs
  have e4 := hR.s2 (k := 4) (i := i) (by unfold sc2; omega)
  have e3 := hR.s2 (k := 3) (i := 5 * i + 4) (by unfold sc2; omega)
  have e27 := hR.s1 (k := 27) (by unfold sc1; omega)
  have hx : (5 : Int32) * nI i + 4 = nI (5 * i + 4) := by rw [show (5 : Int32) = nI 5 from rfl, nI_mul, show (4 : Int32) = nI 4 from rfl, nI_add]
  unfold mRun at hp
  refine ⟨vp_in_nI (by omega) (by omega), fun e => ?_, fun e => ⟨?_, fun e2 => ?_, fun e2 => ?_⟩⟩
  · rw [nI_clamp (by omega), e4] at e
    have : ¬ μ.2.1 4 i = 0 := fun g => e (by rw [g]; rfl)
    simpa [this] using hp
  · rw [hx]; exact vp_in_nI (by omega) (by omega)
  · rw [hx, nI_clamp (by omega), e3, e27, nI_ltI (by omega) (by omega)] at e2
    simpa [show ¬ μ.1 27 ≤ μ.2.1 3 (5 * i + 4) by omega] using hp
  · rw [hx, nI_clamp (by omega), e3, e27, nI_ltI (by omega) (by omega)] at e2
    rw [nI_clamp (by omega), e4] at e
    have g : μ.2.1 4 i = 0 := by
      by_cases g : μ.2.1 4 i = 0
      · exact g
      · exact absurd e (nI_ne0 (by omega) (by omega))
    simpa [g, show μ.1 27 ≤ μ.2.1 3 (5 * i + 4) by omega] using hp
theorem rO_runs {post : Int32 → RSt → Prop} (hR : RR ρ μ) (hI : MI μ j) (h1 : ∀ i : Nat, i < μ.1 7 → v = nI i → ∀ ρ', RR ρ' μ → ρ'.1 0 = 0 → post (if mRun μ i then 1 else 0) ρ') (h0 : (¬ v < 0 → ¬ v < nI (μ.1 7)) → ∀ ρ', RR ρ' μ → ρ'.1 0 = 1 → post 0 ρ') : wpR_runs_0 post ρ v := by
  rintro s1 rfl
  have hR' := hR.sI (k := 0) 0 (by unfold sc1; omega) (by decide)
  have hc := hI.cs
  refine sR_noLift hR' (by omega) (fun i hi e => sR_t0 ⟨fun e => absurd rfl e, fun _ => ?_⟩) (fun a => sR_t1 ⟨fun _ => h0 a _ (hR'.sI 1 (by unfold sc1; omega) (by decide)) rfl, fun e => absurd e (by decide)⟩)
  have := h1 i hi e _ hR' rfl
  rw [e]
  refine sR_run hR' hI hi ?_
  cases hm : mRun μ i with
  | true => rw [hm] at this; exact ⟨fun e => absurd e (by decide), fun _ => this⟩
  | false => rw [hm] at this; exact ⟨fun _ => this, fun e => absurd rfl e⟩
theorem rO_stop {post : Int32 → RSt → Prop} {w : Nat} (hw : w ≤ 1) (hR : RR ρ μ) (hI : MI μ j) (h1 : ∀ i : Nat, i < μ.1 7 → v = nI i → ∀ ρ', RR ρ' (m2 μ 4 i w) → ρ'.1 0 = 0 → post (if μ.2.1 4 i = w then 0 else 1) ρ') (h0 : (¬ v < 0 → ¬ v < nI (μ.1 7)) → ∀ ρ', RR ρ' μ → ρ'.1 0 = 1 → post 0 ρ') : wpR_stop_0 post ρ v (nI w) := by
  rintro s1 rfl
  have hR' := hR.sI (k := 0) 0 (by unfold sc1; omega) (by decide)
  have hc := hI.cs
  refine sR_noLift hR' (by omega) (fun i hi e => sR_t0 ⟨fun _ => ?_, fun e => absurd rfl e⟩) (fun a => sR_t1 ⟨fun e => absurd e (by decide), fun _ => h0 a _ (hR'.sI 1 (by unfold sc1; omega) (by decide)) rfl⟩)
  have hb := hI.li i hi
  have e4 := hR'.s2 (k := 4) (i := i) (by unfold sc2; omega)
  have hh := h1 i hi e
  subst e
  rw [(bool_n rfl hw).2, nI_clamp (by omega)]
  refine ⟨vp_in_nI (by omega) (by omega), vp_in_nI (by omega) (by omega), ?_⟩
  rintro s7 rfl
  have hh := hh _ (hR'.u2 (k := 4) (i := i) (n := w) rfl (by decide) (by decide)) rfl
  refine ⟨fun e2 => ?_, fun e2 => ?_⟩
  · rw [e4, nI_eq (by omega) (by omega)] at e2
    rw [if_pos e2] at hh; exact hh
  · rw [e4, nI_eq (by omega) (by omega)] at e2
    rw [if_neg e2] at hh; exact hh
theorem rO_unrule {post : Int32 → RSt → Prop} (hR : RR ρ μ) (hI : MI μ j) (h1 : ∀ i : Nat, i < μ.1 9 → v = nI i → ∀ ρ', RR ρ' (m2 μ 18 i 0) → ρ'.1 0 = 0 → post (nI (μ.2.1 18 i)) ρ') (h0 : (¬ v < 0 → ¬ v < nI (μ.1 9)) → ∀ ρ', RR ρ' μ → ρ'.1 0 = 1 → post 0 ρ') : wpR_unrule_0 post ρ v := by
  rintro s1 rfl
  have hR' := hR.sI (k := 0) 0 (by unfold sc1; omega) (by decide)
  have hc := hI.cs
  refine sR_noSlope hR' (by omega) (fun i hi e => sR_t0 ⟨fun _ => ?_, fun e => absurd rfl e⟩) (fun a => sR_t1 ⟨fun e => absurd e (by decide), fun _ => h0 a _ (hR'.sI 1 (by unfold sc1; omega) (by decide)) rfl⟩)
  have hb := hI.sl i hi
  have e18 := hR'.s2 (k := 18) (i := i) (by unfold sc2; omega)
  have hh := h1 i hi e
  subst e
  rw [nI_clamp (by omega)]
  refine ⟨vp_in_nI (by omega) (by omega), vp_in_nI (by omega) (by omega), ?_⟩
  rintro s7 rfl
  rw [e18]
  exact ⟨(bool_n rfl (by omega)).1, hh _ (hR'.u2 (k := 18) (i := i) (n := 0) rfl (by decide) (by decide)) rfl⟩
theorem nI7 {g : Nat} {k : Nat} {q : Int32} (hq : q = nI k) : (7 : Int32) * nI g + q = nI (7 * g + k) := by rw [hq, show (7 : Int32) = nI 7 from rfl, nI_mul, nI_add]
theorem rO_look {post : Int32 → RSt → Prop} {w : Int32} (hR : RR ρ μ) (hI : MI μ j) (h1 : ∀ g : Nat, g < μ.1 22 → v = nI g → ∀ k : Nat, k < 5 → w = nI k → ∀ ρ', RR ρ' μ → ρ'.1 0 = 0 → post (nI (μ.2.1 21 (7 * g + (k + 2)))) ρ') (h2 : ∀ g : Nat, g < μ.1 22 → v = nI g → w.toInt < 0 ∨ 4 < w.toInt → ∀ ρ', RR ρ' μ → ρ'.1 0 = 2 → post 0 ρ') (h0 : (¬ v < 0 → ¬ v < nI (μ.1 22)) → ∀ ρ', RR ρ' μ → ρ'.1 0 = 1 → post 0 ρ') : wpR_look_0 post ρ v w := by
  rintro s1 rfl
  have hR' := hR.sI (k := 0) 0 (by unfold sc1; omega) (by decide)
  have hc := hI.cs
  refine sR_noGroup hR' (by omega) (fun g hg e => sR_t0 ⟨fun _ => ?_, fun e => absurd rfl e⟩) (fun a => sR_t1 ⟨fun e => absurd e (by decide), fun _ => h0 a _ (hR'.sI 1 (by unfold sc1; omega) (by decide)) rfl⟩)
  have hh := h1 g hg e
  have hh2 := h2 g hg e
  have hb := hI.gr g hg
  have ea : ∀ k : Nat, (rsI ρ 0 0).2.1 21 (7 * g + k) = nI (μ.2.1 21 (7 * g + k)) := fun k => hR'.s2 (k := 21) (by unfold sc2; omega)
  subst e
  rw [nI7 (q := 2) (k := 2) rfl, nI7 (q := 3) (k := 3) rfl, nI7 (q := 5) (k := 5) rfl, nI7 (q := 6) (k := 6) rfl, nI_clamp (by omega), nI_clamp (by omega), nI_clamp (by omega), nI_clamp (by omega), ea, ea, ea, ea]
  have e4 : ∀ q : Nat, w = nI 2 → q = μ.2.1 21 (7 * g + 4) → post (nI q) (rsI ρ 0 0) := fun q a b => by rw [b]; exact hh 2 (by decide) a _ hR' rfl
  refine ⟨fun e => ⟨vp_in_nI (by omega) (by omega), hh 0 (by decide) e _ hR' rfl⟩, fun e => ⟨vp_in_nI (by omega) (by omega), hh 1 (by decide) e _ hR' rfl⟩, fun e => ⟨vp_in_nI (by omega) (by omega), fun e2 => ?_, fun e2 => ⟨vp_in_nI (by omega) (by omega), fun e3 => ?_, fun e3 => ?_⟩⟩, fun e => ⟨vp_in_nI (by omega) (by omega), hh 3 (by decide) e _ hR' rfl⟩, fun e => ⟨vp_in_nI (by omega) (by omega), hh 4 (by decide) e _ hR' rfl⟩, fun e => ?_⟩
  · refine ⟨by rw [nI7 (q := 4) (k := 4) rfl]; exact vp_in_nI (by omega) (by omega), ?_⟩
    rw [nI7 (q := 4) (k := 4) rfl, nI_clamp (by omega), ea]
    exact e4 _ e rfl
  · rw [show (3 : Int32) = nI 3 from rfl, nI_eq (by omega) (by omega)] at e3
    rw [show (2 : Int32) = nI 2 from rfl, nI_eq (by omega) (by omega)] at e2
    exact e4 0 e (by omega)
  · refine ⟨by rw [nI7 (q := 4) (k := 4) rfl]; exact vp_in_nI (by omega) (by omega), ?_⟩
    rw [nI7 (q := 4) (k := 4) rfl, nI_clamp (by omega), ea]
    exact e4 _ e rfl
  · rintro s7 rfl
    exact hh2 e _ (hR'.sI 2 (by unfold sc1; omega) (by decide)) rfl
theorem rO_row {post : Int32 → RSt → Prop} {w : Int32} (hR : RR ρ μ) (hI : MI μ j) (h1 : ∀ l : Nat, l < μ.1 7 → v = nI l → ∀ k : Nat, k < μ.2.1 6 l → w = nI k → ∀ ρ', RR ρ' μ → ρ'.1 0 = 0 → post (nI (μ.2.1 5 (60 * l + k))) ρ') (h2 : ∀ l : Nat, l < μ.1 7 → v = nI l → (¬ w < 0 → ¬ w < nI (μ.2.1 6 l)) → ∀ ρ', RR ρ' μ → ρ'.1 0 = 0 → post (-1) ρ') (h0 : (¬ v < 0 → ¬ v < nI (μ.1 7)) → ∀ ρ', RR ρ' μ → ρ'.1 0 = 1 → post 0 ρ') : wpR_row_0 post ρ v w := by
  rintro s1 rfl
  have hR' := hR.sI (k := 0) 0 (by unfold sc1; omega) (by decide)
  have hc := hI.cs
  refine sR_noLift hR' (by omega) (fun l hl e => sR_t0 ⟨fun _ => ⟨fun e2 => h2 l hl e (fun g => absurd e2 g) _ hR' rfl, fun e2 => ?_⟩, fun e => absurd rfl e⟩) (fun a => sR_t1 ⟨fun e => absurd e (by decide), fun _ => h0 a _ (hR'.sI 1 (by unfold sc1; omega) (by decide)) rfl⟩)
  have hh := h1 l hl e
  have hh2 := h2 l hl e
  have hq := hI.qu l hl
  have e6 := hR'.s2 (k := 6) (i := l) (by unfold sc2; omega)
  subst e
  rw [nI_clamp (by omega), e6]
  refine ⟨vp_in_nI (by omega) (by omega), fun e3 => ?_, fun e3 => hh2 (fun _ => e3) _ hR' rfl⟩
  obtain ⟨k, hk, rfl⟩ := nI_of e2
  rw [nI_ltI hk (by omega)] at e3
  rw [show (60 : Int32) = nI 60 from rfl, nI_mul, nI_add, nI_clamp (by omega), hR'.s2 (k := 5) (i := 60 * l + k) (by unfold sc2; omega)]
  exact ⟨vp_in_nI (by omega) (by omega), hh k e3 rfl _ hR' rfl⟩
theorem rO_want {post : RSt → Prop} {w : Int32} (hR : RR ρ μ) (hI : MI μ j) (h1 : ∀ c : Nat, c < μ.1 14 → v = nI c → ∀ n : Nat, n ≤ 1000000 → w = nI n → ∀ ρ', RR ρ' (m2 μ 12 c n) → ρ'.1 0 = 0 → post ρ') (h2 : ∀ c : Nat, c < μ.1 14 → v = nI c → (¬ w < 0 → ¬ w ≤ 1000000) → ∀ ρ', RR ρ' μ → ρ'.1 0 = 2 → post ρ') (h0 : (¬ v < 0 → ¬ v < nI (μ.1 14)) → ∀ ρ', RR ρ' μ → ρ'.1 0 = 1 → post ρ') : wpR_want_0 post ρ v w := by
  rintro s1 rfl
  have hR' := hR.sI (k := 0) 0 (by unfold sc1; omega) (by decide)
  have hc := hI.cs
  refine sR_noCell hR' (by omega) (fun c hcl e => sR_t0 ⟨fun e => absurd rfl e, fun _ => ?_⟩) (fun a => sR_t1 ⟨fun _ => h0 a _ (hR'.sI 1 (by unfold sc1; omega) (by decide)) rfl, fun e => absurd e (by decide)⟩)
  refine sR_inI (lo := 0) (hi := 1000000) rfl rfl (fun a b => ⟨fun _ => sR_t0 ⟨fun _ => ?_, fun e => absurd rfl e⟩, fun e => absurd e (by decide)⟩) (fun a => ⟨fun e => absurd rfl e, fun _ => sR_t1 ⟨fun e => absurd e (by decide), fun _ => h2 c hcl e a _ (hR'.sI 2 (by unfold sc1; omega) (by decide)) rfl⟩⟩)
  obtain ⟨n, hn, rfl⟩ := nI_of2 (M := 1000000) (n := 1000000) rfl a b
  have hh := h1 c hcl e n hn rfl
  subst e
  refine ⟨vp_in_nI (by omega) (by omega), ?_⟩
  rintro s4 rfl
  rw [nI_clamp (by omega)]
  exact hh _ (hR'.u2 rfl (by decide) (by decide)) rfl
theorem rO_price {post : RSt → Prop} {w : Int32} (hR : RR ρ μ) (hI : MI μ j) (h1 : ∀ c : Nat, c < μ.1 14 → v = nI c → ¬ w < -10000 → w ≤ 10000 → ∀ ρ', RR ρ' (m3 μ 13 c w) → ρ'.1 0 = 0 → post ρ') (h2 : ∀ c : Nat, c < μ.1 14 → v = nI c → (¬ w < -10000 → ¬ w ≤ 10000) → ∀ ρ', RR ρ' μ → ρ'.1 0 = 2 → post ρ') (h0 : (¬ v < 0 → ¬ v < nI (μ.1 14)) → ∀ ρ', RR ρ' μ → ρ'.1 0 = 1 → post ρ') : wpR_price_0 post ρ v w := by
  rintro s1 rfl
  have hR' := hR.sI (k := 0) 0 (by unfold sc1; omega) (by decide)
  have hc := hI.cs
  refine sR_noCell hR' (by omega) (fun c hcl e => sR_t0 ⟨fun e => absurd rfl e, fun _ => ?_⟩) (fun a => sR_t1 ⟨fun _ => h0 a _ (hR'.sI 1 (by unfold sc1; omega) (by decide)) rfl, fun e => absurd e (by decide)⟩)
  refine sR_inI (lo := -10000) (hi := 10000) rfl rfl (fun a b => ⟨fun _ => sR_t0 ⟨fun _ => ?_, fun e => absurd rfl e⟩, fun e => absurd e (by decide)⟩) (fun a => ⟨fun e => absurd rfl e, fun _ => sR_t1 ⟨fun e => absurd e (by decide), fun _ => h2 c hcl e a _ (hR'.sI 2 (by unfold sc1; omega) (by decide)) rfl⟩⟩)
  have hh := h1 c hcl e a b
  subst e
  refine ⟨vp_in_nI (by omega) (by omega), ?_⟩
  rintro s4 rfl
  rw [nI_clamp (by omega)]
  exact hh _ (hR'.u3 w (Or.inr rfl)) rfl
end RF
end
