section
/-! calls: count, judge, feed -/
theorem i0cl : (0 : Int32).toNatClampNeg = 0 := rfl
def mDepS (μ : MSt) (n : Nat) : Nat := sumN (fun c => mDep μ c) n
def mCount (μ : MSt) (v : Int32) : Int64 := if v = 0 then (nI (μ.1 7)).toInt64 else if v = 1 then (nI (μ.1 9)).toInt64 else if v = 2 then (nI (μ.1 14)).toInt64 else if v = 3 then (nI (μ.1 22)).toInt64 else if v = 4 then (nI (μ.1 28)).toInt64 else if v = 5 then (nI (μ.1 26)).toInt64 else if v = 6 then (nI (μ.1 27)).toInt64 else if v = 7 then lN (μ.1 50) else if v = 8 then lN (μ.1 51) else if v = 9 then lN (μ.1 52) else if v = 10 then lN (mDepS μ (μ.1 14)) else if v = 11 then lN (μ.1 54) else -1
theorem mCount_out {μ : MSt} {v : Int32} (h : v.toInt < 0 ∨ 11 < v.toInt) : mCount μ v = -1 := by
  have hk : ∀ k : Int32, 0 ≤ k.toInt → k.toInt ≤ 11 → ¬ v = k := by intro k a b e; subst e; omega
  unfold mCount
  rw [if_neg (hk 0 (by decide) (by decide)), if_neg (hk 1 (by decide) (by decide)), if_neg (hk 2 (by decide) (by decide)), if_neg (hk 3 (by decide) (by decide)), if_neg (hk 4 (by decide) (by decide)), if_neg (hk 5 (by decide) (by decide)), if_neg (hk 6 (by decide) (by decide)), if_neg (hk 7 (by decide) (by decide)), if_neg (hk 8 (by decide) (by decide)), if_neg (hk 9 (by decide) (by decide)), if_neg (hk 10 (by decide) (by decide)), if_neg (hk 11 (by decide) (by decide))]
theorem mDep_lt {μ : MSt} {j c : Nat} (hI : MI μ j) (hj : j ≤ 512) (hc : c < μ.1 14) : mDep μ c ≤ 51200000 := by
  have := hI.sn c hc
  unfold mDep
  omega
section CN
variable {σ : CSt} {lab : Nat → Nat} {ad : Nat → Nat → Nat} {ρ : RSt} {μ : MSt} {j : Nat} {v : Int32}
theorem cO_count {post : Int64 → CSt → Prop} (h : CRep σ lab ad μ) (hI : MI μ j) (hj : j ≤ 512) (hp : post (mCount μ v) σ) : wpC_X7_count_0 post σ (ad 7 0) v := by
  have hc := hI.cs
  refine ⟨fun e => ⟨h.x7, _, h.x.2.1.1, h.ls.1.1, sC_size h.ls.1 (by subst e; exact hp)⟩, fun e => ⟨h.x7, _, h.x.2.1.2.1, h.ls.2.1.1, sC_size h.ls.2.1 (by subst e; exact hp)⟩, fun e => ⟨h.x7, _, h.x.2.1.2.2.1, h.ls.2.2.1.1, sC_size h.ls.2.2.1 (by subst e; exact hp)⟩, fun e => ⟨h.x7, _, h.x.2.1.2.2.2.1, h.ls.2.2.2.1.1, sC_size h.ls.2.2.2.1 (by subst e; exact hp)⟩, fun e => ⟨h.x7, ?_⟩, fun e => ⟨h.x7, _, h.x.2.1.2.2.2.2.1, h.ls.2.2.2.2.1, sC_size h.ls.2.2.2.2 (by subst e; exact hp)⟩, fun e => ⟨h.x7, ?_⟩, fun e => ⟨h.x7, ?_⟩, fun e => ⟨h.x7, ?_⟩, fun e => ⟨h.x7, ?_⟩, fun e => ⟨h.x7, ?_⟩, fun e => ⟨h.x7, ?_⟩, fun e => by rw [mCount_out e] at hp; exact hp⟩
  · rw [h.x.2.2.2.2.1]; subst e; exact hp
  · rw [h.x.2.2.2.1]; subst e; exact hp
  · rw [h.x.2.2.2.2.2.2.2.1]; subst e; exact hp
  · rw [h.x.2.2.2.2.2.2.2.2.1]; subst e; exact hp
  · rw [h.x.2.2.2.2.2.2.2.2.2.1]; subst e; exact hp
  · subst e
    refine gLP.up (μ.1 14) (fun k (x : CSt × Nat × Int64 × Int32) => k ≤ μ.1 14 ∧ x = (σ, ad 7 0, lN (mDepS μ k), nI k)) (fun k x h => h.1) ?_ (j := 0) ⟨Nat.zero_le _, rfl⟩
    rintro k x P ⟨hk, rfl⟩ hP
    refine ⟨h.x7, _, h.x.2.1.2.2.1, h.ls.2.2.1.1, sC_size h.ls.2.2.1 ⟨fun e => ?_, fun e => ?_⟩⟩
    · rw [nI_leI (by omega) (by omega)] at e
      obtain rfl : k = μ.1 14 := by omega
      exact hp
    · rw [nI_leI (by omega) (by omega)] at e
      refine ⟨h.x7, _, h.x.2.1.2.2.1, h.ls.2.2.1.1, sC_get h.ls.2.2.1 (by omega) ⟨_, rfl, (h.ce (i := k) (by omega)).1.1, (h.ce (i := k) (by omega)).1.1, sC_depth h (by omega) (hP _ ⟨by omega, ?_⟩)⟩⟩
      rw [nI_l (by have := mDep_lt hI hj (c := k) (by omega); omega), lN_add, nI_1]; rfl
  · rw [h.x.2.2.2.2.2.2.2.2.2.2]; subst e; exact hp
theorem rO_count {post : Int64 → RSt → Prop} (hR : RR ρ μ) (hI : MI μ j) (hj : j ≤ 512) (hp : ∀ ρ', RR ρ' μ → post (mCount μ v) ρ') : wpR_count_0 post ρ v := by
  rintro s1 rfl
  have hR' := hR.sI (k := 0) 0 (by unfold sc1; omega) (by decide)
  have hp := hp _ hR'
  have hc := hI.cs
  refine ⟨fun e => ?_, fun e => ?_, fun e => ?_, fun e => ?_, fun e => ?_, fun e => ?_, fun e => ?_, fun e => ⟨vp_in_nI (n := 0) (by omega) (by omega), ?_⟩, fun e => ⟨vp_in_nI (n := 1) (by omega) (by omega), ?_⟩, fun e => ⟨vp_in_nI (n := 2) (by omega) (by omega), ?_⟩, fun e => ?_, fun e => ⟨vp_in_nI (n := 4) (by omega) (by omega), ?_⟩, fun e => by rw [mCount_out e] at hp; exact hp⟩
  · subst e; rw [hR'.s1 (k := 7) (by unfold sc1; omega)]; exact hp
  · subst e; rw [hR'.s1 (k := 9) (by unfold sc1; omega)]; exact hp
  · subst e; rw [hR'.s1 (k := 14) (by unfold sc1; omega)]; exact hp
  · subst e; rw [hR'.s1 (k := 22) (by unfold sc1; omega)]; exact hp
  · subst e; rw [hR'.s1 (k := 28) (by unfold sc1; omega)]; exact hp
  · subst e; rw [hR'.s1 (k := 26) (by unfold sc1; omega)]; exact hp
  · subst e; rw [hR'.s1 (k := 27) (by unfold sc1; omega)]; exact hp
  · subst e; rw [show (0 : Int32).toNatClampNeg = 0 from rfl, hR'.2.2.2 0 (by omega)]; exact hp
  · subst e; rw [show (1 : Int32).toNatClampNeg = 1 from rfl, hR'.2.2.2 1 (by omega)]; exact hp
  · subst e; rw [show (2 : Int32).toNatClampNeg = 2 from rfl, hR'.2.2.2 2 (by omega)]; exact hp
  · subst e
    have e14 := hR'.s1 (k := 14) (by unfold sc1; omega)
    refine gLP.up (μ.1 14) (fun k (x : RSt × Int64 × Int32) => k ≤ μ.1 14 ∧ x = (rsI ρ 0 0, lN (mDepS μ k), nI k)) (fun k x h => h.1) ?_ (j := 0) ⟨Nat.zero_le _, rfl⟩
    rintro k x P ⟨hk, rfl⟩ hP
    dsimp only
    unfold wpR_count_136_F
    rw [e14]
    refine ⟨fun e => ?_, fun e => ?_⟩
    · rw [nI_leI (by omega) (by omega)] at e
      obtain rfl : k = μ.1 14 := by omega
      exact hp
    · rw [nI_leI (by omega) (by omega)] at e
      refine sR_depth hR' (by omega) (hP _ ⟨by omega, ?_⟩)
      rw [nI_l (by have := mDep_lt hI hj (c := k) (by omega); omega), lN_add, nI_1]; rfl
  · subst e; rw [show (4 : Int32).toNatClampNeg = 4 from rfl, hR'.2.2.2 4 (by omega)]; exact hp
/-! judge -/
def mTk (μ : MSt) (k : Nat) : Prop := ¬ (nI (μ.2.1 25 k) < (if 0 ≤ (μ.2.2 13 (μ.2.1 23 k) - μ.2.2 13 (μ.2.1 24 k)) then (μ.2.2 13 (μ.2.1 23 k) - μ.2.2 13 (μ.2.1 24 k)) else 0 - (μ.2.2 13 (μ.2.1 23 k) - μ.2.2 13 (μ.2.1 24 k))))
def mTell (μ : MSt) (c : Nat) : Int64 := if 0 ≤ lg_cmp ((nI (μ.2.1 12 c)).toInt64 - (nI (mDep μ c)).toInt64) 0 ∨ 0 < μ.2.2 13 c then ((nI (μ.2.1 12 c)).toInt64 - (nI (mDep μ c)).toInt64) * (μ.2.2 13 c).toInt64 else 0
def mJud (μ : MSt) : Nat → Int64
  | 0 => 0
  | n + 1 => mJud μ n + mTell μ n
theorem cO_judge {post : Int64 → CSt → Prop} {pX : String → CSt → Prop} (h : CRep σ lab ad μ) (hI : MI μ j) (h1 : (∀ k : Nat, k < μ.1 26 → mTk μ k) → post (mJud μ (μ.1 14)) σ) (h0 : ¬ (∀ k : Nat, k < μ.1 26 → mTk μ k) → pX "java/lang/IllegalStateException" σ) : wpC_X7_judge_0 post pX σ (ad 7 0) := by
  have hc := hI.cs
  refine gLP.up (μ.1 26) (fun k (x : CSt × Nat × Int32) => k ≤ μ.1 26 ∧ (∀ i : Nat, i < k → mTk μ i) ∧ x = (σ, ad 7 0, nI k)) (fun k x h => h.1) ?_ (j := 0) ⟨Nat.zero_le _, fun i hi => absurd hi (Nat.not_lt_zero _), rfl⟩
  rintro k x P ⟨hk, hg, rfl⟩ hP
  refine ⟨h.x7, _, h.x.2.1.2.2.2.2.1, h.ls.2.2.2.2.1, sC_size h.ls.2.2.2.2 ⟨fun e => ?_, fun e => ?_⟩⟩
  · rw [nI_leI (by omega) (by omega)] at e
    obtain rfl : k = μ.1 26 := by omega
    have h1 := h1 hg
    refine gLP.up (μ.1 14) (fun k (x : CSt × Nat × Int64 × Int32) => k ≤ μ.1 14 ∧ x = (σ, ad 7 0, mJud μ k, nI k)) (fun k x h => h.1) ?_ (j := 0) ⟨Nat.zero_le _, rfl⟩
    rintro k x P ⟨hk, rfl⟩ hP
    refine ⟨h.x7, _, h.x.2.1.2.2.1, h.ls.2.2.1.1, sC_size h.ls.2.2.1 ⟨fun e => ?_, fun e => ?_⟩⟩
    · rw [nI_leI (by omega) (by omega)] at e
      obtain rfl : k = μ.1 14 := by omega
      exact h1
    · rw [nI_leI (by omega) (by omega)] at e
      have hce := h.ce (i := k) (by omega)
      have hP : ∀ y : Int64, y = mTell μ k → P (σ, ad 7 0, mJud μ k + y, nI k + 1) := fun y ey => hP _ ⟨by omega, by rw [nI_1, ey]; rfl⟩
      refine ⟨h.x7, _, h.x.2.1.2.2.1, h.ls.2.2.1.1, sC_get h.ls.2.2.1 (by omega) ⟨_, rfl, hce.1.1, hce.1.1, hce.1.1, hce.1.1, sC_depth h (by omega) ?_⟩⟩
      rw [hce.2.2.2.1, hce.2.2.2.2]
      unfold mTell at hP
      refine ⟨fun e2 => ⟨hce.1.1, ?_⟩, fun e2 => ⟨hce.1.1, fun e3 => ⟨hce.1.1, ?_⟩, fun e3 => ?_⟩⟩
      · rw [hce.2.2.2.2]; exact hP _ (by rw [if_pos (Or.inl e2)])
      · rw [hce.2.2.2.2]; exact hP _ (by rw [if_pos (Or.inr e3)])
      · exact hP _ (by rw [if_neg (fun e => e.elim e2 e3)])
  · rw [nI_leI (by omega) (by omega)] at e
    have hl := h.lk (i := k) (by omega)
    have hb := hI.lk k (by omega)
    have ha := h.ce hb.1
    have hb := h.ce hb.2.1
    refine ⟨h.x7, _, h.x.2.1.2.2.2.2.1, h.ls.2.2.2.2.1, sC_get h.ls.2.2.2.2 (by omega) ⟨_, rfl, hl.1.1, hl.1.1, hl.1.1, _, hl.2.1, ha.1.1, hl.1.1, _, hl.2.2.1, hb.1.1, ?_⟩⟩
    rw [ha.2.2.2.2, hb.2.2.2.2]
    rintro x3 rfl
    rw [hl.2.2.2]
    refine ⟨hl.1.1, fun e2 => ⟨fun e3 => absurd rfl e3, fun _ => h0 (fun hh => hh k (by omega) e2)⟩, fun e2 => ⟨fun _ => hP _ ⟨by omega, fun i hi => ?_, by rw [nI_1]⟩, fun e3 => absurd e3 (by decide)⟩⟩
    by_cases ei : i = k
    · subst ei; exact e2
    · exact hg i (by omega)
theorem rO_judge {post : Int64 → RSt → Prop} (hR : RR ρ μ) (hI : MI μ j) (hj : j ≤ 512) (h1 : (∀ k : Nat, k < μ.1 26 → mTk μ k) → ∀ ρ', RR ρ' μ → ρ'.1 0 = 0 → post (mJud μ (μ.1 14)) ρ') (h0 : ¬ (∀ k : Nat, k < μ.1 26 → mTk μ k) → ∀ ρ', RR ρ' μ → ρ'.1 0 = 1 → post 0 ρ') : wpR_judge_0 post ρ := by
  have hc := hI.cs
  rintro s1 rfl
  have hR' := hR.sI (k := 0) 0 (by unfold sc1; omega) (by decide)
  have e26 := hR'.s1 (k := 26) (by unfold sc1; omega)
  have e14 := hR'.s1 (k := 14) (by unfold sc1; omega)
  have hsum : (∀ k : Nat, k < μ.1 26 → mTk μ k) → wpR_judge_92 post (rsI ρ 0 0) 0 0 := by
    intro hg
    have h1 := h1 hg _ hR' rfl
    refine gLP.up (μ.1 14) (fun k (x : RSt × Int64 × Int32) => k ≤ μ.1 14 ∧ x = (rsI ρ 0 0, mJud μ k, nI k)) (fun k x h => h.1) ?_ (j := 0) ⟨Nat.zero_le _, rfl⟩
    rintro k x P ⟨hk, rfl⟩ hP
    dsimp only
    unfold wpR_judge_92_F
    rw [e14]
    refine ⟨fun e => ?_, fun e => ?_⟩
    · rw [nI_leI (by omega) (by omega)] at e
      obtain rfl : k = μ.1 14 := by omega
      exact h1
    · rw [nI_leI (by omega) (by omega)] at e
      have hd := mDep_lt hI hj (c := k) (by omega)
      have hw := hI.wt k (by omega)
      refine sR_depth hR' (by omega) ⟨vp_in_nI (by omega) (by omega), ?_⟩
      rw [nI_clamp (by omega), hR'.s2 (k := 12) (by unfold sc2; omega), hR'.2.2.1.2.1]
      have tD := nI_toInt (n := mDep μ k) (by omega)
      have tW := nI_toInt (n := μ.2.1 12 k) (by omega)
      have tB : (nI (mDep μ k) - nI (μ.2.1 12 k)).toInt = (mDep μ k : Int) - (μ.2.1 12 k : Int) := by rw [i32_sub (by omega) (by omega), tD, tW]
      have lD := lN_toInt (n := mDep μ k) (by omega)
      have lW := lN_toInt (n := μ.2.1 12 k) (by omega)
      have eB : (nI (mDep μ k) - nI (μ.2.1 12 k)).toInt64 = (nI (mDep μ k)).toInt64 - (nI (μ.2.1 12 k)).toInt64 := by
        apply Int64.toInt_inj.mp
        rw [Int32.toInt_toInt64, Int64.toInt_sub, Int32.toInt_toInt64, Int32.toInt_toInt64, tB, tD, tW]
        exact (Int.bmod_eq_of_le (by omega) (by omega)).symm
      have eN : (nI (μ.2.1 12 k)).toInt64 - (nI (mDep μ k)).toInt64 = -((nI (mDep μ k)).toInt64 - (nI (μ.2.1 12 k)).toInt64) := (Int64.neg_sub).symm
      have tA : ((nI (μ.2.1 12 k)).toInt64 - (nI (mDep μ k)).toInt64).toInt = (μ.2.1 12 k : Int) - (mDep μ k : Int) := by
        rw [Int64.toInt_sub, Int32.toInt_toInt64, Int32.toInt_toInt64, tD, tW]
        exact Int.bmod_eq_of_le (by omega) (by omega)
      have hA : 0 ≤ lg_cmp ((nI (μ.2.1 12 k)).toInt64 - (nI (mDep μ k)).toInt64) 0 ↔ mDep μ k ≤ μ.2.1 12 k := by
        rw [← Int32.not_lt, lgc_lt, Int64.lt_iff_toInt_lt, tA, show (0 : Int64).toInt = 0 from rfl]; omega
      have hB : lg_cmp (nI (mDep μ k) - nI (μ.2.1 12 k)).toInt64 0 < 0 ↔ mDep μ k < μ.2.1 12 k := by
        rw [lgc_lt, Int64.lt_iff_toInt_lt, Int32.toInt_toInt64, tB, show (0 : Int64).toInt = 0 from rfl]; omega
      have hP : ∀ y : Int64, y = mJud μ k + mTell μ k → P (rsI ρ 0 0, y, nI k + 1) := fun y ey => hP _ ⟨by omega, by rw [nI_1, ey]; rfl⟩
      have hM : mJud μ k - (nI (mDep μ k) - nI (μ.2.1 12 k)).toInt64 * (μ.2.2 13 k).toInt64 = mJud μ k + ((nI (μ.2.1 12 k)).toInt64 - (nI (mDep μ k)).toInt64) * (μ.2.2 13 k).toInt64 := by
        rw [eB, eN, Int64.neg_mul, Int64.sub_eq_add_neg]
      have hI2 : wpR_judge_136 post (fun s v2 v4 => P (s, v2, v4)) (rsI ρ 0 0) (nI k) ((nI (mDep μ k) - nI (μ.2.1 12 k)).toInt64) (mJud μ k) ↔ (vp_in (nI k) 40 ∧ P (rsI ρ 0 0, mJud μ k - (nI (mDep μ k) - nI (μ.2.1 12 k)).toInt64 * (μ.2.2 13 k).toInt64, nI k + 1)) := by
        unfold wpR_judge_136 wpR_judge_151
        rw [nI_clamp (by omega), hR'.2.2.1.2.1]
      rw [hI2, hB]
      unfold mTell at hP
      refine ⟨fun e2 => ⟨vp_in_nI (by omega) (by omega), hP _ ?_⟩, fun e2 => ⟨vp_in_nI (by omega) (by omega), fun e3 => hP _ ?_, fun e3 => ⟨vp_in_nI (by omega) (by omega), hP _ ?_⟩⟩⟩
      · rw [hM, if_pos (Or.inl (hA.mpr (by omega)))]
      · by_cases e4 : mDep μ k ≤ μ.2.1 12 k
        · rw [if_pos (Or.inl (hA.mpr e4))]
          have : mDep μ k = μ.2.1 12 k := by omega
          rw [this, Int64.sub_self, Int64.zero_mul, Int64.sub_zero, Int64.add_zero]
        · rw [if_neg (fun e => e.elim (fun g => e4 (hA.mp g)) (fun g => absurd g (Int32.not_lt.mpr e3))), Int64.sub_zero, Int64.add_zero]
      · rw [hM, if_pos (Or.inr (Int32.not_le.mp e3))]
  refine gLP.up (μ.1 26) (fun k (x : RSt × Int32 × Int32) => k ≤ μ.1 26 ∧ ∃ v1 : Int32, x = (rsI ρ 0 0, v1, nI k) ∧ ((v1 = 1 ∧ ∀ i : Nat, i < k → mTk μ i) ∨ (v1 = 0 ∧ ¬ ∀ i : Nat, i < k → mTk μ i))) (fun k x h => h.1) ?_ (j := 0) ⟨Nat.zero_le _, 1, rfl, Or.inl ⟨rfl, fun i hi => absurd hi (Nat.not_lt_zero _)⟩⟩
  rintro k x P ⟨hk, v1, rfl, hv⟩ hP
  dsimp only
  unfold wpR_judge_9_F
  rw [e26]
  refine ⟨fun e => ?_, fun e => ?_⟩
  · rw [nI_leI (by omega) (by omega)] at e
    obtain rfl : k = μ.1 26 := by omega
    refine ⟨fun e2 => sR_t0 ⟨fun _ => ?_, fun e => absurd rfl e⟩, fun e2 => sR_t1 ⟨fun e => absurd e (by decide), fun _ => ?_⟩⟩
    · rcases hv with ⟨-, hg⟩ | ⟨e3, -⟩
      · exact hsum hg
      · exact absurd e3 e2
    · rcases hv with ⟨e3, -⟩ | ⟨-, hg⟩
      · rw [e2] at e3; exact absurd e3 (by decide)
      · exact h0 hg _ (hR'.sI 1 (by unfold sc1; omega) (by decide)) rfl
  · rw [nI_leI (by omega) (by omega)] at e
    have hb := hI.lk k (by omega)
    refine ⟨fun e2 => ?_, fun e2 => ?_⟩
    · refine hP _ ⟨by omega, 0, by rw [nI_1], Or.inr ⟨rfl, fun hh => ?_⟩⟩
      rcases hv with ⟨e3, -⟩ | ⟨-, hg⟩
      · rw [e2] at e3; exact absurd e3 (by decide)
      · exact hg (fun i hi => hh i (by omega))
    · have hg : ∀ i : Nat, i < k → mTk μ i := by
        rcases hv with ⟨-, hg⟩ | ⟨e3, -⟩
        · exact hg
        · exact absurd e3 e2
      rw [nI_clamp (by omega), hR'.s2 (k := 23) (by unfold sc2; omega), hR'.s2 (k := 24) (by unfold sc2; omega), hR'.s2 (k := 25) (by unfold sc2; omega), nI_clamp (by omega), nI_clamp (by omega), hR'.2.2.1.2.1, hR'.2.2.1.2.1]
      refine ⟨vp_in_nI (by omega) (by omega), vp_in_nI (by omega) (by omega), vp_in_nI (by omega) (by omega), vp_in_nI (by omega) (by omega), ?_⟩
      rintro x12 rfl
      refine ⟨vp_in_nI (by omega) (by omega), fun e3 => hP _ ⟨by omega, 0, by rw [nI_1], Or.inr ⟨rfl, fun hh => hh k (by omega) e3⟩⟩, fun e3 => hP _ ⟨by omega, 1, by rw [nI_1], Or.inl ⟨rfl, fun i hi => ?_⟩⟩⟩
      by_cases ei : i = k
      · subst ei; exact e3
      · exact hg i (by omega)
end CN
end
