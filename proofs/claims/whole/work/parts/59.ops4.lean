section
/-! the reference: snow, melt, push, cell; both: people, count -/
section RF
variable {ρ : RSt} {μ : MSt} {j : Nat} {v : Int32}
theorem nI4 {g : Nat} {k : Nat} {q : Int32} (hq : q = nI k) : (4 : Int32) * nI g + q = nI (4 * g + k) := by rw [hq, show (4 : Int32) = nI 4 from rfl, nI_mul, nI_add]
theorem sR_depth {post : Int32 → RSt → Prop} {c : Nat} (hR : RR ρ μ) (hc : c < 40) (hp : post (nI (mDep μ c)) ρ) : wpR_depth_0 post ρ (nI c) := by
  have e : ∀ k : Nat, ρ.2.1 10 (4 * c + k) = nI (μ.2.1 10 (4 * c + k)) := fun k => hR.s2 (k := 10) (by unfold sc2; omega)
  have e0 : (4 : Int32) * nI c = nI (4 * c) := by rw [show (4 : Int32) = nI 4 from rfl, nI_mul]
  unfold wpR_depth_0
  rw [nI4 (q := 1) (k := 1) rfl, nI4 (q := 2) (k := 2) rfl, nI4 (q := 3) (k := 3) rfl, e0, nI_clamp (by omega), nI_clamp (by omega), nI_clamp (by omega), nI_clamp (by omega), show ρ.2.1 10 (4 * c) = nI (μ.2.1 10 (4 * c)) from e 0, e, e, e, nI_add, nI_add, nI_add]
  exact ⟨vp_in_nI (by omega) (by omega), vp_in_nI (by omega) (by omega), vp_in_nI (by omega) (by omega), vp_in_nI (by omega) (by omega), hp⟩
theorem rO_snow {post : Int32 → RSt → Prop} {w u : Int32} (hR : RR ρ μ) (hI : MI μ j) (h1 : ∀ c : Nat, c < μ.1 14 → v = nI c → ∀ n : Nat, n ≤ 100000 → w = nI n → ∀ k : Nat, k = (if u = 0 then 0 else 1) → ∀ ρ' μ', μ' = m2 (m1 μ (50 + k) (μ.1 (50 + k) + n)) 10 (4 * c + k) (μ.2.1 10 (4 * c + k) + n) → RR ρ' μ' → ρ'.1 0 = 0 → post (nI (mDep μ' c)) ρ') (h2 : ∀ c : Nat, c < μ.1 14 → v = nI c → (¬ w < 0 → ¬ w ≤ 100000) → ∀ ρ', RR ρ' μ → ρ'.1 0 = 2 → post 0 ρ') (h0 : (¬ v < 0 → ¬ v < nI (μ.1 14)) → ∀ ρ', RR ρ' μ → ρ'.1 0 = 1 → post 0 ρ') : wpR_snow_0 post ρ v u w := by
  rintro s1 rfl
  have hR' := hR.sI (k := 0) 0 (by unfold sc1; omega) (by decide)
  have hc := hI.cs
  refine sR_noCell hR' (by omega) (fun c hcl e => sR_t0 ⟨fun e => absurd rfl e, fun _ => ?_⟩) (fun a => sR_t1 ⟨fun _ => h0 a _ (hR'.sI 1 (by unfold sc1; omega) (by decide)) rfl, fun e => absurd e (by decide)⟩)
  refine sR_inI (lo := 0) (hi := 100000) rfl rfl (fun a b => ⟨fun _ => sR_t0 ⟨fun _ => ?_, fun e => absurd rfl e⟩, fun e => absurd e (by decide)⟩) (fun a => ⟨fun e => absurd rfl e, fun _ => sR_t1 ⟨fun e => absurd e (by decide), fun _ => h2 c hcl e a _ (hR'.sI 2 (by unfold sc1; omega) (by decide)) rfl⟩⟩)
  obtain ⟨n, hn, rfl⟩ := nI_of2 (M := 100000) (n := 100000) rfl a b
  have hh := h1 c hcl e n hn rfl
  subst e
  have key : ∀ k : Nat, k ≤ 1 → k = (if u = 0 then 0 else 1) → vp_in (4 * nI c + nI k) 160 ∧ vp_in (4 * nI c + nI k) 160 ∧ ∀ s4 : RSt, s4 = rsA (rsI ρ 0 0) 10 (4 * nI c + nI k).toNatClampNeg (((rsI ρ 0 0).2.1 10 (4 * nI c + nI k).toNatClampNeg) + nI n) → wpR_snow_80 post s4 (nI c) (nI n) (nI k) := by
    intro k hk ek
    have es := hR'.s2 (k := 10) (i := 4 * c + k) (by unfold sc2; omega)
    rw [nI4 (k := k) rfl, nI_clamp (by omega), es, nI_add]
    refine ⟨vp_in_nI (by omega) (by omega), vp_in_nI (by omega) (by omega), ?_⟩
    rintro s4 rfl
    have hR2 := hR'.u2 (k := 10) (i := 4 * c + k) (n := μ.2.1 10 (4 * c + k) + n) (v := nI (μ.2.1 10 (4 * c + k) + n)) rfl (by decide) (by decide)
    refine ⟨vp_in_nI (by omega) (by omega), vp_in_nI (by omega) (by omega), ?_⟩
    rintro s1 rfl
    rw [nI_clamp (by omega)]
    have es2 := hR2.2.2.2 k (by omega)
    have hR3 := hR2.uJ (i := k) (n := μ.1 (50 + k) + n) (v := lN (μ.1 (50 + k) + n)) rfl
    rw [es2, nI_l (by omega), show (m2 μ 10 (4 * c + k) (μ.2.1 10 (4 * c + k) + n)).1 (50 + k) = μ.1 (50 + k) from rfl, lN_add]
    exact sR_depth hR3 (by omega) (hh k ek _ _ rfl hR3 rfl)
  refine ⟨fun e0 => ?_, fun e0 => ?_⟩
  · have := key 0 (by omega) (by rw [if_pos e0])
    exact ⟨this.1, this.2.1, fun s4 h => ⟨fun _ => this.2.2 s4 h, fun e => absurd e0 e⟩⟩
  · have := key 1 (by omega) (by rw [if_neg e0])
    exact ⟨this.1, this.2.1, fun s4 h => ⟨fun e => absurd e e0, fun _ => this.2.2 s4 h⟩⟩
theorem rO_push {post : Int32 → RSt → Prop} (hR : RR ρ μ) (hI : MI μ j) (h1 : ∀ c : Nat, c < μ.1 14 → v = nI c → ∀ ρ', RR ρ' (m2 (m2 (m2 (m2 μ 10 (4 * c + 0) 0) 10 (4 * c + 1) 0) 10 (4 * c + 2) (mDep μ c)) 10 (4 * c + 3) 0) → ρ'.1 0 = 0 → post (nI (mDep μ c) - nI (μ.2.1 10 (4 * c + 2))) ρ') (h0 : (¬ v < 0 → ¬ v < nI (μ.1 14)) → ∀ ρ', RR ρ' μ → ρ'.1 0 = 1 → post 0 ρ') : wpR_push_0 post ρ v := by
  rintro s1 rfl
  have hR' := hR.sI (k := 0) 0 (by unfold sc1; omega) (by decide)
  have hc := hI.cs
  refine sR_noCell hR' (by omega) (fun c hcl e => sR_t0 ⟨fun _ => ?_, fun e => absurd rfl e⟩) (fun a => sR_t1 ⟨fun e => absurd e (by decide), fun _ => h0 a _ (hR'.sI 1 (by unfold sc1; omega) (by decide)) rfl⟩)
  have hh := h1 c hcl e
  subst e
  refine sR_depth hR' (by omega) ?_
  have es := hR'.s2 (k := 10) (i := 4 * c + 2) (by unfold sc2; omega)
  rw [nI4 (q := 2) (k := 2) rfl, nI_clamp (by omega), es]
  refine ⟨vp_in_nI (by omega) (by omega), ?_⟩
  let M : Nat → MSt := fun k => if k = 0 then μ else if k = 1 then m2 μ 10 (4 * c + 0) 0 else if k = 2 then m2 (m2 μ 10 (4 * c + 0) 0) 10 (4 * c + 1) 0 else if k = 3 then m2 (m2 (m2 μ 10 (4 * c + 0) 0) 10 (4 * c + 1) 0) 10 (4 * c + 2) (mDep μ c) else m2 (m2 (m2 (m2 μ 10 (4 * c + 0) 0) 10 (4 * c + 1) 0) 10 (4 * c + 2) (mDep μ c)) 10 (4 * c + 3) 0
  refine gLP.up 4 (fun k (x : RSt × Int32 × Int32 × Int32 × Int32) => k ≤ 4 ∧ RR x.1 (M k) ∧ x.1.1 0 = 0 ∧ x.2 = (nI c, nI (mDep μ c), nI (mDep μ c) - nI (μ.2.1 10 (4 * c + 2)), nI k)) (fun k x h => h.1) ?_ (j := 0) ⟨by decide, hR', rfl, rfl⟩
  rintro k ⟨s, y⟩ P ⟨hk4, hS, ht, e⟩ hP
  dsimp only at e hS ht ⊢
  subst e
  refine ⟨fun e => ?_, fun e => ?_⟩
  · rw [show (4 : Int32) = nI 4 from rfl, nI_leI (by decide) (by omega)] at e
    obtain rfl : k = 4 := by omega
    exact hh s hS ht
  · rw [show (4 : Int32) = nI 4 from rfl, nI_leI (by decide) (by omega)] at e
    rw [show (4 : Int32) * nI c = nI (4 * c) by rw [show (4 : Int32) = nI 4 from rfl, nI_mul], nI_add]
    refine ⟨fun e2 => ⟨vp_in_nI (by omega) (by omega), ?_⟩, fun e2 => ⟨vp_in_nI (by omega) (by omega), ?_⟩⟩
    · rintro s1 rfl
      rw [nI_clamp (by omega)]
      rw [show (2 : Int32) = nI 2 from rfl, nI_eq (by omega) (by omega)] at e2
      have hS2 := hS.u2 (k := 10) (i := 4 * c + k) (n := 0) (v := 0) rfl (by decide) (by decide)
      refine hP _ ⟨by omega, ?_, ht, by rw [nI_1]⟩
      rcases (show k = 0 ∨ k = 1 ∨ k = 3 by omega) with rfl | rfl | rfl
      · exact hS2
      · exact hS2
      · exact hS2
    · rintro s1 rfl
      rw [nI_clamp (by omega)]
      rw [show (2 : Int32) = nI 2 from rfl, nI_eq (by omega) (by omega)] at e2
      subst e2
      have hS2 := hS.u2 (k := 10) (i := 4 * c + 2) (n := mDep μ c) (v := nI (mDep μ c)) rfl (by decide) (by decide)
      exact hP _ ⟨by omega, hS2, ht, by rw [nI_1]⟩
theorem rO_cell {post : Int32 → RSt → Prop} {w : Int32} (hR : RR ρ μ) (hI : MI μ j) (h1 : ∀ c : Nat, c < μ.1 14 → v = nI c → ∀ ρ', RR ρ' μ → ρ'.1 0 = 0 → (∀ k : Nat, k < 4 → w = nI k → post (nI (μ.2.1 10 (4 * c + k))) ρ') ∧ (w = 4 → post (nI (mDep μ c)) ρ') ∧ (w = 5 → post (nI (μ.2.1 11 c)) ρ') ∧ (w = 6 → post (nI (μ.2.1 12 c)) ρ') ∧ (w = 7 → post (μ.2.2 13 c) ρ')) (h2 : ∀ c : Nat, c < μ.1 14 → v = nI c → w.toInt < 0 ∨ 7 < w.toInt → ∀ ρ', RR ρ' μ → ρ'.1 0 = 2 → post 0 ρ') (h0 : (¬ v < 0 → ¬ v < nI (μ.1 14)) → ∀ ρ', RR ρ' μ → ρ'.1 0 = 1 → post 0 ρ') : wpR_cell_0 post ρ v w := by
  rintro s1 rfl
  have hR' := hR.sI (k := 0) 0 (by unfold sc1; omega) (by decide)
  have hc := hI.cs
  refine sR_noCell hR' (by omega) (fun c hcl e => sR_t0 ⟨fun _ => ?_, fun e => absurd rfl e⟩) (fun a => sR_t1 ⟨fun e => absurd e (by decide), fun _ => h0 a _ (hR'.sI 1 (by unfold sc1; omega) (by decide)) rfl⟩)
  obtain ⟨a1, a2, a3, a4, a5⟩ := h1 c hcl e _ hR' rfl
  have hh := h2 c hcl e
  subst e
  have key : ∀ k : Nat, k < 4 → w = nI k → wpR_cell_68 post (rsI ρ 0 0) (nI c) w := by
    intro k hk e
    subst e
    refine ⟨by rw [nI4 (k := k) rfl]; exact vp_in_nI (by omega) (by omega), ?_⟩
    rw [nI4 (k := k) rfl, nI_clamp (by omega), hR'.s2 (k := 10) (by unfold sc2; omega)]
    exact a1 k hk rfl
  refine ⟨key 0 (by decide), key 1 (by decide), key 2 (by decide), key 3 (by decide), fun e => sR_depth hR' (by omega) (a2 e), fun e => ⟨vp_in_nI (by omega) (by omega), ?_⟩, fun e => ⟨vp_in_nI (by omega) (by omega), ?_⟩, fun e => ⟨vp_in_nI (by omega) (by omega), ?_⟩, fun e => ?_⟩
  · rw [nI_clamp (by omega), hR'.s2 (k := 11) (by unfold sc2; omega)]; exact a3 e
  · rw [nI_clamp (by omega), hR'.s2 (k := 12) (by unfold sc2; omega)]; exact a4 e
  · rw [nI_clamp (by omega), hR'.2.2.1.2.1]; exact a5 e
  · rintro s7 rfl
    exact hh e _ (hR'.sI 2 (by unfold sc1; omega) (by decide)) rfl
theorem rO_melt {post : Int32 → RSt → Prop} {w : Int32} (hR : RR ρ μ) (hI : MI μ j) (hj : j ≤ 512) (h1 : ∀ c : Nat, c < μ.1 14 → v = nI c → ∀ n : Nat, n ≤ 1000000 → w = nI n → ∀ ρ', RR ρ' (m1 (mMel μ c n 4).1 52 (μ.1 52 + (mMel μ c n 4).2)) → ρ'.1 0 = 0 → post (nI (mMel μ c n 4).2) ρ') (h2 : ∀ c : Nat, c < μ.1 14 → v = nI c → (¬ w < 0 → ¬ w ≤ 1000000) → ∀ ρ', RR ρ' μ → ρ'.1 0 = 2 → post 0 ρ') (h0 : (¬ v < 0 → ¬ v < nI (μ.1 14)) → ∀ ρ', RR ρ' μ → ρ'.1 0 = 1 → post 0 ρ') : wpR_melt_0 post ρ v w := by
  rintro s1 rfl
  have hR' := hR.sI (k := 0) 0 (by unfold sc1; omega) (by decide)
  have hc := hI.cs
  refine sR_noCell hR' (by omega) (fun c hcl e => sR_t0 ⟨fun e => absurd rfl e, fun _ => ?_⟩) (fun a => sR_t1 ⟨fun _ => h0 a _ (hR'.sI 1 (by unfold sc1; omega) (by decide)) rfl, fun e => absurd e (by decide)⟩)
  refine sR_inI (lo := 0) (hi := 1000000) rfl rfl (fun a b => ⟨fun _ => sR_t0 ⟨fun _ => ?_, fun e => absurd rfl e⟩, fun e => absurd e (by decide)⟩) (fun a => ⟨fun e => absurd rfl e, fun _ => sR_t1 ⟨fun e => absurd e (by decide), fun _ => h2 c hcl e a _ (hR'.sI 2 (by unfold sc1; omega) (by decide)) rfl⟩⟩)
  obtain ⟨n, hn, rfl⟩ := nI_of2 (M := 1000000) (n := 1000000) rfl a b
  have hh := h1 c hcl e n hn rfl
  have hs := hI.sn c hcl
  have hb : ∀ k : Nat, k < 4 → μ.2.1 10 (4 * c + k) < 2 ^ 31 := by
    intro k hk
    rcases (show k = 0 ∨ k = 1 ∨ k = 2 ∨ k = 3 by omega) with rfl | rfl | rfl | rfl
    · show μ.2.1 10 (4 * c) < _; omega
    · omega
    · omega
    · omega
  subst e
  refine gLP.up 4 (fun k (x : RSt × Int32 × Int32 × Int32 × Int32) => k ≤ 4 ∧ RR x.1 (mMel μ c n k).1 ∧ x.1.1 0 = 0 ∧ x.2 = (nI c, nI n, nI (mMel μ c n k).2, nI k)) (fun k x h => h.1) ?_ (j := 0) ⟨by decide, hR', rfl, rfl⟩
  rintro k ⟨s, y⟩ P ⟨hk4, hS, ht, e⟩ hP
  dsimp only at e hS ht ⊢
  subst e
  have hle := mMel_le (μ := μ) (c := c) (n := n) k
  refine ⟨fun e => ?_, fun e => ?_⟩
  · rw [show (4 : Int32) = nI 4 from rfl, nI_leI (by decide) (by omega)] at e
    obtain rfl : k = 4 := by omega
    refine ⟨vp_in_nI (n := 2) (by omega) (by omega), vp_in_nI (n := 2) (by omega) (by omega), ?_⟩
    rintro s3 rfl
    refine hh _ (hS.uJ (i := 2) ?_) ht
    rw [show (2 : Int32).toNatClampNeg = 2 from rfl, hS.2.2.2 2 (by decide), nI_l (by omega), mMel_1, lN_add]
  · rw [show (4 : Int32) = nI 4 from rfl, nI_leI (by decide) (by omega)] at e
    have eo : (mMel μ c n k).1.2.1 10 (4 * c + k) = μ.2.1 10 (4 * c + k) := mMel_o k _ _ (fun _ => Or.inr (Nat.le_refl _))
    have ev : s.2.1 10 (4 * c + k) = nI (μ.2.1 10 (4 * c + k)) := by rw [hS.s2 (k := 10) (by unfold sc2; omega), eo]
    have hgo : ∀ t : Nat, t = min (n - (mMel μ c n k).2) (μ.2.1 10 (4 * c + k)) → wpR_melt_90 post (fun s v1 v2 v3 v4 => P (s, v1, v2, v3, v4)) s (nI c) (nI n) (nI (mMel μ c n k).2) (nI k) (nI t) := by
      intro t et
      unfold wpR_melt_90
      rw [nI4 (k := k) rfl, nI_clamp (by omega), ev]
      refine ⟨vp_in_nI (by omega) (by omega), vp_in_nI (by omega) (by omega), ?_⟩
      rintro s1 rfl
      refine hP _ ⟨by omega, ?_, ht, by rw [nI_add, nI_1, et]; rfl⟩
      exact hS.u2 (by rw [nI_sub (by omega), et]) (by decide) (by decide)
    rw [show (4 : Int32) * nI c + nI k = nI (4 * c + k) from nI4 rfl, nI_clamp (by omega), ev, nI_sub hle]
    refine ⟨vp_in_nI (by omega) (by omega), fun e2 => ⟨vp_in_nI (by omega) (by omega), ?_⟩, fun e2 => ?_⟩
    · rw [nI_leI (hb k (by omega)) (by omega)] at e2
      exact hgo _ (by omega)
    · rw [nI_leI (hb k (by omega)) (by omega)] at e2
      exact hgo _ (by omega)
end RF
/-! people, count -/
def mPeo (μ : MSt) (w : Nat) (n : Nat) : Nat := sumN (fun g => if μ.2.1 21 (7 * g + 2) = w then μ.2.1 21 (7 * g) else 0) n
section PE
variable {σ : CSt} {lab : Nat → Nat} {ad : Nat → Nat → Nat} {ρ : RSt} {μ : MSt} {j : Nat} {v : Int32}
theorem cO_people {post : Int32 → CSt → Prop} (h : CRep σ lab ad μ) (hI : MI μ j) (h1 : ∀ w : Nat, w ≤ 3 → v = nI w → post (nI (mPeo μ w (μ.1 22))) σ) (h0 : (¬ v < 0 → ¬ v ≤ 3) → post (-1) σ) : wpC_X7_people_0 post σ (ad 7 0) v := by
  refine ⟨fun e => h0 (fun g => absurd e g), fun e => ⟨fun e2 => ?_, fun e2 => h0 (fun _ => e2)⟩⟩
  obtain ⟨w, hw, rfl⟩ := nI_of2 (M := 3) (n := 3) rfl e e2
  have h1 := h1 w hw rfl
  have hc := hI.cs
  refine gLP.up (μ.1 22) (fun k (x : CSt × Nat × Int32 × Int32 × Int32) => k ≤ μ.1 22 ∧ x = (σ, ad 7 0, nI w, nI (mPeo μ w k), nI k)) (fun k x h => h.1) ?_ (j := 0) ⟨Nat.zero_le _, rfl⟩
  rintro k x P ⟨hk, rfl⟩ hP
  refine ⟨h.x7, _, h.x.2.1.2.2.2.1, h.ls.2.2.2.1.1, sC_size h.ls.2.2.2.1 ⟨fun e => ?_, fun e => ?_⟩⟩
  · rw [nI_leI (by omega) (by omega)] at e
    obtain rfl : k = μ.1 22 := by omega
    exact h1
  · rw [nI_leI (by omega) (by omega)] at e
    have hg := h.gr (i := k) (by omega)
    have hb := hI.gr k (by omega)
    refine ⟨h.x7, _, h.x.2.1.2.2.2.1, h.ls.2.2.2.1.1, sC_get h.ls.2.2.2.1 (by omega) ⟨_, rfl, hg.1.1, hg.1.1, fun e2 => ?_, fun e2 => ⟨h.x7, _, h.x.2.1.2.2.2.1, h.ls.2.2.2.1.1, sC_get h.ls.2.2.2.1 (by omega) ⟨_, rfl, hg.1.1, hg.1.1, ?_⟩⟩⟩⟩
    · rw [hg.2.2.2.2.1, nI_eq (by omega) (by omega)] at e2
      refine hP _ ⟨by omega, ?_⟩
      show (σ, ad 7 0, nI w, _, _) = (σ, ad 7 0, nI w, nI (mPeo μ w k + if μ.2.1 21 (7 * k + 2) = w then μ.2.1 21 (7 * k) else 0), _)
      rw [if_neg e2, nI_1]; rfl
    · rw [hg.2.2.2.2.1, nI_eq (by omega) (by omega)] at e2
      refine hP _ ⟨by omega, ?_⟩
      show (σ, ad 7 0, nI w, _, _) = (σ, ad 7 0, nI w, nI (mPeo μ w k + if μ.2.1 21 (7 * k + 2) = w then μ.2.1 21 (7 * k) else 0), _)
      rw [if_pos e2, nI_1, hg.2.2.1, nI_add]
theorem rO_people {post : Int32 → RSt → Prop} (hR : RR ρ μ) (hI : MI μ j) (h1 : ∀ w : Nat, w ≤ 3 → v = nI w → ∀ ρ', RR ρ' μ → post (nI (mPeo μ w (μ.1 22))) ρ') (h0 : (¬ v < 0 → ¬ v ≤ 3) → ∀ ρ', RR ρ' μ → post (-1) ρ') : wpR_people_0 post ρ v := by
  rintro s1 rfl
  have hR' := hR.sI (k := 0) 0 (by unfold sc1; omega) (by decide)
  refine ⟨fun e => h0 (fun g => absurd e g) _ hR', fun e => ⟨fun e2 => ?_, fun e2 => h0 (fun _ => e2) _ hR'⟩⟩
  obtain ⟨w, hw, rfl⟩ := nI_of2 (M := 3) (n := 3) rfl e e2
  have h1 := h1 w hw rfl _ hR'
  have hc := hI.cs
  have e22 := hR'.s1 (k := 22) (by unfold sc1; omega)
  refine gLP.up (μ.1 22) (fun k (x : RSt × Int32 × Int32 × Int32) => k ≤ μ.1 22 ∧ x = (rsI ρ 0 0, nI w, nI (mPeo μ w k), nI k)) (fun k x h => h.1) ?_ (j := 0) ⟨Nat.zero_le _, rfl⟩
  rintro k x P ⟨hk, rfl⟩ hP
  dsimp only
  have e0 : (7 : Int32) * nI k = nI (7 * k) := by rw [show (7 : Int32) = nI 7 from rfl, nI_mul]
  unfold wpR_people_20_F
  rw [e22, nI7 (q := 2) (k := 2) rfl, e0]
  refine ⟨fun e => ?_, fun e => ?_⟩
  · rw [nI_leI (by omega) (by omega)] at e
    obtain rfl : k = μ.1 22 := by omega
    exact h1
  · rw [nI_leI (by omega) (by omega)] at e
    have hb := hI.gr k (by omega)
    rw [nI_clamp (by omega), nI_clamp (by omega), hR'.s2 (k := 21) (by unfold sc2; omega), hR'.s2 (k := 21) (by unfold sc2; omega)]
    refine ⟨vp_in_nI (by omega) (by omega), fun e2 => ?_, fun e2 => ⟨vp_in_nI (by omega) (by omega), ?_⟩⟩
    · rw [nI_eq (by omega) (by omega)] at e2
      refine hP _ ⟨by omega, ?_⟩
      show (rsI ρ 0 0, nI w, _, _) = (rsI ρ 0 0, nI w, nI (mPeo μ w k + if μ.2.1 21 (7 * k + 2) = w then μ.2.1 21 (7 * k) else 0), _)
      rw [if_neg e2, nI_1, show (0 : Int32) = nI 0 from rfl, nI_add]
    · rw [nI_eq (by omega) (by omega)] at e2
      refine hP _ ⟨by omega, ?_⟩
      show (rsI ρ 0 0, nI w, _, _) = (rsI ρ 0 0, nI w, nI (mPeo μ w k + if μ.2.1 21 (7 * k + 2) = w then μ.2.1 21 (7 * k) else 0), _)
      rw [if_pos e2, nI_1, nI_add]
end PE
end
