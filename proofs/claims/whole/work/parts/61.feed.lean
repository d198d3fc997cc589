section
/-! feed -/
theorem m3_s {μ : MSt} {k i : Nat} {v : Int32} : (m3 μ k i v).2.2 k i = v := by show cu2 μ.2.2 k i v k i = v; rw [cu2_ap, if_pos rfl, if_pos rfl]
theorem m3_n {μ : MSt} {k i k' i' : Nat} {v : Int32} (h : k' = k → i' ≠ i) : (m3 μ k i v).2.2 k' i' = μ.2.2 k' i' := by
  show cu2 μ.2.2 k i v k' i' = _
  rw [cu2_ap]
  split
  · rw [if_neg (h (by assumption))]
  · rfl
def byteOf (x : Int32) (r : Nat) : Int32 := vp_nar .byte ((x >>> ((24 - 8 * nI r) &&& 31)).toInt8.toInt32)
/-- the tape, k bytes further -/
def mFd (μ : MSt) (f : Nat → Int32) : Nat → MSt
  | 0 => μ
  | k + 1 => m3 (mFd μ f k) 1 (μ.1 2 + k) (byteOf (f (k / 4)) (k % 4))
theorem mFd_1 {μ : MSt} {f : Nat → Int32} : ∀ k : Nat, (mFd μ f k).1 = μ.1
  | 0 => rfl
  | k + 1 => mFd_1 k
theorem mFd_2 {μ : MSt} {f : Nat → Int32} : ∀ k : Nat, (mFd μ f k).2.1 = μ.2.1
  | 0 => rfl
  | k + 1 => mFd_2 k
theorem mFd_3 {μ : MSt} {f : Nat → Int32} : ∀ k q : Nat, q ≠ 1 → (mFd μ f k).2.2 q = μ.2.2 q
  | 0, _, _ => rfl
  | k + 1, q, h => by
    refine Eq.trans ?_ (mFd_3 (f := f) k q h)
    funext i
    exact m3_n (fun e => absurd e h)
section FD
variable {σ : CSt} {lab : Nat → Nat} {ad : Nat → Nat → Nat} {ρ : RSt} {μ : MSt} {j : Nat} {f : Nat → Int32}
/-- the model with its tape k bytes longer -/
def mFe (μ : MSt) (f : Nat → Int32) (k : Nat) : MSt := m1 (mFd μ f k) 2 (μ.1 2 + k)
theorem sC_put {post : CSt → Prop} {q : Nat} (hq : q < 5) (ht : μ.1 2 ≤ 380) (h : CRep σ lab ad (mFe μ f (4 * q))) (hp : ∀ σ', CRep σ' lab ad (mFe μ f (4 * (q + 1))) → post σ') : wpC_X7_putNumber_0 post σ (ad 7 0) (f q) := by
  have e24 : (24 : Int32) = 24 - 8 * nI 0 := by decide
  unfold wpC_X7_putNumber_0
  rw [e24]
  refine gLP.up 4 (fun r (x : CSt × Nat × Int32 × Int32) => r ≤ 4 ∧ CRep x.1 lab ad (mFe μ f (4 * q + r)) ∧ x.2 = (ad 7 0, f q, 24 - 8 * nI r)) (fun r x h => h.1) ?_ (j := 0) ⟨by decide, h, rfl⟩
  rintro r ⟨s, y⟩ P ⟨hr, hC, e⟩ hP
  dsimp only at hC e ⊢
  subst e
  have hpos : ∀ r : Nat, r < 4 → ¬ (24 - 8 * nI r) < 0 := by decide
  have hst : ∀ r : Nat, r < 4 → (24 - 8 * nI r) + (-8) = 24 - 8 * nI (r + 1) := by decide
  refine ⟨fun e => ?_, fun e => ?_⟩
  · have : r = 4 := by
      by_cases hr4 : r < 4
      · exact absurd e (hpos r hr4)
      · omega
    subst this
    exact hp s hC
  · have hr4 : r < 4 := by
      by_cases hr4 : r < 4
      · exact hr4
      · obtain rfl : r = 4 := by omega
        exact absurd (show (24 - 8 * nI 4 : Int32) < 0 by decide) e
    have hx := hC.x
    have e119 : cI s 119 (ad 7 0) = nI (μ.1 2 + (4 * q + r)) := by rw [hx.2.2.1]; congr 1
    have hT := hC.tp
    refine ⟨hC.x7, hC.x7, _, hx.2.1.2.2.2.2.2.2, hT.1.1, fun e2 => ?_, fun _ => ⟨hC.x7, _, hx.2.1.2.2.2.2.2.2, hC.x7, hT.1.1, ?_, ?_⟩⟩
    · rw [hT.2.1, e119, nI_leI (by omega) (by omega)] at e2; omega
    · rw [e119, hT.2.1]; exact vp_in_nI (by omega) (by omega)
    · rw [e119, nI_clamp (by omega)]
      rintro s5 rfl
      refine ⟨hC.x7, hC.x7, ?_⟩
      rintro s6 rfl
      have h5 : CRep (csV s (ad 8 0) (upd (cV s (ad 8 0)) (μ.1 2 + (4 * q + r)) (byteOf (f q) r))) lab ad (m1 (mFd μ f (4 * q + r + 1)) 2 (μ.1 2 + (4 * q + r))) := by
        refine hC.setTp (keep_csV hT.1.1 hT.1.2 _).s ?_ ?_ (fun k hk => ?_) ?_
        · refine ⟨hT.1, hT.2.1, fun i hi => ?_⟩
          rw [pV_csV, up_ap, if_pos rfl, upd_ap]
          show _ = cu2 (mFd μ f (4 * q + r)).2.2 1 (μ.1 2 + (4 * q + r)) (byteOf (f ((4 * q + r) / 4)) ((4 * q + r) % 4)) 1 i
          rw [cu2_ap, if_pos rfl]
          by_cases ei : i = μ.1 2 + (4 * q + r)
          · rw [if_pos ei, if_pos ei, show (4 * q + r) / 4 = q by omega, show (4 * q + r) % 4 = r by omega]
          · rw [if_neg ei, if_neg ei]; exact hT.2.2 i hi
        · show va_up (mFd μ f (4 * q + r + 1)).1 2 _ = va_up (mFd μ f (4 * q + r)).1 2 _
          rw [mFd_1, mFd_1]
        · show (mFd μ f (4 * q + r + 1)).2.2 k = (mFd μ f (4 * q + r)).2.2 k
          rw [mFd_3 _ _ hk, mFd_3 _ _ hk]
        · show (mFd μ f (4 * q + r + 1)).2.1 = (mFd μ f (4 * q + r)).2.1
          rw [mFd_2, mFd_2]
      refine hP _ ⟨by omega, ?_, by rw [hst r hr4]⟩
      show CRep (csI _ 119 (ad 7 0) (cI (csV s _ _) 119 (ad 7 0) + 1)) lab ad (mFe μ f (4 * q + (r + 1)))
      refine h5.setX (keep_x h5) ?_ rfl (fun _ _ => rfl) (fun k hk => ?_)
      · refine ⟨hx.1, hx.2.1, ?_, ?_⟩
        · rw [pI_csI, cu2_ap, if_pos rfl, if_pos rfl, show cI (csV s (ad 8 0) _) 119 (ad 7 0) = nI (μ.1 2 + (4 * q + r)) from e119, nI_1]
          rfl
        · have := h5.x.2.2.2
          exact this
      · show va_up (mFd μ f (4 * q + (r + 1))).1 2 _ k = va_up (mFd μ f (4 * q + r + 1)).1 2 _ k
        rw [up_ap, up_ap, if_neg (by omega), if_neg (by omega)]
        rfl
theorem mFe_0 : mFe μ f 0 = μ := by
  have : va_up μ.1 2 (μ.1 2 + 0) = μ.1 := by
    funext k
    rw [up_ap]
    by_cases e : k = 2
    · rw [if_pos e, e]; rfl
    · rw [if_neg e]
  show (va_up μ.1 2 (μ.1 2 + 0), μ.2) = μ
  rw [this]
def fdF (a b c d e : Int32) (k : Nat) : Int32 := if k = 0 then a else if k = 1 then b else if k = 2 then c else if k = 3 then d else e
theorem cO_feed {post : Int32 → CSt → Prop} {a b c d u : Int32} (h : CRep σ lab ad μ) (hI : MI μ j) (h1 : μ.1 2 ≤ 380 → ∀ σ', CRep σ' lab ad (mFe μ (fdF a b c d u) 20) → post (nI (μ.1 2 + 20)) σ') (h0 : ¬ μ.1 2 ≤ 380 → post (-1) σ) : wpC_X7_feed_0 post σ (ad 7 0) a b c d u := by
  have hc := hI.cs
  have e119 := h.x.2.2.1
  refine ⟨h.x7, fun e => ⟨h.x7, ?_⟩, fun e => h0 (fun g => e ?_)⟩
  · rw [e119, show (380 : Int32) = nI 380 from rfl, nI_leI (by omega) (by omega)] at e
    have h1 := h1 e
    refine sC_put (f := fdF a b c d u) (q := 0) (by decide) e (by rw [mFe_0]; exact h) (fun s2 h2 => ⟨h2.x7, ?_⟩)
    refine sC_put (f := fdF a b c d u) (q := 1) (by decide) e h2 (fun s3 h3 => ⟨h3.x7, ?_⟩)
    refine sC_put (f := fdF a b c d u) (q := 2) (by decide) e h3 (fun s4 h4 => ⟨h4.x7, ?_⟩)
    refine sC_put (f := fdF a b c d u) (q := 3) (by decide) e h4 (fun s5 h5 => ⟨h5.x7, ?_⟩)
    refine sC_put (f := fdF a b c d u) (q := 4) (by decide) e h5 (fun s6 h6 => ⟨h6.x7, ?_⟩)
    rw [h6.x.2.2.1]
    exact h1 s6 h6
  · rw [e119, show (380 : Int32) = nI 380 from rfl, nI_leI (by omega) (by omega)]; exact g
theorem rO_feed {post : Int32 → RSt → Prop} {a b c d u : Int32} (hR : RR ρ μ) (hI : MI μ j) (h1 : μ.1 2 ≤ 380 → ∀ ρ', RR ρ' (mFe μ (fdF a b c d u) 20) → post (nI (μ.1 2 + 20)) ρ') (h0 : ¬ μ.1 2 ≤ 380 → ∀ ρ', RR ρ' μ → post (-1) ρ') : wpR_feed_0 post ρ a b c d u := by
  have hc := hI.cs
  rintro s4 rfl
  have hR' := hR.sI (k := 0) 0 (by unfold sc1; omega) (by decide)
  have e2 := hR'.s1 (k := 2) (by unfold sc1; omega)
  rw [e2, show (20 : Int32) = nI 20 from rfl, nI_add, show (400 : Int32) = nI 400 from rfl, nI_leI (by omega) (by omega)]
  refine ⟨fun e => ?_, fun e => h0 (by omega) _ hR'⟩
  have h1 := h1 (by omega)
  have hs : ∀ (ρ : RSt) (i : Nat) (v : Int32), RR ρ μ → RR (rsA ρ 30 i v) μ := fun ρ i v h => h.sA v (by unfold sc2; omega) (by decide) (by decide)
  refine ⟨vp_in_nI (n := 0) (by omega) (by omega), ?_⟩
  rintro s6 rfl
  refine ⟨vp_in_nI (n := 1) (by omega) (by omega), ?_⟩
  rintro s7 rfl
  refine ⟨vp_in_nI (n := 2) (by omega) (by omega), ?_⟩
  rintro s8 rfl
  refine ⟨vp_in_nI (n := 3) (by omega) (by omega), ?_⟩
  rintro s9 rfl
  refine ⟨vp_in_nI (n := 4) (by omega) (by omega), ?_⟩
  rintro s10 rfl
  refine gLP.up 20 (fun k (x : RSt × Int32) => k ≤ 20 ∧ RR x.1 (mFd μ (fdF a b c d u) k) ∧ (∀ i : Nat, i < 5 → x.1.2.1 30 i = fdF a b c d u i) ∧ x.2 = nI k) (fun k x h => h.1) ?_ (j := 0) ⟨by decide, hs _ _ _ (hs _ _ _ (hs _ _ _ (hs _ _ _ (hs _ _ _ hR')))), fun i hi => ?_, rfl⟩
  · rintro k ⟨s, y⟩ P ⟨hk, hS, h5, e3⟩ hP
    dsimp only at e3 hS h5 ⊢
    subst e3
    have es2 := hS.s1 (k := 2) (by unfold sc1; omega)
    rw [mFd_1] at es2
    unfold wpR_feed_60_F
    rw [es2, nI_add]
    refine ⟨fun e3 => ?_, fun e3 => ?_⟩
    · rw [show (20 : Int32) = nI 20 from rfl, nI_leI (by omega) (by omega)] at e3
      obtain rfl : k = 20 := by omega
      rintro s2 rfl
      have := hS.u1 (k := 2) (n := μ.1 2 + 20) (v := nI (μ.1 2) + 20) (by rw [show (20 : Int32) = nI 20 from rfl, nI_add]) (by decide) (by decide)
      show post (nI (μ.1 2) + 20) _
      rw [show nI (μ.1 2) + 20 = nI (μ.1 2 + 20) by rw [show (20 : Int32) = nI 20 from rfl, nI_add]] at this ⊢
      exact h1 _ this
    · rw [show (20 : Int32) = nI 20 from rfl, nI_leI (by omega) (by omega)] at e3
      have hd : ∀ k : Nat, k < 20 → nI k / 4 = nI (k / 4) ∧ (24 - (8 * (nI k - nI k / 4 * 4))) = 24 - 8 * nI (k % 4) := by decide
      obtain ⟨d1, d2⟩ := hd k (by omega)
      rw [d2, d1, nI_clamp (by omega), nI_clamp (by omega), h5 _ (by omega)]
      refine ⟨vp_in_nI (by omega) (by omega), vp_in_nI (by omega) (by omega), ?_⟩
      rintro s3 rfl
      exact hP _ ⟨by omega, hS.u3 _ (Or.inl rfl), fun i hi => h5 i hi, by rw [nI_1]⟩
  · rcases (show i = 0 ∨ i = 1 ∨ i = 2 ∨ i = 3 ∨ i = 4 by omega) with rfl | rfl | rfl | rfl | rfl
    · rfl
    · rfl
    · rfl
    · rfl
    · rfl
end FD
end
