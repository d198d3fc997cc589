section
/-! calls: snow, melt, push, cell -/
def mDep (μ : MSt) (c : Nat) : Nat := μ.2.1 10 (4 * c) + μ.2.1 10 (4 * c + 1) + μ.2.1 10 (4 * c + 2) + μ.2.1 10 (4 * c + 3)
theorem m2_s {μ : MSt} {k i v : Nat} : (m2 μ k i v).2.1 k i = v := by show cu2 μ.2.1 k i v k i = v; rw [cu2_ap, if_pos rfl, if_pos rfl]
theorem m2_n {μ : MSt} {k i v k' i' : Nat} (h : k' = k → i' ≠ i) : (m2 μ k i v).2.1 k' i' = μ.2.1 k' i' := by
  show cu2 μ.2.1 k i v k' i' = _
  rw [cu2_ap]
  split
  · rw [if_neg (h (by assumption))]
  · rfl
theorem m1_s {μ : MSt} {k v : Nat} : (m1 μ k v).1 k = v := by show va_up μ.1 k v k = v; rw [up_ap, if_pos rfl]
theorem m1_n {μ : MSt} {k v k' : Nat} (h : k' ≠ k) : (m1 μ k v).1 k' = μ.1 k' := by show va_up μ.1 k v k' = _; rw [up_ap, if_neg h]
theorem vi4 {N : Nat} (h : N = 4) : vp_in 0 N ∧ vp_in 1 N ∧ vp_in 2 N ∧ vp_in 3 N := by subst h; unfold vp_in; decide
section CL
variable {σ : CSt} {lab : Nat → Nat} {ad : Nat → Nat → Nat} {μ : MSt} {j : Nat} {v : Int32}
theorem sC_depth {post : Int32 → CSt → Prop} {c : Nat} (h : CRep σ lab ad μ) (hc : c < μ.1 14) (hp : post (nI (mDep μ c)) σ) : wpC_X1_depth_0 post σ (ad 1 c) := by
  have h1 := h.ce hc
  have h2 := h.sn hc
  have e : ∀ k : Nat, k < 4 → cV σ (ad 9 (100 + c)) k = nI (μ.2.1 10 (4 * c + k)) := h2.2.2
  have hn := h2.2.1
  refine ⟨h1.1.1, _, h1.2.1, h2.1.1, (vi4 hn).1, h1.1.1, _, h1.2.1, h2.1.1, (vi4 hn).2.1, h1.1.1, _, h1.2.1, h2.1.1, (vi4 hn).2.2.1, h1.1.1, _, h1.2.1, h2.1.1, (vi4 hn).2.2.2, ?_⟩
  rw [show (0 : Int32).toNatClampNeg = 0 from rfl, show (1 : Int32).toNatClampNeg = 1 from rfl, show (2 : Int32).toNatClampNeg = 2 from rfl, show (3 : Int32).toNatClampNeg = 3 from rfl, e 0 (by decide), e 1 (by decide), e 2 (by decide), e 3 (by decide), nI_add, nI_add, nI_add]
  exact hp
/-- one of a cell's kinds of snow, written -/
theorem sn_wr {c k n : Nat} {w : Int32} (h : CRep σ lab ad μ) (hc : c < μ.1 14) (hc4 : c < 100) (hk : k < 4) (hw : w = nI n) : CRep (csV σ (ad 9 (100 + c)) (upd (cV σ (ad 9 (100 + c))) k w)) lab ad (m2 μ 10 (4 * c + k) n) := by
  have h2 := h.sn hc
  refine h.setSn (l := c) (keep_csV h2.1.1 h2.1.2 _).s hc4 (fun _ => ?_) rfl rfl (fun q hq => by funext i; exact m2_n (fun e => absurd e hq)) (fun i hi q hq => m2_n (fun _ => by omega))
  refine ⟨h2.1, h2.2.1, fun i hi => ?_⟩
  rw [pV_csV, up_ap, if_pos rfl, upd_ap]
  by_cases e : i = k
  · subst e; rw [if_pos rfl]; show w = nI ((m2 μ 10 (4 * c + i) n).2.1 10 (4 * c + i)); rw [m2_s]; exact hw
  · rw [if_neg e]; show _ = nI ((m2 μ 10 (4 * c + k) n).2.1 10 (4 * c + i)); rw [m2_n (fun _ => by omega)]; exact h2.2.2 i hi
theorem cO_snow {post : Int32 → CSt → Prop} {pX : String → CSt → Prop} {w u : Int32} (h : CRep σ lab ad μ) (hI : MI μ j) (h1 : ∀ c : Nat, c < μ.1 14 → v = nI c → ∀ n : Nat, n ≤ 100000 → w = nI n → ∀ k : Nat, k = (if u = 0 then 0 else 1) → ∀ σ' μ', μ' = m2 (m1 μ (50 + k) (μ.1 (50 + k) + n)) 10 (4 * c + k) (μ.2.1 10 (4 * c + k) + n) → CRep σ' lab ad μ' → post (nI (mDep μ' c)) σ') (h2 : ∀ c : Nat, c < μ.1 14 → v = nI c → (¬ w < 0 → ¬ w ≤ 100000) → pX "java/lang/IllegalArgumentException" σ) (h0 : (¬ v < 0 → ¬ v < nI (μ.1 14)) → pX "java/lang/IndexOutOfBoundsException" σ) : wpC_X7_snow_0 post pX σ (ad 7 0) v u w := by
  have hc := hI.cs
  refine ⟨h.x7, sC_cellAt h (by omega) (fun c hcl e => sC_num (fun a b => ?_) (h2 c hcl e)) h0⟩
  have hl := h.ce hcl
  have hs := h.sn hcl
  obtain ⟨n, hn, rfl⟩ := nI_of2 (M := 100000) (n := 100000) rfl a b
  have h1 := h1 c hcl e n hn rfl
  have ev : ∀ k : Nat, k < 4 → cV σ (ad 9 (100 + c)) k = nI (μ.2.1 10 (4 * c + k)) := hs.2.2
  refine ⟨fun e0 => ⟨h.x7, h.x7, ?_⟩, fun e0 => ⟨h.x7, h.x7, ?_⟩⟩
  · rintro s8 rfl
    refine ⟨_, rfl, hl.1.1, _, hl.2.1, hs.1.1, (vi4 hs.2.1).1, hs.1.1, (vi4 hs.2.1).1, ?_⟩
    rintro s11 rfl
    have hx : CRep (csJ σ 124 (ad 7 0) (cJ σ 124 (ad 7 0) + (nI n).toInt64)) lab ad (m1 μ 50 (μ.1 50 + n)) := by
      refine h.setX (keep_xJ h) ?_ rfl (fun _ _ => rfl) (fun k hk => m1_n (by omega))
      refine ⟨h.x.1, h.x.2.1, h.x.2.2.1, h.x.2.2.2.1, h.x.2.2.2.2.1, h.x.2.2.2.2.2.1, h.x.2.2.2.2.2.2.1, ?_, h.x.2.2.2.2.2.2.2.2⟩
      rw [pJ_csJ, cu2_ap, if_pos rfl, if_pos rfl, h.x.2.2.2.2.2.2.2.1, nI_l (by omega), lN_add, m1_s]
    have hy := sn_wr (k := 0) (n := μ.2.1 10 (4 * c + 0) + n) (w := cV (csJ σ 124 (ad 7 0) (cJ σ 124 (ad 7 0) + (nI n).toInt64)) (ad 9 (100 + c)) (0 : Int32).toNatClampNeg + nI n) hx hcl (by omega) (by decide) (by rw [← nI_add]; congr 1; exact ev 0 (by decide))
    refine ⟨_, rfl, (hy.ce (i := c) hcl).1.1, sC_depth hy hcl ?_⟩
    exact h1 0 (by rw [if_pos e0]) _ _ rfl hy
  · rintro s8 rfl
    refine ⟨_, rfl, hl.1.1, _, hl.2.1, hs.1.1, (vi4 hs.2.1).2.1, hs.1.1, (vi4 hs.2.1).2.1, ?_⟩
    rintro s11 rfl
    have hx : CRep (csJ σ 125 (ad 7 0) (cJ σ 125 (ad 7 0) + (nI n).toInt64)) lab ad (m1 μ 51 (μ.1 51 + n)) := by
      refine h.setX (keep_xJ h) ?_ rfl (fun _ _ => rfl) (fun k hk => m1_n (by omega))
      refine ⟨h.x.1, h.x.2.1, h.x.2.2.1, h.x.2.2.2.1, h.x.2.2.2.2.1, h.x.2.2.2.2.2.1, h.x.2.2.2.2.2.2.1, h.x.2.2.2.2.2.2.2.1, ?_, h.x.2.2.2.2.2.2.2.2.2⟩
      rw [pJ_csJ, cu2_ap, if_pos rfl, if_pos rfl, h.x.2.2.2.2.2.2.2.2.1, nI_l (by omega), lN_add, m1_s]
    have hy := sn_wr (k := 1) (n := μ.2.1 10 (4 * c + 1) + n) (w := cV (csJ σ 125 (ad 7 0) (cJ σ 125 (ad 7 0) + (nI n).toInt64)) (ad 9 (100 + c)) (1 : Int32).toNatClampNeg + nI n) hx hcl (by omega) (by decide) (by rw [← nI_add]; congr 1; exact ev 1 (by decide))
    refine ⟨_, rfl, (hy.ce (i := c) hcl).1.1, sC_depth hy hcl ?_⟩
    exact h1 1 (by rw [if_neg e0]) _ _ rfl hy
theorem cO_push {post : Int32 → CSt → Prop} {pX : String → CSt → Prop} (h : CRep σ lab ad μ) (hI : MI μ j) (h1 : ∀ c : Nat, c < μ.1 14 → v = nI c → ∀ σ', CRep σ' lab ad (m2 (m2 (m2 (m2 μ 10 (4 * c + 0) 0) 10 (4 * c + 1) 0) 10 (4 * c + 2) (mDep μ c)) 10 (4 * c + 3) 0) → post (nI (mDep μ c) - nI (μ.2.1 10 (4 * c + 2))) σ') (h0 : (¬ v < 0 → ¬ v < nI (μ.1 14)) → pX "java/lang/IndexOutOfBoundsException" σ) : wpC_X7_push_0 post pX σ (ad 7 0) v := by
  have hc := hI.cs
  refine ⟨h.x7, sC_cellAt h (by omega) (fun c hcl e => ⟨_, rfl, (h.ce hcl).1.1, (h.ce hcl).1.1, sC_depth h hcl ?_⟩) h0⟩
  have hl := h.ce hcl
  have hs := h.sn hcl
  have ev : ∀ k : Nat, k < 4 → cV σ (ad 9 (100 + c)) k = nI (μ.2.1 10 (4 * c + k)) := hs.2.2
  have hN : cN σ (ad 9 (100 + c)) = 4 := hs.2.1
  have h1 := h1 c hcl e
  refine ⟨hl.1.1, _, hl.2.1, hs.1.1, (vi4 hN).2.2.1, hl.1.1, _, hl.2.1, hs.1.1, (vi4 hN).1, ?_⟩
  rintro s5 rfl
  have y1 := sn_wr (k := 0) (n := 0) (w := 0) h hcl (by omega) (by decide) rfl
  refine ⟨hl.1.1, _, hl.2.1, hs.1.1, (vi4 hN).2.1, ?_⟩
  rintro s7 rfl
  have y2 := sn_wr (k := 1) (n := 0) (w := 0) y1 hcl (by omega) (by decide) rfl
  refine ⟨hl.1.1, _, hl.2.1, hs.1.1, (vi4 hN).2.2.1, ?_⟩
  rintro s9 rfl
  have y3 := sn_wr (k := 2) (n := mDep μ c) y2 hcl (by omega) (by decide) rfl
  refine ⟨hl.1.1, _, hl.2.1, hs.1.1, (vi4 hN).2.2.2, ?_⟩
  rintro s11 rfl
  have y4 := sn_wr (k := 3) (n := 0) (w := 0) y3 hcl (by omega) (by decide) rfl
  have h1 := h1 _ y4
  rw [show (2 : Int32).toNatClampNeg = 2 from rfl, ev 2 (by decide)]
  exact h1
theorem cO_cell {post : Int32 → CSt → Prop} {pX : String → CSt → Prop} {w : Int32} (h : CRep σ lab ad μ) (hI : MI μ j) (h1 : ∀ c : Nat, c < μ.1 14 → v = nI c → (∀ k : Nat, k < 4 → w = nI k → post (nI (μ.2.1 10 (4 * c + k))) σ) ∧ (w = 4 → post (nI (mDep μ c)) σ) ∧ (w = 5 → post (nI (μ.2.1 11 c)) σ) ∧ (w = 6 → post (nI (μ.2.1 12 c)) σ) ∧ (w = 7 → post (μ.2.2 13 c) σ) ∧ (w.toInt < 0 ∨ 7 < w.toInt → pX "java/util/NoSuchElementException" σ)) (h0 : (¬ v < 0 → ¬ v < nI (μ.1 14)) → pX "java/lang/IndexOutOfBoundsException" σ) : wpC_X7_cell_0 post pX σ (ad 7 0) v w := by
  have hc := hI.cs
  refine ⟨h.x7, sC_cellAt h (by omega) (fun c hcl e => ?_) h0⟩
  have hl := h.ce hcl
  have hs := h.sn hcl
  obtain ⟨a1, a2, a3, a4, a5, a6⟩ := h1 c hcl e
  have hx : w < 0 ∨ 4 ≤ w → wpC_X7_cell_22 post pX σ w (some (ad 1 c)) := by
    intro hw
    refine ⟨fun e => ⟨_, rfl, hl.1.1, sC_depth h hcl (a2 e)⟩, fun e => ⟨_, rfl, hl.1.1, ?_⟩, fun e => ⟨_, rfl, hl.1.1, ?_⟩, fun e => ⟨_, rfl, hl.1.1, ?_⟩, fun e => a6 ?_⟩
    · rw [hl.2.2.1]; exact a3 e
    · rw [hl.2.2.2.1]; exact a4 e
    · rw [hl.2.2.2.2]; exact a5 e
    · rw [Int32.lt_iff_toInt_lt, Int32.le_iff_toInt_le, show (0 : Int32).toInt = 0 from rfl, show (4 : Int32).toInt = 4 from rfl] at hw
      omega
  refine ⟨fun e => hx (Or.inl e), fun e => ⟨fun e2 => hx (Or.inr e2), fun e2 => ⟨_, rfl, hl.1.1, _, hl.2.1, hs.1.1, ?_⟩⟩⟩
  obtain ⟨k, hk, rfl⟩ := nI_of e
  rw [show (4 : Int32) = nI 4 from rfl, nI_leI (by decide) hk] at e2
  rw [show cN σ (ad 9 (100 + c)) = 4 from hs.2.1, nI_clamp hk, show cV σ (ad 9 (100 + c)) k = nI (μ.2.1 10 (4 * c + k)) from hs.2.2 k (by omega)]
  exact ⟨vp_in_nI (by omega) (by omega), a1 k (by omega) rfl⟩
/-- melting: the kinds one after the other, so much is gone -/
def mMel (μ : MSt) (c n : Nat) : Nat → MSt × Nat
  | 0 => (μ, 0)
  | k + 1 => (m2 (mMel μ c n k).1 10 (4 * c + k) (μ.2.1 10 (4 * c + k) - min (n - (mMel μ c n k).2) (μ.2.1 10 (4 * c + k))), (mMel μ c n k).2 + min (n - (mMel μ c n k).2) (μ.2.1 10 (4 * c + k)))
theorem mMel_le {c n : Nat} : ∀ k : Nat, (mMel μ c n k).2 ≤ n
  | 0 => Nat.zero_le _
  | k + 1 => by have := mMel_le (c := c) (n := n) k; show (mMel μ c n k).2 + min (n - (mMel μ c n k).2) (μ.2.1 10 (4 * c + k)) ≤ n; omega
theorem mMel_o {c n : Nat} : ∀ k i k' : Nat, (k' = 10 → i < 4 * c ∨ 4 * c + k ≤ i) → (mMel μ c n k).1.2.1 k' i = μ.2.1 k' i
  | 0, _, _, _ => rfl
  | k + 1, i, k', h => by
    refine (m2_n (fun e => ?_)).trans (mMel_o k i k' (fun e => ?_))
    · have := h e; omega
    · have := h e; omega
theorem mMel_1 {c n : Nat} : ∀ k : Nat, (mMel μ c n k).1.1 = μ.1
  | 0 => rfl
  | k + 1 => mMel_1 k
theorem mMel_3 {c n : Nat} : ∀ k : Nat, (mMel μ c n k).1.2.2 = μ.2.2
  | 0 => rfl
  | k + 1 => mMel_3 k
theorem sC_take {post : Int32 → CSt → Prop} {c k a : Nat} (h : CRep σ lab ad μ) (hc : c < μ.1 14) (hc4 : c < 100) (hk : k < 4) (ha : a < 2 ^ 31) (hb : μ.2.1 10 (4 * c + k) < 2 ^ 31) (hp : ∀ σ', CRep σ' lab ad (m2 μ 10 (4 * c + k) (μ.2.1 10 (4 * c + k) - min a (μ.2.1 10 (4 * c + k)))) → keepS (atX 9 (100 + c)) σ lab σ' lab → post (nI (min a (μ.2.1 10 (4 * c + k)))) σ') : wpC_X1_take_0 post σ (ad 1 c) (nI k) (nI a) := by
  have hl := h.ce hc
  have hs := h.sn hc
  have hN : cN σ (ad 9 (100 + c)) = 4 := hs.2.1
  have ev : cV σ (ad 9 (100 + c)) k = nI (μ.2.1 10 (4 * c + k)) := hs.2.2 k hk
  have hin : vp_in (nI k) (cN σ (ad 9 (100 + c))) := by rw [hN]; exact vp_in_nI hk (by decide)
  refine ⟨fun e => absurd e (nI_pos (by omega)), fun _ => ⟨hl.1.1, _, hl.2.1, hs.1.1, fun _ => ⟨hl.1.1, _, hl.2.1, hs.1.1, hin, ?_⟩, fun e => absurd (by rw [hN]; exact nI_lt hk (by decide)) e⟩⟩
  rw [nI_clamp (by omega), ev]
  have hx : (if nI (μ.2.1 10 (4 * c + k)) < nI a then nI (μ.2.1 10 (4 * c + k)) else nI a) = nI (min a (μ.2.1 10 (4 * c + k))) := by
    by_cases e : μ.2.1 10 (4 * c + k) < a
    · rw [if_pos (nI_lt e ha)]; congr 1; omega
    · rw [if_neg (nI_nlt (by omega) hb)]; congr 1; omega
  rw [hx]
  rintro x5 rfl
  refine ⟨hl.1.1, _, hl.2.1, hs.1.1, hin, hs.1.1, hin, ?_⟩
  rintro s7 rfl
  exact hp _ (sn_wr h hc hc4 hk (by rw [ev, nI_sub (by omega)])) (keep_csV hs.1.1 hs.1.2 _).s
theorem sC_lose {post : Int32 → CSt → Prop} {c n : Nat} (h : CRep σ lab ad μ) (hc : c < μ.1 14) (hc4 : c < 100) (hn : n < 2 ^ 31) (hb : ∀ k : Nat, k < 4 → μ.2.1 10 (4 * c + k) < 2 ^ 31) (hp : ∀ σ', CRep σ' lab ad (mMel μ c n 4).1 → post (nI (mMel μ c n 4).2) σ') : wpC_X1_lose_0 post σ (ad 1 c) (nI n) := by
  refine gLP.up 4 (fun k (x : CSt × Nat × Int32 × Int32 × Int32) => k ≤ 4 ∧ CRep x.1 lab ad (mMel μ c n k).1 ∧ x.2 = (ad 1 c, nI n, nI (mMel μ c n k).2, nI k)) (fun k x h => h.1) ?_ (j := 0) ⟨by decide, h, rfl⟩
  rintro k ⟨s, y⟩ P ⟨hk4, hC, e⟩ hP
  dsimp only at e hC ⊢
  subst e
  refine ⟨fun e => ?_, fun e => ?_⟩
  · rw [show (4 : Int32) = nI 4 from rfl, nI_leI (by decide) (by omega)] at e
    obtain rfl : k = 4 := by omega
    exact hp s hC
  · rw [show (4 : Int32) = nI 4 from rfl, nI_leI (by decide) (by omega)] at e
    have hc' : c < (mMel μ c n k).1.1 14 := by rw [mMel_1]; exact hc
    have eo : (mMel μ c n k).1.2.1 10 (4 * c + k) = μ.2.1 10 (4 * c + k) := mMel_o k _ _ (fun _ => Or.inr (Nat.le_refl _))
    refine ⟨(hC.ce hc').1.1, ?_⟩
    show wpC_X1_take_0 _ s (ad 1 c) (nI k) (nI n - nI (mMel μ c n k).2)
    rw [nI_sub (mMel_le k)]
    refine sC_take hC hc' hc4 (by omega) (by omega) (by rw [eo]; exact hb k (by omega)) (fun σ' h' _ => ?_)
    rw [eo] at h' ⊢
    refine hP _ ⟨by omega, h', ?_⟩
    show (ad 1 c, nI n, _, _) = _
    rw [nI_add, nI_1]
    rfl
theorem cO_melt {post : Int32 → CSt → Prop} {pX : String → CSt → Prop} {w : Int32} (h : CRep σ lab ad μ) (hI : MI μ j) (hj : j ≤ 512) (h1 : ∀ c : Nat, c < μ.1 14 → v = nI c → ∀ n : Nat, n ≤ 1000000 → w = nI n → ∀ σ', CRep σ' lab ad (m1 (mMel μ c n 4).1 52 (μ.1 52 + (mMel μ c n 4).2)) → post (nI (mMel μ c n 4).2) σ') (h2 : ∀ c : Nat, c < μ.1 14 → v = nI c → (¬ w < 0 → ¬ w ≤ 1000000) → pX "java/lang/IllegalArgumentException" σ) (h0 : (¬ v < 0 → ¬ v < nI (μ.1 14)) → pX "java/lang/IndexOutOfBoundsException" σ) : wpC_X7_melt_0 post pX σ (ad 7 0) v w := by
  have hc := hI.cs
  refine ⟨h.x7, sC_cellAt h (by omega) (fun c hcl e => sC_num (fun a b => ?_) (h2 c hcl e)) h0⟩
  obtain ⟨n, hn, rfl⟩ := nI_of2 (M := 1000000) (n := 1000000) rfl a b
  have h1 := h1 c hcl e n hn rfl
  have hs := hI.sn c hcl
  refine ⟨_, rfl, (h.ce hcl).1.1, sC_lose h hcl (by omega) (by omega) (fun k hk => ?_) (fun σ' h' => ⟨h'.x7, h'.x7, ?_⟩)⟩
  · rcases (show k = 0 ∨ k = 1 ∨ k = 2 ∨ k = 3 by omega) with rfl | rfl | rfl | rfl
    · show μ.2.1 10 (4 * c) < _; omega
    · omega
    · omega
    · omega
  · rintro s7 rfl
    refine h1 _ (h'.setX (keep_xJ h') ?_ rfl (fun _ _ => rfl) (fun k hk => m1_n (by omega)))
    refine ⟨h'.x.1, h'.x.2.1, h'.x.2.2.1, h'.x.2.2.2.1, h'.x.2.2.2.2.1, h'.x.2.2.2.2.2.1, h'.x.2.2.2.2.2.2.1, h'.x.2.2.2.2.2.2.2.1, h'.x.2.2.2.2.2.2.2.2.1, ?_, h'.x.2.2.2.2.2.2.2.2.2.2⟩
    rw [pJ_csJ, cu2_ap, if_pos rfl, if_pos rfl, h'.x.2.2.2.2.2.2.2.2.2.1, nI_l (by have := mMel_le (μ := μ) (c := c) (n := n) 4; omega), lN_add, m1_s, mMel_1]
end CL
end
