section
/-! the class's minute: what changes alone -/
section SG
variable {σ σ' : CSt} {lab lab' : Nat → Nat} {ad : Nat → Nat → Nat} {μ μ' : MSt} {j : Nat}
/-- a group's own fields change alone -/
theorem CRep.setGr {g : Nat} (h : CRep σ lab ad μ) (hk : keepS (atX 2 g) σ lab σ' lab') (hl : g < μ.1 22 → cGr σ' lab' ad μ' g) (h1 : μ'.1 = μ.1) (h3 : μ'.2.2 = μ.2.2) (h2 : ∀ k, k ≠ 21 → μ'.2.1 k = μ.2.1 k) (h4 : ∀ i, i < 7 * g + 2 ∨ 7 * g + 7 ≤ i → μ'.2.1 21 i = μ.2.1 21 i) : CRep σ' lab' ad μ' := by
  have e3 := h2 3 (by decide); have e4 := h2 4 (by decide); have e5 := h2 5 (by decide); have e6 := h2 6 (by decide); have e8 := h2 8 (by decide); have e10 := h2 10 (by decide); have e11 := h2 11 (by decide); have e12 := h2 12 (by decide); have e15 := h2 15 (by decide); have e16 := h2 16 (by decide); have e17 := h2 17 (by decide); have e18 := h2 18 (by decide); have e23 := h2 23 (by decide); have e24 := h2 24 (by decide); have e25 := h2 25 (by decide)
  refine ⟨kX h hk (by unfold atX; omega) rfl (fun _ _ => rfl) rfl rfl (fun k _ => by rw [h1]) (by rw [h3]), kLs h hk (fun i _ => by unfold atX; omega) (fun _ _ => rfl) (fun _ _ => rfl) (fun _ _ => rfl) (fun _ _ => rfl) (fun _ _ => rfl) (fun _ _ => rfl) (fun k _ => by rw [h1]), fun i hi => ?_, fun i hi => ?_, fun i hi => ?_, fun i hi => ?_, fun i hi => ?_, fun i hi => ?_, fun i hi => ?_, fun i hi => ?_, fun i hi => ?_, ?_, ?_⟩
  · rw [h1] at hi
    exact kLi h hk hi (by unfold atX; omega) rfl rfl (fun _ _ => by rw [e3]) (by rw [e4]) (mWait_eq (by rw [e6]) (fun _ _ => by rw [e5]) (fun _ _ => h4 _ (by omega)))
  · rw [h1] at hi; exact kRo h hk hi (by unfold atX; omega) rfl (by rw [e6]) (fun _ _ => by rw [e5]) (fun _ _ => rfl)
  · rw [h1] at hi
    exact kSl h hk hi (by unfold atX; omega) rfl rfl rfl (fun _ _ => by rw [e8]) (by rw [e18]) (mNm_eq (by rw [e18]) (fun _ => by rw [e17]) (fun _ _ _ => by rw [e15, e16]; exact ⟨rfl, rfl⟩))
  · rw [h1] at hi; exact kSc h hk hi (by unfold atX; omega) rfl (fun _ _ => by rw [e8]) (fun _ _ => rfl)
  · rw [h1] at hi
    exact kCo h hk hi (by unfold atX; omega) rfl (by rw [e18]) (fun _ => by rw [e17]) (fun _ _ _ => by rw [e15, e16]; exact ⟨rfl, rfl⟩)
  · rw [h1] at hi; exact kCe h hk hi (by unfold atX; omega) rfl rfl (by rw [e11]) (by rw [e12]) (by rw [h3])
  · rw [h1] at hi; exact kSn h hk hi (by unfold atX; omega) rfl (fun _ _ => by rw [e10])
  · rw [h1] at hi
    by_cases e : i = g
    · subst e; exact hl hi
    · exact kGr h hk hi (by unfold atX; omega) rfl (fun _ _ => h4 _ (by omega)) (mEp_eq (fun _ _ => h4 _ (by omega)) (fun _ => by rw [e3]) (by rw [e8]))
  · rw [h1] at hi; exact kLk h hk hi (by unfold atX; omega) rfl rfl rfl (by rw [e23]) (by rw [e24]) (by rw [e25])
  · exact h.re.kp hk (by unfold atX; omega) rfl rfl
  · exact kTp h hk (by unfold atX; omega) rfl (fun _ _ => by rw [h3])
def rowX (l : Nat) : Nat → Nat → Prop := fun k a => ((k = 0 ∨ k = 10) ∧ a = 10 + l) ∨ (k = 3 ∧ a = l)
/-- a lift and its row change alone -/
theorem CRep.setQ {l : Nat} (h : CRep σ lab ad μ) (hl8 : l < 8) (h78 : μ.1 7 ≤ 8) (hk : keepS (rowX l) σ lab σ' lab') (hL : l < μ.1 7 → cLi σ' lab' ad μ' l) (hR : l < μ.1 7 → cRo σ' lab' ad μ' l) (h1 : μ'.1 = μ.1) (h3 : μ'.2.2 = μ.2.2) (h2 : ∀ k, k ≠ 5 → k ≠ 6 → μ'.2.1 k = μ.2.1 k) (h6 : ∀ i, i ≠ l → μ'.2.1 6 i = μ.2.1 6 i) (h5 : ∀ i, i < μ.1 7 → i ≠ l → ∀ k, k < μ.2.1 6 i → μ'.2.1 5 (60 * i + k) = μ.2.1 5 (60 * i + k)) : CRep σ' lab' ad μ' := by
  have e3 := h2 3 (by decide) (by decide); have e4 := h2 4 (by decide) (by decide); have e21 := h2 21 (by decide) (by decide); have e8 := h2 8 (by decide) (by decide); have e10 := h2 10 (by decide) (by decide); have e11 := h2 11 (by decide) (by decide); have e12 := h2 12 (by decide) (by decide); have e15 := h2 15 (by decide) (by decide); have e16 := h2 16 (by decide) (by decide); have e17 := h2 17 (by decide) (by decide); have e18 := h2 18 (by decide) (by decide); have e23 := h2 23 (by decide) (by decide); have e24 := h2 24 (by decide) (by decide); have e25 := h2 25 (by decide) (by decide)
  refine ⟨kX h hk (by unfold rowX; omega) rfl (fun _ _ => rfl) rfl rfl (fun k _ => by rw [h1]) (by rw [h3]), kLs h hk (fun i _ => by unfold rowX; omega) (fun _ _ => rfl) (fun _ _ => rfl) (fun _ _ => rfl) (fun _ _ => rfl) (fun _ _ => rfl) (fun _ _ => rfl) (fun k _ => by rw [h1]), fun i hi => ?_, fun i hi => ?_, fun i hi => ?_, fun i hi => ?_, fun i hi => ?_, fun i hi => ?_, fun i hi => ?_, fun i hi => ?_, fun i hi => ?_, ?_, ?_⟩
  · rw [h1] at hi
    by_cases e : i = l
    · subst e; exact hL hi
    · exact kLi h hk hi (by unfold rowX; omega) rfl rfl (fun _ _ => by rw [e3]) (by rw [e4]) (mWait_eq (h6 i e) (fun k hk => h5 i hi e k hk) (fun _ _ => by rw [e21]))
  · rw [h1] at hi
    by_cases e : i = l
    · subst e; exact hR hi
    · exact kRo h hk hi (by unfold rowX; omega) rfl (h6 i e) (fun k hk => h5 i hi e k hk) (fun _ _ => rfl)
  · rw [h1] at hi
    exact kSl h hk hi (by unfold rowX; omega) rfl rfl rfl (fun _ _ => by rw [e8]) (by rw [e18]) (mNm_eq (by rw [e18]) (fun _ => by rw [e17]) (fun _ _ _ => by rw [e15, e16]; exact ⟨rfl, rfl⟩))
  · rw [h1] at hi; exact kSc h hk hi (by unfold rowX; omega) rfl (fun _ _ => by rw [e8]) (fun _ _ => rfl)
  · rw [h1] at hi
    exact kCo h hk hi (by unfold rowX; omega) rfl (by rw [e18]) (fun _ => by rw [e17]) (fun _ _ _ => by rw [e15, e16]; exact ⟨rfl, rfl⟩)
  · rw [h1] at hi; exact kCe h hk hi (by unfold rowX; omega) rfl rfl (by rw [e11]) (by rw [e12]) (by rw [h3])
  · rw [h1] at hi; exact kSn h hk hi (by unfold rowX; omega) rfl (fun _ _ => by rw [e10])
  · rw [h1] at hi
    exact kGr h hk hi (by unfold rowX; omega) rfl (fun _ _ => by rw [e21]) (mEp_eq (fun _ _ => by rw [e21]) (fun _ => by rw [e3]) (by rw [e8]))
  · rw [h1] at hi; exact kLk h hk hi (by unfold rowX; omega) rfl rfl rfl (by rw [e23]) (by rw [e24]) (by rw [e25])
  · exact h.re.kp hk (by unfold rowX; omega) rfl rfl
  · exact kTp h hk (by unfold rowX; omega) rfl (fun _ _ => by rw [h3])
/-- a row's room stays -/
theorem capL_kp {X : Nat → Nat → Prop} {a m n : Nat} {f : Nat → Nat} (h : isL σ lab a m n f) (hk : keepS X σ lab σ' lab') (h0 : ¬ X 0 m) : capL σ' a = capL σ a := by
  obtain ⟨h1, h2, h3, h4, d, h5, h6⟩ := h
  have hs := hk.same h1 h2 h0
  rw [capL_of h5, capL_of ((hs.2.1 1 (by decide)).trans h5)]
  unfold cNq
  rw [hk.1]
  by_cases e : d = (cZ σ).1
  · rw [if_pos e, if_pos e]
  · rw [if_neg e, if_neg e]
    rcases h6 with ⟨-, g⟩ | ⟨-, g, -⟩
    · exact absurd g e
    · exact hk.N g
def capS (σ : CSt) (ad : Nat → Nat → Nat) (n : Nat) (σ' : CSt) : Prop := ∀ l : Nat, l < n → capL σ' (ad 0 (10 + l)) = capL σ (ad 0 (10 + l))
theorem capS.tr {σ'' : CSt} {n : Nat} (h : capS σ ad n σ') (g : capS σ' ad n σ'') : capS σ ad n σ'' := fun l hl => (g l hl).trans (h l hl)
theorem capS_kp {X : Nat → Nat → Prop} (h : CRep σ lab ad μ) (hk : keepS X σ lab σ' lab') (hx : ∀ l : Nat, l < μ.1 7 → ¬ X 0 (10 + l)) : capS σ ad (μ.1 7) σ' := fun l hl => capL_kp (h.ro hl) hk (hx l hl)
theorem sC_goOn {post : CSt → Prop} {g : Nat} (h : CRep σ lab ad μ) (hI : MI μ j) (hg : g < μ.1 22) (hp : ∀ σ', CRep σ' lab ad (mGo μ g) → capS σ ad (μ.1 7) σ' → cI σ' 35 (ad 2 g) = nI ((mGo μ g).2.1 21 (7 * g + 2)) → post σ') : wpC_X2_goOn_0 post σ (ad 2 g) := by
  have hG := h.gr hg
  have hb := hI.gr g hg
  obtain ⟨c1, c2, c3⟩ := mGo_g (μ := μ) (g := g)
  obtain ⟨o, f32, f33, f34, f35, f36, f38, f39, f40, f37⟩ := hG
  have st2 : (cI σ 35 (ad 2 g) = 2 ↔ μ.2.1 21 (7 * g + 2) = 2) := by rw [f35, show (2 : Int32) = nI 2 from rfl, nI_eq (by omega) (by omega)]
  have st3 : (cI σ 35 (ad 2 g) = 3 ↔ μ.2.1 21 (7 * g + 2) = 3) := by rw [f35, show (3 : Int32) = nI 3 from rfl, nI_eq (by omega) (by omega)]
  have h17 : (μ.2.1 21 (7 * g + 2) = 2 ∨ μ.2.1 21 (7 * g + 2) = 3) → wpC_X2_goOn_17 post σ (ad 2 g) := by
    intro hs
    refine ⟨o.1, o.1, ?_⟩
    have htg : 1 ≤ μ.2.1 21 (7 * g + 4) ∧ μ.2.1 21 (7 * g + 4) ≤ 30 := by omega
    have e38 : cI σ 38 (ad 2 g) - 1 = nI (μ.2.1 21 (7 * g + 4) - 1) := by rw [f38, show (1 : Int32) = nI 1 from rfl, nI_sub htg.1]
    rw [e38]
    rintro s1 rfl
    have k1 : keepS (atX 2 g) σ lab (csI σ 38 (ad 2 g) (nI (μ.2.1 21 (7 * g + 4) - 1))) lab := (keep_csI o.1 o.2 38 _).s
    have e0 : cI (csI σ 38 (ad 2 g) (nI (μ.2.1 21 (7 * g + 4) - 1))) 38 (ad 2 g) = nI (μ.2.1 21 (7 * g + 4) - 1) := by rw [pI_csI, cu2_ap, if_pos rfl, if_pos rfl]
    rw [e0, show (0 : Int32) = nI 0 from rfl, nI_eq (by omega) (by omega)]
    have hm0 : (mGo μ g).2.1 21 (7 * g) = μ.2.1 21 (7 * g) := mGo_2 (by omega)
    have hm1 : (mGo μ g).2.1 21 (7 * g + 1) = μ.2.1 21 (7 * g + 1) := mGo_2 (by omega)
    have hm5 : (mGo μ g).2.1 21 (7 * g + 5) = μ.2.1 21 (7 * g + 5) := mGo_2 (by omega)
    have hm6 : (mGo μ g).2.1 21 (7 * g + 6) = μ.2.1 21 (7 * g + 6) := mGo_2 (by omega)
    refine ⟨o.1, fun hz => ?_, fun hz => ⟨o.1, ?_⟩⟩
    · obtain ⟨d2, d3, d4⟩ := c2 hs hz
      have eep : mEp (mGo μ g) g = mEp μ g := by unfold mEp; rw [d2, d3, mGo_2 (by omega), mGo_2 (by omega)]
      refine hp _ (h.setGr k1 (fun _ => ?_) mGo_1 mGo_3 (fun k hk => by funext i; exact mGo_2 (Or.inl hk)) (fun i hi => mGo_2 (by omega))) (capS_kp h k1 (fun l _ => by unfold atX; omega)) ?_
      · unfold cGr
        rw [hm0, hm1, d2, d3, d4, hm5, hm6, eep]
        exact ⟨o, f32, f33, f34, f35, f36, e0, f39, f40, f37⟩
      · rw [d2]; exact f35
    · rintro s3 rfl
      refine ⟨o.1, o.1, ?_⟩
      rintro s4 rfl
      obtain ⟨d2, d3, d4⟩ := c1 hs hz
      have e37 : cI (csI (csI σ 38 (ad 2 g) (nI (μ.2.1 21 (7 * g + 4) - 1))) 35 (ad 2 g) (nI 0)) 37 (ad 2 g) = nI (mEp μ g) := f37 (hs.imp (fun e => by rw [e]; rfl) (fun e => by rw [e]; rfl))
      rw [e37]
      have k3 := (k1.tr (keep_csI (σ := csI σ 38 (ad 2 g) (nI (μ.2.1 21 (7 * g + 4) - 1))) (lab := lab) o.1 o.2 35 (nI 0)).s).tr (keep_csI (σ := csI (csI σ 38 (ad 2 g) (nI (μ.2.1 21 (7 * g + 4) - 1))) 35 (ad 2 g) (nI 0)) (lab := lab) o.1 o.2 36 (nI (mEp μ g))).s
      refine hp _ (h.setGr k3 (fun _ => ?_) mGo_1 mGo_3 (fun k hk => by funext i; exact mGo_2 (Or.inl hk)) (fun i hi => mGo_2 (by omega))) (capS_kp h k3 (fun l _ => by unfold atX; omega)) ?_
      · unfold cGr
        rw [hm0, hm1, d2, d3, d4, hm5, hm6]
        refine ⟨o, f32, f33, f34, ?_, ?_, ?_, f39, f40, fun e => e.elim (fun e => absurd e (by decide)) (fun e => absurd e (by decide))⟩
        · rw [pI_csI, cu2_ap, if_neg (by decide), pI_csI, cu2_ap, if_pos rfl, if_pos rfl]
        · rw [pI_csI, cu2_ap, if_pos rfl, if_pos rfl]
        · rw [pI_csI, cu2_ap, if_neg (by decide), pI_csI, cu2_ap, if_neg (by decide), pI_csI, cu2_ap, if_pos rfl, if_pos rfl, hz]
      · rw [d2, pI_csI, cu2_ap, if_neg (by decide), pI_csI, cu2_ap, if_pos rfl, if_pos rfl]
  refine ⟨o.1, fun e => h17 (Or.inl (st2.mp e)), fun e => ⟨o.1, fun e3 => h17 (Or.inr (st3.mp e3)), fun e3 => ?_⟩⟩
  have hns : ¬ (μ.2.1 21 (7 * g + 2) = 2 ∨ μ.2.1 21 (7 * g + 2) = 3) := fun hs => hs.elim (fun a => e (st2.mpr a)) (fun a => e3 (st3.mpr a))
  rw [c3 hns] at hp
  exact hp σ h (fun _ _ => rfl) f35
end SG
end
