section
/-! rule: the class, the pictures -/
section CRU1
variable {σ σ' : CSt} {lab lab' : Nat → Nat} {ad : Nat → Nat → Nat} {μ μ1 : MSt} {j : Nat} {s q : Nat} {L : List Cd}
theorem CRep.rdr (h : CRep σ lab ad μ) (hk : keepS rdX σ lab σ' lab) (hre : reO σ' lab ad) : CRep σ' lab ad μ := by
  have hx : ∀ a l : Nat, (a ≠ 5 ∧ a ≠ 9) ∨ l ≠ 0 → ¬ rdX a l := fun a l g => by unfold rdX; omega
  refine ⟨kX h hk (hx _ _ (by omega)) rfl (fun _ _ => rfl) rfl rfl (fun _ _ => rfl) rfl, kLs h hk (fun i _ => ⟨hx _ _ (by omega), hx _ _ (by omega)⟩) (fun _ _ => rfl) (fun _ _ => rfl) (fun _ _ => rfl) (fun _ _ => rfl) (fun _ _ => rfl) (fun _ _ => rfl) (fun _ _ => rfl), fun i hi => ?_, fun i hi => ?_, fun i hi => ?_, fun i hi => ?_, fun i hi => ?_, fun i hi => ?_, fun i hi => ?_, fun i hi => ?_, fun i hi => ?_, hre, ?_⟩
  · exact (h.li hi).kp hk (hx _ _ (by omega)) rfl rfl
  · exact (h.ro hi).kp hk (hx _ _ (by omega)) (hx _ _ (by omega)) (fun _ _ => rfl)
  · exact (h.sl hi).kp hk (hx _ _ (by omega)) rfl rfl rfl
  · exact (h.sc hi).kp hk (hx _ _ (by omega)) (hx _ _ (by omega)) (fun _ _ => rfl)
  · exact kCo h hk hi (hx _ _ (by omega)) rfl rfl (fun _ => rfl) (fun _ _ _ => ⟨rfl, rfl⟩)
  · exact (h.ce hi).kp hk (hx _ _ (by omega)) rfl rfl
  · exact (h.sn hi).kp hk (hx _ _ (by omega)) rfl (fun _ _ => rfl)
  · exact (h.gr hi).kp hk (hx _ _ (by omega)) rfl
  · exact (h.lk hi).kp hk (hx _ _ (by omega)) rfl rfl rfl
  · exact h.tp.kp hk (hx _ _ (by omega)) rfl (fun _ _ => rfl)
theorem rl_g {pl : Int32} {rg : Nat} (h : CRep σ lab ad μ1) (hk : keepS (atX 7 0) σ lab σ' lab) (hR : ∀ k, cR σ' k (ad 7 0) = cR σ k (ad 7 0)) (hJ : ∀ k, cJ σ' k (ad 7 0) = cJ σ k (ad 7 0)) (hI : ∀ k, k ≠ 122 → k ≠ 123 → cI σ' k (ad 7 0) = cI σ k (ad 7 0)) (e122 : cI σ' 122 (ad 7 0) = pl) (e123 : cI σ' 123 (ad 7 0) = nI rg) (h1 : ∀ k, k ≠ 20 → μ1.1 k = (mR0 μ pl rg).1 k) (h2 : μ1.2.1 = μ.2.1) (h3 : ∀ k, k ≠ 19 → μ1.2.2 k = μ.2.2 k) : CRep σ' lab ad (mR0 μ pl rg) := by
  refine h.setX hk ?_ h2.symm (fun k hk => (mR0_3 hk).trans (h3 k hk).symm) (fun k hk => (h1 k (by omega)).symm)
  have e20 : (mR0 μ pl rg).1 20 = rg := by
    show va_up (va_up μ.1 2 0) 20 rg 20 = rg
    rw [up_ap, if_pos rfl]
  have e19 : (mR0 μ pl rg).2.2 19 0 = pl := by
    show cu2 μ.2.2 19 0 pl 19 0 = pl
    rw [cu2_ap, if_pos rfl, if_pos rfl]
  obtain ⟨x1, x2, x3, x4, x5, x6, x7, x8, x9, x10, x11⟩ := h.x
  unfold cX xO
  rw [← h1 2 (by decide), ← h1 27 (by decide), ← h1 28 (by decide), ← h1 50 (by decide), ← h1 51 (by decide), ← h1 52 (by decide), ← h1 54 (by decide), e20, e19]
  refine ⟨x1.kp hk rfl, ?_, (hI 119 (by decide) (by decide)).trans x3, (hI 120 (by decide) (by decide)).trans x4, (hI 121 (by decide) (by decide)).trans x5, e122, e123, (hJ _).trans x8, (hJ _).trans x9, (hJ _).trans x10, (hJ _).trans x11⟩
  rw [hR, hR, hR, hR, hR, hR, hR]
  exact x2
def rlX (s : Nat) : Nat → Nat → Prop := fun k l => (k = 6 ∧ l = s) ∨ (k = 9 ∧ l = 200 + s)
theorem rul_rep (h : CRep σ lab ad (mR0 μ (-1) 0)) (hI : MI μ j) (hk : keepS (rlX s) σ lab σ' lab') (hL : L.length ≤ 400) (hsl : cSl σ' lab' (cu2 ad 9 (200 + s) q) (mRul μ s L) s) (hco : cCo σ' lab' (cu2 ad 9 (200 + s) q) (mRul μ s L) s) : CRep σ' lab' (cu2 ad 9 (200 + s) q) (mRul μ s L) := by
  have hc := hI.cs
  have ea : ∀ k l : Nat, (k = 9 → l ≠ 200 + s) → cu2 ad 9 (200 + s) q k l = ad k l := fun k l a => adu_n a
  have o : ∀ a : Nat, a ≠ 15 ∧ a ≠ 16 ∧ a ≠ 17 ∧ a ≠ 18 → (mRul μ s L).2.1 a = (mR0 μ (-1) 0).2.1 a := fun a ha => mRul_o ha
  have o18 : ∀ t : Nat, t ≠ s → (mRul μ s L).2.1 18 t = (mR0 μ (-1) 0).2.1 18 t := fun t ht => by rw [mRul_18, if_neg ht]; rfl
  have o17 : ∀ t : Nat, t ≠ s → (mRul μ s L).2.1 17 t = (mR0 μ (-1) 0).2.1 17 t := fun t ht => by rw [mRul_17, if_neg ht]; rfl
  have n9 : (mR0 μ (-1) 0).1 9 = μ.1 9 := mR0_1 (by decide)
  have n14 : (mR0 μ (-1) 0).1 14 = μ.1 14 := mR0_1 (by decide)
  have oc : ∀ t : Nat, t < (mR0 μ (-1) 0).1 9 → t ≠ s → (mR0 μ (-1) 0).2.1 18 t = 1 → ∀ k : Nat, k < (mR0 μ (-1) 0).2.1 17 t → (mRul μ s L).2.1 15 (400 * t + k) = (mR0 μ (-1) 0).2.1 15 (400 * t + k) ∧ (mRul μ s L).2.1 16 (400 * t + k) = (mR0 μ (-1) 0).2.1 16 (400 * t + k) := fun t ht hts h18 k hk => by
    have hw : μ.2.1 17 t ≤ 400 := (hI.ru.1 t (by rw [← n9]; exact ht) h18).1
    exact mRul_oth hL hts (Nat.lt_of_lt_of_le hk hw)
  refine ⟨kX h hk (by unfold rlX; omega) (ea _ _ (by omega)) (fun _ _ => ea _ _ (by omega)) (ea _ _ (by omega)) (ea _ _ (by omega)) (fun _ _ => rfl) rfl, kLs h hk (fun i _ => by unfold rlX; omega) (fun _ _ => ea _ _ (by omega)) (fun _ _ => ea _ _ (by omega)) (fun _ _ => ea _ _ (by omega)) (fun _ _ => ea _ _ (by omega)) (fun _ _ => ea _ _ (by omega)) (fun _ _ => ea _ _ (by omega)) (fun _ _ => rfl), fun i hi => ?_, fun i hi => ?_, fun i hi => ?_, fun i hi => ?_, fun i hi => ?_, fun i hi => ?_, fun i hi => ?_, fun i hi => ?_, fun i hi => ?_, ?_, ?_⟩
  · exact kLi h hk hi (by unfold rlX; omega) (ea _ _ (by omega)) (ea _ _ (by omega)) (fun _ _ => by rw [o 3 (by decide)]) (by rw [o 4 (by decide)]) (mWait_eq (by rw [o 6 (by decide)]) (fun _ _ => by rw [o 5 (by decide)]) (fun _ _ => by rw [o 21 (by decide)]))
  · exact kRo h hk hi (by unfold rlX; omega) (ea _ _ (by omega)) (by rw [o 6 (by decide)]) (fun _ _ => by rw [o 5 (by decide)]) (fun _ _ => ea _ _ (by omega))
  · by_cases e : i = s
    · subst e; exact hsl
    · exact kSl h hk hi (by unfold rlX; omega) (ea _ _ (by omega)) (ea _ _ (by omega)) (ea _ _ (by omega)) (fun _ _ => by rw [o 8 (by decide)]) (o18 i e) (mNm_eq (o18 i e) (fun _ => o17 i e) (oc i hi e))
  · exact kSc h hk hi (by unfold rlX; omega) (ea _ _ (by omega)) (fun _ _ => by rw [o 8 (by decide)]) (fun _ _ => ea _ _ (by omega))
  · by_cases e : i = s
    · subst e; exact hco
    · exact kCo h hk hi (by unfold rlX; omega) (ea _ _ (by omega)) (o18 i e) (fun _ => o17 i e) (oc i hi e)
  · exact kCe h hk hi (by unfold rlX; omega) (ea _ _ (by omega)) (ea _ _ (by have : i < (mR0 μ (-1) 0).1 14 := hi; omega)) (by rw [o 11 (by decide)]) (by rw [o 12 (by decide)]) rfl
  · have hi' : i < (mR0 μ (-1) 0).1 14 := hi
    exact kSn h hk hi (by unfold rlX; omega) (ea _ _ (by omega)) (fun _ _ => by rw [o 10 (by decide)])
  · exact kGr h hk hi (by unfold rlX; omega) (ea _ _ (by omega)) (fun _ _ => by rw [o 21 (by decide)]) (mEp_eq (fun _ _ => by rw [o 21 (by decide)]) (fun _ => by rw [o 3 (by decide)]) (by rw [o 8 (by decide)]))
  · exact kLk h hk hi (by unfold rlX; omega) (ea _ _ (by omega)) (ea _ _ (by omega)) (ea _ _ (by omega)) (by rw [o 23 (by decide)]) (by rw [o 24 (by decide)]) (by rw [o 25 (by decide)])
  · exact h.re.kp hk (by unfold rlX; omega) (ea _ _ (by omega)) (ea _ _ (by omega))
  · exact kTp h hk (by unfold rlX; omega) (ea _ _ (by omega)) (fun _ _ => rfl)
end CRU1
end
