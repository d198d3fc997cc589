section
/-! the reference: holds, names, areKnown -/
theorem rA_f {ρ : RSt} {k i : Nat} {v : Int32} : (rsA ρ k i v).2.1 k = upd (ρ.2.1 k) i v := by
  show (if k = k then upd (ρ.2.1 k) i v else ρ.2.1 k) = _
  rw [if_pos rfl]
section RH
variable {ρ : RSt} {μ : MSt} {j : Nat}
theorem nI_mod3 {c : Nat} (h : c < 17) : nI c - nI c / 3 * 3 = nI (c % 3) ∧ nI c / 3 = nI (c / 3) := (by decide : ∀ c : Nat, c < 17 → nI c - nI c / 3 * 3 = nI (c % 3) ∧ nI c / 3 = nI (c / 3)) c h
theorem sR_holds {post : Int32 → RSt → Prop} {s : Nat} {op : Nat → Bool} (hR : RR ρ μ) (hI : MI μ j) (hj : j ≤ 512) (hs : s < μ.1 9) (hr : μ.2.1 18 s = 1) (hop : ∀ k : Nat, k < μ.2.1 17 s → mC μ s k = 12 → ρ.2.1 40 (mN μ s k) = bI (op (mN μ s k))) (hp : ∀ ρ', smR (fun k => k = 41) ρ ρ' → post (bI (mHold μ op s)) ρ') : wpR_holds_0 post ρ (nI s) := by
  have hcs := hI.cs
  have hwf : wfN (mC μ s) (mN μ s) (μ.2.1 17 s) (μ.1 9) (μ.1 7) := hI.ru.1 s hs hr
  have hlen := evS_len hwf (t := fun k => mTst μ op s (mC μ s k) (mN μ s k))
  have h400 : μ.2.1 17 s ≤ 400 := hwf.1
  unfold wpR_holds_0
  rw [show (400 : Int32) = nI 400 from rfl, nI_mul]
  refine gLP.up (μ.2.1 17 s) (fun k (x : RSt × Int32 × Int32 × Int32) => k ≤ μ.2.1 17 s ∧ smR (fun k => k = 41) ρ x.1 ∧ plR (x.1.2.1 41) (mEv μ op s k) ∧ x.2 = (nI s, nI (mEv μ op s k).length, nI (400 * s + k))) (fun k x h => h.1) ?_ (j := 0) ⟨Nat.zero_le _, smR.rf, fun i hi => absurd hi (Nat.not_lt_zero _), rfl⟩
  rintro k ⟨s', y⟩ P ⟨hk, hS, hpl, e⟩ hP
  dsimp only at hS hpl e
  subst e
  dsimp only
  have hR' := hR.sm hS (fun k hk => by omega)
  have e17 := hR'.s2 (k := 17) (i := s) (by unfold sc2; omega)
  unfold wpR_holds_8_F
  rw [nI_clamp (by omega), e17, show (400 : Int32) = nI 400 from rfl, nI_mul, nI_add, nI_leI (by omega) (by omega)]
  refine ⟨vp_in_nI (by omega) (by omega), fun e => ⟨vp_in_nI (n := 0) (by omega) (by omega), ?_⟩, fun e => ⟨vp_in_nI (by omega) (by omega), ?_⟩⟩
  · obtain rfl : k = μ.2.1 17 s := by omega
    have hl := hlen _ (Nat.le_refl _)
    rw [hwf.2.1] at hl
    have e1 : (mEv μ op s (μ.2.1 17 s)).length = 1 := hl
    have := hpl 0 (by omega)
    rw [e1] at this
    rw [show (0 : Int32).toNatClampNeg = 0 from rfl, show s'.2.1 41 0 = bI (mHold μ op s) from this]
    exact ⟨(bI_n _).2, hp _ hS⟩
  · obtain ⟨c16, nlt, k12, k13, k14, k15⟩ := hwf.2.2.2 k (by omega)
    have hl1 : (mEv μ op s k).length = depN (mC μ s) k := hlen k hk
    have d43 := hwf.2.2.1 k hk
    have e15 : s'.2.1 15 (400 * s + k) = nI (mC μ s k) := hR'.s2 (k := 15) (by unfold sc2; omega)
    have e16 : s'.2.1 16 (400 * s + k) = nI (mN μ s k) := hR'.s2 (k := 16) (by unfold sc2; omega)
    have hstep : mEv μ op s (k + 1) = if mC μ s k = 14 then plN (mEv μ op s k) else if mC μ s k = 15 then plA (mEv μ op s k) else if mC μ s k = 16 then plO (mEv μ op s k) else mTst μ op s (mC μ s k) (mN μ s k) :: mEv μ op s k := rfl
    rw [nI_clamp (n := 400 * s + k) (by omega), e15, show (14 : Int32) = nI 14 from rfl, show (15 : Int32) = nI 15 from rfl, show (16 : Int32) = nI 16 from rfl, show (12 : Int32) = nI 12 from rfl, show (13 : Int32) = nI 13 from rfl, nI_eq (by omega) (by omega), nI_eq (by omega) (by omega), nI_eq (by omega) (by omega), nI_eq (by omega) (by omega), nI_eq (by omega) (by omega)]
    have hpush : ∀ w : Int32, mC μ s k < 14 → w = bI (mTst μ op s (mC μ s k) (mN μ s k)) → wpR_holds_222 post (fun s v1 v2 v3 => P (s, v1, v2, v3)) s' (nI s) (nI (mEv μ op s k).length) (nI (400 * s + k)) (nI (mEv μ op s k).length) w := by
      rintro w hc rfl
      rw [if_neg (by omega), if_neg (by omega), if_neg (by omega)] at hstep
      refine ⟨vp_in_nI (by omega) (by omega), ?_⟩
      rw [nI_clamp (by omega), (bI_n _).1]
      rintro s7 rfl
      refine hP _ ⟨by omega, hS.tr (smR_A rfl), ?_, ?_⟩
      · rw [hstep]
        show plR ((rsA s' 41 _ _).2.1 41) _
        rw [show (rsA s' 41 (mEv μ op s k).length (bI (mTst μ op s (mC μ s k) (mN μ s k)))).2.1 41 = upd (s'.2.1 41) (mEv μ op s k).length (bI (mTst μ op s (mC μ s k) (mN μ s k))) from rA_f]
        exact plR_push hpl
      · rw [hstep, nI_1, nI_1]; rfl
    refine ⟨fun a14 => ⟨fun a15 => ?_, fun a15 => ⟨fun a16 => ⟨fun a12 => ⟨fun a13 => ?_, fun a13 => ?_⟩, fun a12 => ?_⟩, fun a16 => ?_⟩⟩, fun a14 => ?_⟩
    · have := k15 (Or.inl a15)
      rw [if_neg a14, if_pos a15] at hstep
      match hm : mEv μ op s k, hl1 with
      | a :: b :: S, hx =>
        simp only [List.length_cons] at hx
        rw [hm] at hpl hstep
        have ht := plR_top2 hpl
        have hgo : ∀ w : Int32, w = bI (b && a) → wpR_holds_150 post (fun s v1 v2 v3 => P (s, v1, v2, v3)) s' (nI s) (nI (S.length + 1)) (nI (400 * s + k)) (nI S.length) w := by
          rintro w rfl
          refine ⟨vp_in_nI (by omega) (by omega), ?_⟩
          rw [nI_clamp (by omega), (bI_n _).1]
          rintro s1 rfl
          refine hP _ ⟨by omega, hS.tr (smR_A rfl), ?_, ?_⟩
          · rw [hstep]
            show plR ((rsA s' 41 _ _).2.1 41) ((b && a) :: S)
            rw [show (rsA s' 41 S.length (bI (b && a))).2.1 41 = upd (s'.2.1 41) S.length (bI (b && a)) from rA_f]
            exact plR_two hpl
          · rw [hstep, nI_1]; rfl
        unfold wpR_holds_80
        simp only [List.length_cons]
        rw [nI_m1 (by omega), show S.length + 1 + 1 - 1 = S.length + 1 by omega, show nI (S.length + 1) - 1 = nI S.length from nI_pred _, nI_clamp (by omega), nI_clamp (by omega), ht.1, ht.2, bI_0, bI_0]
        refine ⟨fun e => absurd (by rw [a15]; rfl) e, fun _ => ⟨vp_in_nI (by omega) (by omega), fun g => hgo 0 (by rw [g]; rfl), fun g => ⟨vp_in_nI (by omega) (by omega), fun g2 => hgo 0 (by rw [g2]; cases b <;> rfl), fun g2 => hgo 1 (by rw [show b = true by simpa using g, show a = true by simpa using g2]; rfl)⟩⟩⟩
      | [a], hx => simp at hx; omega
      | [], hx => simp at hx; omega
    · have hlt : mC μ s k < 12 := by omega
      obtain ⟨m1', m2'⟩ := nI_mod3 (c := mC μ s k) (by omega)
      rw [m1', m2']
      refine sR_meas hR' hI hj hs (by omega) ⟨vp_in_nI (by omega) (by omega), ?_⟩
      rw [e16]
      have hv : mMeas μ s (mC μ s k / 3) < 2 ^ 31 := by
        have hc0 := hI.c0
        unfold mC0 at hc0
        have hb := hI.sl s hs
        unfold mMeas
        split
        · have := mLd_lt hI hj hs (k := μ.2.1 8 (6 * s + 5) - 1) (by omega); have := Nat.div_le_self (mLd μ s (μ.2.1 8 (6 * s + 5) - 1)) 100; omega
        · split
          · omega
          · split
            · have := Nat.div_le_self (μ.1 28) 60; omega
            · have := mMw_lt hI hj hs (k := μ.2.1 8 (6 * s + 5)) (by omega); have := Nat.div_le_self (mMw μ s (μ.2.1 8 (6 * s + 5))) 100; omega
      refine sR_cmp (by omega) (by omega) hv (hpush _ (by omega) ?_)
      unfold mTst
      rw [if_neg a12, if_neg a13]
    · refine ⟨vp_in_nI (by omega) (by omega), ?_⟩
      rw [e16]
      refine sR_run hR' hI (k13 a13) ?_
      refine hpush _ (by omega) ?_
      unfold mTst
      rw [if_neg a12, if_pos a13]
      rfl
    · have h9 := k12 a12
      rw [e16, nI_clamp (by omega), show s'.2.1 40 (mN μ s k) = bI (op (mN μ s k)) by rw [hS.2.1 40 (by omega)]; exact hop k (by omega) a12]
      refine ⟨vp_in_nI (by omega) (by omega), vp_in_nI (by omega) (by omega), hpush _ (by omega) ?_⟩
      unfold mTst
      rw [if_pos a12]
    · have := k15 (Or.inr a16)
      rw [if_neg a14, if_neg a15, if_pos a16] at hstep
      match hm : mEv μ op s k, hl1 with
      | a :: b :: S, hx =>
        simp only [List.length_cons] at hx
        rw [hm] at hpl hstep
        have ht := plR_top2 hpl
        have hgo : ∀ w : Int32, w = bI (b || a) → wpR_holds_150 post (fun s v1 v2 v3 => P (s, v1, v2, v3)) s' (nI s) (nI (S.length + 1)) (nI (400 * s + k)) (nI S.length) w := by
          rintro w rfl
          refine ⟨vp_in_nI (by omega) (by omega), ?_⟩
          rw [nI_clamp (by omega), (bI_n _).1]
          rintro s1 rfl
          refine hP _ ⟨by omega, hS.tr (smR_A rfl), ?_, ?_⟩
          · rw [hstep]
            show plR ((rsA s' 41 _ _).2.1 41) ((b || a) :: S)
            rw [show (rsA s' 41 S.length (bI (b || a))).2.1 41 = upd (s'.2.1 41) S.length (bI (b || a)) from rA_f]
            exact plR_two hpl
          · rw [hstep, nI_1]; rfl
        unfold wpR_holds_80
        simp only [List.length_cons]
        rw [nI_m1 (by omega), show S.length + 1 + 1 - 1 = S.length + 1 by omega, show nI (S.length + 1) - 1 = nI S.length from nI_pred _, nI_clamp (by omega), nI_clamp (by omega), ht.1, ht.2, bI_0, bI_0]
        refine ⟨fun _ => ⟨vp_in_nI (by omega) (by omega), fun g => hgo 1 (by rw [show b = true by simpa using g]; rfl), fun g => ⟨vp_in_nI (by omega) (by omega), fun g2 => hgo 0 (by rw [g, g2]; rfl), fun g2 => hgo 1 (by rw [show a = true by simpa using g2]; cases b <;> rfl)⟩⟩, fun e => absurd (by rw [a16] at e; exact e) (by decide)⟩
      | [a], hx => simp at hx; omega
      | [], hx => simp at hx; omega
    · have := k14 a14
      rw [if_pos a14] at hstep
      match hm : mEv μ op s k, hl1 with
      | a :: S, hx =>
        simp only [List.length_cons] at hx
        rw [hm] at hpl hstep
        have ht := plR_top hpl
        have hgo : ∀ w : Int32, w = bI (!a) → wpR_holds_62 post (fun s v1 v2 v3 => P (s, v1, v2, v3)) s' (nI s) (nI (S.length + 1)) (nI (400 * s + k)) (nI S.length) w := by
          rintro w rfl
          refine ⟨vp_in_nI (by omega) (by omega), ?_⟩
          rw [nI_clamp (by omega), (bI_n _).1]
          rintro s1 rfl
          refine hP _ ⟨by omega, hS.tr (smR_A rfl), ?_, ?_⟩
          · rw [hstep]
            show plR ((rsA s' 41 _ _).2.1 41) ((!a) :: S)
            rw [show (rsA s' 41 S.length (bI (!a))).2.1 41 = upd (s'.2.1 41) S.length (bI (!a)) from rA_f]
            exact plR_not hpl
          · rw [hstep, nI_1]; rfl
        simp only [List.length_cons]
        rw [show nI (S.length + 1) - 1 = nI S.length from nI_pred _, nI_clamp (by omega), ht, bI_0]
        exact ⟨vp_in_nI (by omega) (by omega), fun g => hgo 0 (by rw [show a = true by simpa using g]; rfl), fun g => hgo 1 (by rw [g]; rfl)⟩
      | [], hx => simp at hx; omega
theorem nI_or1 (a n : Nat) (hn : n < 31) : nI a ||| (1 <<< (nI n &&& 31)) = nI (a ||| (1 <<< n)) := by
  apply b_ext
  intro i hi
  rw [b_set (by omega) hi, bt_nI _ hi, bt_nI _ hi, Nat.testBit_or, Nat.one_shiftLeft, Nat.testBit_two_pow]
  congr 1
  by_cases e : i = n
  · simp [e]
  · simp [e, show ¬ n = i from fun g => e g.symm]
theorem sR_names {post : Int32 → RSt → Prop} {s : Nat} {c n : Nat → Nat} {len : Nat} (h11 : s < 11) (h400 : len ≤ 400) (e17 : ρ.2.1 17 s = nI len) (e15 : ∀ k : Nat, k < len → ρ.2.1 15 (400 * s + k) = nI (c k) ∧ ρ.2.1 16 (400 * s + k) = nI (n k) ∧ c k < 2 ^ 31 ∧ (c k = 12 → n k < 31)) (hp : post (nI (bitsN c n len)) ρ) : wpR_names_0 post ρ (nI s) := by
  refine gLP.up len (fun k (x : RSt × Int32 × Int32 × Int32) => k ≤ len ∧ x = (ρ, nI s, nI (bitsN c n k), nI k)) (fun k x h => h.1) ?_ (j := 0) ⟨Nat.zero_le _, rfl⟩
  rintro k x P ⟨hk, rfl⟩ hP
  dsimp only
  unfold wpR_names_4_F
  rw [nI_clamp (by omega), e17, nI_leI (by omega) (by omega), show (400 : Int32) = nI 400 from rfl, nI_mul, nI_add, nI_clamp (by omega)]
  refine ⟨vp_in_nI (by omega) (by omega), fun e => ?_, fun e => ⟨vp_in_nI (by omega) (by omega), fun a => ?_, fun a => ⟨vp_in_nI (by omega) (by omega), ?_⟩⟩⟩
  · obtain rfl : k = len := by omega
    exact hp
  · obtain ⟨f1, f2, f3, f4⟩ := e15 k (by omega)
    rw [f1, show (12 : Int32) = nI 12 from rfl, nI_eq f3 (by omega)] at a
    refine hP _ ⟨by omega, ?_⟩
    rw [nI_1, show bitsN c n (k + 1) = bitsN c n k from if_neg a]
  · obtain ⟨f1, f2, f3, f4⟩ := e15 k (by omega)
    rw [f1, show (12 : Int32) = nI 12 from rfl, nI_eq f3 (by omega)] at a
    rw [f2]
    rintro x3 rfl
    refine hP _ ⟨by omega, ?_⟩
    rw [nI_1, nI_or1 _ _ (f4 a), show bitsN c n (k + 1) = bitsN c n k ||| (1 <<< n k) from if_pos a]
theorem sR_known {post : Int32 → RSt → Prop} {b : Nat} {J : Nat → Bool} (hR : RR ρ μ) (hI : MI μ j) (hJ : ∀ i : Nat, i < μ.1 9 → ρ.2.1 39 i = bI (J i)) (h1 : (∀ i : Nat, i < μ.1 9 → b.testBit i = true → J i = true) → post 1 ρ) (h0 : ¬ (∀ i : Nat, i < μ.1 9 → b.testBit i = true → J i = true) → post 0 ρ) : wpR_areKnown_0 post ρ (nI b) := by
  have hc := hI.cs
  have e9 := hR.s1 (k := 9) (by unfold sc1; omega)
  refine gLP.up (μ.1 9) (fun k (x : RSt × Int32 × Int32 × Int32) => k ≤ μ.1 9 ∧ ∃ v2 : Int32, x = (ρ, nI b, v2, nI k) ∧ ((v2 = 1 ∧ ∀ i : Nat, i < k → b.testBit i = true → J i = true) ∨ (v2 = 0 ∧ ¬ ∀ i : Nat, i < k → b.testBit i = true → J i = true))) (fun k x h => h.1) ?_ (j := 0) ⟨Nat.zero_le _, 1, rfl, Or.inl ⟨rfl, fun i hi => absurd hi (Nat.not_lt_zero _)⟩⟩
  rintro k x P ⟨hk, v2, rfl, hv⟩ hP
  dsimp only
  unfold wpR_areKnown_4_F
  rw [e9, nI_leI (by omega) (by omega), hb_0 (by omega)]
  refine ⟨fun e => ?_, fun e => ⟨fun e2 => ?_, fun e2 => ?_⟩⟩
  · obtain rfl : k = μ.1 9 := by omega
    rcases hv with ⟨rfl, hg⟩ | ⟨rfl, hg⟩
    · exact ⟨rfl, h1 hg⟩
    · exact ⟨rfl, h0 hg⟩
  · rcases hv with ⟨e3, -⟩ | ⟨-, hg⟩
    · rw [e2] at e3; exact absurd e3 (by decide)
    · exact hP _ ⟨by omega, 0, by rw [nI_1], Or.inr ⟨rfl, fun hh => hg (fun i hi => hh i (by omega))⟩⟩
  · have hg : ∀ i : Nat, i < k → b.testBit i = true → J i = true := by
      rcases hv with ⟨-, hg⟩ | ⟨e3, -⟩
      · exact hg
      · exact absurd e3 e2
    rw [bt_nI _ (by omega), nI_clamp (by omega), hJ k (by omega), bI_0]
    refine ⟨fun g => hP _ ⟨by omega, 1, by rw [nI_1], Or.inl ⟨rfl, fun i hi hb => ?_⟩⟩, fun g => ⟨vp_in_nI (by omega) (by omega), fun g2 => hP _ ⟨by omega, 0, by rw [nI_1], Or.inr ⟨rfl, fun hh => ?_⟩⟩, fun g2 => hP _ ⟨by omega, 1, by rw [nI_1], Or.inl ⟨rfl, fun i hi hb => ?_⟩⟩⟩⟩
    · by_cases ei : i = k
      · subst ei; rw [g] at hb; exact absurd hb (by decide)
      · exact hg i (by omega) hb
    · have := hh k (by omega) (by simpa using g)
      rw [g2] at this
      exact absurd this (by decide)
    · by_cases ei : i = k
      · subst ei; simpa using g2
      · exact hg i (by omega) hb
end RH
end
