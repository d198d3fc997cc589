section
/-! slope -/
theorem kGr2 {X : Nat → Nat → Prop} {σ σ' : CSt} {lab lab' : Nat → Nat} {ad ad' : Nat → Nat → Nat} {μ μ' : MSt} (h : CRep σ lab ad μ) (hk : keepS X σ lab σ' lab') {i : Nat} (hi : i < μ.1 22) (hx : ¬ X 2 i) (e2 : ad' 2 i = ad 2 i) (ea : ∀ k : Nat, k < 7 → μ'.2.1 21 (7 * i + k) = μ.2.1 21 (7 * i + k)) (hs : μ.2.1 21 (7 * i + 2) ≤ 3) (ee : μ.2.1 21 (7 * i + 2) = 2 ∨ μ.2.1 21 (7 * i + 2) = 3 → mEp μ' i = mEp μ i) : cGr σ' lab' ad' μ' i := by
  by_cases e : μ.2.1 21 (7 * i + 2) = 2 ∨ μ.2.1 21 (7 * i + 2) = 3
  · exact kGr h hk hi hx e2 ea (ee e)
  · unfold cGr
    rw [show μ'.2.1 21 (7 * i) = μ.2.1 21 (7 * i) from ea 0 (by decide), ea 1 (by decide), ea 2 (by decide), ea 3 (by decide), ea 4 (by decide), ea 5 (by decide), ea 6 (by decide)]
    obtain ⟨a1, a2, a3, a4, a5, a6, a7, a8, a9, -⟩ := (h.gr hi).kp (ad' := ad') hk hx e2
    refine ⟨a1, a2, a3, a4, a5, a6, a7, a8, a9, fun e' => absurd ?_ e⟩
    rw [show (2 : Int32) = nI 2 from rfl, show (3 : Int32) = nI 3 from rfl, nI_eq (by omega) (by omega), nI_eq (by omega) (by omega)] at e'
    exact e'
section SLP
variable {σ : CSt} {lab : Nat → Nat} {ad : Nat → Nat → Nat} {ρ : RSt} {μ : MSt} {j : Nat}
/-- a new slope, with k cells -/
def mSlo (μ : MSt) (fr to mi st k : Nat) : MSt :=
  (fun q => if q = 14 then μ.1 14 + k else if q = 9 then μ.1 9 + 1 else μ.1 q,
   fun a i => if a = 8 ∧ 6 * μ.1 9 ≤ i ∧ i < 6 * μ.1 9 + 6 then (if i = 6 * μ.1 9 then fr else if i = 6 * μ.1 9 + 1 then to else if i = 6 * μ.1 9 + 2 then mi else if i = 6 * μ.1 9 + 3 then st else if i = 6 * μ.1 9 + 4 then μ.1 14 else k)
     else if a = 11 ∧ μ.1 14 ≤ i ∧ i < μ.1 14 + k then μ.1 9 else μ.2.1 a i, μ.2.2)
theorem mSlo_1 {fr to mi st k q : Nat} (h : q ≠ 14 ∧ q ≠ 9) : (mSlo μ fr to mi st k).1 q = μ.1 q := by
  show (if q = 14 then _ else if q = 9 then _ else _) = _
  rw [if_neg h.1, if_neg h.2]
theorem mSlo_14 {fr to mi st k : Nat} : (mSlo μ fr to mi st k).1 14 = μ.1 14 + k := rfl
theorem mSlo_9 {fr to mi st k : Nat} : (mSlo μ fr to mi st k).1 9 = μ.1 9 + 1 := rfl
theorem mSlo_2 {fr to mi st k a i : Nat} (h8 : a = 8 → i < 6 * μ.1 9) (h11 : a = 11 → i < μ.1 14 ∨ μ.1 14 + k ≤ i) : (mSlo μ fr to mi st k).2.1 a i = μ.2.1 a i := by
  show (if a = 8 ∧ 6 * μ.1 9 ≤ i ∧ i < 6 * μ.1 9 + 6 then _ else if a = 11 ∧ μ.1 14 ≤ i ∧ i < μ.1 14 + k then _ else _) = _
  rw [if_neg (fun e => by have := h8 e.1; omega), if_neg (fun e => by have := h11 e.1; omega)]
theorem mSlo_11 {fr to mi st k i : Nat} (h : μ.1 14 ≤ i ∧ i < μ.1 14 + k) : (mSlo μ fr to mi st k).2.1 11 i = μ.1 9 := by
  unfold mSlo
  dsimp only
  rw [if_neg (fun e => absurd e.1 (by decide)), if_pos ⟨rfl, h⟩]
theorem mSlo_8 {fr to mi st k : Nat} : (mSlo μ fr to mi st k).2.1 8 (6 * μ.1 9) = fr ∧ (mSlo μ fr to mi st k).2.1 8 (6 * μ.1 9 + 1) = to ∧ (mSlo μ fr to mi st k).2.1 8 (6 * μ.1 9 + 2) = mi ∧ (mSlo μ fr to mi st k).2.1 8 (6 * μ.1 9 + 3) = st ∧ (mSlo μ fr to mi st k).2.1 8 (6 * μ.1 9 + 4) = μ.1 14 ∧ (mSlo μ fr to mi st k).2.1 8 (6 * μ.1 9 + 5) = k := by
  have key : ∀ i : Nat, 6 * μ.1 9 ≤ i ∧ i < 6 * μ.1 9 + 6 → (mSlo μ fr to mi st k).2.1 8 i = (if i = 6 * μ.1 9 then fr else if i = 6 * μ.1 9 + 1 then to else if i = 6 * μ.1 9 + 2 then mi else if i = 6 * μ.1 9 + 3 then st else if i = 6 * μ.1 9 + 4 then μ.1 14 else k) := fun i hi => if_pos ⟨rfl, hi⟩
  refine ⟨?_, ?_, ?_, ?_, ?_, ?_⟩
  · rw [key _ (by omega), if_pos rfl]
  · rw [key _ (by omega), if_neg (by omega), if_pos rfl]
  · rw [key _ (by omega), if_neg (by omega), if_neg (by omega), if_pos rfl]
  · rw [key _ (by omega), if_neg (by omega), if_neg (by omega), if_neg (by omega), if_pos rfl]
  · rw [key _ (by omega), if_neg (by omega), if_neg (by omega), if_neg (by omega), if_neg (by omega), if_pos rfl]
  · rw [key _ (by omega), if_neg (by omega), if_neg (by omega), if_neg (by omega), if_neg (by omega), if_neg (by omega)]
theorem slope_rep {σ0 σ1 : CSt} {lab1 lab2 : Nat → Nat} {q q1 q5 fr to mi st : Nat} (h : CRep σ lab ad μ) (hI : MI μ j) (h8 : μ.1 9 < 10)
    (hk : keepS (fun k l => (k = 6 ∧ l = μ.1 9) ∨ (k = 0 ∧ l = 20 + μ.1 9) ∨ (k = 9 ∧ l = 200 + μ.1 9)) σ lab σ0 lab1)
    (hq : cAt σ0 6 q ∧ lab1 q = μ.1 9) (hq1 : isL σ0 lab1 q1 (20 + μ.1 9) 0 (ad 1)) (hq5 : cAt σ0 9 q5 ∧ lab1 q5 = 200 + μ.1 9)
    (hf : cR σ0 101 q = some q1 ∧ cR σ0 104 q = some q5 ∧ cI σ0 96 q = nI (μ.1 9) ∧ cI σ0 97 q = nI fr ∧ cI σ0 98 q = nI to ∧ cI σ0 99 q = nI mi ∧ cI σ0 100 q = nI st ∧ cI σ0 102 q = 0 ∧ cI σ0 103 q = 0)
    (hk2 : keepS (addX 1) σ0 lab1 σ1 lab2) (hl : isL σ1 lab2 (ad 0 1) 1 (μ.1 9 + 1) (va_up (ad 6) (μ.1 9) q)) :
    CRep σ1 lab2 (cu2 (cu2 (cu2 ad 6 (μ.1 9) q) 0 (20 + μ.1 9) q1) 9 (200 + μ.1 9) q5) (mSlo μ fr to mi st 0) := by
  have hc := hI.cs
  have hz := hI.ze
  have hkk : keepS (fun k l => (k = 6 ∧ l = μ.1 9) ∨ (k = 0 ∧ (l = 20 + μ.1 9 ∨ l = 1)) ∨ (k = 10 ∧ l = 1) ∨ (k = 9 ∧ l = 200 + μ.1 9)) σ lab σ1 lab2 :=
    (hk.mono (fun k l hx => by omega)).tr (hk2.mono (fun k l hx => by unfold addX at hx; omega))
  have ea : ∀ k l : Nat, (k = 6 → l ≠ μ.1 9) → (k = 0 → l ≠ 20 + μ.1 9) → (k = 9 → l ≠ 200 + μ.1 9) → cu2 (cu2 (cu2 ad 6 (μ.1 9) q) 0 (20 + μ.1 9) q1) 9 (200 + μ.1 9) q5 k l = ad k l := fun k l a b c => by rw [adu_n c, adu_n b, adu_n a]
  have e6 : cu2 (cu2 (cu2 ad 6 (μ.1 9) q) 0 (20 + μ.1 9) q1) 9 (200 + μ.1 9) q5 6 (μ.1 9) = q := by rw [adu_n (by omega), adu_n (by omega), adu_s]
  have e0 : cu2 (cu2 (cu2 ad 6 (μ.1 9) q) 0 (20 + μ.1 9) q1) 9 (200 + μ.1 9) q5 0 (20 + μ.1 9) = q1 := by rw [adu_n (by omega), adu_s]
  have e9 : cu2 (cu2 (cu2 ad 6 (μ.1 9) q) 0 (20 + μ.1 9) q1) 9 (200 + μ.1 9) q5 9 (200 + μ.1 9) = q5 := adu_s
  have f18 : (mSlo μ fr to mi st 0).2.1 18 (μ.1 9) = 0 := by rw [mSlo_2 (by omega) (by omega)]; exact hz.2.1 _ (Nat.le_refl _)
  obtain ⟨g0, g1, g2, g3, g4, g5⟩ := mSlo_8 (μ := μ) (fr := fr) (to := to) (mi := mi) (st := st) (k := 0)
  refine ⟨?_, ?_, fun i hi => ?_, fun i hi => ?_, fun i hi => ?_, fun i hi => ?_, fun i hi => ?_, fun i hi => ?_, fun i hi => ?_, fun i hi => ?_, fun i hi => ?_, ?_, ?_⟩
  · exact kX h hkk (by omega) (ea _ _ (by omega) (by omega) (by omega)) (fun i hi => ea _ _ (by omega) (by omega) (by omega)) (ea _ _ (by omega) (by omega) (by omega)) (ea _ _ (by omega) (by omega) (by omega)) (fun k hk => mSlo_1 (by omega)) rfl
  · unfold cLs lsO
    rw [mSlo_14, mSlo_9, mSlo_1 (by omega), mSlo_1 (by omega), mSlo_1 (by omega), ea 0 0 (by omega) (by omega) (by omega), ea 0 1 (by omega) (by omega) (by omega), ea 0 2 (by omega) (by omega) (by omega), ea 0 3 (by omega) (by omega) (by omega), ea 0 4 (by omega) (by omega) (by omega)]
    refine ⟨h.ls.1.kp hkk (by omega) (by omega) (fun i hi => ea _ _ (by omega) (by omega) (by omega)), hl.re (fun i hi => ?_), h.ls.2.2.1.kp hkk (by omega) (by omega) (fun i hi => ea _ _ (by omega) (by omega) (by omega)), h.ls.2.2.2.1.kp hkk (by omega) (by omega) (fun i hi => ea _ _ (by omega) (by omega) (by omega)), h.ls.2.2.2.2.kp hkk (by omega) (by omega) (fun i hi => ea _ _ (by omega) (by omega) (by omega))⟩
    rw [up_ap]
    by_cases e : i = μ.1 9
    · rw [if_pos e, e, e6]
    · rw [if_neg e, ea _ _ (by omega) (by omega) (by omega)]
  · rw [mSlo_1 (by omega)] at hi
    exact kLi h hkk (by omega) (by omega) (ea _ _ (by omega) (by omega) (by omega)) (ea _ _ (by omega) (by omega) (by omega)) (fun k hk => mSlo_2 (by omega) (by omega)) (mSlo_2 (by omega) (by omega)) (mWait_eq (mSlo_2 (by omega) (by omega)) (fun _ _ => mSlo_2 (by omega) (by omega)) (fun _ _ => mSlo_2 (by omega) (by omega)))
  · rw [mSlo_1 (by omega)] at hi
    exact kRo h hkk (by omega) (by omega) (ea _ _ (by omega) (by omega) (by omega)) (mSlo_2 (by omega) (by omega)) (fun _ _ => mSlo_2 (by omega) (by omega)) (fun _ _ => ea _ _ (by omega) (by omega) (by omega))
  · rw [mSlo_9] at hi
    by_cases e : i = μ.1 9
    · subst e
      have hs := hk2.same hq.1 hq.2 (by unfold addX; omega)
      have fn : mNm (mSlo μ fr to mi st 0) (μ.1 9) = 0 := by unfold mNm; rw [f18, if_neg (by decide)]
      unfold cSl slO obj
      rw [e6, e0, e9, g0, g1, g2, g3, f18, fn, hs.2.1 101 (by decide), hs.2.1 104 (by decide), hs.1 96 (by unfold scrI; omega), hs.1 97 (by unfold scrI; omega), hs.1 98 (by unfold scrI; omega), hs.1 99 (by unfold scrI; omega), hs.1 100 (by unfold scrI; omega), hs.1 102 (by unfold scrI; omega), hs.1 103 (by unfold scrI; omega)]
      exact ⟨⟨hk2.at hq.1, (hk2.lb hq.1).trans hq.2⟩, hf⟩
    · exact kSl h hkk (by omega) (by omega) (ea _ _ (by omega) (by omega) (by omega)) (ea _ _ (by omega) (by omega) (by omega)) (ea _ _ (by omega) (by omega) (by omega)) (fun _ _ => mSlo_2 (by omega) (by omega)) (mSlo_2 (by omega) (by omega)) (mNm_eq (mSlo_2 (by omega) (by omega)) (fun _ => mSlo_2 (by omega) (by omega)) (fun _ _ _ => ⟨mSlo_2 (by omega) (by omega), mSlo_2 (by omega) (by omega)⟩))
  · rw [mSlo_9] at hi
    by_cases e : i = μ.1 9
    · subst e
      unfold cSc
      rw [e0, g5]
      exact hq1.kp hk2 (by unfold addX; omega) (by unfold addX; omega) (fun i hi => absurd hi (Nat.not_lt_zero _))
    · have hs := hI.sl i (by omega)
      exact kSc h hkk (by omega) (by omega) (ea _ _ (by omega) (by omega) (by omega)) (fun _ _ => mSlo_2 (by omega) (by omega)) (fun _ _ => ea _ _ (by omega) (by omega) (by omega))
  · rw [mSlo_9] at hi
    by_cases e : i = μ.1 9
    · subst e
      unfold cCo obj
      rw [e9, f18]
      exact ⟨⟨hk2.at hq5.1, (hk2.lb hq5.1).trans hq5.2⟩, fun e => absurd e (by decide)⟩
    · exact kCo h hkk (by omega) (by omega) (ea _ _ (by omega) (by omega) (by omega)) (mSlo_2 (by omega) (by omega)) (fun _ => mSlo_2 (by omega) (by omega)) (fun _ _ _ => ⟨mSlo_2 (by omega) (by omega), mSlo_2 (by omega) (by omega)⟩)
  · rw [mSlo_14] at hi
    exact kCe h hkk (by omega) (by omega) (ea _ _ (by omega) (by omega) (by omega)) (ea _ _ (by omega) (by omega) (by omega)) (mSlo_2 (by omega) (by omega)) (mSlo_2 (by omega) (by omega)) rfl
  · rw [mSlo_14] at hi
    exact kSn h hkk (by omega) (by omega) (ea _ _ (by omega) (by omega) (by omega)) (fun _ _ => mSlo_2 (by omega) (by omega))
  · rw [mSlo_1 (by omega)] at hi
    have hg := hI.gr i hi
    have ei : ∀ k : Nat, (mSlo μ fr to mi st 0).2.1 21 k = μ.2.1 21 k := fun k => mSlo_2 (by omega) (by omega)
    refine kGr2 h hkk hi (by omega) (ea _ _ (by omega) (by omega) (by omega)) (fun _ _ => ei _) (by omega) (fun e0 => ?_)
    unfold mEp
    rw [ei, ei]
    by_cases e : μ.2.1 21 (7 * i + 2) = 2
    · rw [if_pos e, if_pos e, mSlo_2 (by omega) (by omega)]
    · rw [if_neg e, if_neg e, mSlo_2 (by omega) (by omega)]
  · rw [mSlo_1 (by omega)] at hi
    exact kLk h hkk hi (by omega) (ea _ _ (by omega) (by omega) (by omega)) (ea _ _ (by omega) (by omega) (by omega)) (ea _ _ (by omega) (by omega) (by omega)) (mSlo_2 (by omega) (by omega)) (mSlo_2 (by omega) (by omega)) (mSlo_2 (by omega) (by omega))
  · exact h.re.kp hkk (by omega) (ea _ _ (by omega) (by omega) (by omega)) (ea _ _ (by omega) (by omega) (by omega))
  · exact kTp h hkk (by omega) (ea _ _ (by omega) (by omega) (by omega)) (fun _ _ => rfl)
end SLP
end
