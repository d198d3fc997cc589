section
/-! what a step leaves of the picture, piece by piece -/
section KP
variable {X : Nat → Nat → Prop} {σ σ' : CSt} {lab lab' : Nat → Nat} {ad ad' : Nat → Nat → Nat} {μ μ' : MSt}
theorem kX (h : CRep σ lab ad μ) (hk : keepS X σ lab σ' lab') (hx : ¬ X 7 0) (e : ad' 7 0 = ad 7 0) (e0 : ∀ i : Nat, i < 5 → ad' 0 i = ad 0 i) (e5 : ad' 5 0 = ad 5 0) (e8 : ad' 8 0 = ad 8 0) (e1 : ∀ k, k = 2 ∨ k = 27 ∨ k = 28 ∨ k = 20 ∨ k = 50 ∨ k = 51 ∨ k = 52 ∨ k = 54 → μ'.1 k = μ.1 k) (e3 : μ'.2.2 19 0 = μ.2.2 19 0) : cX σ' lab' ad' μ' := by
  unfold cX
  rw [e1 2 (by omega), e1 27 (by omega), e1 28 (by omega), e1 20 (by omega), e1 50 (by omega), e1 51 (by omega), e1 52 (by omega), e1 54 (by omega), e3]
  exact h.x.kp hk hx e e0 e5 e8
theorem kLs (h : CRep σ lab ad μ) (hk : keepS X σ lab σ' lab') (hx : ∀ i : Nat, i < 5 → ¬ X 0 i ∧ ¬ X 10 i) (e0 : ∀ i : Nat, i < 5 → ad' 0 i = ad 0 i) (e3 : ∀ i : Nat, i < μ.1 7 → ad' 3 i = ad 3 i) (e6 : ∀ i : Nat, i < μ.1 9 → ad' 6 i = ad 6 i) (e1 : ∀ i : Nat, i < μ.1 14 → ad' 1 i = ad 1 i) (e2 : ∀ i : Nat, i < μ.1 22 → ad' 2 i = ad 2 i) (e4 : ∀ i : Nat, i < μ.1 26 → ad' 4 i = ad 4 i) (en : ∀ k, k = 7 ∨ k = 9 ∨ k = 14 ∨ k = 22 ∨ k = 26 → μ'.1 k = μ.1 k) : cLs σ' lab' ad' μ' := by
  unfold cLs
  rw [en 7 (by omega), en 9 (by omega), en 14 (by omega), en 22 (by omega), en 26 (by omega)]
  exact h.ls.kp hk hx e0 e3 e6 e1 e2 e4
theorem kLi (h : CRep σ lab ad μ) (hk : keepS X σ lab σ' lab') {i : Nat} (hi : i < μ.1 7) (hx : ¬ X 3 i) (e3 : ad' 3 i = ad 3 i) (e0 : ad' 0 (10 + i) = ad 0 (10 + i)) (ea : ∀ k : Nat, k < 5 → μ'.2.1 3 (5 * i + k) = μ.2.1 3 (5 * i + k)) (e4 : μ'.2.1 4 i = μ.2.1 4 i) (ew : mWait μ' i = mWait μ i) : cLi σ' lab' ad' μ' i := by
  unfold cLi
  rw [ew, e4, show μ'.2.1 3 (5 * i) = μ.2.1 3 (5 * i) from ea 0 (by decide), ea 1 (by decide), ea 2 (by decide), ea 3 (by decide), ea 4 (by decide)]
  exact (h.li hi).kp hk hx e3 e0
theorem kRo (h : CRep σ lab ad μ) (hk : keepS X σ lab σ' lab') {i : Nat} (hi : i < μ.1 7) (hx : ¬ X 0 (10 + i) ∧ ¬ X 10 (10 + i)) (e0 : ad' 0 (10 + i) = ad 0 (10 + i)) (e6 : μ'.2.1 6 i = μ.2.1 6 i) (e5 : ∀ k : Nat, k < μ.2.1 6 i → μ'.2.1 5 (60 * i + k) = μ.2.1 5 (60 * i + k)) (e2 : ∀ k : Nat, k < μ.2.1 6 i → ad' 2 (μ.2.1 5 (60 * i + k)) = ad 2 (μ.2.1 5 (60 * i + k))) : cRo σ' lab' ad' μ' i := by
  unfold cRo
  rw [e6, e0]
  exact (h.ro hi).kp hk hx.1 hx.2 (fun k hk => by rw [e5 k hk, e2 k hk])
theorem kSl (h : CRep σ lab ad μ) (hk : keepS X σ lab σ' lab') {i : Nat} (hi : i < μ.1 9) (hx : ¬ X 6 i) (e6 : ad' 6 i = ad 6 i) (e0 : ad' 0 (20 + i) = ad 0 (20 + i)) (e9 : ad' 9 (200 + i) = ad 9 (200 + i)) (ea : ∀ k : Nat, k < 4 → μ'.2.1 8 (6 * i + k) = μ.2.1 8 (6 * i + k)) (e18 : μ'.2.1 18 i = μ.2.1 18 i) (en : mNm μ' i = mNm μ i) : cSl σ' lab' ad' μ' i := by
  unfold cSl
  rw [en, e18, show μ'.2.1 8 (6 * i) = μ.2.1 8 (6 * i) from ea 0 (by decide), ea 1 (by decide), ea 2 (by decide), ea 3 (by decide)]
  exact (h.sl hi).kp hk hx e6 e0 e9
theorem kSc (h : CRep σ lab ad μ) (hk : keepS X σ lab σ' lab') {i : Nat} (hi : i < μ.1 9) (hx : ¬ X 0 (20 + i) ∧ ¬ X 10 (20 + i)) (e0 : ad' 0 (20 + i) = ad 0 (20 + i)) (ea : ∀ k : Nat, k < 6 → μ'.2.1 8 (6 * i + k) = μ.2.1 8 (6 * i + k)) (e1 : ∀ k : Nat, k < μ.2.1 8 (6 * i + 5) → ad' 1 (μ.2.1 8 (6 * i + 4) + k) = ad 1 (μ.2.1 8 (6 * i + 4) + k)) : cSc σ' lab' ad' μ' i := by
  unfold cSc
  rw [ea 4 (by decide), ea 5 (by decide), e0]
  exact (h.sc hi).kp hk hx.1 hx.2 e1
theorem kCo (h : CRep σ lab ad μ) (hk : keepS X σ lab σ' lab') {i : Nat} (hi : i < μ.1 9) (hx : ¬ X 9 (200 + i)) (e9 : ad' 9 (200 + i) = ad 9 (200 + i)) (e18 : μ'.2.1 18 i = μ.2.1 18 i) (e17 : μ.2.1 18 i = 1 → μ'.2.1 17 i = μ.2.1 17 i) (ec : μ.2.1 18 i = 1 → ∀ k : Nat, k < μ.2.1 17 i → μ'.2.1 15 (400 * i + k) = μ.2.1 15 (400 * i + k) ∧ μ'.2.1 16 (400 * i + k) = μ.2.1 16 (400 * i + k)) : cCo σ' lab' ad' μ' i := by
  refine ⟨(h.co hi).1.kp hk e9, fun e => ?_⟩
  rw [e18] at e
  rw [e17 e]
  exact ((h.co hi).2 e).kp hk hx e9 (fun k hk => by rw [(ec e k hk).1, (ec e k hk).2])
theorem kCe (h : CRep σ lab ad μ) (hk : keepS X σ lab σ' lab') {i : Nat} (hi : i < μ.1 14) (hx : ¬ X 1 i) (e1 : ad' 1 i = ad 1 i) (e9 : ad' 9 (100 + i) = ad 9 (100 + i)) (e11 : μ'.2.1 11 i = μ.2.1 11 i) (e12 : μ'.2.1 12 i = μ.2.1 12 i) (e13 : μ'.2.2 13 i = μ.2.2 13 i) : cCe σ' lab' ad' μ' i := by
  unfold cCe
  rw [e11, e12, e13]
  exact (h.ce hi).kp hk hx e1 e9
theorem kSn (h : CRep σ lab ad μ) (hk : keepS X σ lab σ' lab') {i : Nat} (hi : i < μ.1 14) (hx : ¬ X 9 (100 + i)) (e9 : ad' 9 (100 + i) = ad 9 (100 + i)) (ea : ∀ k : Nat, k < 4 → μ'.2.1 10 (4 * i + k) = μ.2.1 10 (4 * i + k)) : cSn σ' lab' ad' μ' i :=
  (h.sn hi).kp hk hx e9 (fun k hk => by rw [ea k hk])
theorem kGr (h : CRep σ lab ad μ) (hk : keepS X σ lab σ' lab') {i : Nat} (hi : i < μ.1 22) (hx : ¬ X 2 i) (e2 : ad' 2 i = ad 2 i) (ea : ∀ k : Nat, k < 7 → μ'.2.1 21 (7 * i + k) = μ.2.1 21 (7 * i + k)) (ee : mEp μ' i = mEp μ i) : cGr σ' lab' ad' μ' i := by
  unfold cGr
  rw [ee, show μ'.2.1 21 (7 * i) = μ.2.1 21 (7 * i) from ea 0 (by decide), ea 1 (by decide), ea 2 (by decide), ea 3 (by decide), ea 4 (by decide), ea 5 (by decide), ea 6 (by decide)]
  exact (h.gr hi).kp hk hx e2
theorem kLk (h : CRep σ lab ad μ) (hk : keepS X σ lab σ' lab') {i : Nat} (hi : i < μ.1 26) (hx : ¬ X 4 i) (e4 : ad' 4 i = ad 4 i) (ea : ad' 1 (μ.2.1 23 i) = ad 1 (μ.2.1 23 i)) (eb : ad' 1 (μ.2.1 24 i) = ad 1 (μ.2.1 24 i)) (e23 : μ'.2.1 23 i = μ.2.1 23 i) (e24 : μ'.2.1 24 i = μ.2.1 24 i) (e25 : μ'.2.1 25 i = μ.2.1 25 i) : cLk σ' lab' ad' μ' i := by
  unfold cLk
  rw [e23, e24, e25]
  exact (h.lk hi).kp hk hx e4 ea eb
theorem kTp (h : CRep σ lab ad μ) (hk : keepS X σ lab σ' lab') (hx : ¬ X 8 0) (e8 : ad' 8 0 = ad 8 0) (e1 : ∀ i : Nat, i < 400 → μ'.2.2 1 i = μ.2.2 1 i) : cTp σ' lab' ad' μ' :=
  h.tp.kp hk hx e8 (fun i hi => e1 i hi)
theorem sumN_eq {f g : Nat → Nat} {n : Nat} (h : ∀ k : Nat, k < n → f k = g k) : sumN f n = sumN g n := by
  induction n with
  | zero => rfl
  | succ n ih => show sumN f n + f n = sumN g n + g n; rw [ih (fun k hk => h k (by omega)), h n (by omega)]
theorem mWait_eq {i : Nat} (e6 : μ'.2.1 6 i = μ.2.1 6 i) (e5 : ∀ k : Nat, k < μ.2.1 6 i → μ'.2.1 5 (60 * i + k) = μ.2.1 5 (60 * i + k)) (e21 : ∀ k : Nat, k < μ.2.1 6 i → μ'.2.1 21 (7 * μ.2.1 5 (60 * i + k)) = μ.2.1 21 (7 * μ.2.1 5 (60 * i + k))) : mWait μ' i = mWait μ i := by
  unfold mWait
  rw [e6]
  exact sumN_eq (fun k hk => by rw [e5 k hk, e21 k hk])
theorem bitsN_eq {c n c' n' : Nat → Nat} {len : Nat} (h : ∀ k : Nat, k < len → c' k = c k ∧ n' k = n k) : bitsN c' n' len = bitsN c n len := by
  induction len with
  | zero => rfl
  | succ k ih =>
    show (if c' k = 12 then _ else _) = (if c k = 12 then _ else _)
    rw [ih (fun i hi => h i (by omega)), (h k (by omega)).1, (h k (by omega)).2]
theorem mNm_eq {s : Nat} (e18 : μ'.2.1 18 s = μ.2.1 18 s) (e17 : μ.2.1 18 s = 1 → μ'.2.1 17 s = μ.2.1 17 s) (ec : μ.2.1 18 s = 1 → ∀ k : Nat, k < μ.2.1 17 s → μ'.2.1 15 (400 * s + k) = μ.2.1 15 (400 * s + k) ∧ μ'.2.1 16 (400 * s + k) = μ.2.1 16 (400 * s + k)) : mNm μ' s = mNm μ s := by
  unfold mNm
  rw [e18]
  by_cases h : μ.2.1 18 s = 1
  · rw [if_pos h, if_pos h]
    unfold mBits
    rw [e17 h]
    exact bitsN_eq (ec h)
  · rw [if_neg h, if_neg h]
theorem mEp_eq {g : Nat} (ea : ∀ k : Nat, k < 7 → μ'.2.1 21 (7 * g + k) = μ.2.1 21 (7 * g + k)) (e3 : μ.2.1 21 (7 * g + 2) = 2 → μ'.2.1 3 (5 * μ.2.1 21 (7 * g + 3) + 1) = μ.2.1 3 (5 * μ.2.1 21 (7 * g + 3) + 1)) (e8 : μ'.2.1 8 (6 * μ.2.1 21 (7 * g + 3) + 1) = μ.2.1 8 (6 * μ.2.1 21 (7 * g + 3) + 1)) : mEp μ' g = mEp μ g := by
  unfold mEp
  rw [ea 2 (by decide), ea 3 (by decide), e8]
  by_cases h : μ.2.1 21 (7 * g + 2) = 2
  · rw [if_pos h, if_pos h, e3 h]
  · rw [if_neg h, if_neg h]
end KP
section SETS
variable {σ σ' : CSt} {lab : Nat → Nat} {ad : Nat → Nat → Nat} {μ μ' : MSt}
/-- a lift's own fields change alone -/
theorem CRep.setLi {l : Nat} (h : CRep σ lab ad μ) (hk : keepS (atX 3 l) σ lab σ' lab) (hl : l < μ.1 7 → cLi σ' lab ad μ' l) (h1 : μ'.1 = μ.1) (h3 : μ'.2.2 = μ.2.2) (h2 : ∀ k, k ≠ 4 → μ'.2.1 k = μ.2.1 k) (h4 : ∀ i, i ≠ l → μ'.2.1 4 i = μ.2.1 4 i) : CRep σ' lab ad μ' := by
  refine ⟨kX h hk (by unfold atX; omega) rfl (fun _ _ => rfl) rfl rfl (fun k _ => by rw [h1]) (by rw [h3]), kLs h hk (fun i _ => by unfold atX; omega) (fun _ _ => rfl) (fun _ _ => rfl) (fun _ _ => rfl) (fun _ _ => rfl) (fun _ _ => rfl) (fun _ _ => rfl) (fun k _ => by rw [h1]), fun i hi => ?_, fun i hi => ?_, fun i hi => ?_, fun i hi => ?_, fun i hi => ?_, fun i hi => ?_, fun i hi => ?_, fun i hi => ?_, fun i hi => ?_, ?_, ?_⟩
  · rw [h1] at hi
    by_cases e : i = l
    · subst e; exact hl hi
    · exact kLi h hk hi (by unfold atX; omega) rfl rfl (fun _ _ => by rw [h2 3 (by decide)]) (h4 i e) (mWait_eq (by rw [h2 6 (by decide)]) (fun _ _ => by rw [h2 5 (by decide)]) (fun _ _ => by rw [h2 21 (by decide)]))
  · rw [h1] at hi; exact kRo h hk hi (by unfold atX; omega) rfl (by rw [h2 6 (by decide)]) (fun _ _ => by rw [h2 5 (by decide)]) (fun _ _ => rfl)
  · rw [h1] at hi; exact kSl h hk hi (by unfold atX; omega) rfl rfl rfl (fun _ _ => by rw [h2 8 (by decide)]) (by rw [h2 18 (by decide)]) (mNm_eq (by rw [h2 18 (by decide)]) (fun _ => by rw [h2 17 (by decide)]) (fun _ _ _ => by rw [h2 15 (by decide), h2 16 (by decide)]; exact ⟨rfl, rfl⟩))
  · rw [h1] at hi; exact kSc h hk hi (by unfold atX; omega) rfl (fun _ _ => by rw [h2 8 (by decide)]) (fun _ _ => rfl)
  · rw [h1] at hi; exact kCo h hk hi (by unfold atX; omega) rfl (by rw [h2 18 (by decide)]) (fun _ => by rw [h2 17 (by decide)]) (fun _ _ _ => by rw [h2 15 (by decide), h2 16 (by decide)]; exact ⟨rfl, rfl⟩)
  · rw [h1] at hi; exact kCe h hk hi (by unfold atX; omega) rfl rfl (by rw [h2 11 (by decide)]) (by rw [h2 12 (by decide)]) (by rw [h3])
  · rw [h1] at hi; exact kSn h hk hi (by unfold atX; omega) rfl (fun _ _ => by rw [h2 10 (by decide)])
  · rw [h1] at hi; exact kGr h hk hi (by unfold atX; omega) rfl (fun _ _ => by rw [h2 21 (by decide)]) (mEp_eq (fun _ _ => by rw [h2 21 (by decide)]) (fun _ => by rw [h2 3 (by decide)]) (by rw [h2 8 (by decide)]))
  · rw [h1] at hi; exact kLk h hk hi (by unfold atX; omega) rfl rfl rfl (by rw [h2 23 (by decide)]) (by rw [h2 24 (by decide)]) (by rw [h2 25 (by decide)])
  · exact h.re.kp hk (by unfold atX; omega) rfl rfl
  · exact kTp h hk (by unfold atX; omega) rfl (fun _ _ => by rw [h3])
/-- a slope's own fields change alone (its rule goes) -/
theorem CRep.setSl {l : Nat} (h : CRep σ lab ad μ) (hk : keepS (atX 6 l) σ lab σ' lab) (hl : l < μ.1 9 → cSl σ' lab ad μ' l) (h1 : μ'.1 = μ.1) (h3 : μ'.2.2 = μ.2.2) (h2 : ∀ k, k ≠ 18 → μ'.2.1 k = μ.2.1 k) (h4 : ∀ i, i ≠ l → μ'.2.1 18 i = μ.2.1 18 i) (h5 : μ'.2.1 18 l ≠ 1) : CRep σ' lab ad μ' := by
  refine ⟨kX h hk (by unfold atX; omega) rfl (fun _ _ => rfl) rfl rfl (fun k _ => by rw [h1]) (by rw [h3]), kLs h hk (fun i _ => by unfold atX; omega) (fun _ _ => rfl) (fun _ _ => rfl) (fun _ _ => rfl) (fun _ _ => rfl) (fun _ _ => rfl) (fun _ _ => rfl) (fun k _ => by rw [h1]), fun i hi => ?_, fun i hi => ?_, fun i hi => ?_, fun i hi => ?_, fun i hi => ?_, fun i hi => ?_, fun i hi => ?_, fun i hi => ?_, fun i hi => ?_, ?_, ?_⟩
  · rw [h1] at hi
    exact kLi h hk hi (by unfold atX; omega) rfl rfl (fun _ _ => by rw [h2 3 (by decide)]) (by rw [h2 4 (by decide)]) (mWait_eq (by rw [h2 6 (by decide)]) (fun _ _ => by rw [h2 5 (by decide)]) (fun _ _ => by rw [h2 21 (by decide)]))
  · rw [h1] at hi; exact kRo h hk hi (by unfold atX; omega) rfl (by rw [h2 6 (by decide)]) (fun _ _ => by rw [h2 5 (by decide)]) (fun _ _ => rfl)
  · rw [h1] at hi
    by_cases e : i = l
    · subst e; exact hl hi
    · exact kSl h hk hi (by unfold atX; omega) rfl rfl rfl (fun _ _ => by rw [h2 8 (by decide)]) (h4 i e) (mNm_eq (h4 i e) (fun _ => by rw [h2 17 (by decide)]) (fun _ _ _ => by rw [h2 15 (by decide), h2 16 (by decide)]; exact ⟨rfl, rfl⟩))
  · rw [h1] at hi; exact kSc h hk hi (by unfold atX; omega) rfl (fun _ _ => by rw [h2 8 (by decide)]) (fun _ _ => rfl)
  · rw [h1] at hi
    by_cases e : i = l
    · subst e; exact ⟨(h.co hi).1.kp hk rfl, fun e => absurd e h5⟩
    · exact kCo h hk hi (by unfold atX; omega) rfl (h4 i e) (fun _ => by rw [h2 17 (by decide)]) (fun _ _ _ => by rw [h2 15 (by decide), h2 16 (by decide)]; exact ⟨rfl, rfl⟩)
  · rw [h1] at hi; exact kCe h hk hi (by unfold atX; omega) rfl rfl (by rw [h2 11 (by decide)]) (by rw [h2 12 (by decide)]) (by rw [h3])
  · rw [h1] at hi; exact kSn h hk hi (by unfold atX; omega) rfl (fun _ _ => by rw [h2 10 (by decide)])
  · rw [h1] at hi; exact kGr h hk hi (by unfold atX; omega) rfl (fun _ _ => by rw [h2 21 (by decide)]) (mEp_eq (fun _ _ => by rw [h2 21 (by decide)]) (fun _ => by rw [h2 3 (by decide)]) (by rw [h2 8 (by decide)]))
  · rw [h1] at hi; exact kLk h hk hi (by unfold atX; omega) rfl rfl rfl (by rw [h2 23 (by decide)]) (by rw [h2 24 (by decide)]) (by rw [h2 25 (by decide)])
  · exact h.re.kp hk (by unfold atX; omega) rfl rfl
  · exact kTp h hk (by unfold atX; omega) rfl (fun _ _ => by rw [h3])
/-- a cell's own fields change alone -/
theorem CRep.setCe {l : Nat} (h : CRep σ lab ad μ) (hk : keepS (atX 1 l) σ lab σ' lab) (hl : l < μ.1 14 → cCe σ' lab ad μ' l) (h1 : μ'.1 = μ.1) (h3 : ∀ k, k ≠ 13 → μ'.2.2 k = μ.2.2 k) (h2 : ∀ k, k ≠ 12 → μ'.2.1 k = μ.2.1 k) (h4 : ∀ i, i ≠ l → μ'.2.1 12 i = μ.2.1 12 i ∧ μ'.2.2 13 i = μ.2.2 13 i) : CRep σ' lab ad μ' := by
  refine ⟨kX h hk (by unfold atX; omega) rfl (fun _ _ => rfl) rfl rfl (fun k _ => by rw [h1]) (by rw [h3 19 (by decide)]), kLs h hk (fun i _ => by unfold atX; omega) (fun _ _ => rfl) (fun _ _ => rfl) (fun _ _ => rfl) (fun _ _ => rfl) (fun _ _ => rfl) (fun _ _ => rfl) (fun k _ => by rw [h1]), fun i hi => ?_, fun i hi => ?_, fun i hi => ?_, fun i hi => ?_, fun i hi => ?_, fun i hi => ?_, fun i hi => ?_, fun i hi => ?_, fun i hi => ?_, ?_, ?_⟩
  · rw [h1] at hi
    exact kLi h hk hi (by unfold atX; omega) rfl rfl (fun _ _ => by rw [h2 3 (by decide)]) (by rw [h2 4 (by decide)]) (mWait_eq (by rw [h2 6 (by decide)]) (fun _ _ => by rw [h2 5 (by decide)]) (fun _ _ => by rw [h2 21 (by decide)]))
  · rw [h1] at hi; exact kRo h hk hi (by unfold atX; omega) rfl (by rw [h2 6 (by decide)]) (fun _ _ => by rw [h2 5 (by decide)]) (fun _ _ => rfl)
  · rw [h1] at hi
    exact kSl h hk hi (by unfold atX; omega) rfl rfl rfl (fun _ _ => by rw [h2 8 (by decide)]) (by rw [h2 18 (by decide)]) (mNm_eq (by rw [h2 18 (by decide)]) (fun _ => by rw [h2 17 (by decide)]) (fun _ _ _ => by rw [h2 15 (by decide), h2 16 (by decide)]; exact ⟨rfl, rfl⟩))
  · rw [h1] at hi; exact kSc h hk hi (by unfold atX; omega) rfl (fun _ _ => by rw [h2 8 (by decide)]) (fun _ _ => rfl)
  · rw [h1] at hi
    exact kCo h hk hi (by unfold atX; omega) rfl (by rw [h2 18 (by decide)]) (fun _ => by rw [h2 17 (by decide)]) (fun _ _ _ => by rw [h2 15 (by decide), h2 16 (by decide)]; exact ⟨rfl, rfl⟩)
  · rw [h1] at hi
    by_cases e : i = l
    · subst e; exact hl hi
    · exact kCe h hk hi (by unfold atX; omega) rfl rfl (by rw [h2 11 (by decide)]) (h4 i e).1 (h4 i e).2
  · rw [h1] at hi; exact kSn h hk hi (by unfold atX; omega) rfl (fun _ _ => by rw [h2 10 (by decide)])
  · rw [h1] at hi; exact kGr h hk hi (by unfold atX; omega) rfl (fun _ _ => by rw [h2 21 (by decide)]) (mEp_eq (fun _ _ => by rw [h2 21 (by decide)]) (fun _ => by rw [h2 3 (by decide)]) (by rw [h2 8 (by decide)]))
  · rw [h1] at hi; exact kLk h hk hi (by unfold atX; omega) rfl rfl rfl (by rw [h2 23 (by decide)]) (by rw [h2 24 (by decide)]) (by rw [h2 25 (by decide)])
  · exact h.re.kp hk (by unfold atX; omega) rfl rfl
  · exact kTp h hk (by unfold atX; omega) rfl (fun _ _ => by rw [h3 1 (by decide)])
/-- a cell's snow changes alone -/
theorem CRep.setSn {l : Nat} (h : CRep σ lab ad μ) (hk : keepS (atX 9 (100 + l)) σ lab σ' lab) (hl8 : l < 100) (hl : l < μ.1 14 → cSn σ' lab ad μ' l) (h1 : μ'.1 = μ.1) (h3 : μ'.2.2 = μ.2.2) (h2 : ∀ k, k ≠ 10 → μ'.2.1 k = μ.2.1 k) (h4 : ∀ i, i ≠ l → ∀ k, k < 4 → μ'.2.1 10 (4 * i + k) = μ.2.1 10 (4 * i + k)) : CRep σ' lab ad μ' := by
  refine ⟨kX h hk (by unfold atX; omega) rfl (fun _ _ => rfl) rfl rfl (fun k _ => by rw [h1]) (by rw [h3]), kLs h hk (fun i _ => by unfold atX; omega) (fun _ _ => rfl) (fun _ _ => rfl) (fun _ _ => rfl) (fun _ _ => rfl) (fun _ _ => rfl) (fun _ _ => rfl) (fun k _ => by rw [h1]), fun i hi => ?_, fun i hi => ?_, fun i hi => ?_, fun i hi => ?_, fun i hi => ?_, fun i hi => ?_, fun i hi => ?_, fun i hi => ?_, fun i hi => ?_, ?_, ?_⟩
  · rw [h1] at hi
    exact kLi h hk hi (by unfold atX; omega) rfl rfl (fun _ _ => by rw [h2 3 (by decide)]) (by rw [h2 4 (by decide)]) (mWait_eq (by rw [h2 6 (by decide)]) (fun _ _ => by rw [h2 5 (by decide)]) (fun _ _ => by rw [h2 21 (by decide)]))
  · rw [h1] at hi; exact kRo h hk hi (by unfold atX; omega) rfl (by rw [h2 6 (by decide)]) (fun _ _ => by rw [h2 5 (by decide)]) (fun _ _ => rfl)
  · rw [h1] at hi
    exact kSl h hk hi (by unfold atX; omega) rfl rfl rfl (fun _ _ => by rw [h2 8 (by decide)]) (by rw [h2 18 (by decide)]) (mNm_eq (by rw [h2 18 (by decide)]) (fun _ => by rw [h2 17 (by decide)]) (fun _ _ _ => by rw [h2 15 (by decide), h2 16 (by decide)]; exact ⟨rfl, rfl⟩))
  · rw [h1] at hi; exact kSc h hk hi (by unfold atX; omega) rfl (fun _ _ => by rw [h2 8 (by decide)]) (fun _ _ => rfl)
  · rw [h1] at hi
    exact kCo h hk hi (by unfold atX; omega) rfl (by rw [h2 18 (by decide)]) (fun _ => by rw [h2 17 (by decide)]) (fun _ _ _ => by rw [h2 15 (by decide), h2 16 (by decide)]; exact ⟨rfl, rfl⟩)
  · rw [h1] at hi; exact kCe h hk hi (by unfold atX; omega) rfl rfl (by rw [h2 11 (by decide)]) (by rw [h2 12 (by decide)]) (by rw [h3])
  · rw [h1] at hi
    by_cases e : i = l
    · subst e; exact hl hi
    · exact kSn h hk hi (by unfold atX; omega) rfl (h4 i e)
  · rw [h1] at hi; exact kGr h hk hi (by unfold atX; omega) rfl (fun _ _ => by rw [h2 21 (by decide)]) (mEp_eq (fun _ _ => by rw [h2 21 (by decide)]) (fun _ => by rw [h2 3 (by decide)]) (by rw [h2 8 (by decide)]))
  · rw [h1] at hi; exact kLk h hk hi (by unfold atX; omega) rfl rfl rfl (by rw [h2 23 (by decide)]) (by rw [h2 24 (by decide)]) (by rw [h2 25 (by decide)])
  · exact h.re.kp hk (by unfold atX; omega) rfl rfl
  · exact kTp h hk (by unfold atX; omega) rfl (fun _ _ => by rw [h3])
/-- the tape's bytes change alone -/
theorem CRep.setTp (h : CRep σ lab ad μ) (hk : keepS (atX 8 0) σ lab σ' lab) (hl : cTp σ' lab ad μ') (h1 : μ'.1 = μ.1) (h3 : ∀ k, k ≠ 1 → μ'.2.2 k = μ.2.2 k) (h2 : μ'.2.1 = μ.2.1) : CRep σ' lab ad μ' := by
  refine ⟨kX h hk (by unfold atX; omega) rfl (fun _ _ => rfl) rfl rfl (fun k _ => by rw [h1]) (by rw [h3 19 (by decide)]), kLs h hk (fun i _ => by unfold atX; omega) (fun _ _ => rfl) (fun _ _ => rfl) (fun _ _ => rfl) (fun _ _ => rfl) (fun _ _ => rfl) (fun _ _ => rfl) (fun k _ => by rw [h1]), fun i hi => ?_, fun i hi => ?_, fun i hi => ?_, fun i hi => ?_, fun i hi => ?_, fun i hi => ?_, fun i hi => ?_, fun i hi => ?_, fun i hi => ?_, ?_, hl⟩
  · rw [h1] at hi
    exact kLi h hk hi (by unfold atX; omega) rfl rfl (fun _ _ => by rw [h2]) (by rw [h2]) (mWait_eq (by rw [h2]) (fun _ _ => by rw [h2]) (fun _ _ => by rw [h2]))
  · rw [h1] at hi; exact kRo h hk hi (by unfold atX; omega) rfl (by rw [h2]) (fun _ _ => by rw [h2]) (fun _ _ => rfl)
  · rw [h1] at hi
    exact kSl h hk hi (by unfold atX; omega) rfl rfl rfl (fun _ _ => by rw [h2]) (by rw [h2]) (mNm_eq (by rw [h2]) (fun _ => by rw [h2]) (fun _ _ _ => by rw [h2]; exact ⟨rfl, rfl⟩))
  · rw [h1] at hi; exact kSc h hk hi (by unfold atX; omega) rfl (fun _ _ => by rw [h2]) (fun _ _ => rfl)
  · rw [h1] at hi
    exact kCo h hk hi (by unfold atX; omega) rfl (by rw [h2]) (fun _ => by rw [h2]) (fun _ _ _ => by rw [h2]; exact ⟨rfl, rfl⟩)
  · rw [h1] at hi; exact kCe h hk hi (by unfold atX; omega) rfl rfl (by rw [h2]) (by rw [h2]) (by rw [h3 13 (by decide)])
  · rw [h1] at hi; exact kSn h hk hi (by unfold atX; omega) rfl (fun _ _ => by rw [h2])
  · rw [h1] at hi; exact kGr h hk hi (by unfold atX; omega) rfl (fun _ _ => by rw [h2]) (mEp_eq (fun _ _ => by rw [h2]) (fun _ => by rw [h2]) (by rw [h2]))
  · rw [h1] at hi; exact kLk h hk hi (by unfold atX; omega) rfl rfl rfl (by rw [h2]) (by rw [h2]) (by rw [h2])
  · exact h.re.kp hk (by unfold atX; omega) rfl rfl
end SETS
end
