section
/-! least: both answer alike -/
section LE1
variable {n K : Nat} {A B : Nat → Nat} {ln cf dd sp ms Mx Sx sp' ms' U V far co : Nat → Int} {w y : Nat → Nat → Int} {via bf : Nat → Option Nat} {Tot Tot' : Int}
/-- the costs in the measure keep the links, those that carry just so -/
theorem LJ.pi (hL : LJ n K A B ln Mx Sx Tot cf sp ms dd) (hN : NetOk n K A B ln) : lipZ K A B ln (fun v => dd v / 64) ∧ ∀ k : Nat, k < K → absZ (cf k) * ln k = cf k * (dd (B k) / 64 - dd (A k) / 64) := by
  have key : ∀ k : Nat, k < K → (dd (B k) / 64 - dd (A k) / 64 ≤ ln k ∧ dd (A k) / 64 - dd (B k) / 64 ≤ ln k) ∧ (0 < cf k → dd (B k) / 64 - dd (A k) / 64 = ln k) ∧ (cf k < 0 → dd (B k) / 64 - dd (A k) / 64 = - ln k) := by
    intro k hk
    obtain ⟨a1, a2, a3, a4, a5⟩ := hN.2.2 k hk
    have h1 := hL.1.cost hL.2.1 hN hk (u := A k) (Or.inl rfl)
    have h2 := hL.1.cost hL.2.1 hN hk (u := B k) (Or.inr rfl)
    rw [show ot A B k (A k) = B k from if_pos rfl] at h1
    rw [show ot A B k (B k) = A k from if_neg (fun g => a3 g.symm)] at h2
    have e1 : cst A ln cf k (A k) = if cf k < 0 then - ln k else ln k := by unfold cst cfr; rw [if_pos rfl]
    have e2 : cst A ln cf k (B k) = if - cf k < 0 then - ln k else ln k := by unfold cst cfr; rw [if_neg (fun g : B k = A k => a3 g.symm)]
    rw [e1] at h1
    rw [e2] at h2
    split at h1 <;> split at h2 <;> omega
  refine ⟨fun k hk => (key k hk).1, fun k hk => ?_⟩
  obtain ⟨-, h2, h3⟩ := key k hk
  unfold absZ
  rcases Int.lt_trichotomy (cf k) 0 with c | c | c
  · rw [if_neg (by omega), h3 c, Int.mul_neg, Int.neg_mul]
  · rw [c, if_pos (Int.le_refl _), Int.zero_mul, Int.zero_mul]
  · rw [if_pos (by omega), h2 c]
theorem absZ_ge {x : Int} : x ≤ absZ x ∧ - x ≤ absZ x ∧ 0 ≤ absZ x := by unfold absZ; split <;> omega
theorem LJ.lip (hN : NetOk n K A B ln) {p : Nat → Int} (hp : lipZ K A B ln p) : sumZ (fun k => cf k * (p (B k) - p (A k))) K ≤ sumZ (fun k => absZ (cf k) * ln k) K := by
  refine sumZ_le (fun k hk => ?_)
  obtain ⟨a1, a2⟩ := hp k hk
  obtain ⟨-, -, -, a4, a5⟩ := hN.2.2 k hk
  obtain ⟨b1, b2, b3⟩ := absZ_ge (x := cf k)
  by_cases c : 0 ≤ cf k
  · have e : absZ (cf k) = cf k := if_pos c
    rw [e]
    exact Int.mul_le_mul_of_nonneg_left a1 c
  · have e : absZ (cf k) = - cf k := if_neg c
    rw [e, show cf k * (p (B k) - p (A k)) = - cf k * (p (A k) - p (B k)) by rw [Int.neg_mul, ← Int.mul_neg]; congr 1; omega]
    exact Int.mul_le_mul_of_nonneg_left a2 (by omega)
/-- none goes over a closed set's edge -/
theorem LJ.cl (hL : LJ n K A B ln Mx Sx Tot cf sp ms dd) {g : Nat → Int} (hg : ∀ k : Nat, k < K → g (A k) = g (B k)) : sumZ (fun c => g c * ((Mx c - ms c) - (Sx c - sp c))) n = 0 := by
  rw [← hL.2.2.2.2.1 g]
  exact sumZ_0 (fun k hk => by (try dsimp only); rw [hg k hk, Int.sub_self, Int.mul_zero])
theorem QJ.cl (hQ : QJ n Mx Sx Tot w y sp ms U V) {g : Nat → Int} (hg : ∀ i j : Nat, i < n → j < n → w i j < FAR → g i = g j) : sumZ (fun c => g c * ((Mx c - ms c) - (Sx c - sp c))) n = 0 := by
  rw [← hQ.2.2.2.2 g]
  refine sumZ_0 (fun i hi => sumZ_0 (fun j hj => ?_))
  (try dsimp only)
  obtain ⟨a1, a2, a3⟩ := hQ.1 i j hi hj
  by_cases c : 0 < y i j
  · rw [hg i j hi hj (a2 c).2.2, Int.sub_self, Int.mul_zero]
  · rw [show y i j = 0 by omega, Int.zero_mul]
/-- a set that wants more than it has -/
theorem lack {g : Nat → Int} {v0 : Nat} (h01 : ∀ c : Nat, c < n → g c = 0 ∨ g c = 1) (h1 : sumZ (fun c => g c * ((Mx c - ms c) - (Sx c - sp c))) n = 0) (h2 : sumZ (fun c => g c * ((Mx c - ms' c) - (Sx c - sp' c))) n = 0) (hms : ∀ c : Nat, c < n → 0 ≤ ms c) (hv : v0 < n) (hg : g v0 = 1) (hv0 : 0 < ms v0) (hsp : ∀ c : Nat, c < n → g c = 1 → sp c = 0) (hms' : ∀ c : Nat, c < n → ms' c = 0) (hsp' : ∀ c : Nat, c < n → 0 ≤ sp' c) : False := by
  have h3 : sumZ (fun c => g c * ((Mx c - ms c) - (Sx c - sp c)) + g c * ms c) n ≤ sumZ (fun c => g c * ((Mx c - ms' c) - (Sx c - sp' c))) n := by
    refine sumZ_le (fun c hc => ?_)
    rcases h01 c hc with e | e
    · rw [e, Int.zero_mul, Int.zero_mul, Int.zero_mul]; exact Int.le_refl _
    · rw [e, Int.one_mul, Int.one_mul, Int.one_mul]
      have a1 := hsp c hc e
      have a2 := hms' c hc
      have a3 := hsp' c hc
      omega
  rw [sumZ_add, h1, h2] at h3
  have h4 := sumZ_le1 (f := fun c => g c * ms c) (n := n) (p := v0) (fun c hc => by
    (try dsimp only)
    rcases h01 c hc with e | e
    · rw [e, Int.zero_mul]; exact Int.le_refl _
    · rw [e, Int.one_mul]; exact hms c hc) hv
  (try dsimp only at h4)
  rw [hg, Int.one_mul] at h4
  omega
theorem pm_ex (M : Int) (U : Nat → Int) (w : Nat → Nat → Int) (Sx : Nat → Int) (c : Nat) : ∀ m : Nat, ∃ x : Int, x ≤ M ∧ (∀ i : Nat, i < m → 0 < Sx i → w i c < FAR → x ≤ U i + w i c) ∧ (x = M ∨ ∃ i : Nat, i < m ∧ 0 < Sx i ∧ w i c < FAR ∧ x = U i + w i c)
  | 0 => ⟨M, Int.le_refl _, fun i hi => absurd hi (Nat.not_lt_zero _), Or.inl rfl⟩
  | m + 1 => by
    obtain ⟨x, h1, h2, h3⟩ := pm_ex M U w Sx c m
    have h3' : x = M ∨ ∃ i : Nat, i < m + 1 ∧ 0 < Sx i ∧ w i c < FAR ∧ x = U i + w i c := by
      rcases h3 with h3 | ⟨i, a1, a2⟩
      · exact Or.inl h3
      · exact Or.inr ⟨i, by omega, a2⟩
    by_cases e : 0 < Sx m ∧ w m c < FAR ∧ U m + w m c < x
    · refine ⟨U m + w m c, by omega, fun i hi a1 a2 => ?_, Or.inr ⟨m, by omega, e.1, e.2.1, rfl⟩⟩
      by_cases ei : i = m
      · subst ei; exact Int.le_refl _
      · have := h2 i (by omega) a1 a2; omega
    · refine ⟨x, h1, fun i hi a1 a2 => ?_, h3'⟩
      by_cases ei : i = m
      · subst ei
        by_cases hlt : U i + w i c < x
        · exact absurd ⟨a1, a2, hlt⟩ e
        · omega
      · exact h2 i (by omega) a1 a2
theorem lp_le1 (hL : LJ n K A B ln Mx Sx Tot cf sp ms dd) (hN : NetOk n K A B ln) (hW : WOK n K A B ln w) (hQ : QJ n Mx Sx Tot' w y sp' ms' U V) (h0 : ∀ v : Nat, v < n → ms v ≤ 0) (h0' : ∀ v : Nat, v < n → ms' v ≤ 0) : sumZ (fun k => absZ (cf k) * ln k) K ≤ S2 n y w := by
  obtain ⟨p1, p2⟩ := hL.pi hN
  rw [sumZ_cg p2, hL.2.2.2.2.1 (fun v => dd v / 64)]
  have h1 : sumZ (fun c => dd c / 64 * ((Mx c - ms c) - (Sx c - sp c))) n ≤ sumZ (fun c => dd c / 64 * ((Mx c - ms' c) - (Sx c - sp' c))) n := by
    refine sumZ_le (fun c hc => ?_)
    have a1 := hL.2.2.2.1 c hc
    have a2 := hQ.2.2.2.1 c hc
    have a3 := h0 c hc
    have a4 := h0' c hc
    have a5 := (hL.2.1 c hc).1
    by_cases e : 0 < sp c
    · rw [hL.2.2.1 c hc e]
      rw [show (0 : Int) / 64 = 0 from rfl, Int.zero_mul, Int.zero_mul]
      exact Int.le_refl _
    · exact Int.mul_le_mul_of_nonneg_left (by omega) (by omega)
  refine Int.le_trans h1 ?_
  rw [← hQ.2.2.2.2 (fun v => dd v / 64)]
  refine S2_le (fun i j hi hj => ?_)
  obtain ⟨a1, a2, a3⟩ := hQ.1 i j hi hj
  by_cases c : 0 < y i j
  · exact Int.mul_le_mul_of_nonneg_left (hW.2.1 _ p1 i j hi hj (a2 c).2.2) a1
  · rw [show y i j = 0 by omega, Int.zero_mul, Int.zero_mul]; exact Int.le_refl _
theorem lp_le2 (hL : LJ n K A B ln Mx Sx Tot cf sp ms dd) (hN : NetOk n K A B ln) (hW : WOK n K A B ln w) (hQ : QJ n Mx Sx Tot' w y sp' ms' U V) (hx : ∀ v : Nat, v < n → Sx v = 0 ∨ Mx v = 0) (h0 : ∀ v : Nat, v < n → ms v ≤ 0) (h0' : ∀ v : Nat, v < n → ms' v ≤ 0) : S2 n y w ≤ sumZ (fun k => absZ (cf k) * ln k) K := by
  obtain ⟨q1, q2, q3, q4, q5⟩ := id hQ
  have hM := fun c hc => sumZ_le1 (f := V) (n := n) (p := c) (fun v hv => (q3 v hv).2.1) hc
  have hM0 : 0 ≤ sumZ V n := sumZ_nn (fun v hv => (q3 v hv).2.1)
  obtain ⟨p, hp⟩ : ∃ p : Nat → Int, ∀ c : Nat, p c ≤ sumZ V n ∧ (∀ i : Nat, i < n → 0 < Sx i → w i c < FAR → p c ≤ U i + w i c) ∧ (p c = sumZ V n ∨ ∃ i : Nat, i < n ∧ 0 < Sx i ∧ w i c < FAR ∧ p c = U i + w i c) := ⟨fun c => Classical.choose (pm_ex (sumZ V n) U w Sx c n), fun c => Classical.choose_spec (pm_ex (sumZ V n) U w Sx c n)⟩
  have hp0 : ∀ c : Nat, c < n → 0 ≤ p c := fun c hc => by
    rcases (hp c).2.2 with e | ⟨i, a1, a2, a3, a4⟩
    · rw [e]; exact hM0
    · have b1 := (q3 i a1).1
      have b2 := (hW.1.1 i c a1 hc).1
      omega
  have hstep : ∀ a b : Nat, a < n → b < n → ∀ l : Int, l ≤ 100 → 0 ≤ l → (∀ i : Nat, i < n → w i b ≤ w i a + l) → p b - p a ≤ l := fun a b ha hb l hl hl0 hw => by
    rcases (hp a).2.2 with e | ⟨i, a1, a2, a3, a4⟩
    · have := (hp b).1; omega
    · have b1 := hw i a1
      have b2 := hW.bd hN a1 ha a3
      have b3 := (hp b).2.1 i a1 a2 (by unfold FAR; omega)
      omega
  have hlip : lipZ K A B ln p := fun k hk => by
    obtain ⟨a1, a2, a3, a4, a5⟩ := hN.2.2 k hk
    obtain ⟨l1, l2⟩ := hW.2.2.2 k hk hk
    refine ⟨hstep _ _ a1 a2 _ a5 (by omega) (fun i hi => ?_), hstep _ _ a2 a1 _ a5 (by omega) (fun i hi => ?_)⟩
    · have := hW.2.2.1 (A k) i (B k) a1 a1 hi a2; omega
    · have := hW.2.2.1 (B k) i (A k) a2 a2 hi a1; omega
  have h1 := LJ.lip (cf := cf) hN hlip
  rw [hL.2.2.2.2.1 p] at h1
  have hg := q5 (fun c => if 0 < Mx c then V c else U c)
  have h2 : S2 n y w ≤ S2 n y (fun i j => (fun c => if 0 < Mx c then V c else U c) j - (fun c => if 0 < Mx c then V c else U c) i) := by
    refine S2_le (fun i j hi hj => ?_)
    obtain ⟨a1, a2, a3⟩ := q1 i j hi hj
    by_cases c : 0 < y i j
    · obtain ⟨b1, b2, b3⟩ := a2 c
      have b4 := (q2 i j hi hj b1 b2 b3).2 c
      have b5 : ¬ 0 < Mx i := by rcases hx i hi with e | e <;> omega
      (try dsimp only)
      rw [if_pos b2, if_neg b5, b4, show U i + w i j - U i = w i j by omega]
      exact Int.le_refl _
    · rw [show y i j = 0 by omega, Int.zero_mul, Int.zero_mul]; exact Int.le_refl _
  rw [hg] at h2
  refine Int.le_trans h2 (Int.le_trans ?_ h1)
  refine sumZ_le (fun c hc => ?_)
  (try dsimp only)
  have a1 := hL.2.2.2.1 c hc
  have a2 := q4 c hc
  have a3 := h0 c hc
  have a4 := h0' c hc
  have a5 := hp0 c hc
  obtain ⟨b1, b2, b3⟩ := hp c
  by_cases e : 0 < Mx c
  · have e2 : Sx c = 0 := by rcases hx c hc with g | g <;> omega
    rw [if_pos e]
    have hV : V c ≤ p c := by
      rcases b3 with g | ⟨i, d1, d2, d3, d4⟩
      · rw [g]; exact hM c hc
      · have := (q2 i c d1 hc d2 e d3).1; omega
    rw [show (Mx c - ms' c) - (Sx c - sp' c) = Mx c by omega, show (Mx c - ms c) - (Sx c - sp c) = Mx c by omega]
    exact Int.mul_le_mul_of_nonneg_right hV (by omega)
  · rw [if_neg e]
    have hM0' : Mx c = 0 := by omega
    by_cases e3 : 0 < sp' c
    · rw [(q3 c hc).2.2 e3, Int.zero_mul]
      by_cases e4 : 0 < Sx c
      · have := b2 c hc e4 (by rw [hW.1.2 c hc]; unfold FAR; decide)
        rw [hW.1.2 c hc, (q3 c hc).2.2 e3] at this
        rw [show p c = 0 by omega, Int.zero_mul]; exact Int.le_refl _
      · omega
    · rw [show (Mx c - ms' c) - (Sx c - sp' c) = - Sx c by omega]
      by_cases e4 : 0 < Sx c
      · have b4 := b2 c hc e4 (by rw [hW.1.2 c hc]; unfold FAR; decide)
        rw [hW.1.2 c hc] at b4
        have c1 : p c * Sx c ≤ U c * Sx c := Int.mul_le_mul_of_nonneg_right (by omega) (by omega)
        have c2 : 0 ≤ p c * sp c := Int.mul_nonneg a5 a1.1
        rw [show (Mx c - ms c) - (Sx c - sp c) = sp c - Sx c by omega, Int.mul_sub, Int.mul_neg]
        omega
      · have e5 : Sx c = 0 := by omega
        rw [e5, show (Mx c - ms c) - (0 - sp c) = 0 by omega, Int.mul_zero, Int.neg_zero, Int.mul_zero]
        exact Int.le_refl _
end LE1
section LE2
variable {μ : MSt} {j : Nat}
theorem lp_eq (hI : MI μ j) (hj : j ≤ 512) {V W : Int64} (hV : LPC μ V) (hW : LPR μ W) : V = W := by
  have hN := ntOk hI
  have hx : ∀ v : Nat, v < μ.1 14 → lSx μ v = 0 ∨ lMx μ v = 0 := fun v hv => (lx_bd hI hj hv).2.2
  haveI : ∀ (f : Nat → Int) (c : Nat), Decidable (f c = UN) := fun f c => inferInstance
  rcases hV with ⟨cf, sp, ms, dd, hL, h0, e1⟩ | ⟨e1, cf, sp, ms, dd, far, via, hL, hM, ⟨v0, hv0, hm0⟩, hfar⟩
  · rcases hW with ⟨e2, hM0⟩ | ⟨w, y, sp', ms', U, V', hWO, hQ, hr⟩
    · apply Int64.toInt_inj.mp
      rw [e1, e2]
      have h1 := sumZ_nn (f := fun k => absZ (cf k) * nLn μ k) (n := μ.1 26) (fun k hk => Int.mul_nonneg absZ_ge.2.2 (by have := (hN.2.2 k hk).2.2.2; omega))
      have h2 : sumZ (fun k => absZ (cf k) * nLn μ k) (μ.1 26) ≤ 0 := by
        obtain ⟨p1, p2⟩ := hL.pi hN
        rw [sumZ_cg p2, hL.2.2.2.2.1 (fun v => dd v / 64)]
        have := sumZ_le (f := fun c => dd c / 64 * ((lMx μ c - ms c) - (lSx μ c - sp c))) (g := fun _ => 0) (n := μ.1 14) (fun c hc => by
          have a1 := hL.2.2.2.1 c hc
          have a2 := hM0 c hc
          have a3 := (hL.2.1 c hc).1
          have : 0 ≤ dd c / 64 * (lSx μ c - sp c) := Int.mul_nonneg (by omega) (by omega)
          (try dsimp only)
          rw [show (lMx μ c - ms c) - (lSx μ c - sp c) = -(lSx μ c - sp c) by omega, Int.mul_neg]
          omega)
        rw [sumZ_0 (f := fun _ => 0) (fun _ _ => rfl)] at this
        exact this
      omega
    · rcases hr with ⟨h0', e2⟩ | ⟨-, co, bf, hS, hA, ⟨v0, hv0, hm0⟩, hfar⟩
      · apply Int64.toInt_inj.mp
        rw [e1, e2]
        have a1 := lp_le1 hL hN hWO hQ h0 h0'
        have a2 := lp_le2 hL hN hWO hQ hx h0 h0'
        omega
      · exfalso
        have hcl : ∀ i j : Nat, i < μ.1 14 → j < μ.1 14 → w i j < FAR → (if w v0 i < FAR then (1 : Int) else 0) = (if w v0 j < FAR then 1 else 0) := fun i j hi hj hw => by
          by_cases c : w v0 i < FAR
          · rw [if_pos c, if_pos (hWO.sy hN hi hj hv0 hw c)]
          · rw [if_neg c, if_neg (fun g => c (hWO.sy2 hN hi hj hv0 hw g))]
        have hww : w v0 v0 < FAR := by rw [hWO.1.2 v0 hv0]; unfold FAR; decide
        refine lack (g := fun c => if w v0 c < FAR then (1 : Int) else 0) (v0 := v0) (fun c hc => ?_) (hQ.cl (g := fun c => if w v0 c < FAR then (1 : Int) else 0) hcl) (hL.cl (g := fun c => if w v0 c < FAR then (1 : Int) else 0) (fun k hk => ?_)) (fun c hc => (hQ.2.2.2.1 c hc).2.2.1) hv0 (if_pos hww) hm0 (fun c hc hg => ?_) (fun c hc => ?_) (fun c hc => (hL.2.2.2.1 c hc).1)
        · (try dsimp only)
          split
          · exact Or.inr rfl
          · exact Or.inl rfl
        · obtain ⟨a1, a2, a3, a4, a5⟩ := hN.2.2 k hk
          have := (hWO.2.2.2 k hk hk).1
          exact hcl _ _ a1 a2 (by unfold FAR; omega)
        · (try dsimp only at hg)
          have hwc : w v0 c < FAR := by
            by_cases y : w v0 c < FAR
            · exact y
            · rw [if_neg y] at hg; exact absurd hg (by decide)
          have hsp := hQ.2.2.2.1 c hc
          by_cases z : 0 < sp' c
          · exfalso
            have b1 := hWO.sy2 hN hv0 hc hc hwc (by rw [hWO.1.2 c hc]; unfold FAR; decide)
            have b2 := ((hS.1 c hc).2.2.2.2 z).1
            have b3 := (hA c v0 hc hv0 (by omega) (by have := hQ.2.2.2.1 v0 hv0; omega)).1 (by rw [b2]; unfold FAR; decide) b1
            have b4 := hWO.bd hN hc hv0 b1
            exact hfar v0 hv0 hm0 (by unfold FAR; omega)
          · omega
        · have := h0 c hc
          have := hL.2.2.2.1 c hc
          omega
  · rcases hW with ⟨e2, hM0⟩ | ⟨w, y, sp', ms', U, V', hWO, hQ, hr⟩
    · exfalso
      have a1 := hM0 v0 hv0
      have a2 := hL.2.2.2.1 v0 hv0
      omega
    · rcases hr with ⟨h0', e2⟩ | ⟨e2, -⟩
      · exfalso
        have hcl : ∀ k : Nat, k < μ.1 26 → (if far (μ.2.1 23 k) = UN then (1 : Int) else 0) = (if far (μ.2.1 24 k) = UN then 1 else 0) := fun k hk => by
          have hne := (hN.2.2 k hk).2.2.1
          have m1 := hM.2.2.2.2 k hk (μ.2.1 23 k) (Or.inl rfl)
          have m2 := hM.2.2.2.2 k hk (μ.2.1 24 k) (Or.inr rfl)
          rw [show ot (μ.2.1 23) (μ.2.1 24) k (μ.2.1 23 k) = μ.2.1 24 k from if_pos rfl] at m1
          rw [show ot (μ.2.1 23) (μ.2.1 24) k (μ.2.1 24 k) = μ.2.1 23 k from if_neg (fun g => hne g.symm)] at m2
          by_cases c : far (μ.2.1 23 k) = UN
          · rw [if_pos c, if_pos (Classical.byContradiction (fun g => (m2 g).1 c))]
          · rw [if_neg c, if_neg (m1 c).1]
        refine lack (g := fun c => if far c = UN then (1 : Int) else 0) (v0 := v0) (fun c hc => ?_) (hL.cl (g := fun c => if far c = UN then (1 : Int) else 0) hcl) (hQ.cl (g := fun c => if far c = UN then (1 : Int) else 0) (fun i j hi hj hw => ?_)) (fun c hc => (hL.2.2.2.1 c hc).2.2.1) hv0 (if_pos (hfar v0 hv0 hm0)) hm0 (fun c hc hg => ?_) (fun c hc => ?_) (fun c hc => (hQ.2.2.2.1 c hc).1)
        · (try dsimp only)
          split
          · exact Or.inr rfl
          · exact Or.inl rfl
        · (try dsimp only)
          have := hWO.cl hN (C := fun c => far c = UN) (fun k hk => by
            have := hcl k hk
            constructor
            · intro g
              rw [if_pos g] at this
              by_cases z : far (μ.2.1 24 k) = UN
              · exact z
              · rw [if_neg z] at this; exact absurd this (by decide)
            · intro g
              rw [if_pos g] at this
              by_cases z : far (μ.2.1 23 k) = UN
              · exact z
              · rw [if_neg z] at this; exact absurd this (by decide)) hi hj hw
          by_cases c : far i = UN
          · rw [if_pos c, if_pos (this.mp c)]
          · rw [if_neg c, if_neg (fun g => c (this.mpr g))]
        · (try dsimp only at hg)
          have hc1 : far c = UN := by
            by_cases z : far c = UN
            · exact z
            · rw [if_neg z] at hg; exact absurd hg (by decide)
          have a1 := hL.2.2.2.1 c hc
          by_cases z : 0 < sp c
          · have := (hM.2.1 c hc z).1
            rw [hc1] at this
            exact absurd this (by unfold UN; decide)
          · omega
        · have a1 := h0' c hc
          have a2 := hQ.2.2.2.1 c hc
          omega
      · rw [e1, e2]
end LE2
end
