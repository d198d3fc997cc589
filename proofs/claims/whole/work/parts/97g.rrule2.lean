section
/-! rule: the reference, its end -/
section RRU2
variable {ρ ρ1 : RSt} {μ : MSt} {j : Nat} {v : Int32} {s : Nat} {L : List Cd}
/-- the first k steps copied -/
def mCpy (μ : MSt) (s : Nat) (L : List Cd) (k : Nat) : MSt := (μ.1, fun a i => if a = 15 ∧ 400 * s ≤ i ∧ i < 400 * s + k then (L.getD (i - 400 * s) (0, 0)).1 else if a = 16 ∧ 400 * s ≤ i ∧ i < 400 * s + k then (L.getD (i - 400 * s) (0, 0)).2 else μ.2.1 a i, μ.2.2)
theorem sR_told {post : Int32 → RSt → Prop} (hR : RR ρ (mR0 μ (-1) 0)) (hs : s < 10) (hL : L.length ≤ 400) (e17 : ρ.2.1 17 10 = nI L.length) (e15 : ∀ k : Nat, k < L.length → ρ.2.1 15 (4000 + k) = nI (L.getD k (0, 0)).1 ∧ ρ.2.1 16 (4000 + k) = nI (L.getD k (0, 0)).2) (hw : ∀ k : Nat, k < L.length → (L.getD k (0, 0)).1 ≤ 16 ∧ ((L.getD k (0, 0)).1 = 12 → (L.getD k (0, 0)).2 < 31)) (hp : ∀ ρ', RR ρ' (mRul μ s L) → ρ'.1 0 = ρ.1 0 → post (bcI (nI (bitsL L))) ρ') : wpR_rule_154 post ρ (nI s) 0 := by
  have e10 : (10 : Int32).toNatClampNeg = 10 := rfl
  refine gLP.up L.length (fun k (x : RSt × Int32 × Int32) => k ≤ L.length ∧ RR x.1 (mCpy (mR0 μ (-1) 0) s L k) ∧ x.1.1 0 = ρ.1 0 ∧ x.1.2.1 17 10 = nI L.length ∧ (∀ q : Nat, q < L.length → x.1.2.1 15 (4000 + q) = nI (L.getD q (0, 0)).1 ∧ x.1.2.1 16 (4000 + q) = nI (L.getD q (0, 0)).2) ∧ x.2 = (nI s, nI k)) (fun k x h => h.1) ?_ (j := 0) ⟨Nat.zero_le _, hR.congr (fun _ _ => rfl) (fun a i _ => ?_) ⟨fun _ => rfl, fun _ => rfl, rfl⟩, rfl, e17, e15, rfl⟩
  rotate_left
  · unfold mCpy
    dsimp only
    rw [if_neg (by omega), if_neg (by omega)]
  rintro k ⟨u, y⟩ P ⟨hk, hC, h0, h17, h15, e⟩ hP
  dsimp only at hC h0 h17 h15 e
  subst e
  dsimp only
  unfold wpR_rule_154_F
  rw [e10, h17, nI_leI (by omega) (by omega)]
  refine ⟨vp_in_nI (n := 10) (by omega) (by omega), fun e1 => ?_, fun e1 => ?_⟩
  · obtain rfl : k = L.length := by omega
    refine ⟨vp_in_nI (n := 10) (by omega) (by omega), vp_in_nI (by omega) (by omega), ?_⟩
    intro s2 hs2
    have r2 : RR s2 (m2 (mCpy (mR0 μ (-1) 0) s L L.length) 17 s L.length) := by rw [hs2]; exact hC.w rfl (by decide) (by decide) (by omega)
    have t2 : s2.1 0 = ρ.1 0 := by rw [hs2]; exact h0
    clear hs2
    refine ⟨vp_in_nI (by omega) (by omega), ?_⟩
    intro s3 hs3
    have r3 : RR s3 (m2 (m2 (mCpy (mR0 μ (-1) 0) s L L.length) 17 s L.length) 18 s 1) := by rw [hs3]; exact r2.w (v := vp_nar .boolean 1) rfl (by decide) (by decide) (by omega)
    have t3 : s3.1 0 = ρ.1 0 := by rw [hs3]; exact t2
    clear hs3
    have hF : RR s3 (mRul μ s L) := by
      refine r3.congr (fun _ _ => rfl) (fun a i _ => ?_) ⟨fun _ => rfl, fun _ => rfl, rfl⟩
      by_cases e18 : a = 18 ∧ i = s
      · obtain ⟨rfl, rfl⟩ := e18
        rw [mRul_18, if_pos rfl, m2_s]
      · rw [m2_n (by omega)]
        by_cases e17 : a = 17 ∧ i = s
        · obtain ⟨rfl, rfl⟩ := e17
          rw [mRul_17, if_pos rfl, m2_s]
        · rw [m2_n (by omega)]
          unfold mRul mCpy
          dsimp only
          by_cases e15 : a = 15 ∧ 400 * s ≤ i ∧ i < 400 * s + L.length
          · rw [if_pos e15, if_pos e15]
          · rw [if_neg e15, if_neg e15]
            by_cases e16 : a = 16 ∧ 400 * s ≤ i ∧ i < 400 * s + L.length
            · rw [if_pos e16, if_pos e16]
            · rw [if_neg e16, if_neg e16, if_neg e17, if_neg e18]
              rfl
    refine sR_names (c := fun q => (L.getD q (0, 0)).1) (n := fun q => (L.getD q (0, 0)).2) (len := L.length) (by omega) hL ?_ (fun q hq => ?_) (bc_R (hp s3 hF t3))
    · have := hF.s2 (k := 17) (i := s) (by unfold sc2; omega)
      rw [mRul_17, if_pos rfl] at this
      exact this
    · have a1 := hF.s2 (k := 15) (i := 400 * s + q) (by unfold sc2; omega)
      have a2 := hF.s2 (k := 16) (i := 400 * s + q) (by unfold sc2; omega)
      obtain ⟨b1, b2⟩ := mRul_row (μ := μ) (s := s) hq
      rw [b1] at a1
      rw [b2] at a2
      have hwq := hw q hq
      exact ⟨a1, a2, by omega, hwq.2⟩
  · have hk' : k < L.length := by omega
    have x1 : (4000 : Int32) + nI k = nI (4000 + k) := by rw [show (4000 : Int32) = nI 4000 from rfl, nI_add]
    have x2 : (400 : Int32) * nI s + nI k = nI (400 * s + k) := ix rfl rfl
    obtain ⟨y1, y2⟩ := h15 k hk'
    rw [x1, x2, nI_clamp (n := 4000 + k) (by omega), y1]
    refine ⟨vp_in_nI (by omega) (by omega), vp_in_nI (by omega) (by omega), ?_⟩
    intro s7 hs7
    have r7 : RR s7 (m2 (mCpy (mR0 μ (-1) 0) s L k) 15 (400 * s + k) (L.getD k (0, 0)).1) := by rw [hs7]; exact hC.w rfl (by decide) (by decide) (by omega)
    have t7 : s7.1 0 = ρ.1 0 := by rw [hs7]; exact h0
    have v16 : ∀ i, s7.2.1 16 i = u.2.1 16 i := fun i => by rw [hs7]; exact rA_n (fun e => absurd e (by decide))
    have v17 : s7.2.1 17 10 = nI L.length := by rw [hs7, rA_n (fun e => absurd e (by decide))]; exact h17
    have v15 : ∀ q : Nat, q < L.length → s7.2.1 15 (4000 + q) = nI (L.getD q (0, 0)).1 := fun q hq => by rw [hs7, nI_clamp (by omega), rA_n (fun _ => by omega)]; exact (h15 q hq).1
    clear hs7
    refine ⟨vp_in_nI (by omega) (by omega), vp_in_nI (by omega) (by omega), ?_⟩
    rw [v16, y2]
    intro s8 hs8
    have r8 : RR s8 (m2 (m2 (mCpy (mR0 μ (-1) 0) s L k) 15 (400 * s + k) (L.getD k (0, 0)).1) 16 (400 * s + k) (L.getD k (0, 0)).2) := by rw [hs8]; exact r7.w rfl (by decide) (by decide) (by omega)
    have t8 : s8.1 0 = ρ.1 0 := by rw [hs8]; exact t7
    have w17 : s8.2.1 17 10 = nI L.length := by rw [hs8, rA_n (fun e => absurd e (by decide))]; exact v17
    have w15 : ∀ q : Nat, q < L.length → s8.2.1 15 (4000 + q) = nI (L.getD q (0, 0)).1 := fun q hq => by rw [hs8, rA_n (fun e => absurd e (by decide))]; exact v15 q hq
    have w16 : ∀ q : Nat, q < L.length → s8.2.1 16 (4000 + q) = nI (L.getD q (0, 0)).2 := fun q hq => by rw [hs8, nI_clamp (by omega), rA_n (fun _ => by omega), v16]; exact (h15 q hq).2
    clear hs8
    refine hP _ ⟨by omega, r8.congr (fun _ _ => rfl) (fun a i _ => ?_) ⟨fun _ => rfl, fun _ => rfl, rfl⟩, t8, w17, fun q hq => ⟨w15 q hq, w16 q hq⟩, by rw [nI_1]⟩
    by_cases e16 : a = 16 ∧ i = 400 * s + k
    · obtain ⟨rfl, rfl⟩ := e16
      rw [m2_s]
      unfold mCpy
      dsimp only
      rw [if_neg (fun g => absurd g.1 (by decide)), if_pos ⟨rfl, by omega, by omega⟩, show 400 * s + k - 400 * s = k by omega]
    · rw [m2_n (by omega)]
      by_cases e15 : a = 15 ∧ i = 400 * s + k
      · obtain ⟨rfl, rfl⟩ := e15
        rw [m2_s]
        unfold mCpy
        dsimp only
        rw [if_pos ⟨rfl, by omega, by omega⟩, show 400 * s + k - 400 * s = k by omega]
      · rw [m2_n (by omega)]
        unfold mCpy
        dsimp only
        by_cases f15 : a = 15 ∧ 400 * s ≤ i ∧ i < 400 * s + k
        · rw [if_pos f15, if_pos ⟨f15.1, f15.2.1, by omega⟩]
        · rw [if_neg f15, if_neg (by omega)]
          by_cases f16 : a = 16 ∧ 400 * s ≤ i ∧ i < 400 * s + k
          · rw [if_pos f16, if_pos ⟨f16.1, f16.2.1, by omega⟩]
          · rw [if_neg f16, if_neg (by omega)]
end RRU2
end
