section
/-! the law's loop: all calls -/
section LZ
variable {mc ms L j k n : Nat} {xs : Nat → Int32} {post : Int32 → lSt → Prop} {K23 : lSt → Nat → Nat → Nat → Int32 → Prop} {s : lSt} {v1 : Nat} {v4 : Int32} {μ : MSt} {lab : Nat → Nat} {ad : Nat → Nat → Nat}
theorem law_one (hC : CRep s.1 lab ad μ) (hx : ad 7 0 = v1) (hR : RR s.2.1 μ) (hI : MI μ j) (hT : TB μ) (hj : j < 512) (hV : VP L v4) (hk : k + 100 ≤ mc ∧ n + 6110 ≤ ms) (kk : LK K23 v1 j k n v4) (h0 : vp_in v4 L) (g : ¬ nI L - 6 < v4) : wpW_law_23_F mc ms L xs post K23 s k n v1 v4 := by
  unfold wpW_law_23_F
  refine And.intro (fun g' => absurd g' g) (fun _ => And.intro h0 ?_)
  exact ⟨fun _ => law_b0 hC hx hR hI hT hj hV hk kk, fun _ => law_b1 hC hx hR hI hT hj hV hk kk, fun _ => law_b2 hC hx hR hI hT hj hV hk kk, fun _ => law_b3 hC hx hR hI hT hj hV hk kk, fun _ => law_b4 hC hx hR hI hT hj hV hk kk, fun _ => law_b5 hC hx hR hI hT hj hV hk kk, fun _ => law_b6 hC hx hR hI hT hj hV hk kk, fun _ => law_b7 hC hx hR hI hT hj hV hk kk, fun _ => law_b8 hC hx hR hI hT hj hV hk kk, fun _ => law_b9 hC hx hR hI hT hj hV hk kk, fun _ => law_b10 hC hx hR hI hT hj hV hk kk, fun _ => law_b11 hC hx hR hI hT hj hV hk kk, fun _ => law_b12 hC hx hR hI hT hj hV hk kk, fun _ => law_b13 hC hx hR hI hT hj hV hk kk, fun _ => law_b14 hC hx hR hI hT hj hV hk kk, fun _ => law_b15 hC hx hR hI hT hj hV hk kk, fun _ => law_b16 hC hx hR hI hT hj hV hk kk, fun _ => law_b17 hC hx hR hI hT hj hV hk kk, fun _ => law_b18 hC hx hR hI hT hj hV hk kk, fun _ => law_b19 hC hx hR hI hT hj hV hk kk, fun _ => law_b20 hC hx hR hI hT hj hV hk kk, fun _ => law_b21 hC hx hR hI hT hj hV hk kk, fun _ => law_b22 hC hx hR hI hT hj hV hk kk, fun _ => law_b23 hC hx hR hI hT hj hV hk kk, fun _ => law_b24 hC hx hR hI hT hj hV hk kk, fun _ => law_b25 hC hx hR hI hT hj hV hk kk, fun _ => kk.go0 hC hx hR hI.up hT⟩
theorem no_more (hL : L ≤ 3072) (hj : j ≤ 512) (g : ¬ nI L - 6 < nI (6 * j)) : 6 * j + 6 ≤ L := by
  rw [Int32.lt_iff_toInt_lt, nI_toInt (by omega)] at g
  have h6 : (6 : Int32).toInt = 6 := by decide
  rw [i32_sub (by rw [nI_toInt (by omega), h6]; omega) (by rw [nI_toInt (by omega), h6]; omega), nI_toInt (by omega), h6] at g
  omega
theorem VP_of (hL : L ≤ 3072) (h : 6 * j + 6 ≤ L) : VP L (nI (6 * j)) := by
  have key : ∀ q : Nat, q < 6 → vp_in (nI (6 * j) + nI q) L := fun q hq => by
    rw [nI_add]
    exact nI_in (by omega) (by omega)
  exact ⟨key 1 (by decide), key 2 (by decide), key 3 (by decide), key 4 (by decide), key 5 (by decide)⟩
theorem law_loop {x0 : Nat} {τ : CSt} {ρ : RSt} {o : Nat → Int64} (hmc : 100000 ≤ mc) (hms : 4000000 ≤ ms) (hL : L ≤ 3072) (h0 : LInv x0 0 τ ρ) : wpW_law_23 mc ms L xs (fun r _ => r = 1) (τ, (ρ, o)) 43 15970 x0 0 := by
  unfold wpW_law_23
  refine gLP.up 512 (fun j y => j ≤ 512 ∧ LInv x0 j y.1.1 y.1.2.1 ∧ y.2.1 ≤ 43 + 100 * j ∧ y.2.2.1 ≤ 15970 + 6110 * j ∧ y.2.2.2.1 = x0 ∧ y.2.2.2.2 = nI (6 * j)) (fun j y h => h.1) ?_ (j := 0) ⟨Nat.zero_le _, h0, Nat.le_refl _, Nat.le_refl _, rfl, rfl⟩
  rintro j ⟨s, k, n, v1, v4⟩ P ⟨hj, ⟨μ, lab, ad, hx, hC, hR, hI, hT⟩, hk, hn, e1, e4⟩ hP
  (try dsimp only at hx hC hR hI hT hk hn e1 e4)
  subst e1; subst e4
  show wpW_law_23_F mc ms L xs (fun r _ => r = 1) (fun s k n v1 v4 => P (s, k, n, v1, v4)) s k n v1 (nI (6 * j))
  by_cases g : nI L - 6 < nI (6 * j)
  · unfold wpW_law_23_F
    exact And.intro (fun _ => ⟨by omega, by omega, rfl⟩) (fun g' => absurd g g')
  · have h6 := no_more hL hj g
    refine law_one hC hx hR hI hT (by omega) (VP_of hL h6) ⟨by omega, by omega⟩ ?_ (nI_in (by omega) (by omega)) g
    intro τ ρ o k' n' hInv hk' hn'
    refine hP _ ⟨by omega, hInv, ?_, ?_, rfl, ?_⟩
    · show k' ≤ 43 + 100 * (j + 1); omega
    · refine Nat.le_trans hn' (Nat.le_trans (Nat.add_le_add_right hn 6110) (Nat.le_of_eq ?_))
      show 15970 + 6110 * j + 6110 = 15970 + 6110 * (j + 1)
      rw [Nat.mul_succ, Nat.add_assoc]
    · show nI (6 * j) + nI 6 = nI (6 * (j + 1))
      rw [nI_add]; rfl
end LZ
theorem pure_all : PURE := by
  intro mc ms hmc hms z x L xs hL
  exact cO_init z x (fun σ' lab ad hx hC => law_loop hmc hms hL ⟨μ_0, lab, ad, hx, hC, RR_0, MI_0, TB_0⟩)
end
