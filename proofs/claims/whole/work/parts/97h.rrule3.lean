section
/-! rule: the reference, whole -/
section RRU3
variable {ρ : RSt} {μ : MSt} {j : Nat} {v : Int32} {b : Nat → Nat}
theorem rO_rule {post : Int32 → RSt → Prop} (hR : RR ρ μ) (hI : MI μ j) (hb : ∀ i : Nat, i < 400 → b i < 256 ∧ μ.2.2 1 i = sB (b i))
    (h0 : (¬ v < 0 → ¬ v < nI (μ.1 9)) → ∀ ρ', RR ρ' (m1 μ 2 0) → ρ'.1 0 = 1 → post 0 ρ')
    (h2 : ∀ s : Nat, s < μ.1 9 → v = nI s → (pAll b (μ.1 2) (μ.1 9) (μ.1 7)).1 = false → ∀ ρ', RR ρ' (mR0 μ (nI (plW b (μ.1 2) (μ.1 9) (μ.1 7))) 0) → ρ'.1 0 = 2 → post 0 ρ')
    (h3 : ∀ s : Nat, s < μ.1 9 → v = nI s → (pAll b (μ.1 2) (μ.1 9) (μ.1 7)).1 = true → ¬ rgB (lnR μ s (bitsL (pAll b (μ.1 2) (μ.1 9) (μ.1 7)).2.2)) (μ.1 9) (μ.1 9) = 0 → ∀ ρ', RR ρ' (mR0 μ (-1) (rgB (lnR μ s (bitsL (pAll b (μ.1 2) (μ.1 9) (μ.1 7)).2.2)) (μ.1 9) (μ.1 9))) → ρ'.1 0 = 3 → post 0 ρ')
    (h1 : ∀ s : Nat, s < μ.1 9 → v = nI s → (pAll b (μ.1 2) (μ.1 9) (μ.1 7)).1 = true → rgB (lnR μ s (bitsL (pAll b (μ.1 2) (μ.1 9) (μ.1 7)).2.2)) (μ.1 9) (μ.1 9) = 0 → ∀ ρ', RR ρ' (mRul μ s (pAll b (μ.1 2) (μ.1 9) (μ.1 7)).2.2) → ρ'.1 0 = 0 → post (bcI (nI (bitsL (pAll b (μ.1 2) (μ.1 9) (μ.1 7)).2.2))) ρ') : wpR_rule_0 post ρ v := by
  have hc := hI.cs
  have hc0 := hI.c0
  unfold mC0 at hc0
  intro s22 hs22
  have r22 : RR s22 μ := by rw [hs22]; exact hR.sI (k := 0) 0 (by unfold sc1; omega) (by decide)
  have t22 : s22.1 0 = 0 := by rw [hs22]; exact rI_s
  clear hs22
  intro s23 hs23
  have r23 : RR s23 μ := by rw [hs23]; exact r22.sI _ (by unfold sc1; omega) (by decide)
  have t23 : s23.1 0 = 0 := by rw [hs23, rI_n (by decide)]; exact t22
  have e32 : s23.1 32 = nI (μ.1 2) := by rw [hs23, rI_s]; exact r22.s1 (by unfold sc1; omega)
  clear hs23
  intro s24 hs24
  have r24 : RR s24 (m1 μ 2 0) := by rw [hs24]; exact r23.u1 rfl (by decide) (by decide)
  have t24 : s24.1 0 = 0 := by rw [hs24, rI_n (by decide)]; exact t23
  have e24 : s24.1 32 = nI (μ.1 2) := by rw [hs24, rI_n (by decide)]; exact e32
  clear hs24
  have q9 : (m1 μ 2 0).1 9 = μ.1 9 := m1_n (by decide)
  refine sR_noSlope r24 (by rw [q9]; omega) (fun s hs e => sR_t0 ⟨fun _ => ?_, fun e => absurd rfl e⟩) (fun a => sR_t1 ⟨fun e => absurd e (by decide), fun _ => h0 (by rw [q9] at a; exact a) _ (r24.sI 1 (by unfold sc1; omega) (by decide)) rI_s⟩)
  rw [q9] at hs
  have hh2 := h2 s hs e
  have hh3 := h3 s hs e
  have hh1 := h1 s hs e
  subst e
  sorry
end RRU3
end
