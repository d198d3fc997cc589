section
/-! rule: the reference -/
section RRU1
variable {ρ : RSt} {μ : MSt} {j : Nat} {v : Int32} {b : Nat → Nat}
/-- where a text is wrong -/
noncomputable def plW (b : Nat → Nat) (e nS nL : Nat) : Nat := (pAll b e nS nL).2.1.1
theorem pFin_t {r : Rs} (h : (pFin r).1 = true) : pFin r = r ∧ r.1 = true ∧ r.2.1.2.2.1 = 15 := by
  unfold pFin at h ⊢
  by_cases g : r.1 = true ∧ r.2.1.2.2.1 = 15
  · rw [if_pos g]; exact ⟨rfl, g.1, g.2⟩
  · rw [if_neg g] at h; exact absurd (show false = true from h) (by decide)
theorem pFin_f {r : Rs} (h : ¬ (r.1 = true ∧ r.2.1.2.2.1 = 15)) : pFin r = (false, r.2.1, []) := if_neg h
/-- a text that is right: its steps are well formed -/
theorem pAll_ok {e nS nL : Nat} (h : (pAll b e nS nL).1 = true) : (pAll b e nS nL).2.2.length + 1 ≤ e ∧ okL nS nL 43 0 (pAll b e nS nL).2.2 ∧ enL 0 (pAll b e nS nL).2.2 = 1 := by
  unfold pAll at h ⊢
  obtain ⟨h1, h2, h3⟩ := pFin_t h
  obtain ⟨p1, p2, p3⟩ := pEith_gd (b := b) (by omega) (pP_gd (b := b) (e := e) (nS := nS) (nL := nL) 20) _ (WfT.t0 (b := b) (e := e))
  obtain ⟨q1, q2, q3⟩ := p3 h2
  rw [h1]
  have := p1.1
  have := p1.2.1
  exact ⟨by omega, okL_mono (by omega) _ _ (q3 0).1, (q3 0).2⟩
end RRU1
end
