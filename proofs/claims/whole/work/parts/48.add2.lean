section ADD2
variable {σ : CSt} {lab : Nat → Nat} {a m n e : Nat} {f : Nat → Nat} {mc ms : Nat}
theorem capL_of {d : Nat} (h : cR σ 1 a = some d) : capL σ a = cNq σ d := by unfold capL; rw [h]
theorem cNq_lt {lab : Nat → Nat} {d : Nat} (h : isD σ lab m n f d) : cNq σ d ≤ 109 ∧ n ≤ cNq σ d := by
  rcases h with ⟨h1, h2⟩ | ⟨h1, -, -, h2, h3, -⟩
  · rw [cNq, if_pos h2, h1]; exact ⟨Nat.zero_le _, Nat.le_refl _⟩
  · rw [cNq, if_neg h1]; exact ⟨by rcases h3 with h | h | h | h | h | h | h <;> omega, h2⟩
def capG (n : Nat) : Nat := if n = 0 then 10 else capN n
theorem add_72 {post : CSt → Prop} {d : Nat} (ha : cAt σ 0 a) (hl : lab a = m) (hr : cR σ 1 a = some d) (h : isD σ lab m n f d) (hn : n < 80) (hs : cI σ 2 a = nI n) (hel : ∀ i : Nat, i < n → cElm σ (f i)) (he : cElm σ e) (hg : n = capL σ a → 1 ≤ mc ∧ 109 ≤ ms)
    (hp : ∀ (σ' : CSt) (lab' : Nat → Nat), keepR (addX m) σ lab σ' lab' → isL σ' lab' a m (n + 1) (va_up f n e) → capL σ' a = (if n = capL σ a then capG n else capL σ a) → post σ') : wpC_Jx4a65c_add_72be8_0 mc ms post σ a e d (nI n) := by
  have hcap := cNq_lt h
  have hcl := capL_of hr
  refine ⟨?_, ?_, ?_⟩
  · rcases h with ⟨-, h2⟩ | ⟨h1, h2, -⟩
    · exact Or.inl h2
    · exact Or.inr ⟨h1, h2⟩
  · intro hne
    have hne' : n ≠ cNq σ d := fun e0 => hne (by rw [← e0])
    rcases h with ⟨h1, h2⟩ | ⟨h1, h2, h3, h4, h5, h6⟩
    · exact absurd (by rw [cNq, if_pos h2, h1]) hne'
    · have h7 : cNq σ d = cN σ d := if_neg h1
      refine add_11 ha hl h2 h3 hr h1 hn (by omega) h5 h6 he ⟨Nat.zero_le _, Nat.zero_le _⟩ (fun σ' k1 k2 k3 _ => hp σ' lab k1 k2 ?_)
      rw [capL_of k3, hcl, if_neg hne', cNq, cNq, k1.1, if_neg h1, if_neg h1, k1.N h2]
  · intro heq
    have heq' : n = cNq σ d := (nI_eq (by omega) (by omega)).mp heq
    have hm := hg (heq'.trans hcl.symm)
    refine ⟨mc, ms, by omega, by omega, ha, ha, mc, ms, by omega, by omega, ha, ?_⟩
    rw [hs, nI_1]
    rcases h with ⟨h1, h2⟩ | ⟨h1, h2, h3, h4, h5, h6⟩
    · subst h1
      refine grow_0 ha hl (by rw [hr, h2]) hm (fun q hq hqz => ⟨by omega, by omega, ?_⟩)
      have haq : a ≠ q := fun e0 => hq (e0 ▸ ha.1)
      have ha' : cAt (csR (csA σ q 10 10) 1 a (some q)) 0 a := at_csA (n := 10) hq ha
      have hl' : va_up lab q m a = m := (va_up_ne _ _ haq).trans hl
      have hk : keepR (addX m) σ lab (csR (csA σ q 10 10) 1 a (some q)) (va_up lab q m) := (keep_csA hq 10 10 m).tr ((keep_csR (σ := csA σ q 10 10) (at_csA (n := 10) hq ha) hl' 1 (some q)).mono (fun k l h => ⟨Or.inl h.1, h.2⟩))
      refine add_11 (lab := va_up lab q m) ha' hl' (show cAt (csR (csA σ q 10 10) 1 a (some q)) 10 q from at_csAq (n := 10)) (va_up_self _ _ _) (by rw [pR_csR, cu2_ap, if_pos rfl, if_pos rfl]) hqz hn ?_ ?_ (fun i hi => absurd hi (Nat.not_lt_zero i)) (hk.elm he) ⟨by omega, by omega⟩ (fun σ' k1 k2 k3 _ => hp σ' _ (hk.tr k1) k2 ?_)
      · rw [pN_csR, pN_csA, va_up_self]; omega
      · rw [pN_csR, pN_csA, va_up_self]; exact Or.inl rfl
      · rw [capL_of k3, hcl, if_pos heq', cNq, k1.1, if_neg (show ¬ q = (cZ (csR (csA σ q 10 10) 1 a (some q))).1 from hqz), k1.N (show cAt (csR (csA σ q 10 10) 1 a (some q)) 10 q from at_csAq (n := 10)), pN_csR, pN_csA, va_up_self]; rfl
    · have h7 : cNq σ d = cN σ d := if_neg h1
      have h8 : cN σ d = n := by omega
      have hn0 : n ≠ 0 := by rcases h5 with h | h | h | h | h | h | h <;> omega
      refine grow_1 (c := n) ha hr h2 h1 h8 (h8 ▸ h5) (by omega) (fun i hi y hy => by rw [h6 i hi] at hy; cases hy; exact hel i hi) hm (fun q g hq hqz hgq => ⟨by omega, by omega, ?_⟩)
      have haq : a ≠ q := fun e0 => hq (e0 ▸ ha.1)
      have ha' : cAt (csR (csE (csA σ q 10 (capN n)) q g) 1 a (some q)) 0 a := at_csA (n := capN n) hq ha
      have hl' : va_up lab q m a = m := (va_up_ne _ _ haq).trans hl
      have hqa : cAt (csA σ q 10 (capN n)) 10 q := at_csAq
      have hk : keepR (addX m) σ lab (csR (csE (csA σ q 10 (capN n)) q g) 1 a (some q)) (va_up lab q m) := ((keep_csA hq 10 (capN n) m).tr ((keep_csE (σ := csA σ q 10 (capN n)) hqa (va_up_self lab q m) g).mono (fun k l h => ⟨Or.inr h.1, h.2⟩))).tr ((keep_csR (σ := csE (csA σ q 10 (capN n)) q g) (at_csA (n := capN n) hq ha) hl' 1 (some q)).mono (fun k l h => ⟨Or.inl h.1, h.2⟩))
      obtain ⟨c1, c2, c3, c4⟩ := cap_len (h8 ▸ h5) (show n ≤ 79 by omega)
      refine add_11 (lab := va_up lab q m) ha' hl' (show cAt (csR (csE (csA σ q 10 (capN n)) q g) 1 a (some q)) 10 q from hqa) (va_up_self _ _ _) (by rw [pR_csR, cu2_ap, if_pos rfl, if_pos rfl]) hqz hn ?_ ?_ (fun i hi => ?_) (hk.elm he) ⟨by omega, by omega⟩ (fun σ' k1 k2 k3 _ => hp σ' _ (hk.tr k1) k2 ?_)
      · rw [pN_csR, pN_csE, pN_csA, va_up_self]; exact c4
      · rw [pN_csR, pN_csE, pN_csA, va_up_self]; exact c2
      · rw [pE_csR, pE_csE, va_up_self, hgq i hi]; exact h6 i hi
      · rw [capL_of k3, hcl, if_pos heq', cNq, k1.1, if_neg (show ¬ q = (cZ (csR (csE (csA σ q 10 (capN n)) q g) 1 a (some q))).1 from hqz), k1.N (show cAt (csR (csE (csA σ q 10 (capN n)) q g) 1 a (some q)) 10 q from hqa), pN_csR, pN_csE, pN_csA, va_up_self, capG, if_neg hn0]
end ADD2
