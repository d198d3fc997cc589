section
/-! rules' texts: what they say, in the model -/
section PS
abbrev Cd : Type := Nat × Nat
abbrev Rs : Type := Bool × Tk × List Cd
noncomputable def pCmp (b : Nat → Nat) (e : Nat) (τ : Tk) (w : Nat) : Rs :=
  if (tok b e τ.2.1).2.2.1 = 9 ∨ (tok b e τ.2.1).2.2.1 = 10 ∨ (tok b e τ.2.1).2.2.1 = 11 then
    (if (tok b e (tok b e τ.2.1).2.1).2.2.1 = 14 then (true, tok b e (tok b e (tok b e τ.2.1).2.1).2.1, [(3 * w + ((tok b e τ.2.1).2.2.1 - 9), (tok b e (tok b e τ.2.1).2.1).2.2.2)])
     else (false, tok b e (tok b e τ.2.1).2.1, []))
  else (false, tok b e τ.2.1, [])
noncomputable def pNam (b : Nat → Nat) (e nS nL : Nat) (τ : Tk) (w : Nat) : Rs :=
  if (tok b e τ.2.1).2.2.1 = 14 ∧ (tok b e τ.2.1).2.2.2 < (if w = 4 then nS else nL) then (true, tok b e (tok b e τ.2.1).2.1, [((if w = 4 then 12 else 13), (tok b e τ.2.1).2.2.2)])
  else (false, tok b e τ.2.1, [])
noncomputable def pLp (b : Nat → Nat) (e : Nat) (P : Tk → Rs) (sep c : Nat) : Nat → Rs → Rs
  | 0, r => r
  | n + 1, r => if r.1 = true ∧ r.2.1.2.2.1 = sep then pLp b e P sep c n ((P (tok b e r.2.1.2.1)).1, (P (tok b e r.2.1.2.1)).2.1, r.2.2 ++ (P (tok b e r.2.1.2.1)).2.2 ++ [(c, 0)]) else r
noncomputable def pBoth (b : Nat → Nat) (e : Nat) (P : Tk → Rs) (τ : Tk) : Rs := pLp b e P 7 15 400 (P τ)
noncomputable def pEith (b : Nat → Nat) (e : Nat) (P : Tk → Rs) (τ : Tk) : Rs := pLp b e (pBoth b e P) 8 16 400 (pBoth b e P τ)
noncomputable def pNest (b : Nat → Nat) (e : Nat) (Q : Tk → Rs) (τ : Tk) : Rs :=
  if τ.2.2.1 = 6 then ((Q (tok b e τ.2.1)).1, (Q (tok b e τ.2.1)).2.1, (Q (tok b e τ.2.1)).2.2 ++ [(14, 0)])
  else if (pEith b e Q (tok b e τ.2.1)).1 = true ∧ (pEith b e Q (tok b e τ.2.1)).2.1.2.2.1 = 13 then (true, tok b e (pEith b e Q (tok b e τ.2.1)).2.1.2.1, (pEith b e Q (tok b e τ.2.1)).2.2)
  else (false, (pEith b e Q (tok b e τ.2.1)).2.1, (pEith b e Q (tok b e τ.2.1)).2.2)
noncomputable def pStep (b : Nat → Nat) (e nS nL : Nat) (N : Tk → Rs) (τ : Tk) : Rs :=
  if τ.2.2.1 = 6 ∨ τ.2.2.1 = 12 then N τ else if τ.2.2.1 = 4 ∨ τ.2.2.1 = 5 then pNam b e nS nL τ τ.2.2.1 else if τ.2.2.1 ≤ 3 then pCmp b e τ τ.2.2.1 else (false, τ, [])
noncomputable def pP (b : Nat → Nat) (e nS nL : Nat) : Nat → Tk → Rs
  | 0 => pStep b e nS nL (fun τ => (false, τ, []))
  | d + 1 => pStep b e nS nL (pNest b e (pP b e nS nL d))
/-- what was read is well placed -/
def WfT (e : Nat) (τ : Tk) : Prop := τ.1 ≤ τ.2.1 ∧ τ.2.1 ≤ e ∧ τ.2.2.1 ≤ 16 ∧ (τ.2.2.1 ≠ 15 → τ.1 < τ.2.1) ∧ (τ.2.2.1 = 15 → τ.1 = e) ∧ (τ.2.2.1 = 14 → τ.2.2.2 < 1000000)
theorem WfT.nx {b : Nat → Nat} {e : Nat} {τ : Tk} (h : WfT e τ) : WfT e (tok b e τ.2.1) ∧ τ.2.1 ≤ (tok b e τ.2.1).1 := by
  obtain ⟨h1, h2, h3, h4, h5, h6⟩ := h
  obtain ⟨g1, g2, g3, g4, g5, g6⟩ := tok_le (b := b) h2
  exact ⟨⟨g2, g3, g4, g5, g6, tok_nb⟩, g1⟩
theorem WfT.t0 {b : Nat → Nat} {e : Nat} : WfT e (tok b e 0) := by
  obtain ⟨g1, g2, g3, g4, g5, g6⟩ := tok_le (b := b) (Nat.zero_le e)
  exact ⟨g2, g3, g4, g5, g6, tok_nb⟩
def dS (D c : Nat) : Nat := if c = 14 then D else if c = 15 ∨ c = 16 then D - 1 else D + 1
def okC1 (nS nL D : Nat) (x : Cd) : Prop := x.1 ≤ 16 ∧ x.2 < 1000000 ∧ (x.1 = 12 → x.2 < nS) ∧ (x.1 = 13 → x.2 < nL) ∧ (x.1 = 14 → 1 ≤ D) ∧ (x.1 = 15 ∨ x.1 = 16 → 2 ≤ D)
/-- a row of steps runs from a pile of D, never more than M on it -/
def okL (nS nL M : Nat) : Nat → List Cd → Prop
  | D, [] => D ≤ M
  | D, x :: L => D ≤ M ∧ okC1 nS nL D x ∧ okL nS nL M (dS D x.1) L
def enL : Nat → List Cd → Nat
  | D, [] => D
  | D, x :: L => enL (dS D x.1) L
theorem enL_ap : ∀ (A B : List Cd) (D : Nat), enL D (A ++ B) = enL (enL D A) B
  | [], _, _ => rfl
  | x :: A, B, D => enL_ap A B (dS D x.1)
theorem okL_ap {nS nL M : Nat} : ∀ (A B : List Cd) (D : Nat), okL nS nL M D A → okL nS nL M (enL D A) B → okL nS nL M D (A ++ B)
  | [], _, _, _, h => h
  | x :: A, B, D, h, g => ⟨h.1, h.2.1, okL_ap A B (dS D x.1) h.2.2 g⟩
theorem okL_mono {nS nL M M' : Nat} (hM : M ≤ M') : ∀ (A : List Cd) (D : Nat), okL nS nL M D A → okL nS nL M' D A
  | [], _, h => Nat.le_trans h hM
  | x :: A, D, h => ⟨Nat.le_trans h.1 hM, h.2.1, okL_mono hM A _ h.2.2⟩
/-- a reader that is right: it goes on, it writes no more than it reads, it leaves one bit more -/
def GdP (e nS nL m : Nat) (P : Tk → Rs) : Prop := ∀ τ : Tk, WfT e τ → WfT e (P τ).2.1 ∧ τ.1 ≤ (P τ).2.1.1 ∧ ((P τ).1 = true → (P τ).2.2.length + 1 + τ.1 ≤ (P τ).2.1.1 ∧ 1 ≤ (P τ).2.2.length ∧ ∀ D : Nat, okL nS nL (D + m) D (P τ).2.2 ∧ enL D (P τ).2.2 = D + 1)
section G
variable {b : Nat → Nat} {e nS nL m : Nat}
theorem pLp_gd {P : Tk → Rs} {sep c : Nat} (hm : 1 ≤ m) (hP : GdP e nS nL m P) (hs : sep ≠ 15) (hc : c = 15 ∨ c = 16) : ∀ (n : Nat) (r : Rs) (f : Nat), WfT e r.2.1 → f ≤ r.2.1.1 → (r.1 = true → r.2.2.length + 1 + f ≤ r.2.1.1 ∧ 1 ≤ r.2.2.length ∧ ∀ D : Nat, okL nS nL (D + (m + 1)) D r.2.2 ∧ enL D r.2.2 = D + 1) →
    WfT e (pLp b e P sep c n r).2.1 ∧ f ≤ (pLp b e P sep c n r).2.1.1 ∧ ((pLp b e P sep c n r).1 = true → (pLp b e P sep c n r).2.2.length + 1 + f ≤ (pLp b e P sep c n r).2.1.1 ∧ 1 ≤ (pLp b e P sep c n r).2.2.length ∧ ∀ D : Nat, okL nS nL (D + (m + 1)) D (pLp b e P sep c n r).2.2 ∧ enL D (pLp b e P sep c n r).2.2 = D + 1)
  | 0, r, f, h1, h2, h3 => ⟨h1, h2, h3⟩
  | n + 1, r, f, h1, h2, h3 => by
    by_cases hg : r.1 = true ∧ r.2.1.2.2.1 = sep
    · have e1 : pLp b e P sep c (n + 1) r = pLp b e P sep c n ((P (tok b e r.2.1.2.1)).1, (P (tok b e r.2.1.2.1)).2.1, r.2.2 ++ (P (tok b e r.2.1.2.1)).2.2 ++ [(c, 0)]) := if_pos hg
      rw [e1]
      obtain ⟨g1, g2⟩ := h1.nx (b := b)
      obtain ⟨p1, p2, p3⟩ := hP _ g1
      have h4 := h1.2.2.2.1 (by omega)
      obtain ⟨q1, q2, q3⟩ := h3 hg.1
      refine pLp_gd hm hP hs hc n _ f p1 (by dsimp only; omega) (fun hok => ?_)
      obtain ⟨w1, w2, w3⟩ := p3 hok
      dsimp only
      refine ⟨by simp only [List.length_append, List.length_cons, List.length_nil]; omega, by simp only [List.length_append, List.length_cons, List.length_nil]; omega, fun D => ?_⟩
      obtain ⟨a1, a2⟩ := q3 D
      obtain ⟨b1, b2⟩ := w3 (D + 1)
      have e2 : enL D (r.2.2 ++ (P (tok b e r.2.1.2.1)).2.2) = D + 2 := by rw [enL_ap, a2, b2]
      have e3 : dS (D + 2) c = D + 1 := by
        unfold dS
        rw [if_neg (by omega), if_pos hc]
        omega
      refine ⟨okL_ap _ _ D (okL_ap _ _ D a1 ?_) ?_, ?_⟩
      · rw [a2]; exact okL_mono (by omega) _ _ b1
      · rw [e2]
        exact ⟨by omega, ⟨by dsimp only; omega, by dsimp only; omega, fun g => by dsimp only at g; omega, fun g => by dsimp only at g; omega, fun g => by dsimp only at g; omega, fun _ => by omega⟩, by show okL nS nL _ (dS (D + 2) c) []; rw [e3]; show D + 1 ≤ _; omega⟩
      · rw [enL_ap, e2]
        exact e3
    · have e1 : pLp b e P sep c (n + 1) r = r := if_neg hg
      rw [e1]
      exact ⟨h1, h2, h3⟩
theorem pBoth_gd {P : Tk → Rs} (hm : 1 ≤ m) (hP : GdP e nS nL m P) : GdP e nS nL (m + 1) (pBoth b e P) := by
  intro τ h
  obtain ⟨p1, p2, p3⟩ := hP τ h
  exact pLp_gd hm hP (by decide) (Or.inl rfl) 400 (P τ) τ.1 p1 p2 (fun hok => ⟨(p3 hok).1, (p3 hok).2.1, fun D => ⟨okL_mono (by omega) _ _ ((p3 hok).2.2 D).1, ((p3 hok).2.2 D).2⟩⟩)
theorem pEith_gd {P : Tk → Rs} (hm : 1 ≤ m) (hP : GdP e nS nL m P) : GdP e nS nL (m + 2) (pEith b e P) := by
  intro τ h
  obtain ⟨p1, p2, p3⟩ := pBoth_gd (b := b) hm hP τ h
  exact pLp_gd (by omega) (pBoth_gd (b := b) hm hP) (by decide) (Or.inr rfl) 400 (pBoth b e P τ) τ.1 p1 p2 (fun hok => ⟨(p3 hok).1, (p3 hok).2.1, fun D => ⟨okL_mono (by omega) _ _ ((p3 hok).2.2 D).1, ((p3 hok).2.2 D).2⟩⟩)
theorem pCmp_gd {τ : Tk} {w : Nat} (h : WfT e τ) (hw : w ≤ 3) : WfT e (pCmp b e τ w).2.1 ∧ τ.1 ≤ (pCmp b e τ w).2.1.1 ∧ ((pCmp b e τ w).1 = true → (pCmp b e τ w).2.2.length + 1 + τ.1 ≤ (pCmp b e τ w).2.1.1 ∧ 1 ≤ (pCmp b e τ w).2.2.length ∧ ∀ D : Nat, okL nS nL (D + 1) D (pCmp b e τ w).2.2 ∧ enL D (pCmp b e τ w).2.2 = D + 1) := by
  obtain ⟨g1, g2⟩ := h.nx (b := b)
  obtain ⟨k1, k2⟩ := g1.nx (b := b)
  obtain ⟨l1, l2⟩ := k1.nx (b := b)
  have z0 := h.1
  have z1 := g1.1
  have z2 := k1.1
  unfold pCmp
  split
  · rename_i hs
    split
    · rename_i hn
      have y1 := g1.2.2.2.1 (by omega)
      have y2 := k1.2.2.2.1 (by omega)
      have hb := k1.2.2.2.2.2 hn
      refine ⟨l1, by dsimp only; omega, fun _ => ⟨by dsimp only [List.length_cons, List.length_nil]; omega, by dsimp only [List.length_cons, List.length_nil]; omega, fun D => ?_⟩⟩
      have e1 : dS D (3 * w + ((tok b e τ.2.1).2.2.1 - 9)) = D + 1 := by
        unfold dS
        rw [if_neg (by omega), if_neg (by omega)]
      refine ⟨⟨by omega, ⟨by dsimp only; omega, hb, fun g => by dsimp only at g; omega, fun g => by dsimp only at g; omega, fun g => by dsimp only at g; omega, fun g => by dsimp only at g; omega⟩, ?_⟩, e1⟩
      show okL nS nL _ (dS D (3 * w + ((tok b e τ.2.1).2.2.1 - 9))) []
      rw [e1]
      exact Nat.le_refl _
    · exact ⟨k1, by dsimp only; omega, fun e => absurd (show false = true from e) (by decide)⟩
  · exact ⟨g1, by dsimp only; omega, fun e => absurd (show false = true from e) (by decide)⟩
theorem pNam_gd {τ : Tk} {w : Nat} (h : WfT e τ) (h15 : τ.2.2.1 ≠ 15) : WfT e (pNam b e nS nL τ w).2.1 ∧ τ.1 ≤ (pNam b e nS nL τ w).2.1.1 ∧ ((pNam b e nS nL τ w).1 = true → (pNam b e nS nL τ w).2.2.length + 1 + τ.1 ≤ (pNam b e nS nL τ w).2.1.1 ∧ 1 ≤ (pNam b e nS nL τ w).2.2.length ∧ ∀ D : Nat, okL nS nL (D + 1) D (pNam b e nS nL τ w).2.2 ∧ enL D (pNam b e nS nL τ w).2.2 = D + 1) := by
  obtain ⟨g1, g2⟩ := h.nx (b := b)
  obtain ⟨k1, k2⟩ := g1.nx (b := b)
  have z0 := h.2.2.2.1 h15
  have z1 := g1.1
  unfold pNam
  by_cases hn : (tok b e τ.2.1).2.2.1 = 14 ∧ (tok b e τ.2.1).2.2.2 < (if w = 4 then nS else nL)
  · rw [if_pos hn]
    have y1 := g1.2.2.2.1 (by omega)
    have hb := g1.2.2.2.2.2 hn.1
    have hn2 := hn.2
    refine ⟨k1, by dsimp only; omega, fun _ => ⟨by dsimp only [List.length_cons, List.length_nil]; omega, by dsimp only [List.length_cons, List.length_nil]; omega, fun D => ?_⟩⟩
    by_cases e4 : w = 4
    · rw [if_pos e4] at hn2 ⊢
      exact ⟨⟨by omega, ⟨by dsimp only; omega, hb, fun _ => hn2, fun g => by dsimp only at g; omega, fun g => by dsimp only at g; omega, fun g => by dsimp only at g; omega⟩, Nat.le_refl _⟩, rfl⟩
    · rw [if_neg e4] at hn2 ⊢
      exact ⟨⟨by omega, ⟨by dsimp only; omega, hb, fun g => by dsimp only at g; omega, fun _ => hn2, fun g => by dsimp only at g; omega, fun g => by dsimp only at g; omega⟩, Nat.le_refl _⟩, rfl⟩
  · rw [if_neg hn]
    exact ⟨g1, by dsimp only; omega, fun e => absurd (show false = true from e) (by decide)⟩
theorem pNest_gd {Q : Tk → Rs} (hm : 1 ≤ m) (hQ : GdP e nS nL m Q) : GdP e nS nL (m + 2) (pNest b e Q) := by
  intro τ h
  obtain ⟨g1, g2⟩ := h.nx (b := b)
  have z0 := h.1
  unfold pNest
  split
  · rename_i h6
    obtain ⟨p1, p2, p3⟩ := hQ _ g1
    have y1 := h.2.2.2.1 (by omega)
    refine ⟨p1, by dsimp only; omega, fun hok => ?_⟩
    obtain ⟨w1, w2, w3⟩ := p3 hok
    dsimp only
    refine ⟨by simp only [List.length_append, List.length_cons, List.length_nil]; omega, by simp only [List.length_append, List.length_cons, List.length_nil]; omega, fun D => ?_⟩
    obtain ⟨a1, a2⟩ := w3 D
    refine ⟨okL_ap _ _ D (okL_mono (by omega) _ _ a1) ?_, by rw [enL_ap, a2]; rfl⟩
    rw [a2]
    exact ⟨by omega, ⟨by decide, by dsimp only; omega, fun g => absurd g (by decide), fun g => absurd g (by decide), fun _ => by omega, fun g => absurd g (by decide)⟩, by show dS (D + 1) 14 ≤ _; show D + 1 ≤ _; omega⟩
  · rename_i h6
    obtain ⟨p1, p2, p3⟩ := pEith_gd (b := b) hm hQ _ g1
    split
    · rename_i hk
      obtain ⟨k1, k2⟩ := p1.nx (b := b)
      have y1 := p1.1
      obtain ⟨w1, w2, w3⟩ := p3 hk.1
      exact ⟨k1, by dsimp only; omega, fun _ => ⟨by dsimp only; omega, w2, w3⟩⟩
    · exact ⟨p1, by dsimp only; omega, fun e => absurd (show false = true from e) (by decide)⟩
theorem pStep_gd {N : Tk → Rs} (hN : GdP e nS nL m N) (hm : 1 ≤ m) : GdP e nS nL m (pStep b e nS nL N) := by
  intro τ h
  unfold pStep
  split
  · exact hN τ h
  split
  · obtain ⟨a1, a2, a3⟩ := pNam_gd (b := b) (nS := nS) (nL := nL) (w := τ.2.2.1) h (by omega)
    exact ⟨a1, a2, fun hok => ⟨(a3 hok).1, (a3 hok).2.1, fun D => ⟨okL_mono (by omega) _ _ ((a3 hok).2.2 D).1, ((a3 hok).2.2 D).2⟩⟩⟩
  split
  · rename_i h3
    obtain ⟨a1, a2, a3⟩ := pCmp_gd (b := b) (nS := nS) (nL := nL) (w := τ.2.2.1) h h3
    exact ⟨a1, a2, fun hok => ⟨(a3 hok).1, (a3 hok).2.1, fun D => ⟨okL_mono (by omega) _ _ ((a3 hok).2.2 D).1, ((a3 hok).2.2 D).2⟩⟩⟩
  · exact ⟨h, Nat.le_refl _, fun e => absurd (show false = true from e) (by decide)⟩
theorem pP_gd : ∀ d : Nat, GdP e nS nL (2 * d + 1) (pP b e nS nL d)
  | 0 => pStep_gd (fun τ h => ⟨h, Nat.le_refl _, fun e => absurd (show false = true from e) (by decide)⟩) (Nat.le_refl _)
  | d + 1 => pStep_gd (pNest_gd (by omega) (pP_gd d)) (by omega)
end G
/-- steps as the model keeps them -/
theorem okL_wf {nS nL : Nat} {L : List Cd} {c n : Nat → Nat} (hL : L.length ≤ 400) (hc : ∀ k : Nat, k < L.length → L.getD k (0, 0) = (c k, n k)) (h : okL nS nL 43 0 L) (he : enL 0 L = 1) : wfN c n L.length nS nL := by
  have key : ∀ (B A : List Cd), L = A ++ B → okL nS nL 43 (enL 0 A) B → depN c A.length = enL 0 A → (∀ k : Nat, k ≤ A.length → depN c k ≤ 43) → (∀ k : Nat, k < A.length → okC1 nS nL (depN c k) (c k, n k)) → wfN c n L.length nS nL := by
    intro B
    induction B with
    | nil =>
      intro A e h1 h2 h3 h4
      rw [List.append_nil] at e
      subst e
      exact ⟨hL, by rw [h2, he], h3, fun k hk => h4 k hk⟩
    | cons x B ih =>
      intro A e h1 h2 h3 h4
      have hlen : L.length = A.length + (B.length + 1) := by rw [e, List.length_append, List.length_cons]
      have hx : (c A.length, n A.length) = x := by
        rw [← hc A.length (by omega), e]
        simp
      have hcx : c A.length = x.1 := by rw [← hx]
      have hd : depN c (A.length + 1) = dS (depN c A.length) x.1 := by rw [← hcx]; rfl
      have hen : enL 0 (A ++ [x]) = dS (enL 0 A) x.1 := by rw [enL_ap]; rfl
      have hl1 : (A ++ [x]).length = A.length + 1 := by rw [List.length_append]; rfl
      refine ih (A ++ [x]) (by rw [e, List.append_assoc]; rfl) (by rw [hen]; exact h1.2.2) (by rw [hl1, hd, hen, h2]) (fun k hk => ?_) (fun k hk => ?_)
      · by_cases ek : k = A.length + 1
        · subst ek
          rw [hd, h2]
          have := h1.2.2
          cases B with
          | nil => exact this
          | cons y B => exact this.1
        · exact h3 k (by omega)
      · by_cases ek : k = A.length
        · subst ek
          rw [h2, hx]
          exact h1.2.1
        · exact h4 k (by omega)
  exact key L [] rfl h rfl (fun k hk => by have : k = 0 := Nat.le_zero.mp hk; subst this; exact Nat.zero_le _) (fun k hk => absurd hk (Nat.not_lt_zero _))
end PS
end
