section
/-! least: the reference seeks -/
section LR4
variable {ρ ρ' s s' : RSt} {μ : MSt} {j n : Nat} {w y : Nat → Nat → Int} {sp ms U V co : Nat → Int} {bf : Nat → Option Nat}
def skK (ρ ρ' : RSt) : Prop := ρ'.1 = ρ.1 ∧ (∀ k i : Nat, k ≠ 46 → ρ'.2.1 k i = ρ.2.1 k i) ∧ ∀ k i : Nat, k ≠ 45 → ρ'.2.2 k i = ρ.2.2 k i
theorem skK.rf : skK ρ ρ := ⟨rfl, fun _ _ _ => rfl, fun _ _ _ => rfl⟩
theorem skK.tr {ρ'' : RSt} (h : skK ρ ρ') (g : skK ρ' ρ'') : skK ρ ρ'' := ⟨g.1.trans h.1, fun k i hk => (g.2.1 k i hk).trans (h.2.1 k i hk), fun k i hk => (g.2.2 k i hk).trans (h.2.2 k i hk)⟩
theorem skK.J {p : Nat} {v : Int64} : skK ρ (rsJ ρ 45 p v) := ⟨rfl, fun _ _ _ => rfl, fun k' i h => rJ_n h⟩
theorem skK.A {p : Nat} {v : Int32} : skK ρ (rsA ρ 46 p v) := ⟨rfl, fun k' i h => rA_n (fun e => absurd e h), fun _ _ _ => rfl⟩
theorem skK.ls (h : skK ρ ρ') : lsK ρ ρ' := ⟨h.1, fun k i hk => h.2.1 k i (by omega), fun k i hk => h.2.2 k i (by omega)⟩
/-- ways, what is carried, what each has, who gives, who gets -/
def SF (s : RSt) (μ : MSt) (w y : Nat → Nat → Int) (sp ms : Nat → Int) : Prop := WV s (μ.1 14) w ∧ (∀ i j : Nat, i < μ.1 14 → j < μ.1 14 → (s.2.2 43 (40 * i + j)).toInt = y i j) ∧ (∀ v : Nat, v < μ.1 14 → (s.2.2 44 v).toInt = sp v - ms v) ∧ ∀ v : Nat, v < μ.1 14 → (s.2.1 47 v ≠ 0 ↔ 0 < lSx μ v) ∧ (s.2.1 48 v ≠ 0 ↔ 0 < lMx μ v)
theorem SF.sk (h : SF s μ w y sp ms) (hk : skK s s') : SF s' μ w y sp ms :=
  ⟨fun i j hi hj => by rw [hk.2.2 42 _ (by decide)]; exact h.1 i j hi hj, fun i j hi hj => by rw [hk.2.2 43 _ (by decide)]; exact h.2.1 i j hi hj, fun v hv => by rw [hk.2.2 44 _ (by decide)]; exact h.2.2.1 v hv, fun v hv => by rw [hk.2.1 47 _ (by decide), hk.2.1 48 _ (by decide)]; exact h.2.2.2 v hv⟩
def SV (s : RSt) (n : Nat) (co : Nat → Int) (bf : Nat → Option Nat) : Prop := ∀ x : Nat, ndP n x → (s.2.2 45 x).toInt = co x ∧ s.2.1 46 x = (match bf x with | none => -1 | some p => nI (p % 40))
theorem SV.up (h : SV s n co bf) {x0 p : Nat} {v : Int64} {b : Int32} (hb : b = nI (p % 40)) : SV (rsA (rsJ s 45 x0 v) 46 x0 b) n (updZ co x0 v.toInt) (fun x => if x = x0 then some p else bf x) := by
  intro x hx
  have e1 : (rsA (rsJ s 45 x0 v) 46 x0 b).2.2 45 x = (rsJ s 45 x0 v).2.2 45 x := rfl
  rw [e1, rJ_s]
  (try dsimp only)
  by_cases e : x = x0
  · subst e
    rw [if_pos rfl, updZ_s, if_pos rfl, rA_s]
    exact ⟨rfl, hb⟩
  · rw [if_neg e, updZ_n e, if_neg e, rA_n (fun _ => e)]
    exact h x hx
def Sg (n : Nat) (co : Nat → Int) : Int := sumZ (fun v => co v + co (40 + v)) n
theorem Sg_lt {x : Nat} {c : Int} (hn : n ≤ 40) (hx : ndP n x) (hc : c < co x) : Sg n (updZ co x c) < Sg n co := by
  unfold Sg
  rcases hx with hx | ⟨h1, h2⟩
  · rw [sumZ_ch (f := fun v => co v + co (40 + v)) (p := x) (d := c - co x) hx (by (try dsimp only); rw [updZ_s, updZ_n (by omega)]; omega) (fun i hi hne => by (try dsimp only); rw [updZ_n hne, updZ_n (by omega)])]
    omega
  · obtain ⟨v, rfl⟩ : ∃ v, x = 40 + v := ⟨x - 40, by omega⟩
    rw [sumZ_ch (f := fun v => co v + co (40 + v)) (p := v) (d := c - co (40 + v)) (by omega) (by (try dsimp only); rw [updZ_s, updZ_n (by omega)]; omega) (fun i hi hne => by (try dsimp only); rw [updZ_n (by omega), updZ_n (by omega)])]
    omega
theorem n40 (j : Nat) : (40 : Int32) + nI j = nI (40 + j) := by rw [show (40 : Int32) = nI 40 from rfl, nI_add]
/-- the rounds of the search -/
def SKI (ρ : RSt) (μ : MSt) (w y : Nat → Nat → Int) (sp U V : Nat → Int) (S0 : Int) (p : Nat) (s : RSt) (f : Int32) : Prop := skK ρ s ∧ ∃ co bf, SV s (μ.1 14) co bf ∧ SI (μ.1 14) w y (lMx μ) (lSx μ) sp U V co bf ∧ ((f = 0 ∧ (∀ i j : Nat, i < μ.1 14 → j < μ.1 14 → 40 * i + j < p → AR w y (lMx μ) (lSx μ) co i j) ∧ Sg (μ.1 14) co = S0) ∨ (f = 1 ∧ Sg (μ.1 14) co < S0))
theorem SKI.up1 {S0 : Int} {p : Nat} {s : RSt} {f : Int32} (h : SKI ρ μ w y sp U V S0 p s f) (hA : f = 0 → ∀ co bf, SV s (μ.1 14) co bf → SI (μ.1 14) w y (lMx μ) (lSx μ) sp U V co bf → ∀ i j : Nat, i < μ.1 14 → j < μ.1 14 → 40 * i + j = p → AR w y (lMx μ) (lSx μ) co i j) : SKI ρ μ w y sp U V S0 (p + 1) s f := by
  obtain ⟨h1, co, bf, h2, h3, h4⟩ := h
  refine ⟨h1, co, bf, h2, h3, ?_⟩
  rcases h4 with ⟨g1, g2, g3⟩ | g
  · refine Or.inl ⟨g1, fun i j hi hj hlt => ?_, g3⟩
    by_cases e : 40 * i + j < p
    · exact g2 i j hi hj e
    · exact hA g1 co bf h2 h3 i j hi hj (by omega)
  · exact Or.inr g
/-- the second arc -/
theorem sR_seek2 {post : Int32 → RSt → Prop} {K71 : RSt → Int32 → Prop} {K79 : RSt → Int32 → Int32 → Prop} {K89 : RSt → Int32 → Int32 → Int32 → Prop} {Tot S0 : Int} {i j' jj : Nat} {f : Int32} (hI : MI μ jj) (hF : SF ρ μ w y sp ms) (hQ : QJ (μ.1 14) (lMx μ) (lSx μ) Tot w y sp ms U V) (hW : WOK (μ.1 14) (μ.1 26) (μ.2.1 23) (μ.2.1 24) (nLn μ) w) (hi : i < μ.1 14) (hj : j' < μ.1 14)
    (h : SKI ρ μ w y sp U V S0 (40 * i + j') s f) (hA : f = 0 → ∀ co bf, SV s (μ.1 14) co bf → SI (μ.1 14) w y (lMx μ) (lSx μ) sp U V co bf → 0 < lSx μ i → 0 < lMx μ j' → co i < FAR → w i j' < FAR → co (40 + j') ≤ co i + w i j')
    (hp : ∀ s' f', SKI ρ μ w y sp U V S0 (40 * i + (j' + 1)) s' f' → K89 s' f' (nI i) (nI j' + 1)) : wpR_seeks_215 post K71 K79 K89 s f (nI i) (nI j') (nI (40 * i + j')) := by
  have hN := ntOk hI
  have hn := hN.1
  have hFR : FAR = 1000000000000 := rfl
  have hfar : (1000000000000 : Int64).toInt = FAR := rfl
  have h0 : (0 : Int64).toInt = 0 := rfl
  have hFs := hF.sk h.1
  obtain ⟨hk, co, bf, hV, hS, hfl⟩ := id h
  have r43 := hFs.2.1 i j' hi hj
  have r42 := hFs.1 i j' hi hj
  have rI := (hV i (Or.inl hi)).1
  have rJ := (hV (40 + j') (Or.inr ⟨by omega, by omega⟩)).1
  have hend : (f = 0 → ∀ co bf, SV s (μ.1 14) co bf → SI (μ.1 14) w y (lMx μ) (lSx μ) sp U V co bf → 0 < y i j' → co (40 + j') < FAR → co i ≤ co (40 + j') - w i j') → wpR_seeks_302 post K71 K79 K89 s f (nI i) (nI j') := by
    intro g
    refine hp s f (h.up1 (fun e co bf a1 a2 u v hu hv huv => ?_))
    obtain ⟨rfl, rfl⟩ : u = i ∧ v = j' := by omega
    exact fun b1 b2 => ⟨fun b3 b4 => hA e co bf a1 a2 b1 b2 b3 b4, fun b3 b4 => g e co bf a1 a2 b3 b4⟩
  unfold wpR_seeks_215
  rw [n40, nI_clamp (n := 40 * i + j') (by omega), nI_clamp (n := 40 + j') (by omega), nI_clamp (n := i) (by omega), lgz_le, lgz_ge, lgz_ge, r43, rJ, hfar, h0]
  refine ⟨vp_in_nI (by omega) (by omega), fun e => hend (fun _ co' bf' _ _ g _ => absurd g (by omega)), fun e => ⟨vp_in_nI (by omega) (by omega), fun e2 => hend (fun _ co' bf' a1 _ _ g => ?_), fun e2 => ⟨vp_in_nI (by omega) (by omega), vp_in_nI (by omega) (by omega), vp_in_nI (by omega) (by omega), fun e3 => hend (fun _ co' bf' a1 _ _ _ => ?_), fun e3 => ⟨vp_in_nI (by omega) (by omega), vp_in_nI (by omega) (by omega), vp_in_nI (by omega) (by omega), ?_⟩⟩⟩⟩
  · have := (a1 (40 + j') (Or.inr ⟨by omega, by omega⟩)).1
    omega
  · have c1 := (a1 (40 + j') (Or.inr ⟨by omega, by omega⟩)).1
    have c2 := (a1 i (Or.inl hi)).1
    have b := (hS.1 j' hj).2.2.2.1 (by omega)
    have b2 := (hQ.2.2.1 j' hj).2.1
    have b3 := hW.1.1 i j' hi hj
    rw [i64_sub (by rw [rJ, r42]; omega) (by rw [rJ, r42]; omega), rJ, r42, c2] at e3
    omega
  · have b := (hS.1 j' hj).2.2.2.1 (by omega)
    have b2 := (hQ.2.2.1 j' hj).2.1
    have b3 := hW.1.1 i j' hi hj
    have es : (s.2.2 45 (40 + j') - s.2.2 42 (40 * i + j')).toInt = co (40 + j') - w i j' := by rw [i64_sub (by rw [rJ, r42]; omega) (by rw [rJ, r42]; omega), rJ, r42]
    rw [es, rI] at e3
    intro s9 hs9
    refine ⟨vp_in_nI (by omega) (by omega), ?_⟩
    intro s10 hs10
    have hSV := hV.up (x0 := i) (p := 40 + j') (v := s.2.2 45 (40 + j') - s.2.2 42 (40 * i + j')) (b := nI j') (by congr 1; omega)
    rw [es] at hSV
    have hSI := hS.bw hQ hW hN hi hj (by omega) (by omega) (by omega)
    have hlt := Sg_lt (co := co) (c := co (40 + j') - w i j') hn (Or.inl hi) (by omega)
    refine hp s10 1 ⟨?_, _, _, ?_, hSI, Or.inr ⟨rfl, ?_⟩⟩
    · rw [hs10, hs9]; exact (hk.tr skK.J).tr skK.A
    · rw [hs10, hs9]; exact hSV
    · rcases hfl with ⟨-, -, g⟩ | ⟨-, g⟩ <;> omega
theorem sR_seek1 {post : Int32 → RSt → Prop} {K71 : RSt → Int32 → Prop} {K79 : RSt → Int32 → Int32 → Prop} {K89 : RSt → Int32 → Int32 → Int32 → Prop} {Tot S0 : Int} {i j' jj : Nat} {f : Int32} (hR : RR ρ μ) (hI : MI μ jj) (hF : SF ρ μ w y sp ms) (hQ : QJ (μ.1 14) (lMx μ) (lSx μ) Tot w y sp ms U V) (hW : WOK (μ.1 14) (μ.1 26) (μ.2.1 23) (μ.2.1 24) (nLn μ) w) (hi : i < μ.1 14) (hj : j' ≤ μ.1 14)
    (h : SKI ρ μ w y sp U V S0 (40 * i + j') s f) (he : j' = μ.1 14 → K79 s f (nI i + 1)) (hp : ∀ s' f', j' < μ.1 14 → SKI ρ μ w y sp U V S0 (40 * i + (j' + 1)) s' f' → K89 s' f' (nI i) (nI j' + 1)) : wpR_seeks_89_F post K71 K79 K89 s f (nI i) (nI j') := by
  have hN := ntOk hI
  have hn := hN.1
  have hFR : FAR = 1000000000000 := rfl
  have hfar : (1000000000000 : Int64).toInt = FAR := rfl
  have hFs := hF.sk h.1
  obtain ⟨hk, co, bf, hV, hS, hfl⟩ := id h
  have e14 : s.1 14 = nI (μ.1 14) := (hk.ls.rr hR).s1 (by unfold sc1; omega)
  unfold wpR_seeks_89_F
  rw [e14, nI_leI (by omega) (by omega)]
  refine ⟨fun e => he (by omega), fun e => ?_⟩
  have hj' : j' < μ.1 14 := by omega
  have r42 := hFs.1 i j' hi hj'
  have rI := (hV i (Or.inl hi)).1
  have rJ := (hV (40 + j') (Or.inr ⟨by omega, by omega⟩)).1
  obtain ⟨g47, -⟩ := hFs.2.2.2 i hi
  obtain ⟨-, g48⟩ := hFs.2.2.2 j' hj'
  have i3 : (40 : Int32) * nI i + nI j' = nI (40 * i + j') := ix rfl rfl
  have hskip : (¬ (0 < lSx μ i ∧ 0 < lMx μ j')) → wpR_seeks_302 post K71 K79 K89 s f (nI i) (nI j') := by
    intro g
    refine hp s f hj' (h.up1 (fun _ co bf _ _ u v hu hv huv => ?_))
    obtain ⟨rfl, rfl⟩ : u = i ∧ v = j' := by omega
    exact fun b1 b2 => absurd ⟨b1, b2⟩ g
  have hsec : ∀ s' f', SKI ρ μ w y sp U V S0 (40 * i + j') s' f' → (f' = 0 → ∀ co bf, SV s' (μ.1 14) co bf → SI (μ.1 14) w y (lMx μ) (lSx μ) sp U V co bf → 0 < lSx μ i → 0 < lMx μ j' → co i < FAR → w i j' < FAR → co (40 + j') ≤ co i + w i j') → wpR_seeks_215 post K71 K79 K89 s' f' (nI i) (nI j') (nI (40 * i + j')) :=
    fun s' f' h' hA => sR_seek2 hI hF hQ hW hi hj' h' hA (fun s'' f'' g => hp s'' f'' hj' g)
  rw [i3, n40, nI_clamp (n := 40 * i + j') (by omega), nI_clamp (n := 40 + j') (by omega), nI_clamp (n := i) (by omega), nI_clamp (n := j') (by omega), lgz_ge, lgz_ge, lgz_ge, rI, r42, rJ, hfar]
  refine ⟨vp_in_nI (by omega) (by omega), fun e2 => hskip (fun g => absurd e2 (g47.mpr g.1)), fun e2 => ⟨vp_in_nI (by omega) (by omega), fun e3 => ⟨vp_in_nI (by omega) (by omega), fun e4 => hsec s f h (fun _ co' bf' a1 _ _ _ g => ?_), fun e4 => ⟨vp_in_nI (by omega) (by omega), fun e5 => hsec s f h (fun _ co' bf' a1 _ _ _ _ g => absurd g (by omega)), fun e5 => ⟨vp_in_nI (by omega) (by omega), vp_in_nI (by omega) (by omega), vp_in_nI (by omega) (by omega), fun e6 => hsec s f h (fun _ co' bf' a1 _ _ _ _ _ => ?_), fun e6 => ⟨vp_in_nI (by omega) (by omega), vp_in_nI (by omega) (by omega), vp_in_nI (by omega) (by omega), ?_⟩⟩⟩⟩, fun e3 => hskip (fun g => absurd e3 (g48.mpr g.2))⟩⟩
  · have := (a1 i (Or.inl hi)).1; omega
  · have c1 := (a1 (40 + j') (Or.inr ⟨by omega, by omega⟩)).1
    have c2 := (a1 i (Or.inl hi)).1
    have b := (hS.1 i hi).2.1 (by omega)
    have b2 := (hQ.2.2.1 i hi).1
    have b3 := hW.1.1 i j' hi hj'
    rw [i64_add (by rw [rI, r42]; omega) (by rw [rI, r42]; omega), rI, r42] at e6
    omega
  · have b := (hS.1 i hi).2.1 (by omega)
    have b2 := (hQ.2.2.1 i hi).1
    have b3 := hW.1.1 i j' hi hj'
    have es : (s.2.2 45 i + s.2.2 42 (40 * i + j')).toInt = co i + w i j' := by rw [i64_add (by rw [rI, r42]; omega) (by rw [rI, r42]; omega), rI, r42]
    rw [es] at e6
    intro s17 hs17
    refine ⟨vp_in_nI (by omega) (by omega), ?_⟩
    intro s18 hs18
    have hSV := hV.up (x0 := 40 + j') (p := i) (v := s.2.2 45 i + s.2.2 42 (40 * i + j')) (b := nI i) (by congr 1; omega)
    rw [es] at hSV
    have hSI := hS.fw hQ hW hN hi hj' (g47.mp e2) (g48.mp e3) (by omega) (by omega) (by omega)
    have hlt := Sg_lt (co := co) (c := co i + w i j') hn (Or.inr ⟨by omega, by omega⟩ : ndP (μ.1 14) (40 + j')) (by omega)
    refine hsec s18 1 ⟨?_, _, _, ?_, hSI, Or.inr ⟨rfl, ?_⟩⟩ (fun g => absurd g (by decide))
    · rw [hs18, hs17]; exact (hk.tr skK.J).tr skK.A
    · rw [hs18, hs17]; exact hSV
    · rcases hfl with ⟨-, -, g⟩ | ⟨-, g⟩ <;> omega
end LR4
end
