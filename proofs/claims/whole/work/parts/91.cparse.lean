section
/-! rules' texts: the class's parser -/
section CP1
theorem nI_or (a b : Nat) : nI a ||| nI b = nI (a ||| b) := by
  apply b_ext
  intro i hi
  rw [b_or, bt_nI _ hi, bt_nI _ hi, bt_nI _ hi, Nat.testBit_or]
theorem wd_24 : ∀ w : Nat, w < 9 → nI w <<< ((24 : Int32) &&& 31) = nI (w * 16777216) := by decide +kernel
theorem sg_20 : ∀ s : Nat, s < 12 → nI s <<< ((20 : Int32) &&& 31) = nI (s * 1048576) := by decide +kernel
theorem cw_word {w s n : Nat} (hw : w < 9) (hs : s < 12) (hn : n < 1000000) : ((nI w <<< ((24 : Int32) &&& 31)) ||| (nI s <<< ((20 : Int32) &&& 31))) ||| nI n = nI (w * 16777216 + s * 1048576 + n) := by
  rw [wd_24 w hw, sg_20 s hs, nI_or, nI_or]
  congr 1
  have h1 : s * 1048576 ||| n = s * 1048576 + n := by
    have := Nat.two_pow_add_eq_or_of_lt (i := 20) (b := n) (by omega) s
    rw [show 2 ^ 20 * s = s * 1048576 by omega] at this
    exact this.symm
  rw [Nat.or_assoc, h1]
  have := Nat.two_pow_add_eq_or_of_lt (i := 24) (b := s * 1048576 + n) (by omega) w
  rw [show 2 ^ 24 * w = w * 16777216 by omega] at this
  exact this.symm.trans (Nat.add_assoc _ _ _).symm
def bitsL (L : List Cd) : Nat := bitsN (fun k => (L.getD k (0, 0)).1) (fun k => (L.getD k (0, 0)).2) L.length
theorem bitsN_cg {c n c' n' : Nat → Nat} : ∀ k : Nat, (∀ i : Nat, i < k → c' i = c i ∧ n' i = n i) → bitsN c' n' k = bitsN c n k
  | 0, _ => rfl
  | k + 1, h => by
    show (if c' k = 12 then bitsN c' n' k ||| (1 <<< n' k) else bitsN c' n' k) = (if c k = 12 then bitsN c n k ||| (1 <<< n k) else bitsN c n k)
    rw [(h k (by omega)).1, (h k (by omega)).2, bitsN_cg k (fun i hi => h i (by omega))]
theorem getD_ap1 {L : List Cd} {x : Cd} {i : Nat} (h : i < L.length) : (L ++ [x]).getD i (0, 0) = L.getD i (0, 0) := by
  rw [List.getD_eq_getElem?_getD, List.getD_eq_getElem?_getD, List.getElem?_append_left h]
theorem getD_ap2 {L : List Cd} {x : Cd} : (L ++ [x]).getD L.length (0, 0) = x := by
  rw [List.getD_eq_getElem?_getD, List.getElem?_append_right (Nat.le_refl _), Nat.sub_self]
  rfl
theorem bitsL_ap {L : List Cd} {x : Cd} : bitsL (L ++ [x]) = if x.1 = 12 then bitsL L ||| (1 <<< x.2) else bitsL L := by
  unfold bitsL
  rw [List.length_append]
  show (if ((L ++ [x]).getD L.length (0, 0)).1 = 12 then bitsN _ _ L.length ||| (1 <<< ((L ++ [x]).getD L.length (0, 0)).2) else bitsN _ _ L.length) = _
  rw [getD_ap2, bitsN_cg (c := fun k => (L.getD k (0, 0)).1) (n := fun k => (L.getD k (0, 0)).2) L.length (fun i hi => by rw [getD_ap1 hi]; exact ⟨rfl, rfl⟩)]
variable {σ0 σ σ' : CSt} {lab : Nat → Nat} {ad : Nat → Nat → Nat} {b : Nat → Nat} {e nS nL : Nat} {τ : Tk} {L : List Cd} {N : Nat}
/-- the class's reader, in the midst of a text -/
def CP (σ0 : CSt) (lab : Nat → Nat) (ad : Nat → Nat → Nat) (b : Nat → Nat) (e nS nL : Nat) (σ : CSt) (ok : Bool) (τ : Tk) (L : List Cd) (N : Nat) : Prop :=
  RdC σ0 σ lab ad b e nS nL ∧ XT σ ad τ ∧ (ok = true → cI σ 80 (ad 5 0) = -1 ∧ cI σ 83 (ad 5 0) = nI L.length ∧ L.length ≤ 400 ∧ (∀ i : Nat, i < L.length → cV σ (ad 9 0) i = nI (cw (L.getD i (0, 0)).1 (L.getD i (0, 0)).2)) ∧ cI σ 81 (ad 5 0) = nI N) ∧ (ok = false → cI σ 80 (ad 5 0) = nI τ.1 ∧ ∃ n : Nat, n ≤ 400 ∧ cI σ 83 (ad 5 0) = nI n)
theorem XT.I {k : Nat} {v : Int32} (h : XT σ ad τ) (hk : ¬ adK k) : XT (csI σ k (ad 5 0) v) ad τ := by
  unfold adK at hk
  obtain ⟨h1, h2, h3, h4⟩ := h
  exact ⟨by rw [cI_n (by omega)]; exact h1, by rw [cI_n (by omega)]; exact h2, by rw [cI_n (by omega)]; exact h3, fun e => by rw [cI_n (by omega)]; exact h4 e⟩
theorem CP.o {ok : Bool} (h : CP σ0 lab ad b e nS nL σ ok τ L N) : cAt σ 5 (ad 5 0) := h.1.o
theorem CP.kd {ok : Bool} (h : CP σ0 lab ad b e nS nL σ ok τ L N) : cI σ 90 (ad 5 0) = nI τ.2.2.1 := h.2.1.2.2.1
theorem CP.adv {post : CSt → Prop} (h : CP σ0 lab ad b e nS nL σ true τ L N) (hw : WfT e τ) (hp : ∀ σ', CP σ0 lab ad b e nS nL σ' true (tok b e τ.2.1) L N → post σ') : wpC_X5_advance_0 post σ (ad 5 0) := by
  obtain ⟨h1, h2, h3, h4⟩ := h
  obtain ⟨g1, g2, g3, g4, g5⟩ := h3 rfl
  refine sC_advance h1 h2.2.1 hw.2.1 (fun σ' k1 k2 k3 => hp σ' ⟨k1, k2, fun _ => ⟨?_, ?_, g3, fun i hi => ?_, ?_⟩, fun e => absurd e (by decide)⟩)
  · rw [k3.1 80 (by unfold adK; omega)]; exact g1
  · rw [k3.1 83 (by unfold adK; omega)]; exact g2
  · rw [k3.2]; exact g4 i hi
  · rw [k3.1 81 (by unfold adK; omega)]; exact g5
theorem CP.fail {post : Int32 → CSt → Prop} {L' : List Cd} {N' : Nat} (h : CP σ0 lab ad b e nS nL σ true τ L N) (hp : ∀ σ', CP σ0 lab ad b e nS nL σ' false τ L' N' → post 0 σ') : wpC_X5_fails_0 post σ (ad 5 0) := by
  obtain ⟨h1, h2, h3, h4⟩ := h
  obtain ⟨g1, g2, g3, g4, g5⟩ := h3 rfl
  refine ⟨h1.o, h1.o, ?_⟩
  rintro s1 rfl
  refine hp _ ⟨h1.I (by decide), h2.I (by unfold adK; omega), fun e => absurd e (by decide), fun _ => ⟨by rw [cI_s]; exact h2.1, _, g3, by rw [cI_n (by decide)]; exact g2⟩⟩
theorem CP.no {ok : Bool} {L' : List Cd} {N' : Nat} (h : CP σ0 lab ad b e nS nL σ ok τ L N) (ho : ok = false) : CP σ0 lab ad b e nS nL σ ok τ L' N' := ⟨h.1, h.2.1, fun e => absurd (ho.symm.trans e) (by decide), h.2.2.2⟩
theorem RdC.V (h : RdC σ0 σ lab ad b e nS nL) {f : Nat → Int32} : RdC σ0 (csV σ (ad 9 0) f) lab ad b e nS nL := by
  obtain ⟨h1, h2, h3, h4⟩ := h
  refine ⟨h1.tr ((keep_csV h2.2.2.1.1 h2.2.2.1.2 f).s.mono (fun a l hx => ⟨Or.inr hx.1, hx.2⟩)), h2, ⟨h3.1, h3.2.1, h3.2.2.1, fun i hi => ⟨(h3.2.2.2 i hi).1, ?_⟩⟩, h4⟩
  rw [pV_csV, up_ap, if_neg (ne_kd h3.2.1 h2.2.2.1.1 (by decide))]
  exact (h3.2.2.2 i hi).2
theorem CP.wr {post : CSt → Prop} {x : Cd} {v1 v2 v3 : Int32} (h : CP σ0 lab ad b e nS nL σ true τ L N) (hl : L.length < 400) (hv : ((v1 <<< ((24 : Int32) &&& 31)) ||| (v2 <<< ((20 : Int32) &&& 31))) ||| v3 = nI (cw x.1 x.2)) (hp : ∀ σ', CP σ0 lab ad b e nS nL σ' true τ (L ++ [x]) N → post σ') : wpC_X5_write_0 post σ (ad 5 0) v1 v2 v3 := by
  obtain ⟨h1, h2, h3, h4⟩ := h
  obtain ⟨g1, g2, g3, g4, g5⟩ := h3 rfl
  have hr := h1.2.1
  unfold wpC_X5_write_0
  rw [g2]
  refine ⟨h1.o, h1.o, _, hr.2.1, hr.2.2.1.1, fun e1 => ?_, fun e1 => ⟨h1.o, _, hr.2.1, h1.o, hr.2.2.1.1, ?_, ?_⟩⟩
  · rw [hr.2.2.2, nI_leI (by omega) (by omega)] at e1; omega
  · rw [hr.2.2.2]; exact vp_in_nI (by omega) (by omega)
  · rintro s4 rfl
    refine ⟨h1.o, h1.o, ?_⟩
    rw [show cI (csV σ (ad 9 0) (upd (cV σ (ad 9 0)) (nI L.length).toNatClampNeg ((v1 <<< ((24 : Int32) &&& 31) ||| v2 <<< ((20 : Int32) &&& 31)) ||| v3))) 83 (ad 5 0) = nI L.length from g2, nI_1]
    rintro s5 rfl
    refine hp _ ⟨(h1.V).I (by decide), XT.I (σ := csV σ (ad 9 0) _) h2 (by unfold adK; omega), fun _ => ⟨by rw [cI_n (by decide)]; exact g1, by rw [cI_s, List.length_append]; rfl, by rw [List.length_append]; show L.length + 1 ≤ 400; omega, fun i hi => ?_, by rw [cI_n (by decide)]; exact g5⟩, fun e => absurd e (by decide)⟩
    rw [List.length_append] at hi
    have hi' : i < L.length + 1 := hi
    show cV (csV σ (ad 9 0) _) (ad 9 0) i = _
    rw [pV_csV, up_ap, if_pos rfl, upd_ap, nI_clamp (by omega)]
    by_cases ei : i = L.length
    · subst ei
      rw [if_pos rfl, getD_ap2]; exact hv
    · rw [if_neg ei, getD_ap1 (by omega)]; exact g4 i (by omega)
theorem CP.wf {post : CSt → Prop} {v1 v2 v3 : Int32} (h : CP σ0 lab ad b e nS nL σ false τ L N) (hp : ∀ σ', CP σ0 lab ad b e nS nL σ' false τ L N → post σ') : wpC_X5_write_0 post σ (ad 5 0) v1 v2 v3 := by
  have h0 := h
  obtain ⟨h1, h2, h3, h4⟩ := h
  obtain ⟨g1, n, g2, g3⟩ := h4 rfl
  have hr := h1.2.1
  unfold wpC_X5_write_0
  rw [g3]
  refine ⟨h1.o, h1.o, _, hr.2.1, hr.2.2.1.1, fun e1 => hp σ h0, fun e1 => ⟨h1.o, _, hr.2.1, h1.o, hr.2.2.1.1, ?_, ?_⟩⟩
  · rw [hr.2.2.2, nI_leI (by omega) (by omega)] at e1
    rw [hr.2.2.2]; exact vp_in_nI (by omega) (by omega)
  · rw [hr.2.2.2, nI_leI (by omega) (by omega)] at e1
    rintro s4 rfl
    refine ⟨h1.o, h1.o, ?_⟩
    rw [show cI (csV σ (ad 9 0) (upd (cV σ (ad 9 0)) (nI n).toNatClampNeg ((v1 <<< ((24 : Int32) &&& 31) ||| v2 <<< ((20 : Int32) &&& 31)) ||| v3))) 83 (ad 5 0) = nI n from g3, nI_1]
    rintro s5 rfl
    exact hp _ ⟨(h1.V).I (by decide), XT.I (σ := csV σ (ad 9 0) _) h2 (by unfold adK; omega), fun e => absurd e (by decide), fun _ => ⟨by rw [cI_n (by decide)]; exact g1, n + 1, by omega, by rw [cI_s]⟩⟩
/-- a reader of the class follows the model's -/
def SimC (σ0 : CSt) (lab : Nat → Nat) (ad : Nat → Nat → Nat) (b : Nat → Nat) (e nS nL : Nat) (P : Tk → Rs) (W : (Int32 → CSt → Prop) → CSt → Nat → Int32 → Prop) (v : Int32) : Prop :=
  ∀ (post : Int32 → CSt → Prop) (σ : CSt) (τ : Tk) (L : List Cd), CP σ0 lab ad b e nS nL σ true τ L (bitsL L) → WfT e τ → L.length ≤ τ.1 → (∀ σ', CP σ0 lab ad b e nS nL σ' (P τ).1 (P τ).2.1 (L ++ (P τ).2.2) (bitsL (L ++ (P τ).2.2)) → post (bI (P τ).1) σ') → W post σ (ad 5 0) v
theorem pLp_stop {P : Tk → Rs} {sep c : Nat} {r : Rs} (h : ¬ (r.1 = true ∧ r.2.1.2.2.1 = sep)) : ∀ n : Nat, pLp b e P sep c n r = r
  | 0 => rfl
  | n + 1 => if_neg h
theorem sC_readBoth {m : Nat} {P : Tk → Rs} {WP : (Int32 → CSt → Prop) → CSt → Nat → Int32 → Prop} {v : Int32} (hm : 1 ≤ m) (hP : GdP e nS nL m P) (hS : SimC σ0 lab ad b e nS nL P WP v) : SimC σ0 lab ad b e nS nL (fun τ => pLp b e P 7 15 400 (P τ)) (wpC_X5_readBoth_0 WP) v := by
  intro post σ τ L h hw hl hp
  have hle := hw.2.1
  obtain ⟨p1, p2, p3⟩ := hP τ hw
  have hen := h.1.le
  refine ⟨h.o, hS _ σ τ L h hw hl (fun σ1 h1 => ?_)⟩
  have hfin : ∀ (s : CSt) (r : Rs), CP σ0 lab ad b e nS nL s r.1 r.2.1 (L ++ r.2.2) (bitsL (L ++ r.2.2)) → r = pLp b e P 7 15 400 (P τ) → narrow .boolean (.int (bI r.1)) = .int (bI r.1) ∧ post (bI r.1) s := by
    rintro s r hr rfl
    exact ⟨(bI_n _).2, hp s hr⟩
  refine gLP.up 400 (fun k (x : CSt × Nat × Int32 × Int32 × Int32) => k ≤ 400 ∧ ∃ r : Rs, CP σ0 lab ad b e nS nL x.1 r.1 r.2.1 (L ++ r.2.2) (bitsL (L ++ r.2.2)) ∧ WfT e r.2.1 ∧ (r.1 = true → (L ++ r.2.2).length ≤ r.2.1.1) ∧ pLp b e P 7 15 (400 - k) r = pLp b e P 7 15 400 (P τ) ∧ x.2 = (ad 5 0, v, bI r.1, nI k)) (fun k x h => h.1) ?_ (j := 0) ⟨Nat.zero_le _, P τ, h1, p1, fun hok => ?_, rfl, rfl⟩
  rotate_left
  · have := (p3 hok).1
    rw [List.length_append]
    omega
  rintro k ⟨s, y⟩ K ⟨hk, r, hC, hwr, hlr, hrun, e0⟩ hK
  dsimp only at hC e0
  subst e0
  dsimp only
  unfold wpC_X5_readBoth_8_F
  rw [show (400 : Int32) = nI 400 from rfl, nI_leI (by omega) (by omega), hC.kd, show (7 : Int32) = nI 7 from rfl, nI_eq (by have := hwr.2.2.1; omega) (by omega), bI_0]
  refine ⟨fun e1 => hfin s r hC ?_, fun e1 => ⟨fun e2 => hfin s r hC ?_, fun e2 => ⟨hC.o, fun e3 => hfin s r hC ?_, fun e3 => ⟨hC.o, ?_⟩⟩⟩⟩
  · obtain rfl : k = 400 := by omega
    exact hrun
  · rw [← hrun, pLp_stop (fun g => absurd (e2.symm.trans g.1) (by decide))]
  · rw [← hrun, pLp_stop (fun g => e3 g.2)]
  · have hok : r.1 = true := by simpa using e2
    rw [hok] at hC
    obtain ⟨g1, g2⟩ := hwr.nx (b := b)
    have hl1 := hlr hok
    have hst := hwr.2.2.2.1 (by omega)
    obtain ⟨q1, q2, q3⟩ := hP _ g1
    refine hC.adv hwr (fun σ2 h2 => ⟨h2.o, hS _ σ2 _ _ h2 g1 (by omega) (fun σ3 h3 => ⟨h3.o, ?_⟩)⟩)
    have hgo : ∀ s', CP σ0 lab ad b e nS nL s' (P (tok b e r.2.1.2.1)).1 (P (tok b e r.2.1.2.1)).2.1 (L ++ (r.2.2 ++ (P (tok b e r.2.1.2.1)).2.2 ++ [(15, 0)])) (bitsL (L ++ (r.2.2 ++ (P (tok b e r.2.1.2.1)).2.2 ++ [(15, 0)]))) → K (s', ad 5 0, v, bI (P (tok b e r.2.1.2.1)).1, nI k + 1) := by
      intro s' hs'
      refine hK _ ⟨by omega, ((P (tok b e r.2.1.2.1)).1, (P (tok b e r.2.1.2.1)).2.1, r.2.2 ++ (P (tok b e r.2.1.2.1)).2.2 ++ [(15, 0)]), hs', q1, fun ho => ?_, ?_, by rw [nI_1]⟩
      · have := (q3 ho).1
        simp only [List.length_append, List.length_cons, List.length_nil] at hl1 ⊢
        omega
      · rw [← hrun]
        obtain ⟨n, hn⟩ : ∃ n, 400 - k = n + 1 := ⟨400 - k - 1, by omega⟩
        rw [hn, show 400 - (k + 1) = n by omega]
        exact (if_pos ⟨hok, e3⟩ : pLp b e P 7 15 (n + 1) r = _).symm
    cases ho : (P (tok b e r.2.1.2.1)).1 with
    | false =>
      rw [ho] at h3
      refine h3.wf (fun s' hs' => ?_)
      rw [ho] at hgo
      exact hgo s' (hs'.no rfl)
    | true =>
      rw [ho] at h3 hgo
      have hl3 := (q3 ho).1
      have hl4 := q1.1
      have hl5 := q1.2.1
      have ea : L ++ (r.2.2 ++ (P (tok b e r.2.1.2.1)).2.2 ++ [(15, 0)]) = (L ++ r.2.2 ++ (P (tok b e r.2.1.2.1)).2.2) ++ [(15, 0)] := by simp only [List.append_assoc]
      refine h3.wr (x := (15, 0)) (by simp only [List.length_append] at hl1 ⊢; omega) (cw_word (w := 7) (s := 0) (n := 0) (by decide) (by decide) (by decide)) (fun s' hs' => hgo s' ?_)
      rw [ea, bitsL_ap, if_neg (by decide)]
      exact hs'
theorem sC_readEither {m : Nat} {P : Tk → Rs} {WP : (Int32 → CSt → Prop) → CSt → Nat → Int32 → Prop} {v : Int32} (hm : 1 ≤ m) (hP : GdP e nS nL m P) (hS : SimC σ0 lab ad b e nS nL P WP v) : SimC σ0 lab ad b e nS nL (fun τ => pLp b e P 8 16 400 (P τ)) (wpC_X5_readEither_0 WP) v := by
  intro post σ τ L h hw hl hp
  have hle := hw.2.1
  obtain ⟨p1, p2, p3⟩ := hP τ hw
  have hen := h.1.le
  refine ⟨h.o, hS _ σ τ L h hw hl (fun σ1 h1 => ?_)⟩
  have hfin : ∀ (s : CSt) (r : Rs), CP σ0 lab ad b e nS nL s r.1 r.2.1 (L ++ r.2.2) (bitsL (L ++ r.2.2)) → r = pLp b e P 8 16 400 (P τ) → narrow .boolean (.int (bI r.1)) = .int (bI r.1) ∧ post (bI r.1) s := by
    rintro s r hr rfl
    exact ⟨(bI_n _).2, hp s hr⟩
  refine gLP.up 400 (fun k (x : CSt × Nat × Int32 × Int32 × Int32) => k ≤ 400 ∧ ∃ r : Rs, CP σ0 lab ad b e nS nL x.1 r.1 r.2.1 (L ++ r.2.2) (bitsL (L ++ r.2.2)) ∧ WfT e r.2.1 ∧ (r.1 = true → (L ++ r.2.2).length ≤ r.2.1.1) ∧ pLp b e P 8 16 (400 - k) r = pLp b e P 8 16 400 (P τ) ∧ x.2 = (ad 5 0, v, bI r.1, nI k)) (fun k x h => h.1) ?_ (j := 0) ⟨Nat.zero_le _, P τ, h1, p1, fun hok => ?_, rfl, rfl⟩
  rotate_left
  · have := (p3 hok).1
    rw [List.length_append]
    omega
  rintro k ⟨s, y⟩ K ⟨hk, r, hC, hwr, hlr, hrun, e0⟩ hK
  dsimp only at hC e0
  subst e0
  dsimp only
  unfold wpC_X5_readEither_8_F
  rw [show (400 : Int32) = nI 400 from rfl, nI_leI (by omega) (by omega), hC.kd, show (8 : Int32) = nI 8 from rfl, nI_eq (by have := hwr.2.2.1; omega) (by omega), bI_0]
  refine ⟨fun e1 => hfin s r hC ?_, fun e1 => ⟨fun e2 => hfin s r hC ?_, fun e2 => ⟨hC.o, fun e3 => hfin s r hC ?_, fun e3 => ⟨hC.o, ?_⟩⟩⟩⟩
  · obtain rfl : k = 400 := by omega
    exact hrun
  · rw [← hrun, pLp_stop (fun g => absurd (e2.symm.trans g.1) (by decide))]
  · rw [← hrun, pLp_stop (fun g => e3 g.2)]
  · have hok : r.1 = true := by simpa using e2
    rw [hok] at hC
    obtain ⟨g1, g2⟩ := hwr.nx (b := b)
    have hl1 := hlr hok
    have hst := hwr.2.2.2.1 (by omega)
    obtain ⟨q1, q2, q3⟩ := hP _ g1
    refine hC.adv hwr (fun σ2 h2 => ⟨h2.o, hS _ σ2 _ _ h2 g1 (by omega) (fun σ3 h3 => ⟨h3.o, ?_⟩)⟩)
    have hgo : ∀ s', CP σ0 lab ad b e nS nL s' (P (tok b e r.2.1.2.1)).1 (P (tok b e r.2.1.2.1)).2.1 (L ++ (r.2.2 ++ (P (tok b e r.2.1.2.1)).2.2 ++ [(16, 0)])) (bitsL (L ++ (r.2.2 ++ (P (tok b e r.2.1.2.1)).2.2 ++ [(16, 0)]))) → K (s', ad 5 0, v, bI (P (tok b e r.2.1.2.1)).1, nI k + 1) := by
      intro s' hs'
      refine hK _ ⟨by omega, ((P (tok b e r.2.1.2.1)).1, (P (tok b e r.2.1.2.1)).2.1, r.2.2 ++ (P (tok b e r.2.1.2.1)).2.2 ++ [(16, 0)]), hs', q1, fun ho => ?_, ?_, by rw [nI_1]⟩
      · have := (q3 ho).1
        simp only [List.length_append, List.length_cons, List.length_nil] at hl1 ⊢
        omega
      · rw [← hrun]
        obtain ⟨n, hn⟩ : ∃ n, 400 - k = n + 1 := ⟨400 - k - 1, by omega⟩
        rw [hn, show 400 - (k + 1) = n by omega]
        exact (if_pos ⟨hok, e3⟩ : pLp b e P 8 16 (n + 1) r = _).symm
    cases ho : (P (tok b e r.2.1.2.1)).1 with
    | false =>
      rw [ho] at h3
      refine h3.wf (fun s' hs' => ?_)
      rw [ho] at hgo
      exact hgo s' (hs'.no rfl)
    | true =>
      rw [ho] at h3 hgo
      have hl3 := (q3 ho).1
      have hl4 := q1.1
      have hl5 := q1.2.1
      have ea : L ++ (r.2.2 ++ (P (tok b e r.2.1.2.1)).2.2 ++ [(16, 0)]) = (L ++ r.2.2 ++ (P (tok b e r.2.1.2.1)).2.2) ++ [(16, 0)] := by simp only [List.append_assoc]
      refine h3.wr (x := (16, 0)) (by simp only [List.length_append] at hl1 ⊢; omega) (cw_word (w := 8) (s := 0) (n := 0) (by decide) (by decide) (by decide)) (fun s' hs' => hgo s' ?_)
      rw [ea, bitsL_ap, if_neg (by decide)]
      exact hs'
theorem sC_eith {m : Nat} {P : Tk → Rs} {WP : (Int32 → CSt → Prop) → CSt → Nat → Int32 → Prop} {v : Int32} (hm : 1 ≤ m) (hP : GdP e nS nL m P) (hS : SimC σ0 lab ad b e nS nL P WP v) : SimC σ0 lab ad b e nS nL (pEith b e P) (wpC_X5_readEither_0 (wpC_X5_readBoth_0 WP)) v :=
  sC_readEither (m := m + 1) (by omega) (pBoth_gd (b := b) hm hP) (sC_readBoth hm hP hS)
end CP1
end
