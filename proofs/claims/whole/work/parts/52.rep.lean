section
/-! what a step leaves, but for what serves only within one call -/
def scrI (k : Nat) : Prop := k = 105 ∨ k = 20 ∨ k = 21 ∨ k = 22 ∨ k = 67
def sameS (σ σ' : CSt) (b : Nat) : Prop := (∀ k : Nat, ¬ scrI k → cI σ' k b = cI σ k b) ∧ (∀ k : Nat, k ≠ 23 → cR σ' k b = cR σ k b) ∧ (∀ k : Nat, cJ σ' k b = cJ σ k b) ∧ cV σ' b = cV σ b ∧ cE σ' b = cE σ b
def keepS (X : Nat → Nat → Prop) (σ : CSt) (lab : Nat → Nat) (σ' : CSt) (lab' : Nat → Nat) : Prop :=
  cZ σ' = cZ σ ∧ ∀ b : Nat, b ∈ cL σ → b ∈ cL σ' ∧ cK σ' b = cK σ b ∧ lab' b = lab b ∧ cN σ' b = cN σ b ∧ (¬ X (cK σ b) (lab b) → sameS σ σ' b)
def noX : Nat → Nat → Prop := fun _ _ => False
def atX (kd m : Nat) : Nat → Nat → Prop := fun k l => k = kd ∧ l = m
section KS
variable {X Y : Nat → Nat → Prop} {σ σ' σ'' : CSt} {lab lab' lab'' : Nat → Nat} {kd m a b : Nat}
theorem keepR.s (h : keepR X σ lab σ' lab') : keepS X σ lab σ' lab' := ⟨h.1, fun b hb => by
  obtain ⟨h1, h2, h3, h4, h5⟩ := h.2 b hb
  exact ⟨h1, h2, h3, h4, fun hx => ⟨fun k _ => (h5 hx).1 k, fun k _ => (h5 hx).2.1 k, (h5 hx).2.2.1, (h5 hx).2.2.2.1, (h5 hx).2.2.2.2⟩⟩⟩
theorem keepS.rf : keepS X σ lab σ lab := keepR.rf.s
theorem keepS.mono (h : keepS X σ lab σ' lab') (hXY : ∀ k m, X k m → Y k m) : keepS Y σ lab σ' lab' := ⟨h.1, fun b hb => by
  obtain ⟨h1, h2, h3, h4, h5⟩ := h.2 b hb
  exact ⟨h1, h2, h3, h4, fun hy => h5 (fun hx => hy (hXY _ _ hx))⟩⟩
theorem keepS.tr (h : keepS X σ lab σ' lab') (g : keepS X σ' lab' σ'' lab'') : keepS X σ lab σ'' lab'' := ⟨g.1.trans h.1, fun b hb => by
  obtain ⟨h1, h2, h3, h4, h5⟩ := h.2 b hb
  obtain ⟨g1, g2, g3, g4, g5⟩ := g.2 b h1
  refine ⟨g1, g2.trans h2, g3.trans h3, g4.trans h4, fun hx => ?_⟩
  obtain ⟨a1, a2, a3, a4, a5⟩ := h5 hx
  obtain ⟨b1, b2, b3, b4, b5⟩ := g5 (by rw [h2, h3]; exact hx)
  exact ⟨fun k hk => (b1 k hk).trans (a1 k hk), fun k hk => (b2 k hk).trans (a2 k hk), fun k => (b3 k).trans (a3 k), b4.trans a4, b5.trans a5⟩⟩
theorem keepS.at (h : keepS X σ lab σ' lab') (hb : cAt σ kd b) : cAt σ' kd b := ⟨(h.2 b hb.1).1, by rw [(h.2 b hb.1).2.1]; exact hb.2⟩
theorem keepS.lb (h : keepS X σ lab σ' lab') (hb : cAt σ kd b) : lab' b = lab b := (h.2 b hb.1).2.2.1
theorem keepS.N (h : keepS X σ lab σ' lab') (hb : cAt σ kd b) : cN σ' b = cN σ b := (h.2 b hb.1).2.2.2.1
theorem keepS.same (h : keepS X σ lab σ' lab') (hb : cAt σ kd b) (hm : lab b = m) (hx : ¬ X kd m) : sameS σ σ' b := (h.2 b hb.1).2.2.2.2 (by rw [hb.2, hm]; exact hx)
theorem keepS.elm (h : keepS X σ lab σ' lab') (hb : cElm σ b) : cElm σ' b := by
  obtain ⟨kd, h1, h2⟩ := hb
  exact ⟨kd, h1, h.at h2⟩
theorem isL.kp {n : Nat} {f g : Nat → Nat} (h : isL σ lab a m n f) (hk : keepS X σ lab σ' lab') (h0 : ¬ X 0 m) (h10 : ¬ X 10 m) (hf : ∀ i : Nat, i < n → g i = f i) : isL σ' lab' a m n g := by
  obtain ⟨h1, h2, h3, h4, d, h5, h6⟩ := h
  have hs := hk.same h1 h2 h0
  refine ⟨hk.at h1, (hk.lb h1).trans h2, (hs.1 2 (by unfold scrI; omega)).trans h3, h4, d, (hs.2.1 1 (by decide)).trans h5, ?_⟩
  rcases h6 with ⟨g1, g2⟩ | ⟨g1, g2, g3, g4, g5, g6⟩
  · exact Or.inl ⟨g1, by rw [hk.1]; exact g2⟩
  · have hd := hk.same g2 g3 h10
    exact Or.inr ⟨by rw [hk.1]; exact g1, hk.at g2, (hk.lb g2).trans g3, by rw [hk.N g2]; exact g4, by rw [hk.N g2]; exact g5, fun i hi => by rw [hd.2.2.2.2, hf i hi]; exact g6 i hi⟩
theorem isL.re {n : Nat} {f g : Nat → Nat} (h : isL σ lab a m n f) (hf : ∀ i : Nat, i < n → g i = f i) : isL σ lab a m n g := h.kp (X := noX) keepS.rf id id hf
/-- what serves only within one call, written -/
theorem keep_scr {k : Nat} {v : Int32} (hs : scrI k) : keepS noX σ lab (csI σ k a v) lab := ⟨rfl, fun b h => ⟨h, rfl, rfl, rfl, fun _ => ⟨fun k2 hk => by rw [pI_csI, cu2_ap, if_neg (fun e => hk (by rw [e]; exact hs))], fun _ _ => rfl, fun _ => rfl, rfl, rfl⟩⟩⟩
theorem keep_scrR {v : Option Nat} : keepS noX σ lab (csR σ 23 a v) lab := ⟨rfl, fun b h => ⟨h, rfl, rfl, rfl, fun _ => ⟨fun _ _ => rfl, fun k2 hk => by rw [pR_csR, cu2_ap, if_neg hk], fun _ => rfl, rfl, rfl⟩⟩⟩
end KS
/-! the picture: an object of kind kd and number m lies at ad kd m, and its label is m -/
def obj (σ : CSt) (lab : Nat → Nat) (ad : Nat → Nat → Nat) (kd m : Nat) : Prop := cAt σ kd (ad kd m) ∧ lab (ad kd m) = m
def xO (σ : CSt) (lab : Nat → Nat) (ad : Nat → Nat → Nat) (tp wd mn fb fs : Int32) (f1 f2 f3 f4 : Int64) : Prop :=
  obj σ lab ad 7 0 ∧ (cR σ 112 (ad 7 0) = some (ad 0 0) ∧ cR σ 113 (ad 7 0) = some (ad 0 1) ∧ cR σ 114 (ad 7 0) = some (ad 0 2) ∧ cR σ 115 (ad 7 0) = some (ad 0 3) ∧ cR σ 116 (ad 7 0) = some (ad 0 4) ∧ cR σ 117 (ad 7 0) = some (ad 5 0) ∧ cR σ 118 (ad 7 0) = some (ad 8 0)) ∧
    cI σ 119 (ad 7 0) = tp ∧ cI σ 120 (ad 7 0) = wd ∧ cI σ 121 (ad 7 0) = mn ∧ cI σ 122 (ad 7 0) = fb ∧ cI σ 123 (ad 7 0) = fs ∧ cJ σ 124 (ad 7 0) = f1 ∧ cJ σ 125 (ad 7 0) = f2 ∧ cJ σ 126 (ad 7 0) = f3 ∧ cJ σ 127 (ad 7 0) = f4
def lsO (σ : CSt) (lab : Nat → Nat) (ad : Nat → Nat → Nat) (nL nS nC nG nK : Nat) : Prop :=
  isL σ lab (ad 0 0) 0 nL (ad 3) ∧ isL σ lab (ad 0 1) 1 nS (ad 6) ∧ isL σ lab (ad 0 2) 2 nC (ad 1) ∧ isL σ lab (ad 0 3) 3 nG (ad 2) ∧ isL σ lab (ad 0 4) 4 nK (ad 4)
def liO (σ : CSt) (lab : Nat → Nat) (ad : Nat → Nat → Nat) (i : Nat) (fr to st mi wi wt sp : Int32) : Prop :=
  obj σ lab ad 3 i ∧ cR σ 54 (ad 3 i) = some (ad 0 (10 + i)) ∧ cI σ 48 (ad 3 i) = nI i ∧ cI σ 49 (ad 3 i) = fr ∧ cI σ 50 (ad 3 i) = to ∧ cI σ 51 (ad 3 i) = st ∧ cI σ 52 (ad 3 i) = mi ∧ cI σ 53 (ad 3 i) = wi ∧ cI σ 55 (ad 3 i) = wt ∧ cI σ 56 (ad 3 i) = sp
def slO (σ : CSt) (lab : Nat → Nat) (ad : Nat → Nat → Nat) (i : Nat) (fr to mi st ru nm : Int32) : Prop :=
  obj σ lab ad 6 i ∧ cR σ 101 (ad 6 i) = some (ad 0 (20 + i)) ∧ cR σ 104 (ad 6 i) = some (ad 9 (200 + i)) ∧ cI σ 96 (ad 6 i) = nI i ∧ cI σ 97 (ad 6 i) = fr ∧ cI σ 98 (ad 6 i) = to ∧ cI σ 99 (ad 6 i) = mi ∧ cI σ 100 (ad 6 i) = st ∧ cI σ 102 (ad 6 i) = ru ∧ cI σ 103 (ad 6 i) = nm
/-- a row of ints: its length, what stands in it -/
def arO (σ : CSt) (lab : Nat → Nat) (ad : Nat → Nat → Nat) (kd m n : Nat) (f : Nat → Int32) : Prop := obj σ lab ad kd m ∧ cN σ (ad kd m) = n ∧ ∀ i : Nat, i < n → cV σ (ad kd m) i = f i
def ceO (σ : CSt) (lab : Nat → Nat) (ad : Nat → Nat → Nat) (c : Nat) (sl wt pr : Int32) : Prop :=
  obj σ lab ad 1 c ∧ cR σ 17 (ad 1 c) = some (ad 9 (100 + c)) ∧ cI σ 16 (ad 1 c) = sl ∧ cI σ 18 (ad 1 c) = wt ∧ cI σ 19 (ad 1 c) = pr
def grO (σ : CSt) (lab : Nat → Nat) (ad : Nat → Nat → Nat) (g : Nat) (sz sk st wh tg rd ds ep : Int32) : Prop :=
  obj σ lab ad 2 g ∧ cI σ 32 (ad 2 g) = nI g ∧ cI σ 33 (ad 2 g) = sz ∧ cI σ 34 (ad 2 g) = sk ∧ cI σ 35 (ad 2 g) = st ∧ cI σ 36 (ad 2 g) = wh ∧ cI σ 38 (ad 2 g) = tg ∧ cI σ 39 (ad 2 g) = rd ∧ cI σ 40 (ad 2 g) = ds ∧ (st = 2 ∨ st = 3 → cI σ 37 (ad 2 g) = ep)
def lkO (σ : CSt) (lab : Nat → Nat) (ad : Nat → Nat → Nat) (k a b : Nat) (ln : Int32) : Prop :=
  obj σ lab ad 4 k ∧ cR σ 64 (ad 4 k) = some (ad 1 a) ∧ cR σ 65 (ad 4 k) = some (ad 1 b) ∧ cI σ 66 (ad 4 k) = ln
def reO (σ : CSt) (lab : Nat → Nat) (ad : Nat → Nat → Nat) : Prop := obj σ lab ad 5 0 ∧ cR σ 82 (ad 5 0) = some (ad 9 0) ∧ obj σ lab ad 9 0 ∧ cN σ (ad 9 0) = 400
section PC
variable {X : Nat → Nat → Prop} {σ σ' : CSt} {lab lab' : Nat → Nat} {ad ad' : Nat → Nat → Nat}
theorem obj.kp {kd m : Nat} (h : obj σ lab ad kd m) (hk : keepS X σ lab σ' lab') (e : ad' kd m = ad kd m) : obj σ' lab' ad' kd m := by
  unfold obj
  rw [e]
  exact ⟨hk.at h.1, (hk.lb h.1).trans h.2⟩
theorem obj.sm {kd m : Nat} (h : obj σ lab ad kd m) (hk : keepS X σ lab σ' lab') (hx : ¬ X kd m) : sameS σ σ' (ad kd m) := hk.same h.1 h.2 hx
theorem arO.kp {kd m n : Nat} {f g : Nat → Int32} (h : arO σ lab ad kd m n f) (hk : keepS X σ lab σ' lab') (hx : ¬ X kd m) (e : ad' kd m = ad kd m) (hg : ∀ i : Nat, i < n → g i = f i) : arO σ' lab' ad' kd m n g := by
  have hs := h.1.sm hk hx
  refine ⟨h.1.kp hk e, ?_, fun i hi => ?_⟩
  · rw [e, hk.N h.1.1]; exact h.2.1
  · rw [e, hs.2.2.2.1, hg i hi]; exact h.2.2 i hi
theorem xO.kp {tp wd mn fb fs : Int32} {f1 f2 f3 f4 : Int64} (h : xO σ lab ad tp wd mn fb fs f1 f2 f3 f4) (hk : keepS X σ lab σ' lab') (hx : ¬ X 7 0)
    (e : ad' 7 0 = ad 7 0) (e0 : ∀ i : Nat, i < 5 → ad' 0 i = ad 0 i) (e5 : ad' 5 0 = ad 5 0) (e8 : ad' 8 0 = ad 8 0) : xO σ' lab' ad' tp wd mn fb fs f1 f2 f3 f4 := by
  have hs := h.1.sm hk hx
  have hI : ∀ k : Nat, ¬ scrI k → cI σ' k (ad 7 0) = cI σ k (ad 7 0) := hs.1
  have hR : ∀ k : Nat, k ≠ 23 → cR σ' k (ad 7 0) = cR σ k (ad 7 0) := hs.2.1
  have hJ : ∀ k : Nat, cJ σ' k (ad 7 0) = cJ σ k (ad 7 0) := hs.2.2.1
  refine ⟨h.1.kp hk e, ?_, ?_⟩
  · rw [e, e0 0 (by decide), e0 1 (by decide), e0 2 (by decide), e0 3 (by decide), e0 4 (by decide), e5, e8, hR 112 (by decide), hR 113 (by decide), hR 114 (by decide), hR 115 (by decide), hR 116 (by decide), hR 117 (by decide), hR 118 (by decide)]
    exact h.2.1
  · rw [e, hI 119 (by unfold scrI; omega), hI 120 (by unfold scrI; omega), hI 121 (by unfold scrI; omega), hI 122 (by unfold scrI; omega), hI 123 (by unfold scrI; omega), hJ, hJ, hJ, hJ]
    exact h.2.2
theorem liO.kp {i : Nat} {fr to st mi wi wt sp : Int32} (h : liO σ lab ad i fr to st mi wi wt sp) (hk : keepS X σ lab σ' lab') (hx : ¬ X 3 i) (e : ad' 3 i = ad 3 i) (e2 : ad' 0 (10 + i) = ad 0 (10 + i)) : liO σ' lab' ad' i fr to st mi wi wt sp := by
  have hs := h.1.sm hk hx
  have hI : ∀ k : Nat, ¬ scrI k → cI σ' k (ad 3 i) = cI σ k (ad 3 i) := hs.1
  refine ⟨h.1.kp hk e, ?_⟩
  rw [e, e2, hs.2.1 54 (by decide), hI 48 (by unfold scrI; omega), hI 49 (by unfold scrI; omega), hI 50 (by unfold scrI; omega), hI 51 (by unfold scrI; omega), hI 52 (by unfold scrI; omega), hI 53 (by unfold scrI; omega), hI 55 (by unfold scrI; omega), hI 56 (by unfold scrI; omega)]
  exact h.2
theorem slO.kp {i : Nat} {fr to mi st ru nm : Int32} (h : slO σ lab ad i fr to mi st ru nm) (hk : keepS X σ lab σ' lab') (hx : ¬ X 6 i) (e : ad' 6 i = ad 6 i) (e2 : ad' 0 (20 + i) = ad 0 (20 + i)) (e3 : ad' 9 (200 + i) = ad 9 (200 + i)) : slO σ' lab' ad' i fr to mi st ru nm := by
  have hs := h.1.sm hk hx
  have hI : ∀ k : Nat, ¬ scrI k → cI σ' k (ad 6 i) = cI σ k (ad 6 i) := hs.1
  refine ⟨h.1.kp hk e, ?_⟩
  rw [e, e2, e3, hs.2.1 101 (by decide), hs.2.1 104 (by decide), hI 96 (by unfold scrI; omega), hI 97 (by unfold scrI; omega), hI 98 (by unfold scrI; omega), hI 99 (by unfold scrI; omega), hI 100 (by unfold scrI; omega), hI 102 (by unfold scrI; omega), hI 103 (by unfold scrI; omega)]
  exact h.2
theorem ceO.kp {c : Nat} {sl wt pr : Int32} (h : ceO σ lab ad c sl wt pr) (hk : keepS X σ lab σ' lab') (hx : ¬ X 1 c) (e : ad' 1 c = ad 1 c) (e2 : ad' 9 (100 + c) = ad 9 (100 + c)) : ceO σ' lab' ad' c sl wt pr := by
  have hs := h.1.sm hk hx
  have hI : ∀ k : Nat, ¬ scrI k → cI σ' k (ad 1 c) = cI σ k (ad 1 c) := hs.1
  refine ⟨h.1.kp hk e, ?_⟩
  rw [e, e2, hs.2.1 17 (by decide), hI 16 (by unfold scrI; omega), hI 18 (by unfold scrI; omega), hI 19 (by unfold scrI; omega)]
  exact h.2
theorem grO.kp {g : Nat} {sz sk st wh tg rd ds ep : Int32} (h : grO σ lab ad g sz sk st wh tg rd ds ep) (hk : keepS X σ lab σ' lab') (hx : ¬ X 2 g) (e : ad' 2 g = ad 2 g) : grO σ' lab' ad' g sz sk st wh tg rd ds ep := by
  have hs := h.1.sm hk hx
  have hI : ∀ k : Nat, ¬ scrI k → cI σ' k (ad 2 g) = cI σ k (ad 2 g) := hs.1
  refine ⟨h.1.kp hk e, ?_⟩
  rw [e, hI 32 (by unfold scrI; omega), hI 33 (by unfold scrI; omega), hI 34 (by unfold scrI; omega), hI 35 (by unfold scrI; omega), hI 36 (by unfold scrI; omega), hI 38 (by unfold scrI; omega), hI 39 (by unfold scrI; omega), hI 40 (by unfold scrI; omega), hI 37 (by unfold scrI; omega)]
  exact h.2
theorem lkO.kp {k a b : Nat} {ln : Int32} (h : lkO σ lab ad k a b ln) (hk : keepS X σ lab σ' lab') (hx : ¬ X 4 k) (e : ad' 4 k = ad 4 k) (e1 : ad' 1 a = ad 1 a) (e2 : ad' 1 b = ad 1 b) : lkO σ' lab' ad' k a b ln := by
  have hs := h.1.sm hk hx
  refine ⟨h.1.kp hk e, ?_⟩
  rw [e, e1, e2, hs.2.1 64 (by decide), hs.2.1 65 (by decide), hs.1 66 (by unfold scrI; omega)]
  exact h.2
theorem reO.kp (h : reO σ lab ad) (hk : keepS X σ lab σ' lab') (hx : ¬ X 5 0) (e : ad' 5 0 = ad 5 0) (e2 : ad' 9 0 = ad 9 0) : reO σ' lab' ad' := by
  have hs := h.1.sm hk hx
  refine ⟨h.1.kp hk e, ?_, h.2.2.1.kp hk e2, ?_⟩
  · rw [e, e2, hs.2.1 82 (by decide)]; exact h.2.1
  · rw [e2, hk.N h.2.2.1.1]; exact h.2.2.2
theorem lsO.kp {nL nS nC nG nK : Nat} (h : lsO σ lab ad nL nS nC nG nK) (hk : keepS X σ lab σ' lab') (hx : ∀ i : Nat, i < 5 → ¬ X 0 i ∧ ¬ X 10 i) (e0 : ∀ i : Nat, i < 5 → ad' 0 i = ad 0 i) (e3 : ∀ i : Nat, i < nL → ad' 3 i = ad 3 i) (e6 : ∀ i : Nat, i < nS → ad' 6 i = ad 6 i) (e1 : ∀ i : Nat, i < nC → ad' 1 i = ad 1 i) (e2 : ∀ i : Nat, i < nG → ad' 2 i = ad 2 i) (e4 : ∀ i : Nat, i < nK → ad' 4 i = ad 4 i) : lsO σ' lab' ad' nL nS nC nG nK := by
  unfold lsO
  rw [e0 0 (by decide), e0 1 (by decide), e0 2 (by decide), e0 3 (by decide), e0 4 (by decide)]
  exact ⟨h.1.kp hk (hx 0 (by decide)).1 (hx 0 (by decide)).2 e3, h.2.1.kp hk (hx 1 (by decide)).1 (hx 1 (by decide)).2 e6, h.2.2.1.kp hk (hx 2 (by decide)).1 (hx 2 (by decide)).2 e1, h.2.2.2.1.kp hk (hx 3 (by decide)).1 (hx 3 (by decide)).2 e2, h.2.2.2.2.kp hk (hx 4 (by decide)).1 (hx 4 (by decide)).2 e4⟩
end PC
end
