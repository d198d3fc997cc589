/-! what a step leaves: all of the pool but what X names, by kind and label -/
def sameAt (σ σ' : CSt) (b : Nat) : Prop := (∀ k : Nat, cI σ' k b = cI σ k b) ∧ (∀ k : Nat, cR σ' k b = cR σ k b) ∧ (∀ k : Nat, cJ σ' k b = cJ σ k b) ∧ cV σ' b = cV σ b ∧ cE σ' b = cE σ b
def keepR (X : Nat → Nat → Prop) (σ : CSt) (lab : Nat → Nat) (σ' : CSt) (lab' : Nat → Nat) : Prop :=
  cZ σ' = cZ σ ∧ ∀ b : Nat, b ∈ cL σ → b ∈ cL σ' ∧ cK σ' b = cK σ b ∧ lab' b = lab b ∧ cN σ' b = cN σ b ∧ (¬ X (cK σ b) (lab b) → sameAt σ σ' b)
theorem keepR.rf {X : Nat → Nat → Prop} {σ : CSt} {lab : Nat → Nat} : keepR X σ lab σ lab := ⟨rfl, fun b hb => ⟨hb, rfl, rfl, rfl, fun _ => ⟨fun _ => rfl, fun _ => rfl, fun _ => rfl, rfl, rfl⟩⟩⟩
theorem keepR.mono {X Y : Nat → Nat → Prop} {σ σ' : CSt} {lab lab' : Nat → Nat} (h : keepR X σ lab σ' lab') (hXY : ∀ k m, X k m → Y k m) : keepR Y σ lab σ' lab' := ⟨h.1, fun b hb => by
  obtain ⟨h1, h2, h3, h4, h5⟩ := h.2 b hb
  exact ⟨h1, h2, h3, h4, fun hy => h5 (fun hx => hy (hXY _ _ hx))⟩⟩
theorem keepR.tr {X : Nat → Nat → Prop} {σ σ' σ'' : CSt} {lab lab' lab'' : Nat → Nat} (h : keepR X σ lab σ' lab') (g : keepR X σ' lab' σ'' lab'') : keepR X σ lab σ'' lab'' := ⟨g.1.trans h.1, fun b hb => by
  obtain ⟨h1, h2, h3, h4, h5⟩ := h.2 b hb
  obtain ⟨g1, g2, g3, g4, g5⟩ := g.2 b h1
  refine ⟨g1, g2.trans h2, g3.trans h3, g4.trans h4, fun hx => ?_⟩
  obtain ⟨a1, a2, a3, a4, a5⟩ := h5 hx
  obtain ⟨b1, b2, b3, b4, b5⟩ := g5 (by rw [h2, h3]; exact hx)
  exact ⟨fun k => (b1 k).trans (a1 k), fun k => (b2 k).trans (a2 k), fun k => (b3 k).trans (a3 k), b4.trans a4, b5.trans a5⟩⟩
theorem keepR.at {X : Nat → Nat → Prop} {σ σ' : CSt} {lab lab' : Nat → Nat} {kd b : Nat} (h : keepR X σ lab σ' lab') (hb : cAt σ kd b) : cAt σ' kd b := ⟨(h.2 b hb.1).1, by rw [(h.2 b hb.1).2.1]; exact hb.2⟩
theorem keepR.lab {X : Nat → Nat → Prop} {σ σ' : CSt} {lab lab' : Nat → Nat} {kd b : Nat} (h : keepR X σ lab σ' lab') (hb : cAt σ kd b) : lab' b = lab b := (h.2 b hb.1).2.2.1
theorem keepR.N {X : Nat → Nat → Prop} {σ σ' : CSt} {lab lab' : Nat → Nat} {kd b : Nat} (h : keepR X σ lab σ' lab') (hb : cAt σ kd b) : cN σ' b = cN σ b := (h.2 b hb.1).2.2.2.1
theorem keepR.same {X : Nat → Nat → Prop} {σ σ' : CSt} {lab lab' : Nat → Nat} {kd m b : Nat} (h : keepR X σ lab σ' lab') (hb : cAt σ kd b) (hm : lab b = m) (hx : ¬ X kd m) : sameAt σ σ' b := (h.2 b hb.1).2.2.2.2 (by rw [hb.2, hm]; exact hx)
theorem keepR.elm {X : Nat → Nat → Prop} {σ σ' : CSt} {lab lab' : Nat → Nat} {b : Nat} (h : keepR X σ lab σ' lab') (hb : cElm σ b) : cElm σ' b := by
  obtain ⟨kd, h1, h2⟩ := hb
  exact ⟨kd, h1, h.at h2⟩
theorem isL.keep {X : Nat → Nat → Prop} {σ σ' : CSt} {lab lab' : Nat → Nat} {a m n : Nat} {f : Nat → Nat} (h : isL σ lab a m n f) (hk : keepR X σ lab σ' lab') (h0 : ¬ X 0 m) (h10 : ¬ X 10 m) : isL σ' lab' a m n f := by
  obtain ⟨h1, h2, h3, h4, d, h5, h6⟩ := h
  have hs := hk.same h1 h2 h0
  refine ⟨hk.at h1, (hk.lab h1).trans h2, (hs.1 2).trans h3, h4, d, (hs.2.1 1).trans h5, ?_⟩
  rcases h6 with ⟨g1, g2⟩ | ⟨g1, g2, g3, g4, g5, g6⟩
  · exact Or.inl ⟨g1, by rw [hk.1]; exact g2⟩
  · have hd := hk.same g2 g3 h10
    exact Or.inr ⟨by rw [hk.1]; exact g1, hk.at g2, (hk.lab g2).trans g3, by rw [hk.N g2]; exact g4, by rw [hk.N g2]; exact g5, fun i hi => by rw [hd.2.2.2.2]; exact g6 i hi⟩
