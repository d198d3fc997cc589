section
/-! least: the reference carries, the numbers -/
section LR6
variable {n K : Nat} {A B : Nat → Nat} {ln : Nat → Int} {w y yq : Nat → Nat → Int} {Mx Sx sp ms U V co : Nat → Int} {bf : Nat → Option Nat} {Tot am : Int} {t h q : Nat} {I C : Nat → Nat}
def up2 (y : Nat → Nat → Int) (i0 j0 : Nat) (v : Int) : Nat → Nat → Int := fun i j => if i = i0 ∧ j = j0 then v else y i j
theorem up2_s {i0 j0 : Nat} {v : Int} : up2 y i0 j0 v i0 j0 = v := if_pos ⟨rfl, rfl⟩
theorem up2_n {i0 j0 i j : Nat} {v : Int} (h : ¬ (i = i0 ∧ j = j0)) : up2 y i0 j0 v i j = y i j := if_neg h
/-- an arc that costs just what it must -/
def TA (w : Nat → Nat → Int) (Mx Sx co : Nat → Int) (i j : Nat) : Prop := co i < FAR ∧ co (40 + j) < FAR ∧ co (40 + j) = co i + w i j ∧ w i j < FAR ∧ 0 < Sx i ∧ 0 < Mx j
theorem Pth.ta (hP : Pth n bf t h I C) (hS : SI n w y Mx Sx sp U V co bf) (hA : ∀ i j : Nat, i < n → j < n → AR w y Mx Sx co i j) (hQ : QJ n Mx Sx Tot w y sp ms U V) : (∀ q : Nat, q ≤ h → TA w Mx Sx co (I q) (C q)) ∧ (∀ q : Nat, q < h → TA w Mx Sx co (I q) (C (q + 1)) ∧ 0 < y (I q) (C (q + 1))) := by
  refine ⟨fun q hq => ?_, fun q hq => ?_⟩
  · obtain ⟨⟨a1, a2⟩, a3, -⟩ := hP.2.1 q hq
    obtain ⟨b1, b2, b3, b4, b5, b6⟩ := hS.2.2.1 (C q) a1 (I q) a3
    have b7 := ((hS.1 (C q) a1).2.2.2.1 b4).2
    have := (hA (I q) (C q) a2 a1 b2 b7).1 b5 b3
    exact ⟨b5, b4, by omega, b3, b2, b7⟩
  · obtain ⟨⟨a1, a2⟩, -⟩ := hP.2.1 q (by omega)
    obtain ⟨⟨c1, c2⟩, -⟩ := hP.2.1 (q + 1) (by omega)
    obtain ⟨j, b1, b2, b3, b4, b5, b6⟩ := hS.2.1 (I q) a2 _ (hP.2.2.1 q hq)
    obtain rfl : C (q + 1) = j := by omega
    obtain ⟨d1, d2, d3⟩ := (hQ.1 (I q) (C (q + 1)) a2 c1).2.1 b3
    have := (hA (I q) (C (q + 1)) a2 c1 d1 d2).2 b3 b5
    exact ⟨⟨b4, b5, by omega, d3, d1, d2⟩, b3⟩
def YI (n : Nat) (w y : Nat → Nat → Int) (Mx Sx co : Nat → Int) (t h : Nat) (I C : Nat → Nat) (am : Int) (q : Nat) (yq : Nat → Nat → Int) : Prop :=
  (∀ i j : Nat, i < n → j < n → 0 ≤ yq i j ∧ yq i j ≤ y i j + am) ∧ (∀ g : Nat → Int, S2 n yq (fun i j => g j - g i) = S2 n y (fun i j => g j - g i) + am * (g t - g (I q))) ∧ S2 n yq w = S2 n y w + am * (co (40 + t) - co (I q)) ∧
  (∀ q' : Nat, q ≤ q' → q' < h → yq (I q') (C (q' + 1)) = y (I q') (C (q' + 1))) ∧ (∀ q' : Nat, q < q' → q' ≤ h → yq (I q') (C q') = y (I q') (C q')) ∧ (∀ i j : Nat, i < n → j < n → yq i j ≠ y i j → TA w Mx Sx co i j)
theorem YI.ini (hP : Pth n bf t h I C) (hT : (∀ q : Nat, q ≤ h → TA w Mx Sx co (I q) (C q))) (hy : ∀ i j : Nat, i < n → j < n → 0 ≤ y i j) (h0 : 0 ≤ am) : YI n w y Mx Sx co t h I C am 0 (up2 y (I 0) t (y (I 0) t + am)) := by
  obtain ⟨⟨a1, a2⟩, -⟩ := hP.2.1 0 (Nat.zero_le _)
  have e0 := hP.1
  rw [e0] at a1
  have t0 := hT 0 (Nat.zero_le _)
  rw [e0] at t0
  refine ⟨fun i j hi hj => ?_, fun g => ?_, ?_, fun q' _ hq' => ?_, fun q' hq1 hq2 => ?_, fun i j hi hj hne => ?_⟩
  · have := hy i j hi hj
    unfold up2
    split
    · rename_i c
      rw [c.1, c.2] at this ⊢; omega
    · omega
  · exact S2_ch a2 a1 up2_s (fun i j _ _ hne => up2_n hne)
  · rw [S2_ch (y := y) (y' := up2 y (I 0) t (y (I 0) t + am)) (f := w) a2 a1 up2_s (fun i j _ _ hne => up2_n hne), show co (40 + t) - co (I 0) = w (I 0) t by have := t0.2.2.1; omega]
  · refine up2_n (fun e => ?_)
    have := hP.2.1 0 (Nat.zero_le _)
    have h1 := hP.ne (a := 0) (b := q' + 1) (by omega) (by omega) (by omega)
    exact h1.2 (e0.trans e.2.symm)
  · refine up2_n (fun e => ?_)
    have h1 := hP.ne (a := 0) (b := q') (by omega) (by omega) (by omega)
    exact h1.1 e.1.symm
  · by_cases c : i = I 0 ∧ j = t
    · rw [c.1, c.2]; exact t0
    · exact absurd (up2_n c) hne
theorem YI.step (hY : YI n w y Mx Sx co t h I C am q yq) (hP : Pth n bf t h I C) (hT1 : ∀ q : Nat, q ≤ h → TA w Mx Sx co (I q) (C q)) (hT2 : ∀ q : Nat, q < h → TA w Mx Sx co (I q) (C (q + 1)) ∧ 0 < y (I q) (C (q + 1))) (hq : q < h) (h0 : 0 ≤ am) (hy : ∀ i j : Nat, i < n → j < n → 0 ≤ y i j) (ha : am ≤ y (I q) (C (q + 1))) :
    YI n w y Mx Sx co t h I C am (q + 1) (up2 (up2 yq (I q) (C (q + 1)) (y (I q) (C (q + 1)) - am)) (I (q + 1)) (C (q + 1)) (y (I (q + 1)) (C (q + 1)) + am)) := by
  obtain ⟨p1, p2, p3, p4, p5, p6⟩ := hY
  obtain ⟨⟨a1, a2⟩, -⟩ := hP.2.1 q (by omega)
  obtain ⟨⟨b1, b2⟩, -⟩ := hP.2.1 (q + 1) (by omega)
  have hne := hP.ne (a := q) (b := q + 1) (by omega) (by omega) (by omega)
  have f1 := p4 q (Nat.le_refl _) hq
  have f2 := p5 (q + 1) (by omega) (by omega)
  have f2' : up2 yq (I q) (C (q + 1)) (y (I q) (C (q + 1)) - am) (I (q + 1)) (C (q + 1)) = y (I (q + 1)) (C (q + 1)) := by rw [up2_n (fun e => hne.1 e.1.symm)]; exact f2
  have t1 := (hT2 q hq).1
  have t2 := hT1 (q + 1) (by omega)
  have hs : ∀ f : Nat → Nat → Int, S2 n (up2 (up2 yq (I q) (C (q + 1)) (y (I q) (C (q + 1)) - am)) (I (q + 1)) (C (q + 1)) (y (I (q + 1)) (C (q + 1)) + am)) f = S2 n yq f - am * f (I q) (C (q + 1)) + am * f (I (q + 1)) (C (q + 1)) := by
    intro f
    rw [S2_ch (y := up2 yq (I q) (C (q + 1)) (y (I q) (C (q + 1)) - am)) (d := am) b2 b1 (by rw [up2_s, f2']) (fun i j _ _ hne => up2_n hne), S2_ch (y := yq) (d := - am) a2 b1 (by rw [up2_s, f1]; omega) (fun i j _ _ hne => up2_n hne), Int.neg_mul]
    omega
  refine ⟨fun i j hi hj => ?_, fun g => ?_, ?_, fun q' hq1 hq2 => ?_, fun q' hq1 hq2 => ?_, fun i j hi hj hd => ?_⟩
  · have h1 := hy i j hi hj
    have h2 := p1 i j hi hj
    by_cases c : i = I (q + 1) ∧ j = C (q + 1)
    · rw [c.1, c.2, up2_s]
      rw [c.1, c.2] at h1
      omega
    · rw [up2_n c]
      by_cases c2 : i = I q ∧ j = C (q + 1)
      · rw [c2.1, c2.2, up2_s]; omega
      · rw [up2_n c2]; exact h2
  · rw [hs, p2 g]
    (try dsimp only)
    rw [Int.mul_sub, Int.mul_sub, Int.mul_sub, Int.mul_sub]; omega
  · rw [hs, p3]
    have e1 := t1.2.2.1
    have e2 := t2.2.2.1
    rw [show w (I (q + 1)) (C (q + 1)) = co (40 + C (q + 1)) - co (I (q + 1)) by omega, show w (I q) (C (q + 1)) = co (40 + C (q + 1)) - co (I q) by omega, Int.mul_sub, Int.mul_sub, Int.mul_sub, Int.mul_sub]
    omega
  · have d1 := hP.ne (a := q + 1) (b := q' + 1) (by omega) (by omega) (by omega)
    rw [up2_n (fun e => d1.2 e.2.symm), up2_n (fun e => d1.2 e.2.symm)]
    exact p4 q' (by omega) hq2
  · have d1 := hP.ne (a := q + 1) (b := q') (by omega) (by omega) (by omega)
    rw [up2_n (fun e => d1.2 e.2.symm), up2_n (fun e => d1.2 e.2.symm)]
    exact p5 q' (by omega) hq2
  · by_cases c : i = I (q + 1) ∧ j = C (q + 1)
    · rw [c.1, c.2]; exact t2
    · rw [up2_n c] at hd
      by_cases c2 : i = I q ∧ j = C (q + 1)
      · rw [c2.1, c2.2]; exact t1
      · rw [up2_n c2] at hd
        exact p6 i j hi hj hd
/-- what is near is within 3900 -/
theorem SI.bd (hS : SI n w y Mx Sx sp U V co bf) (hA : ∀ i j : Nat, i < n → j < n → AR w y Mx Sx co i j) (hQ : QJ n Mx Sx Tot w y sp ms U V) (hW : WOK n K A B ln w) (hN : NetOk n K A B ln) {v : Nat} (hv : v < n) : (co (40 + v) < FAR → co (40 + v) ≤ 3900) ∧ (co v < FAR → co v ≤ 3900) := by
  have h1 : ∀ v : Nat, v < n → co (40 + v) < FAR → co (40 + v) ≤ 3900 := by
    intro v hv hc
    obtain ⟨i0, b1, b2, b3⟩ := (hS.2.2.2.2.1 v hv).2 hc
    have c0 := (hS.1 i0 b1).2.2.2.2 b2
    have c1 := hW.bd hN b1 hv b3
    have c2 := hQ.2.2.2.1 i0 b1
    have c3 := ((hS.1 v hv).2.2.2.1 hc).2
    have := (hA i0 v b1 hv (by omega) c3).1 (by rw [c0.1]; unfold FAR; decide) b3
    omega
  refine ⟨h1 v hv, fun hc => ?_⟩
  cases e : bf v with
  | none =>
    have := (hS.2.2.2.1 v hv).1 hc e
    have := ((hS.1 v hv).2.2.2.2 this).1
    omega
  | some p =>
    obtain ⟨j, b1, b2, b3, b4, b5, b6⟩ := hS.2.1 v hv p e
    have d := h1 j b1 b5
    obtain ⟨d1, d2, d3⟩ := (hQ.1 v j hv b1).2.1 b3
    have c := (hA v j hv b1 d1 d2).2 b3 b5
    have c1 := (hW.1.1 v j hv b1).1
    omega
theorem QJ.aug (hQ : QJ n Mx Sx Tot w y sp ms U V) (hS : SI n w y Mx Sx sp U V co bf) (hA : ∀ i j : Nat, i < n → j < n → AR w y Mx Sx co i j) (hW : WOK n K A B ln w) (hN : NetOk n K A B ln) (hx : ∀ v : Nat, v < n → Sx v = 0 ∨ Mx v = 0) (hP : Pth n bf t h I C) (ht : t < n) (hY : YI n w y Mx Sx co t h I C am h yq) (h0 : 0 < am) (h1 : am ≤ ms t) (h2 : am ≤ sp (I h)) :
    QJ n Mx Sx Tot w yq (updZ sp (I h) (sp (I h) - am)) (updZ ms t (ms t - am)) (fun v => if co v < FAR then co v else U v + FAR) (fun v => if co (40 + v) < FAR then co (40 + v) else V v + FAR) := by
  obtain ⟨q1, q2, q3, q4, q5⟩ := id hQ
  obtain ⟨p1, p2, p3, p4, p5, p6⟩ := hY
  have hFR : FAR = 1000000000000 := rfl
  obtain ⟨⟨-, hIh⟩, -⟩ := hP.2.1 h (Nat.le_refl _)
  have hms : sumZ (updZ ms t (ms t - am)) n = sumZ ms n + - am := sumZ_ch ht (by rw [updZ_s]; omega) (fun i _ hi => updZ_n hi)
  refine ⟨fun i j hi hj => ?_, fun i j hi hj hSi hMj hw => ?_, fun v hv => ?_, fun v hv => ?_, fun g => ?_⟩
  · have a1 := p1 i j hi hj
    obtain ⟨b1, b2, b3⟩ := q1 i j hi hj
    refine ⟨a1.1, fun g => ?_, by rw [hms]; omega⟩
    by_cases c : yq i j = y i j
    · rw [c] at g; exact b2 g
    · obtain ⟨c1, c2, c3, c4, c5, c6⟩ := p6 i j hi hj c
      exact ⟨c5, c6, c4⟩
  · obtain ⟨a1, a2⟩ := hA i j hi hj hSi hMj
    obtain ⟨b1, b2⟩ := q2 i j hi hj hSi hMj hw
    have bi := hS.bd hA hQ hW hN hi
    have bj := hS.bd hA hQ hW hN hj
    have wij := hW.bd hN hi hj hw
    have w0 := (hW.1.1 i j hi hj).1
    have u0 := (q3 i hi).1
    have v0 := (q3 j hj).2.1
    have hci := (hS.1 i hi).1
    have hcj := (hS.1 j hj).2.2.1
    have hdiff : 0 < yq i j → (co i < FAR ∧ co (40 + j) < FAR ∧ co (40 + j) = co i + w i j) ∨ 0 < y i j := fun g => by
      by_cases c : yq i j = y i j
      · rw [c] at g; exact Or.inr g
      · obtain ⟨c1, c2, c3, -⟩ := p6 i j hi hj c
        exact Or.inl ⟨c1, c2, c3⟩
    (try dsimp only)
    by_cases ci : co i < FAR
    · have k1 := a1 ci hw
      have k2 := bi.2 ci
      have cj : co (40 + j) < FAR := by omega
      rw [if_pos ci, if_pos cj]
      refine ⟨k1, fun g => ?_⟩
      rcases hdiff g with ⟨-, -, z⟩ | z
      · exact z
      · have := a2 z cj; omega
    · rw [if_neg ci]
      by_cases cj : co (40 + j) < FAR
      · have k2 := bj.1 cj
        rw [if_pos cj]
        refine ⟨by omega, fun g => ?_⟩
        rcases hdiff g with ⟨z, -⟩ | z
        · exact absurd z ci
        · have := a2 z cj; omega
      · rw [if_neg cj]
        refine ⟨by omega, fun g => ?_⟩
        rcases hdiff g with ⟨z, -⟩ | z
        · exact absurd z ci
        · have := b2 z; omega
  · obtain ⟨a1, a2, a3⟩ := q3 v hv
    obtain ⟨b1, b2, b3, b4, b5⟩ := hS.1 v hv
    (try dsimp only)
    refine ⟨?_, ?_, fun g => ?_⟩
    · split
      · rename_i c; have := (b2 c).1; omega
      · omega
    · split
      · rename_i c; have := (b4 c).1; omega
      · omega
    · have hsp : 0 < sp v := by
        unfold updZ at g
        split at g
        · rename_i e; rw [e]; omega
        · exact g
      have := (b5 hsp).1
      rw [if_pos (by omega)]; exact this
  · have a := q4 v hv
    have hq' : 0 ≤ updZ sp (I h) (sp (I h) - am) v ∧ updZ sp (I h) (sp (I h) - am) v ≤ sp v := by
      unfold updZ
      split
      · rename_i e; rw [e]; omega
      · omega
    have hp' : 0 ≤ updZ ms t (ms t - am) v ∧ updZ ms t (ms t - am) v ≤ ms v := by
      unfold updZ
      split
      · rename_i e; rw [e]; omega
      · omega
    omega
  · rw [p2 g, q5 g]
    have s1 := sumZ_ch (f := fun c => g c * ((Mx c - ms c) - (Sx c - sp c))) (g := fun c => g c * ((Mx c - updZ ms t (ms t - am) c) - (Sx c - sp c))) (n := n) (p := t) (d := am * g t) ht (by (try dsimp only); rw [updZ_s, Int.mul_comm am, ← Int.mul_add]; congr 1; omega) (fun i _ hi => by (try dsimp only); rw [updZ_n hi])
    have s2 := sumZ_ch (f := fun c => g c * ((Mx c - updZ ms t (ms t - am) c) - (Sx c - sp c))) (g := fun c => g c * ((Mx c - updZ ms t (ms t - am) c) - (Sx c - updZ sp (I h) (sp (I h) - am) c))) (n := n) (p := I h) (d := - (am * g (I h))) hIh (by (try dsimp only); rw [updZ_s, Int.mul_comm am, ← Int.mul_neg, ← Int.mul_add]; congr 1; omega) (fun i _ hi => by (try dsimp only); rw [updZ_n hi])
    rw [s2, s1, Int.mul_sub]; omega
end LR6
end
