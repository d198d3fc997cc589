section
/-! least: how many ways are gone -/
section LS5
variable {n K : Nat} {A B : Nat → Nat} {ln : Nat → Int} {cf dd sp ms far rr Mx Sx : Nat → Int} {via : Nat → Option Nat} {t m : Nat} {am Tot D N : Int}
def Sf (n : Nat) (sp : Nat → Int) : Nat → Prop := fun v => v < n ∧ 0 < sp v
theorem Sf_cg {sp' : Nat → Int} (h : ∀ v : Nat, v < n → (0 < sp' v ↔ 0 < sp v)) : Sf n sp' = Sf n sp := by
  funext v
  unfold Sf
  exact propext ⟨fun g => ⟨g.1, (h v g.1).mp g.2⟩, fun g => ⟨g.1, (h v g.1).mpr g.2⟩⟩
def RJ (n K : Nat) (A B : Nat → Nat) (ln cf ms rr : Nat → Int) : Prop := Fe K A B ln cf (fun v => - rr v) ∧ (∀ v : Nat, v < n → 0 ≤ rr v) ∧ ∀ v : Nat, v < n → 0 < ms v → rr v ≤ 0
def LI (A B : Nat → Nat) (ln cf dd rr : Nat → Int) (k : Nat) (p q : Int) : Prop := (∀ v : Nat, inc A B k v → p + 1 - 64 * ln k ≤ dd v ∧ q + 1 - 64 * ln k ≤ rr v) ∧ ∀ v : Nat, inc A B k v → cfr A cf k v < 0 → p + 2 ≤ dd v ∧ q + 2 ≤ rr (ot A B k v)
noncomputable def hp2 (K : Nat) (A B : Nat → Nat) (Q : Nat → Prop) (k : Nat) : Nat := if hop K A B Q (A k) ≤ hop K A B Q (B k) then hop K A B Q (A k) else hop K A B Q (B k)
theorem hp2_le {Q : Nat → Prop} {k v : Nat} (h : inc A B k v) : hp2 K A B Q k ≤ hop K A B Q v := by
  unfold hp2
  rcases h with e | e <;> subst e <;> split <;> omega
theorem hp2_bh {S T : Nat → Prop} {k : Nat} (hN : NetOk n K A B ln) (hk : k < K) : Bh K A B S T ≤ hp2 K A B S k + hp2 K A B T k + 1 := by
  have h1 := bh_le (S := S) (T := T) hN (v := A k)
  have h2 := bh_le (S := S) (T := T) hN (v := B k)
  have hne := (hN.2.2 k hk).2.2.1
  have h3 := hop_lip hN (Q := T) hk (v := A k) (Or.inl rfl)
  have h4 := hop_lip hN (Q := T) hk (v := B k) (Or.inr rfl)
  rw [show ot A B k (A k) = B k from if_pos rfl] at h3
  rw [show ot A B k (B k) = A k from if_neg (fun g => hne g.symm)] at h4
  unfold hp2
  split <;> split <;> omega
/-- the count so far -/
def CN (n K : Nat) (A B : Nat → Nat) (ln cf sp ms dd rr : Nat → Int) (N : Int) : Prop := RJ n K A B ln cf ms rr ∧ ∃ (c0 c M : Int) (cnt p q : Nat → Int), 0 ≤ c0 ∧ c0 ≤ c ∧ (∀ v : Nat, v < n → 0 < sp v → 64 * c ≤ rr v) ∧
  (M = 0 ∨ (c ≤ 100 * (Bh K A B (Sf n sp) (Sf n ms) : Int) ∧ (Bh K A B (Sf n sp) (Sf n ms) : Int) ≤ (n : Int) + 1 - (Qn n sp ms : Int) ∧ 2 ≤ Qn n sp ms)) ∧ M = sumZ cnt K ∧
  (∀ k : Nat, k < K → 0 ≤ cnt k ∧ LI A B ln cf dd rr k (p k) (q k) ∧ LRec ((n : Int) + 1 - (Qn n sp ms : Int) - (Bh K A B (Sf n sp) (Sf n ms) : Int)) c0 c (hp2 K A B (Sf n sp) k : Int) (hp2 K A B (Sf n ms) k : Int) (ln k) (cnt k) (p k) (q k)) ∧
  1200 * N ≤ 80 * (2320800 - WgT (Qn n sp ms) + gg c0) + 1200 * M + 1200 * (40 - (Qn n sp ms : Int))
theorem CN_M {c0 c M : Int} {cnt p q : Nat → Int} (hN : NetOk n K A B ln) (h0 : 0 ≤ c0) (h1 : c0 ≤ c) (h2 : M = 0 ∨ (c ≤ 100 * (Bh K A B (Sf n sp) (Sf n ms) : Int) ∧ (Bh K A B (Sf n sp) (Sf n ms) : Int) ≤ (n : Int) + 1 - (Qn n sp ms : Int) ∧ 2 ≤ Qn n sp ms)) (h3 : M = sumZ cnt K)
    (h4 : ∀ k : Nat, k < K → 0 ≤ cnt k ∧ LI A B ln cf dd rr k (p k) (q k) ∧ LRec ((n : Int) + 1 - (Qn n sp ms : Int) - (Bh K A B (Sf n sp) (Sf n ms) : Int)) c0 c (hp2 K A B (Sf n sp) k : Int) (hp2 K A B (Sf n ms) k : Int) (ln k) (cnt k) (p k) (q k)) : 1200 * M ≤ 80 * (gg c - gg c0 + wgQ (Qn n sp ms)) := by
  have hq : Qn n sp ms ≤ 40 := Nat.le_trans Qn_le hN.1
  have hw := wgQ_nn _ hq
  have hg := (gg_up h1).2
  rcases h2 with h2 | ⟨h2, h5, h6⟩
  · omega
  · have hn := hN.1
    have hK := hN.2.1
    generalize hH : (n : Int) + 1 - (Qn n sp ms : Int) - (Bh K A B (Sf n sp) (Sf n ms) : Int) = H at h4
    have e1 := ep_le (H := H) (c0 := c0) (c := c) (q := Qn n sp ms) h1 h6 (by omega) (by omega) (by omega)
    have e2 := sumZ_c (f := fun k => 1200 * cnt k) (n := K) (b := gg c - gg c0 + wgQ (Qn n sp ms)) (fun k hk => by
      have := (h4 k hk).2.2.le (by omega) h1
      (try dsimp only)
      omega)
    have e3 : ∀ K : Nat, sumZ (fun k => 1200 * cnt k) K = 1200 * sumZ cnt K := by
      intro K
      induction K with
      | zero => rfl
      | succ K ih =>
        show sumZ (fun k => 1200 * cnt k) K + 1200 * cnt K = 1200 * (sumZ cnt K + cnt K)
        rw [ih]; omega
    rw [e3, ← h3] at e2
    have e4 : (K : Int) * (gg c - gg c0 + wgQ (Qn n sp ms)) ≤ 80 * (gg c - gg c0 + wgQ (Qn n sp ms)) := Int.mul_le_mul_of_nonneg_right (by omega) (by omega)
    omega
theorem CN.lt (h : CN n K A B ln cf sp ms dd rr N) (hN : NetOk n K A B ln) : N < 1000000 := by
  obtain ⟨-, c0, c, M, cnt, p, q, h0, h1, -, h2, h3, h4, h5⟩ := h
  have hM := CN_M hN h0 h1 h2 h3 h4
  have hq : Qn n sp ms ≤ 40 := Nat.le_trans Qn_le hN.1
  have hg := gg_le c
  have hw : wgQ (Qn n sp ms) ≤ WgT (Qn n sp ms) := by
    by_cases e : Qn n sp ms = 0
    · rw [e]; decide
    · have h1 := WgT_lt (q := Qn n sp ms) (q' := 0) (by omega) hq
      have h2 : WgT 0 = 0 := by decide
      omega
  omega
theorem CN.ini (hN : NetOk n K A B ln) (h0 : ∀ k : Nat, k < K → cf k = 0) : CN n K A B ln cf sp ms (fun _ => 0) (fun _ => 0) 0 := by
  refine ⟨⟨fun k hk u hu => ?_, fun v _ => Int.le_refl _, fun v _ _ => Int.le_refl _⟩, 0, 0, 0, fun _ => 0, fun _ => -2, fun _ => -2, Int.le_refl _, Int.le_refl _, fun v _ _ => (by decide : (64 : Int) * 0 ≤ 0), Or.inl rfl, (sumZ_0 (fun _ _ => rfl)).symm, fun k hk => ⟨Int.le_refl _, ⟨fun v hv => ?_, fun v hv g => ?_⟩, Or.inl rfl⟩, ?_⟩
  · have hl := (hN.2.2 k hk).2.2.2
    have : cst A ln cf k u = ln k := by
      unfold cst cfr
      rw [h0 k hk]
      split <;> rfl
    rw [this]; (try dsimp only); omega
  · have hl := (hN.2.2 k hk).2.2.2
    (try dsimp only)
    omega
  · unfold cfr at g
    rw [h0 k hk] at g
    split at g <;> omega
  · have hq : Qn n sp ms ≤ 40 := Nat.le_trans Qn_le hN.1
    have hw : WgT (Qn n sp ms) ≤ 2320800 := by
      rw [← WgT_40]
      by_cases e : Qn n sp ms = 40
      · rw [e]; exact Int.le_refl _
      · have h1 := WgT_lt (q := 40) (q' := Qn n sp ms) (by omega) (by omega)
        have h2 := wgQ_nn 40 (by decide)
        omega
    have : gg 0 = 0 := by decide
    omega
/-- how far it is at least to those where some is missing -/
noncomputable def rr2 (far rr : Nat → Int) (D : Int) : Nat → Int := fun v => if far v = UN then rr v else if rr v ≤ D - far v then D - far v else rr v
theorem rr2_le {v : Nat} : rr v ≤ rr2 far rr D v := by
  unfold rr2
  split
  · exact Int.le_refl _
  · split <;> omega
theorem rr2_fe (hF : Fe K A B ln cf (fun v => - rr v)) (hM : MEAS n K A B ln cf dd sp far via) (hN : NetOk n K A B ln) : Fe K A B ln cf (fun v => - rr2 far rr D v) := by
  intro k hk u hu
  have h1 := hF k hk u hu
  have h2 := rr2_le (far := far) (rr := rr) (D := D) (v := ot A B k u)
  (try dsimp only at h1 ⊢)
  by_cases e : far u = UN
  · have : rr2 far rr D u = rr u := if_pos e
    omega
  · obtain ⟨a1, a2⟩ := hM.2.2.2.2 k hk u hu e
    have h3 : D - far (ot A B k u) ≤ rr2 far rr D (ot A B k u) := by
      unfold rr2
      rw [if_neg a1]
      split <;> omega
    have h4 : rr2 far rr D u = rr u ∨ rr2 far rr D u = D - far u := by
      unfold rr2
      rw [if_neg e]
      split
      · exact Or.inr rfl
      · exact Or.inl rfl
    omega
theorem dd2_up (hM : MEAS n K A B ln cf dd sp far via) (hF : Fe K A B ln cf dd) (hd : ∀ v : Nat, v < n → 0 ≤ dd v ∧ dd v % 64 ≤ 39) (hs : ∀ v : Nat, v < n → 0 < sp v → dd v = 0) (hN : NetOk n K A B ln) {v : Nat} (hv : v < n) : dd v ≤ dd2 far dd v := by
  unfold dd2
  by_cases e : far v = UN
  · rw [if_pos e]; exact Int.le_refl _
  · rw [if_neg e]
    obtain ⟨m, w1, w2, w3, w4, w5, w6, w7⟩ := hM.way hF hd hN hv e
    have key : ∀ d j : Nat, j + d = m → dd (nd A B via v j) ≤ far (nd A B via v j) := by
      intro d
      induction d with
      | zero =>
        intro j hj
        obtain rfl : j = m := by omega
        rw [hs _ (w3 j (Nat.le_refl _)).1 w6, (hM.2.1 _ (w3 j (Nat.le_refl _)).1 w6).1]
        exact Int.le_refl _
      | succ d ih =>
        intro j hj
        have h1 := ih (j + 1) (by omega)
        obtain ⟨a1, a2, a3⟩ := w4 j (by omega)
        obtain ⟨o1, o2, -⟩ := hN.ot_inc a1 a2
        have h2 := hF _ a1 _ o1
        rw [o2, ← w1.s (by omega)] at h2
        omega
    exact key m 0 (by omega)
theorem Qn_2 {s t : Nat} (hs : s < n) (ht : t < n) (hne : s ≠ t) (h1 : 0 < sp s) (h2 : 0 < ms t) : 2 ≤ Qn n sp ms := by
  refine php (w := fun v => if 0 < sp v ∨ 0 < ms v then 1 else 0) n 2 (fun i => if i = 0 then s else t) (fun i hi => ?_) (fun i j hij hj => ?_)
  · (try dsimp only)
    by_cases e : i = 0
    · rw [if_pos e, if_pos (Or.inl h1)]; exact ⟨hs, rfl⟩
    · rw [if_neg e, if_pos (Or.inr h2)]; exact ⟨ht, rfl⟩
  · (try dsimp only)
    rw [if_pos (by omega : i = 0), if_neg (by omega : ¬ j = 0)]
    exact hne
end LS5
end
