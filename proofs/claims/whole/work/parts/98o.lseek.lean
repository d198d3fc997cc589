section
/-! least: from those that give to those that get, the reference's -/
section LR3
variable {n K : Nat} {A B : Nat → Nat} {ln : Nat → Int} {w y : Nat → Nat → Int} {Mx Sx sp ms U V co : Nat → Int} {bf : Nat → Option Nat} {Tot : Int}
theorem WOK.sy2 (h : WOK n K A B ln w) (hN : NetOk n K A B ln) {i j c : Nat} (hi : i < n) (hj : j < n) (hc : c < n) (hf : w i j < FAR) (h1 : w c j < FAR) : w c i < FAR := by
  have := (h.cl hN (C := fun v => v < n ∧ w c v < FAR) (fun k hk => by
    obtain ⟨a1, a2, a3, a4, a5⟩ := hN.2.2 k hk
    obtain ⟨l1, l2⟩ := h.2.2.2 k hk hk
    have t1 := h.2.2.1 (A k) c (B k) a1 a1 hc a2
    have t2 := h.2.2.1 (B k) c (A k) a2 a2 hc a1
    refine ⟨fun y => ⟨a2, ?_⟩, fun y => ⟨a1, ?_⟩⟩
    · have := h.bd hN hc a1 y.2
      unfold FAR; omega
    · have := h.bd hN hc a2 y.2
      unfold FAR; omega) hi hj hf).mpr ⟨hj, h1⟩
  exact this.2
def S2 (n : Nat) (y f : Nat → Nat → Int) : Int := sumZ (fun i => sumZ (fun j => y i j * f i j) n) n
theorem S2_ch {y' f : Nat → Nat → Int} {i0 j0 : Nat} {d : Int} (hi : i0 < n) (hj : j0 < n) (h1 : y' i0 j0 = y i0 j0 + d) (h2 : ∀ i j : Nat, i < n → j < n → ¬ (i = i0 ∧ j = j0) → y' i j = y i j) : S2 n y' f = S2 n y f + d * f i0 j0 := by
  unfold S2
  refine sumZ_ch hi ?_ (fun i hi' hne => sumZ_cg (fun j hj' => by rw [h2 i j hi' hj' (fun e => hne e.1)]))
  refine sumZ_ch hj (by rw [h1, Int.add_mul]) (fun j hj' hne => by rw [h2 i0 j hi hj' (fun e => hne e.2)])
theorem S2_le {f g : Nat → Nat → Int} (h : ∀ i j : Nat, i < n → j < n → y i j * f i j ≤ y i j * g i j) : S2 n y f ≤ S2 n y g := sumZ_le (fun i hi => sumZ_le (fun j hj => h i j hi hj))
/-- what holds between two ways of the reference -/
def QJ (n : Nat) (Mx Sx : Nat → Int) (Tot : Int) (w y : Nat → Nat → Int) (sp ms U V : Nat → Int) : Prop :=
  (∀ i j : Nat, i < n → j < n → 0 ≤ y i j ∧ (0 < y i j → 0 < Sx i ∧ 0 < Mx j ∧ w i j < FAR) ∧ y i j ≤ Tot - sumZ ms n) ∧
  (∀ i j : Nat, i < n → j < n → 0 < Sx i → 0 < Mx j → w i j < FAR → V j ≤ U i + w i j ∧ (0 < y i j → V j = U i + w i j)) ∧
  (∀ v : Nat, v < n → 0 ≤ U v ∧ 0 ≤ V v ∧ (0 < sp v → U v = 0)) ∧
  (∀ v : Nat, v < n → 0 ≤ sp v ∧ sp v ≤ Sx v ∧ 0 ≤ ms v ∧ ms v ≤ Mx v) ∧
  (∀ g : Nat → Int, S2 n y (fun i j => g j - g i) = sumZ (fun c => g c * ((Mx c - ms c) - (Sx c - sp c))) n)
def ndP (n x : Nat) : Prop := x < n ∨ (40 ≤ x ∧ x < 40 + n)
/-- a node's way back ends after m steps -/
def Rt (bf : Nat → Option Nat) : Nat → Nat → Prop
  | 0, x => bf x = none
  | m + 1, x => ∃ p : Nat, bf x = some p ∧ Rt bf m p
theorem Rt_stay {rc : Nat → Int} {u v : Nat} {q : Option Nat} (hm : ∀ x p : Nat, ndP n x → bf x = some p → ndP n p ∧ rc p ≤ rc x) (huv : rc u < rc v) : ∀ m x : Nat, ndP n x → rc x ≤ rc u → Rt bf m x → Rt (fun i => if i = v then q else bf i) m x
  | 0, x, _, h2, h3 => by
    have hne : x ≠ v := fun e => by subst e; omega
    show (if x = v then q else bf x) = none
    rw [if_neg hne]; exact h3
  | m + 1, x, h1, h2, ⟨p, h3, h4⟩ => by
    have hne : x ≠ v := fun e => by subst e; omega
    obtain ⟨a1, a2⟩ := hm x p h1 h3
    refine ⟨p, ?_, Rt_stay hm huv m p a1 (by omega) h4⟩
    show (if x = v then q else bf x) = some p
    rw [if_neg hne]; exact h3
theorem Rt_up {rc : Nat → Int} {u v mu : Nat} (hm : ∀ x p : Nat, ndP n x → bf x = some p → ndP n p ∧ rc p ≤ rc x) (hu : ndP n u) (huv : rc u < rc v) (hr : Rt bf mu u) : ∀ m x : Nat, ndP n x → Rt bf m x → ∃ m', Rt (fun i => if i = v then some u else bf i) m' x
  | 0, x, h1, h3 => by
    by_cases e : x = v
    · exact ⟨mu + 1, u, if_pos e, Rt_stay hm huv mu u hu (Int.le_refl _) hr⟩
    · refine ⟨0, ?_⟩
      show (if x = v then some u else bf x) = none
      rw [if_neg e]; exact h3
  | m + 1, x, h1, ⟨p, h3, h4⟩ => by
    by_cases e : x = v
    · exact ⟨mu + 1, u, if_pos e, Rt_stay hm huv mu u hu (Int.le_refl _) hr⟩
    · obtain ⟨m', h5⟩ := Rt_up hm hu huv hr m p (hm x p h1 h3).1 h4
      refine ⟨m' + 1, p, ?_, h5⟩
      show (if x = v then some u else bf x) = some p
      rw [if_neg e]; exact h3
/-- while it is sought -/
def SI (n : Nat) (w y : Nat → Nat → Int) (Mx Sx sp U V co : Nat → Int) (bf : Nat → Option Nat) : Prop :=
  (∀ v : Nat, v < n → co v ≤ FAR ∧ (co v < FAR → U v ≤ co v ∧ 0 < Sx v) ∧ co (40 + v) ≤ FAR ∧ (co (40 + v) < FAR → V v ≤ co (40 + v) ∧ 0 < Mx v) ∧ (0 < sp v → co v = 0 ∧ bf v = none)) ∧
  (∀ v : Nat, v < n → ∀ p : Nat, bf v = some p → ∃ j : Nat, j < n ∧ p = 40 + j ∧ 0 < y v j ∧ co v < FAR ∧ co (40 + j) < FAR ∧ co (40 + j) - w v j ≤ co v) ∧
  (∀ v : Nat, v < n → ∀ p : Nat, bf (40 + v) = some p → p < n ∧ 0 < Sx p ∧ w p v < FAR ∧ co (40 + v) < FAR ∧ co p < FAR ∧ co p + w p v ≤ co (40 + v)) ∧
  (∀ v : Nat, v < n → (co v < FAR → bf v = none → 0 < sp v) ∧ (co (40 + v) < FAR → bf (40 + v) ≠ none)) ∧
  (∀ v : Nat, v < n → (co v < FAR → ∃ i0 : Nat, i0 < n ∧ 0 < sp i0 ∧ w i0 v < FAR) ∧ (co (40 + v) < FAR → ∃ i0 : Nat, i0 < n ∧ 0 < sp i0 ∧ w i0 v < FAR)) ∧
  (∀ v : Nat, v < n → (co v < FAR → ∃ m, Rt bf m v) ∧ (co (40 + v) < FAR → ∃ m, Rt bf m (40 + v)))
def pot (U V : Nat → Int) (x : Nat) : Int := if x < 40 then U x else V (x - 40)
theorem SI.mono (h : SI n w y Mx Sx sp U V co bf) (hQ : QJ n Mx Sx Tot w y sp ms U V) (hn : n ≤ 40) : ∀ x p : Nat, ndP n x → bf x = some p → ndP n p ∧ co p - pot U V p ≤ co x - pot U V x := by
  intro x p hx hp
  obtain ⟨h1, h2, h3, h4, h5, h6⟩ := h
  rcases hx with hx | ⟨hx1, hx2⟩
  · obtain ⟨j, a1, a2, a3, a4, a5, a6⟩ := h2 x hx p hp
    subst a2
    obtain ⟨b1, b2, b3⟩ := (hQ.1 x j hx a1).2.1 a3
    have c1 := (hQ.2.1 x j hx a1 b1 b2 b3).2 a3
    have e1 : pot U V (40 + j) = V j := by unfold pot; rw [if_neg (by omega)]; congr 1; omega
    have e2 : pot U V x = U x := by unfold pot; rw [if_pos (by omega)]
    refine ⟨Or.inr ⟨by omega, by omega⟩, ?_⟩
    rw [e1, e2]; omega
  · obtain ⟨v, rfl⟩ : ∃ v, x = 40 + v := ⟨x - 40, by omega⟩
    obtain ⟨a1, a2, a3, a4, a5, a6⟩ := h3 v (by omega) p hp
    have b2 := ((h1 v (by omega)).2.2.2.1 a4).2
    have c1 := (hQ.2.1 p v a1 (by omega) a2 b2 a3).1
    have e1 : pot U V (40 + v) = V v := by unfold pot; rw [if_neg (by omega)]; congr 1; omega
    have e2 : pot U V p = U p := by unfold pot; rw [if_pos (by omega)]
    refine ⟨Or.inl a1, ?_⟩
    rw [e1, e2]; omega
theorem SI.fw (h : SI n w y Mx Sx sp U V co bf) (hQ : QJ n Mx Sx Tot w y sp ms U V) (hW : WOK n K A B ln w) (hN : NetOk n K A B ln) {i j : Nat} (hi : i < n) (hj : j < n) (hS : 0 < Sx i) (hM : 0 < Mx j) (hci : co i < FAR) (hw : w i j < FAR) (hlt : co i + w i j < co (40 + j)) :
    SI n w y Mx Sx sp U V (updZ co (40 + j) (co i + w i j)) (fun x => if x = 40 + j then some i else bf x) := by
  have hn := hN.1
  have hmono := h.mono hQ hn
  obtain ⟨h1, h2, h3, h4, h5, h6⟩ := h
  have ei : ∀ v : Nat, v < n → updZ co (40 + j) (co i + w i j) v = co v := fun v hv => updZ_n (by omega)
  have ej : ∀ v : Nat, v < n → v ≠ j → updZ co (40 + j) (co i + w i j) (40 + v) = co (40 + v) := fun v hv hne => updZ_n (by omega)
  have hcj := (h1 j hj).2.2.1
  have hVU := (hQ.2.1 i j hi hj hS hM hw).1
  have hUi := ((h1 i hi).2.1 hci).1
  obtain ⟨mu, hmu⟩ := (h6 i hi).1 hci
  have huv : co i - pot U V i < co (40 + j) - pot U V (40 + j) := by
    have e1 : pot U V (40 + j) = V j := by unfold pot; rw [if_neg (by omega)]; congr 1; omega
    have e2 : pot U V i = U i := by unfold pot; rw [if_pos (by omega)]
    rw [e1, e2]; omega
  have hRt := fun m x hx hr => Rt_up (rc := fun x => co x - pot U V x) hmono (Or.inl hi) huv hmu m x hx hr
  refine ⟨fun v hv => ?_, fun v hv p hp => ?_, fun v hv p hp => ?_, fun v hv => ?_, fun v hv => ?_, fun v hv => ?_⟩
  · obtain ⟨a1, a2, a3, a4, a5⟩ := h1 v hv
    rw [ei v hv]
    refine ⟨a1, a2, ?_, ?_, fun g => ⟨(a5 g).1, by (try dsimp only); rw [if_neg (by omega)]; exact (a5 g).2⟩⟩
    · by_cases e : v = j
      · subst e; rw [updZ_s]; omega
      · rw [ej v hv e]; exact a3
    · by_cases e : v = j
      · subst e; rw [updZ_s]; exact fun _ => ⟨by omega, hM⟩
      · rw [ej v hv e]; exact a4
  · (try dsimp only at hp)
    rw [if_neg (by omega)] at hp
    obtain ⟨j', a1, a2, a3, a4, a5, a6⟩ := h2 v hv p hp
    refine ⟨j', a1, a2, a3, by rw [ei v hv]; exact a4, ?_, ?_⟩
    · by_cases e : j' = j
      · subst e; rw [updZ_s]; omega
      · rw [ej j' a1 e]; exact a5
    · rw [ei v hv]
      by_cases e : j' = j
      · subst e; rw [updZ_s]; omega
      · rw [ej j' a1 e]; exact a6
  · (try dsimp only at hp)
    by_cases e : v = j
    · subst e
      rw [if_pos rfl] at hp
      obtain rfl : i = p := Option.some.inj hp
      rw [updZ_s, ei i hi]
      exact ⟨hi, hS, hw, by omega, hci, Int.le_refl _⟩
    · rw [if_neg (by omega)] at hp
      obtain ⟨a1, a2, a3, a4, a5, a6⟩ := h3 v hv p hp
      rw [ej v hv e, ei p a1]
      exact ⟨a1, a2, a3, a4, a5, a6⟩
  · rw [ei v hv]
    refine ⟨fun g1 g2 => ?_, fun g1 => ?_⟩
    · (try dsimp only at g2)
      rw [if_neg (by omega)] at g2
      exact (h4 v hv).1 g1 g2
    · (try dsimp only)
      by_cases e : v = j
      · subst e; rw [if_pos rfl]; simp
      · rw [ej v hv e] at g1
        rw [if_neg (by omega)]; exact (h4 v hv).2 g1
  · rw [ei v hv]
    refine ⟨(h5 v hv).1, fun g => ?_⟩
    by_cases e : v = j
    · subst e
      obtain ⟨i0, b1, b2, b3⟩ := (h5 i hi).1 hci
      exact ⟨i0, b1, b2, hW.sy hN hi hv b1 hw b3⟩
    · rw [ej v hv e] at g
      exact (h5 v hv).2 g
  · rw [ei v hv]
    refine ⟨fun g => ?_, fun g => ?_⟩
    · obtain ⟨m, hm⟩ := (h6 v hv).1 g
      exact hRt m v (Or.inl hv) hm
    · by_cases e : v = j
      · subst e
        exact ⟨mu + 1, i, if_pos rfl, Rt_stay (rc := fun x => co x - pot U V x) hmono huv mu i (Or.inl hi) (Int.le_refl _) hmu⟩
      · rw [ej v hv e] at g
        obtain ⟨m, hm⟩ := (h6 v hv).2 g
        exact hRt m (40 + v) (Or.inr ⟨by omega, by omega⟩) hm
theorem SI.bw (h : SI n w y Mx Sx sp U V co bf) (hQ : QJ n Mx Sx Tot w y sp ms U V) (hW : WOK n K A B ln w) (hN : NetOk n K A B ln) {i j : Nat} (hi : i < n) (hj : j < n) (hy : 0 < y i j) (hcj : co (40 + j) < FAR) (hlt : co (40 + j) - w i j < co i) :
    SI n w y Mx Sx sp U V (updZ co i (co (40 + j) - w i j)) (fun x => if x = i then some (40 + j) else bf x) := by
  have hn := hN.1
  have hmono := h.mono hQ hn
  obtain ⟨h1, h2, h3, h4, h5, h6⟩ := h
  obtain ⟨hS, hM, hw⟩ := (hQ.1 i j hi hj).2.1 hy
  have ei : ∀ v : Nat, v < n → v ≠ i → updZ co i (co (40 + j) - w i j) v = co v := fun v hv hne => updZ_n hne
  have ej : ∀ v : Nat, v < n → updZ co i (co (40 + j) - w i j) (40 + v) = co (40 + v) := fun v hv => updZ_n (by omega)
  have hci := (h1 i hi).1
  have hVU := (hQ.2.1 i j hi hj hS hM hw).2 hy
  have hVj := ((h1 j hj).2.2.2.1 hcj).1
  have hU0 := (hQ.2.2.1 i hi).1
  obtain ⟨mu, hmu⟩ := (h6 j hj).2 hcj
  have huv : co (40 + j) - pot U V (40 + j) < co i - pot U V i := by
    have e1 : pot U V (40 + j) = V j := by unfold pot; rw [if_neg (by omega)]; congr 1; omega
    have e2 : pot U V i = U i := by unfold pot; rw [if_pos (by omega)]
    rw [e1, e2]; omega
  have hRt := fun m x hx hr => Rt_up (rc := fun x => co x - pot U V x) hmono (Or.inr ⟨by omega, by omega⟩) huv hmu m x hx hr
  have hnsp : ¬ 0 < sp i := fun g => by
    have := ((h1 i hi).2.2.2.2 g).1
    omega
  refine ⟨fun v hv => ?_, fun v hv p hp => ?_, fun v hv p hp => ?_, fun v hv => ?_, fun v hv => ?_, fun v hv => ?_⟩
  · obtain ⟨a1, a2, a3, a4, a5⟩ := h1 v hv
    rw [ej v hv]
    by_cases e : v = i
    · subst e
      rw [updZ_s]
      exact ⟨by omega, fun _ => ⟨by omega, hS⟩, a3, a4, fun g => absurd g hnsp⟩
    · rw [ei v hv e]
      exact ⟨a1, a2, a3, a4, fun g => ⟨(a5 g).1, by (try dsimp only); rw [if_neg e]; exact (a5 g).2⟩⟩
  · (try dsimp only at hp)
    by_cases e : v = i
    · subst e
      rw [if_pos rfl] at hp
      obtain rfl : 40 + j = p := Option.some.inj hp
      refine ⟨j, hj, rfl, hy, ?_, ?_, ?_⟩
      · rw [updZ_s]; omega
      · rw [ej j hj]; exact hcj
      · rw [updZ_s, ej j hj]; exact Int.le_refl _
    · rw [if_neg e] at hp
      obtain ⟨j', a1, a2, a3, a4, a5, a6⟩ := h2 v hv p hp
      rw [ei v hv e]
      exact ⟨j', a1, a2, a3, a4, by rw [ej j' a1]; exact a5, by rw [ej j' a1]; exact a6⟩
  · (try dsimp only at hp)
    rw [if_neg (by omega)] at hp
    obtain ⟨a1, a2, a3, a4, a5, a6⟩ := h3 v hv p hp
    rw [ej v hv]
    by_cases e : p = i
    · subst e
      rw [updZ_s]
      exact ⟨a1, a2, a3, a4, by omega, by omega⟩
    · rw [ei p a1 e]
      exact ⟨a1, a2, a3, a4, a5, a6⟩
  · rw [ej v hv]
    refine ⟨fun g1 g2 => ?_, fun g1 => ?_⟩
    · (try dsimp only at g2)
      by_cases e : v = i
      · subst e; rw [if_pos rfl] at g2; exact absurd g2 (by simp)
      · rw [if_neg e] at g2
        rw [ei v hv e] at g1
        exact (h4 v hv).1 g1 g2
    · (try dsimp only)
      rw [if_neg (by omega)]; exact (h4 v hv).2 g1
  · rw [ej v hv]
    refine ⟨fun g => ?_, (h5 v hv).2⟩
    by_cases e : v = i
    · subst e
      obtain ⟨i0, b1, b2, b3⟩ := (h5 j hj).2 hcj
      exact ⟨i0, b1, b2, hW.sy2 hN hv hj b1 hw b3⟩
    · rw [ei v hv e] at g
      exact (h5 v hv).1 g
  · rw [ej v hv]
    refine ⟨fun g => ?_, fun g => ?_⟩
    · by_cases e : v = i
      · subst e
        exact ⟨mu + 1, 40 + j, if_pos rfl, Rt_stay (rc := fun x => co x - pot U V x) hmono huv mu (40 + j) (Or.inr ⟨by omega, by omega⟩) (Int.le_refl _) hmu⟩
      · rw [ei v hv e] at g
        obtain ⟨m, hm⟩ := (h6 v hv).1 g
        exact hRt m v (Or.inl hv) hm
    · obtain ⟨m, hm⟩ := (h6 v hv).2 g
      exact hRt m (40 + v) (Or.inr ⟨by omega, by omega⟩) hm
theorem SI.ini (hQ : QJ n Mx Sx Tot w y sp ms U V) (hW : WOK n K A B ln w) (hn : n ≤ 40) : SI n w y Mx Sx sp U V (fun x => if x < 40 ∧ 0 < sp x then 0 else FAR) (fun _ => none) := by
  have hF : FAR = 1000000000000 := rfl
  have e1 : ∀ v : Nat, v < n → (if 40 + v < 40 ∧ 0 < sp (40 + v) then (0 : Int) else FAR) = FAR := fun v hv => if_neg (by omega)
  refine ⟨fun v hv => ?_, fun v hv p hp => absurd hp (by simp), fun v hv p hp => absurd hp (by simp), fun v hv => ?_, fun v hv => ?_, fun v hv => ?_⟩
  · obtain ⟨a1, a2, a3⟩ := hQ.2.2.1 v hv
    have a4 := hQ.2.2.2.1 v hv
    (try dsimp only)
    rw [e1 v hv]
    by_cases c : 0 < sp v
    · rw [if_pos ⟨by omega, c⟩]
      have := a3 c
      exact ⟨by omega, fun _ => ⟨by omega, by omega⟩, Int.le_refl _, fun g => absurd g (Int.lt_irrefl _), fun _ => ⟨rfl, rfl⟩⟩
    · rw [if_neg (fun g => c g.2)]
      exact ⟨Int.le_refl _, fun g => absurd g (Int.lt_irrefl _), Int.le_refl _, fun g => absurd g (Int.lt_irrefl _), fun g => absurd g c⟩
  · (try dsimp only)
    rw [e1 v hv]
    refine ⟨fun g _ => ?_, fun g => absurd g (Int.lt_irrefl _)⟩
    by_cases c : 0 < sp v
    · exact c
    · rw [if_neg (fun g => c g.2)] at g; exact absurd g (Int.lt_irrefl _)
  · (try dsimp only)
    rw [e1 v hv]
    refine ⟨fun g => ?_, fun g => absurd g (Int.lt_irrefl _)⟩
    by_cases c : 0 < sp v
    · exact ⟨v, hv, c, by rw [hW.1.2 v hv]; omega⟩
    · rw [if_neg (fun g => c g.2)] at g; exact absurd g (Int.lt_irrefl _)
  · (try dsimp only)
    rw [e1 v hv]
    exact ⟨fun _ => ⟨0, rfl⟩, fun g => absurd g (Int.lt_irrefl _)⟩
/-- both arcs between one that gives and one that gets are kept -/
def AR (w y : Nat → Nat → Int) (Mx Sx co : Nat → Int) (i j : Nat) : Prop := 0 < Sx i → 0 < Mx j → (co i < FAR → w i j < FAR → co (40 + j) ≤ co i + w i j) ∧ (0 < y i j → co (40 + j) < FAR → co i ≤ co (40 + j) - w i j)
end LR3
end
