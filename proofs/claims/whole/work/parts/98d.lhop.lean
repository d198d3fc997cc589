section
/-! least: links to the nearest, numbers of the count -/
section LS4
variable {n K : Nat} {A B : Nat → Nat} {ln : Nat → Int} {cf dd sp ms far Mx Sx : Nat → Int} {via : Nat → Option Nat} {t m : Nat} {S T : Nat → Prop}
/-- one of those can be reached over at most so many links -/
def rch (K : Nat) (A B : Nat → Nat) (Q : Nat → Prop) : Nat → Nat → Prop
  | 0, v => Q v
  | m + 1, v => rch K A B Q m v ∨ ∃ k : Nat, k < K ∧ inc A B k v ∧ rch K A B Q m (ot A B k v)
theorem rch_up {Q : Nat → Prop} {i v : Nat} (h : rch K A B Q i v) : ∀ d : Nat, rch K A B Q (i + d) v
  | 0 => h
  | d + 1 => Or.inl (rch_up h d)
theorem rch_add (hN : NetOk n K A B ln) : ∀ j i v : Nat, rch K A B S i v → rch K A B T j v → ∃ t : Nat, T t ∧ rch K A B S (i + j) t
  | 0, i, v, h1, h2 => ⟨v, h2, h1⟩
  | j + 1, i, v, h1, h2 => by
    rcases h2 with h2 | ⟨k, a1, a2, a3⟩
    · obtain ⟨t, b1, b2⟩ := rch_add hN j i v h1 h2
      exact ⟨t, b1, Or.inl b2⟩
    · obtain ⟨o1, o2, -⟩ := hN.ot_inc a1 a2
      obtain ⟨t, b1, b2⟩ := rch_add hN j (i + 1) (ot A B k v) (Or.inr ⟨k, a1, o1, by rw [o2]; exact h1⟩) a3
      exact ⟨t, b1, by rw [show i + (j + 1) = i + 1 + j by omega]; exact b2⟩
noncomputable def hop (K : Nat) (A B : Nat → Nat) (Q : Nat → Prop) (v : Nat) : Nat := lst (fun m => rch K A B Q m v) 40
noncomputable def Bh (K : Nat) (A B : Nat → Nat) (S T : Nat → Prop) : Nat := lst (fun m => ∃ t : Nat, T t ∧ rch K A B S m t) 40
theorem hop_lip (hN : NetOk n K A B ln) {Q : Nat → Prop} {k v : Nat} (hk : k < K) (hv : inc A B k v) : hop K A B Q (ot A B k v) ≤ hop K A B Q v + 1 := by
  obtain ⟨o1, o2, -⟩ := hN.ot_inc hk hv
  have h1 : hop K A B Q (ot A B k v) ≤ 40 := lst_le
  by_cases e : hop K A B Q v < 39
  · have h2 : rch K A B Q (hop K A B Q v) v := lst_p (p := fun m => rch K A B Q m v) (n := 40) (Nat.lt_trans e (by decide))
    exact lst_min (p := fun m => rch K A B Q m (ot A B k v)) (n := 40) (by omega) (Or.inr ⟨k, hk, o1, by rw [o2]; exact h2⟩)
  · omega
theorem bh_le (hN : NetOk n K A B ln) {v : Nat} : Bh K A B S T ≤ hop K A B S v + hop K A B T v := by
  have h1 : Bh K A B S T ≤ 40 := lst_le
  by_cases e : hop K A B S v + hop K A B T v < 40
  · have h2 : rch K A B S (hop K A B S v) v := lst_p (p := fun m => rch K A B S m v) (n := 40) (show hop K A B S v < 40 by omega)
    have h3 : rch K A B T (hop K A B T v) v := lst_p (p := fun m => rch K A B T m v) (n := 40) (show hop K A B T v < 40 by omega)
    exact lst_min (p := fun m => ∃ t : Nat, T t ∧ rch K A B S m t) (n := 40) e (rch_add hN _ _ v h2 h3)
  · omega
theorem Wy.rS (h : Wy n K A B via t m) (hS : S (nd A B via t m)) : ∀ d j : Nat, j + d = m → rch K A B S d (nd A B via t j)
  | 0, j, e => by rw [show j = m by omega]; exact hS
  | d + 1, j, e => by
    obtain ⟨a1, a2⟩ := h.2.2.2.1 j (by omega)
    have h1 := h.rS hS d (j + 1) (by omega)
    rw [h.1.s (by omega)] at h1
    exact Or.inr ⟨_, a1, a2, h1⟩
theorem Wy.rT (h : Wy n K A B via t m) (hN : NetOk n K A B ln) (hT : T t) : ∀ j : Nat, j ≤ m → rch K A B T j (nd A B via t j)
  | 0, _ => hT
  | j + 1, hj => by
    obtain ⟨a1, a2⟩ := h.2.2.2.1 j (by omega)
    obtain ⟨b1, b2⟩ := h.inc2 hN (j := j) (by omega)
    exact Or.inr ⟨_, a1, b1, by rw [b2]; exact h.rT hN hT j (by omega)⟩
theorem MEAS.far_le (hM : MEAS n K A B ln cf dd sp far via) (hN : NetOk n K A B ln) (hS : ∀ v, S v → v < n ∧ 0 < sp v) : ∀ i v : Nat, rch K A B S i v → far v ≠ UN ∧ far v ≤ 6401 * i
  | 0, v, h => by
    obtain ⟨a1, a2⟩ := hS v h
    have := (hM.2.1 v a1 a2).1
    rw [this]
    exact ⟨by unfold UN; decide, by omega⟩
  | i + 1, v, h => by
    rcases h with h | ⟨k, a1, a2, a3⟩
    · have := hM.far_le hN hS i v h
      exact ⟨this.1, by omega⟩
    · obtain ⟨b1, b2⟩ := hM.far_le hN hS i _ a3
      obtain ⟨o1, o2, -⟩ := hN.ot_inc a1 a2
      obtain ⟨c1, c2⟩ := hM.2.2.2.2 k a1 _ o1 b1
      rw [o2] at c1 c2
      have := cst_le hN (cf := cf) (u := ot A B k v) a1
      exact ⟨c1, by omega⟩
/-- cells from which some may go or to which some must come -/
def Qn (n : Nat) (sp ms : Nat → Int) : Nat := sumN (fun v => if 0 < sp v ∨ 0 < ms v then 1 else 0) n
theorem sumN_ind {p q : Nat → Nat} (hp : ∀ v : Nat, p v + q v = 1) : ∀ n : Nat, sumN p n + sumN q n = n
  | 0 => rfl
  | n + 1 => by
    have := sumN_ind hp n
    have := hp n
    show sumN p n + p n + (sumN q n + q n) = n + 1
    omega
theorem Qn_le : Qn n sp ms ≤ n := by
  have := sumN_ind (p := fun v => if 0 < sp v ∨ 0 < ms v then 1 else 0) (q := fun v => if 0 < sp v ∨ 0 < ms v then 0 else 1) (fun v => by (try dsimp only); split <;> rfl) n
  unfold Qn; omega
theorem Wy.len (h : Wy n K A B via t m) (hi : ∀ j : Nat, 0 < j → j < m → ¬ (0 < sp (nd A B via t j) ∨ 0 < ms (nd A B via t j))) : m + Qn n sp ms ≤ n + 1 := by
  have h1 := sumN_ind (p := fun v => if 0 < sp v ∨ 0 < ms v then 1 else 0) (q := fun v => if 0 < sp v ∨ 0 < ms v then 0 else 1) (fun v => by (try dsimp only); split <;> rfl) n
  have h2 := php (w := fun v => if 0 < sp v ∨ 0 < ms v then 0 else 1) n (m - 1) (fun i => nd A B via t (i + 1)) (fun i hi' => ⟨h.2.2.1 _ (by omega), by (try dsimp only); rw [if_neg (hi (i + 1) (by omega) (by omega))]⟩) (fun i j hij hj => h.2.2.2.2 _ _ (by omega) (by omega))
  unfold Qn
  omega
theorem Qn_cg {sp' ms' : Nat → Int} (h : ∀ v : Nat, v < n → ((0 < sp' v ↔ 0 < sp v) ∧ (0 < ms' v ↔ 0 < ms v))) : Qn n sp' ms' = Qn n sp ms := by
  unfold Qn
  refine sumN_eq (fun v hv => ?_)
  obtain ⟨a1, a2⟩ := h v hv
  by_cases e : 0 < sp v ∨ 0 < ms v
  · rw [if_pos e, if_pos (e.elim (fun g => Or.inl (a1.mpr g)) (fun g => Or.inr (a2.mpr g)))]
  · rw [if_neg e, if_neg (fun g => e (g.elim (fun g => Or.inl (a1.mp g)) (fun g => Or.inr (a2.mp g))))]
theorem sumN_ltS {p q : Nat → Nat} : ∀ {n i : Nat}, (∀ v : Nat, v < n → p v ≤ q v) → i < n → p i < q i → sumN p n < sumN q n
  | n + 1, i, h, hi, hl => by
    show sumN p n + p n < sumN q n + q n
    have h1 := h n (by omega)
    by_cases e : i = n
    · subst e
      have : sumN p i ≤ sumN q i := by
        have : ∀ m : Nat, m ≤ i → sumN p m ≤ sumN q m := by
          intro m
          induction m with
          | zero => intro _; exact Nat.le_refl _
          | succ m ih =>
            intro hm
            have h2 := ih (by omega)
            have h3 := h m (by omega)
            show sumN p m + p m ≤ sumN q m + q m
            omega
        exact this i (Nat.le_refl _)
      omega
    · have := sumN_ltS (n := n) (i := i) (fun v hv => h v (by omega)) (by omega) hl
      omega
theorem Qn_lt {sp' ms' : Nat → Int} {i : Nat} (h : ∀ v : Nat, v < n → (0 < sp' v → 0 < sp v) ∧ (0 < ms' v → 0 < ms v)) (hi : i < n) (h1 : 0 < sp i ∨ 0 < ms i) (h2 : ¬ (0 < sp' i ∨ 0 < ms' i)) : Qn n sp' ms' < Qn n sp ms := by
  unfold Qn
  refine sumN_ltS (i := i) (fun v hv => ?_) hi (by (try dsimp only); rw [if_pos h1, if_neg h2]; decide)
  (try dsimp only)
  by_cases e : 0 < sp v ∨ 0 < ms v
  · rw [if_pos e]; split <;> decide
  · rw [if_neg e, if_neg (fun g => e (g.elim (fun g => Or.inl ((h v hv).1 g)) (fun g => Or.inr ((h v hv).2 g))))]
    exact Nat.le_refl _
/-! a link's record: how often it was emptied, where it was last -/
def LRec (H c0 c X Y l cnt p q : Int) : Prop := cnt = 0 ∨ (0 < cnt ∧ 0 ≤ p ∧ 0 ≤ q ∧ X ≤ p % 64 ∧ Y ≤ q % 64 ∧ (p % 64 - X) + (q % 64 - Y) ≤ H ∧ p / 64 + q / 64 ≤ c + l ∧ ∃ z : Int, z ≤ p % 64 - X ∧ z ≤ q % 64 - Y ∧ (z = p % 64 - X ∨ z = q % 64 - Y) ∧ 6 * cnt + (H + 4) * (c0 + l) ≤ (H + 4) * (p / 64 + q / 64) + (p % 64 - X) + (q % 64 - Y) + z + 6)
theorem LRec.up {H c0 c c' X Y l cnt p q : Int} (h : LRec H c0 c X Y l cnt p q) (hc : c ≤ c') : LRec H c0 c' X Y l cnt p q := by
  rcases h with h | ⟨h0, h1, h2, h3, h4, h5, h6, h7⟩
  · exact Or.inl h
  · exact Or.inr ⟨h0, h1, h2, h3, h4, h5, by omega, h7⟩
theorem LRec.kill {H c0 c c' X Y l cnt p q p' q' : Int} (h : LRec H c0 c X Y l cnt p q) (hn : 0 ≤ cnt) (hc : c ≤ c') (h0 : c0 ≤ c) (hp : p + 2 ≤ p') (hq : q + 2 ≤ q') (hp0 : 0 ≤ p') (hq0 : 0 ≤ q') (hX : X ≤ p' % 64) (hY : Y ≤ q' % 64) (hs : (p' % 64 - X) + (q' % 64 - Y) ≤ H) (he : p' / 64 + q' / 64 = c' + l) : LRec H c0 c' X Y l (cnt + 1) p' q' := by
  have hz : ∃ z : Int, z ≤ p' % 64 - X ∧ z ≤ q' % 64 - Y ∧ (z = p' % 64 - X ∨ z = q' % 64 - Y) := by
    rcases Int.le_total (p' % 64 - X) (q' % 64 - Y) with g | g
    · exact ⟨_, Int.le_refl _, g, Or.inl rfl⟩
    · exact ⟨_, g, Int.le_refl _, Or.inr rfl⟩
  obtain ⟨z', z1, z2, z3⟩ := hz
  refine Or.inr ⟨by omega, hp0, hq0, hX, hY, hs, by omega, z', z1, z2, z3, ?_⟩
  rw [he]
  rcases h with h | ⟨g0, g1, g2, g3, g4, g5, g6, z, y1, y2, y3, g7⟩
  · subst h
    have : (H + 4) * (c0 + l) ≤ (H + 4) * (c' + l) := Int.mul_le_mul_of_nonneg_left (by omega) (by omega)
    omega
  · by_cases e2 : p / 64 + q / 64 + 2 ≤ c' + l
    · have hm : (H + 4) * (p / 64 + q / 64 + 2) ≤ (H + 4) * (c' + l) := Int.mul_le_mul_of_nonneg_left e2 (by omega)
      rw [Int.mul_add (H + 4) (p / 64 + q / 64) 2] at hm
      omega
    · by_cases e1 : p / 64 + q / 64 + 1 ≤ c' + l
      · have hm : (H + 4) * (p / 64 + q / 64 + 1) ≤ (H + 4) * (c' + l) := Int.mul_le_mul_of_nonneg_left e1 (by omega)
        rw [Int.mul_add (H + 4) (p / 64 + q / 64) 1] at hm
        omega
      · have e3 : p / 64 + q / 64 = c' + l := by omega
        rw [e3] at g7
        omega
theorem LRec.le {H c0 c X Y l cnt p q : Int} (h : LRec H c0 c X Y l cnt p q) (hH : 0 ≤ H) (h0 : c0 ≤ c) : 1200 * cnt ≤ 200 * ((H + 4) * (c - c0)) + 300 * H + 1200 := by
  have hk : 0 ≤ (H + 4) * (c - c0) := Int.mul_nonneg (by omega) (by omega)
  rcases h with h | ⟨g0, g1, g2, g3, g4, g5, g6, z, y1, y2, y3, g7⟩
  · omega
  · have hm : (H + 4) * (p / 64 + q / 64) ≤ (H + 4) * (c + l) := Int.mul_le_mul_of_nonneg_left g6 (by omega)
    have e : (H + 4) * (c + l) = (H + 4) * (c - c0) + (H + 4) * (c0 + l) := by rw [← Int.mul_add]; congr 1; omega
    omega
/-! the whole count -/
def gg (c : Int) : Int := if c ≤ 3500 then 7000 * c - c * c else 12250000
def wgQ (q : Nat) : Int := if q < 2 then 0 else if q < 10 then 10000 * ((10 - (q : Int)) * (10 - (q : Int))) + 300 * (41 - (q : Int)) + 1200 else 300 * (41 - (q : Int)) + 1200
def WgT (q : Nat) : Int := sumZ wgQ (q + 1)
theorem wgQ_nn : ∀ q : Nat, q ≤ 40 → 0 ≤ wgQ q := by decide
theorem WgT_40 : WgT 40 = 2320800 := by decide
theorem WgT_lt {q q' : Nat} (h : q' < q) (hq : q ≤ 40) : WgT q' + wgQ q ≤ WgT q := by
  have : ∀ d : Nat, q' + d ≤ 40 → WgT q' ≤ WgT (q' + d) := by
    intro d
    induction d with
    | zero => intro _; exact Int.le_refl _
    | succ d ih =>
      intro hd
      have h1 := ih (by omega)
      have h2 := wgQ_nn (q' + d + 1) (by omega)
      have h3 : WgT (q' + (d + 1)) = WgT (q' + d) + wgQ (q' + d + 1) := rfl
      omega
  have h1 := this (q - 1 - q') (by omega)
  have h3 : WgT (q - 1 + 1) = WgT (q - 1) + wgQ (q - 1 + 1) := rfl
  rw [show q' + (q - 1 - q') = q - 1 by omega] at h1
  rw [show q - 1 + 1 = q by omega] at h3
  omega
theorem sqz (x : Int) : 0 ≤ x * x := by
  rcases Int.le_total 0 x with h | h
  · exact Int.mul_nonneg h h
  · exact Int.mul_nonneg_of_nonpos_of_nonpos h h
theorem gg_le (c : Int) : gg c ≤ 12250000 := by
  unfold gg
  split
  · have := sqz (c - 3500)
    rw [Int.sub_mul, Int.mul_sub, Int.mul_sub] at this
    omega
  · exact Int.le_refl _
theorem gg_up {c0 c : Int} (h : c0 ≤ c) : 7000 * (c - c0) - (c * c - c0 * c0) ≤ gg c - gg c0 ∧ gg c0 ≤ gg c := by
  have k1 := sqz (c - 3500)
  rw [Int.sub_mul, Int.mul_sub, Int.mul_sub] at k1
  by_cases a : c ≤ 3500
  · have b : c0 ≤ 3500 := by omega
    have k2 : 0 ≤ (c - c0) * (7000 - c - c0) := Int.mul_nonneg (by omega) (by omega)
    rw [Int.sub_mul, Int.mul_sub, Int.mul_sub, Int.mul_sub, Int.mul_sub, Int.mul_comm c0 c] at k2
    unfold gg
    rw [if_pos a, if_pos b]
    omega
  · by_cases b : c0 ≤ 3500
    · have k2 := gg_le c0
      have e : gg c = 12250000 := if_neg a
      have e2 : gg c0 = 7000 * c0 - c0 * c0 := if_pos b
      omega
    · have k2 : 0 ≤ (c - c0) * (c + c0 - 7000) := Int.mul_nonneg (by omega) (by omega)
      rw [Int.sub_mul, Int.mul_sub, Int.mul_sub, Int.mul_add, Int.mul_add, Int.mul_comm c0 c] at k2
      unfold gg
      rw [if_neg a, if_neg b]
      omega
theorem sq_exp (x a : Int) : (x - 100 * a) * (x - 100 * a) = x * x - 200 * (a * x) + 10000 * (a * a) := by
  have e1 : (x - 100 * a) * (x - 100 * a) = x * x - x * (100 * a) - (100 * a * x - 100 * a * (100 * a)) := by rw [Int.sub_mul, Int.mul_sub, Int.mul_sub]
  have e2 : x * (100 * a) = 100 * (a * x) := by rw [Int.mul_comm, Int.mul_assoc]
  have e3 : 100 * a * x = 100 * (a * x) := Int.mul_assoc _ _ _
  have e4 : 100 * a * (100 * a) = 10000 * (a * a) := by rw [Int.mul_assoc 100 a (100 * a), Int.mul_comm a (100 * a), Int.mul_assoc 100 a a]; omega
  omega
theorem ep_le {H c0 c : Int} {q : Nat} (h0 : c0 ≤ c) (hq : 2 ≤ q) (hH : 100 * (H + 4) ≤ 4500 - 100 * (q : Int) - c) (hH0 : 0 ≤ H) (hc : 0 ≤ c) : 200 * ((H + 4) * (c - c0)) + 300 * H + 1200 ≤ gg c - gg c0 + wgQ q := by
  have h1 := (gg_up h0).1
  have h2 : (c - c0) * (100 * (H + 4)) ≤ (c - c0) * (4500 - 100 * (q : Int) - c) := Int.mul_le_mul_of_nonneg_left hH (by omega)
  rw [Int.mul_comm (c - c0) (100 * (H + 4)), Int.mul_assoc] at h2
  have h3 : (c - c0) * (4500 - 100 * (q : Int) - c) = 4500 * (c - c0) - 100 * ((q : Int) * (c - c0)) - (c - c0) * c := by
    rw [Int.mul_sub, Int.mul_sub, Int.mul_comm (c - c0) 4500, Int.mul_comm (c - c0) (100 * (q : Int)), Int.mul_assoc]
  have h4 : (c - c0) * (c - c0) = (c - c0) * c - (c - c0) * c0 := Int.mul_sub _ _ _
  have h5 : (c - c0) * c = c * c - c0 * c := Int.sub_mul _ _ _
  have h6 : (c - c0) * c0 = c * c0 - c0 * c0 := Int.sub_mul _ _ _
  have h7 : c * c0 = c0 * c := Int.mul_comm _ _
  unfold wgQ
  rw [if_neg (by omega)]
  by_cases e : q < 10
  · rw [if_pos e]
    have h8 := sqz ((c - c0) - 100 * (10 - (q : Int)))
    rw [sq_exp, Int.sub_mul 10 (q : Int) (c - c0)] at h8
    omega
  · rw [if_neg e]
    have h8 : 0 ≤ ((q : Int) - 10) * (c - c0) := Int.mul_nonneg (by omega) (by omega)
    rw [Int.sub_mul] at h8
    have h9 := sqz (c - c0)
    omega
end LS4
end
