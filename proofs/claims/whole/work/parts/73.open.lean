section
/-! which slopes are open: the one answer -/
theorem bitsN_has {c n : Nat → Nat} {k : Nat} : ∀ len : Nat, k < len → c k = 12 → (bitsN c n len).testBit (n k) = true
  | 0, h, _ => absurd h (Nat.not_lt_zero _)
  | len + 1, h, e => by
    show (if c len = 12 then bitsN c n len ||| (1 <<< n len) else bitsN c n len).testBit (n k) = true
    by_cases ek : k = len
    · subst ek
      rw [if_pos e, Nat.testBit_or, Nat.one_shiftLeft, Nat.testBit_two_pow_self, Bool.or_true]
    · have ih := bitsN_has (n := n) len (by omega) e
      split
      · rw [Nat.testBit_or, ih, Bool.true_or]
      · exact ih
theorem bitsN_only {c n : Nat → Nat} {i : Nat} : ∀ len : Nat, (bitsN c n len).testBit i = true → ∃ k : Nat, k < len ∧ c k = 12 ∧ n k = i
  | 0, h => by rw [show bitsN c n 0 = 0 from rfl, Nat.zero_testBit] at h; exact absurd h (by decide)
  | len + 1, h => by
    have h' : (if c len = 12 then bitsN c n len ||| (1 <<< n len) else bitsN c n len).testBit i = true := h
    by_cases e : c len = 12
    · rw [if_pos e, Nat.testBit_or, Nat.one_shiftLeft, Nat.testBit_two_pow] at h'
      by_cases g : (bitsN c n len).testBit i = true
      · obtain ⟨k, a, b⟩ := bitsN_only len g
        exact ⟨k, by omega, b⟩
      · simp [g] at h'
        exact ⟨len, by omega, e, h'⟩
    · rw [if_neg e] at h'
      obtain ⟨k, a, b⟩ := bitsN_only len h'
      exact ⟨k, by omega, b⟩
def nmd (μ : MSt) (s k : Nat) : Prop := (mNm μ s).testBit k = true
theorem nmd_lt {μ : MSt} {j s i : Nat} (hI : MI μ j) (hs : s < μ.1 9) (h : nmd μ s i) : i < μ.1 9 := by
  unfold nmd mNm at h
  by_cases e : μ.2.1 18 s = 1
  · rw [if_pos e] at h
    obtain ⟨k, hk, e12, rfl⟩ := bitsN_only _ h
    exact ((hI.ru.1 s hs e).2.2.2 k hk).2.2.1 e12
  · rw [if_neg e, Nat.zero_testBit] at h; exact absurd h (by decide)
theorem nmd_of {μ : MSt} {s k : Nat} (e : μ.2.1 18 s = 1) (hk : k < μ.2.1 17 s) (e12 : mC μ s k = 12) : nmd μ s (mN μ s k) := by
  unfold nmd mNm
  rw [if_pos e]
  exact bitsN_has _ hk e12
theorem evS_congr {c : Nat → Nat} {t t' : Nat → Bool} : ∀ len : Nat, (∀ k : Nat, k < len → t k = t' k) → evS c t len = evS c t' len
  | 0, _ => rfl
  | len + 1, h => by
    have ih := evS_congr (c := c) len (fun k hk => h k (by omega))
    show (if c len = 14 then plN (evS c t len) else if c len = 15 then plA (evS c t len) else if c len = 16 then plO (evS c t len) else t len :: evS c t len) = _
    rw [ih, h len (by omega)]
    rfl
theorem mHold_congr {μ : MSt} {s : Nat} {op op' : Nat → Bool} (h : ∀ k : Nat, k < μ.2.1 17 s → mC μ s k = 12 → op (mN μ s k) = op' (mN μ s k)) : mHold μ op s = mHold μ op' s := by
  unfold mHold mEv
  rw [evS_congr (t' := fun k => mTst μ op' s (mC μ s k) (mN μ s k))]
  intro k hk
  unfold mTst
  by_cases e : mC μ s k = 12
  · rw [if_pos e, if_pos e, h k hk e]
  · rw [if_neg e, if_neg e]
def opV (μ : MSt) (op : Nat → Bool) (s : Nat) : Bool := if μ.2.1 18 s = 1 then mHold μ op s else true
theorem opV_congr {μ : MSt} {s : Nat} {op op' : Nat → Bool} (h : ∀ i : Nat, nmd μ s i → op i = op' i) : opV μ op s = opV μ op' s := by
  unfold opV
  by_cases e : μ.2.1 18 s = 1
  · rw [if_pos e, if_pos e]
    exact mHold_congr (fun k hk e12 => h _ (nmd_of e hk e12))
  · rw [if_neg e, if_neg e]
def isOp (μ : MSt) (op : Nat → Bool) : Prop := ∀ s : Nat, s < μ.1 9 → op s = opV μ op s
theorem isOp_uniq {μ : MSt} {j : Nat} {op op' : Nat → Bool} (hI : MI μ j) (h : isOp μ op) (h' : isOp μ op') : ∀ s : Nat, s < μ.1 9 → op s = op' s := by
  obtain ⟨r, hr⟩ := hI.ru.2
  have key : ∀ d s : Nat, r s < d → s < μ.1 9 → op s = op' s := by
    intro d
    induction d with
    | zero => intro s hs; omega
    | succ d ih =>
      intro s hs hs9
      rw [h s hs9, h' s hs9]
      exact opV_congr (fun i hi => ih i (by have := hr s i hs9 (nmd_lt hI hs9 hi) hi; omega) (nmd_lt hI hs9 hi))
  exact fun s hs => key (r s + 1) s (by omega) hs
/-- those of J are told, and what they name is in J -/
def POk (μ : MSt) (J O : Nat → Bool) : Prop := ∀ s : Nat, s < μ.1 9 → J s = true → (∀ i : Nat, nmd μ s i → J i = true) ∧ O s = opV μ O s
theorem POk.step {μ : MSt} {J O J' O' : Nat → Bool} {k : Nat} (h : POk μ J O) (hk : k < μ.1 9) (hJk : J k = false) (hn : ∀ i : Nat, nmd μ k i → J i = true) (hJ : ∀ i : Nat, i < μ.1 9 → J' i = (J i || decide (i = k))) (hn9 : ∀ s i : Nat, s < μ.1 9 → nmd μ s i → i < μ.1 9) (hO : ∀ i : Nat, i < μ.1 9 → i ≠ k → O' i = O i) (hOk : O' k = opV μ O k) : POk μ J' O' := by
  have e0 : ∀ s, s < μ.1 9 → (∀ i : Nat, nmd μ s i → J i = true) → opV μ O' s = opV μ O s := fun s hs hh => opV_congr (fun i hi => hO i (hn9 s i hs hi) (fun e => by have := hh i hi; rw [e, hJk] at this; exact absurd this (by decide)))
  intro s hs hJs
  rw [hJ s hs] at hJs
  by_cases e : s = k
  · subst e
    exact ⟨fun i hi => by rw [hJ i (hn9 s i hs hi), hn i hi, Bool.true_or], by rw [hOk, e0 s hs hn]⟩
  · have hJ' : J s = true := by simpa [e] using hJs
    obtain ⟨a1, a2⟩ := h s hs hJ'
    exact ⟨fun i hi => by rw [hJ i (hn9 s i hs hi), a1 i hi, Bool.true_or], by rw [hO s hs e, e0 s hs a1, a2]⟩
theorem POk.all {μ : MSt} {J O : Nat → Bool} (h : POk μ J O) (hJ : ∀ i : Nat, i < μ.1 9 → J i = true) : isOp μ O := fun s hs => (h s hs (hJ s hs)).2
theorem POk.next {μ : MSt} {j : Nat} (hI : MI μ j) {J : Nat → Bool} (h : ∃ s : Nat, s < μ.1 9 ∧ J s = false) : ∃ s : Nat, s < μ.1 9 ∧ J s = false ∧ ∀ i : Nat, nmd μ s i → J i = true := by
  obtain ⟨r, hr⟩ := hI.ru.2
  have key : ∀ d s : Nat, r s < d → s < μ.1 9 → J s = false → ∃ s : Nat, s < μ.1 9 ∧ J s = false ∧ ∀ i : Nat, nmd μ s i → J i = true := by
    intro d
    induction d with
    | zero => intro s hs; omega
    | succ d ih =>
      intro s hs hs9 hJ
      by_cases hall : ∀ i : Nat, nmd μ s i → J i = true
      · exact ⟨s, hs9, hJ, hall⟩
      · obtain ⟨i, hi⟩ := Classical.not_forall.mp hall
        have hn : nmd μ s i := Classical.byContradiction (fun g => hi (fun e => absurd e g))
        have hJi : J i = false := by
          by_cases e : J i = true
          · exact absurd (fun _ => e) hi
          · simpa using e
        exact ih i (by have := hr s i hs9 (nmd_lt hI hs9 hn) hn; omega) (nmd_lt hI hs9 hn) hJi
  obtain ⟨s, hs, hJ⟩ := h
  exact key (r s + 1) s (by omega) hs hJ
def cntJ (J : Nat → Bool) (n : Nat) : Nat := sumN (fun i => if J i then 1 else 0) n
theorem cntJ_le {J : Nat → Bool} : ∀ n : Nat, cntJ J n ≤ n
  | 0 => Nat.le_refl _
  | n + 1 => by
    have := cntJ_le (J := J) n
    show cntJ J n + (if J n then 1 else 0) ≤ n + 1
    split <;> omega
theorem cntJ_full {J : Nat → Bool} : ∀ n : Nat, n ≤ cntJ J n → ∀ i : Nat, i < n → J i = true
  | 0, _, i, h => absurd h (Nat.not_lt_zero _)
  | n + 1, hc, i, hi => by
    have h1 := cntJ_le (J := J) n
    have hc' : n + 1 ≤ cntJ J n + (if J n then 1 else 0) := hc
    by_cases e : J n = true
    · rw [if_pos e] at hc'
      by_cases ei : i = n
      · rw [ei]; exact e
      · exact cntJ_full n (by omega) i (by omega)
    · rw [if_neg e] at hc'; omega
theorem cntJ_set {J J' : Nat → Bool} {k : Nat} (hJ : J k = false) : ∀ n : Nat, k < n → (∀ i : Nat, i < n → J' i = (J i || decide (i = k))) → cntJ J' n = cntJ J n + 1
  | 0, h, _ => absurd h (Nat.not_lt_zero _)
  | n + 1, h, hs => by
    show cntJ J' n + (if J' n then 1 else 0) = cntJ J n + (if J n then 1 else 0) + 1
    by_cases e : k = n
    · subst e
      have : cntJ J' k = cntJ J k := sumN_eq (fun i hi => by rw [hs i (by omega)]; simp [show ¬ i = k by omega])
      rw [this, hs k (by omega), hJ]
      simp
    · have ih := cntJ_set hJ n (by omega) (fun i hi => hs i (by omega))
      rw [ih, hs n (by omega)]
      simp only [show ¬ n = k from fun g => e g.symm, decide_false, Bool.or_false]
      omega
section CO
variable {σ : CSt} {lab : Nat → Nat} {ad : Nat → Nat → Nat} {μ : MSt} {j : Nat}
theorem cO_opens {post : Int32 → CSt → Prop} (h : CRep σ lab ad μ) (hI : MI μ j) (hj : j ≤ 512) (hp : ∀ ob : Int32, isOp μ (bt ob) → post ob σ) : wpC_X7_openSlopes_0 post σ (ad 7 0) := by
  have hc := hI.cs
  refine ⟨h.x7, _, h.x.2.1.2.1, h.ls.2.1.1, sC_size h.ls.2.1 ?_⟩
  have hn9 : ∀ s i : Nat, s < μ.1 9 → nmd μ s i → i < μ.1 9 := fun s i hs hi => nmd_lt hI hs hi
  let V : Int32 → Prop := fun jb => ∀ i : Nat, μ.1 9 ≤ i → i < 32 → bt jb i = false
  have hV : ∀ jb : Int32, V jb → (jb = (1 <<< (nI (μ.1 9) &&& 31)) - 1 ↔ ∀ i : Nat, i < μ.1 9 → bt jb i = true) := by
    intro jb hv
    constructor
    · intro e i hi
      rw [e, b_all _ (by omega) i (by omega)]
      simpa using hi
    · intro hh
      apply b_ext
      intro i hi
      rw [b_all _ (by omega) i hi]
      by_cases g : i < μ.1 9
      · rw [hh i g]; simp [g]
      · rw [hv i (by omega) hi]; simp [g]
  refine gLP.up (μ.1 9) (fun r (x : CSt × Nat × Int32 × Int32 × Int32 × Int32) => r ≤ μ.1 9 ∧ ∃ jb ob : Int32, x = (σ, ad 7 0, (1 <<< (nI (μ.1 9) &&& 31)) - 1, jb, ob, nI r) ∧ POk μ (bt jb) (bt ob) ∧ V jb ∧ (∀ i : Nat, i < 32 → bt jb i = false → bt ob i = false) ∧ r ≤ cntJ (bt jb) (μ.1 9)) (fun k x h => h.1) ?_ (j := 0) ⟨Nat.zero_le _, 0, 0, rfl, fun s _ e => by rw [b_0] at e; exact absurd e (by decide), fun i _ _ => b_0 i, fun i _ _ => b_0 i, Nat.zero_le _⟩
  rintro r x P ⟨hr, jb, ob, rfl, hP1, hv, hw, hcn⟩ hP
  dsimp only
  refine ⟨h.x7, _, h.x.2.1.2.1, h.ls.2.1.1, sC_size h.ls.2.1 ?_⟩
  rw [nI_leI (by omega) (by omega)]
  refine ⟨fun e => hp _ (hP1.all (cntJ_full _ (by omega))), fun e => ⟨fun e2 => hp _ (hP1.all ((hV jb hv).mp e2)), fun e2 => ?_⟩⟩
  have hex : ∃ s : Nat, s < μ.1 9 ∧ bt jb s = false ∧ ∀ i : Nat, nmd μ s i → bt jb i = true := by
    refine POk.next hI ?_
    refine Classical.byContradiction (fun g => e2 ((hV jb hv).mpr (fun i hi => ?_)))
    by_cases g2 : bt jb i = true
    · exact g2
    · exact absurd ⟨i, hi, by simpa using g2⟩ g
  refine gLP.up (μ.1 9) (fun k (x : CSt × Nat × Int32 × Int32 × Int32 × Int32 × Int32) => k ≤ μ.1 9 ∧ ∃ jb ob : Int32, x = (σ, ad 7 0, (1 <<< (nI (μ.1 9) &&& 31)) - 1, jb, ob, nI r, nI k) ∧ POk μ (bt jb) (bt ob) ∧ V jb ∧ (∀ i : Nat, i < 32 → bt jb i = false → bt ob i = false) ∧ (r + 1 ≤ cntJ (bt jb) (μ.1 9) ∨ (r ≤ cntJ (bt jb) (μ.1 9) ∧ ∃ s : Nat, k ≤ s ∧ s < μ.1 9 ∧ bt jb s = false ∧ ∀ i : Nat, nmd μ s i → bt jb i = true))) (fun k x h => h.1) ?_ (j := 0) ⟨Nat.zero_le _, jb, ob, rfl, hP1, hv, hw, Or.inr ⟨hcn, by obtain ⟨s, a, b⟩ := hex; exact ⟨s, Nat.zero_le _, a, b⟩⟩⟩
  clear hP1 hv hw hcn e2 hex jb ob
  rintro k x Q ⟨hk, jb, ob, rfl, hP1, hv, hw, hcn⟩ hQ
  dsimp only
  refine ⟨h.x7, _, h.x.2.1.2.1, h.ls.2.1.1, sC_size h.ls.2.1 ?_⟩
  rw [nI_leI (by omega) (by omega)]
  refine ⟨fun e => hP _ ⟨by omega, jb, ob, by rw [nI_1], hP1, hv, hw, ?_⟩, fun e => ?_⟩
  · rcases hcn with g | ⟨-, s, a, b, -⟩
    · exact g
    · omega
  have hk9 : k < μ.1 9 := by omega
  have hsl := h.sl hk9
  have hb := hI.sl k hk9
  have hskip : (bt jb k = true ∨ ¬ ∀ i : Nat, nmd μ k i → bt jb i = true) → Q (σ, ad 7 0, (1 <<< (nI (μ.1 9) &&& 31)) - 1, jb, ob, nI r, nI k + 1) := by
    intro hor
    refine hQ _ ⟨by omega, jb, ob, by rw [nI_1], hP1, hv, hw, ?_⟩
    rcases hcn with g | ⟨g, s, a, b, c, d⟩
    · exact Or.inl g
    · refine Or.inr ⟨g, s, ?_, b, c, d⟩
      have : s ≠ k := by
        rintro rfl
        rcases hor with g1 | g1
        · rw [c] at g1; exact absurd g1 (by decide)
        · exact g1 d
      omega
  refine ⟨h.x7, _, h.x.2.1.2.1, h.ls.2.1.1, sC_get h.ls.2.1 hk9 ⟨_, rfl, hsl.1.1, ?_⟩⟩
  unfold wpC_X7_hasBit_0
  rw [hb_1 (by omega)]
  refine ⟨fun g => ⟨fun e => absurd rfl e, fun _ => ⟨hsl.1.1, ?_⟩⟩, fun g => ⟨fun _ => hskip (Or.inl g), fun e => absurd e (by decide)⟩⟩
  have hjk : bt jb k = false := by simpa using g
  have hsub : ((nI (mNm μ k)) &&& (jb ^^^ (-1))) = 0 ↔ ∀ i : Nat, nmd μ k i → bt jb i = true := by
    rw [b_sub]
    constructor
    · intro hh i hi
      have := hn9 k i hk9 hi
      exact hh i (by omega) (by rw [bt_nI _ (by omega)]; exact hi)
    · intro hh i hi hb
      rw [bt_nI _ hi] at hb
      exact hh i hb
  rw [hsl.2.2.2.2.2.2.2.2.2, hsub]
  refine ⟨fun hn => ⟨hsl.1.1, ?_⟩, fun hn => hskip (Or.inr hn)⟩
  have hset : ∀ i : Nat, i < 32 → bt (jb ||| (1 <<< (nI k &&& 31))) i = (bt jb i || decide (i = k)) := fun i hi => b_set (by omega) hi
  have hgo : ∀ ob' : Int32, (∀ i : Nat, i < 32 → i ≠ k → bt ob' i = bt ob i) → bt ob' k = opV μ (bt ob) k → Q (σ, ad 7 0, (1 <<< (nI (μ.1 9) &&& 31)) - 1, jb ||| (1 <<< (nI k &&& 31)), ob', nI r, nI k + 1) := by
    intro ob' ho hok
    refine hQ _ ⟨by omega, _, ob', by rw [nI_1], ?_, ?_, ?_, ?_⟩
    · exact hP1.step hk9 hjk hn (fun i hi => hset i (by omega)) hn9 (fun i hi hne => ho i (by omega) hne) hok
    · intro i hi hi2
      rw [hset i hi2, hv i hi hi2]
      simp; omega
    · intro i hi hf
      rw [hset i hi] at hf
      have hne : i ≠ k := by rintro rfl; simp at hf
      rw [ho i hi hne]
      exact hw i hi (by simpa [hne] using hf)
    · left
      have := cntJ_set (J := bt jb) (J' := bt (jb ||| (1 <<< (nI k &&& 31)))) hjk (μ.1 9) hk9 (fun i hi => hset i (by omega))
      rcases hcn with g | g
      · omega
      · omega
  have hbk : bt ob k = false ∨ bt ob k = true := by cases bt ob k <;> simp
  have hTrue : opV μ (bt ob) k = true → Q (σ, ad 7 0, (1 <<< (nI (μ.1 9) &&& 31)) - 1, jb ||| (1 <<< (nI k &&& 31)), ob ||| (1 <<< (nI k &&& 31)), nI r, nI k + 1) := by
    intro ht
    refine hgo _ (fun i hi hne => ?_) ?_
    · rw [b_set (by omega) hi]; simp [hne]
    · rw [b_set (by omega) (by omega), ht]; simp
  rw [hsl.2.2.2.2.2.2.2.2.1]
  refine ⟨fun e0 => ?_, fun e0 => ⟨h.x7, ?_⟩⟩
  · rw [show (0 : Int32) = nI 0 from rfl, nI_eq (by omega) (by omega)] at e0
    exact hTrue (by unfold opV; rw [if_neg (by omega)])
  · have e1 : μ.2.1 18 k = 1 := by
      rw [show (0 : Int32) = nI 0 from rfl, nI_eq (by omega) (by omega)] at e0
      omega
    have eV : opV μ (bt ob) k = mHold μ (bt ob) k := by unfold opV; rw [if_pos e1]
    refine sC_holds h hI hj hk9 e1 (op := bt ob) (fun i _ => rfl) ?_
    cases hm : mHold μ (bt ob) k with
    | true => exact ⟨fun e => absurd e (by decide), fun _ => hTrue (by rw [eV, hm])⟩
    | false =>
      exact ⟨fun _ => hgo ob (fun _ _ _ => rfl) (by rw [eV, hm]; exact hw k (by omega) hjk), fun e => absurd rfl e⟩
end CO
section RO
variable {ρ : RSt} {μ : MSt} {j : Nat}
theorem rO_opens {post : RSt → Prop} (hR : RR ρ μ) (hI : MI μ j) (hj : j ≤ 512) (hp : ∀ ρ' op, smR (fun k => k = 39 ∨ k = 40 ∨ k = 41) ρ ρ' → isOp μ op → (∀ i : Nat, i < μ.1 9 → ρ'.2.1 40 i = bI (op i)) → post ρ') : wpR_opens_0 post ρ := by
  have hc := hI.cs
  have hn9 : ∀ s i : Nat, s < μ.1 9 → nmd μ s i → i < μ.1 9 := fun s i hs hi => nmd_lt hI hs hi
  have hK : ∀ k, (k = 39 ∨ k = 40 ∨ k = 41) → 30 ≤ k := fun k hk => by omega
  unfold wpR_opens_0
  refine gLP.up (μ.1 9) (fun k (x : RSt × Int32) => k ≤ μ.1 9 ∧ smR (fun k => k = 39 ∨ k = 40 ∨ k = 41) ρ x.1 ∧ (∀ i : Nat, i < k → x.1.2.1 39 i = 0) ∧ x.2 = nI k) (fun k x h => h.1) ?_ (j := 0) ⟨Nat.zero_le _, smR.rf, fun i hi => absurd hi (Nat.not_lt_zero _), rfl⟩
  rintro k ⟨s, y⟩ P ⟨hk, hS, h39, e⟩ hP
  dsimp only at hS h39 e
  subst e
  dsimp only
  have hR' := hR.sm hS hK
  have e9 := hR'.s1 (k := 9) (by unfold sc1; omega)
  unfold wpR_opens_2_F
  rw [e9, nI_leI (by omega) (by omega)]
  refine ⟨fun e => ?_, fun e => ⟨vp_in_nI (by omega) (by omega), ?_⟩⟩
  rotate_left
  · rintro s17 rfl
    rw [nI_clamp (by omega)]
    refine hP _ ⟨by omega, hS.tr (smR_A (Or.inl rfl)), fun i hi => ?_, by rw [nI_1]⟩
    by_cases ei : i = k
    · subst ei; exact rA_s
    · exact (rA_n (fun _ => ei)).trans (h39 i (by omega))
  obtain rfl : k = μ.1 9 := by omega
  clear hP P
  refine gLP.up (μ.1 9) (fun r (x : RSt × Int32) => r ≤ μ.1 9 ∧ smR (fun k => k = 39 ∨ k = 40 ∨ k = 41) ρ x.1 ∧ (∃ J O : Nat → Bool, POk μ J O ∧ (∀ i : Nat, i < μ.1 9 → x.1.2.1 39 i = bI (J i)) ∧ (∀ i : Nat, i < μ.1 9 → J i = true → x.1.2.1 40 i = bI (O i)) ∧ (r ≤ cntJ J (μ.1 9) ∨ ∀ i : Nat, i < μ.1 9 → J i = true)) ∧ x.2 = nI r) (fun k x h => h.1) ?_ (j := 0) ⟨Nat.zero_le _, hS, ⟨fun _ => false, fun _ => false, fun s _ e => Bool.noConfusion e, h39, fun i _ e => Bool.noConfusion e, Or.inl (Nat.zero_le _)⟩, rfl⟩
  clear hS h39 hR' e9 s e hk
  rintro r ⟨s, y⟩ P ⟨hr, hS, ⟨J, O, hP1, h39, h40, hcn⟩, e⟩ hP
  dsimp only at hS h39 h40 e
  subst e
  dsimp only
  have hR' := hR.sm hS hK
  have e9 := hR'.s1 (k := 9) (by unfold sc1; omega)
  unfold wpR_opens_25_F
  rw [e9, nI_leI (by omega) (by omega)]
  refine ⟨fun e => ?_, fun e => ?_⟩
  · have hall : ∀ i : Nat, i < μ.1 9 → J i = true := by
      rcases hcn with g | g
      · exact cntJ_full _ (by omega)
      · exact g
    exact hp s O hS (hP1.all hall) (fun i hi => h40 i hi (hall i hi))
  have hr9 : r < μ.1 9 := by omega
  refine gLP.up (μ.1 9) (fun k (x : RSt × Int32 × Int32) => k ≤ μ.1 9 ∧ smR (fun k => k = 39 ∨ k = 40 ∨ k = 41) ρ x.1 ∧ (∃ J O : Nat → Bool, POk μ J O ∧ (∀ i : Nat, i < μ.1 9 → x.1.2.1 39 i = bI (J i)) ∧ (∀ i : Nat, i < μ.1 9 → J i = true → x.1.2.1 40 i = bI (O i)) ∧ (r + 1 ≤ cntJ J (μ.1 9) ∨ (∀ i : Nat, i < μ.1 9 → J i = true) ∨ (r ≤ cntJ J (μ.1 9) ∧ ∃ s : Nat, k ≤ s ∧ s < μ.1 9 ∧ J s = false ∧ ∀ i : Nat, nmd μ s i → J i = true))) ∧ x.2 = (nI r, nI k)) (fun k x h => h.1) ?_ (j := 0) ⟨Nat.zero_le _, hS, ⟨J, O, hP1, h39, h40, ?_⟩, rfl⟩
  rotate_left
  · by_cases hall : ∀ i : Nat, i < μ.1 9 → J i = true
    · exact Or.inr (Or.inl hall)
    · rcases hcn with g | g
      · have hex : ∃ s : Nat, s < μ.1 9 ∧ J s = false := by
          refine Classical.byContradiction (fun g2 => hall (fun i hi => ?_))
          by_cases g3 : J i = true
          · exact g3
          · exact absurd ⟨i, hi, by simpa using g3⟩ g2
        obtain ⟨s, a, b⟩ := POk.next hI hex
        exact Or.inr (Or.inr ⟨g, s, Nat.zero_le _, a, b⟩)
      · exact absurd g hall
  clear hS h39 h40 hP1 hcn hR' e9 s J O e
  rintro k ⟨s, y⟩ Q ⟨hk, hS, ⟨J, O, hP1, h39, h40, hcn⟩, e⟩ hQ
  dsimp only at hS h39 h40 e
  subst e
  dsimp only
  have hR' := hR.sm hS hK
  have e9 := hR'.s1 (k := 9) (by unfold sc1; omega)
  unfold wpR_opens_35_F
  rw [e9, nI_leI (by omega) (by omega)]
  refine ⟨fun e => hP _ ⟨by omega, hS, ⟨J, O, hP1, h39, h40, ?_⟩, by rw [nI_1]⟩, fun e => ?_⟩
  · rcases hcn with g | g | ⟨-, s, a, b, -⟩
    · exact Or.inl g
    · exact Or.inr g
    · omega
  have hk9 : k < μ.1 9 := by omega
  have hb := hI.sl k hk9
  have e18 := hR'.s2 (k := 18) (i := k) (by unfold sc2; omega)
  have hskip : (J k = true ∨ ¬ ∀ i : Nat, nmd μ k i → J i = true) → Q (s, nI r, nI k + 1) := by
    intro hor
    refine hQ _ ⟨by omega, hS, ⟨J, O, hP1, h39, h40, ?_⟩, by rw [nI_1]⟩
    rcases hcn with g | g | ⟨g, s, a, b, c, d⟩
    · exact Or.inl g
    · exact Or.inr (Or.inl g)
    · refine Or.inr (Or.inr ⟨g, s, ?_, b, c, d⟩)
      have : s ≠ k := by
        rintro rfl
        rcases hor with g1 | g1
        · rw [c] at g1; exact absurd g1 (by decide)
        · exact g1 d
      omega
  rw [nI_clamp (by omega), h39 k hk9, bI_0, e18]
  refine ⟨vp_in_nI (by omega) (by omega), fun g => hskip (Or.inl (by simpa using g)), fun hjk => ⟨vp_in_nI (by omega) (by omega), ?_⟩⟩
  have hset : (∀ i : Nat, nmd μ k i → J i = true) → ∀ (s' : RSt) (w : Bool), smR (fun k => k = 41) s s' → w = opV μ O k → wpR_opens_103 post (fun s v1 => P (s, v1)) (fun s v1 v2 => Q (s, v1, v2)) s' (nI r) (nI k) (nI k) (bI w) := by
    intro hn s' w hs' hw
    have hS' := hS.tr (hs'.mono (fun k hk => Or.inr (Or.inr hk)))
    refine ⟨vp_in_nI (by omega) (by omega), ?_⟩
    rw [nI_clamp (by omega), (bI_n w).1]
    rintro s1 rfl
    refine ⟨vp_in_nI (by omega) (by omega), ?_⟩
    rintro s2 rfl
    have hJ' : cntJ (fun i => J i || decide (i = k)) (μ.1 9) = cntJ J (μ.1 9) + 1 := cntJ_set hjk _ hk9 (fun _ _ => rfl)
    refine hQ _ ⟨by omega, (hS'.tr (smR_A (Or.inr (Or.inl rfl)))).tr (smR_A (Or.inl rfl)), ⟨fun i => J i || decide (i = k), fun i => if i = k then w else O i, ?_, fun i hi => ?_, fun i hi hji => ?_, Or.inl ?_⟩, by rw [nI_1]⟩
    · refine hP1.step hk9 hjk hn (fun i _ => rfl) hn9 (fun i _ hne => if_neg hne) ?_
      show (if k = k then w else O k) = _
      rw [if_pos rfl, hw]
    · by_cases ei : i = k
      · subst ei
        refine rA_s.trans ?_
        simp [bI]
        rfl
      · refine (rA_n (fun _ => ei)).trans ((rA_n (fun e => absurd e (by decide))).trans ?_)
        rw [hs'.2.1 39 (by omega), h39 i hi]
        simp [ei]
    · refine (rA_n (fun e => absurd e (by decide))).trans ?_
      by_cases ei : i = k
      · subst ei
        refine rA_s.trans ?_
        show bI w = bI (if i = i then w else O i)
        rw [if_pos rfl]
      · refine (rA_n (fun _ => ei)).trans ?_
        show _ = bI (if i = k then w else O i)
        rw [if_neg ei, hs'.2.1 40 (by omega)]
        exact h40 i hi (by simpa [ei] using hji)
    · rcases hcn with g | g | g
      · omega
      · have := g k hk9; rw [hjk] at this; exact absurd this (by decide)
      · omega
  have h76 : (∀ i : Nat, nmd μ k i → J i = true) → wpR_opens_76 post (fun s v1 => P (s, v1)) (fun s v1 v2 => Q (s, v1, v2)) s (nI r) (nI k) := by
    intro hn
    unfold wpR_opens_76
    rw [nI_clamp (by omega), e18]
    refine ⟨vp_in_nI (by omega) (by omega), fun g => hset hn s true smR.rf ?_, fun g => ?_⟩
    · rw [show (0 : Int32) = nI 0 from rfl, nI_eq (by omega) (by omega)] at g
      unfold opV; rw [if_neg (by omega)]
    · rw [show (0 : Int32) = nI 0 from rfl, nI_eq (by omega) (by omega)] at g
      have e1 : μ.2.1 18 k = 1 := by omega
      refine sR_holds hR' hI hj hk9 e1 (op := O) (fun q hq e12 => ?_) (fun s' hs' => ⟨fun g => ?_, fun g => ?_⟩)
      · have := nmd_of e1 hq e12
        exact h40 _ (hn9 k _ hk9 this) (hn _ this)
      · have := hset hn s' (mHold μ O k) hs' (by unfold opV; rw [if_pos e1])
        rw [g] at this
        exact this
      · have := hset hn s' (mHold μ O k) hs' (by unfold opV; rw [if_pos e1])
        rw [bI_0] at g
        rw [show mHold μ O k = true by simpa using g] at this
        exact this
  refine ⟨fun g => h76 (fun i hi => ?_), fun g => ?_⟩
  · rw [show (0 : Int32) = nI 0 from rfl, nI_eq (by omega) (by omega)] at g
    unfold nmd mNm at hi
    rw [if_neg (by omega), Nat.zero_testBit] at hi
    exact absurd hi (by decide)
  · rw [show (0 : Int32) = nI 0 from rfl, nI_eq (by omega) (by omega)] at g
    have e1 : μ.2.1 18 k = 1 := by omega
    have hwf : wfN (mC μ k) (mN μ k) (μ.2.1 17 k) (μ.1 9) (μ.1 7) := hI.ru.1 k hk9 e1
    refine sR_names (c := mC μ k) (n := mN μ k) (len := μ.2.1 17 k) (by omega) hwf.1 (hR'.s2 (k := 17) (by unfold sc2; omega)) (fun q hq => ?_) ?_
    · have h4 := hwf.2.2.2 q hq
      have h1 := hwf.1
      exact ⟨hR'.s2 (k := 15) (by unfold sc2; omega), hR'.s2 (k := 16) (by unfold sc2; omega), by omega, fun e12 => by have := h4.2.2.1 e12; omega⟩
    · have eN : mNm μ k = bitsN (mC μ k) (mN μ k) (μ.2.1 17 k) := by unfold mNm; rw [if_pos e1]; rfl
      rw [← eN]
      refine sR_known hR' hI h39 (fun hn => ⟨fun _ => h76 (fun i hi => hn i (hn9 k i hk9 hi) hi), fun e => absurd e (by decide)⟩) (fun hn => ⟨fun e => absurd rfl e, fun _ => hskip (Or.inr (fun hh => hn (fun i _ hb => hh i hb)))⟩)
end RO
end
