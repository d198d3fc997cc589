section
/-! calls that make something new: lift, group, link -/
theorem adu_s {ad : Nat → Nat → Nat} {k l q : Nat} : cu2 ad k l q k l = q := by rw [cu2_ap, if_pos rfl, if_pos rfl]
theorem adu_n {ad : Nat → Nat → Nat} {k l q k' l' : Nat} (h : k' = k → l' ≠ l) : cu2 ad k l q k' l' = ad k' l' := by
  rw [cu2_ap]
  split
  · rw [if_neg (h (by assumption))]
  · rfl
def plc (v : Int32) : Prop := ¬ v < 0 ∧ v < 10
def nmb (v lo hi : Int32) : Prop := ¬ v < lo ∧ v ≤ hi
theorem plc_of {v : Int32} (h : plc v) : ∃ i : Nat, i < 10 ∧ v = nI i := by
  obtain ⟨i, hi, rfl⟩ := nI_of h.1
  have h2 := h.2
  rw [show (10 : Int32) = nI 10 from rfl, nI_ltI hi (by omega)] at h2
  exact ⟨i, h2, rfl⟩
theorem nmb_of {v lo hi : Int32} {a b : Nat} (ha : lo = nI a) (hb : hi = nI b) (ha2 : a < 2 ^ 31) (hb2 : b < 2 ^ 31) (h : nmb v lo hi) : ∃ i : Nat, a ≤ i ∧ i ≤ b ∧ v = nI i := by
  subst ha; subst hb
  have h0 : ¬ v < 0 := by
    intro e
    apply h.1
    rw [Int32.lt_iff_toInt_lt] at e ⊢
    rw [nI_toInt ha2]
    have : (0 : Int32).toInt = 0 := rfl
    omega
  obtain ⟨i, hi, rfl⟩ := nI_of h0
  have h1 := h.1
  have h2 := h.2
  rw [nI_ltI hi ha2] at h1
  rw [nI_leI hi hb2] at h2
  exact ⟨i, by omega, h2, rfl⟩
section CN
variable {σ : CSt} {lab : Nat → Nat} {ad : Nat → Nat → Nat} {μ : MSt} {j : Nat} {v : Int32}
theorem sC_placeP {post : CSt → Prop} {pX : String → CSt → Prop} (h1 : plc v → post σ) (h0 : ¬ plc v → pX "java/lang/IndexOutOfBoundsException" σ) : wpC_X7_checkPlace_0 post pX σ v :=
  ⟨fun e => h0 (fun g => g.1 e), fun e => ⟨fun e2 => h1 ⟨e, e2⟩, fun e2 => h0 (fun g => e2 g.2)⟩⟩
theorem sC_numP {post : CSt → Prop} {pX : String → CSt → Prop} {lo hi : Int32} (h1 : nmb v lo hi → post σ) (h0 : ¬ nmb v lo hi → pX "java/lang/IllegalArgumentException" σ) : wpC_X7_checkNumber_0 post pX σ v lo hi :=
  ⟨fun e => h0 (fun g => g.1 e), fun e => ⟨fun e2 => h1 ⟨e, e2⟩, fun e2 => h0 (fun g => e2 g.2)⟩⟩
theorem sC_room {post : CSt → Prop} {pX : String → CSt → Prop} {a b : Nat} {w : Int32} (hw : w = nI b) (ha : a < 2 ^ 31) (hb : b < 2 ^ 31) (h1 : a < b → post σ) (h0 : ¬ a < b → pX "java/lang/UnsupportedOperationException" σ) : wpC_X7_checkRoom_0 post pX σ (nI a) w := by
  subst hw
  refine ⟨fun e => h1 ?_, fun e => h0 ?_⟩
  · rwa [nI_ltI ha hb] at e
  · rwa [nI_ltI ha hb] at e
theorem new_L {a m : Nat} {f : Nat → Nat} (h1 : cAt σ 0 a) (h2 : lab a = m) (h3 : cI σ 2 a = 0) (h4 : cR σ 1 a = some (cZ σ).1) : isL σ lab a m 0 f := ⟨h1, h2, h3, by decide, _, h4, Or.inl ⟨rfl, rfl⟩⟩
theorem addX_iff {m k l : Nat} : addX m k l ↔ (k = 0 ∨ k = 10) ∧ l = m := Iff.rfl
def mLift (μ : MSt) (fr to st mi wi : Nat) : MSt := m1 (m2 (m2 (m2 (m2 (m2 μ 3 (5 * μ.1 7) fr) 3 (5 * μ.1 7 + 1) to) 3 (5 * μ.1 7 + 2) st) 3 (5 * μ.1 7 + 3) mi) 3 (5 * μ.1 7 + 4) wi) 7 (μ.1 7 + 1)
theorem mLift_2 {fr to st mi wi k i : Nat} (h : k ≠ 3 ∨ i < 5 * μ.1 7) : (mLift μ fr to st mi wi).2.1 k i = μ.2.1 k i := by
  unfold mLift
  show (m2 _ _ _ _).2.1 k i = _
  rw [m2_n (by omega), m2_n (by omega), m2_n (by omega), m2_n (by omega), m2_n (by omega)]
theorem mLift_1 {fr to st mi wi k : Nat} (h : k ≠ 7) : (mLift μ fr to st mi wi).1 k = μ.1 k := m1_n h
/-- the new lift stands, its row is empty, and it is the list's last -/
theorem lift_rep {σ0 σ1 : CSt} {lab1 lab2 : Nat → Nat} {q q1 fr to st mi wi : Nat} (h : CRep σ lab ad μ) (hI : MI μ j) (h8 : μ.1 7 < 8)
    (hk : keepS (fun k l => (k = 3 ∧ l = μ.1 7) ∨ (k = 0 ∧ l = 10 + μ.1 7)) σ lab σ0 lab1)
    (hq : cAt σ0 3 q ∧ lab1 q = μ.1 7) (hq1 : isL σ0 lab1 q1 (10 + μ.1 7) 0 (fun k => cu2 (cu2 ad 3 (μ.1 7) q) 0 (10 + μ.1 7) q1 2 (μ.2.1 5 (60 * μ.1 7 + k))))
    (hf : cR σ0 54 q = some q1 ∧ cI σ0 48 q = nI (μ.1 7) ∧ cI σ0 49 q = nI fr ∧ cI σ0 50 q = nI to ∧ cI σ0 51 q = nI st ∧ cI σ0 52 q = nI mi ∧ cI σ0 53 q = nI wi ∧ cI σ0 55 q = 0 ∧ cI σ0 56 q = 0)
    (hk2 : keepS (addX 0) σ0 lab1 σ1 lab2) (hl : isL σ1 lab2 (ad 0 0) 0 (μ.1 7 + 1) (va_up (ad 3) (μ.1 7) q)) :
    CRep σ1 lab2 (cu2 (cu2 ad 3 (μ.1 7) q) 0 (10 + μ.1 7) q1) (mLift μ fr to st mi wi) := by
  have hc := hI.cs
  have hz := hI.ze
  have hkk : keepS (fun k l => (k = 3 ∧ l = μ.1 7) ∨ (k = 0 ∧ (l = 10 + μ.1 7 ∨ l = 0)) ∨ (k = 10 ∧ l = 0)) σ lab σ1 lab2 :=
    (hk.mono (fun k l hx => by omega)).tr (hk2.mono (fun k l hx => by unfold addX at hx; omega))
  have ea : ∀ k l : Nat, (k = 3 → l ≠ μ.1 7) → (k = 0 → l ≠ 10 + μ.1 7) → cu2 (cu2 ad 3 (μ.1 7) q) 0 (10 + μ.1 7) q1 k l = ad k l := fun k l a b => by rw [adu_n b, adu_n a]
  have e3 : cu2 (cu2 ad 3 (μ.1 7) q) 0 (10 + μ.1 7) q1 3 (μ.1 7) = q := by rw [adu_n (by omega), adu_s]
  have e0 : cu2 (cu2 ad 3 (μ.1 7) q) 0 (10 + μ.1 7) q1 0 (10 + μ.1 7) = q1 := adu_s
  have e7 : (mLift μ fr to st mi wi).1 7 = μ.1 7 + 1 := m1_s
  refine ⟨?_, ?_, fun i hi => ?_, fun i hi => ?_, fun i hi => ?_, fun i hi => ?_, fun i hi => ?_, fun i hi => ?_, fun i hi => ?_, fun i hi => ?_, fun i hi => ?_, ?_, ?_⟩
  · exact kX h hkk (by omega) (ea _ _ (by omega) (by omega)) (fun i hi => ea _ _ (by omega) (by omega)) (ea _ _ (by omega) (by omega)) (ea _ _ (by omega) (by omega)) (fun k hk => mLift_1 (by omega)) rfl
  · unfold cLs lsO
    rw [e7, mLift_1 (by decide), mLift_1 (by decide), mLift_1 (by decide), mLift_1 (by decide), ea 0 0 (by omega) (by omega), ea 0 1 (by omega) (by omega), ea 0 2 (by omega) (by omega), ea 0 3 (by omega) (by omega), ea 0 4 (by omega) (by omega)]
    refine ⟨hl.re (fun i hi => ?_), h.ls.2.1.kp hkk (by omega) (by omega) (fun i hi => ea _ _ (by omega) (by omega)), h.ls.2.2.1.kp hkk (by omega) (by omega) (fun i hi => ea _ _ (by omega) (by omega)), h.ls.2.2.2.1.kp hkk (by omega) (by omega) (fun i hi => ea _ _ (by omega) (by omega)), h.ls.2.2.2.2.kp hkk (by omega) (by omega) (fun i hi => ea _ _ (by omega) (by omega))⟩
    rw [up_ap]
    by_cases e : i = μ.1 7
    · rw [if_pos e, e, e3]
    · rw [if_neg e, ea _ _ (by omega) (by omega)]
  · rw [e7] at hi
    by_cases e : i = μ.1 7
    · subst e
      have hs := hk2.same hq.1 hq.2 (by unfold addX; omega)
      unfold cLi liO obj
      rw [e3, e0]
      have f6 : (mLift μ fr to st mi wi).2.1 6 (μ.1 7) = 0 := by rw [mLift_2 (by omega)]; exact (hz.1 _ (Nat.le_refl _)).2
      have f4 : (mLift μ fr to st mi wi).2.1 4 (μ.1 7) = 0 := by rw [mLift_2 (by omega)]; exact (hz.1 _ (Nat.le_refl _)).1
      have fw : mWait (mLift μ fr to st mi wi) (μ.1 7) = 0 := by unfold mWait; rw [f6]; rfl
      have g0 : (mLift μ fr to st mi wi).2.1 3 (5 * μ.1 7) = fr := by unfold mLift; show (m2 _ _ _ _).2.1 3 _ = _; rw [m2_n (by omega), m2_n (by omega), m2_n (by omega), m2_n (by omega), m2_s]
      have g1 : (mLift μ fr to st mi wi).2.1 3 (5 * μ.1 7 + 1) = to := by unfold mLift; show (m2 _ _ _ _).2.1 3 _ = _; rw [m2_n (by omega), m2_n (by omega), m2_n (by omega), m2_s]
      have g2 : (mLift μ fr to st mi wi).2.1 3 (5 * μ.1 7 + 2) = st := by unfold mLift; show (m2 _ _ _ _).2.1 3 _ = _; rw [m2_n (by omega), m2_n (by omega), m2_s]
      have g3 : (mLift μ fr to st mi wi).2.1 3 (5 * μ.1 7 + 3) = mi := by unfold mLift; show (m2 _ _ _ _).2.1 3 _ = _; rw [m2_n (by omega), m2_s]
      have g4 : (mLift μ fr to st mi wi).2.1 3 (5 * μ.1 7 + 4) = wi := by unfold mLift; show (m2 _ _ _ _).2.1 3 _ = _; rw [m2_s]
      rw [g0, g1, g2, g3, g4, f4, fw, hs.2.1 54 (by decide), hs.1 48 (by unfold scrI; omega), hs.1 49 (by unfold scrI; omega), hs.1 50 (by unfold scrI; omega), hs.1 51 (by unfold scrI; omega), hs.1 52 (by unfold scrI; omega), hs.1 53 (by unfold scrI; omega), hs.1 55 (by unfold scrI; omega), hs.1 56 (by unfold scrI; omega)]
      exact ⟨⟨hk2.at hq.1, (hk2.lb hq.1).trans hq.2⟩, hf⟩
    · exact kLi h hkk (by omega) (by omega) (ea _ _ (by omega) (by omega)) (ea _ _ (by omega) (by omega)) (fun k hk => mLift_2 (by omega)) (mLift_2 (by omega)) (mWait_eq (mLift_2 (by omega)) (fun _ _ => mLift_2 (by omega)) (fun _ _ => mLift_2 (by omega)))
  · rw [e7] at hi
    by_cases e : i = μ.1 7
    · subst e
      unfold cRo
      rw [e0, show (mLift μ fr to st mi wi).2.1 6 (μ.1 7) = 0 by rw [mLift_2 (by omega)]; exact (hz.1 _ (Nat.le_refl _)).2]
      exact hq1.kp hk2 (by unfold addX; omega) (by unfold addX; omega) (fun i hi => absurd hi (Nat.not_lt_zero _))
    · exact kRo h hkk (by omega) (by omega) (ea _ _ (by omega) (by omega)) (mLift_2 (by omega)) (fun _ _ => mLift_2 (by omega)) (fun _ _ => ea _ _ (by omega) (by omega))
  · rw [mLift_1 (by decide)] at hi
    exact kSl h hkk hi (by omega) (ea _ _ (by omega) (by omega)) (ea _ _ (by omega) (by omega)) (ea _ _ (by omega) (by omega)) (fun _ _ => mLift_2 (by omega)) (mLift_2 (by omega)) (mNm_eq (mLift_2 (by omega)) (fun _ => mLift_2 (by omega)) (fun _ _ _ => ⟨mLift_2 (by omega), mLift_2 (by omega)⟩))
  · rw [mLift_1 (by decide)] at hi
    exact kSc h hkk hi (by omega) (ea _ _ (by omega) (by omega)) (fun _ _ => mLift_2 (by omega)) (fun _ _ => ea _ _ (by omega) (by omega))
  · rw [mLift_1 (by decide)] at hi
    exact kCo h hkk hi (by omega) (ea _ _ (by omega) (by omega)) (mLift_2 (by omega)) (fun _ => mLift_2 (by omega)) (fun _ _ _ => ⟨mLift_2 (by omega), mLift_2 (by omega)⟩)
  · rw [mLift_1 (by decide)] at hi
    exact kCe h hkk hi (by omega) (ea _ _ (by omega) (by omega)) (ea _ _ (by omega) (by omega)) (mLift_2 (by omega)) (mLift_2 (by omega)) rfl
  · rw [mLift_1 (by decide)] at hi
    exact kSn h hkk hi (by omega) (ea _ _ (by omega) (by omega)) (fun _ _ => mLift_2 (by omega))
  · rw [mLift_1 (by decide)] at hi
    have hg := hI.gr i hi
    exact kGr h hkk hi (by omega) (ea _ _ (by omega) (by omega)) (fun _ _ => mLift_2 (by omega)) (mEp_eq (fun _ _ => mLift_2 (by omega)) (fun e => mLift_2 (by omega)) (mLift_2 (by omega)))
  · rw [mLift_1 (by decide)] at hi
    exact kLk h hkk hi (by omega) (ea _ _ (by omega) (by omega)) (ea _ _ (by omega) (by omega)) (ea _ _ (by omega) (by omega)) (mLift_2 (by omega)) (mLift_2 (by omega)) (mLift_2 (by omega))
  · exact h.re.kp hkk (by omega) (ea _ _ (by omega) (by omega)) (ea _ _ (by omega) (by omega))
  · exact kTp h hkk (by omega) (ea _ _ (by omega) (by omega)) (fun _ _ => rfl)
theorem elm_L (h : CRep σ lab ad μ) : (∀ i : Nat, i < μ.1 7 → cElm σ (ad 3 i)) ∧ (∀ i : Nat, i < μ.1 9 → cElm σ (ad 6 i)) ∧ (∀ i : Nat, i < μ.1 14 → cElm σ (ad 1 i)) ∧ (∀ i : Nat, i < μ.1 22 → cElm σ (ad 2 i)) ∧ (∀ i : Nat, i < μ.1 26 → cElm σ (ad 4 i)) :=
  ⟨fun i hi => elm_of (h.li hi).1.1 (by omega), fun i hi => elm_of (h.sl hi).1.1 (by omega), fun i hi => elm_of (h.ce hi).1.1 (by omega), fun i hi => elm_of (h.gr hi).1.1 (by omega), fun i hi => elm_of (h.lk hi).1.1 (by omega)⟩
theorem cO_lift {post : Int32 → CSt → Prop} {pX : String → CSt → Prop} {mc ms : Nat} {v1 v2 v3 v4 v5 : Int32} (h : CRep σ lab ad μ) (hI : MI μ j) (hm : 100 ≤ mc ∧ 400 ≤ ms)
    (h1 : plc v1 → plc v2 → nmb v3 1 20 → nmb v4 1 30 → nmb v5 0 200 → μ.1 7 < 8 → ∀ fr to st mi wi : Nat, (fr < 10 ∧ to < 10 ∧ (1 ≤ st ∧ st ≤ 20) ∧ (1 ≤ mi ∧ mi ≤ 30) ∧ wi ≤ 200) → v1 = nI fr → v2 = nI to → v3 = nI st → v4 = nI mi → v5 = nI wi → ∀ σ' lab' ad', ad' 7 0 = ad 7 0 → CRep σ' lab' ad' (mLift μ fr to st mi wi) → post (nI (μ.1 7)) σ')
    (hi : ¬ (plc v1 ∧ plc v2) → pX "java/lang/IndexOutOfBoundsException" σ)
    (ha : plc v1 → plc v2 → ¬ (nmb v3 1 20 ∧ nmb v4 1 30 ∧ nmb v5 0 200) → pX "java/lang/IllegalArgumentException" σ)
    (hu : plc v1 → plc v2 → nmb v3 1 20 → nmb v4 1 30 → nmb v5 0 200 → ¬ μ.1 7 < 8 → pX "java/lang/UnsupportedOperationException" σ) : wpC_X7_lift_0 mc ms post pX σ (ad 7 0) v1 v2 v3 v4 v5 := by
  have hc := hI.cs
  refine ⟨by omega, by omega, sC_placeP (fun p1 => ⟨by omega, by omega, sC_placeP (fun p2 => ⟨by omega, by omega, sC_numP (fun p3 => ⟨by omega, by omega, sC_numP (fun p4 => ⟨by omega, by omega, sC_numP (fun p5 => ⟨h.x7, _, h.x.2.1.1, h.ls.1.1, sC_size h.ls.1 ⟨by omega, by omega, sC_room (b := 8) rfl (by omega) (by omega) (fun h8 => ⟨h.x7, _, h.x.2.1.1, h.ls.1.1, sC_size h.ls.1 ⟨h.x7, _, h.x.2.1.1, by omega, by omega, ?_⟩⟩) (hu p1 p2 p3 p4 p5)⟩⟩) (fun g => ha p1 p2 (fun e => g e.2.2))⟩) (fun g => ha p1 p2 (fun e => g e.2.1))⟩) (fun g => ha p1 p2 (fun e => g e.1))⟩) (fun g => hi (fun e => g e.2))⟩) (fun g => hi (fun e => g e.1))⟩
  obtain ⟨fr, w1, e1⟩ := plc_of p1
  obtain ⟨to, w2, e2⟩ := plc_of p2
  obtain ⟨st, w3, w3', e3⟩ := nmb_of (a := 1) (b := 20) rfl rfl (by omega) (by omega) p3
  obtain ⟨mi, w4, w4', e4⟩ := nmb_of (a := 1) (b := 30) rfl rfl (by omega) (by omega) p4
  obtain ⟨wi, w5, w5', e5⟩ := nmb_of (a := 0) (b := 200) rfl rfl (by omega) (by omega) p5
  have h1 := h1 p1 p2 p3 p4 p5 h8 fr to st mi wi ⟨w1, w2, ⟨w3, w3'⟩, ⟨w4, w4'⟩, w5'⟩ e1 e2 e3 e4 e5
  intro q hq
  rintro s21 rfl
  refine ⟨by omega, by omega, ?_⟩
  intro q1 hq1
  rintro s2 rfl
  have hne : ¬ q = q1 := fun e => hq1 (e ▸ List.mem_append_right _ List.mem_cons_self)
  have hne2 : ¬ q1 = q := fun e => hne e.symm
  have a1 : cAt (csO (csO σ q 3) q1 0) 0 q1 := at_csOq
  have a3 : cAt (csO (csO σ q 3) q1 0) 3 q := at_csO hq1 at_csOq
  refine ⟨a1, ?_⟩
  rintro s2 rfl
  refine ⟨a1, ?_⟩
  rintro s3 rfl
  refine ⟨a3, ?_⟩
  rintro s4 rfl
  refine ⟨a3, ?_⟩
  rintro s5 rfl
  refine ⟨a3, ?_⟩
  rintro s6 rfl
  refine ⟨a3, ?_⟩
  rintro s7 rfl
  refine ⟨a3, ?_⟩
  rintro s8 rfl
  refine ⟨a3, ?_⟩
  rintro s9 rfl
  refine ⟨a3, ?_⟩
  rintro s10 rfl
  generalize hσ0 : csI (csI (csI (csI (csI (csI (csR (csR (csI (csO (csO σ q 3) q1 0) 0 q1 0) 1 q1 (some (cZ (csI (csO (csO σ q 3) q1 0) 0 q1 0)).1)) 54 q (some q1)) 48 q (nI (μ.1 7))) 49 q v1) 50 q v2) 51 q v3) 52 q v4) 53 q v5 = σ0
  let lab1 := va_up (va_up lab q (μ.1 7)) q1 (10 + μ.1 7)
  have l3 : lab1 q = μ.1 7 := by show va_up _ _ _ q = _; rw [va_up_ne _ _ hne, va_up_self]
  have l0 : lab1 q1 = 10 + μ.1 7 := va_up_self _ _ _
  have hk : keepS (fun k l => (k = 3 ∧ l = μ.1 7) ∨ (k = 0 ∧ l = 10 + μ.1 7)) σ lab σ0 lab1 := by
    subst hσ0
    have k0 := keep_csO (X := fun k l => (k = 3 ∧ l = μ.1 7) ∨ (k = 0 ∧ l = 10 + μ.1 7)) hq 3 (lab := lab) (μ.1 7)
    have k1 := k0.tr (keep_csO hq1 0 (10 + μ.1 7))
    have k2 := k1.tr (keepR.mono (keep_csI (lab := lab1) (by exact a1) l0 0 0) (fun k l hx => Or.inr hx))
    have k3 := k2.tr (keepR.mono (keep_csR (lab := lab1) (by exact a1) l0 1 (some (cZ (csI (csO (csO σ q 3) q1 0) 0 q1 0)).1)) (fun k l hx => Or.inr hx))
    have k4 := k3.tr (keepR.mono (keep_csR (lab := lab1) (by exact a3) l3 54 (some q1)) (fun k l hx => Or.inl hx))
    have k5 := k4.tr (keepR.mono (keep_csI (lab := lab1) (by exact a3) l3 48 (nI (μ.1 7))) (fun k l hx => Or.inl hx))
    have k6 := k5.tr (keepR.mono (keep_csI (lab := lab1) (by exact a3) l3 49 v1) (fun k l hx => Or.inl hx))
    have k7 := k6.tr (keepR.mono (keep_csI (lab := lab1) (by exact a3) l3 50 v2) (fun k l hx => Or.inl hx))
    have k8 := k7.tr (keepR.mono (keep_csI (lab := lab1) (by exact a3) l3 51 v3) (fun k l hx => Or.inl hx))
    have k9 := k8.tr (keepR.mono (keep_csI (lab := lab1) (by exact a3) l3 52 v4) (fun k l hx => Or.inl hx))
    exact (k9.tr (keepR.mono (keep_csI (lab := lab1) (by exact a3) l3 53 v5) (fun k l hx => Or.inl hx))).s
  have b3 : cAt σ0 3 q := by subst hσ0; exact a3
  have hqL : isL σ0 lab1 q1 (10 + μ.1 7) 0 (fun k => cu2 (cu2 ad 3 (μ.1 7) q) 0 (10 + μ.1 7) q1 2 (μ.2.1 5 (60 * μ.1 7 + k))) := by
    refine new_L (by subst hσ0; exact a1) l0 ?_ ?_
    · subst hσ0; simp [csI, csR, csO, cmk, cI, cu2]
    · subst hσ0; simp [csI, csR, csO, cmk, cR, cZ, cu2]
  have hf : cR σ0 54 q = some q1 ∧ cI σ0 48 q = nI (μ.1 7) ∧ cI σ0 49 q = nI fr ∧ cI σ0 50 q = nI to ∧ cI σ0 51 q = nI st ∧ cI σ0 52 q = nI mi ∧ cI σ0 53 q = nI wi ∧ cI σ0 55 q = 0 ∧ cI σ0 56 q = 0 := by
    subst hσ0
    rw [← e1, ← e2, ← e3, ← e4, ← e5]
    simp [csI, csR, csO, cmk, cI, cR, cu2, hne]
  have hL := h.ls.1.kp hk (by omega) (by omega) (fun i hi => rfl)
  refine ⟨mc - 8, ms - 48, by omega, by omega, hL.1, ?_⟩
  refine sC_add hL (by omega) (fun i hi => hk.elm ((elm_L h).1 i hi)) (elm_of b3 (by omega)) (fun _ => by omega) (fun σ1 lab2 k1 k2 _ => ⟨by omega, by omega, ?_⟩)
  exact h1 σ1 lab2 _ (by rw [adu_n (by omega), adu_n (by omega)]) (lift_rep h hI h8 hk ⟨b3, l3⟩ hqL hf k1.s k2)
end CN
end
