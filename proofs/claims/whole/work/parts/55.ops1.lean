section
/-! small calls -/
section REFB
variable {ρ : RSt} {μ : MSt} {v : Int32}
theorem sR_t0 {post : Int32 → RSt → Prop} {w : Int32} (h : post 0 ρ) : wpR_throwsIf_0 post ρ 0 w := ⟨fun _ => ⟨rfl, h⟩, fun e => absurd rfl e⟩
theorem sR_t1 {post : Int32 → RSt → Prop} {w : Int32} (h : post 1 (rsI ρ 0 w)) : wpR_throwsIf_0 post ρ 1 w := ⟨fun e => absurd e (by decide), fun _ => fun s2 e => by subst e; exact ⟨rfl, h⟩⟩
theorem sR_noLift {post : Int32 → RSt → Prop} (hR : RR ρ μ) (hn : μ.1 7 ≤ 80) (h1 : ∀ i : Nat, i < μ.1 7 → v = nI i → post 0 ρ) (h0 : (¬ v < 0 → ¬ v < nI (μ.1 7)) → post 1 ρ) : wpR_noLift_0 post ρ v :=
  sR_inN (hR.s1 (by unfold sc1; omega)) (by omega) (fun i hi e => ⟨fun _ => h1 i hi e, fun e => absurd e (by decide)⟩) (fun e => ⟨fun e => absurd rfl e, fun _ => h0 e⟩)
theorem sR_noSlope {post : Int32 → RSt → Prop} (hR : RR ρ μ) (hn : μ.1 9 ≤ 80) (h1 : ∀ i : Nat, i < μ.1 9 → v = nI i → post 0 ρ) (h0 : (¬ v < 0 → ¬ v < nI (μ.1 9)) → post 1 ρ) : wpR_noSlope_0 post ρ v :=
  sR_inN (hR.s1 (by unfold sc1; omega)) (by omega) (fun i hi e => ⟨fun _ => h1 i hi e, fun e => absurd e (by decide)⟩) (fun e => ⟨fun e => absurd rfl e, fun _ => h0 e⟩)
theorem sR_noCell {post : Int32 → RSt → Prop} (hR : RR ρ μ) (hn : μ.1 14 ≤ 80) (h1 : ∀ i : Nat, i < μ.1 14 → v = nI i → post 0 ρ) (h0 : (¬ v < 0 → ¬ v < nI (μ.1 14)) → post 1 ρ) : wpR_noCell_0 post ρ v :=
  sR_inN (hR.s1 (by unfold sc1; omega)) (by omega) (fun i hi e => ⟨fun _ => h1 i hi e, fun e => absurd e (by decide)⟩) (fun e => ⟨fun e => absurd rfl e, fun _ => h0 e⟩)
theorem sR_noGroup {post : Int32 → RSt → Prop} (hR : RR ρ μ) (hn : μ.1 22 ≤ 80) (h1 : ∀ i : Nat, i < μ.1 22 → v = nI i → post 0 ρ) (h0 : (¬ v < 0 → ¬ v < nI (μ.1 22)) → post 1 ρ) : wpR_noGroup_0 post ρ v :=
  sR_inN (hR.s1 (by unfold sc1; omega)) (by omega) (fun i hi e => ⟨fun _ => h1 i hi e, fun e => absurd e (by decide)⟩) (fun e => ⟨fun e => absurd rfl e, fun _ => h0 e⟩)
theorem sR_noPlace {post : Int32 → Prop} (h1 : ∀ i : Nat, i < 10 → v = nI i → post 0) (h0 : (¬ v < 0 → ¬ v < 10) → post 1) : wpR_noPlace_0 post v := by
  refine sR_inI (lo := 0) (hi := 9) rfl rfl (fun a b => ⟨fun _ => ?_, fun e => absurd e (by decide)⟩) (fun e => ⟨fun e => absurd rfl e, fun _ => h0 (fun a b => e a ?_)⟩)
  · obtain ⟨j, hj, rfl⟩ := nI_of a
    refine h1 j ?_ rfl
    rw [Int32.le_iff_toInt_le, nI_toInt hj, show (9 : Int32).toInt = 9 from rfl] at b
    omega
  · obtain ⟨j, hj, rfl⟩ := nI_of a
    rw [Int32.le_iff_toInt_le, nI_toInt hj, show (9 : Int32).toInt = 9 from rfl]
    rw [Int32.lt_iff_toInt_lt, nI_toInt hj, show (10 : Int32).toInt = 10 from rfl] at b
    omega
end REFB
section CLB
variable {σ : CSt} {lab : Nat → Nat} {ad : Nat → Nat → Nat} {μ : MSt} {j : Nat} {v : Int32}
theorem sC_liftAt {post : Option Nat → CSt → Prop} {pX : String → CSt → Prop} (h : CRep σ lab ad μ) (hn : μ.1 7 ≤ 80) (h1 : ∀ i : Nat, i < μ.1 7 → v = nI i → post (some (ad 3 i)) σ) (h0 : (¬ v < 0 → ¬ v < nI (μ.1 7)) → pX "java/lang/IndexOutOfBoundsException" σ) : wpC_X7_liftAt_0 post pX σ (ad 7 0) v := by
  refine ⟨fun e => h0 (fun g => absurd e g), fun e => ⟨h.x7, _, h.x.2.1.1, h.ls.1.1, sC_size h.ls.1 ⟨fun e2 => ⟨h.x7, _, h.x.2.1.1, h.ls.1.1, ?_⟩, fun e2 => h0 (fun _ => e2)⟩⟩⟩
  obtain ⟨i, hi, rfl⟩ := nI_of e
  rw [nI_ltI hi (by omega)] at e2
  exact sC_get h.ls.1 e2 ⟨_, rfl, (h.li e2).1.1, h1 i e2 rfl⟩
theorem sC_slopeAt {post : Option Nat → CSt → Prop} {pX : String → CSt → Prop} (h : CRep σ lab ad μ) (hn : μ.1 9 ≤ 80) (h1 : ∀ i : Nat, i < μ.1 9 → v = nI i → post (some (ad 6 i)) σ) (h0 : (¬ v < 0 → ¬ v < nI (μ.1 9)) → pX "java/lang/IndexOutOfBoundsException" σ) : wpC_X7_slopeAt_0 post pX σ (ad 7 0) v := by
  refine ⟨fun e => h0 (fun g => absurd e g), fun e => ⟨h.x7, _, h.x.2.1.2.1, h.ls.2.1.1, sC_size h.ls.2.1 ⟨fun e2 => ⟨h.x7, _, h.x.2.1.2.1, h.ls.2.1.1, ?_⟩, fun e2 => h0 (fun _ => e2)⟩⟩⟩
  obtain ⟨i, hi, rfl⟩ := nI_of e
  rw [nI_ltI hi (by omega)] at e2
  exact sC_get h.ls.2.1 e2 ⟨_, rfl, (h.sl e2).1.1, h1 i e2 rfl⟩
theorem sC_cellAt {post : Option Nat → CSt → Prop} {pX : String → CSt → Prop} (h : CRep σ lab ad μ) (hn : μ.1 14 ≤ 80) (h1 : ∀ i : Nat, i < μ.1 14 → v = nI i → post (some (ad 1 i)) σ) (h0 : (¬ v < 0 → ¬ v < nI (μ.1 14)) → pX "java/lang/IndexOutOfBoundsException" σ) : wpC_X7_cellAt_0 post pX σ (ad 7 0) v := by
  refine ⟨fun e => h0 (fun g => absurd e g), fun e => ⟨h.x7, _, h.x.2.1.2.2.1, h.ls.2.2.1.1, sC_size h.ls.2.2.1 ⟨fun e2 => ⟨h.x7, _, h.x.2.1.2.2.1, h.ls.2.2.1.1, ?_⟩, fun e2 => h0 (fun _ => e2)⟩⟩⟩
  obtain ⟨i, hi, rfl⟩ := nI_of e
  rw [nI_ltI hi (by omega)] at e2
  exact sC_get h.ls.2.2.1 e2 ⟨_, rfl, (h.ce e2).1.1, h1 i e2 rfl⟩
theorem sC_num {post : CSt → Prop} {pX : String → CSt → Prop} {lo hi : Int32} (h1 : ¬ v < lo → v ≤ hi → post σ) (h0 : (¬ v < lo → ¬ v ≤ hi) → pX "java/lang/IllegalArgumentException" σ) : wpC_X7_checkNumber_0 post pX σ v lo hi :=
  ⟨fun e => h0 (fun g => absurd e g), fun e => ⟨fun e2 => h1 e e2, fun e2 => h0 (fun _ => e2)⟩⟩
theorem sC_place {post : CSt → Prop} {pX : String → CSt → Prop} (h1 : ∀ i : Nat, i < 10 → v = nI i → post σ) (h0 : (¬ v < 0 → ¬ v < 10) → pX "java/lang/IndexOutOfBoundsException" σ) : wpC_X7_checkPlace_0 post pX σ v := by
  refine ⟨fun e => h0 (fun g => absurd e g), fun e => ⟨fun e2 => ?_, fun e2 => h0 (fun _ => e2)⟩⟩
  obtain ⟨i, hi, rfl⟩ := nI_of e
  refine h1 i ?_ rfl
  rw [Int32.lt_iff_toInt_lt, nI_toInt hi, show (10 : Int32).toInt = 10 from rfl] at e2
  omega
/-- x's own fields change alone -/
theorem CRep.setX {σ' : CSt} {μ' : MSt} (h : CRep σ lab ad μ) (hk : keepS (atX 7 0) σ lab σ' lab) (hx : cX σ' lab ad μ') (h2 : μ'.2.1 = μ.2.1) (h3 : ∀ k, k ≠ 19 → μ'.2.2 k = μ.2.2 k) (h1 : ∀ k, k = 7 ∨ k = 9 ∨ k = 14 ∨ k = 22 ∨ k = 26 → μ'.1 k = μ.1 k) : CRep σ' lab ad μ' := by
  have hm : ∀ l, mWait μ' l = mWait μ l := fun l => by unfold mWait; rw [h2]
  have hb : ∀ s, mNm μ' s = mNm μ s := fun s => by unfold mNm mBits; rw [h2]
  have he : ∀ g, mEp μ' g = mEp μ g := fun g => by unfold mEp; rw [h2]
  have e7 := h1 7 (by omega); have e9 := h1 9 (by omega); have e14 := h1 14 (by omega); have e22 := h1 22 (by omega); have e26 := h1 26 (by omega)
  refine ⟨hx, ?_, fun i hi => ?_, fun i hi => ?_, fun i hi => ?_, fun i hi => ?_, fun i hi => ?_, fun i hi => ?_, fun i hi => ?_, fun i hi => ?_, fun i hi => ?_, ?_, ?_⟩
  · unfold cLs; rw [e7, e9, e14, e22, e26]; exact h.ls.kp hk (fun i _ => by unfold atX; omega) (fun _ _ => rfl) (fun _ _ => rfl) (fun _ _ => rfl) (fun _ _ => rfl) (fun _ _ => rfl) (fun _ _ => rfl)
  · rw [e7] at hi; unfold cLi; rw [h2, hm]; exact (h.li hi).kp hk (by unfold atX; omega) rfl rfl
  · rw [e7] at hi; unfold cRo; rw [h2]; exact (h.ro hi).kp hk (by unfold atX; omega) (by unfold atX; omega) (fun _ _ => rfl)
  · rw [e9] at hi; unfold cSl; rw [h2, hb]; exact (h.sl hi).kp hk (by unfold atX; omega) rfl rfl rfl
  · rw [e9] at hi; unfold cSc; rw [h2]; exact (h.sc hi).kp hk (by unfold atX; omega) (by unfold atX; omega) (fun _ _ => rfl)
  · rw [e9] at hi; unfold cCo; rw [h2]; exact ⟨(h.co hi).1.kp hk rfl, fun e => ((h.co hi).2 e).kp hk (by unfold atX; omega) rfl (fun _ _ => rfl)⟩
  · rw [e14] at hi; unfold cCe; rw [h2, h3 13 (by decide)]; exact (h.ce hi).kp hk (by unfold atX; omega) rfl rfl
  · rw [e14] at hi; unfold cSn; rw [h2]; exact (h.sn hi).kp hk (by unfold atX; omega) rfl (fun _ _ => rfl)
  · rw [e22] at hi; unfold cGr; rw [h2, he]; exact (h.gr hi).kp hk (by unfold atX; omega) rfl
  · rw [e26] at hi; unfold cLk; rw [h2]; exact (h.lk hi).kp hk (by unfold atX; omega) rfl rfl rfl
  · exact h.re.kp hk (by unfold atX; omega) rfl rfl
  · unfold cTp; rw [h3 1 (by decide)]; exact h.tp.kp hk (by unfold atX; omega) rfl (fun _ _ => rfl)
theorem keep_x {k : Nat} {v : Int32} (h : CRep σ lab ad μ) : keepS (atX 7 0) σ lab (csI σ k (ad 7 0) v) lab := (keep_csI h.x.1.1 h.x.1.2 k v).s
theorem keep_xJ {k : Nat} {v : Int64} (h : CRep σ lab ad μ) : keepS (atX 7 0) σ lab (csJ σ k (ad 7 0) v) lab := (keep_csJ h.x.1.1 h.x.1.2 k v).s
theorem MI.c0 (h : MI μ j) : mC0 μ j := h.1
/-! end -/
theorem cO_end {post : Int32 → CSt → Prop} (h : CRep σ lab ad μ) (hI : MI μ j) (h1 : ∀ n : Nat, n ≤ μ.1 2 → v = nI n → ∀ σ', CRep σ' lab ad (m1 μ 2 n) → post 1 σ') (h0 : (¬ v < 0 → ¬ v ≤ nI (μ.1 2)) → post 0 σ) : wpC_X7_end_0 post σ (ad 7 0) v := by
  have e2 := h.x.2.2.1
  refine ⟨fun e => h0 (fun g => absurd e g), fun e => ⟨h.x7, fun e3 => ⟨h.x7, ?_⟩, fun e3 => h0 (fun _ => by rw [e2] at e3; exact e3)⟩⟩
  rintro s3 rfl
  obtain ⟨n, hn, rfl⟩ := nI_of e
  have hc := hI.c0
  unfold mC0 at hc
  rw [e2, nI_leI hn (by omega)] at e3
  refine h1 n e3 rfl _ (h.setX (keep_x h) ?_ rfl (fun _ _ => rfl) (fun k hk => by show va_up μ.1 2 n k = _; rw [up_ap, if_neg (by omega)]))
  exact ⟨h.x.1, h.x.2.1, by rw [pI_csI, cu2_ap, if_pos rfl, if_pos rfl]; rfl, h.x.2.2.2⟩
end CLB
section REFC
variable {ρ : RSt} {μ : MSt} {j : Nat} {v : Int32}
theorem rO_end {post : Int32 → RSt → Prop} (hR : RR ρ μ) (hI : MI μ j) (h1 : ∀ n : Nat, n ≤ μ.1 2 → v = nI n → ∀ ρ', RR ρ' (m1 μ 2 n) → post 1 ρ') (h0 : (¬ v < 0 → ¬ v ≤ nI (μ.1 2)) → ∀ ρ', RR ρ' μ → post 0 ρ') : wpR_end_0 post ρ v := by
  rintro s1 rfl
  have hR' := hR.sI (k := 0) 0 (by unfold sc1; omega) (by decide)
  have e2 := hR'.s1 (k := 2) (by unfold sc1; omega)
  refine ⟨fun e => h0 (fun g => absurd e g) _ hR', fun e => ⟨fun e3 => ?_, fun e3 => h0 (fun _ => by rw [e2] at e3; exact e3) _ hR'⟩⟩
  rintro s4 rfl
  obtain ⟨n, hn, rfl⟩ := nI_of e
  have hc := hI.c0
  unfold mC0 at hc
  rw [e2, nI_leI hn (by omega)] at e3
  exact h1 n e3 rfl _ (hR'.u1 rfl (by decide) (by decide))
end REFC
end
