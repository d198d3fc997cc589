section
/-! open; and a minute, in the model -/
section OPN
variable {σ : CSt} {lab : Nat → Nat} {ad : Nat → Nat → Nat} {ρ : RSt} {μ : MSt} {j : Nat} {v : Int32}
noncomputable def mOp (μ : MSt) : Nat → Bool := Classical.epsilon (isOp μ)
theorem mOp_eq {op : Nat → Bool} (hI : MI μ j) (h : isOp μ op) : ∀ s : Nat, s < μ.1 9 → op s = mOp μ s := isOp_uniq hI h (Classical.epsilon_spec (p := isOp μ) ⟨op, h⟩)
theorem cO_open {post : Int32 → CSt → Prop} {pX : String → CSt → Prop} (h : CRep σ lab ad μ) (hI : MI μ j) (hj : j ≤ 512) (h1 : ∀ i : Nat, i < μ.1 9 → v = nI i → post (bI (mOp μ i)) σ) (h0 : (¬ v < 0 → ¬ v < nI (μ.1 9)) → pX "java/lang/IndexOutOfBoundsException" σ) : wpC_X7_open_0 post pX σ (ad 7 0) v := by
  have hc := hI.cs
  refine ⟨h.x7, sC_slopeAt h (by omega) (fun i hi e => ⟨h.x7, cO_opens h hI hj (fun ob ho => ⟨_, rfl, (h.sl hi).1.1, ?_⟩)⟩) h0⟩
  rw [(h.sl hi).2.2.2.1]
  unfold wpC_X7_hasBit_0
  rw [hb_1 (by omega), mOp_eq hI ho i hi]
  have hh := h1 i hi e
  refine ⟨fun g => ⟨rfl, ?_⟩, fun g => ⟨rfl, ?_⟩⟩
  · rw [show mOp μ i = false by simpa using g] at hh; exact hh
  · rw [g] at hh; exact hh
theorem rO_open {post : Int32 → RSt → Prop} (hR : RR ρ μ) (hI : MI μ j) (hj : j ≤ 512) (h1 : ∀ i : Nat, i < μ.1 9 → v = nI i → ∀ ρ', RR ρ' μ → ρ'.1 0 = 0 → post (bI (mOp μ i)) ρ') (h0 : (¬ v < 0 → ¬ v < nI (μ.1 9)) → ∀ ρ', RR ρ' μ → ρ'.1 0 = 1 → post 0 ρ') : wpR_open_0 post ρ v := by
  rintro s1 rfl
  have hR' := hR.sI (k := 0) 0 (by unfold sc1; omega) (by decide)
  have hc := hI.cs
  refine sR_noSlope hR' (by omega) (fun i hi e => sR_t0 ⟨fun _ => rO_opens hR' hI hj (fun ρ' op hs ho ha => ?_), fun e => absurd rfl e⟩) (fun a => sR_t1 ⟨fun e => absurd e (by decide), fun _ => h0 a _ (hR'.sI 1 (by unfold sc1; omega) (by decide)) rfl⟩)
  have hh := h1 i hi e ρ' (hR'.sm hs (fun k hk => by omega)) (by rw [hs.1]; rfl)
  subst e
  rw [nI_clamp (by omega), ha i hi, mOp_eq hI ho i hi]
  exact ⟨vp_in_nI (by omega) (by omega), (bI_n _).2, hh⟩
end OPN
section CG
variable {μ μ' : MSt}
/-- rules look at nothing of the groups -/
theorem opV_21 (h1 : μ'.1 = μ.1) (h2 : ∀ k, k ≠ 21 → μ'.2.1 k = μ.2.1 k) (op : Nat → Bool) (s : Nat) : opV μ' op s = opV μ op s := by
  have e3 := h2 3 (by decide); have e4 := h2 4 (by decide); have e8 := h2 8 (by decide); have e10 := h2 10 (by decide); have e15 := h2 15 (by decide); have e16 := h2 16 (by decide); have e17 := h2 17 (by decide); have e18 := h2 18 (by decide)
  have hd : ∀ c, mDep μ' c = mDep μ c := fun c => by unfold mDep; rw [e10]
  have hl : ∀ k, mLd μ' s k = mLd μ s k := by
    intro k
    induction k with
    | zero => show mDep μ' _ = mDep μ _; rw [e8, hd]
    | succ k ih => show min (mLd μ' s k) (mDep μ' _) = min (mLd μ s k) (mDep μ _); rw [ih, e8, hd]
  have hw : ∀ k, mMw μ' s k = mMw μ s k := by
    intro k
    induction k with
    | zero => rfl
    | succ k ih => show max (mMw μ' s k) (μ'.2.1 10 _) = max (mMw μ s k) (μ.2.1 10 _); rw [ih, e8, e10]
  have hm : ∀ w, mMeas μ' s w = mMeas μ s w := fun w => by unfold mMeas; rw [hl, hw, e8, h1]
  have hr : ∀ i, mRun μ' i = mRun μ i := fun i => by unfold mRun; rw [e4, e3, h1]
  have ht : ∀ c n, mTst μ' op s c n = mTst μ op s c n := fun c n => by unfold mTst; rw [hr, hm]
  unfold opV mHold mEv
  rw [e18, e17, show mC μ' s = mC μ s by funext k; show μ'.2.1 15 _ = μ.2.1 15 _; rw [e15]]
  rw [evS_congr (t' := fun k => mTst μ op s (mC μ s k) (mN μ s k)) _ (fun k hk => by rw [ht, show mN μ' s k = mN μ s k by show μ'.2.1 16 _ = μ.2.1 16 _; rw [e16]])]
theorem isOp_21 (h1 : μ'.1 = μ.1) (h2 : ∀ k, k ≠ 21 → μ'.2.1 k = μ.2.1 k) {op : Nat → Bool} : isOp μ' op ↔ isOp μ op := by
  unfold isOp
  rw [h1]
  constructor
  · intro h s hs; rw [h s hs, opV_21 h1 h2]
  · intro h s hs; rw [h s hs, opV_21 h1 h2]
end CG
section MS
variable {μ : MSt} {j : Nat}
/-- a group has one minute less to go -/
def mGo (μ : MSt) (g : Nat) : MSt :=
  if μ.2.1 21 (7 * g + 2) = 2 ∨ μ.2.1 21 (7 * g + 2) = 3 then
    (if μ.2.1 21 (7 * g + 4) - 1 = 0 then m2 (m2 (m2 μ 21 (7 * g + 4) (μ.2.1 21 (7 * g + 4) - 1)) 21 (7 * g + 3) (mEp μ g)) 21 (7 * g + 2) 0 else m2 μ 21 (7 * g + 4) (μ.2.1 21 (7 * g + 4) - 1))
  else μ
theorem mGo_1 {g : Nat} : (mGo μ g).1 = μ.1 := by
  unfold mGo
  split
  · split <;> rfl
  · rfl
end MS
end
