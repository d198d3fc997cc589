section
/-! rule: the reference, whole -/
section RRU3
variable {ρ : RSt} {μ : MSt} {j : Nat} {v : Int32} {b : Nat → Nat}
theorem rO_rule {post : Int32 → RSt → Prop} (hR : RR ρ μ) (hI : MI μ j) (hb : ∀ i : Nat, i < 400 → b i < 256 ∧ μ.2.2 1 i = sB (b i))
    (h0 : (¬ v < 0 → ¬ v < nI (μ.1 9)) → ∀ ρ', RR ρ' (m1 μ 2 0) → ρ'.1 0 = 1 → post 0 ρ')
    (h2 : ∀ s : Nat, s < μ.1 9 → v = nI s → (pAll b (μ.1 2) (μ.1 9) (μ.1 7)).1 = false → ∀ ρ', RR ρ' (mR0 μ (nI (plW b (μ.1 2) (μ.1 9) (μ.1 7))) 0) → ρ'.1 0 = 2 → post 0 ρ')
    (h3 : ∀ s : Nat, s < μ.1 9 → v = nI s → (pAll b (μ.1 2) (μ.1 9) (μ.1 7)).1 = true → ¬ rgB (lnR μ s (bitsL (pAll b (μ.1 2) (μ.1 9) (μ.1 7)).2.2)) (μ.1 9) (μ.1 9) = 0 → ∀ ρ', RR ρ' (mR0 μ (-1) (rgB (lnR μ s (bitsL (pAll b (μ.1 2) (μ.1 9) (μ.1 7)).2.2)) (μ.1 9) (μ.1 9))) → ρ'.1 0 = 3 → post 0 ρ')
    (h1 : ∀ s : Nat, s < μ.1 9 → v = nI s → (pAll b (μ.1 2) (μ.1 9) (μ.1 7)).1 = true → rgB (lnR μ s (bitsL (pAll b (μ.1 2) (μ.1 9) (μ.1 7)).2.2)) (μ.1 9) (μ.1 9) = 0 → ∀ ρ', RR ρ' (mRul μ s (pAll b (μ.1 2) (μ.1 9) (μ.1 7)).2.2) → ρ'.1 0 = 0 → post (bcI (nI (bitsL (pAll b (μ.1 2) (μ.1 9) (μ.1 7)).2.2))) ρ') : wpR_rule_0 post ρ v := by
  have hc := hI.cs
  have hc0 := hI.c0
  unfold mC0 at hc0
  intro s22 hs22
  have r22 : RR s22 μ := by rw [hs22]; exact hR.sI (k := 0) 0 (by unfold sc1; omega) (by decide)
  have t22 : s22.1 0 = 0 := by rw [hs22]; exact rI_s
  clear hs22
  intro s23 hs23
  have r23 : RR s23 μ := by rw [hs23]; exact r22.sI _ (by unfold sc1; omega) (by decide)
  have t23 : s23.1 0 = 0 := by rw [hs23, rI_n (by decide)]; exact t22
  have e32 : s23.1 32 = nI (μ.1 2) := by rw [hs23, rI_s]; exact r22.s1 (by unfold sc1; omega)
  clear hs23
  intro s24 hs24
  have r24 : RR s24 (m1 μ 2 0) := by rw [hs24]; exact r23.u1 rfl (by decide) (by decide)
  have t24 : s24.1 0 = 0 := by rw [hs24, rI_n (by decide)]; exact t23
  have e24 : s24.1 32 = nI (μ.1 2) := by rw [hs24, rI_n (by decide)]; exact e32
  clear hs24
  have q9 : (m1 μ 2 0).1 9 = μ.1 9 := m1_n (by decide)
  refine sR_noSlope r24 (by rw [q9]; omega) (fun s hs e => sR_t0 ⟨fun _ => ?_, fun e => absurd rfl e⟩) (fun a => sR_t1 ⟨fun e => absurd e (by decide), fun _ => h0 (by rw [q9] at a; exact a) _ (r24.sI 1 (by unfold sc1; omega) (by decide)) rI_s⟩)
  rw [q9] at hs
  have hh2 := h2 s hs e
  have hh3 := h3 s hs e
  have hh1 := h1 s hs e
  subst e
  clear h0 h1 h2 h3
  intro s30 hs30 s31 hs31 s32 hs32
  have r32 : RR s32 (m1 μ 2 0) := by
    rw [hs32, hs31, hs30]
    exact ((r24.sI _ (by unfold sc1; omega) (by decide)).sI _ (by unfold sc1; omega) (by decide)).sI _ (by unfold sc1; omega) (by decide)
  have t32 : s32.1 0 = 0 := by rw [hs32, rI_n (by decide), hs31, rI_n (by decide), hs30, rI_n (by decide)]; exact t24
  have e32 : s32.1 32 = nI (μ.1 2) := by rw [hs32, rI_n (by decide), hs31, rI_n (by decide), hs30, rI_n (by decide)]; exact e24
  have e31 : s32.1 31 = nI 0 := by rw [hs32, rI_n (by decide), hs31, rI_n (by decide), hs30, rI_s]; rfl
  have e36 : s32.1 36 = nI 0 := by rw [hs32, rI_n (by decide), hs31, rI_s]; rfl
  have e37 : s32.1 37 = -1 := by rw [hs32, rI_s]
  clear hs30 hs31 hs32
  refine ⟨vp_in_nI (n := 10) (by omega) (by omega), ?_⟩
  intro s33 hs33
  have r33 : RR s33 (m1 μ 2 0) := by rw [hs33]; exact r32.sA (k := 17) (i := 10) _ (by unfold sc2; omega) (by decide) (by decide)
  have hI33 : ∀ k, s33.1 k = s32.1 k := fun k => by rw [hs33]; rfl
  have e17 : s33.2.1 17 10 = nI 0 := by rw [hs33]; exact rA_s
  clear hs33
  have tp : TpR s33 b (μ.1 2) := ⟨by rw [hI33]; exact e32, hc0.1, fun i hi => ⟨(hb i hi).1, by rw [r33.2.2.1.1 i]; exact (hb i hi).2⟩⟩
  have q7 : (m1 μ 2 0).1 7 = μ.1 7 := m1_n (by decide)
  have e9 : s33.1 9 = nI (μ.1 9) := by have := r33.s1 (k := 9) (by unfold sc1; omega); rw [q9] at this; exact this
  have e7 : s33.1 7 = nI (μ.1 7) := by have := r33.s1 (k := 7) (by unfold sc1; omega); rw [q7] at this; exact this
  refine sR_next tp (by rw [hI33]; exact e31) (Nat.zero_le _) (by rw [hI33]; exact e37) (fun ρ1 k1 k2 => ?_)
  have hRP : RP s33 b (μ.1 2) (μ.1 9) (μ.1 7) 0 ρ1 true (tok b (μ.1 2) 0) [] := ⟨k2.tp tp, k2.p, ⟨(k2.1 9 (by unfold nxK; omega)).trans e9, (k2.1 7 (by unfold nxK; omega)).trans e7, hc0.2.2.1, hc0.2.1⟩, fun _ hk => ⟨(k1.1 hk).1, (k1.1 hk).2, (k2.1 36 (by unfold nxK; omega)).trans ((hI33 36).trans e36), by rw [k2.2]; exact e17, fun i hi => absurd hi (Nat.not_lt_zero _)⟩, fun hd => k1.2 (hd.resolve_left (by decide))⟩
  have hpw : WfT (μ.1 2) (pEith b (μ.1 2) (pP b (μ.1 2) (μ.1 9) (μ.1 7) 20) (tok b (μ.1 2) 0)).2.1 := pEith_w
  refine sR_eithD _ ρ1 _ [] hRP WfT.t0 (Nat.zero_le _) (fun ρ2 h2 => ?_)
  have hok := fun h => pAll_ok (b := b) (e := μ.1 2) (nS := μ.1 9) (nL := μ.1 7) h
  unfold plW at hh2
  unfold pAll at hh1 hh2 hh3 hok
  generalize pEith b (μ.1 2) (pP b (μ.1 2) (μ.1 9) (μ.1 7) 20) (tok b (μ.1 2) 0) = r at h2 hh1 hh2 hh3 hok hpw
  have hlen := hpw.1
  have hlen2 := hpw.2.1
  have hwrong : ¬ (r.1 = true ∧ r.2.1.2.2.1 = 15) → ∀ ρ3, frP s33 ρ3 → ρ3.1 37 = nI r.2.1.1 → wpR_rule_86 post ρ3 (nI s) := by
    intro hno ρ3 hf h37
    rw [pFin_f hno] at hh2
    intro s19 hs19 s20 hs20
    have x1 : RR s20 (mR0 μ (nI r.2.1.1) 0) := by
      rw [hs20, hs19, h37]
      exact ((hf.rr r33).u19 _).u1 (k := 20) (n := 0) rfl (by decide) (by decide)
    have x37 : s20.1 37 = nI r.2.1.1 := by rw [hs20, rI_n (by decide), hs19, rI_n (by decide)]; exact h37
    clear hs19 hs20
    rw [x37]
    refine ⟨fun e1 => absurd e1 (nI_nn (by omega)), fun _ => ?_⟩
    exact sR_t1 ⟨fun e1 => absurd e1 (by decide), fun _ => hh2 rfl _ (x1.sI 2 (by unfold sc1; omega) (by decide)) rI_s⟩
  have hright : r.1 = true → r.2.1.2.2.1 = 15 → wpR_rule_86 post ρ2 (nI s) := by
    intro ho h15
    have hpf : pFin r = r := if_pos ⟨ho, h15⟩
    rw [hpf] at hh1 hh3 hok
    obtain ⟨o1, o2, o3⟩ := hok ho
    rw [ho] at h2
    obtain ⟨hT2, hf2, -, hlv, -⟩ := h2
    obtain ⟨g1, -, -, g4, g5⟩ := hlv rfl (by omega)
    simp only [List.nil_append] at g4 g5
    have t2 : ρ2.1 0 = 0 := (hf2.1 0 (by unfold prK; omega)).trans ((hI33 0).trans t32)
    intro s19 hs19 s20 hs20
    have x1 : RR s20 (mR0 μ (-1) 0) := by
      rw [hs20, hs19, g1]
      exact ((hf2.rr r33).u19 _).u1 (k := 20) (n := 0) rfl (by decide) (by decide)
    have x37 : s20.1 37 = -1 := by rw [hs20, rI_n (by decide), hs19, rI_n (by decide)]; exact g1
    have xt : s20.1 0 = 0 := by rw [hs20, rI_n (by decide), hs19, rI_n (by decide)]; exact t2
    have xA : s20.2.1 = ρ2.2.1 := by rw [hs20, hs19]; rfl
    clear hs19 hs20
    rw [x37]
    refine ⟨fun _ => ?_, fun e1 => absurd (by decide) e1⟩
    refine sR_t0 ⟨fun _ => ?_, fun e1 => absurd rfl e1⟩
    have hI0 := mR0_MI (pl := -1) (rg := 0) hI (by decide)
    have n9 : (mR0 μ (-1) 0).1 9 = μ.1 9 := mR0_1 (by decide)
    have hwk : ∀ k : Nat, k < r.2.2.length → (r.2.2.getD k (0, 0)).1 ≤ 16 ∧ ((r.2.2.getD k (0, 0)).1 = 12 → (r.2.2.getD k (0, 0)).2 < 31) := by
      have hwf := okL_wf (c := fun k => (r.2.2.getD k (0, 0)).1) (n := fun k => (r.2.2.getD k (0, 0)).2) (by omega) (fun k _ => rfl) o2 o3
      intro k hk
      obtain ⟨z1, z2, z3, -⟩ := hwf.2.2.2 k hk
      exact ⟨z1, fun g => by have := z3 g; dsimp only at this; omega⟩
    refine sR_ring (c := fun k => (r.2.2.getD k (0, 0)).1) (n := fun k => (r.2.2.getD k (0, 0)).2) (len := r.2.2.length) (N := bitsL r.2.2) x1 hI0 (by rw [n9]; exact hs) (by omega) (by rw [xA]; exact g4) (fun k hk => ?_) rfl (fun ρ4 hsm => ?_)
    · obtain ⟨w1, w2⟩ := g5 k hk
      have hw' := hwk k hk
      rw [xA]
      exact ⟨w1, w2, by omega, hw'.2⟩
    have x4 := x1.sm hsm (fun k hk => by unfold rg38 at hk; omega)
    have t4 : ρ4.1 0 = 0 := by rw [hsm.1]; exact xt
    rw [n9, show lnR (mR0 μ (-1) 0) s (bitsL r.2.2) = lnR μ s (bitsL r.2.2) from rfl]
    have hrg : rgB (lnR μ s (bitsL r.2.2)) (μ.1 9) (μ.1 9) < 1024 := by
      have h1 := rgB_lt (R := lnR μ s (bitsL r.2.2)) (m := μ.1 9) (μ.1 9)
      have h2 : (2 : Nat) ^ μ.1 9 ≤ 2 ^ 10 := Nat.pow_le_pow_right (by decide) (by omega)
      omega
    intro s17 hs17
    have x17 : RR s17 (mR0 μ (-1) (rgB (lnR μ s (bitsL r.2.2)) (μ.1 9) (μ.1 9))) := by
      rw [hs17]
      refine (x4.u1 (k := 20) (n := rgB (lnR μ s (bitsL r.2.2)) (μ.1 9) (μ.1 9)) rfl (by decide) (by decide)).congr (fun k _ => ?_) (fun _ _ _ => rfl) ⟨fun _ => rfl, fun _ => rfl, rfl⟩
      show va_up (va_up μ.1 2 0) 20 _ k = va_up (va_up (va_up μ.1 2 0) 20 0) 20 _ k
      by_cases e : k = 20
      · rw [up_ap, if_pos e, up_ap, if_pos e]
      · rw [up_ap, if_neg e, up_ap _ 20, if_neg e, up_ap _ 20, if_neg e]
    have t17 : s17.1 0 = 0 := by rw [hs17, rI_n (by decide)]; exact t4
    have a17 : s17.2.1 = ρ4.2.1 := by rw [hs17]; rfl
    have e20 : s17.1 20 = nI (rgB (lnR μ s (bitsL r.2.2)) (μ.1 9) (μ.1 9)) := by rw [hs17, rI_s]
    clear hs17
    rw [e20, show (0 : Int32) = nI 0 from rfl, nI_eq (by omega) (by omega)]
    refine ⟨fun e1 => ?_, fun e1 => ?_⟩
    · refine sR_t0 ⟨fun _ => ?_, fun e2 => absurd rfl e2⟩
      rw [e1] at x17
      refine sR_told x17 (by omega) (by omega) ?_ (fun k hk => ?_) hwk (fun ρ5 h5 t5 => hh1 ho e1 ρ5 h5 (t5.trans t17))
      · rw [a17, hsm.2.1 17 (by unfold rg38; omega), xA]; exact g4
      · rw [a17, hsm.2.1 15 (by unfold rg38; omega), hsm.2.1 16 (by unfold rg38; omega), xA]; exact g5 k hk
    · exact sR_t1 ⟨fun e2 => absurd e2 (by decide), fun _ => hh3 ho e1 _ (x17.sI 3 (by unfold sc1; omega) (by decide)) rI_s⟩
  by_cases hd : r.1 = false ∨ r.2.1.2.2.1 = 16
  · have hde := h2.de hd hpw
    refine ⟨fun _ => hwrong (fun g => ?_) ρ2 h2.2.1 (h2.2.2.2.2 hd), fun e1 => absurd hde.2 e1⟩
    rcases hd with hd | hd
    · exact absurd (hd.symm.trans g.1) (by decide)
    · omega
  · have ho : r.1 = true := by
      cases hx : r.1 with
      | true => rfl
      | false => exact absurd (Or.inl hx) hd
    have hne : r.2.1.2.2.1 ≠ 16 := fun g => hd (Or.inr g)
    have hk16 := hpw.2.2.1
    have h2' := h2
    rw [ho] at h2'
    obtain ⟨l1, l2, l3, ⟨t1, t2, t3, t4, t5, t6⟩, -⟩ := h2'.lv hne
    have hfail : ¬ r.2.1.2.2.1 = 15 → wpR_fail_0 (fun s38 => wpR_rule_86 post s38 (nI s)) ρ2 (ρ2.1 34) := fun h15 => h2'.fail (L' := []) (n' := 0) hne (fun ρ3 h3 => hwrong (fun g => h15 g.2) ρ3 h3.2.1 (h3.2.2.2.2 (Or.inl rfl)))
    refine ⟨fun e1 => absurd e1 l3, fun _ => ?_⟩
    rcases (show r.2.1.2.2.1 < 9 ∨ (9 ≤ r.2.1.2.2.1 ∧ r.2.1.2.2.1 ≤ 13) ∨ r.2.1.2.2.1 = 14 ∨ r.2.1.2.2.1 = 15 by omega) with c | c | c | c
    · rw [(t4 c).1]; exact ⟨fun e1 => absurd e1 (by decide), fun _ => hfail (by omega)⟩
    · rw [(t6 c.1 c.2).1]; exact ⟨fun e1 => absurd e1 (by decide), fun _ => hfail (by omega)⟩
    · rw [(t5 c).1]; exact ⟨fun e1 => absurd e1 (by decide), fun _ => hfail (by omega)⟩
    · rw [t3 c]; exact ⟨fun _ => hright ho c, fun e1 => absurd rfl e1⟩
end RRU3
end
