/-! street, count, bestDrop -/
theorem isSB_iff {p : Ar} {N : Nat} : isSB p N = true ↔ N = 17 ∧ flt (okS p) N 0 = N := by simp [isSB]
/-- what a street's text says of a gutter -/
theorem st_way {p : Ar} {k : Nat} (hp : PG p 17) (hk : k < 6) (ho : okS p (3 * k + 1) = true) : (decide (p (3 * k + 1) = 45) || (decide (k + 49 ≤ (p (3 * k + 1)).toNatClampNeg) && decide ((p (3 * k + 1)).toNatClampNeg ≤ 53))) = true ∧ (wyC (p (3 * k + 1)) = -1 ∨ ∃ t, wyC (p (3 * k + 1)) = nI t ∧ k < t ∧ t < 6) := by
  have e0 : (3 * k + 1) % 3 = 1 := by omega
  have e1 : (3 * k + 1) / 3 = k := by omega
  simp only [okS, e0, e1] at ho
  rw [if_neg (by omega), if_pos trivial, Bool.and_eq_true] at ho
  refine ⟨ho.2, ?_⟩
  obtain ⟨c, hc, hc1, hc2⟩ := hp.2 (3 * k + 1) (by omega)
  have h2 := ho.2
  rw [hc] at h2 ⊢
  simp only [wyC]
  by_cases z : nI c = 45
  · rw [if_pos z]; exact Or.inl rfl
  · rw [if_neg z]
    rw [nI_clamp (by omega)] at h2
    simp [z] at h2
    refine Or.inr ⟨c - 48, pk_sub (a := c) (b := 48) (by omega), by omega, by omega⟩
/-- RainLetters.street behind its test -/
theorem c_street {G : GG} {ad : Nat → Nat} {pf : Ar} {u d : Fm} {g l : Ar} {n : Int32} {fn : Ar} {fd ku kd : Fm} {kg kl : Ar} {kn : Int32} {kfn : Ar} {kfd tu td : Fm} {t wa le se cv kk ww : Ar} {Q : Option Value → va_W → Prop} (hp : PG pf 17) (hok : ∀ k, k < 6 → okS pf (3 * k + 1) = true) (hk : ∀ i, i < 6 → kk i = kbC (pf (3 * i))) (hw : ∀ i, i < 6 → ww i = wyC (pf (3 * i + 1)))
    (h : ∀ u', KW u' kk ww → Q (some (.int (cnI (fun i => decide (ww i = -1)) 6))) (rlW G ad 0 pf 0 (clU u') d g l 0 (fil 6 (-1) fn) fd ku kd kg kl kn kfn kfd tu td t wa le se (va_up (va_up cv 0 0) 1 (cv 1 + 1)))) : J G mX6_street 15 [(0, .ref (ad 0)), (1, .int 0)] [] (rlW G ad 0 pf (nI 17) u d g l n fn fd ku kd kg kl kn kfn kfd tu td t wa le se cv) Q := by
  have H : ∀ k, k ≤ 6 → ∀ u1 : Fm, (∀ i, i < k → u1 0 i = kk i ∧ u1 1 i = ww i) → J G mX6_street 15 [(0, .ref (ad 0)), (1, .int (nI k))] [] (rlW G ad 0 pf (nI 17) u1 d g l n fn fd ku kd kg kl kn kfn kfd tu td t wa le se cv) Q := by
    refine forDn ?_ (fun k hk6 ih => ?_)
    · intro u1 h1
      have h := h u1 h1
      have e : cnI (fun i => decide (clU u1 1 i = -1)) 6 = cnI (fun i => decide (ww i = -1)) 6 := cnI_cong 6 (fun i hi => by rw [clU_1, (h1 i hi).2])
      rw [← e] at h
      exact sg_X6_street_15 (br_t (le_rfl32 _) (t_clear ⟨_, rfl, rfl, t_fiClear ⟨_, rfl, rfl, t_countOut ⟨_, rfl, rfl, h⟩⟩⟩))
    · intro u1 h1
      refine sg_X6_street_15 (br_f (ge6 hk6) ?_)
      have e3 : nI k * 3 = nI (3 * k) := by rw [Nat.mul_comm, ← pk_mul]; rfl
      rw [e3, ← nI_succ, nI_clamp (by omega)]
      obtain ⟨ca, ha, ha1, ha2⟩ := hp.2 (3 * k) (by omega)
      obtain ⟨cb, hb, hb1, hb2⟩ := hp.2 (3 * k + 1) (by omega)
      refine t_kindAt (by omega) ha ha2 ⟨_, rfl, rfl, vp_in_nI hk6 (by omega), t_flowAt (by omega) (by omega) hb hb2 ⟨_, rfl, rfl, ?_⟩⟩
      rw [if_pos (st_way hp hk6 (hok k hk6)).1, ← nI_succ]
      refine ih _ (fun i hi => ?_)
      show upd (u1 0) k _ i = _ ∧ upd (u1 1) k _ i = _
      by_cases e : i = k
      · rw [e, pk_us, pk_us, hk k hk6, hw k hk6]; exact ⟨rfl, rfl⟩
      · rw [upd_at e, upd_at e]; exact h1 i (by omega)
  exact H 0 (Nat.zero_le _) u (fun i hi => absurd hi (Nat.not_lt_zero i))
theorem vup3_of (a : Fm) : va_up (va_up (va_up a 1 (a 1)) 2 (a 2)) 12 (a 12) = a := by
  funext i
  simp only [va_up]
  by_cases h12 : i = 12
  · rw [if_pos h12, h12]
  · rw [if_neg h12]
    by_cases h2 : i = 2
    · rw [if_pos h2, h2]
    · rw [if_neg h2]
      by_cases h1 : i = 1
      · rw [if_pos h1, h1]
      · rw [if_neg h1]
theorem vup3_up (a : Fm) (x y z x' y' z' : Ar) : va_up (va_up (va_up (va_up (va_up (va_up a 1 x) 2 y) 12 z) 1 x') 2 y') 12 z' = va_up (va_up (va_up a 1 x') 2 y') 12 z' := by
  funext i
  simp only [va_up]
  by_cases h12 : i = 12
  · rw [if_pos h12, if_pos h12]
  · rw [if_neg h12, if_neg h12, if_neg h12]
    by_cases h2 : i = 2
    · rw [if_pos h2, if_pos h2]
    · rw [if_neg h2, if_neg h2, if_neg h2]
      by_cases h1 : i = 1
      · rw [if_pos h1, if_pos h1]
      · rw [if_neg h1, if_neg h1, if_neg h1]
/-- the reference's street behind its test -/
theorem m_street {G : GG} {ad : Nat → Nat} {a : Fm} {v : Ar} {hh : Int64} {kk ww : Ar} {Q : Option Value → va_W → Prop} (hk : ∀ i, i < 6 → kk i = kbC (a 0 (3 * i))) (hw : ∀ i, i < 6 → ww i = wyC (a 0 (3 * i + 1)))
    (h : ∀ F1 F2 F12 : Ar, (∀ i, i < 6 → F1 i = kk i ∧ F2 i = ww i ∧ F12 i = -1) → Q (some (.int (cnI (fun i => decide (ww i = -1)) 6))) (mdW G ad 0 (va_up (va_up (va_up (va_up a 1 F1) 2 F2) 12 F12) 3 (dryF (a 3))) (va_up (va_up (va_up (va_up v 3 0) 1 1) 2 (v 2 + 1)) 0 0) hh)) : J G mX7_street 24 [(0, .ref (ad 0)), (1, .int 0)] [] (mdW G ad 0 a v hh) Q := by
  have H : ∀ k, k ≤ 6 → ∀ F1 F2 F12 : Ar, (∀ i, i < k → F1 i = kk i ∧ F2 i = ww i ∧ F12 i = -1) → J G mX7_street 24 [(0, .ref (ad 0)), (1, .int (nI k))] [] (mdW G ad 0 (va_up (va_up (va_up a 1 F1) 2 F2) 12 F12) v hh) Q := by
    refine forDn ?_ (fun k hk6 ih => ?_)
    · intro F1 F2 F12 h1
      have h := h F1 F2 F12 h1
      have e : cnI (fun i => decide (F2 i = -1)) 6 = cnI (fun i => decide (ww i = -1)) 6 := cnI_cong 6 (fun i hi => by rw [(h1 i hi).2.1])
      rw [← e] at h
      exact sg_X7_street_24 (br_t (le_rfl32 _) (t_dryRows ⟨_, rfl, rfl, t_outs ⟨_, rfl, rfl, h⟩⟩))
    · intro F1 F2 F12 h1
      refine sg_X7_street_24 (br_f (ge6 hk6) ?_)
      have e3 : 3 * nI k = nI (3 * k) := by rw [← pk_mul]; rfl
      rw [e3, ← nI_succ, nI_clamp (by omega), nI_clamp (by omega), nI_clamp (by omega), ← nI_succ]
      have stp : ∀ y z, y = kk k → z = ww k → J G mX7_street 24 [(0, .ref (ad 0)), (1, .int (nI (k + 1)))] [] (mdW G ad 0 (va_up (va_up (va_up (va_up (va_up (va_up a 1 F1) 2 F2) 12 F12) 1 (upd F1 k y)) 2 (upd F2 k z)) 12 (upd F12 k (-1))) v hh) Q := by
        intro y z hy hz
        rw [vup3_up]
        refine ih _ _ _ (fun i hi => ?_)
        by_cases e : i = k
        · rw [e, pk_us, pk_us, pk_us]; exact ⟨hy, hz, rfl⟩
        · rw [upd_at e, upd_at e, upd_at e]; exact h1 i (by omega)
      refine ⟨vp_in_nI (by omega) (by omega), t_kindBy ⟨_, rfl, rfl, vp_in_nI hk6 (by omega), vp_in_nI (by omega) (by omega), fun z => ?_, fun z => ?_⟩⟩
      · refine stp (kbC (a 0 (3 * k))) (a 0 (3 * k + 1) - 48) (hk k hk6).symm ?_
        rw [hw k hk6]
        simp only [wyC]
        exact (if_neg z).symm
      · refine stp (kbC (a 0 (3 * k))) (-1) (hk k hk6).symm ?_
        rw [hw k hk6]
        simp only [wyC]
        exact (if_pos z).symm
  have H0 := H 0 (Nat.zero_le _) (a 1) (a 2) (a 12) (fun i hi => absurd hi (Nat.not_lt_zero i))
  rw [vup3_of] at H0
  exact H0
theorem two_street {G : GG} {T : Nat} {a : Fm} {v : Ar} {c : CT} (h : Rel T a v c) (hT : T < 2 ^ 30) : Two G mX6_street mX7_street [] T a v c := by
  obtain ⟨pf, pn, u, d, g, l, n, fn, fd, ku, kd, kg, kl, kn, kfn, kfd, tu, td, t, wa, le, se, cv⟩ := c
  obtain ⟨⟨N, p1, p2, p3, p4⟩, ⟨S, s1, s2, s3, s4, st, im⟩, hc1, hc2⟩ := id h
  have hN20 := p3.1
  subst p1
  have esb : isSB pf N = isSB (a 0) N := by
    simp only [isSB]
    rw [flt_cong N 0 (fun j _ hj => okS_cong (p4 j (by omega)))]
  by_cases c1 : isSB (a 0) N = true
  · obtain ⟨e17, hfl⟩ := isSB_iff.mp c1
    subst e17
    have hok : ∀ j, j < 17 → okS (a 0) j = true := fun j hj => flt_all (ok := okS (a 0)) 17 0 hfl j (Nat.zero_le _) (by omega)
    obtain ⟨kk, hkk⟩ : ∃ kk : Ar, ∀ i, kk i = kbC (a 0 (3 * i)) := ⟨fun i => kbC (a 0 (3 * i)), fun _ => rfl⟩
    obtain ⟨ww, hww⟩ : ∃ ww : Ar, ∀ i, ww i = wyC (a 0 (3 * i + 1)) := ⟨fun i => wyC (a 0 (3 * i + 1)), fun _ => rfl⟩
    have hWF : WF ww := fun i hi => by rw [hww]; exact (st_way p3 hi (hok _ (by omega))).2
    have egl : Eqn 12 g (a 4) ∧ Eqn 12 l (a 5) := by
      rcases st with ⟨-, -, -, -, ⟨-, z⟩, -⟩ | ⟨-, -, R, -, -, -, -, -, z1, z2, -⟩
      · exact z
      · exact ⟨z1, z2⟩
    refine ⟨cnI (fun i => decide (ww i = -1)) 6, fun c' => ∃ u', KW u' kk ww ∧ c' = (pf, 0, clU u', d, g, l, 0, fil 6 (-1) fn, fd, ku, kd, kg, kl, kn, kfn, kfd, tu, td, t, wa, le, se, va_up (va_up cv 0 0) 1 (cv 1 + 1)), fun ad => ?_, fun ad hh => ?_⟩
    · refine sg_X6_street_0 (t_isStreet (p3.cong p4) ⟨_, rfl, rfl, br_iten (fun q => absurd (by rw [esb]; exact c1) q) (fun _ => ?_)⟩)
      exact c_street (p3.cong p4) (fun k hk => by rw [okS_cong (p4 _ (by omega))]; exact hok _ (by omega)) (fun i hi => by rw [hkk, p4 _ (by omega)]) (fun i hi => by rw [hww, p4 _ (by omega)]) (fun u' hu => ⟨rfl, _, rfl, u', hu, rfl⟩)
    · refine sg_X7_street_0 ?_
      rw [p2]
      refine ⟨fun q => absurd rfl q, fun _ => t_faultOf p2 p3 ⟨_, rfl, rfl, ?_⟩⟩
      rw [okP_0, hfl]
      refine br_t (le_rfl32 _) (m_street (kk := kk) (ww := ww) (fun i _ => hkk i) (fun i _ => hww i) (fun F1 F2 F12 h1 => ⟨rfl, _, _, _, rfl, ?_⟩))
      intro c' hc
      obtain ⟨u', hu, rfl⟩ := hc
      have ef : ∀ j, j < 6 → fil 6 (-1) fn j = -1 := fun j hj => by simp [fil, hj]
      refine ⟨⟨0, rfl, rfl, ⟨by omega, fun j hj => absurd hj (Nat.not_lt_zero j)⟩, p4⟩, ⟨S + 1, ?_, ?_, by omega, ?_, Or.inr ⟨by omega, rfl, 0, rfl, rfl, by omega, fun j hj => absurd hj (Nat.not_lt_zero j), fun j hj => absurd hj (Nat.not_lt_zero j), egl.1, egl.2, ?_, SR_clear, LN_dry, ?_, ?_, ?_, ?_⟩, Or.inl ⟨rfl, ?_⟩⟩, hc1, hc2⟩
      · show cv 1 + 1 = _; rw [s1, nI_succ]
      · show v 2 + 1 = _; rw [s2, nI_succ]
      · rcases s4 with q | ⟨S2, q, q2⟩
        · exact Or.inl q
        · exact Or.inr ⟨S2, by omega, q2⟩
      · intro i hi
        rw [clU_0, clU_1]
        exact ⟨(hu i hi).1.trans (h1 i hi).1.symm, (hu i hi).2.trans (h1 i hi).2.1.symm⟩
      · exact hWF.cong (fun i hi => (h1 i hi).2.1.symm)
      · exact fun i hi => Or.inl (h1 i hi).2.2
      · exact fun i hi => (ef i hi).trans (h1 i hi).2.2.symm
      · intro i hi m hm h8
        have hm : F12 i = nI m := hm
        rw [(h1 i hi).2.2] at hm
        exact absurd hm.symm (nI_ne_m1 (by omega))
      · show ¬ v 7 = v 2 + 1
        rw [s2, ← nI_succ]
        rcases s4 with q | ⟨S2, q, q2⟩
        · rw [q]; exact fun z => nI_ne_m1 (by omega) z.symm
        · rw [q2]; exact fun z => by have := (nI_eq (by omega) (by omega)).mp z; omega
  · refine Two.read h (-103) (fun ad Q hq => ?_) (fun ad hh Q hq => ?_)
    · exact sg_X6_street_0 (t_isStreet (p3.cong p4) ⟨_, rfl, rfl, br_iten (fun _ => hq _ ⟨tu, td, t, wa, le, se, rfl⟩) (fun q => absurd (by rw [← esb]; exact q) c1)⟩)
    · have hq := hq a v hh Sc.rfl' ScV.rfl'
      refine sg_X7_street_0 ?_
      rw [p2]
      refine ⟨fun _ => hq, fun z => t_faultOf p2 p3 ⟨_, rfl, rfl, ?_⟩⟩
      have eN : N = 17 := (nI_eq (b := 17) (by omega) (by omega)).mp z
      subst eN
      rw [okP_0]
      have hl := flt_le (okS (a 0)) 17 0
      refine ⟨fun q => ?_, fun _ => hq⟩
      rw [show (17 : Int32) = nI 17 from rfl, nI_leI (by omega) (by omega)] at q
      exact absurd (isSB_iff.mpr ⟨rfl, by omega⟩) c1
