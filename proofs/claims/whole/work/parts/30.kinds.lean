theorem SR_DRY {u d : Fm} (h2 : ∀ g, g < 6 → u 2 g = -1) (h3 : ∀ g, g < 6 → u 3 g = 0) (h4 : ∀ g, g < 6 → u 4 g = 0) (h5 : ∀ g, g < 6 → u 5 g = 0) (h6 : ∀ g, g < 6 → u 6 g = 0) : SR u d DRY := by
  intro g hg
  have e : ∀ k, k < 17 → DRY (17 * g + k) = if k = 1 then -1 else 0 := fun k hk => by
    simp only [DRY]
    rw [show (17 * g + k) % 17 = k by omega]
  refine ⟨?_, ?_, fun _ => ?_, ?_, ?_, fun j hj hl => ?_⟩
  · rw [h4 g hg]; exact (e 0 (by omega)).symm
  · rw [h2 g hg, e 1 (by omega)]; rfl
  · rw [h3 g hg, e 2 (by omega)]; rfl
  · rw [h5 g hg, e 3 (by omega)]; rfl
  · rw [h6 g hg, e 4 (by omega)]; rfl
  · rw [e 4 (by omega), if_neg (by omega)] at hl
    exact absurd hl (nI_pos (by omega))
theorem ly2 {u u1 : Fm} {g : Nat} (h : g < 6) : lyU u u1 2 g = -1 := clU_2 h
theorem ly3 {u u1 : Fm} {g : Nat} (h : g < 6) : lyU u u1 3 g = 0 := clU_3 h
theorem ly4 {u u1 : Fm} {g : Nat} (h : g < 6) : lyU u u1 4 g = 0 := clU_4 h
theorem ly5 {u u1 : Fm} {g : Nat} (h : g < 6) : lyU u u1 5 g = 0 := clU_5 h
theorem ly6 {u u1 : Fm} {g : Nat} (h : g < 6) : lyU u u1 6 g = 0 := clU_6 h
theorem SR_ly {u u1 d : Fm} : SR (lyU u u1) d DRY := SR_DRY (fun _ h => ly2 h) (fun _ h => ly3 h) (fun _ h => ly4 h) (fun _ h => ly5 h) (fun _ h => ly6 h)
theorem nI_ne_m1 {j : Nat} (h : j < 2 ^ 31) : ¬ nI j = -1 := fun e => by
  have := nI_pos h
  rw [e] at this
  exact this (by decide)
theorem RG.cong {rg rg' : Ar} {n : Nat} (h : RG rg n) (e : Eqn 12 rg' rg) (hn : n ≤ 12) : RG rg' n := fun j hj => by rw [e j (by omega)]; exact h j hj
theorem FN.cong {fn fn' : Ar} (h : FN fn) (e : Eqn 6 fn' fn) : FN fn' := fun g hg => by rw [e g hg]; exact h g hg
/-- RainLetters.kindOf, of a gutter -/
theorem c_kindOf {G : GG} {ad : Nat → Nat} {pf : Ar} {pn : Int32} {u d : Fm} {g l : Ar} {n : Int32} {fn : Ar} {fd ku kd : Fm} {kg kl : Ar} {kn : Int32} {kfn : Ar} {kfd tu td : Fm} {t wa le se cv : Ar} {a : Fm} {rn : Int32} {S R k : Nat} {Q : Option Value → va_W → Prop} (s1 : cv 1 = nI S) (hS : 0 < S) (hS2 : S < 2 ^ 31) (hk : k < 6) (hc : SCN u d g l n fn fd (a 1) (a 2) (a 3) (a 4) (a 5) rn (a 12) (a 13) R)
    (h : ∀ tu td, Q (some (.int (nI (bitS (kdP a R k) 5)))) (rlW G ad 0 pf pn u d g l n fn fd ku kd kg kl kn kfn kfd tu td t wa le se cv)) : J G mX6_kindOf 0 [(0, .ref (ad 0)), (1, .int (nI k))] [] (rlW G ad 0 pf pn u d g l n fn fd ku kd kg kl kn kfn kfd tu td t wa le se cv) Q := by
  obtain ⟨q1, q2, q3, q4, q5, q6, q7, q8, q9, q10, q11, q12, q13, q14⟩ := hc
  subst q1
  refine sg_X6_kindOf_0 (t_isGutter s1 hS2 ⟨_, rfl, rfl, br_iten (fun q => absurd ⟨hS, nI_pos' (by omega), nI_le (b := 5) (by omega) (by omega)⟩ q) (fun _ => ?_)⟩)
  have H : ∀ x, x ≤ 5 → ∀ tu td, J G mX6_kindOf 15 [(0, .ref (ad 0)), (1, .int (nI k)), (2, .int (nI (bitS (kdP a R k) x))), (3, .int (nI x))] [] (rlW G ad 0 pf pn u d g l (nI R) fn fd ku kd kg kl kn kfn kfd tu td t wa le se cv) Q := by
    refine forDn ?_ (fun x hx ih => ?_)
    · intro tu td
      exact sg_X6_kindOf_15 (br_t (le_rfl32 _) (h tu td))
    · intro tu td
      refine sg_X6_kindOf_15 (br_f (ge5 hx) (t_layLike ⟨_, rfl, rfl, vp_in_nI hk (by omega), ?_⟩))
      rw [nI_clamp (by omega)]
      refine t_runAll (k := upd (a 1) k (nI x)) (w := a 2) (f := DRY) (rl2 := l) q3 (fun i hi => ?_) q11 ?_ LN_DRY (q4.cong q6 q3) (fun j hj => by rw [if_neg (nI_ne_m1 (by omega))]) (fun u' d' b1 b2 b3 => ⟨d', u', rfl, rfl, ?_⟩)
      · refine ⟨?_, by show lyU tu u 1 i = _; rw [lyU_1 hi]; exact (q8 i hi).2⟩
        show upd (lyU tu u 0) k (nI x) i = _
        by_cases e : i = k
        · rw [e, pk_us, pk_us]
        · rw [upd_at e, upd_at e, lyU_0 hi]; exact (q8 i hi).1
      · exact SR_DRY (fun _ hh => ly2 hh) (fun _ hh => ly3 hh) (fun _ hh => ly4 hh) (fun _ hh => ly5 hh) (fun _ hh => ly6 hh)
      · refine t_fit (q12.cong q13) ⟨_, rfl, rfl, ?_⟩
        have hSR : SR u' d' (FALL (upd (a 1) k (nI x)) (a 2) (a 4) (a 5) R) := b1.cong (fallF_cong (fun _ _ => rfl) (fun _ _ => rfl) q11 EqR.rfl' R (q4.cong q6 q3) (fun j hj => q6 j (by omega)) (fun j hj => q7 j (by omega)))
        have ep : fitB fn fd u' d' 6 = kdP a R k x := fitB_fitM hSR q12 q13 q14 6 (Nat.le_refl _)
        rw [ep, ← nI_succ, orbit x (by omega) _ (bitS_lt _ x)]
        simp only [bitS] at ih
        refine br_ite (fun z => ?_) (fun z => ?_)
        · rw [if_neg z, Nat.add_zero] at ih; exact ih u' d'
        · rw [if_pos z] at ih; exact ih u' d'
  exact H 0 (Nat.zero_le _) tu td
/-- RainLetters.letterOf, of a drop -/
theorem c_letterOf {G : GG} {ad : Nat → Nat} {pf : Ar} {pn : Int32} {u d : Fm} {g l : Ar} {n : Int32} {fn : Ar} {fd ku kd : Fm} {kg kl : Ar} {kn : Int32} {kfn : Ar} {kfd tu td : Fm} {t wa le se cv : Ar} {a : Fm} {rn : Int32} {R k : Nat} {Q : Option Value → va_W → Prop} (hk : k < R) (hc : SCN u d g l n fn fd (a 1) (a 2) (a 3) (a 4) (a 5) rn (a 12) (a 13) R)
    (h : ∀ tu td, Q (some (.int (nI (bitS (ltP a R k) 5)))) (rlW G ad 0 pf pn u d g l n fn fd ku kd kg kl kn kfn kfd tu td t wa le se cv)) : J G mX6_letterOf 0 [(0, .ref (ad 0)), (1, .int (nI k))] [] (rlW G ad 0 pf pn u d g l n fn fd ku kd kg kl kn kfn kfd tu td t wa le se cv) Q := by
  obtain ⟨q1, q2, q3, q4, q5, q6, q7, q8, q9, q10, q11, q12, q13, q14⟩ := hc
  subst q1
  refine sg_X6_letterOf_0 (t_isDrop ⟨_, rfl, rfl, br_iten (fun q => absurd ⟨nI_pos' (by omega), nI_lt hk (by omega)⟩ q) (fun _ => ?_)⟩)
  have H : ∀ x, x ≤ 5 → ∀ tu td, J G mX6_letterOf 15 [(0, .ref (ad 0)), (1, .int (nI k)), (2, .int (nI (bitS (ltP a R k) x))), (3, .int (nI x))] [] (rlW G ad 0 pf pn u d g l (nI R) fn fd ku kd kg kl kn kfn kfd tu td t wa le se cv) Q := by
    refine forDn ?_ (fun x hx ih => ?_)
    · intro tu td
      exact sg_X6_letterOf_15 (br_t (le_rfl32 _) (h tu td))
    · intro tu td
      refine sg_X6_letterOf_15 (br_f (ge5 hx) (t_layLike ⟨_, rfl, rfl, ?_⟩))
      refine t_runAll (k := a 1) (w := a 2) (f := DRY) (rl2 := upd l k (nI x)) q3 (KW_ly q8) q11 SR_ly LN_DRY (q4.cong q6 q3) (fun j hj => ?_) (fun u' d' b1 b2 b3 => ⟨d', u', rfl, rfl, ?_⟩)
      · simp only [upd]
        exact if_iff (nI_eq (by omega) (by omega)).symm _ _
      · refine t_fit (q12.cong q13) ⟨_, rfl, rfl, ?_⟩
        have hSR : SR u' d' (FALL (a 1) (a 2) (a 4) (upd (a 5) k (nI x)) R) := b1.cong (fallF_cong (fun _ _ => rfl) (fun _ _ => rfl) q11 EqR.rfl' R (q4.cong q6 q3) (fun j hj => q6 j (by omega)) (fun j hj => by
          simp only [upd]
          by_cases e : j = k
          · rw [if_pos e, if_pos e]
          · rw [if_neg e, if_neg e]; exact q7 j (by omega)))
        have ep : fitB fn fd u' d' 6 = ltP a R k x := fitB_fitM hSR q12 q13 q14 6 (Nat.le_refl _)
        rw [ep, ← nI_succ, orbit x (by omega) _ (bitS_lt _ x)]
        simp only [bitS] at ih
        refine br_ite (fun z => ?_) (fun z => ?_)
        · rw [if_neg z, Nat.add_zero] at ih; exact ih u' d'
        · rw [if_pos z] at ih; exact ih u' d'
  exact H 0 (Nat.zero_le _) tu td
theorem SCN.mok {u d : Fm} {g l : Ar} {n : Int32} {fn : Ar} {fd : Fm} {a : Fm} {v : Ar} {R : Nat} (h : SCN u d g l n fn fd (a 1) (a 2) (a 3) (a 4) (a 5) (v 3) (a 12) (a 13) R) : MOK a v R := by
  obtain ⟨q1, q2, q3, q4, q5, q6, q7, q8, q9, q10, q11, q12, q13, q14⟩ := h
  exact ⟨q2, q3, q4, q11, q12⟩
theorem two_kindOf {G : GG} {T : Nat} {a : Fm} {v : Ar} {c : CT} {x1 : Int32} (h : Rel T a v c) (hT : T < 2 ^ 30) : Two G mX6_kindOf mX7_kindOf [(1, .int x1)] T a v c := by
  obtain ⟨pf, pn, u, d, g, l, n, fn, fd, ku, kd, kg, kl, kn, kfn, kfd, tu, td, t, wa, le, se, cv⟩ := c
  obtain ⟨hp, ⟨S, s1, s2, s3, s4, st, im⟩, hc1, hc2⟩ := id h
  have hth := v1_iff st
  by_cases c1 : 0 < S ∧ 0 ≤ x1 ∧ x1 ≤ 5
  · obtain ⟨k, hk, ek⟩ := gut c1.2.1 c1.2.2
    subst ek
    rcases st with ⟨q, -⟩ | ⟨-, -, R, hR⟩
    · omega
    refine Two.read h (nI (bitS (kdP a R k) 5)) (fun ad Q hq => ?_) (fun ad hh Q hq => ?_)
    · exact c_kindOf s1 c1.1 (by omega) hk hR (fun tu' td' => hq _ ⟨tu', td', t, wa, le, se, rfl⟩)
    · refine sg_X7_kindOf_0 (t_mIsGutter ⟨_, rfl, rfl, br_ite (fun q => absurd ⟨hth.mpr c1.1, c1.2⟩ q) (fun _ => ?_)⟩)
      exact t_kindBits hR.mok hk (fun a' ha => ⟨_, a', rfl, rfl, hq a' v hh ha ScV.rfl'⟩)
  · refine Two.read h (-101) (fun ad Q hq => ?_) (fun ad hh Q hq => ?_)
    · exact sg_X6_kindOf_0 (t_isGutter s1 (by omega) ⟨_, rfl, rfl, br_iten (fun _ => hq _ ⟨tu, td, t, wa, le, se, rfl⟩) (fun q => absurd q c1)⟩)
    · exact sg_X7_kindOf_0 (t_mIsGutter ⟨_, rfl, rfl, br_ite (fun _ => hq a v hh Sc.rfl' ScV.rfl') (fun q => absurd ⟨hth.mp q.1, q.2⟩ c1)⟩)
theorem two_letterOf {G : GG} {T : Nat} {a : Fm} {v : Ar} {c : CT} {x1 : Int32} (h : Rel T a v c) : Two G mX6_letterOf mX7_letterOf [(1, .int x1)] T a v c := by
  obtain ⟨pf, pn, u, d, g, l, n, fn, fd, ku, kd, kg, kl, kn, kfn, kfd, tu, td, t, wa, le, se, cv⟩ := c
  obtain ⟨R, r1, r2, r3, r4⟩ := h.rain
  have hi := lt_iff_sub (x := x1) (n := R) (by omega)
  by_cases c1 : 0 ≤ x1 ∧ x1 < nI R
  · obtain ⟨j, hj, ej⟩ := nI_of (x := x1) (Int32.not_lt.mpr c1.1)
    subst ej
    have hjR : j < R := (nI_ltI (by omega) (by omega)).mp c1.2
    obtain ⟨hp, ⟨S, s1, s2, s3, s4, st, im⟩, hc1, hc2⟩ := id h
    rcases st with ⟨q, q1, q2, -⟩ | ⟨-, -, R2, hR⟩
    · rw [q2] at r2
      have := (nI_eq (a := 0) (by omega) (by omega)).mp r2
      omega
    have eR : R2 = R := (nI_eq (by have := hR.2.2.1; omega) (by omega)).mp (hR.1.symm.trans r2)
    subst eR
    refine Two.read h (nI (bitS (ltP a R2 j) 5)) (fun ad Q hq => ?_) (fun ad hh Q hq => ?_)
    · exact c_letterOf hjR hR (fun tu' td' => hq _ ⟨tu', td', t, wa, le, se, rfl⟩)
    · refine sg_X7_letterOf_0 ?_
      rw [r3]
      refine t_in 0 (nI R2 - 1) (by decide) rfl ⟨_, rfl, rfl, br_ite (fun q => absurd (hi.mpr c1) q) (fun _ => ?_)⟩
      exact t_letterBits hR.mok hjR (fun a' ha => ⟨_, a', rfl, rfl, hq a' v hh ha ScV.rfl'⟩)
  · refine Two.read h (-101) (fun ad Q hq => ?_) (fun ad hh Q hq => ?_)
    · exact sg_X6_letterOf_0 (t_isDrop ⟨_, rfl, rfl, br_iten (fun _ => hq _ ⟨tu, td, t, wa, le, se, rfl⟩) (fun q => absurd (by rw [r2] at q; exact q) c1)⟩)
    · refine sg_X7_letterOf_0 ?_
      rw [r3]
      exact t_in 0 (nI R - 1) (by decide) rfl ⟨_, rfl, rfl, br_ite (fun _ => hq a v hh Sc.rfl' ScV.rfl') (fun q => absurd (hi.mp q) c1)⟩
