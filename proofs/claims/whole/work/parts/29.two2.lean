theorem le4_lt5 {x : Int32} : x ≤ 4 ↔ x < 5 := lt_le32 (by decide)
theorem two_as {G : GG} {T : Nat} {a : Fm} {v : Ar} {c : CT} {x1 x2 : Int32} (h : Rel T a v c) (hT : T < 2 ^ 30) : Two G mX6_as mX7_as [(1, .int x1), (2, .int x2)] T a v c := by
  obtain ⟨pf, pn, u, d, g, l, n, fn, fd, ku, kd, kg, kl, kn, kfn, kfd, tu, td, t, wa, le, se, cv⟩ := c
  obtain ⟨hp, ⟨S, s1, s2, s3, s4, st, im⟩, hc1, hc2⟩ := id h
  have hth := v1_iff st
  by_cases c1 : 0 < S ∧ 0 ≤ x1 ∧ x1 ≤ 5
  · obtain ⟨k, hk, ek⟩ := gut c1.2.1 c1.2.2
    subst ek
    have hin : vp_in (nI k) 6 := vp_in_nI hk (by omega)
    have hkw : u 0 k = a 1 k := by
      rcases st with ⟨q, -⟩ | ⟨-, -, R, q1, q2, q3, q4, q5, q6, q7, q8, q9⟩
      · omega
      · exact (q8 k hk).1
    by_cases c2 : 0 ≤ x2 ∧ x2 ≤ 4
    · refine Two.read h (if x2 = 0 ∨ x2 = a 1 k ∨ (x2 = 2 ∧ a 1 k = 4) then nI k else -1) (fun ad Q hq => ?_) (fun ad hh Q hq => ?_)
      · have hq := hq _ ⟨tu, td, t, wa, le, se, rfl⟩
        refine sg_X6_as_0 (t_isGutter s1 (by omega) ⟨_, rfl, rfl, br_iten (fun q => absurd c1 q) (fun _ => ?_)⟩)
        rw [nI_clamp (by omega), hkw]
        refine br_f (Int32.not_lt.mpr c2.1) (br_t (le4_lt5.mp c2.2) ⟨hin, fun z0 => ?_, fun z0 => ⟨fun z1 => ?_, fun z1 => ⟨fun z2 => ?_, fun z2 => ⟨fun z3 => ?_, fun z3 => ?_⟩⟩⟩⟩)
        · rw [if_pos (Or.inl z0)] at hq; exact hq
        · rw [if_pos (Or.inr (Or.inl z1))] at hq; exact hq
        · rw [if_neg (fun z => z.elim z0 (fun z => z.elim z1 (fun z => z2 z.1)))] at hq; exact hq
        · rw [if_neg (fun z => z.elim z0 (fun z => z.elim z1 (fun z => z3 z.2)))] at hq; exact hq
        · rw [if_pos (Or.inr (Or.inr ⟨z2, z3⟩))] at hq; exact hq
      · have hq := hq a v hh Sc.rfl' ScV.rfl'
        refine sg_X7_as_0 (t_mIsGutter ⟨_, rfl, rfl, br_iten (fun q => absurd ⟨hth.mpr c1.1, c1.2⟩ q) (fun _ => ?_)⟩)
        refine t_in 0 4 (by decide) (by decide) ⟨_, rfl, rfl, br_iten (fun q => absurd c2 q) (fun _ => ?_)⟩
        rw [nI_clamp (by omega)]
        refine ⟨fun z0 => ?_, fun z0 => ⟨hin, fun z1 => ?_, fun z1 => ⟨fun z2 => ?_, fun z2 => ⟨fun z3 => ?_, fun z3 => ?_⟩⟩⟩⟩
        · rw [if_pos (Or.inl z0)] at hq; exact hq
        · rw [if_pos (Or.inr (Or.inl z1))] at hq; exact hq
        · rw [if_neg (fun z => z.elim z0 (fun z => z.elim z1 (fun z => z2 z.1)))] at hq; exact hq
        · rw [if_neg (fun z => z.elim z0 (fun z => z.elim z1 (fun z => z3 z.2)))] at hq; exact hq
        · rw [if_pos (Or.inr (Or.inr ⟨z2, z3⟩))] at hq; exact hq
    · refine Two.read h (-102) (fun ad Q hq => ?_) (fun ad hh Q hq => ?_)
      · have hq := hq _ ⟨tu, td, t, wa, le, se, rfl⟩
        refine sg_X6_as_0 (t_isGutter s1 (by omega) ⟨_, rfl, rfl, br_iten (fun q => absurd c1 q) (fun _ => ?_)⟩)
        exact ⟨fun _ => hq, fun z => ⟨fun z2 => absurd ⟨Int32.not_lt.mp z, le4_lt5.mpr z2⟩ c2, fun _ => hq⟩⟩
      · refine sg_X7_as_0 (t_mIsGutter ⟨_, rfl, rfl, br_iten (fun q => absurd ⟨hth.mpr c1.1, c1.2⟩ q) (fun _ => ?_)⟩)
        exact t_in 0 4 (by decide) (by decide) ⟨_, rfl, rfl, br_iten (fun _ => hq a v hh Sc.rfl' ScV.rfl') (fun q => absurd q c2)⟩
  · refine Two.read h (-101) (fun ad Q hq => ?_) (fun ad hh Q hq => ?_)
    · exact sg_X6_as_0 (t_isGutter s1 (by omega) ⟨_, rfl, rfl, br_iten (fun _ => hq _ ⟨tu, td, t, wa, le, se, rfl⟩) (fun q => absurd q c1)⟩)
    · exact sg_X7_as_0 (t_mIsGutter ⟨_, rfl, rfl, br_iten (fun _ => hq a v hh Sc.rfl' ScV.rfl') (fun q => absurd ⟨hth.mp q.1, q.2⟩ c1)⟩)
/-- in(x, 0, n - 1) -/
theorem lt_iff_sub {x : Int32} {n : Nat} (hn : n < 2 ^ 30) : (0 ≤ x ∧ x ≤ nI n - 1) ↔ (0 ≤ x ∧ x < nI n) := by
  have e : (nI n - 1).toInt = (n : Int) - 1 := pk_sub_toInt (b := 1) hn (by decide)
  have e1 : x ≤ nI n - 1 ↔ x < nI n := by
    rw [Int32.le_iff_toInt_le, Int32.lt_iff_toInt_lt, e, nI_toInt (by omega)]
    omega
  exact and_congr Iff.rfl e1
theorem two_word {G : GG} {T : Nat} {a : Fm} {v : Ar} {c : CT} {x1 x2 : Int32} (h : Rel T a v c) (hT : T < 2 ^ 30) : Two G mX6_word mX7_word [(1, .int x1), (2, .int x2)] T a v c := by
  obtain ⟨pf, pn, u, d, g, l, n, fn, fd, ku, kd, kg, kl, kn, kfn, kfd, tu, td, t, wa, le, se, cv⟩ := c
  obtain ⟨hp, ⟨S, s1, s2, s3, s4, st, im⟩, hc1, hc2⟩ := id h
  have hth := v1_iff st
  by_cases c1 : 0 < S ∧ 0 ≤ x1 ∧ x1 ≤ 5
  · obtain ⟨k, hk, ek⟩ := gut c1.2.1 c1.2.2
    subst ek
    have hin : vp_in (nI k) 6 := vp_in_nI hk (by omega)
    rcases st with ⟨q, -⟩ | ⟨-, -, R, q1, q2, q3, q4, q5, q6, q7, q8, q9, q10, q11, q12, q13, q14⟩
    · omega
    obtain ⟨b4, b2, b3, b5, b6, bd⟩ := q9 k hk
    obtain ⟨m, hm, hm2⟩ := q10 k hk
    have hi := lt_iff_sub (x := x2) (n := m) (by omega)
    by_cases c2 : 0 ≤ x2 ∧ x2 < nI m
    · obtain ⟨j, hj, ej⟩ := nI_of (x := x2) (Int32.not_lt.mpr c2.1)
      subst ej
      have hjm : j < m := (nI_ltI (by omega) (by omega)).mp c2.2
      refine Two.read h (a 3 (17 * k + 5 + j)) (fun ad Q hq => ?_) (fun ad hh Q hq => ?_)
      · have hq := hq _ ⟨tu, td, t, wa, le, se, rfl⟩
        refine sg_X6_word_0 (t_isGutter s1 (by omega) ⟨_, rfl, rfl, br_ite (fun q => absurd c1 q) (fun _ => ?_)⟩)
        rw [nI_clamp (by omega), nI_clamp (by omega), b6, hm]
        refine br_f (Int32.not_lt.mpr c2.1) ⟨hin, br_t c2.2 ⟨vp_in_nI (by omega) (by omega), ?_⟩⟩
        rw [bd j (by omega) (by rw [hm]; exact c2.2)]
        exact hq
      · have hq := hq a v hh Sc.rfl' ScV.rfl'
        refine sg_X7_word_0 (t_mIsGutter ⟨_, rfl, rfl, br_ite (fun q => absurd ⟨hth.mpr c1.1, c1.2⟩ q) (fun _ => ?_)⟩)
        rw [e17_4, nI_clamp (by omega), hm, e17_5, nI_add, nI_clamp (by omega)]
        refine ⟨vp_in_nI (by omega) (by omega), t_in 0 (nI m - 1) (by decide) rfl ⟨_, rfl, rfl, br_ite (fun q => absurd (hi.mpr c2) q) (fun _ => ⟨vp_in_nI (by omega) (by omega), hq⟩)⟩⟩
    · refine Two.read h (-101) (fun ad Q hq => ?_) (fun ad hh Q hq => ?_)
      · have hq := hq _ ⟨tu, td, t, wa, le, se, rfl⟩
        refine sg_X6_word_0 (t_isGutter s1 (by omega) ⟨_, rfl, rfl, br_ite (fun q => absurd c1 q) (fun _ => ?_)⟩)
        rw [nI_clamp (by omega), b6, hm]
        exact ⟨fun _ => hq, fun z => ⟨hin, fun z2 => absurd ⟨Int32.not_lt.mp z, z2⟩ c2, fun _ => hq⟩⟩
      · have hq := hq a v hh Sc.rfl' ScV.rfl'
        refine sg_X7_word_0 (t_mIsGutter ⟨_, rfl, rfl, br_ite (fun q => absurd ⟨hth.mpr c1.1, c1.2⟩ q) (fun _ => ?_)⟩)
        rw [e17_4, nI_clamp (by omega), hm]
        exact ⟨vp_in_nI (by omega) (by omega), t_in 0 (nI m - 1) (by decide) rfl ⟨_, rfl, rfl, br_ite (fun _ => hq) (fun q => absurd (hi.mp q) c2)⟩⟩
  · refine Two.read h (-101) (fun ad Q hq => ?_) (fun ad hh Q hq => ?_)
    · exact sg_X6_word_0 (t_isGutter s1 (by omega) ⟨_, rfl, rfl, br_ite (fun _ => hq _ ⟨tu, td, t, wa, le, se, rfl⟩) (fun q => absurd q c1)⟩)
    · exact sg_X7_word_0 (t_mIsGutter ⟨_, rfl, rfl, br_ite (fun _ => hq a v hh Sc.rfl' ScV.rfl') (fun q => absurd ⟨hth.mp q.1, q.2⟩ c1)⟩)
/-- how many have fallen -/
theorem Rel.rain {T : Nat} {a : Fm} {v : Ar} {pf : Ar} {pn : Int32} {u d : Fm} {g l : Ar} {n : Int32} {fn : Ar} {fd ku kd : Fm} {kg kl : Ar} {kn : Int32} {kfn : Ar} {kfd tu td : Fm} {t wa le se cv : Ar} (h : Rel T a v (pf, pn, u, d, g, l, n, fn, fd, ku, kd, kg, kl, kn, kfn, kfd, tu, td, t, wa, le, se, cv)) : ∃ R, R ≤ 12 ∧ n = nI R ∧ v 3 = nI R ∧ (0 < R → Eqn 12 g (a 4) ∧ Eqn 12 l (a 5)) := by
  obtain ⟨hp, ⟨S, s1, s2, s3, s4, st, im⟩, hc1, hc2⟩ := h
  rcases st with ⟨q, q1, q2, q3, -⟩ | ⟨-, -, R, q1, q2, q3, q4, q5, q6, q7, q8⟩
  · exact ⟨0, by omega, q2, q3, fun z => by omega⟩
  · exact ⟨R, q3, q1, q2, fun _ => ⟨q6, q7⟩⟩
theorem two_rain {G : GG} {T : Nat} {a : Fm} {v : Ar} {c : CT} {x1 x2 : Int32} (h : Rel T a v c) : Two G mX6_rain mX7_rain [(1, .int x1), (2, .int x2)] T a v c := by
  obtain ⟨pf, pn, u, d, g, l, n, fn, fd, ku, kd, kg, kl, kn, kfn, kfd, tu, td, t, wa, le, se, cv⟩ := c
  obtain ⟨R, r1, r2, r3, r4⟩ := h.rain
  have hi := lt_iff_sub (x := x1) (n := R) (by omega)
  by_cases c1 : 0 ≤ x1 ∧ x1 < nI R
  · obtain ⟨j, hj, ej⟩ := nI_of (x := x1) (Int32.not_lt.mpr c1.1)
    subst ej
    have hjR : j < R := (nI_ltI (by omega) (by omega)).mp c1.2
    obtain ⟨r5, r6⟩ := r4 (by omega)
    have hin : vp_in (nI j) 12 := vp_in_nI (by omega) (by omega)
    refine Two.read h (if x2 = 0 then a 4 j else if x2 = 1 then a 5 j else -102) (fun ad Q hq => ?_) (fun ad hh Q hq => ?_)
    · have hq := hq _ ⟨tu, td, t, wa, le, se, rfl⟩
      refine sg_X6_rain_0 (t_isDrop ⟨_, rfl, rfl, ?_⟩)
      rw [nI_clamp (by omega), r5 j (by omega), r6 j (by omega)]
      refine br_iten (fun q => absurd (by rw [r2]; exact c1) q) (fun _ => ⟨fun z => ⟨hin, ?_⟩, fun z => ⟨fun z2 => ⟨hin, ?_⟩, fun z2 => ?_⟩⟩)
      · rw [if_pos z] at hq; exact hq
      · rw [if_neg z, if_pos z2] at hq; exact hq
      · rw [if_neg z, if_neg z2] at hq; exact hq
    · have hq := hq a v hh Sc.rfl' ScV.rfl'
      refine sg_X7_rain_0 ?_
      rw [r3, nI_clamp (by omega)]
      refine t_in 0 (nI R - 1) (by decide) rfl ⟨_, rfl, rfl, br_iten (fun q => absurd (hi.mpr c1) q) (fun _ => ⟨fun z => ⟨fun z2 => ?_, fun z2 => ⟨hin, ?_⟩⟩, fun z => ⟨hin, ?_⟩⟩)⟩
      · rw [if_neg z, if_neg z2] at hq; exact hq
      · rw [if_neg z, if_pos z2] at hq; exact hq
      · rw [if_pos z] at hq; exact hq
  · refine Two.read h (-101) (fun ad Q hq => ?_) (fun ad hh Q hq => ?_)
    · exact sg_X6_rain_0 (t_isDrop ⟨_, rfl, rfl, br_iten (fun _ => hq _ ⟨tu, td, t, wa, le, se, rfl⟩) (fun q => absurd (by rw [r2] at q; exact q) c1)⟩)
    · refine sg_X7_rain_0 ?_
      rw [r3]
      exact t_in 0 (nI R - 1) (by decide) rfl ⟨_, rfl, rfl, br_iten (fun _ => hq a v hh Sc.rfl' ScV.rfl') (fun q => absurd (hi.mp q) c1)⟩
theorem two_dry {G : GG} {T : Nat} {a : Fm} {v : Ar} {c : CT} (h : Rel T a v c) (hT : T < 2 ^ 30) : Two G mX6_dry mX7_dry [] T a v c := by
  obtain ⟨pf, pn, u, d, g, l, n, fn, fd, ku, kd, kg, kl, kn, kfn, kfd, tu, td, t, wa, le, se, cv⟩ := c
  obtain ⟨hp, ⟨S, s1, s2, s3, s4, st, im⟩, hc1, hc2⟩ := id h
  have hth := v1_iff st
  by_cases c1 : 0 < S
  · rcases st with ⟨q, -⟩ | ⟨-, q0, R, q1, q2, q3, q4, q5, q6, q7, q8, q9, q10, q11, q12, q13, q14⟩
    · omega
    refine ⟨nI R, fun c' => c' = (pf, pn, clU u, d, g, l, 0, fn, fd, ku, kd, kg, kl, kn, kfn, kfd, tu, td, t, wa, le, se, cv), fun ad => ?_, fun ad hh => ?_⟩
    · refine sg_X6_dry_0 (t_hasStreet s1 (by omega) ⟨_, rfl, rfl, br_iten (fun q => absurd c1 q) (fun _ => t_clear ⟨_, rfl, rfl, ?_⟩)⟩)
      rw [q1]
      exact ⟨rfl, _, rfl, rfl⟩
    · refine sg_X7_dry_0 ⟨fun _ => t_dryRows ⟨_, rfl, rfl, ?_⟩, fun q => absurd q (hth.mpr c1)⟩
      rw [q2]
      refine ⟨rfl, _, _, _, rfl, ?_⟩
      intro c' hc
      subst hc
      refine ⟨hp, ⟨S, s1, s2, by omega, s4, Or.inr ⟨c1, q0, 0, rfl, rfl, by omega, fun j hj => absurd hj (Nat.not_lt_zero j), fun j hj => absurd hj (Nat.not_lt_zero j), q6, q7, ?_, SR_clear, LN_dry, q11, q12, q13, q14⟩, im⟩, hc1, hc2⟩
      intro i hi
      rw [clU_0, clU_1]
      exact q8 i hi
  · refine Two.read h (-103) (fun ad Q hq => ?_) (fun ad hh Q hq => ?_)
    · exact sg_X6_dry_0 (t_hasStreet s1 (by omega) ⟨_, rfl, rfl, br_iten (fun _ => hq _ ⟨tu, td, t, wa, le, se, rfl⟩) (fun q => absurd q c1)⟩)
    · exact sg_X7_dry_0 ⟨fun q => absurd (hth.mp q) c1, fun _ => hq a v hh Sc.rfl' ScV.rfl'⟩
theorem SR.u1 {u u' d : Fm} {f : Ar} (h : SR u d f) (e : ∀ j, j ≠ 1 → u' j = u j) : SR u' d f := fun g hg => by
  obtain ⟨a1, a2, a3, a4, a5, a6⟩ := h g hg
  refine ⟨?_, ?_, fun q => ?_, ?_, ?_, a6⟩
  · rw [e 4 (by omega)]; exact a1
  · rw [e 2 (by omega)]; exact a2
  · rw [e 0 (by omega)] at q; rw [e 3 (by omega)]; exact a3 q
  · rw [e 5 (by omega)]; exact a4
  · rw [e 6 (by omega)]; exact a5
theorem two_turn {G : GG} {T : Nat} {a : Fm} {v : Ar} {c : CT} {x1 x2 : Int32} (h : Rel T a v c) (hT : T < 2 ^ 30) : Two G mX6_turn mX7_turn [(1, .int x1), (2, .int x2)] T a v c := by
  obtain ⟨pf, pn, u, d, g, l, n, fn, fd, ku, kd, kg, kl, kn, kfn, kfd, tu, td, t, wa, le, se, cv⟩ := c
  obtain ⟨hp, ⟨S, s1, s2, s3, s4, st, im⟩, hc1, hc2⟩ := id h
  have hth := v1_iff st
  by_cases c1 : 0 < S ∧ 0 ≤ x1 ∧ x1 ≤ 5
  · obtain ⟨k, hk, ek⟩ := gut c1.2.1 c1.2.2
    subst ek
    have hin : vp_in (nI k) 6 := vp_in_nI hk (by omega)
    have rg2 : (nI k + 1 ≤ x2 ∧ x2 ≤ 5) ↔ (¬ x2 ≤ nI k ∧ x2 < 6) := by
      rw [← nI_succ, Int32.not_le, Int32.lt_iff_toInt_lt, Int32.lt_iff_toInt_lt, Int32.le_iff_toInt_le, Int32.le_iff_toInt_le, nI_toInt (by omega), nI_toInt (by omega)]
      have z5 : (5 : Int32).toInt = 5 := by decide
      have z6 : (6 : Int32).toInt = 6 := by decide
      omega
    by_cases c2 : x2 = -1 ∨ (¬ x2 ≤ nI k ∧ x2 < 6)
    · rcases st with ⟨q, -⟩ | ⟨-, q0, R, q1, q2, q3, q4, q5, q6, q7, q8, q9, q10, q11, q12, q13, q14⟩
      · omega
      have wok : x2 = -1 ∨ ∃ t, x2 = nI t ∧ k < t ∧ t < 6 := by
        rcases c2 with q | ⟨q, z⟩
        · exact Or.inl q
        · obtain ⟨j, hj, ej⟩ := nI_of (x := x2) (fun w => q (Int32.le_trans (Int32.le_of_lt w) (nI_pos' (by omega))))
          subst ej
          refine Or.inr ⟨j, rfl, ?_, (nI_ltI (b := 6) (by omega) (by omega)).mp z⟩
          rw [nI_leI (by omega) (by omega)] at q
          omega
      refine ⟨a 2 k, fun c' => c' = (pf, pn, va_up u 1 (upd (u 1) k x2), d, g, l, n, fn, fd, ku, kd, kg, kl, kn, kfn, kfd, tu, td, t, wa, le, se, cv), fun ad => ?_, fun ad hh => ?_⟩
      · refine sg_X6_turn_0 (t_isGutter s1 (by omega) ⟨_, rfl, rfl, br_iten (fun q => absurd c1 q) (fun _ => ?_)⟩)
        rw [nI_clamp (by omega), (q8 k hk).2]
        refine ⟨fun _ => ⟨hin, rfl, _, rfl, rfl⟩, fun z => ⟨fun z2 => ?_, fun z2 => ⟨fun _ => ⟨hin, rfl, _, rfl, rfl⟩, fun z3 => ?_⟩⟩⟩
        · rcases c2 with q | q
          · exact absurd q z
          · exact absurd z2 q.1
        · rcases c2 with q | q
          · exact absurd q z
          · exact absurd q.2 z3
      · have fin : ∀ c', c' = (pf, pn, va_up u 1 (upd (u 1) k x2), d, g, l, n, fn, fd, ku, kd, kg, kl, kn, kfn, kfd, tu, td, t, wa, le, se, cv) → Rel (T + 1) (va_up a 2 (upd (a 2) k x2)) v c' := by
          intro c' hc
          subst hc
          refine ⟨hp, ⟨S, s1, s2, by omega, s4, Or.inr ⟨c1.1, q0, R, q1, q2, q3, q4, q5, q6, q7, ?_, q9.u1 (fun j hj => by simp only [va_up]; rw [if_neg hj]), q10, ?_, q12, q13, q14⟩, ?_⟩, hc1, hc2⟩
          · intro i hi
            refine ⟨(q8 i hi).1, ?_⟩
            show upd (u 1) k x2 i = upd (a 2) k x2 i
            by_cases e : i = k
            · rw [e, pk_us, pk_us]
            · rw [upd_at e, upd_at e]; exact (q8 i hi).2
          · intro i hi
            show upd (a 2) k x2 i = -1 ∨ _
            by_cases e : i = k
            · subst e
              rcases wok with q | ⟨t, ht, h1, h2⟩
              · exact Or.inl (by rw [pk_us]; exact q)
              · exact Or.inr ⟨t, by show upd (a 2) i x2 i = _; rw [pk_us]; exact ht, h1, h2⟩
            · rcases q11 i hi with q | ⟨t, ht, h1, h2⟩
              · exact Or.inl (by rw [upd_at e]; exact q)
              · exact Or.inr ⟨t, by show upd (a 2) k x2 i = _; rw [upd_at e]; exact ht, h1, h2⟩
          · exact im
        refine sg_X7_turn_0 (t_mIsGutter ⟨_, rfl, rfl, br_iten (fun q => absurd ⟨hth.mpr c1.1, c1.2⟩ q) (fun _ => ?_)⟩)
        rw [nI_clamp (by omega)]
        refine ⟨fun _ => ⟨hin, rfl, _, _, _, rfl, fin⟩, fun z => ?_⟩
        refine t_in (nI k + 1) 5 rfl (by decide) ⟨_, rfl, rfl, br_iten (fun q => ?_) (fun _ => ⟨hin, rfl, _, _, _, rfl, fin⟩)⟩
        rcases c2 with w | w
        · exact absurd w z
        · exact absurd (rg2.mpr w) q
    · refine Two.read h (-102) (fun ad Q hq => ?_) (fun ad hh Q hq => ?_)
      · have hq := hq _ ⟨tu, td, t, wa, le, se, rfl⟩
        refine sg_X6_turn_0 (t_isGutter s1 (by omega) ⟨_, rfl, rfl, br_iten (fun q => absurd c1 q) (fun _ => ?_)⟩)
        exact ⟨fun z => absurd (Or.inl z) c2, fun z => ⟨fun _ => hq, fun z2 => ⟨fun z3 => absurd (Or.inr ⟨z2, z3⟩) c2, fun _ => hq⟩⟩⟩
      · have hq := hq a v hh Sc.rfl' ScV.rfl'
        refine sg_X7_turn_0 (t_mIsGutter ⟨_, rfl, rfl, br_iten (fun q => absurd ⟨hth.mpr c1.1, c1.2⟩ q) (fun _ => ⟨fun z => absurd (Or.inl z) c2, fun z => ?_⟩)⟩)
        exact t_in (nI k + 1) 5 rfl (by decide) ⟨_, rfl, rfl, br_iten (fun _ => hq) (fun q => absurd (Or.inr (rg2.mp q)) c2)⟩
  · refine Two.read h (-101) (fun ad Q hq => ?_) (fun ad hh Q hq => ?_)
    · exact sg_X6_turn_0 (t_isGutter s1 (by omega) ⟨_, rfl, rfl, br_iten (fun _ => hq _ ⟨tu, td, t, wa, le, se, rfl⟩) (fun q => absurd q c1)⟩)
    · exact sg_X7_turn_0 (t_mIsGutter ⟨_, rfl, rfl, br_iten (fun _ => hq a v hh Sc.rfl' ScV.rfl') (fun q => absurd ⟨hth.mp q.1, q.2⟩ c1)⟩)
