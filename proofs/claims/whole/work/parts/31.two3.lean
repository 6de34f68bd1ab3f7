/-! drop, forget, found, image, restore -/
theorem SCN.cong {u u' d d' : Fm} {g g' l l' : Ar} {n : Int32} {fn fn' : Ar} {fd fd' : Fm} {kn wy wy' rw rw' rg rg' rl rl' : Ar} {rn : Int32} {fm fm' fr fr' : Ar} {R : Nat} (h : SCN u d g l n fn fd kn wy rw rg rl rn fm fr R) (e1 : EqU u' u) (e2 : EqD 12 d' d) (e3 : Eqn 12 g' g) (e4 : Eqn 12 l' l) (e5 : Eqn 6 fn' fn) (e6 : EqD 8 fd' fd) (m1 : Eqn 6 wy' wy) (m2 : EqR rw' rw) (m3 : Eqn 12 rg' rg) (m4 : Eqn 12 rl' rl) (m5 : Eqn 6 fm' fm) (m6 : Eqn 48 fr' fr) : SCN u' d' g' l' n fn' fd' kn wy' rw' rg' rl' rn fm' fr' R := by
  obtain ⟨q1, q2, q3, q4, q5, q6, q7, q8, q9, q10, q11, q12, q13, q14⟩ := h
  refine ⟨q1, q2, q3, q4.cong m3 q3, fun j hj => by rw [m4 j (by omega)]; exact q5 j hj, fun j hj => by rw [e3 j hj, m3 j hj]; exact q6 j hj, fun j hj => by rw [e4 j hj, m4 j hj]; exact q7 j hj, fun i hi => ?_, fun i hi => ?_, q10.cong m2.symm, q11.cong (fun j hj => (m1 j hj).symm), q12.cong m5, fun j hj => by rw [e5 j hj, m5 j hj]; exact q13 j hj, fun i hi k hk h8 j hj => ?_⟩
  · rw [e1 0 (by omega) i hi, e1 1 (by omega) i hi, m1 i hi]; exact q8 i hi
  · obtain ⟨a1, a2, a3, a4, a5, a6⟩ := (q9.cong m2.symm) i hi
    refine ⟨by rw [e1 4 (by omega) i hi]; exact a1, by rw [e1 2 (by omega) i hi]; exact a2, fun q => ?_, by rw [e1 5 (by omega) i hi]; exact a4, by rw [e1 6 (by omega) i hi]; exact a5, fun j hj hl => by rw [e2 i hi j hj]; exact a6 j hj hl⟩
    rw [e1 0 (by omega) i hi] at q
    rw [e1 3 (by omega) i hi]
    exact a3 q
  · rw [e6 i hi j (by omega), m6 (8 * i + j) (by omega)]
    exact q14 i hi k (by rw [← m5 i hi]; exact hk) h8 j hj
theorem two_drop {G : GG} {T : Nat} {a : Fm} {v : Ar} {c : CT} {x1 x2 : Int32} (h : Rel T a v c) (hT : T < 2 ^ 30) : Two G mX6_drop mX7_drop [(1, .int x1), (2, .int x2)] T a v c := by
  obtain ⟨pf, pn, u, d, g, l, n, fn, fd, ku, kd, kg, kl, kn, kfn, kfd, tu, td, t, wa, le, se, cv⟩ := c
  obtain ⟨hp, ⟨S, s1, s2, s3, s4, st, im⟩, hc1, hc2⟩ := id h
  have hth := v1_iff st
  by_cases c1 : 0 < S ∧ 0 ≤ x1 ∧ x1 ≤ 5
  · by_cases c2 : 0 ≤ x2 ∧ x2 ≤ 4
    · obtain ⟨k, hk, ek⟩ := gut c1.2.1 c1.2.2
      subst ek
      rcases st with ⟨q, -⟩ | ⟨-, q0, R, q1, q2, q3, q4, q5, q6, q7, q8, q9, q10, q11, q12, q13, q14⟩
      · omega
      subst q1
      by_cases c3 : R = 12
      · refine Two.read h (-104) (fun ad Q hq => ?_) (fun ad hh Q hq => ?_)
        · refine sg_X6_drop_0 (t_isGutter s1 (by omega) ⟨_, rfl, rfl, br_iten (fun q => absurd c1 q) (fun _ => t_isLetter ⟨_, rfl, rfl, br_iten (fun q => absurd c2 q) (fun _ => br_f ?_ (hq _ ⟨tu, td, t, wa, le, se, rfl⟩))⟩)⟩)
          rw [c3]; decide
        · refine sg_X7_drop_0 (t_mIsGutter ⟨_, rfl, rfl, br_iten (fun q => absurd ⟨hth.mpr c1.1, c1.2⟩ q) (fun _ => t_in 0 4 (by decide) (by decide) ⟨_, rfl, rfl, br_iten (fun q => absurd c2 q) (fun _ => ⟨fun q => absurd ?_ q, fun _ => hq a v hh Sc.rfl' ScV.rfl'⟩)⟩)⟩)
          rw [q2, c3]; rfl
      · have hR : R < 12 := by omega
        obtain ⟨y, hy4, ey⟩ := nI_of2 (n := 4) (M := 4) (by decide) (Int32.not_lt.mpr c2.1) c2.2
        refine ⟨(runX 6 (a 3) (a 1) (a 2) k x2).1, fun c' => ∃ u' d', SR u' d' (runX 6 (a 3) (a 1) (a 2) k x2).2 ∧ u' 0 = u 0 ∧ u' 1 = u 1 ∧ c' = (pf, pn, u', d', upd g R (nI k), upd l R x2, nI (R + 1), fn, fd, ku, kd, kg, kl, kn, kfn, kfd, tu, td, t, wa, le, se, cv), fun ad => ?_, fun ad hh => ?_⟩
        · refine sg_X6_drop_0 (t_isGutter s1 (by omega) ⟨_, rfl, rfl, br_iten (fun q => absurd c1 q) (fun _ => t_isLetter ⟨_, rfl, rfl, br_iten (fun q => absurd c2 q) (fun _ => br_t (nI_lt (b := 12) hR (by omega)) ?_)⟩)⟩)
          refine t_faAdd hR ⟨_, _, _, rfl, rfl, ?_⟩
          exact t_run hk q8 q11 q9 (q10.mono (by omega)) (fun u' d' b1 b2 b3 => ⟨_, d', u', rfl, rfl, rfl, _, rfl, u', d', b1, b2, b3, rfl⟩)
        · refine sg_X7_drop_0 (t_mIsGutter ⟨_, rfl, rfl, br_iten (fun q => absurd ⟨hth.mpr c1.1, c1.2⟩ q) (fun _ => t_in 0 4 (by decide) (by decide) ⟨_, rfl, rfl, br_iten (fun q => absurd c2 q) (fun _ => ?_)⟩)⟩)
          rw [q2]
          refine ⟨fun _ => ⟨vp_in_nI hR (by omega), ?_⟩, fun q => absurd ((nI_eq (b := 12) (by omega) (by omega)).mp q) c3⟩
          rw [nI_clamp (by omega), ← nI_succ]
          refine t_runs hk q11 (q10.mono (by omega)) ⟨_, _, rfl, rfl, rfl, _, _, _, rfl, ?_⟩
          intro c' hc
          obtain ⟨u', d', b1, b2, b3, rfl⟩ := hc
          refine ⟨hp, ⟨S, s1, s2, by omega, s4, Or.inr ⟨c1.1, q0, R + 1, rfl, rfl, by omega, fun j hj => ?_, fun j hj => ?_, fun j hj => ?_, fun j hj => ?_, fun i hi => by rw [b2, b3]; exact q8 i hi, b1, LN.run q11 6 _ R k _ q10 hk (by omega), q11, q12, q13, q14⟩, im⟩, hc1, hc2⟩
          · show ∃ t, upd (a 4) R (nI k) j = nI t ∧ t < 6
            by_cases e : j = R
            · rw [e, pk_us]; exact ⟨k, rfl, hk⟩
            · rw [upd_at e]; exact q4 j (by omega)
          · show ∃ t, upd (a 5) R x2 j = nI t ∧ t < 5
            by_cases e : j = R
            · rw [e, pk_us]; exact ⟨y, ey, by omega⟩
            · rw [upd_at e]; exact q5 j (by omega)
          · show upd g R (nI k) j = upd (a 4) R (nI k) j
            by_cases e : j = R
            · rw [e, pk_us, pk_us]
            · rw [upd_at e, upd_at e]; exact q6 j hj
          · show upd l R x2 j = upd (a 5) R x2 j
            by_cases e : j = R
            · rw [e, pk_us, pk_us]
            · rw [upd_at e, upd_at e]; exact q7 j hj
    · refine Two.read h (-102) (fun ad Q hq => ?_) (fun ad hh Q hq => ?_)
      · exact sg_X6_drop_0 (t_isGutter s1 (by omega) ⟨_, rfl, rfl, br_iten (fun q => absurd c1 q) (fun _ => t_isLetter ⟨_, rfl, rfl, br_iten (fun _ => hq _ ⟨tu, td, t, wa, le, se, rfl⟩) (fun q => absurd q c2)⟩)⟩)
      · exact sg_X7_drop_0 (t_mIsGutter ⟨_, rfl, rfl, br_iten (fun q => absurd ⟨hth.mpr c1.1, c1.2⟩ q) (fun _ => t_in 0 4 (by decide) (by decide) ⟨_, rfl, rfl, br_iten (fun _ => hq a v hh Sc.rfl' ScV.rfl') (fun q => absurd q c2)⟩)⟩)
  · refine Two.read h (-101) (fun ad Q hq => ?_) (fun ad hh Q hq => ?_)
    · exact sg_X6_drop_0 (t_isGutter s1 (by omega) ⟨_, rfl, rfl, br_iten (fun _ => hq _ ⟨tu, td, t, wa, le, se, rfl⟩) (fun q => absurd q c1)⟩)
    · exact sg_X7_drop_0 (t_mIsGutter ⟨_, rfl, rfl, br_iten (fun _ => hq a v hh Sc.rfl' ScV.rfl') (fun q => absurd ⟨hth.mp q.1, q.2⟩ c1)⟩)
theorem cnI_cong {p q : Nat → Bool} : ∀ n, (∀ j, j < n → p j = q j) → cnI p n = cnI q n
  | 0, _ => rfl
  | n + 1, h => by simp only [cnI]; rw [cnI_cong n (fun j hj => h j (by omega)), h n (by omega)]
theorem cnI_none {p : Nat → Bool} : ∀ n, (∀ j, j < n → p j = false) → cnI p n = 0
  | 0, _ => rfl
  | n + 1, h => by simp only [cnI]; rw [cnI_none n (fun j hj => h j (by omega)), h n (by omega)]; rfl
/-- what is found, counted: of both -/
theorem Rel.founds {T : Nat} {a : Fm} {v : Ar} {pf : Ar} {pn : Int32} {u d : Fm} {g l : Ar} {n : Int32} {fn : Ar} {fd ku kd : Fm} {kg kl : Ar} {kn : Int32} {kfn : Ar} {kfd tu td : Fm} {t wa le se cv : Ar} (h : Rel T a v (pf, pn, u, d, g, l, n, fn, fd, ku, kd, kg, kl, kn, kfn, kfd, tu, td, t, wa, le, se, cv)) : cnI (fun g => decide (¬ fn g = -1)) 6 = if v 1 = 0 then 0 else cnI (fun g => decide (¬ a 12 g = -1)) 6 := by
  obtain ⟨hp, ⟨S, s1, s2, s3, s4, st, im⟩, hc1, hc2⟩ := h
  rcases st with ⟨-, e, -, -, -, -, z⟩ | ⟨-, e, R, q1, q2, q3, q4, q5, q6, q7, q8, q9, q10, q11, q12, q13, q14⟩
  · rw [if_pos e]
    exact cnI_none 6 (fun j hj => by simp [z j hj])
  · rw [e, if_neg (by decide)]
    exact cnI_cong 6 (fun j hj => by rw [q13 j hj])
theorem two_forget {G : GG} {T : Nat} {a : Fm} {v : Ar} {c : CT} (h : Rel T a v c) : Two G mX6_forget mX7_forget [] T a v c := by
  obtain ⟨pf, pn, u, d, g, l, n, fn, fd, ku, kd, kg, kl, kn, kfn, kfd, tu, td, t, wa, le, se, cv⟩ := c
  have hf := h.founds
  obtain ⟨hp, ⟨S, s1, s2, s3, s4, st, im⟩, hc1, hc2⟩ := id h
  refine ⟨cnI (fun g => decide (¬ fn g = -1)) 6, fun c' => c' = (pf, pn, u, d, g, l, n, fil 6 (-1) fn, fd, ku, kd, kg, kl, kn, kfn, kfd, tu, td, t, wa, le, se, cv), fun ad => ?_, fun ad hh => ?_⟩
  · exact sg_X6_forget_0 (t_countFound ⟨_, rfl, rfl, t_fiClear ⟨_, rfl, rfl, rfl, _, rfl, rfl⟩⟩)
  · refine sg_X7_forget_0 (t_founds ⟨_, rfl, rfl, ?_⟩)
    rw [← hf]
    have H : ∀ k, k ≤ 6 → ∀ b : Fm, (∀ i, i ≠ 12 → b i = a i) → (∀ j, j < k → b 12 j = -1) → J G mX7_forget 7 [(0, .ref (ad 0)), (1, .int (cnI (fun g => decide (¬ fn g = -1)) 6)), (2, .int (nI k))] [] (mdW G ad 0 b v hh) (fun x w => x = some (.int (cnI (fun g => decide (¬ fn g = -1)) 6)) ∧ ∃ a' v' hh', w = mdW G ad 0 a' v' hh' ∧ ∀ c', c' = (pf, pn, u, d, g, l, n, fil 6 (-1) fn, fd, ku, kd, kg, kl, kn, kfn, kfd, tu, td, t, wa, le, se, cv) → Rel (T + 1) a' v' c') := by
      refine forDn ?_ (fun k hk ih => ?_)
      · intro b h1 h2
        refine sg_X7_forget_7 (br_t (le_rfl32 _) ⟨rfl, b, v, hh, rfl, ?_⟩)
        intro c' hc
        subst hc
        have ef : ∀ j, j < 6 → fil 6 (-1) fn j = -1 := fun j hj => by simp [fil, hj]
        simp only [Rel]
        rw [h1 0 (by omega), h1 1 (by omega), h1 2 (by omega), h1 3 (by omega), h1 4 (by omega), h1 5 (by omega), h1 13 (by omega), h1 14 (by omega), h1 15 (by omega), h1 16 (by omega), h1 17 (by omega), h1 18 (by omega), h1 19 (by omega)]
        refine ⟨hp, ⟨S, s1, s2, by omega, s4, ?_, im⟩, hc1, hc2⟩
        rcases st with ⟨z1, z2, z3, z4, z5, z6, z7⟩ | ⟨z1, z2, R, q1, q2, q3, q4, q5, q6, q7, q8, q9, q10, q11, q12, q13, q14⟩
        · exact Or.inl ⟨z1, z2, z3, z4, z5, z6, ef⟩
        · refine Or.inr ⟨z1, z2, R, q1, q2, q3, q4, q5, q6, q7, q8, q9, q10, q11, fun i hi => Or.inl (h2 i hi), fun j hj => by rw [ef j hj, h2 j hj], fun i hi m hm h8 => ?_⟩
          rw [h2 i hi] at hm
          exact absurd hm.symm (nI_ne_m1 (by omega))
      · intro b h1 h2
        refine sg_X7_forget_7 (br_f (ge6 hk) ⟨vp_in_nI hk (by omega), ?_⟩)
        rw [nI_clamp (by omega), ← nI_succ]
        refine ih _ (fun i hi => by simp only [va_up]; rw [if_neg hi]; exact h1 i hi) (fun j hj => ?_)
        show upd (b 12) k (-1) j = -1
        by_cases e : j = k
        · rw [e, pk_us]
        · rw [upd_at e]; exact h2 j (by omega)
    exact H 0 (Nat.zero_le _) a (fun _ _ => rfl) (fun j hj => absurd hj (Nat.not_lt_zero j))
theorem flt_all {ok : Nat → Bool} : ∀ (m k : Nat), flt ok m k = k + m → ∀ j, k ≤ j → j < k + m → ok j = true
  | 0, k, _, j, h1, h2 => by omega
  | m + 1, k, h, j, h1, h2 => by
    simp only [flt] at h
    by_cases c : ok k = true
    · rw [if_pos c] at h
      by_cases e : j = k
      · rw [e]; exact c
      · exact flt_all m (k + 1) (by omega) j (by omega) (by omega)
    · rw [if_neg c] at h; omega
theorem isWB_8 {p : Ar} {N : Nat} (h : isWB p N = true) : N ≤ 8 := by
  simp only [isWB, Bool.and_eq_true, decide_eq_true_eq] at h
  have := flt_all (ok := okW p) N 0 (by omega) (N - 1) (Nat.zero_le _) (by omega)
  simp only [okW, Bool.and_eq_true, decide_eq_true_eq] at this
  omega
theorem isWB_cong {p q : Ar} {N : Nat} (h : ∀ j, j < N → p j = q j) : isWB p N = isWB q N := by
  simp only [isWB]
  rw [flt_cong N 0 (fun j _ hj => okW_cong (h j (by omega)))]
theorem vup_of {a b : Fm} {k : Nat} (h : ∀ i, i ≠ k → b i = a i) : b = va_up a k (b k) := by
  funext i
  simp only [va_up]
  by_cases e : i = k
  · rw [if_pos e, e]
  · rw [if_neg e]; exact h i e
theorem two_found {G : GG} {T : Nat} {a : Fm} {v : Ar} {c : CT} {x1 : Int32} (h : Rel T a v c) (hT : T < 2 ^ 30) : Two G mX6_found mX7_found [(1, .int x1)] T a v c := by
  obtain ⟨pf, pn, u, d, g, l, n, fn, fd, ku, kd, kg, kl, kn, kfn, kfd, tu, td, t, wa, le, se, cv⟩ := c
  obtain ⟨⟨N, p1, p2, p3, p4⟩, ⟨S, s1, s2, s3, s4, st, im⟩, hc1, hc2⟩ := id h
  have hth := v1_iff st
  have hN20 := p3.1
  have ewb : isWB pf N = isWB (a 0) N := isWB_cong (fun j hj => p4 j (by omega))
  by_cases c1 : 0 < S ∧ 0 ≤ x1 ∧ x1 ≤ 5
  · obtain ⟨k, hk, ek⟩ := gut c1.2.1 c1.2.2
    subst ek
    have hin : vp_in (nI k) 6 := vp_in_nI hk (by omega)
    by_cases c2 : N = 0 ∨ isWB (a 0) N = true
    · have hN8 : N ≤ 8 := c2.elim (fun z => by omega) isWB_8
      rcases st with ⟨q, -⟩ | ⟨-, q0, R, q1, q2, q3, q4, q5, q6, q7, q8, q9, q10, q11, q12, q13, q14⟩
      · omega
      refine ⟨cnI (fun h => decide (¬ upd fn k (nI N) h = -1)) 6, fun c' => c' = (pf, 0, u, d, g, l, n, upd fn k (nI N), va_up fd k (cpL N pf (fd k)), ku, kd, kg, kl, kn, kfn, kfd, tu, td, t, wa, le, se, cv), fun ad => ?_, fun ad hh => ?_⟩
      · subst p1
        refine sg_X6_found_0 (t_isGutter s1 (by omega) ⟨_, rfl, rfl, br_iten (fun q => absurd c1 q) (fun _ => ?_)⟩)
        rw [nI_clamp (by omega)]
        refine ⟨fun _ => ⟨hin, t_copyLetters hN8 ⟨_, rfl, rfl, t_countFound ⟨_, rfl, rfl, rfl, _, rfl, rfl⟩⟩⟩, fun z => ?_⟩
        refine t_isWord (p3.cong p4) ⟨_, rfl, rfl, br_iten (fun q => ?_) (fun _ => ⟨hin, t_copyLetters hN8 ⟨_, rfl, rfl, t_countFound ⟨_, rfl, rfl, rfl, _, rfl, rfl⟩⟩⟩)⟩
        rcases c2 with w | w
        · exact absurd (by rw [w]; rfl) z
        · exact absurd (by rw [ewb]; exact w) q
      · have H : ∀ j, j ≤ N → ∀ b : Fm, (∀ i, i ≠ 13 → b i = a i) → (∀ i, i < 48 → b 13 i = if 8 * k ≤ i ∧ i < 8 * k + j then a 0 (i - 8 * k) - 97 else a 13 i) → J G mX7_found 30 [(0, .ref (ad 0)), (1, .int (nI k)), (2, .int (nI j))] [] (mdW G ad 0 b v hh) (fun x w => x = some (.int (cnI (fun h => decide (¬ upd fn k (nI N) h = -1)) 6)) ∧ ∃ a' v' hh', w = mdW G ad 0 a' v' hh' ∧ ∀ c', c' = (pf, 0, u, d, g, l, n, upd fn k (nI N), va_up fd k (cpL N pf (fd k)), ku, kd, kg, kl, kn, kfn, kfd, tu, td, t, wa, le, se, cv) → Rel (T + 1) a' v' c') := by
          refine forDn ?_ (fun j hj ih => ?_)
          · intro b h1 h2
            refine sg_X7_found_30 ?_
            rw [p2, nI_clamp (by omega)]
            refine br_t (le_rfl32 _) ⟨hin, ?_⟩
            refine t_founds ⟨_, rfl, rfl, ?_, _, _, _, rfl, ?_⟩
            · have e1 : (va_up v 0 0) 1 = 1 := q0
              have e12 : (va_up b 12 (upd (b 12) k (nI N))) 12 = upd (b 12) k (nI N) := rfl
              rw [e1, e12, if_neg (by decide), h1 12 (by omega)]
              congr 2
              refine cnI_cong 6 (fun i hi => ?_)
              by_cases e : i = k
              · rw [e, pk_us, pk_us]
              · rw [upd_at e, upd_at e, q13 i hi]
            · intro c' hc
              subst hc
              obtain ⟨F, hF⟩ : ∃ F, b = va_up a 13 F := ⟨b 13, vup_of h1⟩
              subst hF
              refine ⟨⟨0, rfl, rfl, ⟨by omega, fun j hj => absurd hj (Nat.not_lt_zero j)⟩, p4⟩, ⟨S, s1, s2, by omega, s4, Or.inr ⟨c1.1, q0, R, q1, q2, q3, q4, q5, q6, q7, q8, q9, q10, q11, ?_, ?_, ?_⟩, im⟩, hc1, hc2⟩
              · intro i hi
                show upd (a 12) k (nI N) i = -1 ∨ ∃ n, upd (a 12) k (nI N) i = nI n ∧ n ≤ 8
                by_cases e : i = k
                · rw [e, pk_us]; exact Or.inr ⟨N, rfl, hN8⟩
                · rw [upd_at e]; exact q12 i hi
              · intro i hi
                show upd fn k (nI N) i = upd (a 12) k (nI N) i
                by_cases e : i = k
                · rw [e, pk_us, pk_us]
                · rw [upd_at e, upd_at e, q13 i hi]
              · intro i hi m hm h8 j hj
                have h2 := h2 (8 * i + j) (by omega)
                show (va_up fd k (cpL N pf (fd k))) i j = F (8 * i + j)
                refine Eq.trans ?_ h2.symm
                simp only [va_up]
                by_cases e : i = k
                · subst e
                  have hm : upd (a 12) i (nI N) i = nI m := hm
                  rw [pk_us] at hm
                  have em : N = m := (nI_eq (by omega) (by omega)).mp hm
                  subst em
                  rw [if_pos rfl, if_pos ⟨by omega, by omega⟩]
                  simp only [cpL]
                  rw [if_pos hj, p4 j (by omega)]
                  congr 2
                  omega
                · have hm : upd (a 12) k (nI N) i = nI m := hm
                  rw [upd_at e] at hm
                  rw [if_neg e, if_neg (by omega)]
                  exact q14 i hi m hm h8 j hj
          · intro b h1 h2
            refine sg_X7_found_30 ?_
            rw [p2]
            refine br_f (nI_ge hj (by omega)) ⟨vp_in_nI (by omega) (by omega), ?_⟩
            rw [e8, nI_clamp (by omega), nI_clamp (by omega), ← nI_succ]
            refine ⟨vp_in_nI (by omega) (by omega), ih _ (fun i hi => by simp only [va_up]; rw [if_neg hi]; exact h1 i hi) (fun i hi => ?_)⟩
            show upd (b 13) (8 * k + j) (b 0 j - 97) i = _
            by_cases e : i = 8 * k + j
            · rw [e, pk_us, if_pos ⟨by omega, by omega⟩, h1 0 (by omega), show 8 * k + j - 8 * k = j by omega]
            · rw [upd_at e, h2 i hi]
              by_cases z : 8 * k ≤ i ∧ i < 8 * k + j
              · rw [if_pos z, if_pos ⟨z.1, by omega⟩]
              · rw [if_neg z, if_neg (by omega)]
        have H0 := H 0 (Nat.zero_le _) a (fun _ _ => rfl) (fun i _ => by rw [if_neg (by omega)])
        refine sg_X7_found_0 (t_mIsGutter ⟨_, rfl, rfl, br_iten (fun q => absurd ⟨hth.mpr c1.1, c1.2⟩ q) (fun _ => ⟨fun _ => H0, fun z => ?_⟩)⟩)
        refine t_isPageWord p2 p3 ⟨_, rfl, rfl, br_iten (fun q => ?_) (fun _ => H0)⟩
        rcases c2 with w | w
        · rw [p2, w] at z; exact absurd (le_rfl32 _) z
        · exact absurd w q
    · have hN0 : N ≠ 0 := fun z => c2 (Or.inl z)
      refine Two.read h (-103) (fun ad Q hq => ?_) (fun ad hh Q hq => ?_)
      · have hq := hq _ ⟨tu, td, t, wa, le, se, rfl⟩
        subst p1
        refine sg_X6_found_0 (t_isGutter s1 (by omega) ⟨_, rfl, rfl, br_iten (fun q => absurd c1 q) (fun _ => ⟨fun z => absurd ((nI_eq (b := 0) (by omega) (by omega)).mp z) hN0, fun z => ?_⟩)⟩)
        exact t_isWord (p3.cong p4) ⟨_, rfl, rfl, br_iten (fun _ => hq) (fun q => absurd (Or.inr (by rw [← ewb]; exact q)) c2)⟩
      · refine sg_X7_found_0 (t_mIsGutter ⟨_, rfl, rfl, br_iten (fun q => absurd ⟨hth.mpr c1.1, c1.2⟩ q) (fun _ => ⟨fun z => ?_, fun z => ?_⟩)⟩)
        · rw [p2] at z
          exact absurd z (nI_nle (by omega) (by omega))
        · exact t_isPageWord p2 p3 ⟨_, rfl, rfl, br_iten (fun _ => hq a v hh Sc.rfl' ScV.rfl') (fun q => absurd (Or.inr q) c2)⟩
  · refine Two.read h (-101) (fun ad Q hq => ?_) (fun ad hh Q hq => ?_)
    · exact sg_X6_found_0 (t_isGutter s1 (by omega) ⟨_, rfl, rfl, br_iten (fun _ => hq _ ⟨tu, td, t, wa, le, se, rfl⟩) (fun q => absurd q c1)⟩)
    · exact sg_X7_found_0 (t_mIsGutter ⟨_, rfl, rfl, br_iten (fun _ => hq a v hh Sc.rfl' ScV.rfl') (fun q => absurd ⟨hth.mp q.1, q.2⟩ c1)⟩)
theorem cpn_eq {m : Nat} {x y : Ar} : Eqn m (cpn m x y) x := fun j hj => by simp [cpn, hj]
theorem cpn_R {x y : Ar} : EqR (cpn 102 x y) x := fun j hj => by simp [cpn, hj]
theorem two_image {G : GG} {T : Nat} {a : Fm} {v : Ar} {c : CT} (h : Rel T a v c) (hT : T < 2 ^ 30) : Two G mX6_image mX7_image [] T a v c := by
  obtain ⟨pf, pn, u, d, g, l, n, fn, fd, ku, kd, kg, kl, kn, kfn, kfd, tu, td, t, wa, le, se, cv⟩ := c
  obtain ⟨hp, ⟨S, s1, s2, s3, s4, st, im⟩, hc1, hc2⟩ := id h
  have hth := v1_iff st
  by_cases c1 : 0 < S
  · rcases st with ⟨q, -⟩ | ⟨-, q0, R, hR⟩
    · omega
    refine ⟨nI R, fun c' => ∃ u' d', EqU u' u ∧ EqD 12 d' d ∧ c' = (pf, pn, u, d, g, l, n, fn, fd, u', d', cpn 12 g kg, cpn 12 l kl, n, cpn 6 fn kfn, cpD 6 8 fd kfd, tu, td, t, wa, le, se, va_up cv 0 1), fun ad => ?_, fun ad hh => ?_⟩
    · refine sg_X6_image_0 (t_hasStreet s1 (by omega) ⟨_, rfl, rfl, br_iten (fun q => absurd c1 q) (fun _ => ?_)⟩)
      refine t_scTake (fun u' d' b1 b2 => ⟨_, _, _, _, _, _, _, rfl, rfl, ?_, _, rfl, u', d', b1, b2, rfl⟩)
      rw [hR.1]
    · refine sg_X7_image_0 ⟨fun _ => ?_, fun q => absurd q (hth.mpr c1)⟩
      refine t_copy (by decide) ⟨_, rfl, rfl, t_copy (by decide) ⟨_, rfl, rfl, t_copy (by decide) ⟨_, rfl, rfl, t_copy (by decide) ⟨_, rfl, rfl, t_copy (by decide) ⟨_, rfl, rfl, t_copy (by decide) ⟨_, rfl, rfl, ?_, _, _, _, rfl, ?_⟩⟩⟩⟩⟩⟩
      · rw [hR.2.1]
      · intro c' hc
        obtain ⟨u', d', b1, b2, rfl⟩ := hc
        refine ⟨hp, ⟨S, s1, s2, by omega, Or.inr ⟨S, Nat.le_refl _, s2⟩, Or.inr ⟨c1, q0, R, hR⟩, Or.inr ⟨rfl, rfl, c1, R, ?_⟩⟩, hc1, hc2⟩
        exact hR.cong b1 b2 cpn_eq cpn_eq cpn_eq cpD_eq cpn_eq cpn_R cpn_eq cpn_eq cpn_eq cpn_eq
  · refine Two.read h (-103) (fun ad Q hq => ?_) (fun ad hh Q hq => ?_)
    · exact sg_X6_image_0 (t_hasStreet s1 (by omega) ⟨_, rfl, rfl, br_iten (fun _ => hq _ ⟨tu, td, t, wa, le, se, rfl⟩) (fun q => absurd q c1)⟩)
    · exact sg_X7_image_0 ⟨fun q => absurd (hth.mp q) c1, fun _ => hq a v hh Sc.rfl' ScV.rfl'⟩
theorem two_restore {G : GG} {T : Nat} {a : Fm} {v : Ar} {c : CT} (h : Rel T a v c) : Two G mX6_restore mX7_restore [] T a v c := by
  obtain ⟨pf, pn, u, d, g, l, n, fn, fd, ku, kd, kg, kl, kn, kfn, kfd, tu, td, t, wa, le, se, cv⟩ := c
  obtain ⟨hp, ⟨S, s1, s2, s3, s4, st, im⟩, hc1, hc2⟩ := id h
  rcases id im with ⟨i1, i2⟩ | ⟨i1, i2, i3, R, hR⟩
  · refine Two.read h (-103) (fun ad Q hq => ?_) (fun ad hh Q hq => ?_)
    · exact sg_X6_restore_0 ⟨fun q => absurd i1 q, fun _ => hq _ ⟨tu, td, t, wa, le, se, rfl⟩⟩
    · exact sg_X7_restore_0 ⟨fun q => absurd q i2, fun _ => hq a v hh Sc.rfl' ScV.rfl'⟩
  · have q0 : v 1 = 1 := by
      rcases st with ⟨q, -⟩ | ⟨-, q0, -⟩
      · omega
      · exact q0
    refine ⟨nI R, fun c' => ∃ u' d', EqU u' ku ∧ EqD 12 d' kd ∧ c' = (pf, pn, u', d', cpn 12 kg g, cpn 12 kl l, kn, cpn 6 kfn fn, cpD 6 8 kfd fd, ku, kd, kg, kl, kn, kfn, kfd, tu, td, t, wa, le, se, cv), fun ad => ?_, fun ad hh => ?_⟩
    · refine sg_X6_restore_0 ⟨fun _ => ?_, fun q => by rw [i1] at q; exact absurd q (by decide)⟩
      refine t_scTake (fun u' d' b1 b2 => ⟨_, _, _, _, _, _, _, rfl, rfl, ?_, _, rfl, u', d', b1, b2, rfl⟩)
      rw [hR.1]
    · refine sg_X7_restore_0 ⟨fun _ => ?_, fun q => absurd i2 q⟩
      refine t_copy (by decide) ⟨_, rfl, rfl, t_copy (by decide) ⟨_, rfl, rfl, t_copy (by decide) ⟨_, rfl, rfl, t_copy (by decide) ⟨_, rfl, rfl, t_copy (by decide) ⟨_, rfl, rfl, t_copy (by decide) ⟨_, rfl, rfl, ?_, _, _, _, rfl, ?_⟩⟩⟩⟩⟩⟩
      · rw [hR.2.1]
      · intro c' hc
        obtain ⟨u', d', b1, b2, rfl⟩ := hc
        refine ⟨hp, ⟨S, s1, s2, by omega, s4, Or.inr ⟨i3, q0, R, ?_⟩, Or.inr ⟨i1, i2, i3, R, hR⟩⟩, hc1, hc2⟩
        exact hR.cong b1 b2 cpn_eq cpn_eq cpn_eq cpD_eq cpn_eq cpn_R cpn_eq cpn_eq cpn_eq cpn_eq
