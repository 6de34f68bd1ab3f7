theorem two_orders {G : GG} {T : Nat} {a : Fm} {v : Ar} {c : CT} {x1 : Int32} (h : Rel T a v c) (hT : T < 2 ^ 30) : Two G mX6_orders mX7_orders [(1, .int x1)] T a v c := by
  obtain ⟨pf, pn, u, d, g, l, n, fn, fd, ku, kd, kg, kl, kn, kfn, kfd, tu, td, t, wa, le, se, cv⟩ := c
  obtain ⟨hp, ⟨S, s1, s2, s3, s4, st, im⟩, hc1, ⟨co, o0, o1, o2⟩⟩ := id h
  have hth := v1_iff st
  by_cases c1 : 0 < S ∧ 0 ≤ x1 ∧ x1 ≤ 5
  · obtain ⟨k, hk, ek⟩ := gut c1.2.1 c1.2.2
    subst ek
    have hin : vp_in (nI k) 6 := vp_in_nI hk (by omega)
    rcases st with ⟨q, -⟩ | ⟨-, q0, R, hR⟩
    · omega
    have hkw : u 1 k = a 2 k := (hR.2.2.2.2.2.2.2.1 k hk).2
    by_cases c2 : a 2 k = -1 ∧ co ≠ 20
    · have hco : co < 20 := by have := c2.2; omega
      have eq : cd ((LC (min R 6) (fac (min R 6))).map (fun s => id5 k (fsq a s))) = cd ((LM (min R 6) (min R 6 ^ min R 6)).map (fun s => id6 k (fsq a s))) := by
        rw [← orders_eq]
        obtain ⟨q1, q2, q3, q4, q5, q6, q7, q8, q9, q10, q11, q12, q13, q14⟩ := hR
        refine cd_map _ (fun s hs s' hs' => ?_)
        obtain ⟨b1, b2⟩ := fsq_ok (a := a) q11 q4 q5 (Nat.min_le_right _ _) (Nat.min_le_left _ _) (LC_SQ hs)
        obtain ⟨b3, b4⟩ := fsq_ok (a := a) q11 q4 q5 (Nat.min_le_right _ _) (Nat.min_le_left _ _) (LC_SQ hs')
        exact id56 b1 b2 b3 b4 hk
      refine ⟨nI (cd ((LM (min R 6) (min R 6 ^ min R 6)).map (fun s => id6 k (fsq a s)))), fun c' => ∃ tu td le se, c' = (pf, pn, u, d, g, l, n, fn, fd, ku, kd, kg, kl, kn, kfn, kfd, tu, td, t, wa, le, se, va_up cv 3 (nI (co + 1))), fun ad => ?_, fun ad hh => ?_⟩
      · refine sg_X6_orders_0 (t_isGutter s1 (by omega) ⟨_, rfl, rfl, br_iten (fun q => absurd c1 q) (fun _ => ⟨hin, ?_⟩)⟩)
        rw [nI_clamp (by omega), hkw, o1, ← nI_succ]
        refine br_nf c2.1 (br_t (nI_lt (b := 20) hco (by omega)) (c_words hk hR (fun le se tu td => ⟨_, le, se, td, tu, rfl, rfl, ?_, _, rfl, tu, td, le, se, rfl⟩)))
        rw [eq]
      · refine sg_X7_orders_0 (t_mIsGutter ⟨_, rfl, rfl, br_iten (fun q => absurd ⟨hth.mpr c1.1, c1.2⟩ q) (fun _ => ⟨hin, ?_⟩)⟩)
        rw [nI_clamp (by omega), o2, ← nI_succ]
        refine br_nf c2.1 (br_nt (fun q => c2.2 ((nI_eq (b := 20) (by omega) (by omega)).mp q)) (t_asItIs ⟨_, rfl, rfl, ?_⟩))
        refine m_words (v := va_up v 5 (nI (co + 1))) hR.mok hR.2.2.2.2.1 hk (fun a' ha => ⟨rfl, _, _, _, rfl, ?_⟩)
        intro c' hc
        obtain ⟨tu', td', le', se', rfl⟩ := hc
        have hs := h.same (c' := (pf, pn, u, d, g, l, n, fn, fd, ku, kd, kg, kl, kn, kfn, kfd, tu', td', t, wa, le', se', cv)) ⟨tu', td', t, wa, le', se', rfl⟩ ha ScV.rfl'
        exact ⟨hs.1, hs.2.1, hs.2.2.1, ⟨co + 1, by omega, rfl, rfl⟩⟩
    · refine Two.read h (-103) (fun ad Q hq => ?_) (fun ad hh Q hq => ?_)
      · have hq := hq _ ⟨tu, td, t, wa, le, se, rfl⟩
        refine sg_X6_orders_0 (t_isGutter s1 (by omega) ⟨_, rfl, rfl, br_iten (fun q => absurd c1 q) (fun _ => ⟨hin, ?_⟩)⟩)
        rw [nI_clamp (by omega), hkw, o1]
        refine ⟨fun _ => hq, fun z => br_f (fun q => ?_) hq⟩
        rw [show (20 : Int32) = nI 20 from rfl, nI_ltI (by omega) (by omega)] at q
        exact c2 ⟨z, by omega⟩
      · have hq := hq a v hh Sc.rfl' ScV.rfl'
        refine sg_X7_orders_0 (t_mIsGutter ⟨_, rfl, rfl, br_iten (fun q => absurd ⟨hth.mpr c1.1, c1.2⟩ q) (fun _ => ⟨hin, ?_⟩)⟩)
        rw [nI_clamp (by omega), o2]
        refine ⟨fun _ => hq, fun z => ⟨fun q => ?_, fun _ => hq⟩⟩
        exact absurd ⟨z, fun e => q (by rw [e]; rfl)⟩ c2
  · refine Two.read h (-101) (fun ad Q hq => ?_) (fun ad hh Q hq => ?_)
    · exact sg_X6_orders_0 (t_isGutter s1 (by omega) ⟨_, rfl, rfl, br_iten (fun _ => hq _ ⟨tu, td, t, wa, le, se, rfl⟩) (fun q => absurd q c1)⟩)
    · exact sg_X7_orders_0 (t_mIsGutter ⟨_, rfl, rfl, br_iten (fun _ => hq a v hh Sc.rfl' ScV.rfl') (fun q => absurd ⟨hth.mp q.1, q.2⟩ c1)⟩)
