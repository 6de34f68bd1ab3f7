theorem two_fewTurns {G : GG} {T : Nat} {a : Fm} {v : Ar} {c : CT} {x1 x2 : Int32} (h : Rel T a v c) (hT : T < 2 ^ 30) : Two G mX6_fewTurns mX7_fewTurns [(1, .int x1), (2, .int x2)] T a v c := by
  obtain ⟨pf, pn, u, d, g, l, n, fn, fd, ku, kd, kg, kl, kn, kfn, kfd, tu, td, t, wa, le, se, cv⟩ := c
  obtain ⟨⟨N, p1, p2, p3, p4⟩, ⟨S, s1, s2, s3, s4, st, im⟩, ⟨cf, f0, f1, f2⟩, hc2⟩ := id h
  have hth := v1_iff st
  have hN20 := p3.1
  subst p1
  have ewb : isWB pf N = isWB (a 0) N := isWB_cong (fun j hj => p4 j (by omega))
  by_cases c1 : 0 < S ∧ 0 ≤ x1 ∧ x1 ≤ 5
  · by_cases c2 : 0 ≤ x2 ∧ x2 ≤ 2
    · by_cases c3 : isWB (a 0) N = true ∧ cf ≠ 20
      · obtain ⟨k, hk, ek⟩ := gut c1.2.1 c1.2.2
        subst ek
        have hN8 := isWB_8 c3.1
        have hcf : cf < 20 := by have := c3.2; omega
        rcases st with ⟨q, -⟩ | ⟨-, q0, R, hR⟩
        · omega
        have hok := ftS_ok a R k N 720
        refine ⟨ftR (ftS a R k N 720) x2, fun c' => ∃ tu td t wa, c' = (pf, nI N, u, d, g, l, n, fn, fd, ku, kd, kg, kl, kn, kfn, kfd, tu, td, t, wa, le, se, va_up cv 2 (nI (cf + 1))), fun ad => ?_, fun ad hh => ?_⟩
        · refine sg_X6_fewTurns_0 (t_isGutter s1 (by omega) ⟨_, rfl, rfl, br_iten (fun q => absurd c1 q) (fun _ => br_f (Int32.not_lt.mpr c2.1) (br_t c2.2 (t_isWord (p3.cong p4) ⟨_, rfl, rfl, br_ite (fun q => absurd (by rw [ewb]; exact c3.1) q) (fun _ => ?_)⟩)))⟩)
          rw [f1, ← nI_succ]
          refine br_t (nI_lt (b := 20) hcf (by omega)) (c_seek hk hN8 (fun j hj => p4 j (by omega)) hR (fun tu td t wa hTB => ⟨_, _, _, _, rfl, rfl, c_tell hTB (by omega) ⟨_, rfl, rfl, rfl, _, rfl, tu, td, t, wa, rfl⟩⟩))
        · refine sg_X7_fewTurns_0 (t_mIsGutter ⟨_, rfl, rfl, br_iten (fun q => absurd ⟨hth.mpr c1.1, c1.2⟩ q) (fun _ => t_in 0 2 (by decide) (by decide) ⟨_, rfl, rfl, br_iten (fun q => absurd c2 q) (fun _ => t_isPageWord p2 p3 ⟨_, rfl, rfl, br_ite (fun q => absurd c3.1 q) (fun _ => ?_)⟩)⟩)⟩)
          rw [f2, ← nI_succ]
          refine br_nt (fun q => c3.2 ((nI_eq (b := 20) (by omega) (by omega)).mp q)) (t_asItIs ⟨_, rfl, rfl, ?_⟩)
          refine m_few (v := va_up v 4 (nI (cf + 1))) hR.mok hk p2 hN8 (fun a' ha => ⟨rfl, _, _, _, rfl, ?_⟩)
          intro c' hc
          obtain ⟨tu', td', t', wa', rfl⟩ := hc
          have hs := h.same (c' := (pf, nI N, u, d, g, l, n, fn, fd, ku, kd, kg, kl, kn, kfn, kfd, tu', td', t', wa', le, se, cv)) ⟨tu', td', t', wa', le, se, rfl⟩ ha ScV.rfl'
          exact ⟨hs.1, hs.2.1, ⟨cf + 1, by omega, rfl, rfl⟩, hs.2.2.2⟩
      · refine Two.read h (-103) (fun ad Q hq => ?_) (fun ad hh Q hq => ?_)
        · have hq := hq _ ⟨tu, td, t, wa, le, se, rfl⟩
          refine sg_X6_fewTurns_0 (t_isGutter s1 (by omega) ⟨_, rfl, rfl, br_iten (fun q => absurd c1 q) (fun _ => br_f (Int32.not_lt.mpr c2.1) (br_t c2.2 (t_isWord (p3.cong p4) ⟨_, rfl, rfl, br_ite (fun _ => hq) (fun w => ?_)⟩)))⟩)
          rw [f1]
          refine br_f (fun q => ?_) hq
          rw [show (20 : Int32) = nI 20 from rfl, nI_ltI (by omega) (by omega)] at q
          exact c3 ⟨by rw [← ewb]; exact w, by omega⟩
        · have hq := hq a v hh Sc.rfl' ScV.rfl'
          refine sg_X7_fewTurns_0 (t_mIsGutter ⟨_, rfl, rfl, br_iten (fun q => absurd ⟨hth.mpr c1.1, c1.2⟩ q) (fun _ => t_in 0 2 (by decide) (by decide) ⟨_, rfl, rfl, br_iten (fun q => absurd c2 q) (fun _ => t_isPageWord p2 p3 ⟨_, rfl, rfl, br_ite (fun _ => hq) (fun w => ?_)⟩)⟩)⟩)
          rw [f2]
          refine ⟨fun q => ?_, fun _ => hq⟩
          exact absurd ⟨w, fun z => q (by rw [z]; rfl)⟩ c3
    · have h2 : x2 ≤ 2 ↔ ¬ ¬ x2 ≤ 2 := by rw [Decidable.not_not]
      refine Two.read h (-102) (fun ad Q hq => ?_) (fun ad hh Q hq => ?_)
      · have hq := hq _ ⟨tu, td, t, wa, le, se, rfl⟩
        exact sg_X6_fewTurns_0 (t_isGutter s1 (by omega) ⟨_, rfl, rfl, br_iten (fun q => absurd c1 q) (fun _ => ⟨fun _ => hq, fun z => ⟨fun z2 => absurd ⟨Int32.not_lt.mp z, z2⟩ c2, fun _ => hq⟩⟩)⟩)
      · exact sg_X7_fewTurns_0 (t_mIsGutter ⟨_, rfl, rfl, br_iten (fun q => absurd ⟨hth.mpr c1.1, c1.2⟩ q) (fun _ => t_in 0 2 (by decide) (by decide) ⟨_, rfl, rfl, br_iten (fun _ => hq a v hh Sc.rfl' ScV.rfl') (fun q => absurd q c2)⟩)⟩)
  · refine Two.read h (-101) (fun ad Q hq => ?_) (fun ad hh Q hq => ?_)
    · exact sg_X6_fewTurns_0 (t_isGutter s1 (by omega) ⟨_, rfl, rfl, br_iten (fun _ => hq _ ⟨tu, td, t, wa, le, se, rfl⟩) (fun q => absurd q c1)⟩)
    · exact sg_X7_fewTurns_0 (t_mIsGutter ⟨_, rfl, rfl, br_iten (fun _ => hq a v hh Sc.rfl' ScV.rfl') (fun q => absurd ⟨hth.mp q.1, q.2⟩ c1)⟩)
