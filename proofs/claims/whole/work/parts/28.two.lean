/-! each call, on both -/
theorem v1_iff {v : Ar} {S : Nat} {A B : Prop} (h : (S = 0 ∧ v 1 = 0 ∧ A) ∨ (0 < S ∧ v 1 = 1 ∧ B)) : (¬ v 1 = 0) ↔ 0 < S := by
  rcases h with ⟨h1, h2, -⟩ | ⟨h1, h2, -⟩
  · rw [h2]; exact ⟨fun q => absurd rfl q, fun q => by omega⟩
  · rw [h2]; exact ⟨fun _ => h1, fun _ => by decide⟩
theorem if_iff {c d : Prop} [Decidable c] [Decidable d] (h : c ↔ d) (x y : Int32) : (if c then x else y) = if d then x else y := by
  by_cases q : c
  · rw [if_pos q, if_pos (h.mp q)]
  · rw [if_neg q, if_neg (fun z => q (h.mpr z))]
theorem lt_le32 {x : Int32} {a b : Int32} (h : b.toInt = a.toInt + 1) : x ≤ a ↔ x < b := by
  rw [Int32.le_iff_toInt_le, Int32.lt_iff_toInt_lt, h]; omega
theorem two_letter {G : GG} {T : Nat} {a : Fm} {v : Ar} {c : CT} {x : Int32} (h : Rel T a v c) : Two G mX6_letter mX7_letter [(1, .int x)] T a v c := by
  obtain ⟨pf, pn, u, d, g, l, n, fn, fd, ku, kd, kg, kl, kn, kfn, kfd, tu, td, t, wa, le, se, cv⟩ := c
  obtain ⟨⟨N, p1, p2, p3, p4⟩, hS, hc1, hc2⟩ := id h
  by_cases c1 : 1 ≤ x ∧ x ≤ 126
  · by_cases c2 : N = 20
    · refine Two.read h (-104) (fun ad Q hq => ?_) (fun ad hh Q hq => ?_)
      · refine sg_X6_letter_0 (br_f (Int32.not_lt.mpr c1.1) (br_t c1.2 (br_f ?_ (hq _ ⟨tu, td, t, wa, le, se, rfl⟩))))
        rw [p1, c2]; decide
      · refine sg_X7_letter_0 (t_in 1 126 (by decide) (by decide) ⟨_, rfl, rfl, br_iten (fun q => absurd c1 q) (fun _ => ?_)⟩)
        rw [p2, c2]
        exact ⟨fun q => absurd rfl q, fun _ => hq a v hh Sc.rfl' ScV.rfl'⟩
    · have hN : N < 20 := by have := p3.1; omega
      obtain ⟨cx, ex⟩ : ∃ j : Nat, x = nI j ∧ 1 ≤ j ∧ j ≤ 126 := by
        obtain ⟨j, hj, e⟩ := nI_of2 (n := 126) (M := 126) (by decide) (Int32.not_lt.mpr (Int32.le_trans (by decide) c1.1)) c1.2
        refine ⟨j, e, ?_, hj⟩
        have := c1.1
        rw [e, show (1 : Int32) = nI 1 from rfl, nI_leI (by omega) (by omega)] at this
        exact this
      refine ⟨nI (N + 1), fun c' => c' = (upd pf N x, nI (N + 1), u, d, g, l, n, fn, fd, ku, kd, kg, kl, kn, kfn, kfd, tu, td, t, wa, le, se, cv), fun ad => ?_, fun ad hh => ?_⟩
      · refine sg_X6_letter_0 (br_f (Int32.not_lt.mpr c1.1) (br_t c1.2 ?_))
        rw [p1]
        refine br_t (nI_lt (b := 20) hN (by omega)) ⟨vp_in_nI hN (by omega), ?_⟩
        rw [nI_clamp (by omega), ← nI_succ]
        exact ⟨rfl, _, rfl, rfl⟩
      · refine sg_X7_letter_0 (t_in 1 126 (by decide) (by decide) ⟨_, rfl, rfl, br_iten (fun q => absurd c1 q) (fun _ => ?_)⟩)
        rw [p2]
        refine ⟨fun _ => ⟨vp_in_nI hN (by omega), ?_⟩, fun q => absurd ((nI_eq (b := 20) (by omega) (by omega)).mp q) c2⟩
        rw [nI_clamp (by omega), ← nI_succ]
        refine ⟨rfl, _, _, _, rfl, ?_⟩
        intro c' hc
        subst hc
        have hu := h.up
        refine ⟨⟨N + 1, rfl, rfl, ⟨by omega, fun j hj => ?_⟩, fun j hj => ?_⟩, hu.2⟩
        · show ∃ c, upd (a 0) N x j = nI c ∧ 1 ≤ c ∧ c ≤ 126
          by_cases e : j = N
          · rw [e, pk_us]; exact ⟨cx, ex⟩
          · rw [upd_at e]; exact p3.2 j (by omega)
        · show upd pf N x j = upd (a 0) N x j
          by_cases e : j = N
          · rw [e, pk_us, pk_us]
          · rw [upd_at e, upd_at e]; exact p4 j hj
  · refine Two.read h (-102) (fun ad Q hq => ?_) (fun ad hh Q hq => ?_)
    · have hq := hq _ ⟨tu, td, t, wa, le, se, rfl⟩
      refine sg_X6_letter_0 ⟨fun _ => hq, fun q => ⟨fun q2 => absurd ⟨Int32.not_lt.mp q, q2⟩ c1, fun _ => hq⟩⟩
    · exact sg_X7_letter_0 (t_in 1 126 (by decide) (by decide) ⟨_, rfl, rfl, br_iten (fun _ => hq a v hh Sc.rfl' ScV.rfl') (fun q => absurd q c1)⟩)
theorem two_blank {G : GG} {T : Nat} {a : Fm} {v : Ar} {c : CT} (h : Rel T a v c) : Two G mX6_blank mX7_blank [] T a v c := by
  obtain ⟨pf, pn, u, d, g, l, n, fn, fd, ku, kd, kg, kl, kn, kfn, kfd, tu, td, t, wa, le, se, cv⟩ := c
  obtain ⟨⟨N, p1, p2, p3, p4⟩, hS, hc1, hc2⟩ := id h
  refine ⟨nI N, fun c' => c' = (pf, 0, u, d, g, l, n, fn, fd, ku, kd, kg, kl, kn, kfn, kfd, tu, td, t, wa, le, se, cv), fun ad => ?_, fun ad hh => ?_⟩
  · refine sg_X6_blank_0 ?_
    rw [p1]
    exact ⟨rfl, _, rfl, rfl⟩
  · refine sg_X7_blank_0 ?_
    rw [p2]
    refine ⟨rfl, _, _, _, rfl, ?_⟩
    intro c' hc
    subst hc
    exact ⟨⟨0, rfl, rfl, ⟨by omega, fun j hj => absurd hj (Nat.not_lt_zero j)⟩, p4⟩, h.up.2⟩
theorem PG.cong {p q : Ar} {n : Nat} (h : PG p n) (e : Eqn 20 q p) : PG q n := ⟨h.1, fun j hj => by rw [e j (by have := h.1; omega)]; exact h.2 j hj⟩
theorem flt_cong {p q : Nat → Bool} : ∀ (m k : Nat), (∀ j, k ≤ j → j < k + m → p j = q j) → flt p m k = flt q m k
  | 0, k, _ => rfl
  | m + 1, k, h => by
    simp only [flt]
    rw [h k (Nat.le_refl _) (by omega), flt_cong m (k + 1) (fun j h1 h2 => h j (by omega) (by omega))]
theorem okP_cong {s : Int32} {p q : Ar} {j : Nat} (h : p j = q j) : okP s p j = okP s q j := by
  simp only [okP, okS, okW]
  rw [h]
theorem okS_cong {p q : Ar} {j : Nat} (h : p j = q j) : okS p j = okS q j := by simp only [okS]; rw [h]
theorem okW_cong {p q : Ar} {j : Nat} (h : p j = q j) : okW p j = okW q j := by simp only [okW]; rw [h]
theorem two_fault {G : GG} {T : Nat} {a : Fm} {v : Ar} {c : CT} {x : Int32} (h : Rel T a v c) : Two G mX6_fault mX7_fault [(1, .int x)] T a v c := by
  obtain ⟨pf, pn, u, d, g, l, n, fn, fd, ku, kd, kg, kl, kn, kfn, kfd, tu, td, t, wa, le, se, cv⟩ := c
  obtain ⟨⟨N, p1, p2, p3, p4⟩, hS, hc1, hc2⟩ := id h
  have ef : flt (okP x pf) N 0 = flt (okP x (a 0)) N 0 := flt_cong N 0 (fun j _ hj => okP_cong (p4 j (by have := p3.1; omega)))
  by_cases c1 : x = 0 ∨ x = 1
  · refine Two.read h (nI (flt (okP x (a 0)) N 0)) (fun ad Q hq => ?_) (fun ad hh Q hq => ?_)
    · have hq := hq _ ⟨tu, td, t, wa, le, se, rfl⟩
      rw [p1] at hq ⊢
      rw [← ef] at hq
      refine sg_X6_fault_0 ⟨fun _ => t_firstFault (p3.cong p4) ⟨_, rfl, rfl, hq⟩, fun q => ⟨fun _ => t_firstFault (p3.cong p4) ⟨_, rfl, rfl, hq⟩, fun q2 => absurd c1 (fun z => z.elim q q2)⟩⟩
    · refine sg_X7_fault_0 (t_in 0 1 (by decide) (by decide) ⟨_, rfl, rfl, br_ite (fun q => ?_) (fun _ => t_faultOf p2 p3 ⟨_, rfl, rfl, hq a v hh Sc.rfl' ScV.rfl'⟩)⟩)
      exact absurd (by rcases c1 with z | z <;> rw [z] <;> decide) q
  · refine Two.read h (-102) (fun ad Q hq => ?_) (fun ad hh Q hq => ?_)
    · exact sg_X6_fault_0 ⟨fun q => absurd (Or.inl q) c1, fun q => ⟨fun q2 => absurd (Or.inr q2) c1, fun _ => hq _ ⟨tu, td, t, wa, le, se, rfl⟩⟩⟩
    · refine sg_X7_fault_0 (t_in 0 1 (by decide) (by decide) ⟨_, rfl, rfl, br_ite (fun _ => hq a v hh Sc.rfl' ScV.rfl') (fun q => ?_)⟩)
      exfalso
      obtain ⟨j, hj, e⟩ := nI_of2 (n := 1) (M := 1) (by decide) (Int32.not_lt.mpr q.1) q.2
      have : j = 0 ∨ j = 1 := by omega
      rcases this with z | z
      · exact c1 (Or.inl (by rw [e, z]; rfl))
      · exact c1 (Or.inr (by rw [e, z]; rfl))
theorem two_about {G : GG} {T : Nat} {a : Fm} {v : Ar} {c : CT} {x1 x2 : Int32} (h : Rel T a v c) (hT : T < 2 ^ 30) : Two G mX6_about mX7_about [(1, .int x1), (2, .int x2)] T a v c := by
  obtain ⟨pf, pn, u, d, g, l, n, fn, fd, ku, kd, kg, kl, kn, kfn, kfd, tu, td, t, wa, le, se, cv⟩ := c
  obtain ⟨hp, ⟨S, s1, s2, s3, s4, st, im⟩, hc1, hc2⟩ := id h
  have hth := v1_iff st
  by_cases c1 : 0 < S ∧ 0 ≤ x1 ∧ x1 ≤ 5
  · obtain ⟨k, hk, ek⟩ := gut c1.2.1 c1.2.2
    subst ek
    rcases st with ⟨q, -⟩ | ⟨-, -, R, q1, q2, q3, q4, q5, q6, q7, q8, q9, q10, q11, q12, q13, q14⟩
    · omega
    obtain ⟨b4, b2, b3, b5, b6, bd⟩ := q9 k hk
    refine Two.read h (telM a k x2) (fun ad Q hq => ?_) (fun ad hh Q hq => ?_)
    · have hq := hq _ ⟨tu, td, t, wa, le, se, rfl⟩
      refine sg_X6_about_0 (t_isGutter s1 (by omega) ⟨_, rfl, rfl, br_iten (fun q => absurd c1 q) (fun _ => ?_)⟩)
      rw [nI_clamp (by omega), (q8 k hk).1, (q8 k hk).2, b4, b2, b6, b5]
      have hin : vp_in (nI k) 6 := vp_in_nI hk (by omega)
      simp only [telM] at hq
      refine ⟨fun c => ⟨hin, ?_⟩, fun c => ⟨hin, ?_⟩, fun c => ⟨hin, ?_⟩, fun c => ⟨hin, ?_⟩, fun c => ⟨hin, ?_⟩, fun c => ⟨hin, ?_⟩, fun c => ?_⟩
      · subst c; exact hq
      · subst c; exact hq
      · subst c; exact hq
      · subst c; exact hq
      · subst c; exact hq
      · subst c; exact hq
      · obtain ⟨c0, c1, c2, c3, c4, c5⟩ := c
        rw [if_neg c0, if_neg c1, if_neg c2, if_neg c3, if_neg c4, if_neg c5] at hq
        exact hq
    · exact sg_X7_about_0 (t_mIsGutter ⟨_, rfl, rfl, br_ite (fun q => absurd ⟨hth.mpr c1.1, c1.2⟩ q) (fun _ => t_tell hk ⟨_, rfl, rfl, hq a v hh Sc.rfl' ScV.rfl'⟩)⟩)
  · refine Two.read h (-101) (fun ad Q hq => ?_) (fun ad hh Q hq => ?_)
    · exact sg_X6_about_0 (t_isGutter s1 (by omega) ⟨_, rfl, rfl, br_iten (fun _ => hq _ ⟨tu, td, t, wa, le, se, rfl⟩) (fun q => absurd q c1)⟩)
    · exact sg_X7_about_0 (t_mIsGutter ⟨_, rfl, rfl, br_ite (fun _ => hq a v hh Sc.rfl' ScV.rfl') (fun q => absurd ⟨hth.mp q.1, q.2⟩ c1)⟩)
