/-! count, bestDrop, mornings -/
def lsS (f : Ar) : Nat → Int32
  | 0 => 0
  | n + 1 => lsS f n + f (17 * n + 3)
def blP (a : Fm) : Nat → Bool := fun g => decide (a 1 g = 1) && decide (¬ a 3 (17 * g + 1) = -1)
def ctM (a : Fm) (v : Ar) (x : Int32) : Int32 :=
  if x = 0 then (if v 1 = 0 then 0 else 6) else if x = 1 then (if v 1 = 0 then 0 else cnI (fun g => decide (a 2 g = -1)) 6) else if x = 2 then v 3 else if x = 3 then outS (a 3) 6 else if x = 4 then lsS (a 3) 6 else if x = 5 then cnI (blP a) 6 else if x = 6 then (if v 1 = 0 then 0 else cnI (fun g => decide (¬ a 12 g = -1)) 6) else if x = 7 then v 0 else if x = 8 then v 2 else if x = 9 then v 4 else if x = 10 then v 5 else -102
theorem ctM_cases {P : Int32 → Prop} {a : Fm} {v : Ar} {x : Int32} (h : P (ctM a v x)) : (x = 0 → P (if v 1 = 0 then 0 else 6)) ∧ (x = 1 → P (if v 1 = 0 then 0 else cnI (fun g => decide (a 2 g = -1)) 6)) ∧ (x = 2 → P (v 3)) ∧ (x = 3 → P (outS (a 3) 6)) ∧ (x = 4 → P (lsS (a 3) 6)) ∧ (x = 5 → P (cnI (blP a) 6)) ∧ (x = 6 → P (if v 1 = 0 then 0 else cnI (fun g => decide (¬ a 12 g = -1)) 6)) ∧ (x = 7 → P (v 0)) ∧ (x = 8 → P (v 2)) ∧ (x = 9 → P (v 4)) ∧ (x = 10 → P (v 5)) ∧ ((¬ x = 0 ∧ ¬ x = 1 ∧ ¬ x = 2 ∧ ¬ x = 3 ∧ ¬ x = 4 ∧ ¬ x = 5 ∧ ¬ x = 6 ∧ ¬ x = 7 ∧ ¬ x = 8 ∧ ¬ x = 9 ∧ ¬ x = 10) → P (-102)) := by
  refine ⟨fun e => ?_, fun e => ?_, fun e => ?_, fun e => ?_, fun e => ?_, fun e => ?_, fun e => ?_, fun e => ?_, fun e => ?_, fun e => ?_, fun e => ?_, fun e => ?_⟩
  case refine_12 =>
    obtain ⟨c0, c1, c2, c3, c4, c5, c6, c7, c8, c9, c10⟩ := e
    simp only [ctM] at h
    rw [if_neg c0, if_neg c1, if_neg c2, if_neg c3, if_neg c4, if_neg c5, if_neg c6, if_neg c7, if_neg c8, if_neg c9, if_neg c10] at h
    exact h
  all_goals subst e; exact h
theorem m_countOf {G : GG} {ad : Nat → Nat} {a : Fm} {v : Ar} {hh : Int64} {x : Int32} {Q : Option Value → va_W → Prop} (h : Q (some (.int (ctM a v x))) (mdW G ad 0 a v hh)) : J G mX7_countOf 0 [(0, .ref (ad 0)), (1, .int x)] [] (mdW G ad 0 a v hh) Q := by
  refine sg_X7_countOf_0 ?_
  have H : ∀ g, g ≤ 6 → J G mX7_countOf 7 [(0, .ref (ad 0)), (1, .int x), (2, .int (lsS (a 3) g)), (3, .int (cnI (blP a) g)), (4, .int (nI g))] [] (mdW G ad 0 a v hh) Q := by
    refine forDn ?_ (fun g hg ih => ?_)
    · obtain ⟨h0, h1, h2, h3, h4, h5, h6, h7, h8, h9, h10, h11⟩ := ctM_cases (P := fun r => Q (some (.int r)) (mdW G ad 0 a v hh)) h
      refine sg_X7_countOf_7 (br_t (le_rfl32 _) ⟨fun e => ⟨fun z => ?_, fun z => ?_⟩, fun e => t_outs ⟨_, rfl, rfl, h1 e⟩, h2, fun e => t_outOf ⟨_, rfl, rfl, h3 e⟩, h4, h5, fun e => t_founds ⟨_, rfl, rfl, h6 e⟩, h7, h8, h9, h10, h11⟩)
      · have h0 := h0 e; rw [if_pos z] at h0; exact h0
      · have h0 := h0 e; rw [if_neg z] at h0; exact h0
    · refine sg_X7_countOf_7 (br_f (ge6 hg) ?_)
      rw [e17_3, e17_1, nI_clamp (by omega), nI_clamp (by omega), nI_clamp (by omega), ← nI_succ]
      simp only [lsS, cnI, blP] at ih
      refine ⟨vp_in_nI (by omega) (by omega), vp_in_nI hg (by omega), fun z => ?_, fun z => ⟨vp_in_nI (by omega) (by omega), fun z2 => ?_, fun z2 => ?_⟩⟩
      · simpa [z, blP] using ih
      · simpa [z, z2, blP] using ih
      · simpa [z, z2, blP] using ih
  exact H 0 (Nat.zero_le _)
theorem smI_lsS {u d : Fm} {f : Ar} (h : SR u d f) : ∀ n, n ≤ 6 → smI (u 5) n = lsS f n
  | 0, _ => rfl
  | n + 1, hn => by simp only [smI, lsS]; rw [smI_lsS h n (by omega), (h n (by omega)).2.2.2.1]
theorem Rel.ks {T : Nat} {a : Fm} {v : Ar} {pf : Ar} {pn : Int32} {u d : Fm} {g l : Ar} {n : Int32} {fn : Ar} {fd ku kd : Fm} {kg kl : Ar} {kn : Int32} {kfn : Ar} {kfd tu td : Fm} {t wa le se cv : Ar} (h : Rel T a v (pf, pn, u, d, g, l, n, fn, fd, ku, kd, kg, kl, kn, kfn, kfd, tu, td, t, wa, le, se, cv)) : KW u (a 1) (a 2) ∧ SR u d (a 3) ∧ n = v 3 := by
  obtain ⟨hp, ⟨S, s1, s2, s3, s4, st, im⟩, hc1, hc2⟩ := h
  rcases st with ⟨-, -, e1, e2, ⟨z, -⟩, z2, -⟩ | ⟨-, -, R, q1, q2, q3, q4, q5, q6, q7, q8, q9, -⟩
  · exact ⟨z, z2, e1.trans e2.symm⟩
  · exact ⟨q8, q9, q1.trans q2.symm⟩
/-- RainLetters.count -/
theorem c_count {G : GG} {ad : Nat → Nat} {T : Nat} {a : Fm} {v : Ar} {pf : Ar} {pn : Int32} {u d : Fm} {g l : Ar} {n : Int32} {fn : Ar} {fd ku kd : Fm} {kg kl : Ar} {kn : Int32} {kfn : Ar} {kfd tu td : Fm} {t wa le se cv : Ar} {x : Int32} {Q : Option Value → va_W → Prop} (h : Rel T a v (pf, pn, u, d, g, l, n, fn, fd, ku, kd, kg, kl, kn, kfn, kfd, tu, td, t, wa, le, se, cv)) (hT : T < 2 ^ 30)
    (hq : Q (some (.int (ctM a v x))) (rlW G ad 0 pf pn u d g l n fn fd ku kd kg kl kn kfn kfd tu td t wa le se cv)) : J G mX6_count 0 [(0, .ref (ad 0)), (1, .int x)] [] (rlW G ad 0 pf pn u d g l n fn fd ku kd kg kl kn kfn kfd tu td t wa le se cv) Q := by
  have hf := h.founds
  obtain ⟨hk, hs, en⟩ := h.ks
  obtain ⟨⟨N, p1, p2, p3, p4⟩, ⟨S, s1, s2, s3, s4, st, im⟩, ⟨cf, f0, f1, f2⟩, ⟨co, o0, o1, o2⟩⟩ := id h
  have hth := v1_iff st
  obtain ⟨h0, h1, h2, h3, h4, h5, h6, h7, h8, h9, h10, h11⟩ := ctM_cases (P := fun r => Q (some (.int r)) (rlW G ad 0 pf pn u d g l n fn fd ku kd kg kl kn kfn kfd tu td t wa le se cv)) hq
  refine sg_X6_count_0 ⟨fun e => ?_, fun e => ?_, fun e => ?_, fun e => ?_, fun e => ?_, fun e => ?_, fun e => ?_, fun e => ?_, fun e => ?_, fun e => ?_, fun e => ?_, h11⟩
  · have h0 := h0 e
    refine t_hasStreet s1 (by omega) ⟨_, rfl, rfl, br_ite (fun z => ?_) (fun z => ?_)⟩
    · rw [if_pos (Decidable.not_not.mp (fun w => z (hth.mp w)))] at h0; exact h0
    · rw [if_neg (hth.mpr z)] at h0; exact h0
  · have h1 := h1 e
    refine t_hasStreet s1 (by omega) ⟨_, rfl, rfl, br_ite (fun z => ?_) (fun z => t_countOut ⟨_, rfl, rfl, ?_⟩)⟩
    · rw [if_pos (Decidable.not_not.mp (fun w => z (hth.mp w)))] at h1; exact h1
    · rw [if_neg (hth.mpr z), ← cnI_cong (p := fun g => decide (u 1 g = -1)) 6 (fun i hi => by rw [(hk i hi).2])] at h1
      exact h1
  · have h2 := h2 e
    rw [← en] at h2
    exact h2
  · have h3 := h3 e
    rw [← smI_outS hs 6 (Nat.le_refl _)] at h3
    exact t_lettersOut ⟨_, rfl, rfl, h3⟩
  · have h4 := h4 e
    rw [← smI_lsS hs 6 (Nat.le_refl _)] at h4
    exact t_lettersLost ⟨_, rfl, rfl, h4⟩
  · have h5 := h5 e
    rw [← cnI_cong (p := fun g => decide (u 0 g = 1) && decide (¬ u 2 g = -1)) 6 (fun i hi => by rw [(hk i hi).1, (hs i hi).2.1]; rfl)] at h5
    exact t_fullBowls ⟨_, rfl, rfl, h5⟩
  · have h6 := h6 e
    rw [← hf] at h6
    exact t_countFound ⟨_, rfl, rfl, h6⟩
  · have h7 := h7 e
    rw [p2, ← p1] at h7
    exact h7
  · have h8 := h8 e
    rw [s2, ← s1] at h8
    exact h8
  · have h9 := h9 e
    rw [f2, ← f1] at h9
    exact h9
  · have h10 := h10 e
    rw [o2, ← o1] at h10
    exact h10
theorem two_count {G : GG} {T : Nat} {a : Fm} {v : Ar} {c : CT} {x1 : Int32} (h : Rel T a v c) (hT : T < 2 ^ 30) : Two G mX6_count mX7_count [(1, .int x1)] T a v c := by
  obtain ⟨pf, pn, u, d, g, l, n, fn, fd, ku, kd, kg, kl, kn, kfn, kfd, tu, td, t, wa, le, se, cv⟩ := c
  refine Two.read h (ctM a v x1) (fun ad Q hq => ?_) (fun ad hh Q hq => ?_)
  · exact c_count h hT (hq _ ⟨tu, td, t, wa, le, se, rfl⟩)
  · exact sg_X7_count_0 (m_countOf ⟨_, rfl, rfl, hq a v hh Sc.rfl' ScV.rfl'⟩)
/-- bestDrop: the best gutter and the most letters out, of the first n -/
def bdO (a : Fm) (R : Nat) (x : Int32) (g : Nat) : Int32 := outS (runX 6 (FALL (a 1) (a 2) (a 4) (a 5) R) (a 1) (a 2) g x).2 6
def bdS (a : Fm) (R : Nat) (x : Int32) : Nat → Int32 × Int32
  | 0 => (-1, -1)
  | g + 1 => if bdO a R x g ≤ (bdS a R x g).2 then bdS a R x g else (nI g, bdO a R x g)
theorem outS_pos {f : Ar} {m : Nat} (h : LN f m) (hm : m ≤ 12) : ∀ n, n ≤ 6 → ∃ k, outS f n = nI k ∧ k ≤ 12 * n
  | 0, _ => ⟨0, rfl, Nat.zero_le _⟩
  | n + 1, hn => by
    obtain ⟨k, e, hk⟩ := outS_pos h hm n (by omega)
    obtain ⟨j, ej, hj⟩ := h n (by omega)
    exact ⟨k + j, by simp only [outS]; rw [e, ej, nI_add], by omega⟩
theorem bd_first {x : Int32} (h : 0 ≤ x) : ¬ x ≤ -1 := fun q => absurd (Int32.le_trans h q) (by decide)
theorem c_bestDrop {G : GG} {ad : Nat → Nat} {pf : Ar} {pn : Int32} {u d : Fm} {g l : Ar} {n : Int32} {fn : Ar} {fd ku kd : Fm} {kg kl : Ar} {kn : Int32} {kfn : Ar} {kfd tu td : Fm} {t wa le se cv : Ar} {a : Fm} {rn : Int32} {R : Nat} {x : Int32} {Q : Option Value → va_W → Prop} (hR11 : R ≤ 11) (hc : SCN u d g l n fn fd (a 1) (a 2) (a 3) (a 4) (a 5) rn (a 12) (a 13) R)
    (h : ∀ tu td, Q (some (.int (bdS a R x 6).1)) (rlW G ad 0 pf pn u d g l n fn fd ku kd kg kl kn kfn kfd tu td t wa le se cv)) : J G mX6_bestDrop 45 [(0, .ref (ad 0)), (1, .int x), (2, .int 0), (3, .int (-1)), (4, .int 0)] [] (rlW G ad 0 pf pn u d g l n fn fd ku kd kg kl kn kfn kfd tu td t wa le se cv) Q := by
  obtain ⟨q1, q2, q3, q4, q5, q6, q7, q8, q9, q10, q11, q12, q13, q14⟩ := hc
  subst q1
  have H : ∀ k, k ≤ 6 → ∀ tu td, J G mX6_bestDrop 45 [(0, .ref (ad 0)), (1, .int x), (2, .int (if k = 0 then 0 else (bdS a R x k).1)), (3, .int (bdS a R x k).2), (4, .int (nI k))] [] (rlW G ad 0 pf pn u d g l (nI R) fn fd ku kd kg kl kn kfn kfd tu td t wa le se cv) Q := by
    refine forDn ?_ (fun k hk ih => ?_)
    · intro tu td
      exact sg_X6_bestDrop_45 (br_t (le_rfl32 _) (h tu td))
    · intro tu td
      refine sg_X6_bestDrop_45 (br_f (ge6 hk) (t_layLike ⟨_, rfl, rfl, ?_⟩))
      refine t_runAll (k := a 1) (w := a 2) (f := DRY) (rl2 := l) q3 (KW_ly q8) q11 SR_ly LN_DRY (q4.cong q6 q3) (fun j hj => by rw [if_neg (nI_ne_m1 (by omega))]) (fun u' d' b1 b2 b3 => ⟨d', u', rfl, rfl, ?_⟩)
      have hSR : SR u' d' (FALL (a 1) (a 2) (a 4) (a 5) R) := b1.cong (fallF_cong (fun _ _ => rfl) (fun _ _ => rfl) q11 EqR.rfl' R (q4.cong q6 q3) (fun j hj => q6 j (by omega)) (fun j hj => q7 j (by omega)))
      have hLN : LN (FALL (a 1) (a 2) (a 4) (a 5) R) R := LN.fall q11 LN_DRY R q3 q4
      have hKW : KW u' (a 1) (a 2) := fun i hi => by rw [b2, b3]; exact KW_ly q8 i hi
      refine t_run hk hKW q11 hSR (hLN.mono (by omega)) (fun u2 d2 e1 e2 e3 => ⟨_, d2, u2, rfl, rfl, t_lettersOut ⟨_, rfl, rfl, ?_⟩⟩)
      rw [smI_outS e1 6 (Nat.le_refl _)]
      rw [← nI_succ]
      rw [if_neg (Nat.succ_ne_zero k)] at ih
      simp only [bdS] at ih
      have eo : outS (runX 6 (FALL (a 1) (a 2) (a 4) (a 5) R) (a 1) (a 2) k x).2 6 = bdO a R x k := rfl
      rw [eo]
      refine ⟨fun z => ?_, fun z => ?_⟩
      · rw [if_pos z] at ih
        have hk0 : ¬ k = 0 := by
          intro e
          subst e
          obtain ⟨m, em, hm⟩ := outS_pos (LN.run (k := a 1) q11 6 _ R 0 x hLN (by omega) hR11) (by omega) 6 (Nat.le_refl _)
          rw [← eo, em] at z
          exact bd_first (nI_pos' (by omega)) z
        rw [if_neg hk0]
        exact ih u2 d2
      · rw [if_neg z] at ih
        exact ih u2 d2
  exact H 0 (Nat.zero_le _) tu td
theorem m_bestDrop {G : GG} {ad : Nat → Nat} {a : Fm} {v : Ar} {hh : Int64} {R : Nat} {x : Int32} {Q : Option Value → va_W → Prop} (hM : MOK a v R) (hR11 : R ≤ 11) (h : ∀ a', Sc a a' → Q (some (.int (bdS a R x 6).1)) (mdW G ad 0 a' v hh)) : J G mX7_bestDrop 48 [(0, .ref (ad 0)), (1, .int x), (2, .int (-1)), (3, .int (-1)), (4, .int 0)] [] (mdW G ad 0 (asI a) v hh) Q := by
  obtain ⟨hn, hn12, hg, hW, hF⟩ := hM
  have H : ∀ k, k ≤ 6 → ∀ F : Ar, J G mX7_bestDrop 48 [(0, .ref (ad 0)), (1, .int x), (2, .int (bdS a R x k).1), (3, .int (bdS a R x k).2), (4, .int (nI k))] [] (mdW G ad 0 (va_up (asI a) 6 F) v hh) Q := by
    refine forDn ?_ (fun k hk ih => ?_)
    · intro F
      refine sg_X7_bestDrop_48 (br_t (le_rfl32 _) (h _ (fun i hi => ?_)))
      simp only [asI, va_up]
      rw [if_neg (by omega), if_neg (by omega), if_neg (by omega), if_neg (by omega)]
    · intro F
      have b7 : Eqn 6 (asI a 7) (a 1) := fun i hi => by simp [asI, va_up, cpn, hi]
      have b8 : Eqn 6 (asI a 8) (a 2) := fun i hi => by simp [asI, va_up, cpn, hi]
      have b9 : Eqn 12 (asI a 9) (a 5) := fun i hi => by simp [asI, va_up, cpn, hi]
      have hW8 : WF (asI a 8) := hW.cong (fun i hi => (b8 i hi).symm)
      have hEq : EqR (fallF (asI a 7) (asI a 8) (a 4) (asI a 9) (dryF F) R) (FALL (a 1) (a 2) (a 4) (a 5) R) := fallF_cong b7 b8 hW8 dryF_DRY R hg (fun _ _ => rfl) (fun i hi => b9 i (by omega))
      have hLN : LN (fallF (asI a 7) (asI a 8) (a 4) (asI a 9) (dryF F) R) R := LN.fall hW8 LN_dry R hn12 hg
      refine sg_X7_bestDrop_48 (br_f (ge6 hk) (t_fallsAgain hn hn12 hg hW8 ⟨_, rfl, rfl, ?_⟩))
      refine t_runs hk hW8 (hLN.mono (by omega)) ⟨_, (runX 6 (fallF (asI a 7) (asI a 8) (a 4) (asI a 9) (dryF F) R) (asI a 7) (asI a 8) k x).2, rfl, rfl, ?_⟩
      have eo : outS (runX 6 (fallF (asI a 7) (asI a 8) (a 4) (asI a 9) (dryF F) R) (asI a 7) (asI a 8) k x).2 6 = bdO a R x k := outS_cong (runX_cong b7 b8 hW8 6 _ _ k x hEq hk).2 6 (Nat.le_refl _)
      simp only [bdS] at ih
      generalize (runX 6 (fallF (asI a 7) (asI a 8) (a 4) (asI a 9) (dryF F) R) (asI a 7) (asI a 8) k x).2 = X at eo ⊢
      refine t_outOf ⟨_, rfl, rfl, ?_⟩
      rw [eo, bx_uu, bx_uu, ← nI_succ]
      refine ⟨fun z => t_outOf ⟨_, rfl, rfl, ?_⟩, fun z => t_outOf ⟨_, rfl, rfl, ?_⟩⟩
      · rw [eo]
        rw [if_pos z] at ih
        exact br_t z (ih _)
      · rw [eo]
        rw [if_neg z] at ih
        refine br_f z (t_outOf ⟨_, rfl, rfl, ?_⟩)
        rw [eo]
        exact ih _
  have := H 0 (Nat.zero_le _) (asI a 6)
  rw [← vup_of (b := asI a) (a := asI a) (k := 6) (fun _ _ => rfl)] at this
  exact this
theorem two_bestDrop {G : GG} {T : Nat} {a : Fm} {v : Ar} {c : CT} {x1 : Int32} (h : Rel T a v c) (hT : T < 2 ^ 30) : Two G mX6_bestDrop mX7_bestDrop [(1, .int x1)] T a v c := by
  obtain ⟨pf, pn, u, d, g, l, n, fn, fd, ku, kd, kg, kl, kn, kfn, kfd, tu, td, t, wa, le, se, cv⟩ := c
  obtain ⟨hp, ⟨S, s1, s2, s3, s4, st, im⟩, hc1, hc2⟩ := id h
  have hth := v1_iff st
  by_cases c1 : 0 ≤ x1 ∧ x1 ≤ 4
  · by_cases c2 : 0 < S
    · rcases st with ⟨q, -⟩ | ⟨-, q0, R, hR⟩
      · omega
      have hR12 := hR.2.2.1
      by_cases c3 : R = 12
      · refine Two.read h (-104) (fun ad Q hq => ?_) (fun ad hh Q hq => ?_)
        · refine sg_X6_bestDrop_0 (t_isLetter ⟨_, rfl, rfl, br_iten (fun q => absurd c1 q) (fun _ => t_hasStreet s1 (by omega) ⟨_, rfl, rfl, br_iten (fun q => absurd c2 q) (fun _ => br_f ?_ (hq _ ⟨tu, td, t, wa, le, se, rfl⟩))⟩)⟩)
          rw [hR.1, c3]; decide
        · refine sg_X7_bestDrop_0 (t_in 0 4 (by decide) (by decide) ⟨_, rfl, rfl, br_iten (fun q => absurd c1 q) (fun _ => ⟨fun _ => ⟨fun q => absurd ?_ q, fun _ => hq a v hh Sc.rfl' ScV.rfl'⟩, fun q => absurd q (hth.mpr c2)⟩)⟩)
          rw [hR.2.1, c3]; rfl
      · refine Two.read h (bdS a R x1 6).1 (fun ad Q hq => ?_) (fun ad hh Q hq => ?_)
        · refine sg_X6_bestDrop_0 (t_isLetter ⟨_, rfl, rfl, br_iten (fun q => absurd c1 q) (fun _ => t_hasStreet s1 (by omega) ⟨_, rfl, rfl, br_iten (fun q => absurd c2 q) (fun _ => br_t ?_ (c_bestDrop (by omega) hR (fun tu td => hq _ ⟨tu, td, t, wa, le, se, rfl⟩)))⟩)⟩)
          rw [hR.1]
          exact nI_lt (b := 12) (by omega) (by omega)
        · refine sg_X7_bestDrop_0 (t_in 0 4 (by decide) (by decide) ⟨_, rfl, rfl, br_iten (fun q => absurd c1 q) (fun _ => ⟨fun _ => ⟨fun _ => t_asItIs ⟨_, rfl, rfl, m_bestDrop hR.mok (by omega) (fun a' ha => hq a' v hh ha ScV.rfl')⟩, fun q => ?_⟩, fun q => absurd q (hth.mpr c2)⟩)⟩)
          rw [hR.2.1] at q
          exact absurd ((nI_eq (b := 12) (by omega) (by omega)).mp q) c3
    · refine Two.read h (-103) (fun ad Q hq => ?_) (fun ad hh Q hq => ?_)
      · exact sg_X6_bestDrop_0 (t_isLetter ⟨_, rfl, rfl, br_iten (fun q => absurd c1 q) (fun _ => t_hasStreet s1 (by omega) ⟨_, rfl, rfl, br_iten (fun _ => hq _ ⟨tu, td, t, wa, le, se, rfl⟩) (fun q => absurd q c2)⟩)⟩)
      · exact sg_X7_bestDrop_0 (t_in 0 4 (by decide) (by decide) ⟨_, rfl, rfl, br_iten (fun q => absurd c1 q) (fun _ => ⟨fun q => absurd (hth.mp q) c2, fun _ => hq a v hh Sc.rfl' ScV.rfl'⟩)⟩)
  · refine Two.read h (-102) (fun ad Q hq => ?_) (fun ad hh Q hq => ?_)
    · exact sg_X6_bestDrop_0 (t_isLetter ⟨_, rfl, rfl, br_iten (fun _ => hq _ ⟨tu, td, t, wa, le, se, rfl⟩) (fun q => absurd q c1)⟩)
    · exact sg_X7_bestDrop_0 (t_in 0 4 (by decide) (by decide) ⟨_, rfl, rfl, br_iten (fun _ => hq a v hh Sc.rfl' ScV.rfl') (fun q => absurd q c1)⟩)
