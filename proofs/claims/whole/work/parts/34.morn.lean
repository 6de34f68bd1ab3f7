/-! mornings -/
def nsd (x : Int32) : Int32 := (1103515245 * x + 12345) &&& 2147483647
def sN (x : Int32) : Nat := (nsd x).toNatClampNeg
theorem w_and (a b : Nat) : nI a &&& nI b = nI (a &&& b) := by
  apply Int32.toBitVec_inj.1
  show BitVec.ofNat 32 a &&& BitVec.ofNat 32 b = BitVec.ofNat 32 (a &&& b)
  apply BitVec.eq_of_getLsbD_eq
  intro i hi
  simp [hi]
theorem w_of32 (x : Int32) : ∃ n, n < 2 ^ 32 ∧ x = nI n := ⟨x.toBitVec.toNat, x.toBitVec.isLt, Int32.toBitVec_inj.mp (by show _ = BitVec.ofNat 32 _; simp)⟩
theorem nsd_nI (x : Int32) : ∃ m, m < 2 ^ 31 ∧ nsd x = nI m := by
  obtain ⟨n, -, e⟩ := w_of32 x
  refine ⟨(1103515245 * n + 12345) % 2 ^ 31, Nat.mod_lt _ (by decide), ?_⟩
  have e1 : (1103515245 : Int32) * x + 12345 = nI (1103515245 * n + 12345) := by
    rw [e, ← nI_add, ← pk_mul]; rfl
  simp only [nsd]
  rw [e1, show (2147483647 : Int32) = nI (2 ^ 31 - 1) from rfl, w_and, Nat.and_two_pow_sub_one_eq_mod]
theorem nsd_sN (x : Int32) : nsd x = nI (sN x) ∧ sN x < 2 ^ 31 := by
  obtain ⟨m, hm, e⟩ := nsd_nI x
  simp only [sN]
  rw [e, nI_clamp hm]
  exact ⟨rfl, hm⟩
theorem nsd_l (x : Int32) : Int64.toInt32 ((1103515245 * Int32.toInt64 x + 12345) &&& 2147483647) = nsd x := by
  have e : ∀ a b : Int64, (a &&& b).toInt32 = a.toInt32 &&& b.toInt32 := fun a b => by
    apply Int32.toBitVec_inj.1
    apply BitVec.eq_of_getLsbD_eq
    intro i hi
    simp
  rw [e, lg_l2i_add, lg_l2i_mul, lg_l2i_i2l]
  rfl
theorem nsd_s (x : Int32) (k : Nat) (hk : 0 < k) (hk2 : k < 2 ^ 31) : ((nsd x >>> ((16 : Int32) &&& 31) : Int32) - (nsd x >>> ((16 : Int32) &&& 31) : Int32) / nI k * nI k) = nI (sN x / 65536 % k) := by
  obtain ⟨e, h⟩ := nsd_sN x
  rw [e, pk_shrN h _ 16 (by decide)]
  exact pk_rem (by omega) hk hk2
theorem nsd_d (x : Int32) (k : Nat) (hk : 0 < k) (hk2 : k < 2 ^ 31) : (nsd x / 65536 - nsd x / 65536 / nI k * nI k) = nI (sN x / 65536 % k) := by
  obtain ⟨e, h⟩ := nsd_sN x
  have e2 : nsd x / 65536 = nI (sN x / 65536) := by
    rw [e, show (65536 : Int32) = nI 65536 from rfl]
    rw [pk_div (by simp only [sN] at h ⊢; exact h) (by decide) (by decide)]
  rw [e2]
  exact pk_rem (by omega) hk hk2
def mgD (k w : Ar) (s : Int32) : Nat → Ar × Int32
  | 0 => (DRY, s)
  | n + 1 => ((runX 6 (mgD k w s n).1 k w (sN (mgD k w s n).2 / 65536 % 6) (nI (sN (nsd (mgD k w s n).2) / 65536 % 5))).2, nsd (nsd (mgD k w s n).2))
def mgT (k w : Ar) (s : Int32) : Nat → Int32 × Int32
  | 0 => (0, s)
  | n + 1 => ((mgT k w s n).1 + outS (mgD k w (mgT k w s n).2 5).1 6, (mgD k w (mgT k w s n).2 5).2)
theorem LN.mg {k w : Ar} {s : Int32} (hW : WF w) : ∀ n, n ≤ 5 → LN (mgD k w s n).1 n
  | 0, _ => LN_DRY
  | n + 1, hn => LN.run hW 6 _ n _ _ (LN.mg hW n (by omega)) (Nat.mod_lt _ (by decide)) (by omega)
theorem c_mornings {G : GG} {ad : Nat → Nat} {pf : Ar} {pn : Int32} {u d : Fm} {g l : Ar} {n : Int32} {fn : Ar} {fd ku kd : Fm} {kg kl : Ar} {kn : Int32} {kfn : Ar} {kfd tu td : Fm} {t wa le se cv : Ar} {k w : Ar} {N : Nat} {x2 x3 : Int32} {Q : Option Value → va_W → Prop} (hN : N < 2 ^ 31) (hk : KW u k w) (hW : WF w)
    (h : ∀ tu td, Q (some (.int (if x3 = 0 then (mgT k w x2 N).1 else (mgT k w x2 N).2))) (rlW G ad 0 pf pn u d g l n fn fd ku kd kg kl kn kfn kfd tu td t wa le se cv)) : J G mX6_mornings 46 [(0, .ref (ad 0)), (1, .int (nI N)), (2, .int x2), (3, .int x3), (4, .int 0), (5, .int x2), (6, .int 0)] [] (rlW G ad 0 pf pn u d g l n fn fd ku kd kg kl kn kfn kfd tu td t wa le se cv) Q := by
  have H : ∀ i, i ≤ N → ∀ tu td, J G mX6_mornings 46 [(0, .ref (ad 0)), (1, .int (nI N)), (2, .int x2), (3, .int x3), (4, .int (mgT k w x2 i).1), (5, .int (mgT k w x2 i).2), (6, .int (nI i))] [] (rlW G ad 0 pf pn u d g l n fn fd ku kd kg kl kn kfn kfd tu td t wa le se cv) Q := by
    refine forDn ?_ (fun i hi ih => ?_)
    · intro tu td
      have h := h tu td
      exact sg_X6_mornings_46 (br_t (le_rfl32 _) ⟨fun z => by rw [if_neg z] at h; exact h, fun z => by rw [if_pos z] at h; exact h⟩)
    · intro tu td
      refine sg_X6_mornings_46 (br_f (nI_ge hi hN) (t_layLike ⟨_, rfl, rfl, ?_⟩))
      have IN : ∀ j, j ≤ 5 → ∀ tu td, SR tu td (mgD k w (mgT k w x2 i).2 j).1 → KW tu k w → J G mX6_mornings 69 [(0, .ref (ad 0)), (1, .int (nI N)), (2, .int x2), (3, .int x3), (4, .int (mgT k w x2 i).1), (5, .int (mgD k w (mgT k w x2 i).2 j).2), (6, .int (nI i)), (7, .int (nI j))] [] (rlW G ad 0 pf pn u d g l n fn fd ku kd kg kl kn kfn kfd tu td t wa le se cv) Q := by
        refine forDn ?_ (fun j hj ih2 => ?_)
        · intro tu td h1 h2
          refine sg_X6_mornings_69 (br_t (le_rfl32 _) (t_lettersOut ⟨_, rfl, rfl, ?_⟩))
          rw [smI_outS h1 6 (Nat.le_refl _), ← nI_succ]
          exact ih tu td
        · intro tu td h1 h2
          refine sg_X6_mornings_69 (br_f (ge5 hj) (sg_X6_nextSeed_0 (ad := fun q => q) ⟨nsd (mgD k w (mgT k w x2 i).2 j).2, rfl, rfl, sg_X6_nextSeed_0 (ad := fun q => q) ⟨nsd (nsd (mgD k w (mgT k w x2 i).2 j).2), rfl, rfl, ?_⟩⟩))
          have e6 := nsd_s (mgD k w (mgT k w x2 i).2 j).2 6 (by decide) (by decide)
          have e5 := nsd_s (nsd (mgD k w (mgT k w x2 i).2 j).2) 5 (by decide) (by decide)
          have l6 : (6 : Int32) = nI 6 := rfl
          have l5 : (5 : Int32) = nI 5 := rfl
          rw [l6, l5, e6, e5, ← nI_succ]
          exact t_run (Nat.mod_lt _ (by decide)) h2 hW h1 ((LN.mg hW j (by omega)).mono (by omega)) (fun u' d' b1 b2 b3 => ⟨_, d', u', rfl, rfl, ih2 u' d' b1 (fun q hq => by rw [b2, b3]; exact h2 q hq)⟩)
      exact IN 0 (Nat.zero_le _) _ _ SR_ly (KW_ly hk)
  exact H 0 (Nat.zero_le _) tu td
theorem m_mornings {G : GG} {ad : Nat → Nat} {a : Fm} {v : Ar} {hh : Int64} {N : Nat} {x2 x3 : Int32} {Q : Option Value → va_W → Prop} (hN : N < 2 ^ 31) (hW : WF (a 2))
    (h : ∀ F y, Q (some (.int (if x3 = 0 then (mgT (a 1) (a 2) x2 N).1 else (mgT (a 1) (a 2) x2 N).2))) (mdW G ad 0 (va_up a 6 F) (va_up v 6 y) hh)) : J G mX7_mornings 50 [(0, .ref (ad 0)), (1, .int (nI N)), (2, .int x2), (3, .int x3), (4, .int 0), (5, .int 0)] [] (mdW G ad 0 a (va_up v 6 x2) hh) Q := by
  have H : ∀ i, i ≤ N → ∀ F, J G mX7_mornings 50 [(0, .ref (ad 0)), (1, .int (nI N)), (2, .int x2), (3, .int x3), (4, .int (mgT (a 1) (a 2) x2 i).1), (5, .int (nI i))] [] (mdW G ad 0 (va_up a 6 F) (va_up v 6 (mgT (a 1) (a 2) x2 i).2) hh) Q := by
    refine forDn ?_ (fun i hi ih => ?_)
    · intro F
      have h := h F (mgT (a 1) (a 2) x2 N).2
      exact sg_X7_mornings_50 (br_t (le_rfl32 _) ⟨fun z => by rw [if_neg z] at h; exact h, fun z => by rw [if_pos z] at h; exact h⟩)
    · intro F
      refine sg_X7_mornings_50 (br_f (nI_ge hi hN) (t_dryRows ⟨dryF F, rfl, rfl, ?_⟩))
      rw [bx_uu]
      have IN : ∀ j, j ≤ 5 → ∀ F, EqR F (mgD (a 1) (a 2) (mgT (a 1) (a 2) x2 i).2 j).1 → J G mX7_mornings 66 [(0, .ref (ad 0)), (1, .int (nI N)), (2, .int x2), (3, .int x3), (4, .int (mgT (a 1) (a 2) x2 i).1), (5, .int (nI i)), (6, .int (nI j))] [] (mdW G ad 0 (va_up a 6 F) (va_up v 6 (mgD (a 1) (a 2) (mgT (a 1) (a 2) x2 i).2 j).2) hh) Q := by
        refine forDn ?_ (fun j hj ih2 => ?_)
        · intro F h1
          refine sg_X7_mornings_66 (br_t (le_rfl32 _) (t_outOf (f := F) ⟨_, rfl, rfl, ?_⟩))
          rw [outS_cong h1 6 (Nat.le_refl _), ← nI_succ]
          exact ih F
        · intro F h1
          have e6 := nsd_d (mgD (a 1) (a 2) (mgT (a 1) (a 2) x2 i).2 j).2 6 (by decide) (by decide)
          have e5 := nsd_d (nsd (mgD (a 1) (a 2) (mgT (a 1) (a 2) x2 i).2 j).2) 5 (by decide) (by decide)
          refine sg_X7_mornings_66 (br_f (ge5 hj) (sg_X7_draw_0 ⟨by decide, nI (sN (mgD (a 1) (a 2) (mgT (a 1) (a 2) x2 i).2 j).2 / 65536 % 6), va_up v 6 (nsd (mgD (a 1) (a 2) (mgT (a 1) (a 2) x2 i).2 j).2), ?_, ?_, sg_X7_draw_0 ⟨by decide, nI (sN (nsd (mgD (a 1) (a 2) (mgT (a 1) (a 2) x2 i).2 j).2) / 65536 % 5), va_up v 6 (nsd (nsd (mgD (a 1) (a 2) (mgT (a 1) (a 2) x2 i).2 j).2)), ?_, ?_, ?_⟩⟩))
          · show some (Value.int ((Int64.toInt32 (((1103515245 * (Int32.toInt64 (mgD (a 1) (a 2) (mgT (a 1) (a 2) x2 i).2 j).2)) + 12345) &&& 2147483647)) / 65536 - (Int64.toInt32 (((1103515245 * (Int32.toInt64 (mgD (a 1) (a 2) (mgT (a 1) (a 2) x2 i).2 j).2)) + 12345) &&& 2147483647)) / 65536 / nI 6 * nI 6)) = _
            rw [nsd_l, e6]
          · show mdW G ad 0 (va_up a 6 F) (va_up (va_up v 6 (mgD (a 1) (a 2) (mgT (a 1) (a 2) x2 i).2 j).2) 6 (Int64.toInt32 (((1103515245 * (Int32.toInt64 (mgD (a 1) (a 2) (mgT (a 1) (a 2) x2 i).2 j).2)) + 12345) &&& 2147483647))) hh = _
            rw [nsd_l, bx_uu]
          · show some (Value.int ((Int64.toInt32 (((1103515245 * (Int32.toInt64 (nsd (mgD (a 1) (a 2) (mgT (a 1) (a 2) x2 i).2 j).2))) + 12345) &&& 2147483647)) / 65536 - (Int64.toInt32 (((1103515245 * (Int32.toInt64 (nsd (mgD (a 1) (a 2) (mgT (a 1) (a 2) x2 i).2 j).2))) + 12345) &&& 2147483647)) / 65536 / nI 5 * nI 5)) = _
            rw [nsd_l, e5]
          · show mdW G ad 0 (va_up a 6 F) (va_up (va_up v 6 (nsd (mgD (a 1) (a 2) (mgT (a 1) (a 2) x2 i).2 j).2)) 6 (Int64.toInt32 (((1103515245 * (Int32.toInt64 (nsd (mgD (a 1) (a 2) (mgT (a 1) (a 2) x2 i).2 j).2))) + 12345) &&& 2147483647))) hh = _
            rw [nsd_l, bx_uu]
          · have hg : sN (mgD (a 1) (a 2) (mgT (a 1) (a 2) x2 i).2 j).2 / 65536 % 6 < 6 := Nat.mod_lt _ (by decide)
            have hL : LN F 11 := (LN.cong (LN.mg hW j (by omega)) h1.symm).mono (by omega)
            refine t_runs hg hW hL ⟨_, (runX 6 F (a 1) (a 2) (sN (mgD (a 1) (a 2) (mgT (a 1) (a 2) x2 i).2 j).2 / 65536 % 6) (nI (sN (nsd (mgD (a 1) (a 2) (mgT (a 1) (a 2) x2 i).2 j).2) / 65536 % 5))).2, rfl, rfl, ?_⟩
            rw [bx_uu, ← nI_succ]
            exact ih2 _ (runX_cong (fun _ _ => rfl) (fun _ _ => rfl) hW 6 _ _ _ _ h1 hg).2
      exact IN 0 (Nat.zero_le _) _ dryF_DRY
  have := H 0 (Nat.zero_le _) (a 6)
  rw [← vup_of (b := a) (a := a) (k := 6) (fun _ _ => rfl)] at this
  exact this
theorem two_mornings {G : GG} {T : Nat} {a : Fm} {v : Ar} {c : CT} {x1 x2 x3 : Int32} (h : Rel T a v c) (hT : T < 2 ^ 30) : Two G mX6_mornings mX7_mornings [(1, .int x1), (2, .int x2), (3, .int x3)] T a v c := by
  obtain ⟨pf, pn, u, d, g, l, n, fn, fd, ku, kd, kg, kl, kn, kfn, kfd, tu, td, t, wa, le, se, cv⟩ := c
  obtain ⟨hp, ⟨S, s1, s2, s3, s4, st, im⟩, hc1, hc2⟩ := id h
  have hth := v1_iff st
  have h40 : x1 ≤ 40 ↔ ¬ 40 < x1 := by rw [Int32.not_lt]
  have h1x : 1 ≤ x1 ↔ ¬ x1 < 1 := by rw [Int32.not_lt]
  have h01 : (0 ≤ x3 ∧ x3 ≤ 1) ↔ (x3 = 0 ∨ x3 = 1) := by
    refine ⟨fun q => ?_, fun q => by rcases q with z | z <;> rw [z] <;> decide⟩
    obtain ⟨j, hj, e⟩ := nI_of2 (n := 1) (M := 1) (by decide) (Int32.not_lt.mpr q.1) q.2
    have : j = 0 ∨ j = 1 := by omega
    rcases this with z | z
    · exact Or.inl (by rw [e, z]; rfl)
    · exact Or.inr (by rw [e, z]; rfl)
  by_cases c1 : (1 ≤ x1 ∧ x1 ≤ 40) ∧ ¬ x2 < 0 ∧ (x3 = 0 ∨ x3 = 1)
  · obtain ⟨⟨a1, a2⟩, a3, a4⟩ := c1
    by_cases c2 : 0 < S
    · rcases st with ⟨q, -⟩ | ⟨-, q0, R, q1, q2, q3, q4, q5, q6, q7, q8, q9, q10, q11, q12, q13, q14⟩
      · omega
      obtain ⟨N, hN, eN⟩ := nI_of (x := x1) (fun z => absurd (Int32.le_trans a1 (Int32.le_of_lt z)) (by decide))
      subst eN
      refine Two.read h (if x3 = 0 then (mgT (a 1) (a 2) x2 N).1 else (mgT (a 1) (a 2) x2 N).2) (fun ad Q hq => ?_) (fun ad hh Q hq => ?_)
      · have fin : J G mX6_mornings 46 [(0, .ref (ad 0)), (1, .int (nI N)), (2, .int x2), (3, .int x3), (4, .int 0), (5, .int x2), (6, .int 0)] [] (rlW G ad 0 pf pn u d g l n fn fd ku kd kg kl kn kfn kfd tu td t wa le se cv) Q := c_mornings hN q8 q11 (fun tu td => hq _ ⟨tu, td, t, wa, le, se, rfl⟩)
        refine sg_X6_mornings_0 (br_f (h1x.mp a1) (br_f (h40.mp a2) (br_f a3 ⟨fun _ => t_hasStreet s1 (by omega) ⟨_, rfl, rfl, br_iten (fun q => absurd c2 q) (fun _ => fin)⟩, fun z => ⟨fun _ => t_hasStreet s1 (by omega) ⟨_, rfl, rfl, br_iten (fun q => absurd c2 q) (fun _ => fin)⟩, fun z2 => absurd a4 (fun w => w.elim z z2)⟩⟩)))
      · refine sg_X7_mornings_0 (t_in 1 40 (by decide) (by decide) ⟨_, rfl, rfl, br_ite (fun q => absurd ⟨a1, a2⟩ q) (fun _ => br_f a3 (t_in 0 1 (by decide) (by decide) ⟨_, rfl, rfl, br_iten (fun q => absurd (h01.mpr a4) q) (fun _ => ⟨fun _ => ?_, fun q => absurd q (hth.mpr c2)⟩)⟩))⟩)
        refine m_mornings hN q11 (fun F y => hq _ _ hh (fun i hi => ?_) (fun i hi => ?_))
        · simp only [va_up]; rw [if_neg (by omega)]
        · simp only [va_up]; rw [if_neg hi]
    · refine Two.read h (-103) (fun ad Q hq => ?_) (fun ad hh Q hq => ?_)
      · have hq := hq _ ⟨tu, td, t, wa, le, se, rfl⟩
        exact sg_X6_mornings_0 (br_f (h1x.mp a1) (br_f (h40.mp a2) (br_f a3 ⟨fun _ => t_hasStreet s1 (by omega) ⟨_, rfl, rfl, br_iten (fun _ => hq) (fun q => absurd q c2)⟩, fun z => ⟨fun _ => t_hasStreet s1 (by omega) ⟨_, rfl, rfl, br_iten (fun _ => hq) (fun q => absurd q c2)⟩, fun z2 => absurd a4 (fun w => w.elim z z2)⟩⟩)))
      · exact sg_X7_mornings_0 (t_in 1 40 (by decide) (by decide) ⟨_, rfl, rfl, br_ite (fun q => absurd ⟨a1, a2⟩ q) (fun _ => br_f a3 (t_in 0 1 (by decide) (by decide) ⟨_, rfl, rfl, br_iten (fun q => absurd (h01.mpr a4) q) (fun _ => ⟨fun q => absurd (hth.mp q) c2, fun _ => hq a v hh Sc.rfl' ScV.rfl'⟩)⟩))⟩)
  · refine Two.read h (-102) (fun ad Q hq => ?_) (fun ad hh Q hq => ?_)
    · have hq := hq _ ⟨tu, td, t, wa, le, se, rfl⟩
      refine sg_X6_mornings_0 ⟨fun _ => hq, fun b1 => ⟨fun _ => hq, fun b2 => ⟨fun _ => hq, fun b3 => ⟨fun b4 => ?_, fun b4 => ⟨fun b5 => ?_, fun _ => hq⟩⟩⟩⟩⟩
      · exact absurd ⟨⟨h1x.mpr b1, h40.mpr b2⟩, b3, Or.inl b4⟩ c1
      · exact absurd ⟨⟨h1x.mpr b1, h40.mpr b2⟩, b3, Or.inr b5⟩ c1
    · have hq := hq a v hh Sc.rfl' ScV.rfl'
      exact sg_X7_mornings_0 (t_in 1 40 (by decide) (by decide) ⟨_, rfl, rfl, br_ite (fun _ => hq) (fun b1 => ⟨fun _ => hq, fun b3 => t_in 0 1 (by decide) (by decide) ⟨_, rfl, rfl, br_iten (fun _ => hq) (fun b4 => absurd ⟨b1, b3, h01.mp b4⟩ c1)⟩⟩)⟩)
