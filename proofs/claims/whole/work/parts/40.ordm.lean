/-! orders, of the reference -/
def orB : Nat → List Nat → Nat
  | b, [] => b
  | b, d :: s => orB (b ||| 2 ^ d) s
theorem orB_bit (v : Nat) : ∀ (s : List Nat) (b : Nat), (orB b s).testBit v = (b.testBit v || decide (v ∈ s))
  | [], b => by simp [orB]
  | d :: s, b => by
    simp only [orB]
    rw [orB_bit v s, Nat.testBit_or, Nat.testBit_two_pow]
    by_cases c : d = v
    · simp [c]
    · have c' : ¬ v = d := fun e => c e.symm
      simp [c, c']
theorem or_lt6 {b d : Nat} (hb : b < 64) (hd : d < 6) : b ||| 2 ^ d < 64 := Nat.or_lt_two_pow (n := 6) hb (Nat.pow_lt_pow_right (by decide) hd)
theorem orB_lt : ∀ (s : List Nat) (b : Nat), b < 64 → (∀ d, d ∈ s → d < 6) → orB b s < 64
  | [], b, h, _ => h
  | d :: s, b, h, hs => orB_lt s _ (or_lt6 h (hs d List.mem_cons_self)) (fun e he => hs e (List.mem_cons_of_mem _ he))
theorem orB_full {m : Nat} {s : List Nat} (hs : ∀ d, d ∈ s → d < m) : orB 0 s = 2 ^ m - 1 ↔ ∀ p, p < m → p ∈ s := by
  refine ⟨fun e p hp => ?_, fun h => ?_⟩
  · have := orB_bit p s 0
    rw [e, Nat.testBit_two_pow_sub_one, Nat.zero_testBit] at this
    simpa [hp] using this
  · refine Nat.eq_of_testBit_eq (fun i => ?_)
    rw [orB_bit, Nat.testBit_two_pow_sub_one, Nat.zero_testBit, Bool.false_or]
    by_cases c : i < m
    · simp [c, h i c]
    · simp [c]
      exact fun q => c (hs i q)
theorem or6 : ∀ d, d < 6 → ∀ b, b < 64 → nI b ||| ((1 : Int32) <<< (nI d &&& 31)) = nI (b ||| 2 ^ d) := by decide +kernel
theorem sh6 : ∀ m, m < 7 → ((1 : Int32) <<< (nI m &&& 31)) - 1 = nI (2 ^ m - 1) := by decide +kernel
theorem m_isOrder {G : GG} {ad : Nat → Nat} {a : Fm} {v : Ar} {hh : Int64} {m c : Nat} {Q : Option Value → va_W → Prop} (hm : m ≤ 6) (hc : c < 2 ^ 31) (h : ∀ b, (∀ i, i ≠ 11 → b i = a i) → (∀ j, j < m → b 11 j = nI ((dgs m m c).getD j 0)) → Q (some (.int (if ∀ p, p < m → p ∈ dgs m m c then 1 else 0))) (mdW G ad 0 b v hh)) : J G mX7_isOrder 0 [(0, .ref (ad 0)), (1, .int (nI c)), (2, .int (nI m))] [] (mdW G ad 0 a v hh) Q := by
  refine sg_X7_isOrder_0 ?_
  have H : ∀ (n k left seen : Nat) (b : Fm), k + n = m → left ≤ c → seen < 64 → (∀ b', (∀ i, i ≠ 11 → b' i = b i) → (∀ j, j < k → b' 11 j = b 11 j) → (∀ j, j < n → b' 11 (k + j) = nI ((dgs m n left).getD j 0)) → Q (some (.int (if orB seen (dgs m n left) = 2 ^ m - 1 then 1 else 0))) (mdW G ad 0 b' v hh)) → J G mX7_isOrder 8 [(0, .ref (ad 0)), (1, .int (nI c)), (2, .int (nI m)), (3, .int (nI left)), (4, .int (nI seen)), (5, .int (nI k))] [] (mdW G ad 0 b v hh) Q := by
    intro n
    induction n with
    | zero =>
      intro k left seen b h1 h2 h3 h4
      have h4 := h4 b (fun _ _ => rfl) (fun _ _ => rfl) (fun j hj => absurd hj (Nat.not_lt_zero j))
      refine sg_X7_isOrder_8 (br_t (nI_le (by omega) (by omega)) ?_)
      rw [sh6 m (by omega)]
      simp only [dgs, orB] at h4
      have h2m : 2 ^ m ≤ 64 := Nat.pow_le_pow_right (n := 2) (by decide) hm
      rw [nI_eq (by omega) (by omega)]
      exact ⟨fun z => by rw [if_neg z] at h4; exact h4, fun z => by rw [if_pos z] at h4; exact h4⟩
    | succ n ih =>
      intro k left seen b h1 h2 h3 h4
      have hz : ¬ nI m = 0 := nI_ne0 (by omega) (by omega)
      have e1 : nI left - nI left / nI m * nI m = nI (left % m) := pk_rem (by omega) (by omega) (by omega)
      have e2 : nI left / nI m = nI (left / m) := pk_div (by omega) (by omega) (by omega)
      have hd : left % m < m := Nat.mod_lt _ (by omega)
      have hdl := Nat.div_le_self left m
      refine sg_X7_isOrder_8 (br_f (nI_ge (by omega) (by omega)) ?_)
      rw [e1, e2, nI_clamp (by omega), or6 _ (by omega) _ h3, ← nI_succ]
      refine ⟨hz, vp_in_nI (by omega) (by omega), hz, ?_⟩
      refine ih (k + 1) (left / m) _ _ (by omega) (by omega) (or_lt6 h3 (by omega)) (fun b' b1 b2 b3 => ?_)
      refine h4 b' (fun i hi => ?_) (fun j hj => ?_) (fun j hj => ?_)
      · rw [b1 i hi]; simp only [va_up]; rw [if_neg hi]
      · rw [b2 j (by omega)]
        show upd (b 11) k _ j = _
        rw [upd_at (by omega)]
      · by_cases q : j = 0
        · subst q
          rw [Nat.add_zero, b2 k (by omega)]
          show upd (b 11) k _ k = _
          rw [pk_us]
          rfl
        · obtain ⟨j', rfl⟩ : ∃ j', j = j' + 1 := ⟨j - 1, by omega⟩
          have := b3 j' (by omega)
          rw [show k + 1 + j' = k + (j' + 1) by omega] at this
          rw [this]
          rfl
  refine H m 0 c 0 a (by omega) (Nat.le_refl _) (by decide) (fun b' b1 _ b3 => ?_)
  have h := h b' b1 (fun j hj => by have := b3 j hj; rw [Nat.zero_add] at this; exact this)
  have hs : ∀ d, d ∈ dgs m m c → d < m := fun d hd => by
    by_cases q : m = 0
    · rw [q] at hd; simp [dgs] at hd
    · exact dgs_lt (by omega) m c d hd
  rw [if_iff (orB_full hs)]
  exact h
theorem t_wordOf {G : GG} {ad : Nat → Nat} {a : Fm} {v : Ar} {hh : Int64} {g : Nat} {Q : Option Value → va_W → Prop} (hg : g < 6) (hL : LN (a 6) 6) (hT : LTR (a 6)) (h : Q (some (.int (nI (id6 g (a 6))))) (mdW G ad 0 a v hh)) : J G mX7_wordOf 0 [(0, .ref (ad 0)), (1, .int (nI g))] [] (mdW G ad 0 a v hh) Q := by
  refine sg_X7_wordOf_0 ?_
  obtain ⟨eN, hN⟩ := wN_ok hL hg (by omega)
  have H : ∀ j, j ≤ wN (a 6) g → J G mX7_wordOf 4 [(0, .ref (ad 0)), (1, .int (nI g)), (2, .int (nI (c6 (wL (a 6) g) j))), (3, .int (nI j))] [] (mdW G ad 0 a v hh) Q := by
    refine forDn ?_ (fun j hj ih => ?_)
    · refine sg_X7_wordOf_4 ?_
      rw [e17_4, nI_clamp (by omega), eN]
      exact ⟨vp_in_nI (by omega) (by omega), br_t (le_rfl32 _) h⟩
    · refine sg_X7_wordOf_4 ?_
      rw [e17_4, nI_clamp (by omega), eN, e17_5, nI_add, nI_clamp (by omega)]
      refine ⟨vp_in_nI (by omega) (by omega), br_f (nI_ge hj (by omega)) ⟨vp_in_nI (by omega) (by omega), ?_⟩⟩
      rw [(wL_ok hL hT hg (by omega) hj).1, ← nI_succ]
      have e : (6 : Int32) * nI (c6 (wL (a 6) g) j) + nI (wL (a 6) g j) + 1 = nI (c6 (wL (a 6) g) (j + 1)) := by
        simp only [c6]
        rw [nI_succ, ← nI_add, ← pk_mul]
        rfl
      rw [e]
      exact ih
  exact H 0 (Nat.zero_le _)
theorem LTR.cong {f f' : Ar} (h : LTR f) (e : EqR f f') : LTR f' := fun g hg => by
  obtain ⟨h1, h2⟩ := h g hg
  rw [e (17 * g + 1) (by omega)] at h1
  refine ⟨h1, fun n hn h12 j hj => ?_⟩
  rw [← e (17 * g + 5 + j) (by omega)]
  exact h2 n (by rw [e (17 * g + 4) (by omega)]; exact hn) h12 j hj
def MKm (cm : Ar) (L : List Nat) : Prop := ∀ e, e < 55987 → cm e = if e ∈ L then 1 else 0
theorem mm_le : ∀ m, m < 7 → m ^ m ≤ 46656 := by decide
theorem m_words {G : GG} {ad : Nat → Nat} {a : Fm} {v : Ar} {hh : Int64} {R g : Nat} {Q : Option Value → va_W → Prop} (hM : MOK a v R) (hl : LG (a 5) R) (hg6 : g < 6) (h : ∀ a', Sc a a' → Q (some (.int (nI (cd ((LM (min R 6) (min R 6 ^ min R 6)).map (fun s => id6 g (fsq a s))))))) (mdW G ad 0 a' v hh)) : J G mX7_orders 49 [(0, .ref (ad 0)), (1, .int (nI g)), (2, .int 0)] [] (mdW G ad 0 (asI a) v hh) Q := by
  obtain ⟨hn, hn12, hg, hW, hF⟩ := hM
  have hmR : min R 6 ≤ R := Nat.min_le_left _ _
  have hm6 : min R 6 ≤ 6 := Nat.min_le_right _ _
  have em : (6 : Int32) ≤ nI R → min R 6 = 6 := fun q => Nat.min_eq_right ((nI_leI (a := 6) (by omega) (by omega)).mp q)
  have em2 : ¬ (6 : Int32) ≤ nI R → min R 6 = R := fun q => Nat.min_eq_left (by
    have : ¬ 6 ≤ R := fun z => q (nI_le (a := 6) z (by omega))
    omega)
  generalize hmm : min R 6 = m at h hmR hm6 em em2
  have hpw := mm_le m (by omega)
  have MAIN : ∀ c, c ≤ m ^ m → ∀ b : Fm, (∀ i, i ≠ 6 → i ≠ 10 → i ≠ 11 → b i = asI a i) → MKm (b 10) ((LM m c).map (fun s => id6 g (fsq a s))) → J G mX7_orders 114 [(0, .ref (ad 0)), (1, .int (nI g)), (2, .int (nI m)), (3, .int (nI (m ^ m))), (4, .int (nI (cd ((LM m c).map (fun s => id6 g (fsq a s)))))), (5, .int (nI c))] [] (mdW G ad 0 b v hh) Q := by
    refine forDn ?_ (fun c hc ih => ?_)
    · intro b h1 h2
      refine sg_X7_orders_114 (br_t (le_rfl32 _) (h b (fun i hi => ?_)))
      rw [h1 i (by omega) (by omega) (by omega)]
      simp only [asI, va_up]
      rw [if_neg (by omega), if_neg (by omega), if_neg (by omega)]
    · intro b h1 h2
      refine sg_X7_orders_114 (br_f (nI_ge hc (by omega)) (m_isOrder hm6 (by omega) (fun B b1 b2 => ⟨_, B, rfl, rfl, ?_⟩)))
      have hB : ∀ i, i ≠ 6 → i ≠ 10 → i ≠ 11 → B i = asI a i := fun i i1 i2 i3 => by rw [b1 i i3]; exact h1 i i1 i2 i3
      have B10 : B 10 = b 10 := b1 10 (by omega)
      have ih := fun b => ih b
      simp only [LM] at ih
      rw [← nI_succ]
      refine br_ite (fun z => ?_) (fun z => t_dryRows ⟨dryF (B 6), rfl, rfl, ?_⟩)
      · rw [if_neg z] at ih
        exact ih B hB (by rw [B10]; exact h2)
      · rw [if_pos z] at ih
        have hSQ : SQ m (dgs m m c) := ⟨dgs_len _ _ _, z⟩
        obtain ⟨hLN, hLT⟩ := fsq_ok (a := a) (s := dgs m m c) hW hg hl hm6 hmR hSQ
        have B4 : B 4 = a 4 := hB 4 (by omega) (by omega) (by omega)
        have B5 : B 5 = a 5 := hB 5 (by omega) (by omega) (by omega)
        have B7 : Eqn 6 (B 7) (a 1) := fun i hi => by rw [hB 7 (by omega) (by omega) (by omega)]; simp [asI, va_up, cpn, hi]
        have B8 : Eqn 6 (B 8) (a 2) := fun i hi => by rw [hB 8 (by omega) (by omega) (by omega)]; simp [asI, va_up, cpn, hi]
        have hW8 : WF (B 8) := hW.cong (fun i hi => (B8 i hi).symm)
        have RUN : ∀ (s : List Nat) (k : Nat) (F : Ar), k + s.length = m → (∀ j, j < s.length → B 11 (k + j) = nI (s.getD j 0)) → (∀ d, d ∈ s → d < m) → LN F k → J G mX7_orders 140 [(0, .ref (ad 0)), (1, .int (nI g)), (2, .int (nI m)), (3, .int (nI (m ^ m))), (4, .int (nI (cd ((LM m c).map (fun s => id6 g (fsq a s)))))), (5, .int (nI c)), (6, .int (nI m))] [] (mdW G ad 0 (va_up B 6 (rsq (B 7) (B 8) (a 4) (a 5) s F)) v hh) Q → J G mX7_orders 140 [(0, .ref (ad 0)), (1, .int (nI g)), (2, .int (nI m)), (3, .int (nI (m ^ m))), (4, .int (nI (cd ((LM m c).map (fun s => id6 g (fsq a s)))))), (5, .int (nI c)), (6, .int (nI k))] [] (mdW G ad 0 (va_up B 6 F) v hh) Q := by
          intro s
          induction s with
          | nil =>
            intro k F e1 e2 e3 e4 e5
            have : k = m := by simpa using e1
            rw [this]
            exact e5
          | cons d s ihs =>
            intro k F e1 e2 e3 e4 e5
            rw [List.length_cons] at e1
            have ed := e2 0 (by rw [List.length_cons]; omega)
            rw [Nat.add_zero] at ed
            have ed : B 11 k = nI d := ed
            have hd := e3 d List.mem_cons_self
            obtain ⟨tt, ht, h66⟩ := hg d (by omega)
            have ed2 : (va_up B 6 F) 11 k = nI d := ed
            have e42 : (va_up B 6 F) 4 = a 4 := B4
            have e52 : (va_up B 6 F) 5 = a 5 := B5
            refine sg_X7_orders_140 (br_f (nI_ge (by omega) (by omega)) ?_)
            rw [nI_clamp (by omega), ed2, nI_clamp (by omega), e42, e52, ht]
            refine ⟨vp_in_nI (by omega) (by omega), vp_in_nI (by omega) (by omega), ?_⟩
            refine t_runs h66 hW8 (e4.mono (by omega)) ⟨_, (runX 6 F (B 7) (B 8) tt (a 5 d)).2, rfl, rfl, ?_⟩
            rw [bx_uu, ← nI_succ]
            refine ihs (k + 1) _ (by omega) (fun j hj => ?_) (fun e he => e3 e (List.mem_cons_of_mem _ he)) (LN.run hW8 6 F k tt _ e4 h66 (by omega)) ?_
            · have := e2 (j + 1) (by rw [List.length_cons]; omega)
              rw [show k + 1 + j = k + (j + 1) by omega, this]
              rfl
            · simp only [rsq] at e5
              rw [ht, nI_clamp (by omega)] at e5
              exact e5
        refine RUN (dgs m m c) 0 _ (by rw [dgs_len, Nat.zero_add]) (fun j hj => by rw [dgs_len] at hj; rw [Nat.zero_add]; exact b2 j hj) (fun d hd => SQ_lt hSQ hd) LN_dry ?_
        have hEq : EqR (fsq a (dgs m m c)) (rsq (B 7) (B 8) (a 4) (a 5) (dgs m m c) (dryF (B 6))) := rsq_cong (R := R) (fun i hi => (B7 i hi).symm) (fun i hi => (B8 i hi).symm) hW hg (fun _ _ => rfl) (fun _ _ => rfl) _ _ _ (fun d hd => by have := SQ_lt hSQ hd; omega) dryF_DRY.symm
        have hId := id6_cong hEq hLN (by omega) hg6
        have hLN2 := hLN.cong hEq
        have hLT2 := hLT.cong hEq
        generalize rsq (B 7) (B 8) (a 4) (a 5) (dgs m m c) (dryF (B 6)) = F at hEq hId hLN2 hLT2 ⊢
        refine sg_X7_orders_140 (br_t (le_rfl32 _) (t_wordOf (a := va_up B 6 F) hg6 hLN2 hLT2 ⟨nI (id6 g F), rfl, rfl, ?_⟩))
        rw [← hId]
        have hlt := id6_lt hLN hLT hg6
        have e10 : (va_up B 6 F) 10 = b 10 := B10
        rw [nI_clamp (by omega), e10, h2 _ hlt, ← nI_succ]
        refine ⟨vp_in_nI hlt (by omega), ?_⟩
        have fin : J G mX7_orders 114 [(0, .ref (ad 0)), (1, .int (nI g)), (2, .int (nI m)), (3, .int (nI (m ^ m))), (4, .int (nI (cd (List.map (fun s => id6 g (fsq a s)) (dgs m m c :: LM m c))))), (5, .int (nI (c + 1)))] [] (mdW G ad 0 (va_up (va_up B 6 F) 10 (upd (b 10) (id6 g (fsq a (dgs m m c))) 1)) v hh) Q := by
          refine ih _ (fun i i1 i2 i3 => ?_) (fun e he => ?_)
          · simp only [va_up]; rw [if_neg i2, if_neg i1]; exact hB i i1 i2 i3
          · show upd (b 10) _ 1 e = _
            by_cases q : e = id6 g (fsq a (dgs m m c))
            · rw [q, pk_us, List.map_cons, if_pos List.mem_cons_self]
            · rw [upd_at q, h2 e he]
              refine if_iff ?_ _ _
              rw [List.map_cons, List.mem_cons]
              exact ⟨Or.inr, fun z => z.resolve_left q⟩
        simp only [List.map_cons, cd] at fin
        by_cases q : id6 g (fsq a (dgs m m c)) ∈ (LM m c).map (fun s => id6 g (fsq a s))
        · rw [if_pos q]
          rw [if_pos q] at fin
          exact br_nt (by decide) (by rw [show (0 : Int32) = nI 0 from rfl, nI_add]; exact fin)
        · rw [if_neg q]
          rw [if_neg q] at fin
          exact br_nf rfl (by rw [← nI_succ]; exact fin)
  have POW : ∀ j, j ≤ m → ∀ b : Fm, (∀ i, i ≠ 6 → i ≠ 10 → i ≠ 11 → b i = asI a i) → MKm (b 10) [] → J G mX7_orders 92 [(0, .ref (ad 0)), (1, .int (nI g)), (2, .int (nI m)), (3, .int (nI (m ^ j))), (4, .int (nI j))] [] (mdW G ad 0 b v hh) Q := by
    refine forDn ?_ (fun j hj ih => ?_)
    · intro b h1 h2
      exact sg_X7_orders_92 (br_t (le_rfl32 _) (MAIN 0 (Nat.zero_le _) b h1 h2))
    · intro b h1 h2
      refine sg_X7_orders_92 (br_f (nI_ge hj (by omega)) ?_)
      rw [pk_mul, ← nI_succ, ← Nat.pow_succ]
      exact ih b h1 h2
  have CAME : ∀ j, j ≤ 55987 → ∀ b : Fm, (∀ i, i ≠ 6 → i ≠ 10 → i ≠ 11 → b i = asI a i) → (∀ e, e < j → b 10 e = 0) → J G mX7_orders 49 [(0, .ref (ad 0)), (1, .int (nI g)), (2, .int (nI j))] [] (mdW G ad 0 b v hh) Q := by
    refine forDn ?_ (fun j hj ih => ?_)
    · intro b h1 h2
      have hz : MKm (b 10) [] := fun e he => by rw [h2 e he, if_neg (by simp)]
      refine sg_X7_orders_49 (br_t (le_rfl32 _) ?_)
      rw [hn]
      refine ⟨fun q => ?_, fun q => ?_⟩
      · have := POW 0 (Nat.zero_le _) b h1 hz
        rw [em q] at this
        exact this
      · have := POW 0 (Nat.zero_le _) b h1 hz
        rw [em2 q] at this
        exact this
    · intro b h1 h2
      refine sg_X7_orders_49 (br_f (nI_ge (b := 55987) hj (by omega)) ⟨vp_in_nI hj (by omega), ?_⟩)
      rw [nI_clamp (by omega), ← nI_succ]
      refine ih _ (fun i i1 i2 i3 => by simp only [va_up]; rw [if_neg i2]; exact h1 i i1 i2 i3) (fun e he => ?_)
      show upd (b 10) j 0 e = 0
      by_cases q : e = j
      · rw [q, pk_us]
      · rw [upd_at q]; exact h2 e (by omega)
  exact CAME 0 (Nat.zero_le _) (asI a) (fun _ _ _ _ => rfl) (fun e he => absurd he (Nat.not_lt_zero e))
