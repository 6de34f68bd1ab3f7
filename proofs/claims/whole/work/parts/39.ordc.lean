/-! orders, of the class -/
theorem add_m1 (n : Nat) : nI (n + 1) + (-1) = nI n := by rw [← nI_pred n, Int32.sub_eq_add_neg]
def bS (se : Ar) (e : Nat) : Bool := (se (e / 32)).toBitVec.getLsbD (e % 32)
theorem sh_two : ∀ l, l < 32 → ((1 : Int32) <<< (nI l &&& 31)).toBitVec = BitVec.twoPow 32 l := by decide +kernel
theorem bS_zero {x : Int32} {l : Nat} (hl : l < 32) : (x &&& ((1 : Int32) <<< (nI l &&& 31))) = 0 ↔ x.toBitVec.getLsbD l = false := by
  rw [← Int32.toBitVec_inj, Int32.toBitVec_and, sh_two l hl, BitVec.and_twoPow]
  by_cases c : x.toBitVec.getLsbD l = true
  · rw [if_pos c, c]
    refine ⟨fun e => ?_, fun e => absurd e (by decide)⟩
    exfalso
    have h := congrArg (fun b => BitVec.getLsbD b l) e
    simp [BitVec.getLsbD_twoPow, hl] at h
  · rw [if_neg c]
    exact ⟨fun _ => by simpa using c, fun _ => rfl⟩
theorem bS_or {x : Int32} {l i : Nat} (hl : l < 32) (hi : i < 32) : (x ||| ((1 : Int32) <<< (nI l &&& 31))).toBitVec.getLsbD i = (x.toBitVec.getLsbD i || decide (i = l)) := by
  rw [Int32.toBitVec_or, sh_two l hl, BitVec.getLsbD_or, BitVec.getLsbD_twoPow]
  congr 1
  by_cases c : i = l
  · simp [c, hl]
  · simp [c]
    exact fun _ e => c e.symm
/-- which words are marked -/
def MK (se : Ar) (L : List Nat) : Prop := ∀ e, e < 31264 → bS se e = decide (e ∈ L)
theorem c_note {G : GG} {ad : Nat → Nat} {pf : Ar} {pn : Int32} {u d : Fm} {g l : Ar} {n : Int32} {fn : Ar} {fd ku kd : Fm} {kg kl : Ar} {kn : Int32} {kfn : Ar} {kfd tu td : Fm} {t wa le se cv : Ar} {c : Nat} {L : List Nat} {Q : Option Value → va_W → Prop} (hc : c < 31264) (hM : MK se L)
    (h : ∀ se, MK se (c :: L) → Q (some (.int (if c ∈ L then 0 else 1))) (rlW G ad 0 pf pn u d g l n fn fd ku kd kg kl kn kfn kfd tu td t wa le se cv)) : J G mX6_noteWord 0 [(0, .ref (ad 0)), (1, .int (nI c))] [] (rlW G ad 0 pf pn u d g l n fn fd ku kd kg kl kn kfn kfd tu td t wa le se cv) Q := by
  refine sg_X6_noteWord_0 ?_
  have e1 : (nI c >>> ((5 : Int32) &&& 31) : Int32) = nI (c / 32) := pk_shrN (by omega) _ 5 (by decide)
  have e2 : nI c &&& 31 = nI (c % 32) := by
    rw [show (31 : Int32) = nI (2 ^ 5 - 1) from rfl, w_and, Nat.and_two_pow_sub_one_eq_mod]
  rw [e1, e2, nI_clamp (by omega)]
  refine br_f (nI_pos (by omega)) (br_f (nI_ge (b := 977) (by omega) (by omega)) ⟨vp_in_nI (by omega) (by omega), ?_⟩)
  have hb : bS se c = decide (c ∈ L) := hM c hc
  simp only [bS] at hb
  have hm : c % 32 < 32 := Nat.mod_lt _ (by decide)
  refine ⟨fun z => ?_, fun z => ?_⟩
  · rw [bS_zero hm, hb] at z
    have hn : ¬ c ∈ L := by simpa using z
    have h := h (upd se (c / 32) (se (c / 32) ||| ((1 : Int32) <<< (nI (c % 32) &&& 31)))) (fun e he => ?_)
    · rw [if_neg hn] at h
      exact h
    · simp only [bS]
      have hE := hM e he
      simp only [bS] at hE
      by_cases q : e / 32 = c / 32
      · rw [q, pk_us, bS_or hm (Nat.mod_lt _ (by decide)), ← q, hE]
        have : (e % 32 = c % 32) ↔ e = c := by omega
        simp only [List.mem_cons]
        by_cases q2 : e = c
        · simp [q2]
        · simp [q2, this]
      · rw [upd_at q, hE]
        have : e ≠ c := fun z => q (by rw [z])
        simp [this]
  · rw [bS_zero hm, hb] at z
    have hn : c ∈ L := by simpa using z
    have h := h se (fun e he => by
      rw [hM e he]
      by_cases q : e = c
      · simp [q, hn]
      · simp [q])
    rw [if_pos hn] at h
    exact h
theorem c_mixed {G : GG} {ad : Nat → Nat} {pf : Ar} {pn : Int32} {u d : Fm} {g l : Ar} {n : Int32} {fn : Ar} {fd ku kd : Fm} {kg kl : Ar} {kn : Int32} {kfn : Ar} {kfd tu td : Fm} {t wa le se cv : Ar} {a : Fm} {rn : Int32} {R m o : Nat} {Q : Option Value → va_W → Prop} (hm : m ≤ 6) (hmR : m ≤ R) (ho : o < 2 ^ 31) (hc : SCN u d g l n fn fd (a 1) (a 2) (a 3) (a 4) (a 5) rn (a 12) (a 13) R) (hK : KW tu (a 1) (a 2)) (hS : SR tu td DRY)
    (h : ∀ le tu' td', SR tu' td' (rsq (a 1) (a 2) (a 4) (a 5) (sq m id o) DRY) → tu' 0 = tu 0 → tu' 1 = tu 1 → Q none (rlW G ad 0 pf pn u d g l n fn fd ku kd kg kl kn kfn kfd tu' td' t wa le se cv)) : J G mX6_runMixed 0 [(0, .ref (ad 0)), (1, .int (nI o)), (2, .int (nI m))] [] (rlW G ad 0 pf pn u d g l n fn fd ku kd kg kl kn kfn kfd tu td t wa le se cv) Q := by
  obtain ⟨q1, q2, q3, q4, q5, q6, q7, q8, q9, q10, q11, q12, q13, q14⟩ := hc
  have RUN : ∀ (many : Nat) (le : Ar) (leN : Nat → Nat) (r : Nat) (tu' td' : Fm) (f : Ar), many ≤ m → r ≤ o → (∀ p, p < many → le p = nI (leN p) ∧ leN p < m) → SR tu' td' f → LN f (m - many) → tu' 0 = tu 0 → tu' 1 = tu 1 → (∀ le tu' td', SR tu' td' (rsq (a 1) (a 2) (a 4) (a 5) (sq many leN r) f) → tu' 0 = tu 0 → tu' 1 = tu 1 → Q none (rlW G ad 0 pf pn u d g l n fn fd ku kd kg kl kn kfn kfd tu' td' t wa le se cv)) → J G mX6_runMixed 25 [(0, .ref (ad 0)), (1, .int (nI o)), (2, .int (nI m)), (3, .int (nI r)), (4, .int (nI many))] [] (rlW G ad 0 pf pn u d g l n fn fd ku kd kg kl kn kfn kfd tu' td' t wa le se cv) Q := by
    intro many
    induction many with
    | zero =>
      intro le leN r tu' td' f h1 h2 h3 h4 h5 h6 h7 h8
      exact sg_X6_runMixed_25 (br_t (le_rfl32 _) (h8 le tu' td' h4 h6 h7))
    | succ many ih =>
      intro le leN r tu' td' f h1 h2 h3 h4 h5 h6 h7 h8
      refine sg_X6_runMixed_25 (br_f (nI_nle (by omega) (by omega)) ?_)
      have hz : ¬ nI (many + 1) = 0 := nI_ne0 (by omega) (by omega)
      have e1 : nI r - nI r / nI (many + 1) * nI (many + 1) = nI (r % (many + 1)) := pk_rem (by omega) (by omega) (by omega)
      have e2 : nI r / nI (many + 1) = nI (r / (many + 1)) := pk_div (by omega) (by omega) (by omega)
      have hp : r % (many + 1) < many + 1 := Nat.mod_lt _ (by omega)
      obtain ⟨el, hl⟩ := h3 (r % (many + 1)) hp
      obtain ⟨em, hlm⟩ := h3 many (by omega)
      obtain ⟨tt, ht, h66⟩ := q4 (leN (r % (many + 1))) (by omega)
      have hd := Nat.div_le_self r (many + 1)
      rw [e1, e2, nI_pred, add_m1, nI_clamp (by omega), nI_clamp (by omega), el, nI_clamp (by omega), q6 _ (by omega), q7 _ (by omega), ht]
      refine ⟨hz, hz, vp_in_nI (by omega) (by omega), vp_in_nI (by omega) (by omega), vp_in_nI (by omega) (by omega), ?_⟩
      have hk' : KW tu' (a 1) (a 2) := fun i hi => by rw [h6, h7]; exact hK i hi
      refine t_run h66 hk' q11 h4 (h5.mono (by omega)) (fun u2 d2 b1 b2 b3 => ⟨_, d2, u2, rfl, rfl, ?_⟩)
      refine ih _ (lft leN (r % (many + 1)) many) _ u2 d2 _ (by omega) (by omega) (fun p hp2 => ?_) b1 (by rw [show m - many = m - (many + 1) + 1 by omega]; exact LN.run q11 6 f _ tt _ h5 h66 (by omega)) (b2.trans h6) (b3.trans h7) ?_
      · simp only [lft]
        by_cases c : p = r % (many + 1)
        · rw [if_pos c, c, pk_us]; exact ⟨em, hlm⟩
        · rw [if_neg c, upd_at c]; exact h3 p (by omega)
      · have h8 := h8
        simp only [sq, rsq] at h8
        rw [ht, nI_clamp (by omega)] at h8
        exact h8
  have FILL : ∀ j, j ≤ m → ∀ le, (∀ i, i < j → le i = nI i) → J G mX6_runMixed 2 [(0, .ref (ad 0)), (1, .int (nI o)), (2, .int (nI m)), (3, .int (nI j))] [] (rlW G ad 0 pf pn u d g l n fn fd ku kd kg kl kn kfn kfd tu td t wa le se cv) Q := by
    refine forDn ?_ (fun j hj ih => ?_)
    · intro le h1
      refine sg_X6_runMixed_2 (br_t (le_rfl32 _) ?_)
      exact RUN m le id o tu td DRY (Nat.le_refl _) (Nat.le_refl _) (fun p hp => ⟨h1 p hp, hp⟩) hS LN_DRY rfl rfl h
    · intro le h1
      refine sg_X6_runMixed_2 (br_f (nI_ge hj (by omega)) ⟨vp_in_nI (by omega) (by omega), ?_⟩)
      rw [nI_clamp (by omega), ← nI_succ]
      refine ih _ (fun i hi => ?_)
      by_cases c : i = j
      · rw [c, pk_us]
      · rw [upd_at c]; exact h1 i (by omega)
  exact sg_X6_runMixed_0 (FILL 0 (Nat.zero_le _) le (fun i hi => absurd hi (Nat.not_lt_zero i)))
def fsq (a : Fm) (s : List Nat) : Ar := rsq (a 1) (a 2) (a 4) (a 5) s DRY
theorem fsq_ok {a : Fm} {R m : Nat} {s : List Nat} (hW : WF (a 2)) (hg : RG (a 4) R) (hl : LG (a 5) R) (hm : m ≤ 6) (hmR : m ≤ R) (hs : SQ m s) : LN (fsq a s) 6 ∧ LTR (fsq a s) := by
  have := rsq_ok (k := a 1) hW hg hl s DRY 0 (fun d hd => by have := SQ_lt hs hd; omega) LN_DRY LTR_DRY (by rw [hs.1]; omega)
  rw [Nat.zero_add, hs.1] at this
  exact ⟨this.1.mono hm, this.2⟩
theorem fac_lt : ∀ m, m ≤ 6 → fac m ≤ 720 := by decide
theorem c_words {G : GG} {ad : Nat → Nat} {pf : Ar} {pn : Int32} {u d : Fm} {g l : Ar} {n : Int32} {fn : Ar} {fd ku kd : Fm} {kg kl : Ar} {kn : Int32} {kfn : Ar} {kfd tu td : Fm} {t wa le se cv : Ar} {a : Fm} {rn : Int32} {R k : Nat} {Q : Option Value → va_W → Prop} (hk : k < 6) (hc : SCN u d g l n fn fd (a 1) (a 2) (a 3) (a 4) (a 5) rn (a 12) (a 13) R)
    (h : ∀ le se tu td, Q (some (.int (nI (cd ((LC (min R 6) (fac (min R 6))).map (fun s => id5 k (fsq a s))))))) (rlW G ad 0 pf pn u d g l n fn fd ku kd kg kl kn kfn kfd tu td t wa le se cv)) : J G mX6_countWords 0 [(0, .ref (ad 0)), (1, .int (nI k))] [] (rlW G ad 0 pf pn u d g l n fn fd ku kd kg kl kn kfn kfd tu td t wa le se cv) Q := by
  have hc0 := hc
  obtain ⟨q1, q2, q3, q4, q5, q6, q7, q8, q9, q10, q11, q12, q13, q14⟩ := hc
  subst q1
  refine sg_X6_countWords_0 ?_
  have em : (if (6 : Int32) < nI R then (6 : Int32) else nI R) = nI (min R 6) := by
    show (if nI 6 < nI R then nI 6 else nI R) = _
    by_cases c : 6 < R
    · rw [if_pos (nI_lt (a := 6) c (by omega)), Nat.min_eq_right (by omega)]
    · rw [if_neg (fun q => c ((nI_ltI (a := 6) (by omega) (by omega)).mp q)), Nat.min_eq_left (by omega)]
  rw [em]
  have hmR : min R 6 ≤ R := Nat.min_le_left _ _
  have hm6 : min R 6 ≤ 6 := Nat.min_le_right _ _
  generalize min R 6 = m at h hmR hm6 ⊢
  have hf := fac_lt m hm6
  have W : ∀ o, o ≤ fac m → ∀ tu td le se, KW tu (a 1) (a 2) → MK se ((LC m o).map (fun s => id5 k (fsq a s))) → J G mX6_countWords 66 [(0, .ref (ad 0)), (1, .int (nI k)), (2, .int (nI m)), (3, .int (nI (fac m))), (4, .int (nI (cd ((LC m o).map (fun s => id5 k (fsq a s)))))), (5, .int (nI o))] [] (rlW G ad 0 pf pn u d g l (nI R) fn fd ku kd kg kl kn kfn kfd tu td t wa le se cv) Q := by
    refine forDn ?_ (fun o ho ih => ?_)
    · intro tu td le se h1 h2
      exact sg_X6_countWords_66 (br_t (le_rfl32 _) (h le se tu td))
    · intro tu td le se h1 h2
      refine sg_X6_countWords_66 (br_f (nI_ge ho (by omega)) (t_clear ⟨_, rfl, rfl, ?_⟩))
      have hK : KW (clU tu) (a 1) (a 2) := fun i hi => by rw [clU_0, clU_1]; exact h1 i hi
      have hSD : SR (clU tu) td DRY := SR_DRY (fun _ hh => clU_2 hh) (fun _ hh => clU_3 hh) (fun _ hh => clU_4 hh) (fun _ hh => clU_5 hh) (fun _ hh => clU_6 hh)
      refine c_mixed hm6 hmR (by omega) hc0 hK hSD (fun le' tu' td' b1 b2 b3 => ⟨le', td', tu', rfl, rfl, ?_⟩)
      obtain ⟨hLN, hLT⟩ := fsq_ok (a := a) (s := sq m id o) q11 q4 q5 hm6 hmR sq_SQ
      have eF : rsq (a 1) (a 2) (a 4) (a 5) (sq m id o) DRY = fsq a (sq m id o) := rfl
      rw [eF] at b1
      obtain ⟨eN, hN⟩ := wN_ok hLN hk (by omega)
      obtain ⟨-, -, -, -, a5, a6⟩ := b1 k hk
      refine t_wordCode (n := wN (fsq a (sq m id o)) k) hk (by omega) (a5.trans eN) ⟨_, rfl, rfl, ?_⟩
      have eC : wcF (td' k) (wN (fsq a (sq m id o)) k) = nI (id5 k (fsq a (sq m id o))) := wcF_c5 _ (fun j hj => by
        rw [a6 j (by omega) (by rw [eN]; exact nI_lt hj (by omega))]
        exact (wL_ok hLN hLT hk (by omega) hj).1)
      rw [eC]
      refine c_note (id5_lt hLN hLT hk) h2 (fun se' hM => ⟨_, se', rfl, rfl, ?_⟩)
      have hK' : KW tu' (a 1) (a 2) := fun i hi => by rw [b2, b3]; exact hK i hi
      have ih := ih tu' td' le' se' hK' hM
      simp only [LC, List.map_cons, cd] at ih
      rw [← nI_succ]
      by_cases c : id5 k (fsq a (sq m id o)) ∈ (LC m o).map (fun s => id5 k (fsq a s))
      · rw [if_pos c]
        rw [if_pos c] at ih
        exact br_t rfl ih
      · rw [if_neg c]
        rw [if_neg c] at ih
        rw [← nI_succ]
        exact br_f (by decide) ih
  have F : ∀ j, j ≤ max m 1 → 1 ≤ j → J G mX6_countWords 21 [(0, .ref (ad 0)), (1, .int (nI k)), (2, .int (nI m)), (3, .int (nI (fac j))), (4, .int (nI (j + 1)))] [] (rlW G ad 0 pf pn u d g l (nI R) fn fd ku kd kg kl kn kfn kfd tu td t wa le se cv) Q := by
    refine forDn ?_ (fun j hj ih => ?_)
    · intro _
      have ef : fac (max m 1) = fac m := by
        by_cases c : m = 0
        · rw [c]; rfl
        · rw [Nat.max_eq_left (by omega)]
      rw [ef]
      refine sg_X6_countWords_21 (br_t (nI_lt (by omega) (by omega)) (t_fill (by decide) ⟨_, rfl, rfl, t_layLike ⟨_, rfl, rfl, ?_⟩⟩))
      refine W 0 (Nat.zero_le _) _ _ _ _ (KW_ly q8) (fun e he => ?_)
      simp only [bS, LC, List.map_nil, List.not_mem_nil, decide_false, fil]
      rw [if_pos (by omega)]
      exact BitVec.getLsbD_zero
    · intro h1
      refine sg_X6_countWords_21 (br_f (nI_nlt (by omega) (by omega)) ?_)
      have e : nI (fac j) * nI (j + 1) = nI (fac (j + 1)) := by rw [pk_mul]; rfl
      rw [e, ← nI_succ]
      exact ih (by omega)
  exact F 1 (by omega) (Nat.le_refl _)
