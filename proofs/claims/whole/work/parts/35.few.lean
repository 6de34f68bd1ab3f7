/-! fewTurns -/
theorem br_nt {c A B : Prop} (h : ¬ c) (a : A) : (¬ c → A) ∧ (c → B) := ⟨fun _ => a, fun q => absurd q h⟩
theorem br_nf {c A B : Prop} (h : c) (b : B) : (¬ c → A) ∧ (c → B) := ⟨fun q => absurd h q, fun _ => b⟩
def onS (n : Nat) : Nat → Nat
  | 0 => 0
  | k + 1 => onS n k + n / 2 ^ k % 2
theorem on_bit : ∀ n, n < 64 → ∀ k, k < 6 → (nI n >>> (nI k &&& 31) : Int32) &&& 1 = nI (n / 2 ^ k % 2) := by decide +kernel
theorem onS_bc (n : Nat) : onS n 6 = bcN n := by
  simp only [onS, bcN]
  omega
theorem bcN_le (n : Nat) : bcN n ≤ 6 := by
  simp only [bcN]
  omega
theorem t_ones {G : GG} {n : Nat} {Q : Option Value → va_W → Prop} (hn : n < 64) (h : Q (some (.int (nI (bcN n)))) []) : J G mX7_ones 0 [(0, .int (nI n))] [] ([] : va_W) Q := by
  refine sg_X7_ones_0 (ad := fun q => q) ?_
  rw [← onS_bc] at h
  have H : ∀ k, k ≤ 6 → J G mX7_ones 4 [(0, .int (nI n)), (1, .int (nI (onS n k))), (2, .int (nI k))] [] ([] : va_W) Q := by
    refine forDn ?_ (fun k hk ih => ?_)
    · exact sg_X7_ones_4 (ad := fun q => q) (br_t (le_rfl32 _) h)
    · refine sg_X7_ones_4 (ad := fun q => q) (br_f (ge6 hk) ?_)
      rw [on_bit n hn k hk, nI_add, ← nI_succ]
      exact ih
  exact H 0 (Nat.zero_le _)
/-- the word at a gutter is the page's -/
def pgB (F : Ar) (g : Nat) (p : Ar) (N : Nat) : Bool := decide (F (17 * g + 4) = nI N) && (List.range N).all (fun j => decide (F (17 * g + 5 + j) = p j - 97))
theorem all_succ {p : Nat → Bool} {n : Nat} : (List.range (n + 1)).all p = ((List.range n).all p && p n) := by simp [List.range_succ]
theorem all_no {p : Nat → Bool} {n m : Nat} (h : n < m) (hn : p n = false) : (List.range m).all p = false := by
  rw [Bool.eq_false_iff]
  intro q
  rw [List.all_eq_true] at q
  have := q n (List.mem_range.mpr h)
  rw [hn] at this
  exact absurd this (by decide)
theorem t_hasPage {G : GG} {ad : Nat → Nat} {a : Fm} {v : Ar} {hh : Int64} {g N : Nat} {Q : Option Value → va_W → Prop} (hg : g < 6) (hN : v 0 = nI N) (hN8 : N ≤ 8) (h : Q (some (.int (if pgB (a 6) g (a 0) N = true then 1 else 0))) (mdW G ad 0 a v hh)) : J G mX7_hasPage 0 [(0, .ref (ad 0)), (1, .int (nI g))] [] (mdW G ad 0 a v hh) Q := by
  refine sg_X7_hasPage_0 ?_
  rw [e17_4, nI_clamp (by omega), hN]
  refine ⟨vp_in_nI (by omega) (by omega), fun z => ?_, fun z => ?_⟩
  · have e : pgB (a 6) g (a 0) N = false := by simp [pgB, z]
    rw [e] at h
    refine sg_X7_hasPage_26 ?_
    exact ⟨fun _ => ⟨rfl, h⟩, fun _ => br_t rfl ⟨rfl, h⟩⟩
  · have e : pgB (a 6) g (a 0) N = (List.range N).all (fun j => decide (a 6 (17 * g + 5 + j) = a 0 j - 97)) := by simp [pgB, z]
    rw [e] at h
    have H : ∀ k, k ≤ N → ((List.range k).all (fun j => decide (a 6 (17 * g + 5 + j) = a 0 j - 97)) = true → J G mX7_hasPage 26 [(0, .ref (ad 0)), (1, .int (nI g)), (2, .int 1), (3, .int (nI k))] [] (mdW G ad 0 a v hh) Q) := by
      refine forDn ?_ (fun k hk ih => ?_)
      · intro ha
        refine sg_X7_hasPage_26 ?_
        rw [hN]
        rw [ha] at h
        exact br_t (le_rfl32 _) ⟨rfl, h⟩
      · intro ha
        refine sg_X7_hasPage_26 ?_
        rw [hN, e17_5, nI_add, nI_clamp (by omega), nI_clamp (by omega), ← nI_succ]
        refine br_f (nI_ge hk (by omega)) (br_f (by decide) ⟨vp_in_nI (by omega) (by omega), vp_in_nI (by omega) (by omega), fun q => ?_, fun q => ?_⟩)
        · rw [all_no hk (by simp [q])] at h
          exact sg_X7_hasPage_26 ⟨fun _ => ⟨rfl, h⟩, fun _ => br_t rfl ⟨rfl, h⟩⟩
        · exact ih (by rw [all_succ, ha]; simp [q])
    exact H 0 (Nat.zero_le _) rfl
theorem wdB_pgB {u d : Fm} {F p wa : Ar} {g N : Nat} (hS : SR u d F) (hg : g < 6) (hN : N ≤ 8) (hw : ∀ j, j < N → wa j = p j - 97) : wdB u d g wa N = pgB F g p N := by
  obtain ⟨-, -, -, -, a5, a6⟩ := hS g hg
  simp only [wdB, pgB]
  rw [a5]
  by_cases e : F (17 * g + 4) = nI N
  · rw [e]
    simp only [decide_true, Bool.true_and]
    exact all_cong (fun j hj => by rw [a6 j (by omega) (by rw [e]; exact nI_lt hj (by omega)), hw j hj])
  · simp [e]
theorem pgB_cong {F F' p : Ar} {g N : Nat} (h : EqR F F') (hg : g < 6) (hN : N ≤ 8) : pgB F g p N = pgB F' g p N := by
  simp only [pgB]
  rw [h (17 * g + 4) (by omega), all_cong (fun j hj => by rw [h (17 * g + 5 + j) (by omega)])]
theorem ulB_cong {a a' b b' : Ar} : ∀ n, (∀ j, j < n → a j = a' j ∧ b j = b' j) → ulB a b n = ulB a' b' n
  | 0, _ => rfl
  | n + 1, h => by simp only [ulB]; rw [ulB_cong n (fun j hj => h j (by omega)), (h n (by omega)).1, (h n (by omega)).2]
theorem t_layWays {G : GG} {ad : Nat → Nat} {a : Fm} {v : Ar} {hh : Int64} {c : Nat} {Q : Option Value → va_W → Prop} (hc : c < 720) (h : Q (some (.int (nI (ulB (wyD c) (a 2) 6)))) (mdW G ad 0 (va_up a 8 (cpn 6 (wyD c) (a 8))) v hh)) : J G mX7_layWays 0 [(0, .ref (ad 0)), (1, .int (nI c))] [] (mdW G ad 0 a v hh) Q := by
  refine sg_X7_layWays_0 ?_
  have H : ∀ g, g ≤ 6 → J G mX7_layWays 7 [(0, .ref (ad 0)), (1, .int (nI c)), (2, .int (nI (rst c g))), (3, .int (nI (ulB (wyD c) (a 2) g))), (4, .int (nI g))] [] (mdW G ad 0 (va_up a 8 (cpn g (wyD c) (a 8))) v hh) Q := by
    refine forDn ?_ (fun g hg ih => ?_)
    · exact sg_X7_layWays_7 (br_t (le_rfl32 _) h)
    · have hr := rst_le c g
      refine sg_X7_layWays_7 (br_f (ge6 hg) ?_)
      rw [sub6 hg]
      have e1 : nI (rst c g) - nI (rst c g) / nI (6 - g) * nI (6 - g) = nI (rst c g % (6 - g)) := pk_rem (by omega) (by omega) (by omega)
      have e2 : nI (rst c g) / nI (6 - g) = nI (rst c g / (6 - g)) := pk_div (by omega) (by omega) (by omega)
      have hm := Nat.mod_lt (rst c g) (show 0 < 6 - g by omega)
      rw [e1, e2, nI_add, nI_clamp (by omega), ← nI_succ, bx_uu, bx_uu, orbit g hg _ (ulB_lt _ _ g), or0]
      have ev : (va_up a 8 (cpn g (wyD c) (a 8))) 8 = cpn g (wyD c) (a 8) := rfl
      have ev2 : (va_up a 8 (cpn g (wyD c) (a 8))) 2 = a 2 := rfl
      rw [ev, ev2]
      have hz : ¬ nI (6 - g) = 0 := nI_ne0 (by omega) (by omega)
      simp only [ulB] at ih
      have hin : vp_in (nI g) 6 := vp_in_nI hg (by omega)
      refine ⟨hz, hz, fun q => ⟨hin, ?_⟩, fun q => ⟨hin, ?_⟩⟩
      · have q2 : ¬ rst c g % (6 - g) = 0 := fun z => q (by rw [z]; rfl)
        have ew : nI (g + rst c g % (6 - g)) = wyD c g := by simp [wyD, q2]
        rw [ew, cpn_succ]
        exact ⟨fun z => by rw [if_neg z] at ih; exact ih, fun z => by rw [if_pos z] at ih; exact ih⟩
      · have q2 : rst c g % (6 - g) = 0 := (nI_eq (b := 0) (by omega) (by omega)).mp q
        have ew : (-1 : Int32) = wyD c g := by simp [wyD, q2]
        rw [ew, cpn_succ]
        exact ⟨fun z => by rw [if_neg z] at ih; exact ih, fun z => by rw [if_pos z] at ih; exact ih⟩
  have := H 0 (Nat.zero_le _)
  rw [cpn_0, ← vup_of (b := a) (a := a) (k := 8) (fun _ _ => rfl)] at this
  exact this
/-- the turns, the bits and how many ways, after c of the ways to flow -/
def tbC (a : Fm) (c : Nat) : Nat := ulB (wyD c) (a 2) 6
def hpC (a : Fm) (R g N c : Nat) : Bool := pgB (FALL (a 1) (wyD c) (a 4) (a 5) R) g (a 0) N
def ftA (s : Nat × Nat) (b : Nat) : Nat × Nat := if s.2 = 0 ∨ bcN b < bcN s.1 then (b, 1) else if bcN b = bcN s.1 then (if b < s.1 then b else s.1, s.2 + 1) else s
def ftS (a : Fm) (R g N : Nat) : Nat → Nat × Nat
  | 0 => (0, 0)
  | c + 1 => if wyD c g = -1 ∧ hpC a R g N c = true then ftA (ftS a R g N c) (tbC a c) else ftS a R g N c
theorem tbC_lt (a : Fm) (c : Nat) : tbC a c < 64 := ulB_lt _ _ 6
theorem ftA_ok {s : Nat × Nat} {b m : Nat} (h : s.1 < 64 ∧ s.2 ≤ m) (hb : b < 64) : (ftA s b).1 < 64 ∧ (ftA s b).2 ≤ m + 1 := by
  simp only [ftA]
  split
  · exact ⟨hb, by omega⟩
  · split
    · refine ⟨?_, by show s.2 + 1 ≤ m + 1; omega⟩
      show (if b < s.1 then b else s.1) < 64
      split
      · exact hb
      · exact h.1
    · exact ⟨h.1, by omega⟩
theorem ftS_ok (a : Fm) (R g N : Nat) : ∀ c, (ftS a R g N c).1 < 64 ∧ (ftS a R g N c).2 ≤ c
  | 0 => ⟨show 0 < 64 by decide, Nat.le_refl _⟩
  | c + 1 => by
    have h := ftS_ok a R g N c
    simp only [ftS]
    split
    · exact ftA_ok h (tbC_lt a c)
    · exact ⟨h.1, by omega⟩
def ftR (s : Nat × Nat) (x : Int32) : Int32 := if s.2 = 0 then -1 else if x = 0 then nI (bcN s.1) else if x = 1 then nI s.1 else nI s.2
def TB (t : Ar) (s : Nat × Nat) : Prop := t 2 = nI s.2 ∧ (s.2 = 0 → t 0 = 6) ∧ (s.2 ≠ 0 → t 0 = nI (bcN s.1) ∧ t 1 = nI s.1)
theorem TB.add {t : Ar} {s : Nat × Nat} {b : Nat} (h : TB t s) (h1 : s.1 < 64) (h2 : s.2 < 2 ^ 30) (hb : b < 64) : TB (tuA t b) (ftA s b) := by
  obtain ⟨t2, t0, tn⟩ := h
  have hb6 := bcN_le b
  have hs6 := bcN_le s.1
  by_cases c0 : s.2 = 0
  · have e : ftA s b = (b, 1) := by simp [ftA, c0]
    have e2 : tuA t b = va_up (va_up (va_up t 0 (nI (bcN b))) 1 (nI b)) 2 1 := by
      simp only [tuA]
      rw [if_pos (Or.inl (by rw [t2, c0]; rfl))]
    rw [e, e2]
    exact ⟨rfl, fun q => absurd q Nat.one_ne_zero, fun _ => ⟨rfl, rfl⟩⟩
  · obtain ⟨n0, n1⟩ := tn c0
    have z2 : ¬ t 2 = 0 := by rw [t2]; exact nI_ne0 (by omega) (by omega)
    simp only [tuA]
    rw [n0, n1]
    by_cases c1 : bcN b < bcN s.1
    · have e : ftA s b = (b, 1) := by simp [ftA, c1]
      rw [e, if_pos (Or.inr (nI_lt c1 (by omega)))]
      exact ⟨rfl, fun q => absurd q Nat.one_ne_zero, fun _ => ⟨rfl, rfl⟩⟩
    · rw [if_neg (fun q => q.elim z2 (fun q => c1 ((nI_ltI (by omega) (by omega)).mp q)))]
      by_cases c2 : bcN b = bcN s.1
      · have e : ftA s b = (if b < s.1 then b else s.1, s.2 + 1) := by simp [ftA, c0, c2]
        rw [e, if_pos (by rw [c2])]
        refine ⟨?_, fun q => absurd q (Nat.succ_ne_zero _), fun _ => ⟨?_, ?_⟩⟩
        rotate_left
        · show t 0 = nI (bcN (if b < s.1 then b else s.1))
          rw [n0]
          by_cases c3 : b < s.1
          · rw [if_pos c3, c2]
          · rw [if_neg c3]
        rotate_left
        · show t 2 + 1 = nI (s.2 + 1)
          rw [t2, nI_succ]
        · show (if nI b < nI s.1 then nI b else nI s.1) = nI (if b < s.1 then b else s.1)
          by_cases c3 : b < s.1
          · rw [if_pos c3, if_pos (nI_lt c3 (by omega))]
          · rw [if_neg c3, if_neg (fun q => c3 ((nI_ltI (by omega) (by omega)).mp q))]
      · have e : ftA s b = s := by simp [ftA, c0, c1, c2]
        rw [e, if_neg (fun q => c2 ((nI_eq (by omega) (by omega)).mp q))]
        exact ⟨t2, fun q => absurd q c0, fun _ => ⟨n0, n1⟩⟩
theorem c_tell {G : GG} {ad : Nat → Nat} {t : Ar} {s : Nat × Nat} {x : Int32} {Q : Option Value → va_W → Prop} (h : TB t s) (h2 : s.2 < 2 ^ 30) (hq : Q (some (.int (ftR s x))) (tuW G ad 0 t)) : J G mX5_tell 0 [(0, .ref (ad 0)), (1, .int x)] [] (tuW G ad 0 t) Q := by
  obtain ⟨t2, t0, tn⟩ := h
  simp only [ftR] at hq
  refine sg_X5_tell_0 ?_
  rw [t2]
  by_cases c0 : s.2 = 0
  · rw [if_pos c0] at hq
    rw [c0]
    exact br_nf rfl hq
  · rw [if_neg c0] at hq
    obtain ⟨n0, n1⟩ := tn c0
    rw [n0, n1]
    refine br_nt (nI_ne0 (by omega) (by omega)) ⟨fun z => ?_, fun z => ?_, fun z => ?_⟩
    · rw [if_pos z] at hq; exact hq
    · rw [if_neg (by rw [z]; decide), if_pos z] at hq; exact hq
    · rw [if_neg z.1, if_neg z.2] at hq; exact hq
theorem c_seek {G : GG} {ad : Nat → Nat} {pf : Ar} {u d : Fm} {g l : Ar} {n : Int32} {fn : Ar} {fd ku kd : Fm} {kg kl : Ar} {kn : Int32} {kfn : Ar} {kfd tu td : Fm} {t wa le se cv : Ar} {a : Fm} {rn : Int32} {R k N : Nat} {Q : Option Value → va_W → Prop} (hk : k < 6) (hN : N ≤ 8) (hp : ∀ j, j < N → pf j = a 0 j) (hc : SCN u d g l n fn fd (a 1) (a 2) (a 3) (a 4) (a 5) rn (a 12) (a 13) R)
    (h : ∀ tu td t wa, TB t (ftS a R k N 720) → Q none (rlW G ad 0 pf (nI N) u d g l n fn fd ku kd kg kl kn kfn kfd tu td t wa le se cv)) : J G mX6_seekTurns 0 [(0, .ref (ad 0)), (1, .int (nI k))] [] (rlW G ad 0 pf (nI N) u d g l n fn fd ku kd kg kl kn kfn kfd tu td t wa le se cv) Q := by
  obtain ⟨q1, q2, q3, q4, q5, q6, q7, q8, q9, q10, q11, q12, q13, q14⟩ := hc
  subst q1
  refine sg_X6_seekTurns_0 (t_copyLetters hN ⟨_, rfl, rfl, sg_X5_clear_0 ⟨_, rfl, rfl, t_layLike ⟨_, rfl, rfl, ?_⟩⟩⟩)
  have H : ∀ c, c ≤ 720 → ∀ tu td t, (∀ i, i < 6 → tu 0 i = a 1 i) → TB t (ftS a R k N c) → J G mX6_seekTurns 34 [(0, .ref (ad 0)), (1, .int (nI k)), (2, .int (nI c))] [] (rlW G ad 0 pf (nI N) u d g l (nI R) fn fd ku kd kg kl kn kfn kfd tu td t (cpL N pf wa) le se cv) Q := by
    refine forDn ?_ (fun c hc ih => ?_)
    · intro tu td t h1 h2
      exact sg_X6_seekTurns_34 (br_t (le_rfl32 _) (h tu td t _ h2))
    · intro tu td t h1 h2
      obtain ⟨f1, f2⟩ := ftS_ok a R k N c
      refine sg_X6_seekTurns_34 (br_f (ge720 hc) (t_flowBy hc ⟨_, rfl, rfl, t_unlikeFlows ⟨_, rfl, rfl, vp_in_nI hk (by omega), ?_⟩⟩))
      have eul : ulB ((va_up tu 1 (cpn 6 (wyD c) (tu 1))) 1) (u 1) 6 = tbC a c := ulB_cong 6 (fun j hj => ⟨by simp [va_up, cpn, hj], (q8 j hj).2⟩)
      have e1 : (va_up tu 1 (cpn 6 (wyD c) (tu 1))) 1 k = wyD c k := by simp [va_up, cpn, hk]
      rw [eul, nI_clamp (by omega), e1, ← nI_succ]
      have h1' : ∀ i, i < 6 → (va_up tu 1 (cpn 6 (wyD c) (tu 1))) 0 i = a 1 i := fun i hi => h1 i hi
      simp only [ftS] at ih
      refine ⟨fun z => ?_, fun z => t_bitCount (tbC_lt a c) ⟨_, rfl, rfl, fun z2 => ?_, fun z2 => ?_⟩⟩
      · rw [if_neg (fun q => z q.1)] at ih
        exact ih _ _ _ h1' h2
      · refine t_clear ⟨_, rfl, rfl, ?_⟩
        have hKW : KW (clU (va_up tu 1 (cpn 6 (wyD c) (tu 1)))) (a 1) (wyD c) := fun i hi => by
          rw [clU_0, clU_1]
          exact ⟨h1 i hi, by simp [va_up, cpn, hi]⟩
        have hSD : SR (clU (va_up tu 1 (cpn 6 (wyD c) (tu 1)))) td DRY := SR_DRY (fun _ hh => clU_2 hh) (fun _ hh => clU_3 hh) (fun _ hh => clU_4 hh) (fun _ hh => clU_5 hh) (fun _ hh => clU_6 hh)
        refine t_runAll (k := a 1) (w := wyD c) (f := DRY) (rl2 := l) q3 hKW (WF_wyD c) hSD LN_DRY (q4.cong q6 q3) (fun j hj => by rw [if_neg (nI_ne_m1 (by omega))]) (fun u' d' b1 b2 b3 => ⟨d', u', rfl, rfl, ?_⟩)
        have hSR : SR u' d' (FALL (a 1) (wyD c) (a 4) (a 5) R) := b1.cong (fallF_cong (fun _ _ => rfl) (fun _ _ => rfl) (WF_wyD c) EqR.rfl' R (q4.cong q6 q3) (fun j hj => q6 j (by omega)) (fun j hj => q7 j (by omega)))
        have ew : wdB u' d' k (cpL N pf wa) N = hpC a R k N c := wdB_pgB hSR hk hN (fun j hj => by simp only [cpL]; rw [if_pos hj, hp j hj])
        have h0' : ∀ i, i < 6 → u' 0 i = a 1 i := fun i hi => by rw [b2]; exact (hKW i hi).1
        refine t_wordIs hk hN ⟨_, rfl, rfl, ?_⟩
        rw [ew]
        refine br_ite (fun w => ?_) (fun w => t_tuAdd (tbC_lt a c) ⟨_, rfl, rfl, ?_⟩)
        · rw [if_neg (fun q => w q.2)] at ih
          exact ih _ _ _ h0' h2
        · rw [if_pos ⟨z, w⟩] at ih
          exact ih _ _ _ h0' (h2.add f1 (by omega) (tbC_lt a c))
      · have hne : ¬ (ftS a R k N c).2 = 0 := fun q => by
          rw [h2.2.1 q] at z2
          exact z2 (nI_le (b := 6) (bcN_le _) (by omega))
        rw [(h2.2.2 hne).1, nI_leI (by have := bcN_le (tbC a c); omega) (by have := bcN_le (ftS a R k N c).1; omega)] at z2
        have e : ftA (ftS a R k N c) (tbC a c) = ftS a R k N c := by
          simp only [ftA]
          rw [if_neg (fun q => q.elim hne (fun q => by omega)), if_neg (by omega)]
        rw [e, ite_self] at ih
        exact ih _ _ _ h1' h2
  exact H 0 (Nat.zero_le _) _ _ _ (fun i hi => by rw [lyU_0 hi]; exact (q8 i hi).1) ⟨rfl, fun _ => rfl, fun q => absurd rfl q⟩
/-- best and count, of the reference -/
def ftB (s : Nat × Nat) : Int32 := if s.2 = 0 then -1 else nI s.1
def ftC (s : Nat × Nat) : Int32 := if s.2 = 0 then -1 else nI s.2
theorem m_few {G : GG} {ad : Nat → Nat} {a : Fm} {v : Ar} {hh : Int64} {R g N : Nat} {x : Int32} {Q : Option Value → va_W → Prop} (hM : MOK a v R) (hg6 : g < 6) (hN : v 0 = nI N) (hN8 : N ≤ 8) (h : ∀ a', Sc a a' → Q (some (.int (ftR (ftS a R g N 720) x))) (mdW G ad 0 a' v hh)) : J G mX7_fewTurns 67 [(0, .ref (ad 0)), (1, .int (nI g)), (2, .int x), (3, .int (-1)), (4, .int (-1)), (5, .int 0)] [] (mdW G ad 0 (asI a) v hh) Q := by
  obtain ⟨hn, hn12, hg, hW, hF⟩ := hM
  have H : ∀ c, c ≤ 720 → ∀ b : Fm, (∀ i, i ≠ 6 → i ≠ 8 → b i = asI a i) → J G mX7_fewTurns 67 [(0, .ref (ad 0)), (1, .int (nI g)), (2, .int x), (3, .int (ftB (ftS a R g N c))), (4, .int (ftC (ftS a R g N c))), (5, .int (nI c))] [] (mdW G ad 0 b v hh) Q := by
    refine forDn ?_ (fun c hc ih => ?_)
    · intro b h1
      have h := h b (fun i hi => by
        rw [h1 i (by omega) (by omega)]
        simp only [asI, va_up]
        rw [if_neg (by omega), if_neg (by omega), if_neg (by omega)])
      obtain ⟨f1, f2⟩ := ftS_ok a R g N 720
      refine sg_X7_fewTurns_67 (br_t (le_rfl32 _) ?_)
      simp only [ftR] at h
      simp only [ftB, ftC]
      by_cases c0 : (ftS a R g N 720).2 = 0
      · rw [if_pos c0, if_pos c0]
        rw [if_pos c0] at h
        exact br_t rfl h
      · rw [if_neg c0, if_neg c0]
        rw [if_neg c0] at h
        refine br_f (nI_ne_m1 (by omega)) ⟨fun z => ⟨fun z2 => ?_, fun z2 => t_ones f1 ⟨_, rfl, rfl, ?_⟩⟩, fun z => ?_⟩
        · rw [if_neg z2, if_neg z] at h; exact h
        · rw [if_pos z2] at h; exact h
        · rw [if_neg (by rw [z]; decide), if_pos z] at h; exact h
    · intro b h1
      obtain ⟨f1, f2⟩ := ftS_ok a R g N c
      have b0 : b 0 = a 0 := h1 0 (by omega) (by omega)
      have b2 : b 2 = a 2 := h1 2 (by omega) (by omega)
      have b4 : b 4 = a 4 := h1 4 (by omega) (by omega)
      have b7 : Eqn 6 (b 7) (a 1) := fun i hi => by rw [h1 7 (by omega) (by omega)]; simp [asI, va_up, cpn, hi]
      have b9 : Eqn 12 (b 9) (a 5) := fun i hi => by rw [h1 9 (by omega) (by omega)]; simp [asI, va_up, cpn, hi]
      refine sg_X7_fewTurns_67 (br_f (ge720 hc) (t_layWays hc ⟨_, _, rfl, rfl, vp_in_nI hg6 (by omega), ?_⟩))
      rw [b2, nI_clamp (by omega)]
      have e1 : (va_up b 8 (cpn 6 (wyD c) (b 8))) 8 g = wyD c g := by
        show cpn 6 (wyD c) (b 8) g = _
        simp [cpn, hg6]
      rw [e1]
      have et : ulB (wyD c) (a 2) 6 = tbC a c := rfl
      rw [et]
      have hB : ∀ i, i ≠ 6 → i ≠ 8 → (va_up b 8 (cpn 6 (wyD c) (b 8))) i = asI a i := fun i h6 h8 => by simp only [va_up]; rw [if_neg h8]; exact h1 i h6 h8
      have skip : ∀ (y : Int32) b', (∀ i, i ≠ 6 → i ≠ 8 → b' i = asI a i) → ftS a R g N (c + 1) = ftS a R g N c → J G mX7_fewTurns 191 [(0, .ref (ad 0)), (1, .int (nI g)), (2, .int x), (3, .int (ftB (ftS a R g N c))), (4, .int (ftC (ftS a R g N c))), (5, .int (nI c)), (6, .int (nI (tbC a c))), (7, .int y)] [] (mdW G ad 0 b' v hh) Q := fun y b' hb' e => by
        refine sg_X7_fewTurns_191 ?_
        rw [← nI_succ]
        rw [e] at ih
        exact ih b' hb'
      have go : wyD c g = -1 → ((ftS a R g N c).2 = 0 ∨ bcN (tbC a c) ≤ bcN (ftS a R g N c).1) → J G mX7_fewTurns 117 [(0, .ref (ad 0)), (1, .int (nI g)), (2, .int x), (3, .int (ftB (ftS a R g N c))), (4, .int (ftC (ftS a R g N c))), (5, .int (nI c)), (6, .int (nI (tbC a c))), (7, .int 1)] [] (mdW G ad 0 (va_up b 8 (cpn 6 (wyD c) (b 8))) v hh) Q := fun z hmay => by
        have hb8 : Eqn 6 (cpn 6 (wyD c) (b 8)) (wyD c) := cpn_eq
        have hW8 : WF ((va_up b 8 (cpn 6 (wyD c) (b 8))) 8) := (WF_wyD c).cong (fun i hi => (hb8 i hi).symm)
        refine sg_X7_fewTurns_117 (br_f (by decide) (t_fallsAgain hn hn12 (show RG (b 4) R by rw [b4]; exact hg) hW8 ⟨va_up (va_up b 8 (cpn 6 (wyD c) (b 8))) 6 (fallF (b 7) (cpn 6 (wyD c) (b 8)) (b 4) (b 9) (dryF (b 6)) R), rfl, rfl, ?_⟩))
        have hEq : EqR (fallF (b 7) (cpn 6 (wyD c) (b 8)) (b 4) (b 9) (dryF (b 6)) R) (FALL (a 1) (wyD c) (a 4) (a 5) R) := by
          rw [b4]
          exact fallF_cong b7 hb8 hW8 dryF_DRY R hg (fun _ _ => rfl) (fun i hi => b9 i (by omega))
        generalize fallF (b 7) (cpn 6 (wyD c) (b 8)) (b 4) (b 9) (dryF (b 6)) R = F at hEq ⊢
        have hB6 : ∀ i, i ≠ 6 → i ≠ 8 → (va_up (va_up b 8 (cpn 6 (wyD c) (b 8))) 6 F) i = asI a i := fun i h6 h8 => by simp only [va_up]; rw [if_neg h6, if_neg h8]; exact h1 i h6 h8
        have hpg : pgB F g (b 0) N = hpC a R g N c := by rw [b0]; exact pgB_cong hEq hg6 hN8
        have hpg2 : pgB ((va_up (va_up b 8 (cpn 6 (wyD c) (b 8))) 6 F) 6) g ((va_up (va_up b 8 (cpn 6 (wyD c) (b 8))) 6 F) 0) N = hpC a R g N c := hpg
        refine t_hasPage hg6 hN hN8 ⟨_, rfl, rfl, ?_⟩
        rw [hpg2]
        refine br_ite (fun w => skip _ _ hB6 ?_) (fun w => ?_)
        · simp only [ftS]; rw [if_neg (fun q => w q.2)]
        · have eS : ftS a R g N (c + 1) = ftA (ftS a R g N c) (tbC a c) := by simp only [ftS]; rw [if_pos ⟨z, w⟩]
          rw [eS] at ih
          have hb6 := bcN_le (tbC a c)
          have hs6 := bcN_le (ftS a R g N c).1
          have newb : ((ftS a R g N c).2 = 0 ∨ bcN (tbC a c) < bcN (ftS a R g N c).1) → J G mX7_fewTurns 158 [(0, .ref (ad 0)), (1, .int (nI g)), (2, .int x), (3, .int (ftB (ftS a R g N c))), (4, .int (ftC (ftS a R g N c))), (5, .int (nI c)), (6, .int (nI (tbC a c))), (7, .int 1), (8, .int 1)] [] (mdW G ad 0 (va_up (va_up b 8 (cpn 6 (wyD c) (b 8))) 6 F) v hh) Q := fun q => by
            refine sg_X7_fewTurns_158 (br_f (by decide) (sg_X7_fewTurns_173 (br_nt (by decide) (sg_X7_fewTurns_191 ?_))))
            have e : ftA (ftS a R g N c) (tbC a c) = (tbC a c, 1) := by simp only [ftA]; rw [if_pos q]
            rw [e] at ih
            rw [← nI_succ]
            exact ih _ hB6
          by_cases c0 : (ftS a R g N c).2 = 0
          · have eB : ftB (ftS a R g N c) = -1 := by simp only [ftB]; rw [if_pos c0]
            have := newb (Or.inl c0)
            rw [eB] at this ⊢
            exact br_t rfl this
          · have eB : ftB (ftS a R g N c) = nI (ftS a R g N c).1 := by simp only [ftB]; rw [if_neg c0]
            have eC : ftC (ftS a R g N c) = nI (ftS a R g N c).2 := by simp only [ftC]; rw [if_neg c0]
            have hmay : bcN (tbC a c) ≤ bcN (ftS a R g N c).1 := hmay.elim (fun q => absurd q c0) id
            rw [eB] at newb ⊢
            refine br_f (nI_ne_m1 (by omega)) (t_ones (tbC_lt a c) ⟨_, rfl, rfl, t_ones f1 ⟨_, rfl, rfl, fun q => ?_, fun q => newb (Or.inr (by rw [nI_leI (by omega) (by omega)] at q; omega))⟩⟩)
            rw [nI_leI (by omega) (by omega)] at q
            have e : ftA (ftS a R g N c) (tbC a c) = (if tbC a c < (ftS a R g N c).1 then tbC a c else (ftS a R g N c).1, (ftS a R g N c).2 + 1) := by
              simp only [ftA]
              rw [if_neg (fun z => z.elim c0 (fun z => by omega)), if_pos (by omega)]
            rw [e] at ih
            have ih := ih _ hB6
            simp only [ftB, ftC] at ih
            rw [if_neg (Nat.succ_ne_zero _), if_neg (Nat.succ_ne_zero _)] at ih
            rw [eC]
            refine sg_X7_fewTurns_158 (br_t rfl (sg_X7_fewTurns_173 (br_nf rfl ?_)))
            rw [← nI_succ]
            refine ⟨fun z => sg_X7_fewTurns_191 ?_, fun z => sg_X7_fewTurns_191 ?_⟩
            · rw [nI_leI (by omega) (by have := tbC_lt a c; omega)] at z
              rw [if_neg (by omega)] at ih
              rw [← nI_succ]
              exact ih
            · rw [nI_leI (by omega) (by have := tbC_lt a c; omega)] at z
              rw [if_pos (by omega)] at ih
              rw [← nI_succ]
              exact ih
      refine ⟨fun z => sg_X7_fewTurns_117 (br_t rfl (skip _ _ hB (by simp only [ftS]; rw [if_neg (fun q => z q.1)]))), fun z => ?_⟩
      by_cases c0 : (ftS a R g N c).2 = 0
      · have eB : ftB (ftS a R g N c) = -1 := by simp only [ftB]; rw [if_pos c0]
        have := go z (Or.inl c0)
        rw [eB] at this ⊢
        exact br_t rfl this
      · have eB : ftB (ftS a R g N c) = nI (ftS a R g N c).1 := by simp only [ftB]; rw [if_neg c0]
        have hb6 := bcN_le (tbC a c)
        have hs6 := bcN_le (ftS a R g N c).1
        rw [eB] at go skip ⊢
        refine br_f (nI_ne_m1 (by omega)) (t_ones (tbC_lt a c) ⟨_, rfl, rfl, t_ones f1 ⟨_, rfl, rfl, fun q => ?_, fun q => go z (Or.inr (by rw [nI_ltI (by omega) (by omega)] at q; omega))⟩⟩)
        rw [nI_ltI (by omega) (by omega)] at q
        refine sg_X7_fewTurns_117 (br_t rfl (skip _ _ hB ?_))
        have e : ftA (ftS a R g N c) (tbC a c) = ftS a R g N c := by
          simp only [ftA]
          rw [if_neg (fun q => q.elim c0 (fun q => by omega)), if_neg (by omega)]
        simp only [ftS]
        rw [e, ite_self]
  exact H 0 (Nat.zero_le _) (asI a) (fun _ _ _ => rfl)
