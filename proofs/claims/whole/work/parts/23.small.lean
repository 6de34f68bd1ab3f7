/-! the class's other small methods -/
def wcF (m : Ar) : Nat → Int32
  | 0 => 1
  | n + 1 => wcF m n * 5 + m n
theorem t_wordCode {G : GG} {ad : Nat → Nat} {u d : Fm} {g n : Nat} {Q : Option Value → va_W → Prop} (hg : g < 6) (hn : n ≤ 12) (hu : u 6 g = nI n) (h : Q (some (.int (wcF (d g) n))) (stW G ad 0 u d)) : J G mX4_wordCode 0 [(0, .ref (ad 0)), (1, .int (nI g))] [] (stW G ad 0 u d) Q := by
  refine sg_X4_wordCode_0 ?_
  have H : ∀ j, j ≤ n → J G mX4_wordCode 4 [(0, .ref (ad 0)), (1, .int (nI g)), (2, .int (wcF (d g) j)), (3, .int (nI j))] [] (stW G ad 0 u d) Q := by
    refine forDn ?_ (fun j hj ih => ?_)
    · refine sg_X4_wordCode_4 ⟨vp_in_nI hg (by omega), ?_⟩
      rw [nI_clamp (by omega), hu]
      exact br_t (le_rfl32 _) h
    · refine sg_X4_wordCode_4 ⟨vp_in_nI hg (by omega), ?_⟩
      rw [nI_clamp (by omega), hu]
      refine br_f (nI_ge hj (by omega)) ⟨vp_in_nI (by omega) (by omega), ?_⟩
      rw [nI_clamp (by omega), ← nI_succ]
      exact ih
  exact H 0 (Nat.zero_le _)
/-- the ways by a number: what is left of it at a gutter, its digit, the way -/
def rst (c : Nat) : Nat → Nat
  | 0 => c
  | g + 1 => rst c g / (6 - g)
def wyD (c : Nat) (g : Nat) : Int32 := if rst c g % (6 - g) = 0 then -1 else nI (g + rst c g % (6 - g))
theorem rst_le (c : Nat) : ∀ g, rst c g ≤ c
  | 0 => Nat.le_refl _
  | g + 1 => Nat.le_trans (Nat.div_le_self _ _) (rst_le c g)
theorem sub6 {g : Nat} (h : g < 6) : (6 : Int32) - nI g = nI (6 - g) := pk_sub (a := 6) (by omega)
theorem WF_wyD (c : Nat) : WF (wyD c) := by
  intro g hg
  by_cases h : rst c g % (6 - g) = 0
  · exact Or.inl (by simp [wyD, h])
  · refine Or.inr ⟨g + rst c g % (6 - g), by simp [wyD, h], by omega, ?_⟩
    have := Nat.mod_lt (rst c g) (show 0 < 6 - g by omega)
    omega
theorem t_flowBy {G : GG} {ad : Nat → Nat} {u d : Fm} {c : Nat} {Q : Option Value → va_W → Prop} (hc : c < 720) (h : Q none (stW G ad 0 (va_up u 1 (cpn 6 (wyD c) (u 1))) d)) : J G mX4_flowBy 0 [(0, .ref (ad 0)), (1, .int (nI c))] [] (stW G ad 0 u d) Q := by
  refine sg_X4_flowBy_0 ?_
  have H : ∀ g, g ≤ 6 → J G mX4_flowBy 4 [(0, .ref (ad 0)), (1, .int (nI c)), (2, .int (nI (rst c g))), (3, .int (nI g))] [] (stW G ad 0 (va_up u 1 (cpn g (wyD c) (u 1))) d) Q := by
    refine forDn ?_ (fun g hg ih => ?_)
    · exact sg_X4_flowBy_4 (br_t (le_rfl32 _) h)
    · have hr := rst_le c g
      refine sg_X4_flowBy_4 (br_f (ge6 hg) ?_)
      rw [sub6 hg]
      have e1 : nI (rst c g) - nI (rst c g) / nI (6 - g) * nI (6 - g) = nI (rst c g % (6 - g)) := pk_rem (by omega) (by omega) (by omega)
      have e2 : nI (rst c g) / nI (6 - g) = nI (rst c g / (6 - g)) := pk_div (by omega) (by omega) (by omega)
      have hm := Nat.mod_lt (rst c g) (show 0 < 6 - g by omega)
      rw [e1, e2, nI_add, nI_clamp (by omega), ← nI_succ, bx_uu, bx_uu]
      have ev : (va_up u 1 (cpn g (wyD c) (u 1))) 1 = cpn g (wyD c) (u 1) := by simp [va_up]
      rw [ev]
      have hz : ¬ nI (6 - g) = 0 := nI_ne0 (by omega) (by omega)
      refine ⟨hz, hz, fun q => ⟨vp_in_nI hg (by omega), ?_⟩, fun q => ⟨vp_in_nI hg (by omega), ?_⟩⟩
      · have q2 : ¬ rst c g % (6 - g) = 0 := fun z => q (by rw [z]; rfl)
        have ew : nI (g + rst c g % (6 - g)) = wyD c g := by simp [wyD, q2]
        rw [ew, cpn_succ]
        exact ih
      · have q2 : rst c g % (6 - g) = 0 := (nI_eq (b := 0) (by omega) (by omega)).mp q
        have ew : (-1 : Int32) = wyD c g := by simp [wyD, q2]
        rw [ew, cpn_succ]
        exact ih
  have := H 0 (Nat.zero_le _)
  have e : va_up u 1 (cpn 0 (wyD c) (u 1)) = u := by
    rw [cpn_0]
    funext j
    simp only [va_up]
    by_cases q : j = 1
    · rw [if_pos q, q]
    · rw [if_neg q]
  rw [e] at this
  exact this
/-- which of the first n differ, as bits -/
def ulB (a b : Ar) : Nat → Nat
  | 0 => 0
  | g + 1 => ulB a b g + (if a g = b g then 0 else 2 ^ g)
theorem ulB_lt (a b : Ar) : ∀ g, ulB a b g < 2 ^ g
  | 0 => by simp [ulB]
  | g + 1 => by
    have := ulB_lt a b g
    simp only [ulB, Nat.pow_succ]
    split <;> omega
theorem orbit : ∀ g, g < 6 → ∀ b, b < 2 ^ g → nI b ||| ((1 : Int32) <<< (nI g &&& 31)) = nI (b + 2 ^ g) := by decide +kernel
theorem t_unlikeFlows {G : GG} {ad : Nat → Nat} {u d u1 d1 : Fm} {Q : Option Value → va_W → Prop} (h : Q (some (.int (nI (ulB (u 1) (u1 1) 6)))) (stW G ad 0 u d ++ (stW G ad 15 u1 d1))) : J G mX4_unlikeFlows 0 [(0, .ref (ad 0)), (1, .ref (ad 15))] [] (stW G ad 0 u d ++ (stW G ad 15 u1 d1)) Q := by
  refine sg_X4_unlikeFlows_0 ?_
  have H : ∀ g, g ≤ 6 → J G mX4_unlikeFlows 4 [(0, .ref (ad 0)), (1, .ref (ad 15)), (2, .int (nI (ulB (u 1) (u1 1) g))), (3, .int (nI g))] [] (stW G ad 0 u d ++ (stW G ad 15 u1 d1)) Q := by
    refine forDn ?_ (fun g hg ih => ?_)
    · exact sg_X4_unlikeFlows_4 (br_t (le_rfl32 _) h)
    · refine sg_X4_unlikeFlows_4 (br_f (ge6 hg) ⟨vp_in_nI hg (by omega), ?_⟩)
      rw [nI_clamp (by omega), ← nI_succ, orbit g hg _ (ulB_lt _ _ g)]
      simp only [ulB] at ih
      exact ⟨fun q => by simpa [q] using ih, fun q => by simpa [q] using ih⟩
  exact H 0 (Nat.zero_le _)
/-- two streets alike in range -/
def EqU (u u1 : Fm) : Prop := ∀ j, j < 7 → ∀ g, g < 6 → u j g = u1 j g
def EqD (m : Nat) (d d1 : Fm) : Prop := ∀ g, g < 6 → ∀ j, j < m → d g j = d1 g j
def cpD (n m : Nat) (d1 d : Fm) : Fm := fun g => if g < n then cpn m (d1 g) (d g) else d g
theorem cpD_0 {m : Nat} {d1 d : Fm} : cpD 0 m d1 d = d := by funext g; simp [cpD]
theorem cpD_succ {n m : Nat} {d1 d : Fm} : va_up (cpD n m d1 d) n (cpn m (d1 n) ((cpD n m d1 d) n)) = cpD (n + 1) m d1 d := by
  funext g
  simp only [va_up, cpD]
  by_cases h : g = n
  · subst h; simp
  · by_cases h2 : g < n
    · simp [h, h2, Nat.lt_succ_of_lt h2]
    · simp [h, h2, show ¬ g < n + 1 by omega]
theorem cpD_eq {m : Nat} {d1 d : Fm} : EqD m (cpD 6 m d1 d) d1 := fun g hg j hj => by simp [cpD, hg, cpn, hj]
theorem t_stTake {G : GG} {ad : Nat → Nat} {u d u1 d1 : Fm} {Q : Option Value → va_W → Prop} (h : ∀ u' d', EqU u' u1 → EqD 12 d' d1 → Q none (stW G ad 0 u' d' ++ (stW G ad 15 u1 d1))) : J G mX4_takeAll 0 [(0, .ref (ad 0)), (1, .ref (ad 15))] [] (stW G ad 0 u d ++ (stW G ad 15 u1 d1)) Q := by
  refine sg_X4_takeAll_0 (t_layLike ⟨_, rfl, rfl, ?_⟩)
  simp only [va_cpy_0]
  have H : ∀ (v : Fm), EqU v u1 → ∀ g, g ≤ 6 → J G mX4_takeAll 82 [(0, .ref (ad 0)), (1, .ref (ad 15)), (2, .int (nI g))] [] (stW G ad 0 v (cpD g 12 d1 d) ++ (stW G ad 15 u1 d1)) Q := by
    intro v hv
    refine forDn ?_ (fun g hg ih => ?_)
    · exact sg_X4_takeAll_82 (br_t (le_rfl32 _) (h v _ hv cpD_eq))
    · refine sg_X4_takeAll_82 (br_f (ge6 hg) ⟨vp_in_nI hg (by omega), ?_⟩)
      rw [nI_clamp (by omega), ← nI_succ, va_cpy_0, cpD_succ]
      exact ih
  have H0 : ∀ (v : Fm), EqU v u1 → J G mX4_takeAll 82 [(0, .ref (ad 0)), (1, .ref (ad 15)), (2, .int 0)] [] (stW G ad 0 v d ++ (stW G ad 15 u1 d1)) Q := fun v hv => by
    have := H v hv 0 (Nat.zero_le _)
    rw [cpD_0] at this
    exact this
  refine H0 _ ?_
  · intro j hj g hg
    match j, hj with
    | 0, _ => simp only [va_up]; exact lyU_0 hg
    | 1, _ => simp only [va_up]; exact lyU_1 hg
    | 2, _ => simp [va_up, cpn, hg]
    | 3, _ => simp [va_up, cpn, hg]
    | 4, _ => simp [va_up, cpn, hg]
    | 5, _ => simp [va_up, cpn, hg]
    | 6, _ => simp [va_up, cpn, hg]
theorem t_faAdd {G : GG} {ad : Nat → Nat} {g l : Ar} {n : Nat} {x1 x2 : Int32} {Q : Option Value → va_W → Prop} (hn : n < 12) (h : Q none (faW G ad 0 (upd g n x1) (upd l n x2) (nI (n + 1)))) : J G mX0_add 0 [(0, .ref (ad 0)), (1, .int x1), (2, .int x2)] [] (faW G ad 0 g l (nI n)) Q := by
  refine sg_X0_add_0 (br_f (ge12 hn) ⟨vp_in_nI hn (by omega), ?_⟩)
  rw [nI_clamp (by omega), ← nI_succ]
  exact h
theorem t_faTake {G : GG} {ad : Nat → Nat} {g l g1 l1 : Ar} {n n1 : Int32} {Q : Option Value → va_W → Prop} (h : Q none (faW G ad 0 (cpn 12 g1 g) (cpn 12 l1 l) n1 ++ (faW G ad 3 g1 l1 n1))) : J G mX0_takeAll 0 [(0, .ref (ad 0)), (1, .ref (ad 3))] [] (faW G ad 0 g l n ++ (faW G ad 3 g1 l1 n1)) Q := by
  refine sg_X0_takeAll_0 ?_
  rw [va_cpy_0, va_cpy_0]
  exact h
theorem t_fiClear {G : GG} {ad : Nat → Nat} {fn : Ar} {fd : Fm} {Q : Option Value → va_W → Prop} (h : Q none (fiW G ad 0 (fil 6 (-1) fn) fd)) : J G mX1_clear 0 [(0, .ref (ad 0))] [] (fiW G ad 0 fn fd) Q :=
  sg_X1_clear_0 (t_fill (by decide) ⟨_, rfl, rfl, h⟩)
theorem t_countFound {G : GG} {ad : Nat → Nat} {fn : Ar} {fd : Fm} {Q : Option Value → va_W → Prop} (h : Q (some (.int (cnI (fun g => decide (¬ fn g = -1)) 6))) (fiW G ad 0 fn fd)) : J G mX1_countFound 0 [(0, .ref (ad 0))] [] (fiW G ad 0 fn fd) Q := by
  refine sg_X1_countFound_0 ?_
  have H : ∀ g, g ≤ 6 → J G mX1_countFound 13 [(0, .ref (ad 0)), (1, .int (cnI (fun g => decide (¬ fn g = -1)) g)), (2, .ref (ad 2)), (3, .int 6), (4, .int (nI g))] [] (fiW G ad 0 fn fd) Q := by
    refine forDn ?_ (fun g hg ih => ?_)
    · exact sg_X1_countFound_13 (br_t (le_rfl32 _) h)
    · refine sg_X1_countFound_13 (br_f (ge6 hg) ⟨vp_in_nI hg (by omega), ?_⟩)
      rw [nI_clamp (by omega), ← nI_succ]
      simp only [cnI] at ih
      exact ⟨fun q => by simpa [q] using ih, fun q => by simpa [q] using ih⟩
  exact H 0 (Nat.zero_le _)
def FN (fn : Ar) : Prop := ∀ g, g < 6 → fn g = -1 ∨ ∃ n, fn g = nI n ∧ n ≤ 8
def fitB (fn : Ar) (fd u d : Fm) (n : Nat) : Bool := (List.range n).all (fun g => decide (fn g = -1) || wdB u d g (fd g) (fn g).toNatClampNeg)
theorem fitB_succ {fn : Ar} {fd u d : Fm} {n : Nat} : fitB fn fd u d (n + 1) = (fitB fn fd u d n && (decide (fn n = -1) || wdB u d n (fd n) (fn n).toNatClampNeg)) := by
  simp [fitB, List.range_succ]
theorem fitB_no {fn : Ar} {fd u d : Fm} {n m : Nat} (h : n ≤ m) (hn : fitB fn fd u d n = false) : fitB fn fd u d m = false := by
  induction m with
  | zero => rw [show n = 0 by omega] at hn; exact hn
  | succ m ih =>
    by_cases e : n = m + 1
    · rw [← e]; exact hn
    · rw [fitB_succ, ih (by omega)]; rfl
theorem t_fit {G : GG} {ad : Nat → Nat} {fn : Ar} {fd u d : Fm} {Q : Option Value → va_W → Prop} (hF : FN fn) (h : Q (some (.int (if fitB fn fd u d 6 = true then 1 else 0))) (fiW G ad 0 fn fd ++ (stW G ad 9 u d))) : J G mX1_fit 0 [(0, .ref (ad 0)), (1, .ref (ad 9))] [] (fiW G ad 0 fn fd ++ (stW G ad 9 u d)) Q := by
  refine sg_X1_fit_0 ?_
  have H : ∀ g, g ≤ 6 → (fitB fn fd u d g = true → J G mX1_fit 2 [(0, .ref (ad 0)), (1, .ref (ad 9)), (2, .int (nI g))] [] (fiW G ad 0 fn fd ++ (stW G ad 9 u d)) Q) := by
    refine forDn ?_ (fun g hg ih => ?_)
    · intro e
      rw [if_pos e] at h
      exact sg_X1_fit_2 (br_t (le_rfl32 _) h)
    · intro e
      refine sg_X1_fit_2 (br_f (ge6 hg) ⟨vp_in_nI hg (by omega), ?_⟩)
      rw [nI_clamp (by omega), ← nI_succ]
      refine ⟨fun q => ih (by rw [fitB_succ, e]; simp [q]), fun q => ?_⟩
      rcases hF g hg with z | ⟨n, hn, hn8⟩
      · exact absurd z q
      · rw [hn]
        refine t_wordIs hg hn8 ⟨_, rfl, rfl, br_iten (fun z => ?_) (fun z => ?_)⟩
        · have e2 : fitB fn fd u d (g + 1) = false := by
            rw [fitB_succ, e, hn, nI_clamp (by omega)]
            rw [hn] at q
            simp [q]
            simpa using z
          rw [fitB_no (by omega) e2] at h
          exact h
        · exact ih (by rw [fitB_succ, e, hn, nI_clamp (by omega), z]; simp)
  exact H 0 (Nat.zero_le _) (by simp [fitB])
theorem t_fiTake {G : GG} {ad : Nat → Nat} {fn fn1 : Ar} {fd fd1 : Fm} {Q : Option Value → va_W → Prop} (h : Q none (fiW G ad 0 (cpn 6 fn1 fn) (cpD 6 8 fd1 fd) ++ (fiW G ad 9 fn1 fd1))) : J G mX1_takeAll 0 [(0, .ref (ad 0)), (1, .ref (ad 9))] [] (fiW G ad 0 fn fd ++ (fiW G ad 9 fn1 fd1)) Q := by
  refine sg_X1_takeAll_0 ?_
  rw [va_cpy_0]
  have H : ∀ g, g ≤ 6 → J G mX1_takeAll 17 [(0, .ref (ad 0)), (1, .ref (ad 9)), (2, .int (nI g))] [] (fiW G ad 0 (cpn 6 fn1 fn) (cpD g 8 fd1 fd) ++ (fiW G ad 9 fn1 fd1)) Q := by
    refine forDn ?_ (fun g hg ih => ?_)
    · exact sg_X1_takeAll_17 (br_t (le_rfl32 _) h)
    · refine sg_X1_takeAll_17 (br_f (ge6 hg) ⟨vp_in_nI hg (by omega), ?_⟩)
      rw [nI_clamp (by omega), ← nI_succ, va_cpy_0, cpD_succ]
      exact ih
  have := H 0 (Nat.zero_le _)
  rw [cpD_0] at this
  exact this
theorem t_scTake {G : GG} {ad : Nat → Nat} {u d u1 d1 : Fm} {g l g1 l1 : Ar} {n n1 : Int32} {fn fn1 : Ar} {fd fd1 : Fm} {Q : Option Value → va_W → Prop} (h : ∀ u' d', EqU u' u1 → EqD 12 d' d1 → Q none (scW G ad 0 u' d' (cpn 12 g1 g) (cpn 12 l1 l) n1 (cpn 6 fn1 fn) (cpD 6 8 fd1 fd) ++ (scW G ad 28 u1 d1 g1 l1 n1 fn1 fd1))) : J G mX3_takeAll 0 [(0, .ref (ad 0)), (1, .ref (ad 28))] [] (scW G ad 0 u d g l n fn fd ++ (scW G ad 28 u1 d1 g1 l1 n1 fn1 fd1)) Q := by
  refine sg_X3_takeAll_0 (t_stTake (fun u' d' h1 h2 => ⟨d', u', rfl, rfl, ?_⟩))
  refine t_faTake ⟨_, _, _, rfl, rfl, ?_⟩
  refine t_fiTake ⟨_, _, rfl, rfl, ?_⟩
  exact h u' d' h1 h2
/-- Page.copyLetters(row): the first letters, by their numbers -/
def cpL (n : Nat) (p f : Ar) : Ar := fun j => if j < n then p j - 97 else f j
theorem cpL_0 {p f : Ar} : cpL 0 p f = f := by funext j; simp [cpL]
theorem cpL_succ {k : Nat} {p f : Ar} : upd (cpL k p f) k (p k - 97) = cpL (k + 1) p f := by
  funext j
  simp only [upd, cpL]
  by_cases h : j = k
  · subst h; simp
  · by_cases h2 : j < k
    · simp [h, h2, Nat.lt_succ_of_lt h2]
    · simp [h, h2, show ¬ j < k + 1 by omega]
theorem t_copyLetters {G : GG} {ad : Nat → Nat} {p f : Ar} {n : Nat} {Q : Option Value → va_W → Prop} (hn : n ≤ 8) (h : Q none (pgW G ad 0 p (nI n) ++ (arW G ad 2 8 (cpL n p f)))) : J G mX2_copyLetters 0 [(0, .ref (ad 0)), (1, .ref (ad 2))] [] (pgW G ad 0 p (nI n) ++ (arW G ad 2 8 f)) Q := by
  refine sg_X2_copyLetters_0 ?_
  have H : ∀ k, k ≤ n → J G mX2_copyLetters 2 [(0, .ref (ad 0)), (1, .ref (ad 2)), (2, .int (nI k))] [] (pgW G ad 0 p (nI n) ++ (arW G ad 2 8 (cpL k p f))) Q := by
    refine forDn ?_ (fun k hk ih => ?_)
    · exact sg_X2_copyLetters_2 (br_t (le_rfl32 _) h)
    · refine sg_X2_copyLetters_2 (br_f (nI_ge hk (by omega)) (br_f (ge8 (by omega)) ⟨vp_in_nI (by omega) (by omega), vp_in_nI (by omega) (by omega), ?_⟩))
      rw [nI_clamp (by omega), ← nI_succ, cpL_succ]
      exact ih
  have := H 0 (Nat.zero_le _)
  rw [cpL_0] at this
  exact this
/-- Turns: few, bits, ways -/
def tuA (t : Ar) (b : Nat) : Ar := if t 2 = 0 ∨ nI (bcN b) < t 0 then va_up (va_up (va_up t 0 (nI (bcN b))) 1 (nI b)) 2 1 else if nI (bcN b) = t 0 then va_up (va_up t 1 (if nI b < t 1 then nI b else t 1)) 2 (t 2 + 1) else t
theorem t_tuAdd {G : GG} {ad : Nat → Nat} {t : Ar} {b : Nat} {Q : Option Value → va_W → Prop} (hb : b < 64) (h : Q none (tuW G ad 0 (tuA t b))) : J G mX5_add 0 [(0, .ref (ad 0)), (1, .int (nI b))] [] (tuW G ad 0 t) Q := by
  refine sg_X5_add_0 (t_bitCount hb ⟨_, rfl, rfl, fun c => ?_, fun c => ⟨fun c2 => ⟨fun c3 => ?_, fun c3 => ?_⟩, fun c2 => ?_⟩⟩)
  all_goals simp only [tuA] at h
  · rw [if_pos (Or.inl c)] at h; exact h
  · rw [if_neg (fun q => q.elim c (fun z => absurd c2 (Int32.not_le.mpr z))), if_neg c3] at h; exact h
  · rw [if_neg (fun q => q.elim c (fun z => absurd c2 (Int32.not_le.mpr z))), if_pos c3] at h; exact h
  · rw [if_pos (Or.inr (Int32.not_le.mp c2))] at h; exact h
