/-! more of the street: all the rain, clearing, laying, sums, words -/
def clU (u : Fm) : Fm := va_up (va_up (va_up (va_up (va_up u 2 (fil 6 (-1) (u 2))) 3 (fil 6 0 (u 3))) 4 (fil 6 0 (u 4))) 5 (fil 6 0 (u 5))) 6 (fil 6 0 (u 6))
theorem t_clear {G : GG} {ad : Nat → Nat} {u d : Fm} {Q : Option Value → va_W → Prop} (h : Q none (stW G ad 0 (clU u) d)) : J G mX4_clear 0 [(0, .ref (ad 0))] [] (stW G ad 0 u d) Q := by
  refine sg_X4_clear_0 ?_
  refine t_fill (ad := pk ad [3]) (by decide) ⟨_, rfl, rfl, ?_⟩
  refine t_fill (ad := pk ad [4]) (by decide) ⟨_, rfl, rfl, ?_⟩
  refine t_fill (ad := pk ad [5]) (by decide) ⟨_, rfl, rfl, ?_⟩
  refine t_fill (ad := pk ad [6]) (by decide) ⟨_, rfl, rfl, ?_⟩
  refine t_fill (ad := pk ad [7]) (by decide) ⟨_, rfl, rfl, ?_⟩
  exact h
/-- the rows of a dry street, and the cleared class's -/
def DRY : Ar := fun i => if i % 17 = 1 then -1 else 0
theorem clU_0 {u : Fm} : clU u 0 = u 0 := by simp [clU, va_up]
theorem clU_1 {u : Fm} : clU u 1 = u 1 := by simp [clU, va_up]
theorem clU_2 {u : Fm} {g : Nat} (h : g < 6) : clU u 2 g = -1 := by simp [clU, va_up, fil, h]
theorem clU_3 {u : Fm} {g : Nat} (h : g < 6) : clU u 3 g = 0 := by simp [clU, va_up, fil, h]
theorem clU_4 {u : Fm} {g : Nat} (h : g < 6) : clU u 4 g = 0 := by simp [clU, va_up, fil, h]
theorem clU_5 {u : Fm} {g : Nat} (h : g < 6) : clU u 5 g = 0 := by simp [clU, va_up, fil, h]
theorem clU_6 {u : Fm} {g : Nat} (h : g < 6) : clU u 6 g = 0 := by simp [clU, va_up, fil, h]
theorem dryF_at {f : Ar} {g k : Nat} (hg : g < 6) (hk : k < 17) : dryF f (17 * g + k) = if k = 1 then -1 else 0 := by
  simp only [dryF]
  rw [if_pos (by omega)]
  have e : (17 * g + k) % 17 = k := by omega
  rw [e]
theorem SR_clear {u d : Fm} {f : Ar} : SR (clU u) d (dryF f) := by
  intro g hg
  refine ⟨?_, ?_, fun _ => ?_, ?_, ?_, fun j hj hl => ?_⟩
  · rw [clU_4 hg]; exact (dryF_at (k := 0) hg (by omega)).symm
  · rw [clU_2 hg, dryF_at hg (by omega)]; rfl
  · rw [clU_3 hg, dryF_at hg (by omega)]; rfl
  · rw [clU_5 hg, dryF_at hg (by omega)]; rfl
  · rw [clU_6 hg, dryF_at hg (by omega)]; rfl
  · rw [dryF_at hg (by omega), if_neg (by omega)] at hl
    exact absurd hl (nI_pos (by omega))
theorem LN_dry {f : Ar} {m : Nat} : LN (dryF f) m := fun g hg => ⟨0, by rw [dryF_at hg (by omega)]; rfl, Nat.zero_le _⟩
theorem LN.mono {f : Ar} {m n : Nat} (h : LN f m) (hmn : m ≤ n) : LN f n := fun g hg => by
  obtain ⟨k, h1, h2⟩ := h g hg
  exact ⟨k, h1, by omega⟩
theorem LN.out {f : Ar} {m g : Nat} {x : Int32} (h : LN f m) (hg : g < 6) (hm : m ≤ 11) : LN (outF f g x) (m + 1) := by
  obtain ⟨n, hn, hn2⟩ := h g hg
  intro g2 h2
  obtain ⟨k, h3, h4⟩ := h g2 h2
  by_cases e : g2 = g
  · subst e
    exact ⟨n + 1, by rw [outF_4, hn, nI_succ], by omega⟩
  · exact ⟨k, by rw [outF_ne hn (by omega) (by omega) (by omega)]; exact h3, by omega⟩
theorem LN.run {k w : Ar} (hW : WF w) : ∀ (n : Nat) (f : Ar) (m g : Nat) (x : Int32), LN f m → g < 6 → m ≤ 11 → LN (runX n f k w g x).2 (m + 1)
  | 0, f, m, g, x, h, hg, hm => h.mono (by omega)
  | n + 1, f, m, g, x, h, hg, hm => by
    simp only [runX]
    by_cases c1 : thR f g (k g) x = -1
    · rw [if_pos c1]; exact h.th.mono (by omega)
    · rw [if_neg c1]
      by_cases c2 : w g = -1
      · rw [if_pos c2]; exact h.th.out hg hm
      · rw [if_neg c2]
        rcases hW g hg with q | ⟨t, ht, h5, h6⟩
        · exact absurd q c2
        · rw [ht, nI_clamp (by omega)]
          exact LN.run hW n _ m t _ h.th h6 hm
/-- the rain: n drops, from the rows f -/
def fallF (k w rg rl : Ar) (f : Ar) : Nat → Ar
  | 0 => f
  | n + 1 => (runX 6 (fallF k w rg rl f n) k w (rg n).toNatClampNeg (rl n)).2
theorem LN.fall {k w rg rl f : Ar} (hW : WF w) (h0 : LN f 0) : ∀ n, n ≤ 12 → (∀ j, j < n → ∃ t, rg j = nI t ∧ t < 6) → LN (fallF k w rg rl f n) n
  | 0, _, _ => h0
  | n + 1, hn, hg => by
    obtain ⟨t, ht, h6⟩ := hg n (by omega)
    simp only [fallF]
    rw [ht, nI_clamp (by omega)]
    exact LN.run hW 6 _ n t _ (LN.fall hW h0 n (by omega) (fun j hj => hg j (by omega))) h6 (by omega)
def RG (rg : Ar) (n : Nat) : Prop := ∀ j, j < n → ∃ t, rg j = nI t ∧ t < 6
/-- Street.runAll(fallen, otherDrop, otherLetter): rl2 has the other letter -/
theorem t_runAll {G : GG} {ad : Nat → Nat} {u d : Fm} {f k w rg rl rl2 : Ar} {n : Nat} {x2 x3 : Int32} {Q : Option Value → va_W → Prop} (hn : n ≤ 12) (hk : KW u k w) (hW : WF w) (hS : SR u d f) (h0 : LN f 0) (hg : RG rg n) (hl : ∀ j, j < n → rl2 j = if nI j = x2 then x3 else rl j)
    (h : ∀ u' d', SR u' d' (fallF k w rg rl2 f n) → u' 0 = u 0 → u' 1 = u 1 → Q none (stW G ad 0 u' d' ++ (faW G ad 15 rg rl (nI n)))) : J G mX4_runAll 0 [(0, .ref (ad 0)), (1, .ref (ad 15)), (2, .int x2), (3, .int x3)] [] (stW G ad 0 u d ++ (faW G ad 15 rg rl (nI n))) Q := by
  refine sg_X4_runAll_0 ?_
  have H : ∀ j, j ≤ n → ∀ v d, SR v d (fallF k w rg rl2 f j) → v 0 = u 0 → v 1 = u 1 → J G mX4_runAll 3 [(0, .ref (ad 0)), (1, .ref (ad 15)), (2, .int x2), (3, .int x3), (4, .int (nI j))] [] (stW G ad 0 v d ++ (faW G ad 15 rg rl (nI n))) Q := by
    refine forDn ?_ (fun j hj ih => ?_)
    · intro v d a1 a2 a3
      exact sg_X4_runAll_3 (br_t (le_rfl32 _) (h v d a1 a2 a3))
    · intro v d a1 a2 a3
      obtain ⟨t, ht, h6⟩ := hg j hj
      have hLj : LN (fallF k w rg rl2 f j) 11 := (LN.fall hW h0 j (by omega) (fun i hi => hg i (by omega))).mono (by omega)
      have stp : ∀ y : Int32, y = rl2 j → J G mX4_run 0 [(0, .ref ((pk ad [0, 1, 2, 3, 4, 5, 6, 7, 8, 9, 10, 11, 12, 13, 14]) 0)), (1, .int (nI t)), (2, .int y)] [] (stW G (pk ad [0, 1, 2, 3, 4, 5, 6, 7, 8, 9, 10, 11, 12, 13, 14]) 0 v d) (fun v_ w_ => ∃ (r_6 : Int32) (d_4 u_5 : Fm), v_ = some (.int r_6) ∧ w_ = (stW G (pk ad [0, 1, 2, 3, 4, 5, 6, 7, 8, 9, 10, 11, 12, 13, 14]) 0 u_5 d_4) ∧ J G mX4_runAll 3 [(0, .ref (ad 0)), (1, .ref (ad 15)), (2, .int x2), (3, .int x3), (4, .int (nI j + 1))] [] (stW G ad 0 u_5 d_4 ++ (faW G ad 15 rg rl (nI n))) Q) := by
        intro y hy
        have hkv : KW v k w := fun i hi => by rw [a2, a3]; exact hk i hi
        refine t_run h6 hkv hW a1 hLj (fun u' d' b1 b2 b3 => ⟨_, d', u', rfl, rfl, ?_⟩)
        rw [← nI_succ]
        refine ih u' d' ?_ (b2.trans a2) (b3.trans a3)
        simp only [fallF]
        rw [ht, nI_clamp (by omega), ← hy]
        exact b1
      refine sg_X4_runAll_3 (br_f (nI_ge hj (by omega)) ⟨vp_in_nI (by omega) (by omega), ?_⟩)
      rw [nI_clamp (by omega), ht]
      exact ⟨fun c => stp _ (by rw [hl j hj, if_neg c]), fun c => stp _ (by rw [hl j hj, if_pos c])⟩
  exact H 0 (Nat.zero_le _) u d hS rfl rfl
/-- Street.layLike(other) -/
def lyU (u u1 : Fm) : Fm := clU (va_up (va_up u 0 (cpn 6 (u1 0) (u 0))) 1 (cpn 6 (u1 1) (u 1)))
theorem lyU_0 {u u1 : Fm} {g : Nat} (h : g < 6) : lyU u u1 0 g = u1 0 g := by simp [lyU, clU, va_up, cpn, h]
theorem lyU_1 {u u1 : Fm} {g : Nat} (h : g < 6) : lyU u u1 1 g = u1 1 g := by simp [lyU, clU, va_up, cpn, h]
theorem t_layLike {G : GG} {ad : Nat → Nat} {u d u1 d1 : Fm} {Q : Option Value → va_W → Prop} (h : Q none (stW G ad 0 (lyU u u1) d ++ (stW G ad 15 u1 d1))) : J G mX4_layLike 0 [(0, .ref (ad 0)), (1, .ref (ad 15))] [] (stW G ad 0 u d ++ (stW G ad 15 u1 d1)) Q := by
  refine sg_X4_layLike_0 ?_
  rw [va_cpy_0, va_cpy_0]
  exact t_clear ⟨_, rfl, rfl, h⟩
theorem KW_ly {u u1 : Fm} {k w : Ar} (h : KW u1 k w) : KW (lyU u u1) k w := fun g hg => by rw [lyU_0 hg, lyU_1 hg]; exact h g hg
theorem t_lettersOut {G : GG} {ad : Nat → Nat} {u d : Fm} {Q : Option Value → va_W → Prop} (h : Q (some (.int (smI (u 6) 6))) (stW G ad 0 u d)) : J G mX4_lettersOut 0 [(0, .ref (ad 0))] [] (stW G ad 0 u d) Q :=
  sg_X4_lettersOut_0 (t_sum (by decide) ⟨_, rfl, rfl, h⟩)
theorem t_lettersLost {G : GG} {ad : Nat → Nat} {u d : Fm} {Q : Option Value → va_W → Prop} (h : Q (some (.int (smI (u 5) 6))) (stW G ad 0 u d)) : J G mX4_lettersLost 0 [(0, .ref (ad 0))] [] (stW G ad 0 u d) Q :=
  sg_X4_lettersLost_0 (t_sum (by decide) ⟨_, rfl, rfl, h⟩)
/-- how many of the first n a predicate holds of, as an int -/
def cnI (p : Nat → Bool) : Nat → Int32
  | 0 => 0
  | n + 1 => cnI p n + (if p n = true then 1 else 0)
theorem t_fullBowls {G : GG} {ad : Nat → Nat} {u d : Fm} {Q : Option Value → va_W → Prop} (h : Q (some (.int (cnI (fun g => decide (u 0 g = 1) && decide (¬ u 2 g = -1)) 6))) (stW G ad 0 u d)) : J G mX4_fullBowls 0 [(0, .ref (ad 0))] [] (stW G ad 0 u d) Q := by
  refine sg_X4_fullBowls_0 ?_
  have H : ∀ g, g ≤ 6 → J G mX4_fullBowls 4 [(0, .ref (ad 0)), (1, .int (cnI (fun g => decide (u 0 g = 1) && decide (¬ u 2 g = -1)) g)), (2, .int (nI g))] [] (stW G ad 0 u d) Q := by
    refine forDn ?_ (fun g hg ih => ?_)
    · exact sg_X4_fullBowls_4 (br_t (le_rfl32 _) h)
    · refine sg_X4_fullBowls_4 (br_f (ge6 hg) ⟨vp_in_nI hg (by omega), ?_⟩)
      rw [nI_clamp (by omega), ← nI_succ]
      simp only [cnI] at ih
      refine ⟨fun c => ?_, fun c => ⟨fun c2 => ?_, fun c2 => ?_⟩⟩
      · simpa [c] using ih
      · simpa [c, c2] using ih
      · simpa [c, c2] using ih
  exact H 0 (Nat.zero_le _)
theorem t_countOut {G : GG} {ad : Nat → Nat} {u d : Fm} {Q : Option Value → va_W → Prop} (h : Q (some (.int (cnI (fun g => decide (u 1 g = -1)) 6))) (stW G ad 0 u d)) : J G mX4_countOut 0 [(0, .ref (ad 0))] [] (stW G ad 0 u d) Q := by
  refine sg_X4_countOut_0 ?_
  have H : ∀ g, g ≤ 6 → J G mX4_countOut 13 [(0, .ref (ad 0)), (1, .int (cnI (fun g => decide (u 1 g = -1)) g)), (2, .ref (ad 2)), (3, .int 6), (4, .int (nI g))] [] (stW G ad 0 u d) Q := by
    refine forDn ?_ (fun g hg ih => ?_)
    · exact sg_X4_countOut_13 (br_t (le_rfl32 _) h)
    · refine sg_X4_countOut_13 (br_f (ge6 hg) ⟨vp_in_nI hg (by omega), ?_⟩)
      rw [nI_clamp (by omega), ← nI_succ]
      simp only [cnI] at ih
      refine ⟨fun c => ?_, fun c => ?_⟩
      · simpa [c] using ih
      · simpa [c] using ih
  exact H 0 (Nat.zero_le _)
/-- Street.wordIs(gutter, letters, length): whether the word is so -/
def wdB (u d : Fm) (g : Nat) (m : Ar) (n : Nat) : Bool := decide (u 6 g = nI n) && (List.range n).all (fun j => decide (d g j = m j))
theorem t_wordIs {G : GG} {ad : Nat → Nat} {u d : Fm} {m : Ar} {g n : Nat} {Q : Option Value → va_W → Prop} (hg : g < 6) (hn : n ≤ 8) (h : Q (some (.int (if wdB u d g m n = true then 1 else 0))) (stW G ad 0 u d ++ (arW G ad 15 8 m))) : J G mX4_wordIs 0 [(0, .ref (ad 0)), (1, .int (nI g)), (2, .ref (ad 15)), (3, .int (nI n))] [] (stW G ad 0 u d ++ (arW G ad 15 8 m)) Q := by
  refine sg_X4_wordIs_0 ?_
  rw [nI_clamp (by omega)]
  refine ⟨vp_in_nI hg (by omega), fun c => ?_, fun c => ?_⟩
  · have H : ∀ j, j ≤ n → ((∀ i, i < j → d g i = m i) → J G mX4_wordIs 15 [(0, .ref (ad 0)), (1, .int (nI g)), (2, .ref (ad 15)), (3, .int (nI n)), (4, .int (nI j))] [] (stW G ad 0 u d ++ (arW G ad 15 8 m)) Q) := by
      refine forDn ?_ (fun j hj ih => ?_)
      · intro ha
        refine sg_X4_wordIs_15 (br_t (le_rfl32 _) ?_)
        have e : wdB u d g m n = true := by
          simp only [wdB, c, decide_true, Bool.true_and, List.all_eq_true, List.mem_range, decide_eq_true_eq]
          exact ha
        rw [e] at h
        exact h
      · intro ha
        refine sg_X4_wordIs_15 (br_f (nI_ge hj (by omega)) (br_f (ge8 (by omega)) ⟨vp_in_nI hg (by omega), vp_in_nI (by omega) (by omega), vp_in_nI (by omega) (by omega), ?_⟩))
        rw [nI_clamp (by omega), nI_clamp (by omega), ← nI_succ]
        refine ⟨fun c2 => ih (fun i hi => ?_), fun c2 => ?_⟩
        · by_cases e : i = j
          · rw [e]; exact c2
          · exact ha i (by omega)
        · have e : wdB u d g m n = false := by
            simp only [wdB, c, decide_true, Bool.true_and]
            rw [Bool.eq_false_iff]
            intro q
            rw [List.all_eq_true] at q
            have := q j (List.mem_range.mpr hj)
            simp at this
            exact c2 this
          rw [e] at h
          exact h
    exact H 0 (Nat.zero_le _) (fun i hi => absurd hi (Nat.not_lt_zero i))
  · have e : wdB u d g m n = false := by simp [wdB, c]
    rw [e] at h
    exact h
