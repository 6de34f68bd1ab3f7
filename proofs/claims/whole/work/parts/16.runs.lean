theorem ge5 {g : Nat} (h : g < 5) : ¬ (5 : Int32) ≤ nI g := nI_ge (b := 5) h (by decide)
theorem ge6 {g : Nat} (h : g < 6) : ¬ (6 : Int32) ≤ nI g := nI_ge (b := 6) h (by decide)
theorem ge8 {g : Nat} (h : g < 8) : ¬ (8 : Int32) ≤ nI g := nI_ge (b := 8) h (by decide)
theorem ge11 {g : Nat} (h : g < 11) : ¬ (11 : Int32) ≤ nI g := nI_ge (b := 11) h (by decide)
theorem ge12 {g : Nat} (h : g < 12) : ¬ (12 : Int32) ≤ nI g := nI_ge (b := 12) h (by decide)
theorem ge17 {g : Nat} (h : g < 17) : ¬ (17 : Int32) ≤ nI g := nI_ge (b := 17) h (by decide)
theorem ge20 {g : Nat} (h : g < 20) : ¬ (20 : Int32) ≤ nI g := nI_ge (b := 20) h (by decide)
theorem ge720 {g : Nat} (h : g < 720) : ¬ (720 : Int32) ≤ nI g := nI_ge (b := 720) h (by decide)
def WF (w : Ar) : Prop := ∀ g, g < 6 → w g = -1 ∨ ∃ t, w g = nI t ∧ g < t ∧ t < 6
def LN (f : Ar) (m : Nat) : Prop := ∀ g, g < 6 → ∃ n, f (17 * g + 4) = nI n ∧ n ≤ m
def outF (f : Ar) (g : Nat) (x : Int32) : Ar := fun i => if i = 17 * g + 4 then f i + 1 else if i = 17 * g + 5 + (f (17 * g + 4)).toNatClampNeg then x else f i
def runX : Nat → Ar → Ar → Ar → Nat → Int32 → Int32 × Ar
  | 0, f, _, _, _, _ => (-1, f)
  | n + 1, f, k, w, g, x => if thR f g (k g) x = -1 then (-1, thF f g (k g) x) else if w g = -1 then (nI g, outF (thF f g (k g) x) g (thR f g (k g) x)) else runX n (thF f g (k g) x) k w (w g).toNatClampNeg (thR f g (k g) x)
theorem thF_ge {f : Ar} {g i : Nat} {kd x : Int32} (h : ∀ k, k < 4 → i ≠ 17 * g + k) : thF f g kd x i = f i := by
  have h0 : i ≠ 17 * g := h 0 (by omega)
  have h1 := h 1 (by omega)
  have h2 := h 2 (by omega)
  have h3 := h 3 (by omega)
  simp only [thF]
  rw [if_neg h0, if_neg h1, if_neg h2, if_neg h3]
theorem LN.th {f : Ar} {m g : Nat} {kd x : Int32} (h : LN f m) : LN (thF f g kd x) m := by
  intro g2 h2
  obtain ⟨n, h3, h4⟩ := h g2 h2
  exact ⟨n, by rw [thF_ge (fun k hk => by omega)]; exact h3, h4⟩
theorem outF_eq {f : Ar} {g n : Nat} {x : Int32} (hn : f (17 * g + 4) = nI n) (h : n < 2 ^ 31) : upd (upd f (17 * g + 5 + n) x) (17 * g + 4) ((upd f (17 * g + 5 + n) x) (17 * g + 4) + 1) = outF f g x := by
  funext i
  simp only [outF]
  rw [hn, nI_clamp h, upd_at (show 17 * g + 4 ≠ 17 * g + 5 + n by omega)]
  simp only [upd]
  by_cases c : i = 17 * g + 4
  · rw [if_pos c, if_pos c, c]
  · rw [if_neg c, if_neg c]
/-- runs(of, byKinds, byWays, gutter, letter) -/
theorem t_runs {G : GG} {ad : Nat → Nat} {f k w : Ar} {g : Nat} {x : Int32} {Q : Option Value → va_W → Prop} (hg : g < 6) (hW : WF w) (hL : LN f 11) (h : Q (some (.int (runX 6 f k w g x).1)) (arW G ad 0 102 (runX 6 f k w g x).2 ++ (arW G ad 1 6 k ++ (arW G ad 2 6 w)))) : J G mX7_runs 0 [(0, .ref (ad 0)), (1, .ref (ad 1)), (2, .ref (ad 2)), (3, .int (nI g)), (4, .int x)] [] (arW G ad 0 102 f ++ (arW G ad 1 6 k ++ (arW G ad 2 6 w))) Q := by
  refine sg_X7_runs_0 ?_
  have H : ∀ (n : Nat) (f : Ar) (g2 : Nat) (x2 : Int32), g2 < 6 → 6 ≤ g2 + n → LN f 11 → Q (some (.int (runX n f k w g2 x2).1)) (arW G ad 0 102 (runX n f k w g2 x2).2 ++ (arW G ad 1 6 k ++ (arW G ad 2 6 w))) → J G mX7_runs 7 [(0, .ref (ad 0)), (1, .ref (ad 1)), (2, .ref (ad 2)), (3, .int (nI g)), (4, .int x), (5, .int (nI g2)), (6, .int x2)] [] (arW G ad 0 102 f ++ (arW G ad 1 6 k ++ (arW G ad 2 6 w))) Q := by
    intro n
    induction n with
    | zero => intro f g2 x2 h1 h2; omega
    | succ n ih =>
      intro f g2 x2 h1 h2 hL h
      refine sg_X7_runs_7 ⟨vp_in_nI h1 (by omega), ?_⟩
      rw [nI_clamp (by omega)]
      refine t_through (ad := pk ad [0]) h1 ⟨_, _, rfl, rfl, fun c1 => ⟨vp_in_nI h1 (by omega), fun c2 => ?_, fun c2 => ?_⟩, fun c1 => ?_⟩
      · rcases hW g2 h1 with q | ⟨t, ht, h3, h4⟩
        · exact absurd q c2
        · rw [ht]
          refine ih _ t _ h4 (by omega) hL.th ?_
          simp only [runX] at h
          rw [if_neg c1, if_neg c2, ht, nI_clamp (by omega)] at h
          exact h
      · obtain ⟨m, hm, hm2⟩ := (hL.th (g := g2) (kd := k g2) (x := x2)) g2 h1
        rw [e17_4, e17_5, nI_clamp (by omega), hm, nI_add, nI_clamp (by omega)]
        refine ⟨vp_in_nI (by omega) (by omega), vp_in_nI (by omega) (by omega), ?_⟩
        rw [outF_eq hm (by omega)]
        simp only [runX] at h
        rw [if_neg c1, if_pos c2] at h
        exact h
      · simp only [runX] at h
        rw [if_pos c1] at h
        exact h
  exact H 6 f g x hg (by omega) hL h
/-- what the rows are when all is dry -/
def dryF (f : Ar) : Ar := fun i => if i < 102 then (if i % 17 = 1 then -1 else 0) else f i
def dryK (n : Nat) (f : Ar) : Ar := fun i => if i < n then (if i % 17 = 1 then -1 else 0) else f i
theorem dryK_succ {g k : Nat} {f : Ar} (hk : k < 17) (y : Int32) (hy : y = if k = 1 then -1 else 0) : upd (dryK (17 * g + k) f) (17 * g + k) y = dryK (17 * g + (k + 1)) f := by
  funext i
  simp only [upd, dryK]
  by_cases h : i = 17 * g + k
  · rw [if_pos h, if_pos (show i < 17 * g + (k + 1) by omega), hy]
    have e : i % 17 = k := by omega
    rw [e]
  · rw [if_neg h]
    by_cases h2 : i < 17 * g + k
    · rw [if_pos h2, if_pos (show i < 17 * g + (k + 1) by omega)]
    · rw [if_neg h2, if_neg (show ¬ i < 17 * g + (k + 1) by omega)]
theorem t_dryRows {G : GG} {ad : Nat → Nat} {f : Ar} {Q : Option Value → va_W → Prop} (h : Q none (arW G ad 0 102 (dryF f))) : J G mX7_dryRows 0 [(0, .ref (ad 0))] [] (arW G ad 0 102 f) Q := by
  refine sg_X7_dryRows_0 ?_
  have H : ∀ g, g ≤ 6 → J G mX7_dryRows 2 [(0, .ref (ad 0)), (1, .int (nI g))] [] (arW G ad 0 102 (dryK (17 * g) f)) Q := by
    refine forDn ?_ (fun g hg ih => ?_)
    · exact sg_X7_dryRows_2 (br_t (le_rfl32 _) h)
    · refine sg_X7_dryRows_2 (br_f (ge6 hg) ?_)
      have H2 : ∀ k, k ≤ 17 → J G mX7_dryRows 10 [(0, .ref (ad 0)), (1, .int (nI g)), (2, .int (nI k))] [] (arW G ad 0 102 (dryK (17 * g + k) f)) Q := by
        refine forDn ?_ (fun k hk ih2 => ?_)
        · refine sg_X7_dryRows_10 (br_t (le_rfl32 _) ?_)
          rw [← nI_succ]
          exact ih
        · refine sg_X7_dryRows_10 (br_f (ge17 hk) ?_)
          rw [e17_0, nI_add, nI_clamp (by omega), ← nI_succ]
          refine ⟨fun c => ⟨vp_in_nI (by omega) (by omega), ?_⟩, fun c => ⟨vp_in_nI (by omega) (by omega), ?_⟩⟩
          · rw [dryK_succ hk _ (by rw [if_neg]; exact fun e => c (by rw [e]; rfl))]
            exact ih2
          · rw [dryK_succ hk _ (by rw [if_pos]; exact (nI_eq (by omega) (by omega)).mp c)]
            exact ih2
      exact H2 0 (Nat.zero_le _)
  have e : dryK (17 * 0) f = f := by funext i; simp [dryK]
  have := H 0 (Nat.zero_le _)
  rw [e] at this
  exact this
def outS (f : Ar) : Nat → Int32
  | 0 => 0
  | n + 1 => outS f n + f (17 * n + 4)
theorem t_outOf {G : GG} {ad : Nat → Nat} {f : Ar} {Q : Option Value → va_W → Prop} (h : Q (some (.int (outS f 6))) (arW G ad 0 102 f)) : J G mX7_outOf 0 [(0, .ref (ad 0))] [] (arW G ad 0 102 f) Q := by
  refine sg_X7_outOf_0 ?_
  have H : ∀ g, g ≤ 6 → J G mX7_outOf 4 [(0, .ref (ad 0)), (1, .int (outS f g)), (2, .int (nI g))] [] (arW G ad 0 102 f) Q := by
    refine forDn ?_ (fun g hg ih => ?_)
    · exact sg_X7_outOf_4 (br_t (le_rfl32 _) h)
    · refine sg_X7_outOf_4 (br_f (ge6 hg) ?_)
      rw [e17_4, nI_clamp (by omega), ← nI_succ]
      exact ⟨vp_in_nI (by omega) (by omega), ih⟩
  exact H 0 (Nat.zero_le _)
