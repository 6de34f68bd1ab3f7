theorem outF_4 {f : Ar} {g : Nat} {x : Int32} : outF f g x (17 * g + 4) = f (17 * g + 4) + 1 := by simp [outF]
theorem outF_n {f : Ar} {g n : Nat} {x : Int32} (hn : f (17 * g + 4) = nI n) (h : n < 2 ^ 31) : outF f g x (17 * g + 5 + n) = x := by
  simp only [outF]
  rw [hn, nI_clamp h, if_neg (by omega), if_pos rfl]
theorem outF_ne {f : Ar} {g n i : Nat} {x : Int32} (hn : f (17 * g + 4) = nI n) (h : n < 2 ^ 31) (h1 : i ≠ 17 * g + 4) (h2 : i ≠ 17 * g + 5 + n) : outF f g x i = f i := by
  simp only [outF]
  rw [hn, nI_clamp h, if_neg h1, if_neg h2]
theorem t_runOut {G : GG} {ad : Nat → Nat} {u d : Fm} {f : Ar} {g n : Nat} {x : Int32} {Q : Option Value → va_W → Prop} (hg : g < 6) (hS : SR u d f) (hn : f (17 * g + 4) = nI n) (hn2 : n ≤ 11) (h : ∀ u' d', SR u' d' (outF f g x) → u' 0 = u 0 → u' 1 = u 1 → Q none (stW G ad 0 u' d')) : J G mX4_runOut 0 [(0, .ref (ad 0)), (1, .int (nI g)), (2, .int x)] [] (stW G ad 0 u d) Q := by
  have hin : vp_in (nI g) 6 := vp_in_nI hg (by omega)
  obtain ⟨s4, s2, s3, s5, s6, sd⟩ := hS g hg
  refine sg_X4_runOut_0 ?_
  rw [nI_clamp (by omega), s6, hn]
  refine ⟨hin, br_f (ge12 (by omega)) ⟨vp_in_nI (by omega) (by omega), ?_⟩⟩
  rw [nI_clamp (by omega)]
  refine h _ _ ?_ (by simp [va_up]) (by simp [va_up])
  intro h' hh
  obtain ⟨t4, t2, t3, t5, t6, td⟩ := hS h' hh
  by_cases e : h' = g
  · subst e
    have o : ∀ k, k < 4 → outF f h' x (17 * h' + k) = f (17 * h' + k) := fun k hk => outF_ne hn (by omega) (by omega) (by omega)
    refine ⟨?_, ?_, fun q => ?_, ?_, ?_, fun j hj hl => ?_⟩
    · simp only [va_up]; simp [t4]; exact (o 0 (by omega)).symm
    · simp only [va_up]; simp [t2]; exact (o 1 (by omega)).symm
    · simp only [va_up] at q ⊢; simp at q ⊢; rw [t3 q]; exact (o 2 (by omega)).symm
    · simp only [va_up]; simp [t5]; exact (o 3 (by omega)).symm
    · rw [outF_4]; simp [va_up, upd, hn]
    · rw [outF_4, hn, ← nI_succ, nI_ltI (by omega) (by omega)] at hl
      by_cases ej : j = n
      · subst ej
        rw [outF_n hn (by omega)]
        simp [va_up, upd]
      · rw [outF_ne hn (by omega) (by omega) (by omega)]
        simp only [va_up]
        simp only [reduceIte]
        rw [upd_at ej]
        exact td j hj (by rw [hn]; exact nI_lt (by omega) (by omega))
  · have o : ∀ k, k < 17 → outF f g x (17 * h' + k) = f (17 * h' + k) := fun k hk => outF_ne hn (by omega) (by omega) (by omega)
    refine ⟨?_, ?_, fun q => ?_, ?_, ?_, fun j hj hl => ?_⟩
    · simp only [va_up]; simp [t4]; exact (o 0 (by omega)).symm
    · simp only [va_up]; simp [t2]; exact (o 1 (by omega)).symm
    · simp only [va_up] at q ⊢; simp at q ⊢; rw [t3 q]; exact (o 2 (by omega)).symm
    · simp only [va_up]; simp [t5]; exact (o 3 (by omega)).symm
    · simp only [va_up]; simp only [reduceIte]; rw [upd_at e, t6]; exact (o 4 (by omega)).symm
    · rw [o 4 (by omega)] at hl
      have o5 := o (5 + j) (by omega)
      rw [← Nat.add_assoc] at o5
      rw [o5]
      simp only [va_up]
      simp [e]
      exact td j hj hl
def KW (u : Fm) (k w : Ar) : Prop := ∀ g, g < 6 → u 0 g = k g ∧ u 1 g = w g
/-- Street.run(gutter, letter) -/
theorem t_run {G : GG} {ad : Nat → Nat} {u d : Fm} {f k w : Ar} {g : Nat} {x : Int32} {Q : Option Value → va_W → Prop} (hg : g < 6) (hk : KW u k w) (hW : WF w) (hS : SR u d f) (hL : LN f 11) (h : ∀ u' d', SR u' d' (runX 6 f k w g x).2 → u' 0 = u 0 → u' 1 = u 1 → Q (some (.int (runX 6 f k w g x).1)) (stW G ad 0 u' d')) : J G mX4_run 0 [(0, .ref (ad 0)), (1, .int (nI g)), (2, .int x)] [] (stW G ad 0 u d) Q := by
  refine sg_X4_run_0 ?_
  have H : ∀ (n s : Nat) (f : Ar) (v d : Fm) (g2 : Nat) (x2 : Int32), g2 < 6 → s + n = 6 → s ≤ g2 → v 0 = u 0 → v 1 = u 1 → SR v d f → LN f 11 → (∀ u' d', SR u' d' (runX n f k w g2 x2).2 → u' 0 = u 0 → u' 1 = u 1 → Q (some (.int (runX n f k w g2 x2).1)) (stW G ad 0 u' d')) → J G mX4_run 8 [(0, .ref (ad 0)), (1, .int (nI g)), (2, .int x), (3, .int (nI g2)), (4, .int x2), (5, .int (nI s))] [] (stW G ad 0 v d) Q := by
    intro n
    induction n with
    | zero => intro s f v d g2 x2 h1 h2 h3; omega
    | succ n ih =>
      intro s f v d g2 x2 h1 h2 h3 v0 v1 hS hL h
      have ek : v 0 g2 = k g2 := by rw [v0]; exact (hk g2 h1).1
      have ew : v 1 g2 = w g2 := by rw [v1]; exact (hk g2 h1).2
      refine sg_X4_run_8 (br_f (ge6 (by omega)) (br_f (nI_pos (by omega)) (br_f (ge6 h1) ?_)))
      refine t_passOn h1 hS (fun u3 hS3 a0 a1 => ⟨_, u3, rfl, rfl, fun c1 => ⟨vp_in_nI h1 (by omega), ?_⟩, fun c1 => ?_⟩)
      · rw [nI_clamp (by omega), a1, ew]
        rw [ek] at c1 hS3 ⊢
        refine ⟨fun c2 => ?_, fun c2 => ?_⟩
        · rcases hW g2 h1 with q | ⟨t, ht, h5, h6⟩
          · exact absurd q c2
          · rw [ht, ← nI_succ]
            refine ih (s + 1) _ u3 d t _ h6 (by omega) (by omega) (a0.trans v0) (a1.trans v1) hS3 hL.th (fun u' d' b1 b2 b3 => ?_)
            have := h u' d'
            simp only [runX] at this
            rw [if_neg c1, if_neg c2, ht, nI_clamp (by omega)] at this
            exact this b1 b2 b3
        · obtain ⟨m, hm, hm2⟩ := (hL.th (g := g2) (kd := k g2) (x := x2)) g2 h1
          refine t_runOut h1 hS3 hm hm2 (fun u' d' b1 b2 b3 => ⟨_, _, rfl, rfl, ?_⟩)
          have := h u' d'
          simp only [runX] at this
          rw [if_neg c1, if_pos c2] at this
          exact this b1 (b2.trans (a0.trans v0)) (b3.trans (a1.trans v1))
      · rw [ek] at c1 hS3
        have := h u3 d
        simp only [runX] at this
        rw [if_pos c1] at this
        exact this hS3 (a0.trans v0) (a1.trans v1)
  exact H 6 0 f u d g x hg rfl (Nat.zero_le _) rfl rfl hS hL h
