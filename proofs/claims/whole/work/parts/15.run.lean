theorem upd4 {f : Ar} {b : Nat} {y0 y1 y2 y3 : Int32} (i : Nat) : (upd (upd (upd (upd f b y0) (b + 1) y1) (b + 2) y2) (b + 3) y3) i = if i = b then y0 else if i = b + 1 then y1 else if i = b + 2 then y2 else if i = b + 3 then y3 else f i := by
  simp only [upd]
  by_cases h0 : i = b
  · subst h0; simp
  · by_cases h1 : i = b + 1
    · subst h1; simp
    · by_cases h2 : i = b + 2
      · subst h2; simp
      · by_cases h3 : i = b + 3
        · subst h3; simp
        · simp [h0, h1, h2, h3]
theorem th_4 {f : Ar} {g : Nat} {kd x y0 y1 y2 y3 : Int32} (h0 : y0 = f (17 * g) + 1) (h1 : y1 = if kd = 1 ∨ kd = 2 ∨ kd = 4 then x else f (17 * g + 1)) (h2 : y2 = if kd = 2 ∨ kd = 4 then f (17 * g + 2) + (if x = f (17 * g + 1) then 0 else 1) else f (17 * g + 2)) (h3 : y3 = if kd = 1 then f (17 * g + 3) else f (17 * g + 3) + (if thP f g kd x = true then 0 else 1)) : upd (upd (upd (upd f (17 * g) y0) (17 * g + 1) y1) (17 * g + 2) y2) (17 * g + 3) y3 = thF f g kd x := by
  funext i
  rw [upd4]
  simp only [thF]
  by_cases c0 : i = 17 * g
  · rw [if_pos c0, if_pos c0, h0, c0]
  · rw [if_neg c0, if_neg c0]
    by_cases c1 : i = 17 * g + 1
    · rw [if_pos c1, if_pos c1, h1, c1]
    · rw [if_neg c1, if_neg c1]
      by_cases c2 : i = 17 * g + 2
      · rw [if_pos c2, if_pos c2, h2, c2]
      · rw [if_neg c2, if_neg c2]
        by_cases c3 : i = 17 * g + 3
        · rw [if_pos c3, if_pos c3, h3, c3]
        · rw [if_neg c3, if_neg c3]
theorem upd_self {f : Ar} {k : Nat} : upd f k (f k) = f := by
  funext i
  simp only [upd]
  by_cases h : i = k
  · rw [if_pos h, h]
  · rw [if_neg h]
theorem upd_at {f : Ar} {k j : Nat} {x : Int32} (h : j ≠ k) : upd f k x j = f j := pk_un h
/-- through(of, g, kind, letter) -/
theorem t_through {G : GG} {ad : Nat → Nat} {f : Ar} {g : Nat} {kd x : Int32} {Q : Option Value → va_W → Prop} (hg : g < 6) (h : Q (some (.int (thR f g kd x))) (arW G ad 0 102 (thF f g kd x))) : J G mX7_through 0 [(0, .ref (ad 0)), (1, .int (nI g)), (2, .int kd), (3, .int x)] [] (arW G ad 0 102 f) Q := by
  refine sg_X7_through_0 ?_
  rw [e17_1, e17_0, nI_clamp (by omega), nI_clamp (by omega)]
  refine ⟨vp_in_nI (by omega) (by omega), vp_in_nI (by omega) (by omega), fun c1 => ?_, fun c1 => ?_⟩
  · -- not a bowl
    have key : ∀ (x6 : Int32), (kd = 3 → (x6 = 0 ↔ (x = 0 ∨ x = 4))) → (¬ kd = 3 → x6 = 1) → J G mX7_through 61 [(0, .ref (ad 0)), (1, .int (nI g)), (2, .int kd), (3, .int x), (4, .int (nI (17 * g))), (5, .int (f (17 * g + 1))), (6, .int x6)] [] (arW G ad 0 102 (upd f (17 * g) (f (17 * g) + 1))) Q := by
      intro x6 k3 k0
      have e1 : nI (17 * g) + 1 = nI (17 * g + 1) := nI_add _ 1
      have sv : (kd = 2 ∨ kd = 4) → ∀ (x7 : Int32), (x7 = 0 ↔ x = f (17 * g + 1)) → J G mX7_through 91 [(0, .ref (ad 0)), (1, .int (nI g)), (2, .int kd), (3, .int x), (4, .int (nI (17 * g))), (5, .int (f (17 * g + 1))), (6, .int x7)] [] (arW G ad 0 102 (upd (upd f (17 * g) (f (17 * g) + 1)) (17 * g + 1) x)) Q := by
        intro hk x7 h7
        have hr2 : (upd (upd f (17 * g) (f (17 * g) + 1)) (17 * g + 1) x) (17 * g + 2) = f (17 * g + 2) := by rw [upd_at (by omega), upd_at (by omega)]
        have hr3 : (upd (upd f (17 * g) (f (17 * g) + 1)) (17 * g + 1) x) (17 * g + 3) = f (17 * g + 3) := by rw [upd_at (by omega), upd_at (by omega)]
        have n3 : ¬ kd = 3 := by rcases hk with rfl | rfl <;> decide
        have hP : thP f g kd x = (decide (¬ x7 = 0) && (decide (kd = 2) || decide (rem2 (f (17 * g + 2) + 1) = 1))) := by
          simp only [thP]
          rw [if_neg n3]
          rcases hk with rfl | rfl
          · by_cases q : x = f (17 * g + 1)
            · simp [q, h7.mpr q]
            · simp [q, (not_congr h7).mpr q]
          · by_cases q : x = f (17 * g + 1)
            · simp [q, h7.mpr q]
            · simp [q, (not_congr h7).mpr q]
        refine th_sv hg (thP f g kd x) (by rw [hr2]; exact hP) ?_
        rw [hr2, hr3]
        have hR : thR f g kd x = if thP f g kd x = true then x else -1 := by simp only [thR]; rw [if_neg c1]
        rw [hR] at h
        rw [th_4 (x := x) (kd := kd) rfl (by rw [if_pos (Or.inr hk)]) (by
          rw [if_pos hk]
          by_cases q : x = f (17 * g + 1)
          · rw [if_pos (h7.mpr q), if_pos q]
          · rw [if_neg ((not_congr h7).mpr q), if_neg q]) (by rw [if_neg c1])]
        exact h
      refine sg_X7_through_61 ?_
      rw [e1, nI_clamp (by omega)]
      refine ⟨fun c2 => ⟨vp_in_nI (by omega) (by omega), fun c => sv (Or.inl c2) 0 ⟨fun _ => c, fun _ => rfl⟩, fun c => sv (Or.inl c2) 1 ⟨fun q => absurd q (by decide), fun q => absurd q c⟩⟩, fun c2 => ⟨fun c4 => ?_, fun c4 => ⟨vp_in_nI (by omega) (by omega), fun c => sv (Or.inr c4) 0 ⟨fun _ => c, fun _ => rfl⟩, fun c => sv (Or.inr c4) 1 ⟨fun q => absurd q (by decide), fun q => absurd q c⟩⟩⟩⟩
      -- plain, thief
      refine th_end (f' := f) hg ?_
      rw [upd_at (f := f) (by omega)]
      have hPb : thP f g kd x = decide (¬ x6 = 0) := by
        unfold thP
        by_cases c3 : kd = 3
        · rw [if_pos c3]
          by_cases q : x6 = 0
          · rcases (k3 c3).mp q with h9 | h9 <;> simp [h9, q]
          · have h9 := (not_congr (k3 c3)).mp q
            simp only [not_or] at h9
            simp [h9.1, h9.2, q]
        · rw [if_neg c3, if_neg c2, if_neg c4, k0 c3]; decide
      have hR : thR f g kd x = if x6 = 0 then -1 else x := by
        unfold thR
        rw [if_neg c1, hPb]
        by_cases q : x6 = 0 <;> simp [q]
      have hP : (if thP f g kd x = true then (0 : Int32) else 1) = if x6 = 0 then 1 else 0 := by
        rw [hPb]
        by_cases q : x6 = 0 <;> simp [q]
      rw [hR] at h
      have e4 := th_4 (f := f) (g := g) (x := x) (kd := kd) (y1 := f (17 * g + 1)) (y2 := f (17 * g + 2)) (y3 := f (17 * g + 3) + (if x6 = 0 then 1 else 0)) rfl (by rw [if_neg]; exact fun q => q.elim c1 (fun q => q.elim c2 c4)) (by rw [if_neg]; exact fun q => q.elim c2 c4) (by rw [if_neg c1, hP])
      have e5 : upd (upd (upd f (17 * g) (f (17 * g) + 1)) (17 * g + 1) (f (17 * g + 1))) (17 * g + 2) (f (17 * g + 2)) = upd f (17 * g) (f (17 * g) + 1) := by
        have a1 : (upd f (17 * g) (f (17 * g) + 1)) (17 * g + 1) = f (17 * g + 1) := upd_at (by omega)
        have a2 : (upd f (17 * g) (f (17 * g) + 1)) (17 * g + 2) = f (17 * g + 2) := upd_at (by omega)
        rw [← a1, upd_self, ← a2, upd_self]
      rw [e5] at e4
      rw [e4]
      exact h
    refine ⟨fun c3 => key 1 (fun q => absurd q c3) (fun _ => rfl), fun c3 => ⟨fun q => key 0 (fun _ => ⟨fun _ => Or.inl q, fun _ => rfl⟩) (fun q => absurd c3 q), fun q => ⟨fun q2 => key 0 (fun _ => ⟨fun _ => Or.inr q2, fun _ => rfl⟩) (fun q => absurd c3 q), fun q2 => key 1 (fun _ => ⟨fun z => absurd z (by decide), fun z => z.elim (fun z => absurd z q) (fun z => absurd z q2)⟩) (fun q => absurd c3 q)⟩⟩⟩
  · -- a bowl
    have e : upd (upd f (17 * g) (f (17 * g) + 1)) (17 * g + 1) x = thF f g kd x := by
      have e4 := th_4 (f := f) (g := g) (x := x) (kd := kd) (y1 := x) (y2 := f (17 * g + 2)) (y3 := f (17 * g + 3)) rfl (by rw [if_pos (Or.inl c1)]) (by rw [if_neg]; rw [c1]; decide) (by rw [if_pos c1])
      have a2 : (upd (upd f (17 * g) (f (17 * g) + 1)) (17 * g + 1) x) (17 * g + 2) = f (17 * g + 2) := by rw [upd_at (by omega), upd_at (by omega)]
      have a3 : (upd (upd f (17 * g) (f (17 * g) + 1)) (17 * g + 1) x) (17 * g + 3) = f (17 * g + 3) := by rw [upd_at (by omega), upd_at (by omega)]
      rw [← a2, upd_self, ← a3, upd_self] at e4
      exact e4
    have hR : thR f g kd x = f (17 * g + 1) := by simp only [thR]; rw [if_pos c1]
    rw [hR, ← e] at h
    exact h
