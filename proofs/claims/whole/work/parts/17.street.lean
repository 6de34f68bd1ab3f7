/-! the class's street beside the rows -/
abbrev Fm : Type := Nat → Nat → Int32
def SRg (u d : Fm) (f : Ar) (g : Nat) : Prop := u 4 g = f (17 * g) ∧ u 2 g = f (17 * g + 1) ∧ (u 0 g = 4 → u 3 g = f (17 * g + 2)) ∧ u 5 g = f (17 * g + 3) ∧ u 6 g = f (17 * g + 4) ∧ ∀ j, j < 12 → nI j < f (17 * g + 4) → d g j = f (17 * g + 5 + j)
def SR (u d : Fm) (f : Ar) : Prop := ∀ g, g < 6 → SRg u d f g
theorem thF_0 {f : Ar} {g : Nat} {kd x : Int32} : thF f g kd x (17 * g) = f (17 * g) + 1 := by simp [thF]
theorem thF_1 {f : Ar} {g : Nat} {kd x : Int32} : thF f g kd x (17 * g + 1) = if kd = 1 ∨ kd = 2 ∨ kd = 4 then x else f (17 * g + 1) := by simp [thF]
theorem thF_2 {f : Ar} {g : Nat} {kd x : Int32} : thF f g kd x (17 * g + 2) = if kd = 2 ∨ kd = 4 then f (17 * g + 2) + (if x = f (17 * g + 1) then 0 else 1) else f (17 * g + 2) := by simp [thF]
theorem thF_3 {f : Ar} {g : Nat} {kd x : Int32} : thF f g kd x (17 * g + 3) = if kd = 1 then f (17 * g + 3) else f (17 * g + 3) + (if thP f g kd x = true then 0 else 1) := by simp [thF]
theorem SR.th {u u' d : Fm} {f : Ar} {g : Nat} {x : Int32} (hS : SR u d f) (hg : g < 6) (h0 : u' 0 = u 0) (hb : ∀ h, ¬ h = g → u' 4 h = u 4 h ∧ u' 2 h = u 2 h ∧ u' 3 h = u 3 h ∧ u' 5 h = u 5 h ∧ u' 6 h = u 6 h)
    (c4 : u' 4 g = u 4 g + 1) (c2 : u' 2 g = if u 0 g = 1 ∨ u 0 g = 2 ∨ u 0 g = 4 then x else u 2 g) (c3 : u 0 g = 4 → u' 3 g = u 3 g + (if x = u 2 g then 0 else 1)) (c5 : u' 5 g = if u 0 g = 1 then u 5 g else u 5 g + (if thP f g (u 0 g) x = true then 0 else 1)) (c6 : u' 6 g = u 6 g) : SR u' d (thF f g (u 0 g) x) := by
  intro h hh
  obtain ⟨s4, s2, s3, s5, s6, sd⟩ := hS h hh
  by_cases e : h = g
  · subst e
    have e4 : thF f h (u 0 h) x (17 * h + 4) = f (17 * h + 4) := thF_ge (fun k hk => by omega)
    refine ⟨by rw [c4, s4, thF_0], by rw [c2, thF_1, s2], fun q => ?_, by rw [c5, thF_3, s5], by rw [c6, s6, e4], fun j hj hl => ?_⟩
    · rw [h0] at q
      rw [c3 q, thF_2, if_pos (Or.inr q), s3 q, s2]
    · rw [e4] at hl
      rw [sd j hj hl, thF_ge (fun k hk => by omega)]
  · obtain ⟨b4, b2, b3, b5, b6⟩ := hb h e
    have ek : ∀ k, k < 17 → thF f g (u 0 g) x (17 * h + k) = f (17 * h + k) := fun k hk => thF_ge (fun k2 hk2 => by omega)
    refine ⟨by rw [b4, s4]; exact (ek 0 (by omega)).symm, by rw [b2, s2, ek 1 (by omega)], fun q => ?_, by rw [b5, s5, ek 3 (by omega)], by rw [b6, s6, ek 4 (by omega)], fun j hj hl => ?_⟩
    · rw [h0] at q
      rw [b3, s3 q, ek 2 (by omega)]
    · rw [ek 4 (by omega)] at hl
      rw [sd j hj hl]
      have := ek (5 + j) (by omega)
      rw [← Nat.add_assoc] at this
      exact this.symm
theorem t_passOn {G : GG} {ad : Nat → Nat} {u d : Fm} {f : Ar} {g : Nat} {x : Int32} {Q : Option Value → va_W → Prop} (hg : g < 6) (hS : SR u d f) (h : ∀ u', SR u' d (thF f g (u 0 g) x) → u' 0 = u 0 → u' 1 = u 1 → Q (some (.int (thR f g (u 0 g) x))) (stW G ad 0 u' d)) : J G mX4_passOn 0 [(0, .ref (ad 0)), (1, .int (nI g)), (2, .int x)] [] (stW G ad 0 u d) Q := by
  have hin : vp_in (nI g) 6 := vp_in_nI hg (by omega)
  obtain ⟨s4, s2, s3, s5, s6, sd⟩ := hS g hg
  have fin : ∀ (u' : Fm) (r : Int32), u' 0 = u 0 → u' 1 = u 1 → (∀ h, ¬ h = g → u' 4 h = u 4 h ∧ u' 2 h = u 2 h ∧ u' 3 h = u 3 h ∧ u' 5 h = u 5 h ∧ u' 6 h = u 6 h) → u' 4 g = u 4 g + 1 → (u' 2 g = if u 0 g = 1 ∨ u 0 g = 2 ∨ u 0 g = 4 then x else u 2 g) → (u 0 g = 4 → u' 3 g = u 3 g + (if x = u 2 g then 0 else 1)) → (u' 5 g = if u 0 g = 1 then u 5 g else u 5 g + (if thP f g (u 0 g) x = true then 0 else 1)) → u' 6 g = u 6 g → r = thR f g (u 0 g) x → Q (some (.int r)) (stW G ad 0 u' d) := by
    intro u' r a0 a1 hb c4 c2 c3 c5 c6 hr
    rw [hr]
    exact h u' (hS.th hg a0 hb c4 c2 c3 c5 c6) a0 a1
  refine sg_X4_passOn_0 ?_
  rw [nI_clamp (by omega)]
  refine ⟨hin, fun c1 => ?_, fun c1 => ?_⟩
  · refine sg_X4_letsThrough_0 ?_
    rw [nI_clamp (by omega)]
    have hP3 : u 0 g = 3 → thP f g (u 0 g) x = (decide (¬ x = 0) && decide (¬ x = 4)) := fun q => by simp only [thP]; rw [if_pos q]
    have hP2 : u 0 g = 2 → thP f g (u 0 g) x = decide (¬ x = u 2 g) := fun q => by
      simp only [thP]; rw [if_neg (by rw [q]; decide), if_pos q, s2]
    have hP4 : u 0 g = 4 → thP f g (u 0 g) x = (decide (¬ x = u 2 g) && decide (rem2 (u 3 g + 1) = 1)) := fun q => by
      simp only [thP]; rw [if_neg (by rw [q]; decide), if_neg (by rw [q]; decide), if_pos q, s2, s3 q]
    have hP0 : ¬ u 0 g = 2 → ¬ u 0 g = 3 → ¬ u 0 g = 4 → thP f g (u 0 g) x = true := fun q2 q3 q4 => by
      simp only [thP]; rw [if_neg q3, if_neg q2, if_neg q4]
    have hRt : thP f g (u 0 g) x = true → x = thR f g (u 0 g) x := fun q => by simp only [thR]; rw [if_neg c1, if_pos q]
    have hRf : thP f g (u 0 g) x = false → -1 = thR f g (u 0 g) x := fun q => by simp only [thR]; rw [if_neg c1, if_neg (by rw [q]; decide)]
    -- the class's four kinds, behind letsThrough
    have leaf : ∀ (b : Bool) (u3 : Fm) (r : Int32), r = (if b = true then 1 else 0) → thP f g (u 0 g) x = b → u3 0 = u 0 → u3 1 = u 1 → (∀ h, ¬ h = g → u3 4 h = u 4 h ∧ u3 2 h = u 2 h ∧ u3 3 h = u 3 h ∧ u3 5 h = u 5 h ∧ u3 6 h = u 6 h) → u3 4 g = u 4 g + 1 → (u3 2 g = if u 0 g = 1 ∨ u 0 g = 2 ∨ u 0 g = 4 then x else u 2 g) → (u 0 g = 4 → u3 3 g = u 3 g + (if x = u 2 g then 0 else 1)) → u3 5 g = u 5 g → u3 6 g = u 6 g →
        ∃ (r_4 : Int32) (u_3 : Nat → Nat → Int32), some (Value.int r) = some (.int r_4) ∧ stW G ad 0 u3 d = (stW G ad 0 u_3 d) ∧ (((r_4 = 0) → Q (some (.int (-1))) (stW G ad 0 (va_up u_3 5 (upd (u_3 5) g (((u_3 5) g) + 1))) d)) ∧ ((¬ r_4 = 0) → Q (some (.int x)) (stW G ad 0 u_3 d))) := by
      intro b u3 r hr hp a0 a1 hb b4 b2 b3 b5 b6
      refine ⟨r, u3, rfl, rfl, fun q => ?_, fun q => ?_⟩
      · have hbf : b = false := by
          cases b with
          | false => rfl
          | true => rw [hr] at q; exact absurd q (by decide)
        subst hbf
        refine fin _ _ (by simp [va_up, a0]) (by simp [va_up, a1]) (fun h' hne => ?_) (by simp [va_up, b4]) (by simp only [va_up]; simpa using b2) (fun q4 => by simp only [va_up]; simpa using b3 q4) ?_ (by simp [va_up, b6]) (hRf hp)
        · obtain ⟨d1, d2, d3, d4, d5⟩ := hb h' hne
          simp [va_up, upd, hne, d1, d2, d3, d4, d5]
        · rw [if_neg c1, hp]
          simp [va_up, upd, b5]
      · have hbt : b = true := by
          cases b with
          | true => rfl
          | false => rw [hr] at q; exact absurd rfl q
        subst hbt
        refine fin _ _ a0 a1 hb b4 b2 b3 ?_ b6 (hRt hp)
        rw [if_neg c1, hp]
        simp [b5]
    have ne : ∀ h, ¬ h = g → (va_up u 4 (upd (u 4) g (u 4 g + 1))) 4 h = u 4 h := fun h hne => by simp [va_up, upd, hne]
    have x10 : ∀ a b : Int32, a + 0 = a := fun a _ => Int32.add_zero a
    refine ⟨hin, fun ca => ⟨fun k2 => ?_, fun k3 => ⟨fun z0 => ?_, fun z0 => ⟨fun z4 => ?_, fun z4 => ?_⟩⟩, fun k4 => ?_, fun k0 => ?_⟩, fun ca => ⟨fun k2 => ?_, fun k3 => ⟨fun z0 => ?_, fun z0 => ⟨fun z4 => ?_, fun z4 => ?_⟩⟩, fun k4 => ⟨fun z => ?_, fun z => ?_⟩, fun k0 => ?_⟩⟩
    all_goals simp only [va_up] at *
    all_goals simp only [reduceIte, Nat.reduceEqDiff] at *
    · exact leaf false _ _ rfl (by rw [hP2 k2, ca]; simp) (by simp [va_up]) (by simp [va_up]) (fun h' hne => by simp [va_up, upd, hne]) (by simp [va_up, upd]) (by rw [if_pos (Or.inr (Or.inl k2))]; simp [va_up, upd]) (fun q => absurd (k2.symm.trans q) (by decide)) (by simp [va_up]) (by simp [va_up])
    · exact leaf false _ _ rfl (by rw [hP3 k3, z0]; simp) (by simp [va_up]) (by simp [va_up]) (fun h' hne => by simp [va_up, upd, hne]) (by simp [va_up, upd]) (by rw [if_neg (by rw [k3]; decide)]; simp [va_up, upd]) (fun q => absurd (k3.symm.trans q) (by decide)) (by simp [va_up]) (by simp [va_up])
    · exact leaf false _ _ rfl (by rw [hP3 k3, z4]; simp) (by simp [va_up]) (by simp [va_up]) (fun h' hne => by simp [va_up, upd, hne]) (by simp [va_up, upd]) (by rw [if_neg (by rw [k3]; decide)]; simp [va_up, upd]) (fun q => absurd (k3.symm.trans q) (by decide)) (by simp [va_up]) (by simp [va_up])
    · exact leaf true _ _ rfl (by rw [hP3 k3]; simp [z0, z4]) (by simp [va_up]) (by simp [va_up]) (fun h' hne => by simp [va_up, upd, hne]) (by simp [va_up, upd]) (by rw [if_neg (by rw [k3]; decide)]; simp [va_up, upd]) (fun q => absurd (k3.symm.trans q) (by decide)) (by simp [va_up]) (by simp [va_up])
    · exact leaf false _ _ rfl (by rw [hP4 k4, ca]; simp) (by simp [va_up]) (by simp [va_up]) (fun h' hne => by simp [va_up, upd, hne]) (by simp [va_up, upd]) (by rw [if_pos (Or.inr (Or.inr k4))]; simp [va_up, upd]) (fun _ => by rw [if_pos ca.symm]; simp [va_up, upd]) (by simp [va_up]) (by simp [va_up])
    · exact leaf true _ _ rfl (hP0 k0.1 k0.2.1 k0.2.2) (by simp [va_up]) (by simp [va_up]) (fun h' hne => by simp [va_up, upd, hne]) (by simp [va_up, upd]) (by rw [if_neg (fun q => q.elim c1 (fun q => q.elim k0.1 k0.2.2))]; simp [va_up, upd]) (fun q => absurd q k0.2.2) (by simp [va_up]) (by simp [va_up])
    · exact leaf true _ _ rfl (by rw [hP2 k2]; simp [Ne.symm ca]) (by simp [va_up]) (by simp [va_up]) (fun h' hne => by simp [va_up, upd, hne]) (by simp [va_up, upd]) (by rw [if_pos (Or.inr (Or.inl k2))]; simp [va_up, upd]) (fun q => absurd (k2.symm.trans q) (by decide)) (by simp [va_up]) (by simp [va_up])
    · exact leaf false _ _ rfl (by rw [hP3 k3, z0]; simp) (by simp [va_up]) (by simp [va_up]) (fun h' hne => by simp [va_up, upd, hne]) (by simp [va_up, upd]) (by rw [if_neg (by rw [k3]; decide)]; simp [va_up, upd]) (fun q => absurd (k3.symm.trans q) (by decide)) (by simp [va_up]) (by simp [va_up])
    · exact leaf false _ _ rfl (by rw [hP3 k3, z4]; simp) (by simp [va_up]) (by simp [va_up]) (fun h' hne => by simp [va_up, upd, hne]) (by simp [va_up, upd]) (by rw [if_neg (by rw [k3]; decide)]; simp [va_up, upd]) (fun q => absurd (k3.symm.trans q) (by decide)) (by simp [va_up]) (by simp [va_up])
    · exact leaf true _ _ rfl (by rw [hP3 k3]; simp [z0, z4]) (by simp [va_up]) (by simp [va_up]) (fun h' hne => by simp [va_up, upd, hne]) (by simp [va_up, upd]) (by rw [if_neg (by rw [k3]; decide)]; simp [va_up, upd]) (fun q => absurd (k3.symm.trans q) (by decide)) (by simp [va_up]) (by simp [va_up])
    · exact leaf false _ _ rfl (by rw [hP4 k4]; simp only [rem2]; simp [z]) (by simp [va_up]) (by simp [va_up]) (fun h' hne => by simp [va_up, upd, hne]) (by simp [va_up, upd]) (by rw [if_pos (Or.inr (Or.inr k4))]; simp [va_up, upd]) (fun _ => by rw [if_neg (fun q => ca q.symm)]; simp [va_up, upd]) (by simp [va_up]) (by simp [va_up])
    · exact leaf true _ _ rfl (by rw [hP4 k4]; simp only [rem2]; simp [z, Ne.symm ca]) (by simp [va_up]) (by simp [va_up]) (fun h' hne => by simp [va_up, upd, hne]) (by simp [va_up, upd]) (by rw [if_pos (Or.inr (Or.inr k4))]; simp [va_up, upd]) (fun _ => by rw [if_neg (fun q => ca q.symm)]; simp [va_up, upd]) (by simp [va_up]) (by simp [va_up])
    · exact leaf true _ _ rfl (hP0 k0.1 k0.2.1 k0.2.2) (by simp [va_up]) (by simp [va_up]) (fun h' hne => by simp [va_up, upd, hne]) (by simp [va_up, upd]) (by rw [if_neg (fun q => q.elim c1 (fun q => q.elim k0.1 k0.2.2))]; simp [va_up, upd]) (fun q => absurd q k0.2.2) (by simp [va_up]) (by simp [va_up])
  · refine fin _ _ (by simp [va_up]) (by simp [va_up]) (fun h' hne => by simp [va_up, upd, hne]) (by simp [va_up, upd]) (by rw [if_pos (Or.inl c1)]; simp [va_up, upd]) (fun q => absurd (c1.symm.trans q) (by decide)) (by rw [if_pos c1]; simp [va_up]) (by simp [va_up]) (by simp only [thR]; rw [if_pos c1, s2])
