/-! the rows of a street: one array of 6 times 17 (came, held, sieved, lost, length, the word) -/
theorem e17_0 (g : Nat) : (17 : Int32) * nI g = nI (17 * g) := by rw [← pk_mul]; rfl
theorem e17_k (g k : Nat) : nI (17 * g) + nI k = nI (17 * g + k) := nI_add _ _
theorem e17_1 (g : Nat) : (17 : Int32) * nI g + 1 = nI (17 * g + 1) := by rw [e17_0]; exact nI_add _ 1
theorem e17_2 (g : Nat) : (17 : Int32) * nI g + 2 = nI (17 * g + 2) := by rw [e17_0]; exact nI_add _ 2
theorem e17_3 (g : Nat) : (17 : Int32) * nI g + 3 = nI (17 * g + 3) := by rw [e17_0]; exact nI_add _ 3
theorem e17_4 (g : Nat) : (17 : Int32) * nI g + 4 = nI (17 * g + 4) := by rw [e17_0]; exact nI_add _ 4
theorem e17_5 (g : Nat) : (17 : Int32) * nI g + 5 = nI (17 * g + 5) := by rw [e17_0]; exact nI_add _ 5
def rem2 (y : Int32) : Int32 := y - y / 2 * 2
def thP (f : Ar) (g : Nat) (kd x : Int32) : Bool := if kd = 3 then (decide (¬ x = 0) && decide (¬ x = 4)) else if kd = 2 then decide (¬ x = f (17 * g + 1)) else if kd = 4 then (decide (¬ x = f (17 * g + 1)) && decide (rem2 (f (17 * g + 2) + 1) = 1)) else true
def thR (f : Ar) (g : Nat) (kd x : Int32) : Int32 := if kd = 1 then f (17 * g + 1) else if thP f g kd x = true then x else -1
def thF (f : Ar) (g : Nat) (kd x : Int32) : Ar := fun i => if i = 17 * g then f i + 1 else if i = 17 * g + 1 then (if kd = 1 ∨ kd = 2 ∨ kd = 4 then x else f i) else if i = 17 * g + 2 then (if kd = 2 ∨ kd = 4 then f i + (if x = f (17 * g + 1) then 0 else 1) else f i) else if i = 17 * g + 3 then (if kd = 1 then f i else f i + (if thP f g kd x = true then 0 else 1)) else f i
theorem th_end {G : GG} {ad : Nat → Nat} {f f' : Ar} {g : Nat} {x1 x2 x3 x5 x6 : Int32} {Q : Option Value → va_W → Prop} (hg : g < 6) (h : Q (some (.int (if x6 = 0 then -1 else x3))) (arW G ad 0 102 (upd f (17 * g + 3) (f (17 * g + 3) + (if x6 = 0 then 1 else 0))))) : J G mX7_through 139 [(0, .ref (ad 0)), (1, .int x1), (2, .int x2), (3, .int x3), (4, .int (nI (17 * g))), (5, .int x5), (6, .int x6)] [] (arW G ad 0 102 f) Q := by
  have e : nI (17 * g) + 3 = nI (17 * g + 3) := nI_add _ 3
  refine sg_X7_through_139 ⟨by rw [e]; exact vp_in_nI (by omega) (by omega), fun c => ?_, fun c => ?_⟩
  · rw [e, nI_clamp (by omega)]
    rw [if_pos c, if_pos c] at h
    exact h
  · rw [e, nI_clamp (by omega)]
    rw [if_neg c, if_neg c] at h
    exact h
theorem th_sv {G : GG} {ad : Nat → Nat} {f : Ar} {g : Nat} {x1 x2 x3 x5 x6 : Int32} {Q : Option Value → va_W → Prop} (hg : g < 6) (p : Bool) (hp : p = (decide (¬ x6 = 0) && (decide (x2 = 2) || decide (rem2 (f (17 * g + 2) + 1) = 1)))) (h : Q (some (.int (if p = true then x3 else -1))) (arW G ad 0 102 (upd (upd f (17 * g + 2) (f (17 * g + 2) + (if x6 = 0 then 0 else 1))) (17 * g + 3) (f (17 * g + 3) + (if p = true then 0 else 1))))) : J G mX7_through 91 [(0, .ref (ad 0)), (1, .int x1), (2, .int x2), (3, .int x3), (4, .int (nI (17 * g))), (5, .int x5), (6, .int x6)] [] (arW G ad 0 102 f) Q := by
  have e : nI (17 * g) + 2 = nI (17 * g + 2) := nI_add _ 2
  have hr : ∀ y : Int32, (upd f (17 * g + 2) y) (17 * g + 3) = f (17 * g + 3) := fun y => pk_un (by omega)
  refine sg_X7_through_91 ⟨by rw [e]; exact vp_in_nI (by omega) (by omega), fun c => ?_, fun c => ⟨fun c2 => ?_, fun c2 => ⟨fun c3 => ?_, fun c3 => ?_⟩⟩⟩
  all_goals rw [e, nI_clamp (by omega)]
  · refine th_end (f' := f) hg ?_
    rw [hr]
    have : p = false := by rw [hp]; simp [c]
    subst this
    simpa [c] using h
  · refine th_end (f' := f) hg ?_
    rw [hr]
    have : p = true := by rw [hp]; simp [c, c2]
    subst this
    simpa [c] using h
  · refine th_end (f' := f) hg ?_
    rw [hr]
    rw [e, nI_clamp (by omega)] at c3
    have : p = false := by rw [hp]; simp only [rem2]; simp [c2, c3]
    subst this
    simpa [c] using h
  · refine th_end (f' := f) hg ?_
    rw [hr]
    rw [e, nI_clamp (by omega)] at c3
    have : p = true := by rw [hp]; simp only [rem2]; simp [c, c2, c3]
    subst this
    simpa [c] using h
