/-! WHAT HOLDS between the class's object and the reference's, call by call -/
abbrev CT : Type := Ar × Int32 × Fm × Fm × Ar × Ar × Int32 × Ar × Fm × Fm × Fm × Ar × Ar × Int32 × Ar × Fm × Fm × Fm × Ar × Ar × Ar × Ar × Ar
def rlT (G : GG) (ad : Nat → Nat) : CT → va_W := fun (pf, pn, u, d, g, l, n, fn, fd, ku, kd, kg, kl, kn, kfn, kfd, tu, td, t, wa, le, se, v) => rlW G ad 0 pf pn u d g l n fn fd ku kd kg kl kn kfn kfd tu td t wa le se v
def LG (rl : Ar) (n : Nat) : Prop := ∀ j, j < n → ∃ x, rl j = nI x ∧ x < 5
/-- a street with its rain and what is found, of the class, beside the reference's rows -/
def SCN (u d : Fm) (g l : Ar) (n : Int32) (fn : Ar) (fd : Fm) (kn wy rw rg rl : Ar) (rn : Int32) (fm fr : Ar) (R : Nat) : Prop :=
  n = nI R ∧ rn = nI R ∧ R ≤ 12 ∧ RG rg R ∧ LG rl R ∧ Eqn 12 g rg ∧ Eqn 12 l rl ∧ KW u kn wy ∧ SR u d rw ∧ LN rw R ∧ WF wy ∧ FN fm ∧ Eqn 6 fn fm ∧ FD fm fd fr
def Rel (T : Nat) (a : Fm) (v : Ar) : CT → Prop := fun (pf, pn, u, d, g, l, n, fn, fd, ku, kd, kg, kl, kn, kfn, kfd, _, _, _, _, _, _, cv) =>
  (∃ N : Nat, pn = nI N ∧ v 0 = nI N ∧ PG (a 0) N ∧ Eqn 20 pf (a 0)) ∧
  (∃ S : Nat, cv 1 = nI S ∧ v 2 = nI S ∧ S ≤ T ∧ (v 7 = -1 ∨ ∃ S2, S2 ≤ S ∧ v 7 = nI S2) ∧
    ((S = 0 ∧ v 1 = 0 ∧ n = 0 ∧ v 3 = 0 ∧ (KW u (a 1) (a 2) ∧ Eqn 12 g (a 4) ∧ Eqn 12 l (a 5)) ∧ SR u d (a 3) ∧ (∀ h, h < 6 → fn h = -1)) ∨
     (0 < S ∧ v 1 = 1 ∧ ∃ R, SCN u d g l n fn fd (a 1) (a 2) (a 3) (a 4) (a 5) (v 3) (a 12) (a 13) R)) ∧
    ((cv 0 = 0 ∧ ¬ v 7 = v 2) ∨ (cv 0 = 1 ∧ v 7 = v 2 ∧ 0 < S ∧ ∃ R, SCN ku kd kg kl kn kfn kfd (a 1) (a 14) (a 15) (a 16) (a 17) (v 8) (a 18) (a 19) R))) ∧
  (∃ c, c ≤ 20 ∧ cv 2 = nI c ∧ v 4 = nI c) ∧ (∃ c, c ≤ 20 ∧ cv 3 = nI c ∧ v 5 = nI c)
/-- the class's object but for its scratch -/
def SameC (c c' : CT) : Prop := ∃ (tu td : Fm) (t wa le se : Ar), c' = (c.1, c.2.1, c.2.2.1, c.2.2.2.1, c.2.2.2.2.1, c.2.2.2.2.2.1, c.2.2.2.2.2.2.1, c.2.2.2.2.2.2.2.1, c.2.2.2.2.2.2.2.2.1, c.2.2.2.2.2.2.2.2.2.1, c.2.2.2.2.2.2.2.2.2.2.1, c.2.2.2.2.2.2.2.2.2.2.2.1, c.2.2.2.2.2.2.2.2.2.2.2.2.1, c.2.2.2.2.2.2.2.2.2.2.2.2.2.1, c.2.2.2.2.2.2.2.2.2.2.2.2.2.2.1, c.2.2.2.2.2.2.2.2.2.2.2.2.2.2.2.1, tu, td, t, wa, le, se, c.2.2.2.2.2.2.2.2.2.2.2.2.2.2.2.2.2.2.2.2.2.2)
def ScV (v v' : Ar) : Prop := ∀ i, i ≠ 6 → v' i = v i
theorem Rel.up {T : Nat} {a : Fm} {v : Ar} {c : CT} (h : Rel T a v c) : Rel (T + 1) a v c := by
  obtain ⟨pf, pn, u, d, g, l, n, fn, fd, ku, kd, kg, kl, kn, kfn, kfd, tu, td, t, wa, le, se, cv⟩ := c
  obtain ⟨h1, ⟨S, s1, s2, s3, s4⟩, h3⟩ := h
  exact ⟨h1, ⟨S, s1, s2, by omega, s4⟩, h3⟩
theorem Rel.same {T : Nat} {a a' : Fm} {v v' : Ar} {c c' : CT} (h : Rel T a v c) (hc : SameC c c') (ha : Sc a a') (hv : ScV v v') : Rel (T + 1) a' v' c' := by
  obtain ⟨pf, pn, u, d, g, l, n, fn, fd, ku, kd, kg, kl, kn, kfn, kfd, tu, td, t, wa, le, se, cv⟩ := c
  obtain ⟨tu', td', t', wa', le', se', rfl⟩ := hc
  have h := h.up
  simp only [Rel] at h ⊢
  rw [ha 0 (by omega), ha 1 (by omega), ha 2 (by omega), ha 3 (by omega), ha 4 (by omega), ha 5 (by omega), ha 12 (by omega), ha 13 (by omega), ha 14 (by omega), ha 15 (by omega), ha 16 (by omega), ha 17 (by omega), ha 18 (by omega), ha 19 (by omega)]
  rw [hv 0 (by omega), hv 1 (by omega), hv 2 (by omega), hv 3 (by omega), hv 4 (by omega), hv 5 (by omega), hv 7 (by omega), hv 8 (by omega)]
  exact h
def Two (G : GG) (MC MM : Mt) (rest : List (Nat × Value)) (T : Nat) (a : Fm) (v : Ar) (c : CT) : Prop := ∃ (r : Int32) (RC : CT → Prop), (∀ ad, J G MC 0 ((0, .ref (ad 0)) :: rest) [] (rlT G ad c) (fun x w => x = some (.int r) ∧ ∃ c', w = rlT G ad c' ∧ RC c')) ∧ (∀ ad hh, J G MM 0 ((0, .ref (ad 0)) :: rest) [] (mdW G ad 0 a v hh) (fun x w => x = some (.int r) ∧ ∃ a' v' hh', w = mdW G ad 0 a' v' hh' ∧ ∀ c', RC c' → Rel (T + 1) a' v' c'))
/-- a call that changes nothing but scratch -/
theorem Two.read {G : GG} {MC MM : Mt} {rest : List (Nat × Value)} {T : Nat} {a : Fm} {v : Ar} {c : CT} (h : Rel T a v c) (r : Int32) (h1 : ∀ ad (Q : Option Value → va_W → Prop), (∀ c', SameC c c' → Q (some (.int r)) (rlT G ad c')) → J G MC 0 ((0, .ref (ad 0)) :: rest) [] (rlT G ad c) Q) (h2 : ∀ ad hh (Q : Option Value → va_W → Prop), (∀ a' v' hh', Sc a a' → ScV v v' → Q (some (.int r)) (mdW G ad 0 a' v' hh')) → J G MM 0 ((0, .ref (ad 0)) :: rest) [] (mdW G ad 0 a v hh) Q) : Two G MC MM rest T a v c :=
  ⟨r, SameC c, fun ad => h1 ad _ (fun c' hc => ⟨rfl, c', rfl, hc⟩), fun ad hh => h2 ad hh _ (fun a' v' hh' ha hv => ⟨rfl, a', v', hh', rfl, fun c' hc => h.same hc ha hv⟩)⟩
theorem Sc.rfl' {a : Fm} : Sc a a := fun _ _ => rfl
theorem ScV.rfl' {v : Ar} : ScV v v := fun _ _ => rfl
/-- hasStreet, isGutter, of both -/
theorem t_hasStreet {G : GG} {ad : Nat → Nat} {pf : Ar} {pn : Int32} {u d : Fm} {g l : Ar} {n : Int32} {fn : Ar} {fd ku kd : Fm} {kg kl : Ar} {kn : Int32} {kfn : Ar} {kfd tu td : Fm} {t wa le se v : Ar} {S : Nat} {Q : Option Value → va_W → Prop} (hS : v 1 = nI S) (hS2 : S < 2 ^ 31) (h : Q (some (.int (if 0 < S then 1 else 0))) (rlW G ad 0 pf pn u d g l n fn fd ku kd kg kl kn kfn kfd tu td t wa le se v)) : J G mX6_hasStreet 0 [(0, .ref (ad 0))] [] (rlW G ad 0 pf pn u d g l n fn fd ku kd kg kl kn kfn kfd tu td t wa le se v) Q := by
  refine sg_X6_hasStreet_0 ?_
  rw [hS]
  by_cases c : 0 < S
  · rw [if_pos c] at h
    exact br_f (nI_nle c hS2) h
  · rw [if_neg c] at h
    have : S = 0 := by omega
    subst this
    exact br_t (le_rfl32 _) h
theorem t_isGutter {G : GG} {ad : Nat → Nat} {pf : Ar} {pn : Int32} {u d : Fm} {g l : Ar} {n : Int32} {fn : Ar} {fd ku kd : Fm} {kg kl : Ar} {kn : Int32} {kfn : Ar} {kfd tu td : Fm} {t wa le se v : Ar} {S : Nat} {x : Int32} {Q : Option Value → va_W → Prop} (hS : v 1 = nI S) (hS2 : S < 2 ^ 31) (h : Q (some (.int (if 0 < S ∧ 0 ≤ x ∧ x ≤ 5 then 1 else 0))) (rlW G ad 0 pf pn u d g l n fn fd ku kd kg kl kn kfn kfd tu td t wa le se v)) : J G mX6_isGutter 0 [(0, .ref (ad 0)), (1, .int x)] [] (rlW G ad 0 pf pn u d g l n fn fd ku kd kg kl kn kfn kfd tu td t wa le se v) Q := by
  refine sg_X6_isGutter_0 (t_hasStreet hS hS2 ⟨_, rfl, rfl, br_ite (fun c => ?_) (fun c => ⟨fun c2 => ?_, fun c2 => ⟨fun c3 => ?_, fun c3 => ?_⟩⟩)⟩)
  · rw [if_neg (fun q => c q.1)] at h; exact h
  · rw [if_neg (fun q => absurd q.2.1 (Int32.not_le.mpr c2))] at h; exact h
  · rw [if_neg (fun q => absurd (Int32.le_trans c3 q.2.2) (by decide))] at h; exact h
  · have e : x ≤ 5 := by
      rw [Int32.le_iff_toInt_le] at c3 ⊢
      have z5 : (5 : Int32).toInt = 5 := by decide
      have z6 : (6 : Int32).toInt = 6 := by decide
      omega
    rw [if_pos ⟨c, Int32.not_lt.mp c2, e⟩] at h; exact h
theorem gut {x : Int32} (h0 : 0 ≤ x) (h5 : x ≤ 5) : ∃ g, g < 6 ∧ x = nI g := by
  obtain ⟨j, hj, e⟩ := nI_of2 (n := 5) (M := 5) (by decide) (Int32.not_lt.mpr h0) h5
  exact ⟨j, by omega, e⟩
theorem t_isDrop {G : GG} {ad : Nat → Nat} {pf : Ar} {pn : Int32} {u d : Fm} {g l : Ar} {n : Int32} {fn : Ar} {fd ku kd : Fm} {kg kl : Ar} {kn : Int32} {kfn : Ar} {kfd tu td : Fm} {t wa le se v : Ar} {x : Int32} {Q : Option Value → va_W → Prop} (h : Q (some (.int (if 0 ≤ x ∧ x < n then 1 else 0))) (rlW G ad 0 pf pn u d g l n fn fd ku kd kg kl kn kfn kfd tu td t wa le se v)) : J G mX6_isDrop 0 [(0, .ref (ad 0)), (1, .int x)] [] (rlW G ad 0 pf pn u d g l n fn fd ku kd kg kl kn kfn kfd tu td t wa le se v) Q := by
  refine sg_X6_isDrop_0 ⟨fun c2 => ?_, fun c2 => ⟨fun c3 => ?_, fun c3 => ?_⟩⟩
  · rw [if_neg (fun q => absurd q.1 (Int32.not_le.mpr c2))] at h; exact h
  · rw [if_neg (fun q => absurd q.2 (Int32.not_lt.mpr c3))] at h; exact h
  · rw [if_pos ⟨Int32.not_lt.mp c2, Int32.not_le.mp c3⟩] at h; exact h
