/-! the reference: what is found, kinds and letters as bits -/
def Sc (a a' : Fm) : Prop := ∀ i, (i < 6 ∨ 12 ≤ i) → a' i = a i
def inB (f fn fr : Ar) (g j : Nat) : Bool := fitM f fn fr g && (decide (f (17 * g + 4) = fn g) && (List.range j).all (fun j => decide (f (17 * g + 5 + j) = fr (8 * g + j))))
theorem inB_succ {f fn fr : Ar} {g j : Nat} : inB f fn fr g (j + 1) = (inB f fn fr g j && decide (f (17 * g + 5 + j) = fr (8 * g + j))) := by
  simp only [inB, List.range_succ, List.all_append, List.all_cons, List.all_nil, Bool.and_true]
  cases fitM f fn fr g <;> cases decide (f (17 * g + 4) = fn g) <;> simp
theorem e8 (g k : Nat) : (8 : Int32) * nI g + nI k = nI (8 * g + k) := by
  have : (8 : Int32) * nI g = nI (8 * g) := by rw [← pk_mul]; rfl
  rw [this, nI_add]
theorem narB (b : Bool) : narrow .boolean (.int (if b = true then 1 else 0)) = .int (if b = true then 1 else 0) := by cases b <;> rfl
theorem or0 (x : Int32) : x ||| 0 = x := by simp
theorem t_isFound {G : GG} {ad : Nat → Nat} {a : Fm} {v : Ar} {hh : Int64} {n : Nat} {Q : Option Value → va_W → Prop} (hn : v 3 = nI n) (hn12 : n ≤ 12) (hg : RG (a 4) n) (hW : WF (a 8)) (hF : FN (a 12))
    (h : Q (some (.int (if fitM (fallF (a 7) (a 8) (a 4) (a 9) (dryF (a 6)) n) (a 12) (a 13) 6 = true then 1 else 0))) (mdW G ad 0 (va_up a 6 (fallF (a 7) (a 8) (a 4) (a 9) (dryF (a 6)) n)) v hh)) : J G mX7_isFound 0 [(0, .ref (ad 0))] [] (mdW G ad 0 a v hh) Q := by
  refine sg_X7_isFound_0 (t_fallsAgain hn hn12 hg hW ⟨_, rfl, rfl, ?_⟩)
  generalize fallF (a 7) (a 8) (a 4) (a 9) (dryF (a 6)) n = F at h ⊢
  have H : ∀ g, g ≤ 6 → J G mX7_isFound 8 [(0, .ref (ad 0)), (1, .int (if fitM F (a 12) (a 13) g = true then 1 else 0)), (2, .int (nI g))] [] (mdW G ad 0 (va_up a 6 F) v hh) Q := by
    refine forDn ?_ (fun g hg ih => ?_)
    · exact sg_X7_isFound_8 (br_t (le_rfl32 _) ⟨narB _, h⟩)
    · refine sg_X7_isFound_8 (br_f (ge6 hg) ⟨vp_in_nI hg (by omega), ?_⟩)
      have e12 : (va_up a 6 F) 12 = a 12 := rfl
      have e6 : (va_up a 6 F) 6 = F := rfl
      rw [e12, e6, nI_clamp (by omega), e17_4, nI_clamp (by omega), ← nI_succ]
      refine ⟨fun c => ?_, fun c => ?_⟩
      · have e : fitM F (a 12) (a 13) (g + 1) = fitM F (a 12) (a 13) g := by simp [fitM, c]
        rw [e] at ih
        exact ih
      · rcases hF g hg with q | ⟨m, hm, hm8⟩
        · exact absurd q c
        · have IN : ∀ j, j ≤ m → J G mX7_isFound 56 [(0, .ref (ad 0)), (1, .int (if inB F (a 12) (a 13) g j = true then 1 else 0)), (2, .int (nI g)), (3, .int (nI j))] [] (mdW G ad 0 (va_up a 6 F) v hh) Q := by
            refine forDn ?_ (fun j hj ih2 => ?_)
            · refine sg_X7_isFound_56 ⟨vp_in_nI hg (by omega), ?_⟩
              rw [e12, nI_clamp (by omega), hm, ← nI_succ]
              refine br_t (le_rfl32 _) ?_
              have e : fitM F (a 12) (a 13) (g + 1) = inB F (a 12) (a 13) g m := by
                rw [hm] at c
                simp [fitM, inB, hm, c, nI_clamp (show m < 2 ^ 31 by omega)]
              rw [e] at ih
              exact ih
            · refine sg_X7_isFound_56 ⟨vp_in_nI hg (by omega), ?_⟩
              have e13 : (va_up a 6 F) 13 = a 13 := rfl
              rw [e12, e6, e13, nI_clamp (by omega), hm, e17_5, nI_add, nI_clamp (by omega), e8, nI_clamp (by omega), ← nI_succ j]
              refine br_f (nI_ge hj (by omega)) ?_
              rw [inB_succ] at ih2
              refine ⟨fun z => ?_, fun z => ⟨vp_in_nI (by omega) (by omega), vp_in_nI (by omega) (by omega), fun z2 => ?_, fun z2 => ?_⟩⟩
              · have eb : inB F (a 12) (a 13) g j = false := by
                  cases hb : inB F (a 12) (a 13) g j with
                  | false => rfl
                  | true => rw [hb] at z; exact absurd z (by decide)
                rw [eb] at ih2
                simpa using ih2
              · have eb : inB F (a 12) (a 13) g j = true := by
                  cases hb : inB F (a 12) (a 13) g j with
                  | true => rfl
                  | false => rw [hb] at z; exact absurd rfl z
                rw [eb] at ih2
                simpa [z2] using ih2
              · have eb : inB F (a 12) (a 13) g j = true := by
                  cases hb : inB F (a 12) (a 13) g j with
                  | true => rfl
                  | false => rw [hb] at z; exact absurd rfl z
                rw [eb] at ih2
                simpa [z2] using ih2
          have IN0 := IN 0 (Nat.zero_le _)
          simp only [inB, List.range_zero, List.all_nil, Bool.and_true] at IN0
          refine ⟨fun z => ?_, fun z => ⟨vp_in_nI (by omega) (by omega), fun z2 => ?_, fun z2 => ?_⟩⟩
          · have eb : fitM F (a 12) (a 13) g = false := by
              cases hb : fitM F (a 12) (a 13) g with
              | false => rfl
              | true => rw [hb] at z; exact absurd z (by decide)
            rw [eb] at IN0
            exact IN0
          · rw [decide_eq_false z2, Bool.and_false] at IN0
            exact IN0
          · have eb : fitM F (a 12) (a 13) g = true := by
              cases hb : fitM F (a 12) (a 13) g with
              | true => rfl
              | false => rw [hb] at z; exact absurd rfl z
            rw [eb, decide_eq_true z2] at IN0
            exact IN0
  exact H 0 (Nat.zero_le _)
def bitS (p : Nat → Bool) : Nat → Nat
  | 0 => 0
  | k + 1 => bitS p k + (if p k = true then 2 ^ k else 0)
theorem bitS_lt (p : Nat → Bool) : ∀ k, bitS p k < 2 ^ k
  | 0 => by simp [bitS]
  | k + 1 => by
    have := bitS_lt p k
    simp only [bitS, Nat.pow_succ]
    split <;> omega
theorem bitS_cong {p q : Nat → Bool} : ∀ {k : Nat}, (∀ j, j < k → p j = q j) → bitS p k = bitS q k
  | 0, _ => rfl
  | k + 1, h => by simp only [bitS]; rw [bitS_cong (fun j hj => h j (by omega)), h k (by omega)]
def kdP (a : Fm) (n g kd : Nat) : Bool := fitM (FALL (upd (a 1) g (nI kd)) (a 2) (a 4) (a 5) n) (a 12) (a 13) 6
def ltP (a : Fm) (n j x : Nat) : Bool := fitM (FALL (a 1) (a 2) (a 4) (upd (a 5) j (nI x)) n) (a 12) (a 13) 6
theorem WF.cong {w w' : Ar} (h : WF w) (e : Eqn 6 w w') : WF w' := fun g hg => by rw [← e g hg]; exact h g hg
/-- what the reference's rows must be for its questions -/
def MOK (a : Fm) (v : Ar) (n : Nat) : Prop := v 3 = nI n ∧ n ≤ 12 ∧ RG (a 4) n ∧ WF (a 2) ∧ FN (a 12)
theorem t_kindBits {G : GG} {ad : Nat → Nat} {a : Fm} {v : Ar} {hh : Int64} {n g : Nat} {Q : Option Value → va_W → Prop} (hM : MOK a v n) (hg6 : g < 6) (h : ∀ a', Sc a a' → Q (some (.int (nI (bitS (kdP a n g) 5)))) (mdW G ad 0 a' v hh)) : J G mX7_kindBits 0 [(0, .ref (ad 0)), (1, .int (nI g))] [] (mdW G ad 0 a v hh) Q := by
  obtain ⟨hn, hn12, hg, hW, hF⟩ := hM
  refine sg_X7_kindBits_0 (t_asItIs ⟨_, rfl, rfl, ?_⟩)
  have H : ∀ k, k ≤ 5 → ∀ b : Fm, (∀ i, i ≠ 6 → i ≠ 7 → b i = asI a i) → (∀ h, h < 6 → h ≠ g → b 7 h = a 1 h) → J G mX7_kindBits 8 [(0, .ref (ad 0)), (1, .int (nI g)), (2, .int (nI (bitS (kdP a n g) k))), (3, .int (nI k))] [] (mdW G ad 0 b v hh) Q := by
    refine forDn ?_ (fun k hk ih => ?_)
    · intro b h1 h2
      refine sg_X7_kindBits_8 (br_t (le_rfl32 _) (h b (fun i hi => ?_)))
      rw [h1 i (by omega) (by omega)]
      simp only [asI, va_up]
      rw [if_neg (by omega), if_neg (by omega), if_neg (by omega)]
    · intro b h1 h2
      have b4 : b 4 = a 4 := h1 4 (by omega) (by omega)
      have b12 : b 12 = a 12 := h1 12 (by omega) (by omega)
      have b13 : b 13 = a 13 := h1 13 (by omega) (by omega)
      have b8 : Eqn 6 (a 2) (b 8) := fun i hi => by rw [h1 8 (by omega) (by omega)]; simp [asI, va_up, cpn, hi]
      have b9 : Eqn 12 (b 9) (a 5) := fun i hi => by rw [h1 9 (by omega) (by omega)]; simp [asI, va_up, cpn, hi]
      refine sg_X7_kindBits_8 (br_f (ge5 hk) ⟨vp_in_nI hg6 (by omega), ?_⟩)
      rw [nI_clamp (by omega)]
      refine t_isFound hn hn12 (show RG (b 4) n by rw [b4]; exact hg) (show WF (b 8) from hW.cong b8) (show FN (b 12) by rw [b12]; exact hF) ⟨_, _, rfl, rfl, ?_⟩
      have ep : fitM (fallF ((va_up b 7 (upd (b 7) g (nI k))) 7) ((va_up b 7 (upd (b 7) g (nI k))) 8) ((va_up b 7 (upd (b 7) g (nI k))) 4) ((va_up b 7 (upd (b 7) g (nI k))) 9) (dryF ((va_up b 7 (upd (b 7) g (nI k))) 6)) n) ((va_up b 7 (upd (b 7) g (nI k))) 12) ((va_up b 7 (upd (b 7) g (nI k))) 13) 6 = kdP a n g k := by
        show fitM (fallF (upd (b 7) g (nI k)) (b 8) (b 4) (b 9) (dryF (b 6)) n) (b 12) (b 13) 6 = _
        rw [b12, b13, b4]
        refine fitM_cong hF ?_ 6 (Nat.le_refl _)
        refine (fallF_cong (fun i hi => ?_) (fun i hi => b8 i hi) hW (dryF_DRY (f := b 6)).symm n hg (fun _ _ => rfl) (fun i hi => (b9 i (by omega)).symm)).symm
        simp only [upd]
        by_cases e : i = g
        · rw [if_pos e, if_pos e]
        · rw [if_neg e, if_neg e, h2 i hi e]
      rw [ep, ← nI_succ]
      have nxt : ∀ F : Ar, J G mX7_kindBits 8 [(0, .ref (ad 0)), (1, .int (nI g)), (2, .int (nI (bitS (kdP a n g) (k + 1)))), (3, .int (nI (k + 1)))] [] (mdW G ad 0 (va_up (va_up b 7 (upd (b 7) g (nI k))) 6 F) v hh) Q := fun F => by
        refine ih _ (fun i hi hj => ?_) (fun i hi hne => ?_)
        · simp only [va_up]; rw [if_neg hi, if_neg hj]; exact h1 i hi hj
        · show upd (b 7) g (nI k) i = _
          rw [upd_at hne]; exact h2 i hi hne
      refine br_ite (fun z => ?_) (fun z => ?_)
      · have := nxt (fallF ((va_up b 7 (upd (b 7) g (nI k))) 7) ((va_up b 7 (upd (b 7) g (nI k))) 8) ((va_up b 7 (upd (b 7) g (nI k))) 4) ((va_up b 7 (upd (b 7) g (nI k))) 9) (dryF ((va_up b 7 (upd (b 7) g (nI k))) 6)) n)
        simp only [bitS] at this
        rw [if_neg z, Nat.add_zero] at this
        rw [or0]
        exact this
      · have := nxt (fallF ((va_up b 7 (upd (b 7) g (nI k))) 7) ((va_up b 7 (upd (b 7) g (nI k))) 8) ((va_up b 7 (upd (b 7) g (nI k))) 4) ((va_up b 7 (upd (b 7) g (nI k))) 9) (dryF ((va_up b 7 (upd (b 7) g (nI k))) 6)) n)
        simp only [bitS] at this
        rw [if_pos z] at this
        rw [orbit k (by omega) _ (bitS_lt _ k)]
        exact this
  refine H 0 (Nat.zero_le _) (asI a) (fun _ _ _ => rfl) (fun i hi _ => ?_)
  simp [asI, va_up, cpn, hi]
theorem t_letterBits {G : GG} {ad : Nat → Nat} {a : Fm} {v : Ar} {hh : Int64} {n d : Nat} {Q : Option Value → va_W → Prop} (hM : MOK a v n) (hd : d < n) (h : ∀ a', Sc a a' → Q (some (.int (nI (bitS (ltP a n d) 5)))) (mdW G ad 0 a' v hh)) : J G mX7_letterBits 0 [(0, .ref (ad 0)), (1, .int (nI d))] [] (mdW G ad 0 a v hh) Q := by
  obtain ⟨hn, hn12, hg, hW, hF⟩ := hM
  refine sg_X7_letterBits_0 (t_asItIs ⟨_, rfl, rfl, ?_⟩)
  have H : ∀ k, k ≤ 5 → ∀ b : Fm, (∀ i, i ≠ 6 → i ≠ 9 → b i = asI a i) → (∀ h, h < 12 → h ≠ d → b 9 h = a 5 h) → J G mX7_letterBits 8 [(0, .ref (ad 0)), (1, .int (nI d)), (2, .int (nI (bitS (ltP a n d) k))), (3, .int (nI k))] [] (mdW G ad 0 b v hh) Q := by
    refine forDn ?_ (fun k hk ih => ?_)
    · intro b h1 h2
      refine sg_X7_letterBits_8 (br_t (le_rfl32 _) (h b (fun i hi => ?_)))
      rw [h1 i (by omega) (by omega)]
      simp only [asI, va_up]
      rw [if_neg (by omega), if_neg (by omega), if_neg (by omega)]
    · intro b h1 h2
      have b4 : b 4 = a 4 := h1 4 (by omega) (by omega)
      have b12 : b 12 = a 12 := h1 12 (by omega) (by omega)
      have b13 : b 13 = a 13 := h1 13 (by omega) (by omega)
      have b8 : Eqn 6 (a 2) (b 8) := fun i hi => by rw [h1 8 (by omega) (by omega)]; simp [asI, va_up, cpn, hi]
      have b7 : Eqn 6 (b 7) (a 1) := fun i hi => by rw [h1 7 (by omega) (by omega)]; simp [asI, va_up, cpn, hi]
      refine sg_X7_letterBits_8 (br_f (ge5 hk) ⟨vp_in_nI (by omega) (by omega), ?_⟩)
      rw [nI_clamp (by omega)]
      refine t_isFound hn hn12 (show RG (b 4) n by rw [b4]; exact hg) (show WF (b 8) from hW.cong b8) (show FN (b 12) by rw [b12]; exact hF) ⟨_, _, rfl, rfl, ?_⟩
      have ep : fitM (fallF ((va_up b 9 (upd (b 9) d (nI k))) 7) ((va_up b 9 (upd (b 9) d (nI k))) 8) ((va_up b 9 (upd (b 9) d (nI k))) 4) ((va_up b 9 (upd (b 9) d (nI k))) 9) (dryF ((va_up b 9 (upd (b 9) d (nI k))) 6)) n) ((va_up b 9 (upd (b 9) d (nI k))) 12) ((va_up b 9 (upd (b 9) d (nI k))) 13) 6 = ltP a n d k := by
        show fitM (fallF (b 7) (b 8) (b 4) (upd (b 9) d (nI k)) (dryF (b 6)) n) (b 12) (b 13) 6 = _
        rw [b12, b13, b4]
        refine fitM_cong hF ?_ 6 (Nat.le_refl _)
        refine (fallF_cong (fun i hi => (b7 i hi).symm) (fun i hi => b8 i hi) hW (dryF_DRY (f := b 6)).symm n hg (fun _ _ => rfl) (fun i hi => ?_)).symm
        simp only [upd]
        by_cases e : i = d
        · rw [if_pos e, if_pos e]
        · rw [if_neg e, if_neg e, h2 i (by omega) e]
      rw [ep, ← nI_succ]
      have nxt : ∀ F : Ar, J G mX7_letterBits 8 [(0, .ref (ad 0)), (1, .int (nI d)), (2, .int (nI (bitS (ltP a n d) (k + 1)))), (3, .int (nI (k + 1)))] [] (mdW G ad 0 (va_up (va_up b 9 (upd (b 9) d (nI k))) 6 F) v hh) Q := fun F => by
        refine ih _ (fun i hi hj => ?_) (fun i hi hne => ?_)
        · simp only [va_up]; rw [if_neg hi, if_neg hj]; exact h1 i hi hj
        · show upd (b 9) d (nI k) i = _
          rw [upd_at hne]; exact h2 i hi hne
      refine br_ite (fun z => ?_) (fun z => ?_)
      · have := nxt (fallF ((va_up b 9 (upd (b 9) d (nI k))) 7) ((va_up b 9 (upd (b 9) d (nI k))) 8) ((va_up b 9 (upd (b 9) d (nI k))) 4) ((va_up b 9 (upd (b 9) d (nI k))) 9) (dryF ((va_up b 9 (upd (b 9) d (nI k))) 6)) n)
        simp only [bitS] at this
        rw [if_neg z, Nat.add_zero] at this
        rw [or0]
        exact this
      · have := nxt (fallF ((va_up b 9 (upd (b 9) d (nI k))) 7) ((va_up b 9 (upd (b 9) d (nI k))) 8) ((va_up b 9 (upd (b 9) d (nI k))) 4) ((va_up b 9 (upd (b 9) d (nI k))) 9) (dryF ((va_up b 9 (upd (b 9) d (nI k))) 6)) n)
        simp only [bitS] at this
        rw [if_pos z] at this
        rw [orbit k (by omega) _ (bitS_lt _ k)]
        exact this
  refine H 0 (Nat.zero_le _) (asI a) (fun _ _ _ => rfl) (fun i hi _ => ?_)
  simp [asI, va_up, cpn, hi]
