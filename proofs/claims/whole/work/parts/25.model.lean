/-! the reference's own small methods -/
theorem t_kindBy {G : GG} {x : Int32} {Q : Option Value → va_W → Prop} (h : Q (some (.int (kbC x))) []) : J G mX7_kindBy 0 [(0, .int x)] [] ([] : va_W) Q := by
  simp only [kbC] at h
  refine sg_X7_kindBy_0 (ad := fun q => q) ⟨fun c0 => ⟨fun c1 => ⟨fun c2 => ⟨fun c3 => ⟨fun c4 => ?_, fun c4 => ?_⟩, fun c3 => ?_⟩, fun c2 => ?_⟩, fun c1 => ?_⟩, fun c0 => ?_⟩
  · rw [if_neg c0, if_neg c1, if_neg c2, if_neg c3, if_neg c4] at h; exact h
  · rw [if_neg c0, if_neg c1, if_neg c2, if_neg c3, if_pos c4] at h; exact h
  · rw [if_neg c0, if_neg c1, if_neg c2, if_pos c3] at h; exact h
  · rw [if_neg c0, if_neg c1, if_pos c2] at h; exact h
  · rw [if_neg c0, if_pos c1] at h; exact h
  · rw [if_pos c0] at h; exact h
theorem t_isGood {G : GG} {p : Ar} {k c : Nat} {Q : Option Value → va_W → Prop} (hk : k < 20) (hc : p k = nI c) (hc2 : c ≤ 126) (h : Q (some (.int (if okS p k = true then 1 else 0))) []) : J G mX7_isGood 0 [(0, .int (nI k)), (1, .int (p k))] [] ([] : va_W) Q := by
  refine sg_X7_isGood_0 (ad := fun q => q) ?_
  rw [rem3 (by omega), div3 (by omega)]
  by_cases h17 : k < 17
  · have e17 : okS p k = (if k % 3 = 0 then decide (¬ kbC (p k) = -1) else if k % 3 = 1 then (decide (p k = 45) || (decide (k / 3 + 49 ≤ (p k).toNatClampNeg) && decide ((p k).toNatClampNeg ≤ 53))) else decide (p k = 44)) := by simp [okS, h17]
    rw [e17] at h
    refine br_t (nI_le (b := 16) (by omega) (by omega)) ⟨fun m0 => ⟨fun m1 => ⟨fun q => ?_, fun q => ?_⟩, fun m1 => ⟨fun q => ?_, fun q => ?_⟩⟩, fun m0 => ?_⟩
    · rw [if_neg (show ¬ k % 3 = 0 from fun z => m0 (by rw [z]; rfl)), if_neg (show ¬ k % 3 = 1 from fun z => m1 (by rw [z]; rfl))] at h
      simpa [q] using h
    · rw [if_neg (show ¬ k % 3 = 0 from fun z => m0 (by rw [z]; rfl)), if_neg (show ¬ k % 3 = 1 from fun z => m1 (by rw [z]; rfl))] at h
      simpa [q] using h
    · have m1' : k % 3 = 1 := (nI_eq (b := 1) (by omega) (by omega)).mp m1
      rw [if_neg (show ¬ k % 3 = 0 by omega), if_pos m1'] at h
      simpa [q] using h
    · have m1' : k % 3 = 1 := (nI_eq (b := 1) (by omega) (by omega)).mp m1
      rw [if_neg (show ¬ k % 3 = 0 by omega), if_pos m1'] at h
      rw [← nI_succ]
      refine t_in (nI (k / 3 + 1)) 5 rfl (by decide) ⟨_, rfl, rfl, ?_⟩
      have e : (nI (k / 3 + 1) ≤ p k - 48 ∧ p k - 48 ≤ 5) ↔ (decide (p k = 45) || (decide (k / 3 + 49 ≤ (p k).toNatClampNeg) && decide ((p k).toNatClampNeg ≤ 53))) = true := by
        rw [hc, Int32.le_iff_toInt_le, Int32.le_iff_toInt_le, sub48 hc2, nI_toInt (by omega), nI_clamp (by omega)]
        have z5 : (5 : Int32).toInt = 5 := by decide
        rw [z5]
        rw [hc] at q
        simp [q]
        omega
      exact br_ite (fun z => by rw [if_neg ((not_congr e).mp z)] at h; exact h) (fun z => by rw [if_pos (e.mp z)] at h; exact h)
    · have m0' : k % 3 = 0 := (nI_eq (b := 0) (by omega) (by omega)).mp m0
      rw [if_pos m0'] at h
      refine t_kindBy ⟨_, rfl, rfl, fun q => ?_, fun q => ?_⟩
      · simpa [q] using h
      · simpa [q] using h
  · refine br_f (nI_ge (a := 16) (by omega) (by omega)) ?_
    have e : okS p k = false := by simp [okS, h17]
    rw [e] at h
    exact h
theorem t_faultOf {G : GG} {ad : Nat → Nat} {a : Fm} {v : Ar} {hh : Int64} {n : Nat} {sort : Int32} {Q : Option Value → va_W → Prop} (hn : v 0 = nI n) (hp : PG (a 0) n) (h : Q (some (.int (nI (flt (okP sort (a 0)) n 0)))) (mdW G ad 0 a v hh)) : J G mX7_faultOf 0 [(0, .ref (ad 0)), (1, .int sort)] [] (mdW G ad 0 a v hh) Q := by
  refine sg_X7_faultOf_0 ?_
  have hn20 := hp.1
  have H : ∀ k, k ≤ n → (flt (okP sort (a 0)) (n - k) k = flt (okP sort (a 0)) n 0 → J G mX7_faultOf 2 [(0, .ref (ad 0)), (1, .int sort), (2, .int (nI k))] [] (mdW G ad 0 a v hh) Q) := by
    refine forDn ?_ (fun k hk ih => ?_)
    · intro e
      refine sg_X7_faultOf_2 ?_
      rw [hn]
      refine br_t (le_rfl32 _) ?_
      rw [Nat.sub_self] at e
      rw [← e] at h
      exact h
    · intro e
      obtain ⟨m, hm⟩ : ∃ m, n - k = m + 1 := ⟨n - k - 1, by omega⟩
      rw [hm] at e
      have hm2 : n - (k + 1) = m := by omega
      rw [hm2] at ih
      simp only [flt] at e
      obtain ⟨c, hc, hc1, hc2⟩ := hp.2 k hk
      refine sg_X7_faultOf_2 ?_
      rw [hn]
      refine br_f (nI_ge hk (by omega)) ?_
      rw [nI_clamp (by omega), ← nI_succ]
      refine ⟨fun s0 => ?_, fun s0 => ⟨vp_in_nI (by omega) (by omega), ?_⟩⟩
      · have eo : okP sort (a 0) k = okW (a 0) k := by simp [okP, s0]
        rw [eo] at e
        by_cases h8 : k < 8
        · refine br_f (ge8 h8) ⟨vp_in_nI (by omega) (by omega), ?_⟩
          refine t_in 97 101 (by decide) (by decide) ⟨_, rfl, rfl, ?_⟩
          have ew : (97 ≤ a 0 k ∧ a 0 k ≤ 101) ↔ okW (a 0) k = true := by
            simp only [okW, hc]
            rw [nI_clamp (by omega), show (97 : Int32) = nI 97 from rfl, show (101 : Int32) = nI 101 from rfl, nI_leI (by omega) (by omega), nI_leI (by omega) (by omega)]
            simp [h8]
          exact br_ite (fun z => by rw [if_neg ((not_congr ew).mp z)] at e; rw [← e] at h; exact h) (fun z => by rw [if_pos (ew.mp z)] at e; exact ih e)
        · refine br_t (nI_le (a := 8) (by omega) (by omega)) ?_
          have ew : okW (a 0) k = false := by simp [okW, h8]
          rw [ew, if_neg (by decide)] at e
          rw [← e] at h
          exact h
      · have eo : okP sort (a 0) k = okS (a 0) k := by simp [okP, s0]
        rw [eo] at e
        refine t_isGood (by omega) hc hc2 ⟨_, rfl, rfl, br_ite (fun z => ?_) (fun z => ?_)⟩
        · rw [if_neg z] at e; rw [← e] at h; exact h
        · rw [if_pos z] at e; exact ih e
  exact H 0 (Nat.zero_le _) rfl
theorem t_isPageWord {G : GG} {ad : Nat → Nat} {a : Fm} {v : Ar} {hh : Int64} {n : Nat} {Q : Option Value → va_W → Prop} (hn : v 0 = nI n) (hp : PG (a 0) n) (h : Q (some (.int (if isWB (a 0) n = true then 1 else 0))) (mdW G ad 0 a v hh)) : J G mX7_isPageWord 0 [(0, .ref (ad 0))] [] (mdW G ad 0 a v hh) Q := by
  have hn20 := hp.1
  refine sg_X7_isPageWord_0 ?_
  rw [hn]
  by_cases c : n = 0
  · subst c
    refine br_t (le_rfl32 _) ?_
    have e : isWB (a 0) 0 = false := by simp [isWB]
    rw [e] at h
    exact h
  · refine br_f (nI_nle (by omega) (by omega)) ?_
    refine t_faultOf hn hp ⟨_, rfl, rfl, ?_⟩
    rw [okP_1]
    have hl := flt_le (okW (a 0)) n 0
    have e : (nI (flt (okW (a 0)) n 0) = nI n) ↔ isWB (a 0) n = true := by
      rw [nI_eq (by omega) (by omega)]
      simp [isWB, Nat.pos_of_ne_zero c]
    refine ⟨fun q => ?_, fun q => ?_⟩
    · rw [if_neg ((not_congr e).mp q)] at h; exact h
    · rw [if_pos (e.mp q)] at h; exact h
theorem t_outs {G : GG} {ad : Nat → Nat} {a : Fm} {v : Ar} {hh : Int64} {Q : Option Value → va_W → Prop} (h : Q (some (.int (if v 1 = 0 then 0 else cnI (fun g => decide (a 2 g = -1)) 6))) (mdW G ad 0 a v hh)) : J G mX7_outs 0 [(0, .ref (ad 0))] [] (mdW G ad 0 a v hh) Q := by
  refine sg_X7_outs_0 ?_
  by_cases c : v 1 = 0
  · rw [if_pos c] at h
    exact sg_X7_outs_4 (br_f (by decide) (br_t c h))
  · rw [if_neg c] at h
    have H : ∀ g, g ≤ 6 → J G mX7_outs 4 [(0, .ref (ad 0)), (1, .int (cnI (fun g => decide (a 2 g = -1)) g)), (2, .int (nI g))] [] (mdW G ad 0 a v hh) Q := by
      refine forDn ?_ (fun g hg ih => ?_)
      · exact sg_X7_outs_4 (br_t (le_rfl32 _) h)
      · refine sg_X7_outs_4 (br_f (ge6 hg) (br_f c ⟨vp_in_nI hg (by omega), ?_⟩))
        rw [nI_clamp (by omega), ← nI_succ]
        simp only [cnI] at ih
        exact ⟨fun q => by simpa [q] using ih, fun q => by simpa [q] using ih⟩
    exact H 0 (Nat.zero_le _)
theorem t_founds {G : GG} {ad : Nat → Nat} {a : Fm} {v : Ar} {hh : Int64} {Q : Option Value → va_W → Prop} (h : Q (some (.int (if v 1 = 0 then 0 else cnI (fun g => decide (¬ a 12 g = -1)) 6))) (mdW G ad 0 a v hh)) : J G mX7_founds 0 [(0, .ref (ad 0))] [] (mdW G ad 0 a v hh) Q := by
  refine sg_X7_founds_0 ?_
  by_cases c : v 1 = 0
  · rw [if_pos c] at h
    exact sg_X7_founds_4 (br_f (by decide) (br_t c h))
  · rw [if_neg c] at h
    have H : ∀ g, g ≤ 6 → J G mX7_founds 4 [(0, .ref (ad 0)), (1, .int (cnI (fun g => decide (¬ a 12 g = -1)) g)), (2, .int (nI g))] [] (mdW G ad 0 a v hh) Q := by
      refine forDn ?_ (fun g hg ih => ?_)
      · exact sg_X7_founds_4 (br_t (le_rfl32 _) h)
      · refine sg_X7_founds_4 (br_f (ge6 hg) (br_f c ⟨vp_in_nI hg (by omega), ?_⟩))
        rw [nI_clamp (by omega), ← nI_succ]
        simp only [cnI] at ih
        exact ⟨fun q => by simpa [q] using ih, fun q => by simpa [q] using ih⟩
    exact H 0 (Nat.zero_le _)
theorem t_mIsGutter {G : GG} {ad : Nat → Nat} {a : Fm} {v : Ar} {hh : Int64} {x : Int32} {Q : Option Value → va_W → Prop} (h : Q (some (.int (if ¬ v 1 = 0 ∧ 0 ≤ x ∧ x ≤ 5 then 1 else 0))) (mdW G ad 0 a v hh)) : J G mX7_isGutter 0 [(0, .ref (ad 0)), (1, .int x)] [] (mdW G ad 0 a v hh) Q := by
  refine sg_X7_isGutter_0 ⟨fun c => ?_, fun c => ?_⟩
  · rw [if_neg (fun q => q.1 c)] at h; exact h
  · refine t_in 0 5 (by decide) (by decide) ⟨_, rfl, rfl, br_ite (fun q => ?_) (fun q => ?_)⟩
    · rw [if_neg (fun z => q z.2)] at h; exact h
    · rw [if_pos ⟨c, q⟩] at h; exact h
def telM (a : Fm) (g : Nat) (x : Int32) : Int32 := if x = 0 then a 1 g else if x = 1 then a 2 g else if x = 2 then a 3 (17 * g) else if x = 3 then a 3 (17 * g + 1) else if x = 4 then a 3 (17 * g + 4) else if x = 5 then a 3 (17 * g + 3) else -102
theorem t_tell {G : GG} {ad : Nat → Nat} {a : Fm} {v : Ar} {hh : Int64} {g : Nat} {x : Int32} {Q : Option Value → va_W → Prop} (hg : g < 6) (h : Q (some (.int (telM a g x))) (mdW G ad 0 a v hh)) : J G mX7_tell 0 [(0, .ref (ad 0)), (1, .int (nI g)), (2, .int x)] [] (mdW G ad 0 a v hh) Q := by
  refine sg_X7_tell_0 ?_
  rw [e17_1, e17_3, e17_4, e17_0, nI_clamp (by omega), nI_clamp (by omega), nI_clamp (by omega), nI_clamp (by omega), nI_clamp (by omega)]
  simp only [telM] at h
  refine ⟨fun c => ⟨vp_in_nI (by omega) (by omega), ?_⟩, fun c => ⟨vp_in_nI (by omega) (by omega), ?_⟩, fun c => ⟨vp_in_nI (by omega) (by omega), ?_⟩, fun c => ⟨vp_in_nI (by omega) (by omega), ?_⟩, fun c => ⟨vp_in_nI (by omega) (by omega), ?_⟩, fun c => ⟨vp_in_nI (by omega) (by omega), ?_⟩, fun c => ?_⟩
  · subst c; exact h
  · subst c; exact h
  · subst c; exact h
  · subst c; exact h
  · subst c; exact h
  · subst c; exact h
  · obtain ⟨c0, c1, c2, c3, c4, c5⟩ := c
    rw [if_neg c0, if_neg c1, if_neg c2, if_neg c3, if_neg c4, if_neg c5] at h
    exact h
/-- the scratch rows as they are laid -/
def asI (a : Fm) : Fm := va_up (va_up (va_up a 7 (cpn 6 (a 1) (a 7))) 8 (cpn 6 (a 2) (a 8))) 9 (cpn 12 (a 5) (a 9))
theorem t_asItIs {G : GG} {ad : Nat → Nat} {a : Fm} {v : Ar} {hh : Int64} {Q : Option Value → va_W → Prop} (h : Q none (mdW G ad 0 (asI a) v hh)) : J G mX7_asItIs 0 [(0, .ref (ad 0))] [] (mdW G ad 0 a v hh) Q := by
  refine sg_X7_asItIs_0 ?_
  refine t_copy (ad := pk ad [2, 8]) (by decide) ⟨_, rfl, rfl, ?_⟩
  refine t_copy (ad := pk ad [3, 9]) (by decide) ⟨_, rfl, rfl, ?_⟩
  refine t_copy (ad := pk ad [6, 10]) (by decide) ⟨_, rfl, rfl, ?_⟩
  exact h
theorem t_fallsAgain {G : GG} {ad : Nat → Nat} {a : Fm} {v : Ar} {hh : Int64} {n : Nat} {Q : Option Value → va_W → Prop} (hn : v 3 = nI n) (hn12 : n ≤ 12) (hg : RG (a 4) n) (hW : WF (a 8)) (h : Q none (mdW G ad 0 (va_up a 6 (fallF (a 7) (a 8) (a 4) (a 9) (dryF (a 6)) n)) v hh)) : J G mX7_fallsAgain 0 [(0, .ref (ad 0))] [] (mdW G ad 0 a v hh) Q := by
  refine sg_X7_fallsAgain_0 (t_dryRows ⟨_, rfl, rfl, ?_⟩)
  have H : ∀ j, j ≤ n → J G mX7_fallsAgain 9 [(0, .ref (ad 0)), (1, .int (nI j))] [] (mdW G ad 0 (va_up a 6 (fallF (a 7) (a 8) (a 4) (a 9) (dryF (a 6)) j)) v hh) Q := by
    refine forDn ?_ (fun j hj ih => ?_)
    · refine sg_X7_fallsAgain_9 ?_
      rw [hn]
      exact br_t (le_rfl32 _) h
    · obtain ⟨t, ht, h6⟩ := hg j hj
      refine sg_X7_fallsAgain_9 ?_
      rw [hn]
      refine br_f (nI_ge hj (by omega)) ⟨vp_in_nI (by omega) (by omega), ?_⟩
      rw [nI_clamp (by omega), ← nI_succ]
      have e4 : (va_up a 6 (fallF (a 7) (a 8) (a 4) (a 9) (dryF (a 6)) j)) 4 = a 4 := rfl
      rw [e4, ht]
      refine t_runs (ad := pk ad [7, 8, 9]) h6 hW ((LN.fall hW LN_dry j (by omega) (fun i hi => hg i (by omega))).mono (by omega)) ⟨_, _, rfl, rfl, ?_⟩
      rw [bx_uu]
      simp only [fallF] at ih
      rw [ht, nI_clamp (by omega)] at ih
      exact ih
  exact H 0 (Nat.zero_le _)
