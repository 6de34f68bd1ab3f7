/-! THE PAGE: which signs a street, a word has -/
def okS (p : Ar) (k : Nat) : Bool := decide (k < 17) && (if k % 3 = 0 then decide (¬ kbC (p k) = -1) else if k % 3 = 1 then (decide (p k = 45) || (decide (k / 3 + 49 ≤ (p k).toNatClampNeg) && decide ((p k).toNatClampNeg ≤ 53))) else decide (p k = 44))
def okW (p : Ar) (k : Nat) : Bool := decide (k < 8) && (decide (97 ≤ (p k).toNatClampNeg) && decide ((p k).toNatClampNeg ≤ 101))
def okP (sort : Int32) (p : Ar) (k : Nat) : Bool := if sort = 0 then okS p k else okW p k
/-- the first place from k on, of m, that isn't good -/
def flt (ok : Nat → Bool) : Nat → Nat → Nat
  | 0, k => k
  | m + 1, k => if ok k = true then flt ok m (k + 1) else k
def PG (p : Ar) (n : Nat) : Prop := n ≤ 20 ∧ ∀ j, j < n → ∃ c, p j = nI c ∧ 1 ≤ c ∧ c ≤ 126
theorem t_kindAt {G : GG} {ad : Nat → Nat} {p : Ar} {pn : Int32} {k c : Nat} {Q : Option Value → va_W → Prop} (hk : k < 20) (hc : p k = nI c) (hc2 : c ≤ 126) (h : Q (some (.int (kbC (p k)))) (pgW G ad 0 p pn)) : J G mX2_kindAt 0 [(0, .ref (ad 0)), (1, .int (nI k))] [] (pgW G ad 0 p pn) Q := by
  refine j_ldcS rfl dX2_kindAt_0 ?_
  refine j_aload_n 0 dX2_kindAt_2 rfl rfl ?_
  refine j_get 0 fl_X2_9 dX2_kindAt_3 rfl rfl ?_
  refine j_iload_n 1 dX2_kindAt_6 rfl rfl ?_
  refine j_iald 1 dX2_kindAt_7 rfl (vp_in_nI hk (by omega)) ?_
  rw [nI_clamp (by omega), hc]
  refine j_i2c dX2_kindAt_8 ?_
  refine j_top (y := nI c) (by
    have : ∀ n, n ≤ 126 → ((nI n).toUInt32 % 65536).toInt32 = nI n := by decide +kernel
    exact this c hc2) ?_
  refine j_callVS (As := [.int (nI c)]) (st := []) ml_J0_indexOf_0f7a4 vl_X2_32 rfl dX2_kindAt_9 (Nat.le_of_ble_eq_true rfl) ⟨by decide, by decide⟩ rfl rfl (Nat.le_of_ble_eq_true rfl) (t_indexOf (by omega) ?_)
  rw [hc] at h
  exact j_iret dX2_kindAt_12 rfl h
theorem sub48 {c : Nat} (hc : c ≤ 126) : (nI c - 48).toInt = (c : Int) - 48 := pk_sub_toInt (b := 48) (by omega) (by decide)
theorem sub97 {c : Nat} (hc : c ≤ 126) : (nI c - 97).toInt = (c : Int) - 97 := pk_sub_toInt (b := 97) (by omega) (by decide)
theorem rem3 {k : Nat} (hk : k < 2 ^ 31) : nI k - nI k / 3 * 3 = nI (k % 3) := pk_rem (d := 3) hk (by omega) (by decide)
theorem div3 {k : Nat} (hk : k < 2 ^ 31) : nI k / 3 = nI (k / 3) := pk_div (d := 3) hk (by omega) (by decide)
/-- where a sign lets a gutter flow -/
def wyC (c : Int32) : Int32 := if c = 45 then -1 else c - 48
theorem t_flowAt {G : GG} {ad : Nat → Nat} {p : Ar} {pn : Int32} {k g c : Nat} {Q : Option Value → va_W → Prop} (hk : k < 20) (hg : g < 7) (hc : p k = nI c) (hc2 : c ≤ 126) (h : Q (some (.int (if (decide (p k = 45) || (decide (g + 49 ≤ (p k).toNatClampNeg) && decide ((p k).toNatClampNeg ≤ 53))) = true then wyC (p k) else -101))) (pgW G ad 0 p pn)) : J G mX2_flowAt 0 [(0, .ref (ad 0)), (1, .int (nI k)), (2, .int (nI g))] [] (pgW G ad 0 p pn) Q := by
  refine sg_X2_flowAt_0 ?_
  rw [nI_clamp (by omega)]
  refine ⟨vp_in_nI hk (by omega), fun c1 => ⟨fun c2 => ?_, fun c2 => ⟨fun c3 => ?_, fun c3 => ?_⟩⟩, fun c1 => ?_⟩
  · rw [hc] at h c1 c2
    rw [Int32.le_iff_toInt_le, sub48 hc2, nI_toInt (by omega)] at c2
    rw [nI_clamp (by omega)] at h
    rw [if_neg (by simp [c1]; omega)] at h
    exact h
  · rw [hc] at h c1 c2 c3
    rw [Int32.le_iff_toInt_le, sub48 hc2] at c3
    have c3 : (6 : Int) ≤ (c : Int) - 48 := c3
    rw [nI_clamp (by omega)] at h
    rw [if_neg (by simp [c1]; omega)] at h
    exact h
  · rw [hc] at h c1 c2 c3 ⊢
    rw [Int32.le_iff_toInt_le, sub48 hc2, nI_toInt (by omega)] at c2
    rw [Int32.le_iff_toInt_le, sub48 hc2] at c3
    have c3 : ¬ (6 : Int) ≤ (c : Int) - 48 := c3
    rw [nI_clamp (by omega)] at h
    rw [if_pos (by simp [c1]; omega)] at h
    simp only [wyC] at h
    rw [if_neg c1] at h
    exact h
  · rw [if_pos (by simp [c1])] at h
    simp only [wyC] at h
    rw [if_pos c1] at h
    exact h
theorem kbC_neg (c : Int32) : kbC c < 0 ↔ kbC c = -1 := by
  simp only [kbC]
  repeat' split
  all_goals decide
theorem t_fitsStreet {G : GG} {ad : Nat → Nat} {p : Ar} {pn : Int32} {k n : Nat} {Q : Option Value → va_W → Prop} (hp : PG p n) (hk : k < n) (h : Q (some (.int (if okS p k = true then 1 else 0))) (pgW G ad 0 p pn)) : J G mX2_fitsStreet 0 [(0, .ref (ad 0)), (1, .int (nI k))] [] (pgW G ad 0 p pn) Q := by
  obtain ⟨hn, hp⟩ := hp
  obtain ⟨c, hc, hc1, hc2⟩ := hp k hk
  refine sg_X2_fitsStreet_0 ?_
  rw [rem3 (by omega), div3 (by omega)]
  by_cases h17 : k < 17
  · have e17 : okS p k = (if k % 3 = 0 then decide (¬ kbC (p k) = -1) else if k % 3 = 1 then (decide (p k = 45) || (decide (k / 3 + 49 ≤ (p k).toNatClampNeg) && decide ((p k).toNatClampNeg ≤ 53))) else decide (p k = 44)) := by simp [okS, h17]
    rw [e17] at h
    refine br_t (nI_lt (b := 17) h17 (by omega)) ⟨fun c0 => ?_, fun c0 => ?_, fun c0 => ?_⟩
    · have m0 : k % 3 = 0 := (nI_eq (b := 0) (by omega) (by omega)).mp c0
      rw [if_pos m0] at h
      refine t_kindAt (by omega) hc hc2 ⟨_, rfl, rfl, fun q => ?_, fun q => ?_⟩
      · rw [kbC_neg] at q
        simpa [q] using h
      · rw [kbC_neg] at q
        simpa [q] using h
    · have m1 : k % 3 = 1 := (nI_eq (b := 1) (by omega) (by omega)).mp c0
      rw [if_neg (show ¬ k % 3 = 0 by omega), if_pos m1] at h
      refine t_flowAt (by omega) (by omega) hc hc2 ⟨_, rfl, rfl, fun q => ?_, fun q => ?_⟩
      · by_cases e : (decide (p k = 45) || (decide (k / 3 + 49 ≤ (p k).toNatClampNeg) && decide ((p k).toNatClampNeg ≤ 53))) = true
        · rw [if_pos e] at q
          exfalso
          simp only [wyC] at q
          by_cases e45 : p k = 45
          · rw [if_pos e45] at q; exact absurd q (by decide)
          · rw [if_neg e45, hc] at q
            have := congrArg Int32.toInt q
            rw [sub48 hc2] at this
            have t2 : ((-101 : Int32)).toInt = -101 := by decide
            rw [t2] at this
            omega
        · rw [if_neg e] at h
          exact h
      · by_cases e : (decide (p k = 45) || (decide (k / 3 + 49 ≤ (p k).toNatClampNeg) && decide ((p k).toNatClampNeg ≤ 53))) = true
        · rw [if_pos e] at h
          exact h
        · rw [if_neg e] at q
          exact absurd rfl q
    · have m0 : ¬ k % 3 = 0 := fun q => c0.1 (by rw [q]; rfl)
      have m1 : ¬ k % 3 = 1 := fun q => c0.2 (by rw [q]; rfl)
      rw [if_neg m0, if_neg m1] at h
      refine ⟨vp_in_nI (by omega) (by omega), ?_⟩
      rw [nI_clamp (by omega)]
      exact ⟨fun q => by simpa [q] using h, fun q => by simpa [q] using h⟩
  · refine br_f (nI_nlt (b := 17) (by omega) (by omega)) ?_
    have e : okS p k = false := by simp [okS, h17]
    rw [e] at h
    exact h
theorem t_isLetter {G : GG} {x : Int32} {Q : Option Value → va_W → Prop} (h : Q (some (.int (if 0 ≤ x ∧ x ≤ 4 then 1 else 0))) []) : J G mX6_isLetter 0 [(0, .int x)] [] ([] : va_W) Q := by
  refine sg_X6_isLetter_0 (ad := fun q => q) ⟨fun c => ?_, fun c => ⟨fun c2 => ?_, fun c2 => ?_⟩⟩
  · rw [if_neg (fun q => absurd q.1 (Int32.not_le.mpr c))] at h
    exact h
  · rw [if_neg (fun q => absurd q.2 (Int32.not_le.mpr (Int32.lt_iff_toInt_lt.mpr (by
      have h1 := Int32.le_iff_toInt_le.mp c2
      have h2 : (5 : Int32).toInt = 5 := by decide
      have h3 : (4 : Int32).toInt = 4 := by decide
      omega))))] at h
    exact h
  · rw [if_pos ⟨Int32.not_lt.mp c, Int32.le_iff_toInt_le.mpr (by
      have h1 := Int32.lt_iff_toInt_lt.mp (Int32.not_le.mp c2)
      have h2 : (5 : Int32).toInt = 5 := by decide
      have h3 : (4 : Int32).toInt = 4 := by decide
      omega)⟩] at h
    exact h
theorem t_fitsWord {G : GG} {ad : Nat → Nat} {p : Ar} {pn : Int32} {k n : Nat} {Q : Option Value → va_W → Prop} (hp : PG p n) (hk : k < n) (h : Q (some (.int (if okW p k = true then 1 else 0))) (pgW G ad 0 p pn)) : J G mX2_fitsWord 0 [(0, .ref (ad 0)), (1, .int (nI k))] [] (pgW G ad 0 p pn) Q := by
  obtain ⟨hn, hp⟩ := hp
  obtain ⟨c, hc, hc1, hc2⟩ := hp k hk
  refine sg_X2_fitsWord_0 ?_
  by_cases h8 : k < 8
  · refine br_f (ge8 h8) ⟨vp_in_nI (by omega) (by omega), ?_⟩
    rw [nI_clamp (by omega)]
    refine t_isLetter ⟨_, rfl, rfl, ?_⟩
    have e : (0 ≤ p k - 97 ∧ p k - 97 ≤ 4) ↔ okW p k = true := by
      rw [hc]
      simp only [okW, hc]
      rw [Int32.le_iff_toInt_le, Int32.le_iff_toInt_le, sub97 hc2, nI_clamp (by omega)]
      have z0 : (0 : Int32).toInt = 0 := by decide
      have z4 : (4 : Int32).toInt = 4 := by decide
      rw [z0, z4]
      simp [h8]
      omega
    exact br_ite (fun q => by rw [if_neg ((not_congr e).mp q)] at h; exact h) (fun q => by rw [if_pos (e.mp q)] at h; exact h)
  · refine br_t (nI_le (a := 8) (by omega) (by omega)) ?_
    have e : okW p k = false := by simp [okW, h8]
    rw [e] at h
    exact h
theorem flt_le (ok : Nat → Bool) : ∀ m k, flt ok m k ≤ k + m
  | 0, k => Nat.le_refl _
  | m + 1, k => by
    simp only [flt]
    split
    · have := flt_le ok m (k + 1); omega
    · omega
theorem t_firstFault {G : GG} {ad : Nat → Nat} {p : Ar} {n : Nat} {sort : Int32} {Q : Option Value → va_W → Prop} (hp : PG p n) (h : Q (some (.int (nI (flt (okP sort p) n 0)))) (pgW G ad 0 p (nI n))) : J G mX2_firstFault 0 [(0, .ref (ad 0)), (1, .int sort)] [] (pgW G ad 0 p (nI n)) Q := by
  refine sg_X2_firstFault_0 ?_
  have hn := hp.1
  have H : ∀ k, k ≤ n → (flt (okP sort p) (n - k) k = flt (okP sort p) n 0 → J G mX2_firstFault 2 [(0, .ref (ad 0)), (1, .int sort), (2, .int (nI k))] [] (pgW G ad 0 p (nI n)) Q) := by
    refine forDn ?_ (fun k hk ih => ?_)
    · intro e
      refine sg_X2_firstFault_2 (br_t (le_rfl32 _) ?_)
      rw [Nat.sub_self] at e
      rw [← e] at h
      exact h
    · intro e
      obtain ⟨m, hm⟩ : ∃ m, n - k = m + 1 := ⟨n - k - 1, by omega⟩
      rw [hm] at e
      have hm2 : n - (k + 1) = m := by omega
      rw [hm2] at ih
      simp only [flt] at e
      refine sg_X2_firstFault_2 (br_f (nI_ge hk (by omega)) ⟨fun c => ?_, fun c => ?_⟩)
      · have eo : okP sort p k = okW p k := by simp [okP, c]
        refine t_fitsWord hp hk ⟨_, rfl, rfl, br_iten (fun q => ?_) (fun q => ?_)⟩
        · rw [eo, if_neg q] at e
          rw [← e] at h
          exact h
        · rw [eo, if_pos q] at e
          rw [← nI_succ]
          exact ih e
      · have eo : okP sort p k = okS p k := by simp [okP, c]
        refine t_fitsStreet hp hk ⟨_, rfl, rfl, br_iten (fun q => ?_) (fun q => ?_)⟩
        · rw [eo, if_neg q] at e
          rw [← e] at h
          exact h
        · rw [eo, if_pos q] at e
          rw [← nI_succ]
          exact ih e
  exact H 0 (Nat.zero_le _) rfl
def isSB (p : Ar) (n : Nat) : Bool := decide (n = 17) && decide (flt (okS p) n 0 = n)
def isWB (p : Ar) (n : Nat) : Bool := decide (0 < n) && decide (flt (okW p) n 0 = n)
theorem okP_0 {p : Ar} : okP 0 p = okS p := by funext k; simp [okP]
theorem okP_1 {p : Ar} : okP 1 p = okW p := by funext k; simp only [okP]; rw [if_neg (by decide)]
theorem t_isStreet {G : GG} {ad : Nat → Nat} {p : Ar} {n : Nat} {Q : Option Value → va_W → Prop} (hp : PG p n) (h : Q (some (.int (if isSB p n = true then 1 else 0))) (pgW G ad 0 p (nI n))) : J G mX2_isStreet 0 [(0, .ref (ad 0))] [] (pgW G ad 0 p (nI n)) Q := by
  have hn := hp.1
  refine sg_X2_isStreet_0 ⟨fun c => ?_, fun c => ?_⟩
  · have e : isSB p n = false := by simp only [isSB]; simp [show ¬ n = 17 from fun q => c (by rw [q]; rfl)]
    rw [e] at h
    exact h
  · have e17 : n = 17 := (nI_eq (b := 17) (by omega) (by omega)).mp c
    refine t_firstFault hp ⟨_, rfl, rfl, ?_⟩
    rw [okP_0]
    have hl := flt_le (okS p) n 0
    have e : (nI (flt (okS p) n 0) = nI n) ↔ isSB p n = true := by
      rw [nI_eq (by omega) (by omega)]
      simp [isSB, e17]
    refine ⟨fun q => ?_, fun q => ?_⟩
    · rw [if_neg ((not_congr e).mp q)] at h; exact h
    · rw [if_pos (e.mp q)] at h; exact h
theorem t_isWord {G : GG} {ad : Nat → Nat} {p : Ar} {n : Nat} {Q : Option Value → va_W → Prop} (hp : PG p n) (h : Q (some (.int (if isWB p n = true then 1 else 0))) (pgW G ad 0 p (nI n))) : J G mX2_isWord 0 [(0, .ref (ad 0))] [] (pgW G ad 0 p (nI n)) Q := by
  have hn := hp.1
  refine sg_X2_isWord_0 ?_
  by_cases c : n = 0
  · subst c
    refine br_t (le_rfl32 _) ?_
    have e : isWB p 0 = false := by simp [isWB]
    rw [e] at h
    exact h
  · refine br_f (nI_nle (by omega) (by omega)) ?_
    refine t_firstFault hp ⟨_, rfl, rfl, ?_⟩
    rw [okP_1]
    have hl := flt_le (okW p) n 0
    have e : (nI (flt (okW p) n 0) = nI n) ↔ isWB p n = true := by
      rw [nI_eq (by omega) (by omega)]
      simp [isWB, Nat.pos_of_ne_zero c]
    refine ⟨fun q => ?_, fun q => ?_⟩
    · rw [if_neg ((not_congr e).mp q)] at h; exact h
    · rw [if_pos (e.mp q)] at h; exact h
