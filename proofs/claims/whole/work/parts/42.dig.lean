/-! digest -/
def sy (h : Int64) (x : Int32) : Int64 := 31 * h + x.toInt64
def syN (f : Ar) (h : Int64) : Nat → Int64
  | 0 => h
  | n + 1 => sy (syN f h n) (f n)
def hsW (a : Fm) (g : Nat) (h : Int64) : Int64 := syN (fun j => a 3 (17 * g + 5 + j)) (syN (fun w => telM a g (nI w)) h 6) (wN (a 3) g)
def hsG (a : Fm) (R : Nat) (h : Int64) : Nat → Int64
  | 0 => h
  | g + 1 => sy (hsW a g (hsG a R h g)) (nI (bitS (kdP a R g) 5))
def hsD (a : Fm) (R : Nat) (h : Int64) : Nat → Int64
  | 0 => h
  | d + 1 => sy (sy (sy (hsD a R h d) (a 4 d)) (a 5 d)) (nI (bitS (ltP a R d) 5))
theorem t_mix {G : GG} {h : Int64} {x : Int32} {Q : Option Value → va_W → Prop} (hq : Q (some (.long (sy h x))) []) : J G mX6_mix 0 [(0, .long h), (2, .long x.toInt64)] [] ([] : va_W) Q := sg_X6_mix_0 (ad := fun q => q) hq
theorem t_say {G : GG} {ad : Nat → Nat} {a : Fm} {v : Ar} {hh : Int64} {x : Int32} {Q : Option Value → va_W → Prop} (hq : Q none (mdW G ad 0 a v (sy hh x))) : J G mX7_say 0 [(0, .ref (ad 0)), (1, .long x.toInt64)] [] (mdW G ad 0 a v hh) Q := sg_X7_say_0 hq
theorem c_about {G : GG} {ad : Nat → Nat} {pf : Ar} {pn : Int32} {u d : Fm} {g l : Ar} {n : Int32} {fn : Ar} {fd ku kd : Fm} {kg kl : Ar} {kn : Int32} {kfn : Ar} {kfd tu td : Fm} {t wa le se cv : Ar} {a : Fm} {rn : Int32} {S R k : Nat} {x2 : Int32} {Q : Option Value → va_W → Prop} (s1 : cv 1 = nI S) (hS : 0 < S) (hS2 : S < 2 ^ 31) (hk : k < 6) (hc : SCN u d g l n fn fd (a 1) (a 2) (a 3) (a 4) (a 5) rn (a 12) (a 13) R)
    (hq : Q (some (.int (telM a k x2))) (rlW G ad 0 pf pn u d g l n fn fd ku kd kg kl kn kfn kfd tu td t wa le se cv)) : J G mX6_about 0 [(0, .ref (ad 0)), (1, .int (nI k)), (2, .int x2)] [] (rlW G ad 0 pf pn u d g l n fn fd ku kd kg kl kn kfn kfd tu td t wa le se cv) Q := by
  obtain ⟨q1, q2, q3, q4, q5, q6, q7, q8, q9, q10, q11, q12, q13, q14⟩ := hc
  obtain ⟨b4, b2, b3, b5, b6, bd⟩ := q9 k hk
  refine sg_X6_about_0 (t_isGutter s1 hS2 ⟨_, rfl, rfl, br_iten (fun q => absurd ⟨hS, nI_pos' (by omega), nI_le (b := 5) (by omega) (by omega)⟩ q) (fun _ => ?_)⟩)
  rw [nI_clamp (by omega), (q8 k hk).1, (q8 k hk).2, b4, b2, b6, b5]
  have hin : vp_in (nI k) 6 := vp_in_nI hk (by omega)
  simp only [telM] at hq
  refine ⟨fun c => ⟨hin, ?_⟩, fun c => ⟨hin, ?_⟩, fun c => ⟨hin, ?_⟩, fun c => ⟨hin, ?_⟩, fun c => ⟨hin, ?_⟩, fun c => ⟨hin, ?_⟩, fun c => ?_⟩
  · subst c; exact hq
  · subst c; exact hq
  · subst c; exact hq
  · subst c; exact hq
  · subst c; exact hq
  · subst c; exact hq
  · obtain ⟨c0, c1, c2, c3, c4, c5⟩ := c
    rw [if_neg c0, if_neg c1, if_neg c2, if_neg c3, if_neg c4, if_neg c5] at hq
    exact hq
theorem c_word {G : GG} {ad : Nat → Nat} {pf : Ar} {pn : Int32} {u d : Fm} {g l : Ar} {n : Int32} {fn : Ar} {fd ku kd : Fm} {kg kl : Ar} {kn : Int32} {kfn : Ar} {kfd tu td : Fm} {t wa le se cv : Ar} {a : Fm} {rn : Int32} {S R k j : Nat} {Q : Option Value → va_W → Prop} (s1 : cv 1 = nI S) (hS : 0 < S) (hS2 : S < 2 ^ 31) (hk : k < 6) (hc : SCN u d g l n fn fd (a 1) (a 2) (a 3) (a 4) (a 5) rn (a 12) (a 13) R) (hj : j < wN (a 3) k)
    (hq : Q (some (.int (a 3 (17 * k + 5 + j)))) (rlW G ad 0 pf pn u d g l n fn fd ku kd kg kl kn kfn kfd tu td t wa le se cv)) : J G mX6_word 0 [(0, .ref (ad 0)), (1, .int (nI k)), (2, .int (nI j))] [] (rlW G ad 0 pf pn u d g l n fn fd ku kd kg kl kn kfn kfd tu td t wa le se cv) Q := by
  obtain ⟨q1, q2, q3, q4, q5, q6, q7, q8, q9, q10, q11, q12, q13, q14⟩ := hc
  obtain ⟨b4, b2, b3, b5, b6, bd⟩ := q9 k hk
  obtain ⟨eN, hN⟩ := wN_ok q10 hk q3
  refine sg_X6_word_0 (t_isGutter s1 hS2 ⟨_, rfl, rfl, br_ite (fun q => absurd ⟨hS, nI_pos' (by omega), nI_le (b := 5) (by omega) (by omega)⟩ q) (fun _ => ?_)⟩)
  rw [nI_clamp (by omega), nI_clamp (by omega), b6, eN]
  refine br_f (nI_pos (by omega)) ⟨vp_in_nI hk (by omega), br_t (nI_lt hj (by omega)) ⟨vp_in_nI (by omega) (by omega), ?_⟩⟩
  rw [bd j (by omega) (by rw [eN]; exact nI_lt hj (by omega))]
  exact hq
theorem c_rain {G : GG} {ad : Nat → Nat} {pf : Ar} {pn : Int32} {u d : Fm} {g l : Ar} {n : Int32} {fn : Ar} {fd ku kd : Fm} {kg kl : Ar} {kn : Int32} {kfn : Ar} {kfd tu td : Fm} {t wa le se cv : Ar} {a : Fm} {rn : Int32} {R j : Nat} {x2 : Int32} {Q : Option Value → va_W → Prop} (hj : j < R) (hc : SCN u d g l n fn fd (a 1) (a 2) (a 3) (a 4) (a 5) rn (a 12) (a 13) R)
    (hq : Q (some (.int (if x2 = 0 then a 4 j else if x2 = 1 then a 5 j else -102))) (rlW G ad 0 pf pn u d g l n fn fd ku kd kg kl kn kfn kfd tu td t wa le se cv)) : J G mX6_rain 0 [(0, .ref (ad 0)), (1, .int (nI j)), (2, .int x2)] [] (rlW G ad 0 pf pn u d g l n fn fd ku kd kg kl kn kfn kfd tu td t wa le se cv) Q := by
  obtain ⟨q1, q2, q3, q4, q5, q6, q7, q8, q9, q10, q11, q12, q13, q14⟩ := hc
  have hin : vp_in (nI j) 12 := vp_in_nI (by omega) (by omega)
  refine sg_X6_rain_0 (t_isDrop ⟨_, rfl, rfl, ?_⟩)
  rw [nI_clamp (by omega), q6 j (by omega), q7 j (by omega)]
  refine br_iten (fun q => absurd ⟨nI_pos' (by omega), by rw [q1]; exact nI_lt hj (by omega)⟩ q) (fun _ => ⟨fun z => ⟨hin, ?_⟩, fun z => ⟨fun z2 => ⟨hin, ?_⟩, fun z2 => ?_⟩⟩)
  · rw [if_pos z] at hq; exact hq
  · rw [if_neg z, if_pos z2] at hq; exact hq
  · rw [if_neg z, if_neg z2] at hq; exact hq
theorem c_mixGutters {G : GG} {ad : Nat → Nat} {pf : Ar} {pn : Int32} {u d : Fm} {g l : Ar} {n : Int32} {fn : Ar} {fd ku kd : Fm} {kg kl : Ar} {kn : Int32} {kfn : Ar} {kfd tu td : Fm} {t wa le se cv : Ar} {a : Fm} {rn : Int32} {S R : Nat} {h : Int64} {Q : Option Value → va_W → Prop} (s1 : cv 1 = nI S) (hS : 0 < S) (hS2 : S < 2 ^ 31) (hc : SCN u d g l n fn fd (a 1) (a 2) (a 3) (a 4) (a 5) rn (a 12) (a 13) R)
    (hq : ∀ tu td, Q (some (.long (hsG a R h 6))) (rlW G ad 0 pf pn u d g l n fn fd ku kd kg kl kn kfn kfd tu td t wa le se cv)) : J G mX6_mixGutters 0 [(0, .ref (ad 0)), (1, .long h)] [] (rlW G ad 0 pf pn u d g l n fn fd ku kd kg kl kn kfn kfd tu td t wa le se cv) Q := by
  refine sg_X6_mixGutters_0 ?_
  have hLN : LN (a 3) R := hc.2.2.2.2.2.2.2.2.2.1
  have hR : R ≤ 12 := hc.2.2.1
  have hSR : SR u d (a 3) := hc.2.2.2.2.2.2.2.2.1
  have H : ∀ k, k ≤ 6 → ∀ tu td, J G mX6_mixGutters 5 [(0, .ref (ad 0)), (1, .long h), (3, .long (hsG a R h k)), (5, .int (nI k))] [] (rlW G ad 0 pf pn u d g l n fn fd ku kd kg kl kn kfn kfd tu td t wa le se cv) Q := by
    refine forDn ?_ (fun k hk ih => ?_)
    · intro tu td
      exact sg_X6_mixGutters_5 (br_t (le_rfl32 _) (hq tu td))
    · intro tu td
      obtain ⟨eN, hN⟩ := wN_ok hLN hk hR
      refine sg_X6_mixGutters_5 (br_f (ge6 hk) ?_)
      have WD : ∀ j, j ≤ wN (a 3) k → J G mX6_mixGutters 45 [(0, .ref (ad 0)), (1, .long h), (3, .long (syN (fun j => a 3 (17 * k + 5 + j)) (syN (fun w => telM a k (nI w)) (hsG a R h k) 6) j)), (5, .int (nI k)), (6, .int (nI j))] [] (rlW G ad 0 pf pn u d g l n fn fd ku kd kg kl kn kfn kfd tu td t wa le se cv) Q := by
        refine forDn ?_ (fun j hj ih2 => ?_)
        · refine sg_X6_mixGutters_45 ⟨vp_in_nI hk (by omega), ?_⟩
          rw [nI_clamp (by omega), (hSR k hk).2.2.2.2.1, eN]
          refine br_t (le_rfl32 _) (c_kindOf s1 hS hS2 hk hc (fun tu' td' => ⟨_, td', tu', rfl, rfl, t_mix ⟨_, rfl, rfl, ?_⟩⟩))
          rw [← nI_succ]
          exact ih tu' td'
        · refine sg_X6_mixGutters_45 ⟨vp_in_nI hk (by omega), ?_⟩
          rw [nI_clamp (by omega), (hSR k hk).2.2.2.2.1, eN]
          refine br_f (nI_ge hj (by omega)) (c_word s1 hS hS2 hk hc hj ⟨_, rfl, rfl, t_mix ⟨_, rfl, rfl, ?_⟩⟩)
          rw [← nI_succ]
          exact ih2
      have AB : ∀ w, w ≤ 6 → J G mX6_mixGutters 15 [(0, .ref (ad 0)), (1, .long h), (3, .long (syN (fun w => telM a k (nI w)) (hsG a R h k) w)), (5, .int (nI k)), (6, .int (nI w))] [] (rlW G ad 0 pf pn u d g l n fn fd ku kd kg kl kn kfn kfd tu td t wa le se cv) Q := by
        refine forDn ?_ (fun w hw ih2 => ?_)
        · exact sg_X6_mixGutters_15 (br_t (le_rfl32 _) (WD 0 (Nat.zero_le _)))
        · refine sg_X6_mixGutters_15 (br_f (ge6 hw) (c_about s1 hS hS2 hk hc ⟨_, rfl, rfl, t_mix ⟨_, rfl, rfl, ?_⟩⟩))
          rw [← nI_succ]
          exact ih2
      exact AB 0 (Nat.zero_le _)
  exact H 0 (Nat.zero_le _) tu td
theorem c_mixDrops {G : GG} {ad : Nat → Nat} {pf : Ar} {pn : Int32} {u d : Fm} {g l : Ar} {n : Int32} {fn : Ar} {fd ku kd : Fm} {kg kl : Ar} {kn : Int32} {kfn : Ar} {kfd tu td : Fm} {t wa le se cv : Ar} {a : Fm} {rn : Int32} {R : Nat} {h : Int64} {Q : Option Value → va_W → Prop} (hc : SCN u d g l n fn fd (a 1) (a 2) (a 3) (a 4) (a 5) rn (a 12) (a 13) R)
    (hq : ∀ tu td, Q (some (.long (hsD a R h R))) (rlW G ad 0 pf pn u d g l n fn fd ku kd kg kl kn kfn kfd tu td t wa le se cv)) : J G mX6_mixDrops 0 [(0, .ref (ad 0)), (1, .long h)] [] (rlW G ad 0 pf pn u d g l n fn fd ku kd kg kl kn kfn kfd tu td t wa le se cv) Q := by
  refine sg_X6_mixDrops_0 ?_
  have hR : R ≤ 12 := hc.2.2.1
  have en : n = nI R := hc.1
  have H : ∀ k, k ≤ R → ∀ tu td, J G mX6_mixDrops 5 [(0, .ref (ad 0)), (1, .long h), (3, .long (hsD a R h k)), (5, .int (nI k))] [] (rlW G ad 0 pf pn u d g l n fn fd ku kd kg kl kn kfn kfd tu td t wa le se cv) Q := by
    refine forDn ?_ (fun k hk ih => ?_)
    · intro tu td
      refine sg_X6_mixDrops_5 (br_t ?_ (hq tu td))
      rw [en]; exact le_rfl32 _
    · intro tu td
      refine sg_X6_mixDrops_5 (br_f (by rw [en]; exact nI_ge hk (by omega)) ?_)
      refine c_rain hk hc ⟨_, rfl, rfl, t_mix ⟨_, rfl, rfl, c_rain hk hc ⟨_, rfl, rfl, t_mix ⟨_, rfl, rfl, c_letterOf hk hc (fun tu' td' => ⟨_, td', tu', rfl, rfl, t_mix ⟨_, rfl, rfl, ?_⟩⟩)⟩⟩⟩⟩
      rw [← nI_succ]
      exact ih tu' td'
  exact H 0 (Nat.zero_le _) tu td
def hsE (a : Fm) (v : Ar) (N : Nat) (h : Int64) : Int64 := syN (fun i => ctM a v (nI i)) (syN (a 0) h N) 11
theorem c_digEnd {G : GG} {ad : Nat → Nat} {T : Nat} {a : Fm} {v : Ar} {pf : Ar} {N : Nat} {u d : Fm} {g l : Ar} {n : Int32} {fn : Ar} {fd ku kd : Fm} {kg kl : Ar} {kn : Int32} {kfn : Ar} {kfd tu td : Fm} {t wa le se cv : Ar} {h : Int64} {Q : Option Value → va_W → Prop} (hr : Rel T a v (pf, nI N, u, d, g, l, n, fn, fd, ku, kd, kg, kl, kn, kfn, kfd, tu, td, t, wa, le, se, cv)) (hT : T < 2 ^ 30) (hN : N ≤ 20) (hp : Eqn 20 pf (a 0))
    (hq : Q (some (.long (hsE a v N h))) (rlW G ad 0 pf (nI N) u d g l n fn fd ku kd kg kl kn kfn kfd tu td t wa le se cv)) : J G mX6_digest 25 [(0, .ref (ad 0)), (1, .long h), (3, .int 0)] [] (rlW G ad 0 pf (nI N) u d g l n fn fd ku kd kg kl kn kfn kfd tu td t wa le se cv) Q := by
  have CT : ∀ i, i ≤ 11 → J G mX6_digest 59 [(0, .ref (ad 0)), (1, .long (syN (fun i => ctM a v (nI i)) (syN (a 0) h N) i)), (3, .int (nI i))] [] (rlW G ad 0 pf (nI N) u d g l n fn fd ku kd kg kl kn kfn kfd tu td t wa le se cv) Q := by
    refine forDn ?_ (fun i hi ih => ?_)
    · exact sg_X6_digest_59 (br_t (le_rfl32 _) hq)
    · refine sg_X6_digest_59 (br_f (ge11 hi) (c_count hr hT ⟨_, rfl, rfl, t_mix ⟨_, rfl, rfl, ?_⟩⟩))
      rw [← nI_succ]
      exact ih
  have PGE : ∀ i, i ≤ N → J G mX6_digest 25 [(0, .ref (ad 0)), (1, .long (syN (a 0) h i)), (3, .int (nI i))] [] (rlW G ad 0 pf (nI N) u d g l n fn fd ku kd kg kl kn kfn kfd tu td t wa le se cv) Q := by
    refine forDn ?_ (fun i hi ih => ?_)
    · exact sg_X6_digest_25 (br_t (le_rfl32 _) (CT 0 (Nat.zero_le _)))
    · refine sg_X6_digest_25 (br_f (nI_ge hi (by omega)) ⟨vp_in_nI (by omega) (by omega), t_mix ⟨_, rfl, rfl, ?_⟩⟩)
      rw [nI_clamp (by omega), hp i (by omega), ← nI_succ]
      exact ih
  exact PGE 0 (Nat.zero_le _)
/-! the reference's -/
theorem kdP_sc {a a' : Fm} (h : Sc a a') : kdP a' = kdP a := by
  funext n g k
  simp only [kdP]
  rw [h 1 (by omega), h 2 (by omega), h 4 (by omega), h 5 (by omega), h 12 (by omega), h 13 (by omega)]
theorem ltP_sc {a a' : Fm} (h : Sc a a') : ltP a' = ltP a := by
  funext n g k
  simp only [ltP]
  rw [h 1 (by omega), h 2 (by omega), h 4 (by omega), h 5 (by omega), h 12 (by omega), h 13 (by omega)]
theorem telM_sc {a a' : Fm} (h : Sc a a') : telM a' = telM a := by
  funext g x
  simp only [telM]
  rw [h 1 (by omega), h 2 (by omega), h 3 (by omega)]
theorem ctM_sc {a a' : Fm} {v : Ar} {x : Int32} (h : Sc a a') : ctM a' v x = ctM a v x := by
  have e : blP a' = blP a := by
    funext g
    simp only [blP]
    rw [h 1 (by omega), h 3 (by omega)]
  simp only [ctM]
  rw [e, h 2 (by omega), h 3 (by omega), h 12 (by omega)]
theorem MOK.sc {a a' : Fm} {v : Ar} {R : Nat} (h : MOK a v R) (hs : Sc a a') : MOK a' v R := by
  obtain ⟨h1, h2, h3, h4, h5⟩ := h
  refine ⟨h1, h2, ?_, ?_, ?_⟩
  · rw [hs 4 (by omega)]; exact h3
  · rw [hs 2 (by omega)]; exact h4
  · rw [hs 12 (by omega)]; exact h5
theorem Sc.trans {a b c : Fm} (h : Sc a b) (h2 : Sc b c) : Sc a c := fun i hi => (h2 i hi).trans (h i hi)
theorem m_sayGutter {G : GG} {ad : Nat → Nat} {a : Fm} {v : Ar} {hh : Int64} {R k : Nat} {Q : Option Value → va_W → Prop} (hM : MOK a v R) (hL : LN (a 3) R) (hk : k < 6) (h : ∀ a', Sc a a' → Q none (mdW G ad 0 a' v (sy (hsW a k hh) (nI (bitS (kdP a R k) 5))))) : J G mX7_sayGutter 0 [(0, .ref (ad 0)), (1, .int (nI k))] [] (mdW G ad 0 a v hh) Q := by
  refine sg_X7_sayGutter_0 ?_
  obtain ⟨eN, hN⟩ := wN_ok hL hk hM.2.1
  have hR := hM.2.1
  have WD : ∀ j, j ≤ wN (a 3) k → J G mX7_sayGutter 27 [(0, .ref (ad 0)), (1, .int (nI k)), (2, .int (nI j))] [] (mdW G ad 0 a v (syN (fun j => a 3 (17 * k + 5 + j)) (syN (fun w => telM a k (nI w)) hh 6) j)) Q := by
    refine forDn ?_ (fun j hj ih => ?_)
    · refine sg_X7_sayGutter_27 ?_
      rw [e17_4, nI_clamp (by omega), eN]
      exact ⟨vp_in_nI (by omega) (by omega), br_t (le_rfl32 _) (t_kindBits hM hk (fun a' ha => ⟨_, a', rfl, rfl, t_say ⟨_, rfl, rfl, h a' ha⟩⟩))⟩
    · refine sg_X7_sayGutter_27 ?_
      rw [e17_4, nI_clamp (by omega), eN, e17_5, nI_add, nI_clamp (by omega)]
      refine ⟨vp_in_nI (by omega) (by omega), br_f (nI_ge hj (by omega)) ⟨vp_in_nI (by omega) (by omega), t_say ⟨_, rfl, rfl, ?_⟩⟩⟩
      rw [← nI_succ]
      exact ih
  have AB : ∀ w, w ≤ 6 → J G mX7_sayGutter 2 [(0, .ref (ad 0)), (1, .int (nI k)), (2, .int (nI w))] [] (mdW G ad 0 a v (syN (fun w => telM a k (nI w)) hh w)) Q := by
    refine forDn ?_ (fun w hw ih => ?_)
    · exact sg_X7_sayGutter_2 (br_t (le_rfl32 _) (WD 0 (Nat.zero_le _)))
    · refine sg_X7_sayGutter_2 (br_f (ge6 hw) (t_tell hk ⟨_, rfl, rfl, t_say ⟨_, rfl, rfl, ?_⟩⟩))
      rw [← nI_succ]
      exact ih
  exact AB 0 (Nat.zero_le _)
theorem m_digEnd {G : GG} {ad : Nat → Nat} {a b : Fm} {v : Ar} {hh : Int64} {N : Nat} {Q : Option Value → va_W → Prop} (hN : v 0 = nI N) (hN20 : N ≤ 20) (hs : Sc a b) (h : ∀ hh', Q (some (.long (hsE a v N hh))) (mdW G ad 0 b v hh')) : J G mX7_digest 83 [(0, .ref (ad 0)), (1, .int 0)] [] (mdW G ad 0 b v hh) Q := by
  have CT : ∀ i, i ≤ 11 → J G mX7_digest 110 [(0, .ref (ad 0)), (1, .int (nI i))] [] (mdW G ad 0 b v (syN (fun i => ctM a v (nI i)) (syN (a 0) hh N) i)) Q := by
    refine forDn ?_ (fun i hi ih => ?_)
    · exact sg_X7_digest_110 (br_t (le_rfl32 _) (h _))
    · refine sg_X7_digest_110 (br_f (ge11 hi) (m_countOf ⟨_, rfl, rfl, t_say ⟨_, rfl, rfl, ?_⟩⟩))
      rw [ctM_sc hs, ← nI_succ]
      exact ih
  have PGE : ∀ i, i ≤ N → J G mX7_digest 83 [(0, .ref (ad 0)), (1, .int (nI i))] [] (mdW G ad 0 b v (syN (a 0) hh i)) Q := by
    refine forDn ?_ (fun i hi ih => ?_)
    · refine sg_X7_digest_83 ?_
      rw [hN]
      exact br_t (le_rfl32 _) (CT 0 (Nat.zero_le _))
    · refine sg_X7_digest_83 ?_
      rw [hN]
      refine br_f (nI_ge hi (by omega)) ⟨vp_in_nI (by omega) (by omega), t_say ⟨_, rfl, rfl, ?_⟩⟩
      rw [nI_clamp (by omega), hs 0 (by omega), ← nI_succ]
      exact ih
  exact PGE 0 (Nat.zero_le _)
theorem m_digDrops {G : GG} {ad : Nat → Nat} {a b : Fm} {v : Ar} {hh : Int64} {R : Nat} {Q : Option Value → va_W → Prop} (hM : MOK a v R) (hs : Sc a b) (h : ∀ b, Sc a b → J G mX7_digest 83 [(0, .ref (ad 0)), (1, .int 0)] [] (mdW G ad 0 b v (hsD a R hh R)) Q) : J G mX7_digest 35 [(0, .ref (ad 0)), (1, .int 0)] [] (mdW G ad 0 b v hh) Q := by
  have hR := hM.2.1
  have hn := hM.1
  have H : ∀ k, k ≤ R → ∀ b, Sc a b → J G mX7_digest 35 [(0, .ref (ad 0)), (1, .int (nI k))] [] (mdW G ad 0 b v (hsD a R hh k)) Q := by
    refine forDn ?_ (fun k hk ih => ?_)
    · intro b hb
      refine sg_X7_digest_35 ?_
      rw [hn]
      exact br_t (le_rfl32 _) (h b hb)
    · intro b hb
      refine sg_X7_digest_35 ?_
      rw [hn]
      refine br_f (nI_ge hk (by omega)) ⟨vp_in_nI (by omega) (by omega), t_say ⟨_, rfl, rfl, t_say ⟨_, rfl, rfl, t_letterBits (hM.sc hb) hk (fun a' ha => ⟨_, a', rfl, rfl, t_say ⟨_, rfl, rfl, ?_⟩⟩)⟩⟩⟩
      rw [nI_clamp (by omega), hb 4 (by omega), hb 5 (by omega), ltP_sc hb, ← nI_succ]
      exact ih a' (hb.trans ha)
  exact H 0 (Nat.zero_le _) b hs
theorem hsW_sc {a a' : Fm} {k : Nat} {h : Int64} (hs : Sc a a') : hsW a' k h = hsW a k h := by
  simp only [hsW]
  rw [telM_sc hs, hs 3 (by omega)]
def TwoL (G : GG) (MC MM : Mt) (rest : List (Nat × Value)) (T : Nat) (a : Fm) (v : Ar) (c : CT) : Prop := ∃ (r : Int64) (RC : CT → Prop), (∀ ad, J G MC 0 ((0, .ref (ad 0)) :: rest) [] (rlT G ad c) (fun x w => x = some (.long r) ∧ ∃ c', w = rlT G ad c' ∧ RC c')) ∧ (∀ ad hh, J G MM 0 ((0, .ref (ad 0)) :: rest) [] (mdW G ad 0 a v hh) (fun x w => x = some (.long r) ∧ ∃ a' v' hh', w = mdW G ad 0 a' v' hh' ∧ ∀ c', RC c' → Rel (T + 1) a' v' c'))
theorem TwoL.read {G : GG} {MC MM : Mt} {rest : List (Nat × Value)} {T : Nat} {a : Fm} {v : Ar} {c : CT} (h : Rel T a v c) (r : Int64) (h1 : ∀ ad (Q : Option Value → va_W → Prop), (∀ c', SameC c c' → Q (some (.long r)) (rlT G ad c')) → J G MC 0 ((0, .ref (ad 0)) :: rest) [] (rlT G ad c) Q) (h2 : ∀ ad hh (Q : Option Value → va_W → Prop), (∀ a' v' hh', Sc a a' → ScV v v' → Q (some (.long r)) (mdW G ad 0 a' v' hh')) → J G MM 0 ((0, .ref (ad 0)) :: rest) [] (mdW G ad 0 a v hh) Q) : TwoL G MC MM rest T a v c :=
  ⟨r, SameC c, fun ad => h1 ad _ (fun c' hc => ⟨rfl, c', rfl, hc⟩), fun ad hh => h2 ad hh _ (fun a' v' hh' ha hv => ⟨rfl, a', v', hh', rfl, fun c' hc => h.same hc ha hv⟩)⟩
theorem two_digest {G : GG} {T : Nat} {a : Fm} {v : Ar} {c : CT} (h : Rel T a v c) (hT : T < 2 ^ 29) : TwoL G mX6_digest mX7_digest [] T a v c := by
  obtain ⟨pf, pn, u, d, g, l, n, fn, fd, ku, kd, kg, kl, kn, kfn, kfd, tu, td, t, wa, le, se, cv⟩ := c
  obtain ⟨⟨N, p1, p2, p3, p4⟩, ⟨S, s1, s2, s3, s4, st, im⟩, hc1, hc2⟩ := id h
  subst p1
  have hth := v1_iff st
  have hN20 := p3.1
  by_cases c1 : 0 < S
  · rcases st with ⟨q, -⟩ | ⟨-, q0, R, hR⟩
    · omega
    refine TwoL.read h (hsE a v N (hsD a R (hsG a R 821 6) R)) (fun ad Q hq => ?_) (fun ad hh Q hq => ?_)
    · refine sg_X6_digest_0 (t_hasStreet s1 (by omega) ⟨_, rfl, rfl, br_ite (fun q => absurd c1 q) (fun _ => c_mixGutters s1 c1 (by omega) hR (fun tu1 td1 => ⟨_, td1, tu1, rfl, rfl, c_mixDrops hR (fun tu2 td2 => ⟨_, td2, tu2, rfl, rfl, ?_⟩)⟩))⟩)
      have hr := h.same (c' := (pf, nI N, u, d, g, l, n, fn, fd, ku, kd, kg, kl, kn, kfn, kfd, tu2, td2, t, wa, le, se, cv)) ⟨tu2, td2, t, wa, le, se, rfl⟩ Sc.rfl' ScV.rfl'
      exact c_digEnd hr (by omega) hN20 p4 (hq _ ⟨tu2, td2, t, wa, le, se, rfl⟩)
    · have hM := hR.mok
      have hLN : LN (a 3) R := hR.2.2.2.2.2.2.2.2.2.1
      have H : ∀ k, k ≤ 6 → ∀ b, Sc a b → J G mX7_digest 9 [(0, .ref (ad 0)), (1, .int (nI k))] [] (mdW G ad 0 b v (hsG a R 821 k)) Q := by
        refine forDn ?_ (fun k hk ih => ?_)
        · intro b hb
          exact sg_X7_digest_9 (br_t (le_rfl32 _) (m_digDrops hM hb (fun b' hb' => m_digEnd p2 hN20 hb' (fun hh' => hq b' v hh' hb' ScV.rfl'))))
        · intro b hb
          refine sg_X7_digest_9 (br_f (ge6 hk) (br_f (hth.mpr c1) (m_sayGutter (hM.sc hb) (by rw [hb 3 (by omega)]; exact hLN) hk (fun a' ha => ⟨a', _, rfl, rfl, ?_⟩))))
          rw [hsW_sc hb, kdP_sc hb, ← nI_succ]
          exact ih a' (hb.trans ha)
      exact sg_X7_digest_0 (H 0 (Nat.zero_le _) a Sc.rfl')
  · rcases st with ⟨q, v1, e1, e2, -⟩ | ⟨q, -⟩
    · refine TwoL.read h (hsE a v N 821) (fun ad Q hq => ?_) (fun ad hh Q hq => ?_)
      · exact sg_X6_digest_0 (t_hasStreet s1 (by omega) ⟨_, rfl, rfl, br_ite (fun _ => c_digEnd h (by omega) hN20 p4 (hq _ ⟨tu, td, t, wa, le, se, rfl⟩)) (fun q => absurd q c1)⟩)
      · refine sg_X7_digest_0 (sg_X7_digest_9 (br_f (by decide) (br_t v1 (sg_X7_digest_35 ?_))))
        rw [e2]
        exact br_t (le_rfl32 _) (m_digEnd p2 hN20 Sc.rfl' (fun hh' => hq a v hh' Sc.rfl' ScV.rfl'))
    · exact absurd q c1
