/-! the law's loop, and its start -/
set_option maxRecDepth 100000 in
theorem law_head {p : Program} {l : Launch} {e : Env} {s : State} {m : MethodId} {below : List Frame} {meth : Method} {c : Code} {G : GG} {b L : Nat} {xs : Nat → Int32} (X : LX G p s m meth c b L xs) : ∀ (n T : Nat), L < 4 * T + 4 * n → 4 * T ≤ 2052 → LHd p l e s m below meth c G b T := by
  obtain ⟨⟨hx, hb, hr, hml, hown, hts, hX, hbl, hlocks, hgv⟩, htb, hK, hxt, hxn, hL⟩ := id X
  intro n
  induction n with
  | zero =>
    intro T h1 h2 a v hh cT adc adm H locs ls h hl hW
    refine lv_iload_n hx hb dL_law_18 rfl (lv_at hl 3 rfl) ?_
    refine lv_aload_n hx hb dL_law_19 rfl (lv_at hl 0 rfl) ?_
    refine va_slen (A := LA s) hx hb hX hbl (Nat.not_le.mpr hbl) hW.2.2 dL_law_20 ?_
    refine lv_iconst (v := 4) hx hb dL_law_21 (by decide) ?_
    refine lv_isub hx hb dL_law_22 ?_
    refine lv_icmp_gt (tgt := 696) hx hb dL_law_23 (by decide) (fun q => ?_) (fun q => ?_)
    · refine lv_iconst (v := 1) hx hb dL_law_696 (by decide) ?_
      refine va_forget (fun q hq => hW.2.2.2.2 q hq) ?_
      refine W.widen (k := 600000) (n := 7302250) (Nat.le_of_ble_eq_true rfl) (Nat.le_of_ble_eq_true rfl) ?_
      exact lw_ret hx hb hr hlocks dL_law_697
    · refine absurd ?_ q
      rw [Int32.lt_iff_toInt_lt, show Int32.ofNat L - 4 = nI L - nI 4 from rfl, pk_sub_toInt (a := L) (b := 4) (by omega) (by decide), nI_toInt (by omega)]
      omega
  | succ n ih =>
    intro T h1 h2 a v hh cT adc adm H locs ls h hl hW
    refine lv_iload_n hx hb dL_law_18 rfl (lv_at hl 3 rfl) ?_
    refine lv_aload_n hx hb dL_law_19 rfl (lv_at hl 0 rfl) ?_
    refine va_slen (A := LA s) hx hb hX hbl (Nat.not_le.mpr hbl) hW.2.2 dL_law_20 ?_
    refine lv_iconst (v := 4) hx hb dL_law_21 (by decide) ?_
    refine lv_isub hx hb dL_law_22 ?_
    refine lv_icmp_gt (tgt := 696) hx hb dL_law_23 (by decide) (fun q => ?_) (fun q => ?_)
    · refine lv_iconst (v := 1) hx hb dL_law_696 (by decide) ?_
      refine va_forget (fun q hq => hW.2.2.2.2 q hq) ?_
      refine W.widen (k := 600000) (n := 7302250) (Nat.le_of_ble_eq_true rfl) (Nat.le_of_ble_eq_true rfl) ?_
      exact lw_ret hx hb hr hlocks dL_law_697
    rw [Int32.lt_iff_toInt_lt, show Int32.ofNat L - 4 = nI L - nI 4 from rfl, pk_sub_toInt (a := L) (b := 4) (by omega) (by decide), nI_toInt (by omega)] at q
    have hi : 4 * T + 4 ≤ L := by omega
    refine lv_aload_n hx hb dL_law_26 rfl (lv_at hl 0 rfl) ?_
    refine lv_iload_n hx hb dL_law_27 rfl (lv_at hl 3 rfl) ?_
    refine va_sld (A := LA s) hx hb hX hbl (Nat.not_le.mpr hbl) hW.2.2 (vp_in_nI (show 4 * T < L by omega) (by omega)) dL_law_28 ?_
    refine lv_bipush (v := 31) hx hb dL_law_29 (by decide) ?_
    refine lv_iand hx hb dL_law_31 ?_
    obtain ⟨w, -, ew⟩ := w_of32 (xs (nI (4 * T)).toNatClampNeg)
    have e2 : nI w &&& 31 = nI (w % 32) := by
      rw [show (31 : Int32) = nI (2 ^ 5 - 1) from rfl, w_and, Nat.and_two_pow_sub_one_eq_mod]
    rw [ew, e2]
    have hk := Nat.mod_lt w (show 0 < 32 by decide)
    generalize w % 32 = k at hk ⊢
    by_cases hk2 : k < 23
    · match k, hk2 with
      | 0, _ => exact lv_tableIn (tgt := 140) (off := 108) hx hb dL_law_32 (by decide) (by decide) (by decide +kernel) (by decide) (law_0 X (ih (T + 1) (by omega) (by omega)) h hi hl hW)
      | 1, _ => exact lv_tableIn (tgt := 163) (off := 131) hx hb dL_law_32 (by decide) (by decide) (by decide +kernel) (by decide) (law_1 X (ih (T + 1) (by omega) (by omega)) h hi hl hW)
      | 2, _ => exact lv_tableIn (tgt := 176) (off := 144) hx hb dL_law_32 (by decide) (by decide) (by decide +kernel) (by decide) (law_2 X (ih (T + 1) (by omega) (by omega)) h hi hl hW)
      | 3, _ => exact lv_tableIn (tgt := 199) (off := 167) hx hb dL_law_32 (by decide) (by decide) (by decide +kernel) (by decide) (law_3 X (ih (T + 1) (by omega) (by omega)) h hi hl hW)
      | 4, _ => exact lv_tableIn (tgt := 212) (off := 180) hx hb dL_law_32 (by decide) (by decide) (by decide +kernel) (by decide) (law_4 X (ih (T + 1) (by omega) (by omega)) h hi hl hW)
      | 5, _ => exact lv_tableIn (tgt := 245) (off := 213) hx hb dL_law_32 (by decide) (by decide) (by decide +kernel) (by decide) (law_5 X (ih (T + 1) (by omega) (by omega)) h hi hl hW)
      | 6, _ => exact lv_tableIn (tgt := 278) (off := 246) hx hb dL_law_32 (by decide) (by decide) (by decide +kernel) (by decide) (law_6 X (ih (T + 1) (by omega) (by omega)) h hi hl hW)
      | 7, _ => exact lv_tableIn (tgt := 311) (off := 279) hx hb dL_law_32 (by decide) (by decide) (by decide +kernel) (by decide) (law_7 X (ih (T + 1) (by omega) (by omega)) h hi hl hW)
      | 8, _ => exact lv_tableIn (tgt := 344) (off := 312) hx hb dL_law_32 (by decide) (by decide) (by decide +kernel) (by decide) (law_8 X (ih (T + 1) (by omega) (by omega)) h hi hl hW)
      | 9, _ => exact lv_tableIn (tgt := 377) (off := 345) hx hb dL_law_32 (by decide) (by decide) (by decide +kernel) (by decide) (law_9 X (ih (T + 1) (by omega) (by omega)) h hi hl hW)
      | 10, _ => exact lv_tableIn (tgt := 390) (off := 358) hx hb dL_law_32 (by decide) (by decide) (by decide +kernel) (by decide) (law_10 X (ih (T + 1) (by omega) (by omega)) h hi hl hW)
      | 11, _ => exact lv_tableIn (tgt := 423) (off := 391) hx hb dL_law_32 (by decide) (by decide) (by decide +kernel) (by decide) (law_11 X (ih (T + 1) (by omega) (by omega)) h hi hl hW)
      | 12, _ => exact lv_tableIn (tgt := 456) (off := 424) hx hb dL_law_32 (by decide) (by decide) (by decide +kernel) (by decide) (law_12 X (ih (T + 1) (by omega) (by omega)) h hi hl hW)
      | 13, _ => exact lv_tableIn (tgt := 479) (off := 447) hx hb dL_law_32 (by decide) (by decide) (by decide +kernel) (by decide) (law_13 X (ih (T + 1) (by omega) (by omega)) h hi hl hW)
      | 14, _ => exact lv_tableIn (tgt := 502) (off := 470) hx hb dL_law_32 (by decide) (by decide) (by decide +kernel) (by decide) (law_14 X (ih (T + 1) (by omega) (by omega)) h hi hl hW)
      | 15, _ => exact lv_tableIn (tgt := 525) (off := 493) hx hb dL_law_32 (by decide) (by decide) (by decide +kernel) (by decide) (law_15 X (ih (T + 1) (by omega) (by omega)) h hi hl hW)
      | 16, _ => exact lv_tableIn (tgt := 538) (off := 506) hx hb dL_law_32 (by decide) (by decide) (by decide +kernel) (by decide) (law_16 X (ih (T + 1) (by omega) (by omega)) h hi hl hW)
      | 17, _ => exact lv_tableIn (tgt := 561) (off := 529) hx hb dL_law_32 (by decide) (by decide) (by decide +kernel) (by decide) (law_17 X (ih (T + 1) (by omega) (by omega)) h hi hl hW)
      | 18, _ => exact lv_tableIn (tgt := 584) (off := 552) hx hb dL_law_32 (by decide) (by decide) (by decide +kernel) (by decide) (law_18 X (ih (T + 1) (by omega) (by omega)) h hi hl hW)
      | 19, _ => exact lv_tableIn (tgt := 627) (off := 595) hx hb dL_law_32 (by decide) (by decide) (by decide +kernel) (by decide) (law_19 X (ih (T + 1) (by omega) (by omega)) h hi hl hW)
      | 20, _ => exact lv_tableIn (tgt := 640) (off := 608) hx hb dL_law_32 (by decide) (by decide) (by decide +kernel) (by decide) (law_20 X (ih (T + 1) (by omega) (by omega)) h hi hl hW)
      | 21, _ => exact lv_tableIn (tgt := 653) (off := 621) hx hb dL_law_32 (by decide) (by decide) (by decide +kernel) (by decide) (law_21 X (ih (T + 1) (by omega) (by omega)) h hi hl hW)
      | 22, _ => exact lv_tableIn (tgt := 676) (off := 644) hx hb dL_law_32 (by decide) (by decide) (by decide +kernel) (by decide) (law_22 X (ih (T + 1) (by omega) (by omega)) h hi hl hW)
      | k + 23, hk3 => exact absurd hk3 (by omega)
    · refine lv_tableOut (tgt := 690) hx hb dL_law_32 (Or.inr ?_) (by decide) (l_next X (ih (T + 1) (by omega) (by omega)) h.up hl hW)
      rw [nI_toInt (by omega)]
      omega
/-- the two objects as they are made -/
def c00 : CT := ((fun _ => 0), 0, (fun _ _ => 0), (fun _ _ => 0), (fun _ => 0), (fun _ => 0), 0, fil 6 (-1) (fun _ => 0), (fun _ _ => 0), (fun _ _ => 0), (fun _ _ => 0), (fun _ => 0), (fun _ => 0), 0, fil 6 (-1) (fun _ => 0), (fun _ _ => 0), (fun _ _ => 0), (fun _ _ => 0), (fun _ => 0), (fun _ => 0), (fun _ => 0), (fun _ => 0), (fun _ => 0))
theorem Rel_0 : Rel 0 (fun _ _ => 0) (upd (fun _ => 0) 7 (-1)) c00 := by
  refine ⟨⟨0, rfl, rfl, ⟨Nat.zero_le _, fun j hj => absurd hj (Nat.not_lt_zero j)⟩, fun _ _ => rfl⟩, ⟨0, rfl, rfl, Nat.le_refl _, Or.inl rfl, Or.inl ⟨rfl, rfl, rfl, rfl, ⟨fun _ _ => ⟨rfl, rfl⟩, fun _ _ => rfl, fun _ _ => rfl⟩, fun g hg => ⟨rfl, rfl, fun _ => rfl, rfl, rfl, fun _ _ _ => rfl⟩, fun h hh => ?_⟩, Or.inl ⟨rfl, by decide⟩⟩, ⟨0, Nat.zero_le _, rfl, rfl⟩, ⟨0, Nat.zero_le _, rfl, rfl⟩⟩
  simp [fil, hh]
set_option maxHeartbeats 4000000 in
set_option maxRecDepth 100000 in
/-- THE LAW, from its entry -/
theorem whole_start {p : Program} {e : Env} {s : State} {m : MethodId} {below : List Frame} {meth : Method} {c : Code} (l : Launch) {b L : Nat} {xs : Nat → Int32} (hL : L ≤ 2048) (C0 : lw_At p s m meth c b L xs) : W p l e room_1 s m #[Value.ref b] below meth c s.heap [] 0 0 (lw_Z below #[Value.ref b] s) (entryFrame m ([Value.ref b] : List Value).toArray 4) := by
  obtain ⟨hx, hb, hr, hml, hown, hts, hX, hbl, hlocks, hgv⟩ := id C0
  have htb : ∀ w ∈ tb, w.before #[Value.ref b] s = true := fun w hw => hts w (List.mem_filter.mp hw).1
  have hlw : ∀ (i : Nat) (w : Cond), lw_tbl[i]? = some w → w.before #[Value.ref b] s = true := fun i w h => hts w (List.mem_of_getElem? h)
  have hsg := flat_of_before _ hgv
  obtain ⟨c0, iS0, hKn0⟩ := u_known (C := RX0) (T := TX0) (N := 3) (n := 3) htb uw_0 (htb _ (tb_in 122 rfl rfl))
  obtain ⟨c1, iS1, hKn1⟩ := u_known (C := RX1) (T := TX1) (N := 2) (n := 2) htb uw_1 (htb _ (tb_in 144 rfl rfl))
  obtain ⟨c2, iS2, hKn2⟩ := u_known (C := RX2) (T := TX2) (N := 2) (n := 2) htb uw_2 (htb _ (tb_in 60 rfl rfl))
  obtain ⟨c3, iS3, hKn3⟩ := u_known (C := RX3) (T := TX3) (N := 3) (n := 3) htb uw_3 (htb _ (tb_in 76 rfl rfl))
  obtain ⟨c4, iS4, hKn4⟩ := u_known (C := RX4) (T := TX4) (N := 8) (n := 8) htb uw_4 (htb _ (tb_in 82 rfl rfl))
  obtain ⟨c5, iS5, hKn5⟩ := u_known (C := RX5) (T := TX5) (N := 3) (n := 3) htb uw_5 (htb _ (tb_in 182 rfl rfl))
  obtain ⟨c6, iS6, hKn6⟩ := u_known (C := RX6) (T := TX6) (N := 12) (n := 12) htb uw_6 (htb _ (tb_in 52 rfl rfl))
  obtain ⟨c7, iS7, hKn7⟩ := u_known (C := RX7) (T := TX7) (N := 30) (n := 30) htb uw_7 (htb _ (tb_in 631 rfl rfl))
  obtain ⟨dC, dI, hKc⟩ : ∃ (dC : Nat → ClassId) (dI : Nat → Nat → Nat), ∀ (k : Nat) (q : vw_C), classes[k]? = some q → u_Kn s q.1 q.2.1 q.2.2 (dC k) (dI k) := by
    refine ⟨fun k => if k = 0 then c0 else if k = 1 then c1 else if k = 2 then c2 else if k = 3 then c3 else if k = 4 then c4 else if k = 5 then c5 else if k = 6 then c6 else c7, fun k => if k = 0 then iS0 else if k = 1 then iS1 else if k = 2 then iS2 else if k = 3 then iS3 else if k = 4 then iS4 else if k = 5 then iS5 else if k = 6 then iS6 else iS7, ?_⟩
    intro k q hq
    match k, hq with
    | 0, hq => cases hq; exact hKn0
    | 1, hq => cases hq; exact hKn1
    | 2, hq => cases hq; exact hKn2
    | 3, hq => cases hq; exact hKn3
    | 4, hq => cases hq; exact hKn4
    | 5, hq => cases hq; exact hKn5
    | 6, hq => cases hq; exact hKn6
    | 7, hq => cases hq; exact hKn7
    | k + 8, hq => simp [classes] at hq
  have hov : (Cond.arrayOver (.array .int)).before #[Value.ref b] s = true := hlw 88 _ rfl
  obtain ⟨cI, cII, kA, f1, f2, f3, f4, f5⟩ := arrayOverA_spec hov
  have hAI : ArrOfT s cI .int ∧ s.vm.findClass ("[" ++ (FieldType.int).toString) = some cI := by
    have hac : (Cond.arrayClass .int).before #[Value.ref b] s = true := hlw 74 _ rfl
    obtain ⟨cA, kA', comp, g1, g2, g3⟩ := Cond.arrayClass_spec hac
    have e : cA = cI := Option.some.inj (g1.symm.trans f1)
    subst e
    exact ⟨fun n z => ⟨fun k h => (by cases h), kA', g2, comp, g3⟩, g1⟩
  have hAII : ArrOfT s cII (.array .int) ∧ s.vm.findClass ("[" ++ (FieldType.array .int).toString) = some cII := ⟨fun n z => ⟨fun k h => (by cases h), kA, f3, cI, f4⟩, f5⟩
  have hAo : ∀ a : Nat, a < s.heap.size → ¬ LA s a := fun a h => Nat.not_le.mpr h
  obtain ⟨adK, adV, hSt, hev⟩ := vk_Sof (args := #[Value.ref b]) (s := s) (N := 1) (tm := fun _ => .string RX2 30) (len := [5]) (byt := [[103, 98, 115, 116, 100]]) (A := LA s) (fun i hi => by
    have : i = 0 := by omega
    subst this
    decide) (fun _ _ => hsg _ (by decide +kernel)) (fun _ _ => hsg _ (by decide +kernel)) (fun _ _ => hsg _ (by decide +kernel)) (fun i hi => by
    have : i = 0 := by omega
    subst this
    exact hsg _ (by decide +kernel)) (fun i hi j hj => by
    have : i = 0 := by omega
    subst this
    have hj : j < 5 := hj
    match j, hj with
    | 0, _ => exact hsg _ (by decide +kernel)
    | 1, _ => exact hsg _ (by decide +kernel)
    | 2, _ => exact hsg _ (by decide +kernel)
    | 3, _ => exact hsg _ (by decide +kernel)
    | 4, _ => exact hsg _ (by decide +kernel)) (fun i j hi hj hne => absurd (show i = j by omega) hne) hAo
  obtain ⟨G, hG⟩ : ∃ G : GG, G = ((dC, dI), (cI, cII), adK, adV) := ⟨_, rfl⟩
  have hK : va_K G.1 classes (gty G) s := by
    subst hG
    refine ⟨hKc, fun k q hq => ?_⟩
    match k, hq with
    | 0, hq => cases hq; exact hAI
    | 1, hq => cases hq; exact hAII
    | k + 2, hq => simp [gty] at hq
  have hxt : xt G (LA s) s s.heap := by
    subst hG
    refine ⟨va_Zof (hlw 273 _ rfl) (hlw 43 _ rfl) (va_eqi (hsg _ (by decide +kernel))) hAo, hSt, vk_R.of (hlw 259 _ rfl) (hev 0 (by decide)), va_Nw.of rfl (hlw 354 _ rfl)⟩
  have hxn : xn s := ⟨va_Nw.of rfl (hlw 61 _ rfl), va_Nw.of rfl (hlw 77 _ rfl), va_Nw.of rfl (hlw 83 _ rfl), va_Nw.of rfl (hlw 123 _ rfl), va_Nw.of rfl (hlw 180 _ rfl), va_Nw.of rfl (hlw 183 _ rfl), over_moved (Vm.Alike.refl s.vm) hov⟩
  have hl := lv_entry ([.ref b]) (n := 4) (Nat.le_of_ble_eq_true rfl)
  rw [lg_entry_eq]
  generalize (lg_sl ([.ref b]) ++ List.replicate (4 - (lg_sl ([.ref b])).length) Slot.unset).toArray = ls at hl ⊢
  have hl : lv_has ls 4 [(0, .ref b)] := hl
  have hW0 : Wo G (LA s) s [] s.heap [] := ⟨fun k q h => by simp at h, ⟨fun i j p q h => by simp at h, fun k q h => by simp at h⟩, va_S.rf⟩
  refine w_newI (Mc := mX6_init) (i2 := 9) (own := R_law) (rest := []) hx hb hml hown htb (fun q h => h) hK hxt hxn hl.1 hW0 ⟨RX6, TX6, 12, tyX6, rfl, uw_6, tyX6_ok, tb_in 51 rfl rfl, tb_in 52 rfl rfl, tb_in 34 rfl rfl, df_X6, rfl, rfl⟩ (Or.inl (tb_in 53 rfl rfl)) im_X6 k_X6 ⟨Nat.le_of_ble_eq_true rfl, Nat.le_of_ble_eq_true rfl⟩ ⟨Nat.le_of_ble_eq_true rfl, Nat.le_of_ble_eq_true rfl⟩ (Nat.le_of_ble_eq_true rfl) dL_law_0 dL_law_3 dL_law_4 (fun q w1 H1 locs1 hq hW1 => ?_)
  obtain ⟨adc, rfl, rfl⟩ := hq
  refine lv_astore_n (lv' := [(1, .ref (adc 0)), (0, .ref b)]) hx hb dL_law_7 rfl hl (by decide) rfl (fun ls hl => ?_)
  refine w_newI (Mc := mX7_init) (i2 := 12) (own := R_law) (rest := []) hx hb hml hown htb (fun q h => h) hK hxt hxn hl.1 hW1 ⟨RX7, TX7, 30, tyX7, rfl, uw_7, tyX7_ok, tb_in 630 rfl rfl, tb_in 631 rfl rfl, tb_in 42 rfl rfl, df_X7, rfl, rfl⟩ (Or.inl (tb_in 632 rfl rfl)) im_X7 k_X7 ⟨Nat.le_of_ble_eq_true rfl, Nat.le_of_ble_eq_true rfl⟩ ⟨Nat.le_of_ble_eq_true rfl, Nat.le_of_ble_eq_true rfl⟩ (Nat.le_of_ble_eq_true rfl) dL_law_8 dL_law_11 dL_law_12 (fun q w1 H2 locs2 hq hW2 => ?_)
  obtain ⟨adm, rfl, rfl⟩ := hq
  refine lv_astore_n (lv' := [(2, .ref (adm 0)), (1, .ref (adc 0)), (0, .ref b)]) hx hb dL_law_15 rfl hl (by decide) rfl (fun ls hl => ?_)
  refine lv_iconst (v := 0) hx hb dL_law_16 (by decide) ?_
  refine lv_istore_n (lv' := [(3, .int 0), (2, .ref (adm 0)), (1, .ref (adc 0)), (0, .ref b)]) hx hb dL_law_17 rfl hl (by decide) rfl (fun ls hl => ?_)
  exact law_head ⟨C0, htb, hK, hxt, hxn, hL⟩ (L + 1) 0 (by omega) (by omega) _ _ 0 c00 adc adm H2 locs2 ls Rel_0 (lv_sub hl [3, 2, 1, 0] rfl) hW2
