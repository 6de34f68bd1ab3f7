def kbC (c : Int32) : Int32 := if c = 103 then 0 else if c = 98 then 1 else if c = 115 then 2 else if c = 116 then 3 else if c = 100 then 4 else -1
set_option maxRecDepth 20000 in
theorem tb_272 : (Jvm.Cond.fieldLink "java/lang/String" (38 : Nat) "java/lang/String" "COMPACT_STRINGS" "Z") ∈ tb := tb_in 272 rfl rfl
set_option maxRecDepth 20000 in
theorem tb_936 : (Jvm.Cond.fieldLink "java/lang/String" (15 : Nat) "java/lang/String" "coder" "B") ∈ tb := tb_in 936 rfl rfl
set_option maxRecDepth 20000 in
theorem tb_937 : (Jvm.Cond.fieldLink "java/lang/String" (9 : Nat) "java/lang/String" "value" "[B") ∈ tb := tb_in 937 rfl rfl
section JS
variable {G : GG} {M : Mt} {pc : Nat} {lo : List (Nat × Value)} {st st0 As : List Value} {w : va_W} {Q : Option Value → va_W → Prop}
def bys : List Int32 := [103, 98, 115, 116, 100]
theorem j_gstat (hM : M.1.cls = RJ0) (hd : decode M.2.1 pc = .ok (.getstatic 38, 3)) (k : J G M (pc + 3) lo (.int 1 :: st) w Q) : J G M pc lo st w Q := fun p l e s m args below meth c A C H locs ls hl hW => va_gets (C := "java/lang/String") (n := "COMPACT_STRINGS") (d := "Z") (ref := "java/lang/String") (own := M.1.cls) C.1 C.2.1 C.2.2.2.2.2.2.2.2.2.1 hW.2.2 C.2.2.2.2.1 (C.2.2.2.2.2.1 _ (by rw [hM]; exact tb_272)) (fun _ h => h) hd (k p l e s m args below meth c A C H locs ls hl hW)
theorem j_scod (hM : M.1.cls = RJ0) (hd : decode M.2.1 pc = .ok (.getfield 15, 3)) (k : J G M (pc + 3) lo (.int 0 :: st) w Q) : J G M pc lo (.ref (G.2.2.1 0) :: st) w Q := fun p l e s m args below meth c A C H locs ls hl hW => vk_getf (o := "java/lang/String") (n := "coder") (d := "B") (ref := "java/lang/String") (own := M.1.cls) C.1 C.2.1 (C.2.2.2.2.2.2.2.2.2.2.1.1 0 (by omega)).2.1 hW.2.2 C.2.2.2.2.1 (C.2.2.2.2.2.1 _ (by rw [hM]; exact tb_936)) (fun _ h => h) hd (k p l e s m args below meth c A C H locs ls hl hW)
theorem j_sval (hM : M.1.cls = RJ0) (hd : decode M.2.1 pc = .ok (.getfield 9, 3)) (k : J G M (pc + 3) lo (.ref (G.2.2.2 0) :: st) w Q) : J G M pc lo (.ref (G.2.2.1 0) :: st) w Q := fun p l e s m args below meth c A C H locs ls hl hW => vk_getf (o := "java/lang/String") (n := "value") (d := "[B") (ref := "java/lang/String") (own := M.1.cls) C.1 C.2.1 (C.2.2.2.2.2.2.2.2.2.2.1.1 0 (by omega)).2.2.1 hW.2.2 C.2.2.2.2.1 (C.2.2.2.2.2.1 _ (by rw [hM]; exact tb_937)) (fun _ h => h) hd (k p l e s m args below meth c A C H locs ls hl hW)
theorem j_slen (hd : decode M.2.1 pc = .ok (.arraylength, 1)) (k : J G M (pc + 1) lo (.int 5 :: st) w Q) : J G M pc lo (.ref (G.2.2.2 0) :: st) w Q := fun p l e s m args below meth c A C H locs ls hl hW => va_tlen C.1 C.2.1 (C.2.2.2.2.2.2.2.2.2.2.1.1 0 (by omega)).2.2.2 hW.2.2 (v := 5) (by decide) hd (k p l e s m args below meth c A C H locs ls hl hW)
theorem j_sbal {i : Int32} (hin : vp_in i 5) (hd : decode M.2.1 pc = .ok (.baload, 1)) (k : J G M (pc + 1) lo (.int (bys.getD i.toNatClampNeg 0) :: st) w Q) : J G M pc lo (.int i :: .ref (G.2.2.2 0) :: st) w Q := fun p l e s m args below meth c A C H locs ls hl hW => va_tb C.1 C.2.1 (C.2.2.2.2.2.2.2.2.2.2.1.1 0 (by omega)).2.2.2 hW.2.2 hin rfl hd (k p l e s m args below meth c A C H locs ls hl hW)
theorem j_ldcS (hM : M.1.cls = RX2) (hd : decode M.2.1 pc = .ok (.ldc 30, 2)) (k : J G M (pc + 2) lo (.ref (G.2.2.1 0) :: st) w Q) : J G M pc lo st w Q := fun p l e s m args below meth c A C H locs ls hl hW => va_ldcS C.1 C.2.1 C.2.2.2.2.1 (by rw [hM]; exact C.2.2.2.2.2.2.2.2.2.2.2.1) hd (k p l e s m args below meth c A C H locs ls hl hW)
/-- a call on the text -/
theorem j_callVS {Mc : Mt} {n idx : Nat} (hM : ML Mc n) (hV : VL M.1.cls idx Mc) (hcl : "java/lang/String" = Mc.1.cls) (hd : decode M.2.1 pc = .ok (.invokevirtual idx, 3)) (hlen : (lg_sl (.ref (G.2.2.1 0) :: As)).length ≤ Mc.2.2.1) (hR : Mc.2.2.2.2.frames + 1 ≤ M.2.2.2.2.frames ∧ 8 + (Mc.2.2.1 + 11) + Mc.2.2.2.2.locals ≤ M.2.2.2.2.locals) (hn : As.length = n) (hst : st0 = As.reverse ++ .ref (G.2.2.1 0) :: st) (hcat : (st.map fun v => v.category).sum ≤ 8)
    (hJ : J G Mc 0 (lv_args 0 (.ref (G.2.2.1 0) :: As)) [] [] (fun v w1 => J G M (pc + 3) lo (v.toList ++ st) w Q)) : J G M pc lo st0 w Q := fun p l e s m args below meth c A C H locs ls hl hW => by
  have hC : Lay w [] [] := ⟨by cases w <;> rfl, Nat.zero_le _, rfl, rfl⟩
  obtain ⟨hP, hD, hS⟩ := hW
  have hF : ∀ q, va_A [] H.size q → A q := hC.free hD hS C.2.2.2.2.2.2.2.1
  have hDc : va_D (fun _ => True) ([] : va_W) := (hC.D hD).weaken (fun _ _ _ _ => trivial)
  subst hst
  have hts := C.2.2.2.2.2.1
  have cw : CallW M.2.2.2.2 s args M.1.cls Mc.1.cls idx Mc.1 Mc.2.1 Mc.2.2.1 Mc.2.2.2.1 (.code Mc.1 Mc.2.1 Mc.2.2.1 Mc.2.2.2.1 :: tb) Mc.2.2.2.2 0 0 n :=
    ⟨callB_of n hts (ws_good hM.2.1) rfl hM.2.2.2.1 hM.2.2.2.2.1 (hts _ hM.1) (hts _ hV.1) hM.2.2.1 hR, hts _ hV.2.1, hts _ hV.2.2⟩
  have hrecv := vk_recv (i := 0) C.2.2.2.2.2.2.2.2.2.2.1 (by omega) hS
  rw [hcl] at hrecv
  refine va_callJ (va_runV (As := As) (rest := st) (Ts := tb) (own := M.1.cls) ⟨C.1, C.2.1, C.2.2.1, C.2.2.2.2.1, hts⟩ (met_J (l := l) hJ hlen hM.2.2.2.2.2 H.size) cw ⟨fun a U g mk q => ?_, hrecv, fun U hU hW2 => ?_⟩ rfl hn hl.1 rfl (lv_room hcat) hd ⟨Nat.zero_le _, Nat.zero_le _⟩) hS hF (fun v w1 H1 locs1 h1 h2 h3 h4 h5 => ?_)
  · obtain ⟨q0, q1, qP, qK, qD, qX⟩ := q
    exact ⟨q0, q1, qP, va_K.moved (u := U) (U := U.calling g mk a) (Vm.Alike.refl U.vm) qK, qD, xt.call g mk a qX⟩
  · exact ⟨rfl, by rw [hU], by rw [hU]; exact hC.P hP, va_K.moved hW2.alike C.2.2.2.2.2.2.2.2.1, hDc, by rw [hU]; exact xt.warm hW2 ((C.2.2.2.2.2.2.2.2.2.kept hS.2.1).narrow hF)⟩
  · obtain ⟨h6, h7⟩ := hC.join hP hD h4 h3 h2
    have e : mrg w w1 [] = w := by cases w <;> rfl
    rw [e] at h6
    exact J.at h1 rfl C hl ⟨h6, hD, h5⟩
end JS
theorem t_isLatin1 {G : GG} {Q : Option Value → va_W → Prop} (h : Q (some (.int 1)) []) : J G mJ0_isLatin1_aae02 0 [(0, .ref (G.2.2.1 0))] [] [] Q := by
  refine j_gstat rfl dJ0_isLatin1_aae02_0 ?_
  refine j_if_eq (tgt := 17) dJ0_isLatin1_aae02_3 (by decide) (fun c => absurd c (by decide)) (fun _ => ?_)
  refine j_aload_n 0 dJ0_isLatin1_aae02_6 rfl rfl ?_
  refine j_scod rfl dJ0_isLatin1_aae02_7 ?_
  refine j_if_ne (tgt := 17) dJ0_isLatin1_aae02_10 (by decide) (fun c => absurd rfl c) (fun _ => ?_)
  refine j_iconst (v := 1) dJ0_isLatin1_aae02_13 (by decide) ?_
  refine j_goto (tgt := 18) dJ0_isLatin1_aae02_14 (by decide) ?_
  exact j_zret dJ0_isLatin1_aae02_18 rfl (by decide) h
theorem t_coder {G : GG} {Q : Option Value → va_W → Prop} (h : Q (some (.int 0)) []) : J G mJ0_coder_7d493 0 [(0, .ref (G.2.2.1 0))] [] [] Q := by
  refine j_gstat rfl dJ0_coder_7d493_0 ?_
  refine j_if_eq (tgt := 13) dJ0_coder_7d493_3 (by decide) (fun c => absurd c (by decide)) (fun _ => ?_)
  refine j_aload_n 0 dJ0_coder_7d493_6 rfl rfl ?_
  refine j_scod rfl dJ0_coder_7d493_7 ?_
  refine j_goto (tgt := 14) dJ0_coder_7d493_10 (by decide) ?_
  exact j_zret dJ0_coder_7d493_14 rfl (by decide) h
theorem t_length {G : GG} {Q : Option Value → va_W → Prop} (h : Q (some (.int 5)) []) : J G mJ0_length_8abf5 0 [(0, .ref (G.2.2.1 0))] [] [] Q := by
  refine j_aload_n 0 dJ0_length_8abf5_0 rfl rfl ?_
  refine j_sval rfl dJ0_length_8abf5_1 ?_
  refine j_slen dJ0_length_8abf5_4 ?_
  refine j_aload_n 0 dJ0_length_8abf5_5 rfl rfl ?_
  refine j_callVS (As := []) (st := [.int 5]) ml_J0_coder_7d493 vl_J0_335 rfl dJ0_length_8abf5_6 (Nat.le_of_ble_eq_true rfl) ⟨by decide, by decide⟩ rfl rfl (Nat.le_of_ble_eq_true rfl) (t_coder ?_)
  refine j_ishr dJ0_length_8abf5_9 ?_
  refine j_top (y := 5) (by decide) ?_
  exact j_iret dJ0_length_8abf5_10 rfl h
theorem t_canEncode {G : GG} {x : Nat} {Q : Option Value → va_W → Prop} (hx : x < 256) (h : Q (some (.int 1)) []) : J G mJ1_canEncode_9a6ad 0 [(0, .int (nI x))] [] [] Q :=
  sg_J1_canEncode_9a6ad_0 (ad := fun q => q) (br_f (nI_pos (by omega)) (br_f (nI_nlt (a := 255) (b := x) (by omega) (by omega)) h))
theorem t_indexOfChar {G : GG} {x : Nat} {Q : Option Value → va_W → Prop} (hx : x < 128) (h : Q (some (.int (kbC (nI x)))) []) : J G mJ1_indexOfChar_4cfef 0 [(0, .ref (G.2.2.2 0)), (1, .int (nI x)), (2, .int 0), (3, .int 5)] [] [] Q := by
  refine j_iload_n 1 dJ1_indexOfChar_4cfef_0 rfl rfl ?_
  refine j_i2b dJ1_indexOfChar_4cfef_1 ?_
  refine j_top (y := nI x) (by
    have : ∀ n, n < 128 → (nI n).toInt8.toInt32 = nI n := by decide +kernel
    exact this x hx) ?_
  refine j_istore (lo' := [(4, .int (nI x)), (0, .ref (G.2.2.2 0)), (1, .int (nI x)), (2, .int 0), (3, .int 5)]) dJ1_indexOfChar_4cfef_2 (by decide) rfl ?_
  refine j_iload_n 3 dJ1_indexOfChar_4cfef_4 rfl rfl ?_
  refine j_istore (lo' := [(5, .int 0), (4, .int (nI x)), (0, .ref (G.2.2.2 0)), (1, .int (nI x)), (2, .int 0), (3, .int 5)]) dJ1_indexOfChar_4cfef_5 (by decide) rfl ?_
  have out : J G mJ1_indexOfChar_4cfef 7 [(5, .int 5), (4, .int (nI x)), (0, .ref (G.2.2.2 0)), (1, .int (nI x)), (2, .int 0), (3, .int 5)] [] [] (fun v w => v = some (.int (-1)) ∧ w = []) := by
    refine j_iload 0 dJ1_indexOfChar_4cfef_7 rfl ?_
    refine j_iload_n 5 dJ1_indexOfChar_4cfef_9 rfl rfl ?_
    refine j_icmp_ge (tgt := 31) dJ1_indexOfChar_4cfef_10 (by decide) (fun _ => ?_) (fun c => absurd (by decide) c)
    refine j_iconst (v := (-1)) dJ1_indexOfChar_4cfef_31 (by decide) ?_
    exact j_iret dJ1_indexOfChar_4cfef_32 rfl ⟨rfl, rfl⟩
  have stp : ∀ (k : Nat) (R : Int32), k < 5 → (bys.getD k 0 = nI x → R = nI k) → (¬ bys.getD k 0 = nI x → J G mJ1_indexOfChar_4cfef 7 [(5, .int (nI (k + 1))), (4, .int (nI x)), (0, .ref (G.2.2.2 0)), (1, .int (nI x)), (2, .int 0), (3, .int 5)] [] [] (fun v w => v = some (.int R) ∧ w = [])) → J G mJ1_indexOfChar_4cfef 7 [(5, .int (nI k)), (4, .int (nI x)), (0, .ref (G.2.2.2 0)), (1, .int (nI x)), (2, .int 0), (3, .int 5)] [] [] (fun v w => v = some (.int R) ∧ w = []) := by
    intro k R hk h1 h2
    refine j_iload 0 dJ1_indexOfChar_4cfef_7 rfl ?_
    refine j_iload_n 5 dJ1_indexOfChar_4cfef_9 rfl rfl ?_
    refine j_icmp_ge (tgt := 31) dJ1_indexOfChar_4cfef_10 (by decide) (fun c => absurd c (ge5 hk)) (fun _ => ?_)
    refine j_aload_n 2 dJ1_indexOfChar_4cfef_13 rfl rfl ?_
    refine j_iload 0 dJ1_indexOfChar_4cfef_14 rfl ?_
    refine j_sbal (vp_in_nI hk (by omega)) dJ1_indexOfChar_4cfef_16 ?_
    refine j_iload 1 dJ1_indexOfChar_4cfef_17 rfl ?_
    rw [nI_clamp (by omega)]
    refine j_icmp_ne (tgt := 25) dJ1_indexOfChar_4cfef_19 (by decide) (fun c => ?_) (fun c => ?_)
    · refine j_iinc (v := nI k + 1) (lo' := [(5, .int (nI k + 1)), (4, .int (nI x)), (0, .ref (G.2.2.2 0)), (1, .int (nI x)), (2, .int 0), (3, .int 5)]) 0 dJ1_indexOfChar_4cfef_25 rfl rfl (by decide) rfl ?_
      refine j_goto (tgt := 7) dJ1_indexOfChar_4cfef_28 (by decide) ?_
      rw [← nI_succ]
      exact h2 c
    · refine j_iload 0 dJ1_indexOfChar_4cfef_22 rfl ?_
      exact j_iret dJ1_indexOfChar_4cfef_24 rfl ⟨by rw [h1 c], rfl⟩
  have H : J G mJ1_indexOfChar_4cfef 7 [(5, .int (nI 0)), (4, .int (nI x)), (0, .ref (G.2.2.2 0)), (1, .int (nI x)), (2, .int 0), (3, .int 5)] [] [] (fun v w => v = some (.int (kbC (nI x))) ∧ w = []) := by
    have b : ∀ (k : Nat) (y : Int32), bys.getD k 0 = y → (bys.getD k 0 = nI x ↔ nI x = y) := fun k y e => by rw [e]; exact eq_comm
    refine stp 0 _ (by omega) (fun c => ?_) (fun c0 => ?_)
    · have c := (b 0 103 rfl).mp c
      simp only [kbC]; rw [if_pos c]; rfl
    have c0 := (not_congr (b 0 103 rfl)).mp c0
    refine stp 1 _ (by omega) (fun c => ?_) (fun c1 => ?_)
    · have c := (b 1 98 rfl).mp c
      simp only [kbC]; rw [if_neg c0, if_pos c]; rfl
    have c1 := (not_congr (b 1 98 rfl)).mp c1
    refine stp 2 _ (by omega) (fun c => ?_) (fun c2 => ?_)
    · have c := (b 2 115 rfl).mp c
      simp only [kbC]; rw [if_neg c0, if_neg c1, if_pos c]; rfl
    have c2 := (not_congr (b 2 115 rfl)).mp c2
    refine stp 3 _ (by omega) (fun c => ?_) (fun c3 => ?_)
    · have c := (b 3 116 rfl).mp c
      simp only [kbC]; rw [if_neg c0, if_neg c1, if_neg c2, if_pos c]; rfl
    have c3 := (not_congr (b 3 116 rfl)).mp c3
    refine stp 4 _ (by omega) (fun c => ?_) (fun c4 => ?_)
    · have c := (b 4 100 rfl).mp c
      simp only [kbC]; rw [if_neg c0, if_neg c1, if_neg c2, if_neg c3, if_pos c]; rfl
    have c4 := (not_congr (b 4 100 rfl)).mp c4
    have e : kbC (nI x) = -1 := by simp only [kbC]; rw [if_neg c0, if_neg c1, if_neg c2, if_neg c3, if_neg c4]
    rw [e]
    exact out
  exact H.mono (fun v w hq => by obtain ⟨rfl, rfl⟩ := hq; exact h)
theorem t_latinIndexOf {G : GG} {x : Nat} {Q : Option Value → va_W → Prop} (hx : x < 128) (h : Q (some (.int (kbC (nI x)))) []) : J G mJ1_indexOf_4cfef 0 [(0, .ref (G.2.2.2 0)), (1, .int (nI x)), (2, .int 0), (3, .int 5)] [] [] Q := by
  refine j_iload_n 1 dJ1_indexOf_4cfef_0 rfl rfl ?_
  refine j_callS0 (As := [.int (nI x)]) (st := []) ml_J1_canEncode_9a6ad sl_J1_88 dJ1_indexOf_4cfef_1 (Nat.le_of_ble_eq_true rfl) ⟨by decide, by decide⟩ rfl rfl (Nat.le_of_ble_eq_true rfl) (t_canEncode (by omega) ?_)
  refine j_if_ne (tgt := 9) dJ1_indexOf_4cfef_4 (by decide) (fun _ => ?_) (fun c => absurd c (by decide))
  refine j_iload_n 2 dJ1_indexOf_4cfef_9 rfl rfl ?_
  refine j_iconst (v := 0) dJ1_indexOf_4cfef_10 (by decide) ?_
  refine j_mmax mm_J1_92 mmax_w dJ1_indexOf_4cfef_11 (by decide) (Nat.le_of_ble_eq_true rfl) ?_
  refine j_top (y := 0) (by decide) ?_
  refine j_istore_n (lo' := [(2, .int 0), (0, .ref (G.2.2.2 0)), (1, .int (nI x)), (3, .int 5)]) dJ1_indexOf_4cfef_14 rfl (by decide) rfl ?_
  refine j_iload_n 3 dJ1_indexOf_4cfef_15 rfl rfl ?_
  refine j_aload_n 1 dJ1_indexOf_4cfef_16 rfl rfl ?_
  refine j_slen dJ1_indexOf_4cfef_17 ?_
  refine j_mmin mm_J1_38 mmin_w dJ1_indexOf_4cfef_18 (by decide) (Nat.le_of_ble_eq_true rfl) ?_
  refine j_top (y := 5) (by decide) ?_
  refine j_istore_n (lo' := [(3, .int 5), (2, .int 0), (0, .ref (G.2.2.2 0)), (1, .int (nI x))]) dJ1_indexOf_4cfef_21 rfl (by decide) rfl ?_
  refine j_iload_n 1 dJ1_indexOf_4cfef_22 rfl rfl ?_
  refine j_iload_n 0 dJ1_indexOf_4cfef_23 rfl rfl ?_
  refine j_icmp_lt (tgt := 29) dJ1_indexOf_4cfef_24 (by decide) (fun _ => ?_) (fun c => absurd (by decide) c)
  refine j_aload_n 2 dJ1_indexOf_4cfef_29 rfl rfl ?_
  refine j_iload_n 3 dJ1_indexOf_4cfef_30 rfl rfl ?_
  refine j_iload_n 1 dJ1_indexOf_4cfef_31 rfl rfl ?_
  refine j_iload_n 0 dJ1_indexOf_4cfef_32 rfl rfl ?_
  refine j_callS0 (As := [.ref (G.2.2.2 0), .int (nI x), .int 0, .int 5]) (st := []) ml_J1_indexOfChar_4cfef sl_J1_95 dJ1_indexOf_4cfef_33 (Nat.le_of_ble_eq_true rfl) ⟨by decide, by decide⟩ rfl rfl (Nat.le_of_ble_eq_true rfl) (t_indexOfChar hx ?_)
  exact j_iret dJ1_indexOf_4cfef_36 rfl h
theorem t_indexOf2 {G : GG} {x : Nat} {Q : Option Value → va_W → Prop} (hx : x < 128) (h : Q (some (.int (kbC (nI x)))) []) : J G mJ0_indexOf_7cf53 0 [(0, .ref (G.2.2.1 0)), (1, .int (nI x)), (2, .int 0)] [] [] Q := by
  refine j_aload_n 0 dJ0_indexOf_7cf53_0 rfl rfl ?_
  refine j_callVS (As := []) (st := []) ml_J0_isLatin1_aae02 vl_J0_492 rfl dJ0_indexOf_7cf53_1 (Nat.le_of_ble_eq_true rfl) ⟨by decide, by decide⟩ rfl rfl (Nat.le_of_ble_eq_true rfl) (t_isLatin1 ?_)
  refine j_if_eq (tgt := 23) dJ0_indexOf_7cf53_4 (by decide) (fun c => absurd c (by decide)) (fun _ => ?_)
  refine j_aload_n 0 dJ0_indexOf_7cf53_7 rfl rfl ?_
  refine j_sval rfl dJ0_indexOf_7cf53_8 ?_
  refine j_iload_n 1 dJ0_indexOf_7cf53_11 rfl rfl ?_
  refine j_iload_n 2 dJ0_indexOf_7cf53_12 rfl rfl ?_
  refine j_aload_n 0 dJ0_indexOf_7cf53_13 rfl rfl ?_
  refine j_callVS (As := []) (st := [.int 0, .int (nI x), .ref (G.2.2.2 0)]) ml_J0_length_8abf5 vl_J0_505 rfl dJ0_indexOf_7cf53_14 (Nat.le_of_ble_eq_true rfl) ⟨by decide, by decide⟩ rfl rfl (Nat.le_of_ble_eq_true rfl) (t_length ?_)
  refine j_callS0 (As := [.ref (G.2.2.2 0), .int (nI x), .int 0, .int 5]) (st := []) ml_J1_indexOf_4cfef sl_J0_637 dJ0_indexOf_7cf53_17 (Nat.le_of_ble_eq_true rfl) ⟨by decide, by decide⟩ rfl rfl (Nat.le_of_ble_eq_true rfl) (t_latinIndexOf hx ?_)
  refine j_goto (tgt := 36) dJ0_indexOf_7cf53_20 (by decide) ?_
  exact j_iret dJ0_indexOf_7cf53_36 rfl h
theorem t_indexOf {G : GG} {x : Nat} {Q : Option Value → va_W → Prop} (hx : x < 128) (h : Q (some (.int (kbC (nI x)))) []) : J G mJ0_indexOf_0f7a4 0 [(0, .ref (G.2.2.1 0)), (1, .int (nI x))] [] [] Q := by
  refine j_aload_n 0 dJ0_indexOf_0f7a4_0 rfl rfl ?_
  refine j_iload_n 1 dJ0_indexOf_0f7a4_1 rfl rfl ?_
  refine j_iconst (v := 0) dJ0_indexOf_0f7a4_2 (by decide) ?_
  refine j_callVS (As := [.int (nI x), .int 0]) (st := []) ml_J0_indexOf_7cf53 vl_J0_633 rfl dJ0_indexOf_0f7a4_3 (Nat.le_of_ble_eq_true rfl) ⟨by decide, by decide⟩ rfl rfl (Nat.le_of_ble_eq_true rfl) (t_indexOf2 hx ?_)
  exact j_iret dJ0_indexOf_0f7a4_6 rfl h
