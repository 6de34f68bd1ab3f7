set_option maxRecDepth 20000 in
theorem sg_J1_canEncode_9a6ad_0 {G : GG} {ad : Nat → Nat} {x0 : Int32} {Q : Option Value → va_W → Prop} (H : (((x0 < 0) → Q (some (.int 0)) ([] : va_W)) ∧ ((¬ x0 < 0) → (((255 < x0) → Q (some (.int 0)) ([] : va_W)) ∧ ((¬ 255 < x0) → Q (some (.int 1)) ([] : va_W)))))) : J G mJ1_canEncode_9a6ad 0 [(0, .int x0)] [] ([] : va_W) Q := by
  refine j_iload_n 0 dJ1_canEncode_9a6ad_0 rfl rfl ?_
  refine j_if_lt (tgt := 15) dJ1_canEncode_9a6ad_1 (by decide) (fun c_1 => ?_) (fun c_1 => ?_)
  · have H := H.1 c_1
    refine j_iconst (v := 0) dJ1_canEncode_9a6ad_15 (by decide) ?_
    exact j_zret dJ1_canEncode_9a6ad_16 rfl (by decide) H
  · have H := H.2 c_1
    refine j_iload_n 0 dJ1_canEncode_9a6ad_4 rfl rfl ?_
    refine j_sipush (v := 255) dJ1_canEncode_9a6ad_5 (by decide) ?_
    refine j_icmp_gt (tgt := 15) dJ1_canEncode_9a6ad_8 (by decide) (fun c_2 => ?_) (fun c_2 => ?_)
    · have H := H.1 c_2
      refine j_iconst (v := 0) dJ1_canEncode_9a6ad_15 (by decide) ?_
      exact j_zret dJ1_canEncode_9a6ad_16 rfl (by decide) H
    · have H := H.2 c_2
      refine j_iconst (v := 1) dJ1_canEncode_9a6ad_11 (by decide) ?_
      refine j_goto (tgt := 16) dJ1_canEncode_9a6ad_12 (by decide) ?_
      exact j_zret dJ1_canEncode_9a6ad_16 rfl (by decide) H
set_option maxRecDepth 20000 in
theorem sg_J7_fill_53178_0 {G : GG} {ad : Nat → Nat} {f0 : Nat → Int32} {L0 : Nat} {x1 : Int32} {Q : Option Value → va_W → Prop} (H : J G mJ7_fill_53178 5 [(0, .ref (ad 0)), (1, .int x1), (2, .int 0), (3, .int (nI L0))] [] (arW G ad 0 L0 f0) Q) : J G mJ7_fill_53178 0 [(0, .ref (ad 0)), (1, .int x1)] [] (arW G ad 0 L0 f0) Q := by
  refine j_iconst (v := 0) dJ7_fill_53178_0 (by decide) ?_
  refine j_istore_n (lo' := [(2, .int 0), (0, .ref (ad 0)), (1, .int x1)]) dJ7_fill_53178_1 rfl (by decide) rfl ?_
  refine j_aload_n 1 dJ7_fill_53178_2 rfl rfl ?_
  refine j_alen (v := (nI L0)) 0 dJ7_fill_53178_3 rfl rfl ?_
  refine j_istore_n (lo' := [(3, .int (nI L0)), (2, .int 0), (0, .ref (ad 0)), (1, .int x1)]) dJ7_fill_53178_4 rfl (by decide) rfl ?_
  refine j_lo [2, 3, 1, 0] rfl ?_
  exact H
set_option maxRecDepth 20000 in
theorem sg_J7_fill_53178_5 {G : GG} {ad : Nat → Nat} {f0 : Nat → Int32} {L0 : Nat} {x1 : Int32} {x2 : Int32} {x3 : Int32} {Q : Option Value → va_W → Prop} (H : (((x3 ≤ x2) → Q none (arW G ad 0 L0 f0)) ∧ ((¬ x3 ≤ x2) → (vp_in x2 L0) ∧ J G mJ7_fill_53178 5 [(0, .ref (ad 0)), (1, .int x1), (2, .int (x2 + 1)), (3, .int x3)] [] (arW G ad 0 L0 (upd f0 (Int32.toNatClampNeg x2) x1)) Q))) : J G mJ7_fill_53178 5 [(0, .ref (ad 0)), (1, .int x1), (2, .int x2), (3, .int x3)] [] (arW G ad 0 L0 f0) Q := by
  refine j_iload_n 2 dJ7_fill_53178_5 rfl rfl ?_
  refine j_iload_n 3 dJ7_fill_53178_6 rfl rfl ?_
  refine j_icmp_ge (tgt := 20) dJ7_fill_53178_7 (by decide) (fun c_1 => ?_) (fun c_1 => ?_)
  · have H := H.1 c_1
    exact j_vret dJ7_fill_53178_20 rfl H
  · have H := H.2 c_1
    refine j_aload_n 0 dJ7_fill_53178_10 rfl rfl ?_
    refine j_iload_n 2 dJ7_fill_53178_11 rfl rfl ?_
    refine j_iload_n 1 dJ7_fill_53178_12 rfl rfl ?_
    obtain ⟨h_2, H⟩ := H
    refine j_iast (w' := (arW G ad 0 L0 (upd f0 (Int32.toNatClampNeg x2) x1))) 0 dJ7_fill_53178_13 rfl h_2 rfl ?_
    refine j_iinc (v := (x2 + 1)) (lo' := [(2, .int (x2 + 1)), (0, .ref (ad 0)), (1, .int x1), (3, .int x3)]) 2 dJ7_fill_53178_14 rfl rfl (by decide) rfl ?_
    refine j_goto (tgt := 5) dJ7_fill_53178_17 (by decide) ?_
    refine j_lo [1, 2, 0, 3] rfl ?_
    exact H
