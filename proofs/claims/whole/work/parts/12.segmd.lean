set_option maxRecDepth 20000 in
theorem sg_X7_in_0 {G : GG} {ad : Nat → Nat} {x0 : Int64} {x2 : Int64} {x4 : Int64} {Q : Option Value → va_W → Prop} (H : ((((lg_cmp x0 x2) < 0) → Q (some (.int 0)) ([] : va_W)) ∧ ((¬ (lg_cmp x0 x2) < 0) → (((0 < (lg_cmp x0 x4)) → Q (some (.int 0)) ([] : va_W)) ∧ ((¬ 0 < (lg_cmp x0 x4)) → Q (some (.int 1)) ([] : va_W)))))) : J G mX7_in 0 [(0, .long x0), (2, .long x2), (4, .long x4)] [] ([] : va_W) Q := by
  refine j_lload_n 0 dX7_in_0 rfl rfl ?_
  refine j_lload_n 1 dX7_in_1 rfl rfl ?_
  refine j_lcmp dX7_in_2 ?_
  refine j_if_lt (tgt := 17) dX7_in_3 (by decide) (fun c_1 => ?_) (fun c_1 => ?_)
  · have H := H.1 c_1
    refine j_iconst (v := 0) dX7_in_17 (by decide) ?_
    exact j_zret dX7_in_18 rfl (by decide) H
  · have H := H.2 c_1
    refine j_lload_n 0 dX7_in_6 rfl rfl ?_
    refine j_lload 2 dX7_in_7 rfl ?_
    refine j_lcmp dX7_in_9 ?_
    refine j_if_gt (tgt := 17) dX7_in_10 (by decide) (fun c_2 => ?_) (fun c_2 => ?_)
    · have H := H.1 c_2
      refine j_iconst (v := 0) dX7_in_17 (by decide) ?_
      exact j_zret dX7_in_18 rfl (by decide) H
    · have H := H.2 c_2
      refine j_iconst (v := 1) dX7_in_13 (by decide) ?_
      refine j_goto (tgt := 18) dX7_in_14 (by decide) ?_
      exact j_zret dX7_in_18 rfl (by decide) H
set_option maxRecDepth 20000 in
theorem sg_X7_isGutter_0 {G : GG} {ad : Nat → Nat} {a : Nat → Nat → Int32} {v : Nat → Int32} {hh : Int64} {x1 : Int32} {Q : Option Value → va_W → Prop} (H : ((((v 1) = 0) → Q (some (.int 0)) (mdW G ad 0 a v hh)) ∧ ((¬ (v 1) = 0) → J G mX7_in 0 [(0, .long (Int32.toInt64 x1)), (2, .long 0), (4, .long 5)] [] ([] : va_W) (fun v_ w_ => ∃ (r_2 : Int32), v_ = some (.int r_2) ∧ w_ = ([] : va_W) ∧ (((r_2 = 0) → Q (some (.int 0)) (mdW G ad 0 a v hh)) ∧ ((¬ r_2 = 0) → Q (some (.int 1)) (mdW G ad 0 a v hh))))))) : J G mX7_isGutter 0 [(0, .ref (ad 0)), (1, .int x1)] [] (mdW G ad 0 a v hh) Q := by
  refine j_aload_n 0 dX7_isGutter_0 rfl rfl ?_
  refine j_get 0 fl_X7_101 dX7_isGutter_1 rfl rfl ?_
  refine j_if_eq (tgt := 23) dX7_isGutter_4 (by decide) (fun c_1 => ?_) (fun c_1 => ?_)
  · have H := H.1 c_1
    refine j_iconst (v := 0) dX7_isGutter_23 (by decide) ?_
    exact j_zret dX7_isGutter_24 rfl (by decide) H
  · have H := H.2 c_1
    refine j_iload_n 1 dX7_isGutter_7 rfl rfl ?_
    refine j_i2l dX7_isGutter_8 ?_
    refine j_lconst (v := 0) dX7_isGutter_9 (by decide) ?_
    refine j_ldc2 cl_X7_88 dX7_isGutter_10 ?_
    refine j_callS0 (As := [.long (Int32.toInt64 x1), .long 0, .long 5]) (st := []) ml_X7_in sl_X7_77 dX7_isGutter_13 (Nat.le_of_ble_eq_true rfl) ⟨by decide, by decide⟩ rfl rfl (Nat.le_of_ble_eq_true rfl) (J.mono (fun v_ w_ hp_ => ?_) H)
    obtain ⟨r_2, rfl, rfl, H⟩ := hp_
    refine j_if_eq (tgt := 23) dX7_isGutter_16 (by decide) (fun c_3 => ?_) (fun c_3 => ?_)
    · have H := H.1 c_3
      refine j_iconst (v := 0) dX7_isGutter_23 (by decide) ?_
      exact j_zret dX7_isGutter_24 rfl (by decide) H
    · have H := H.2 c_3
      refine j_iconst (v := 1) dX7_isGutter_19 (by decide) ?_
      refine j_goto (tgt := 24) dX7_isGutter_20 (by decide) ?_
      exact j_zret dX7_isGutter_24 rfl (by decide) H
set_option maxRecDepth 20000 in
theorem sg_X7_tell_0 {G : GG} {ad : Nat → Nat} {a : Nat → Nat → Int32} {v : Nat → Int32} {hh : Int64} {x1 : Int32} {x2 : Int32} {Q : Option Value → va_W → Prop} (H : (((x2 = 0) → (vp_in x1 6) ∧ Q (some (.int ((a 1) (Int32.toNatClampNeg x1)))) (mdW G ad 0 a v hh)) ∧ ((x2 = 1) → (vp_in x1 6) ∧ Q (some (.int ((a 2) (Int32.toNatClampNeg x1)))) (mdW G ad 0 a v hh)) ∧ ((x2 = 2) → (vp_in (17 * x1) 102) ∧ Q (some (.int ((a 3) (Int32.toNatClampNeg (17 * x1))))) (mdW G ad 0 a v hh)) ∧ ((x2 = 3) → (vp_in ((17 * x1) + 1) 102) ∧ Q (some (.int ((a 3) (Int32.toNatClampNeg ((17 * x1) + 1))))) (mdW G ad 0 a v hh)) ∧ ((x2 = 4) → (vp_in ((17 * x1) + 4) 102) ∧ Q (some (.int ((a 3) (Int32.toNatClampNeg ((17 * x1) + 4))))) (mdW G ad 0 a v hh)) ∧ ((x2 = 5) → (vp_in ((17 * x1) + 3) 102) ∧ Q (some (.int ((a 3) (Int32.toNatClampNeg ((17 * x1) + 3))))) (mdW G ad 0 a v hh)) ∧ ((¬ x2 = 0 ∧ ¬ x2 = 1 ∧ ¬ x2 = 2 ∧ ¬ x2 = 3 ∧ ¬ x2 = 4 ∧ ¬ x2 = 5) → Q (some (.int (-102))) (mdW G ad 0 a v hh)))) : J G mX7_tell 0 [(0, .ref (ad 0)), (1, .int x1), (2, .int x2)] [] (mdW G ad 0 a v hh) Q := by
  refine j_iload_n 2 dX7_tell_0 rfl rfl ?_
  refine j_tsw dX7_tell_1 [(0, 40), (1, 47), (2, 54), (3, 64), (4, 76), (5, 88)] 100 (by decide) (by decide) (by decide) (fun v_ t_ hm hx => ?_) (fun hn => ?_)
  · simp only [List.mem_cons, Prod.mk.injEq, List.not_mem_nil, or_false] at hm
    rcases hm with ⟨rfl, rfl⟩ | ⟨rfl, rfl⟩ | ⟨rfl, rfl⟩ | ⟨rfl, rfl⟩ | ⟨rfl, rfl⟩ | ⟨rfl, rfl⟩
    · have H := H.1 hx
      refine j_aload_n 0 dX7_tell_40 rfl rfl ?_
      refine j_get 0 fl_X7_13 dX7_tell_41 rfl rfl ?_
      refine j_iload_n 1 dX7_tell_44 rfl rfl ?_
      obtain ⟨h_1, H⟩ := H
      refine j_iald 2 dX7_tell_45 rfl h_1 ?_
      exact j_iret dX7_tell_46 rfl H
    · have H := H.2.1 hx
      refine j_aload_n 0 dX7_tell_47 rfl rfl ?_
      refine j_get 0 fl_X7_16 dX7_tell_48 rfl rfl ?_
      refine j_iload_n 1 dX7_tell_51 rfl rfl ?_
      obtain ⟨h_2, H⟩ := H
      refine j_iald 3 dX7_tell_52 rfl h_2 ?_
      exact j_iret dX7_tell_53 rfl H
    · have H := H.2.2.1 hx
      refine j_aload_n 0 dX7_tell_54 rfl rfl ?_
      refine j_get 0 fl_X7_19 dX7_tell_55 rfl rfl ?_
      refine j_bipush (v := 17) dX7_tell_58 (by decide) ?_
      refine j_iload_n 1 dX7_tell_60 rfl rfl ?_
      refine j_imul dX7_tell_61 ?_
      obtain ⟨h_3, H⟩ := H
      refine j_iald 4 dX7_tell_62 rfl h_3 ?_
      exact j_iret dX7_tell_63 rfl H
    · have H := H.2.2.2.1 hx
      refine j_aload_n 0 dX7_tell_64 rfl rfl ?_
      refine j_get 0 fl_X7_19 dX7_tell_65 rfl rfl ?_
      refine j_bipush (v := 17) dX7_tell_68 (by decide) ?_
      refine j_iload_n 1 dX7_tell_70 rfl rfl ?_
      refine j_imul dX7_tell_71 ?_
      refine j_iconst (v := 1) dX7_tell_72 (by decide) ?_
      refine j_iadd dX7_tell_73 ?_
      obtain ⟨h_4, H⟩ := H
      refine j_iald 4 dX7_tell_74 rfl h_4 ?_
      exact j_iret dX7_tell_75 rfl H
    · have H := H.2.2.2.2.1 hx
      refine j_aload_n 0 dX7_tell_76 rfl rfl ?_
      refine j_get 0 fl_X7_19 dX7_tell_77 rfl rfl ?_
      refine j_bipush (v := 17) dX7_tell_80 (by decide) ?_
      refine j_iload_n 1 dX7_tell_82 rfl rfl ?_
      refine j_imul dX7_tell_83 ?_
      refine j_iconst (v := 4) dX7_tell_84 (by decide) ?_
      refine j_iadd dX7_tell_85 ?_
      obtain ⟨h_5, H⟩ := H
      refine j_iald 4 dX7_tell_86 rfl h_5 ?_
      exact j_iret dX7_tell_87 rfl H
    · have H := H.2.2.2.2.2.1 hx
      refine j_aload_n 0 dX7_tell_88 rfl rfl ?_
      refine j_get 0 fl_X7_19 dX7_tell_89 rfl rfl ?_
      refine j_bipush (v := 17) dX7_tell_92 (by decide) ?_
      refine j_iload_n 1 dX7_tell_94 rfl rfl ?_
      refine j_imul dX7_tell_95 ?_
      refine j_iconst (v := 3) dX7_tell_96 (by decide) ?_
      refine j_iadd dX7_tell_97 ?_
      obtain ⟨h_6, H⟩ := H
      refine j_iald 4 dX7_tell_98 rfl h_6 ?_
      exact j_iret dX7_tell_99 rfl H
  · have H := H.2.2.2.2.2.2 ⟨hn 0 40 (by simp), hn 1 47 (by simp), hn 2 54 (by simp), hn 3 64 (by simp), hn 4 76 (by simp), hn 5 88 (by simp)⟩
    refine j_bipush (v := (-102)) dX7_tell_100 (by decide) ?_
    exact j_iret dX7_tell_102 rfl H
set_option maxRecDepth 20000 in
theorem sg_X7_about_0 {G : GG} {ad : Nat → Nat} {a : Nat → Nat → Int32} {v : Nat → Int32} {hh : Int64} {x1 : Int32} {x2 : Int32} {Q : Option Value → va_W → Prop} (H : J G mX7_isGutter 0 [(0, .ref (ad 0)), (1, .int x1)] [] (mdW G ad 0 a v hh) (fun v_ w_ => ∃ (r_1 : Int32), v_ = some (.int r_1) ∧ w_ = (mdW G ad 0 a v hh) ∧ (((r_1 = 0) → Q (some (.int (-101))) (mdW G ad 0 a v hh)) ∧ ((¬ r_1 = 0) → J G mX7_tell 0 [(0, .ref (ad 0)), (1, .int x1), (2, .int x2)] [] (mdW G ad 0 a v hh) (fun v_ w_ => ∃ (r_3 : Int32), v_ = some (.int r_3) ∧ w_ = (mdW G ad 0 a v hh) ∧ Q (some (.int r_3)) (mdW G ad 0 a v hh)))))) : J G mX7_about 0 [(0, .ref (ad 0)), (1, .int x1), (2, .int x2)] [] (mdW G ad 0 a v hh) Q := by
  refine j_aload_n 0 dX7_about_0 rfl rfl ?_
  refine j_iload_n 1 dX7_about_1 rfl rfl ?_
  refine j_callV0 (q0 := 0) (As := [.int x1]) (st := []) ml_X7_isGutter vl_X7_119 dX7_about_2 rfl rfl rfl (Nat.le_of_ble_eq_true rfl) ⟨by decide, by decide⟩ rfl rfl (Nat.le_of_ble_eq_true rfl) (J.mono (fun v_ w_ hp_ => ?_) H)
  obtain ⟨r_1, rfl, rfl, H⟩ := hp_
  refine j_if_eq (tgt := 17) dX7_about_5 (by decide) (fun c_2 => ?_) (fun c_2 => ?_)
  · have H := H.1 c_2
    refine j_bipush (v := (-101)) dX7_about_17 (by decide) ?_
    exact j_iret dX7_about_19 rfl H
  · have H := H.2 c_2
    refine j_aload_n 0 dX7_about_8 rfl rfl ?_
    refine j_iload_n 1 dX7_about_9 rfl rfl ?_
    refine j_iload_n 2 dX7_about_10 rfl rfl ?_
    refine j_callV0 (q0 := 0) (As := [.int x1, .int x2]) (st := []) ml_X7_tell vl_X7_123 dX7_about_11 rfl rfl rfl (Nat.le_of_ble_eq_true rfl) ⟨by decide, by decide⟩ rfl rfl (Nat.le_of_ble_eq_true rfl) (J.mono (fun v_ w_ hp_ => ?_) H)
    obtain ⟨r_3, rfl, rfl, H⟩ := hp_
    refine j_goto (tgt := 19) dX7_about_14 (by decide) ?_
    exact j_iret dX7_about_19 rfl H
set_option maxRecDepth 20000 in
theorem sg_X7_as_0 {G : GG} {ad : Nat → Nat} {a : Nat → Nat → Int32} {v : Nat → Int32} {hh : Int64} {x1 : Int32} {x2 : Int32} {Q : Option Value → va_W → Prop} (H : J G mX7_isGutter 0 [(0, .ref (ad 0)), (1, .int x1)] [] (mdW G ad 0 a v hh) (fun v_ w_ => ∃ (r_1 : Int32), v_ = some (.int r_1) ∧ w_ = (mdW G ad 0 a v hh) ∧ (((¬ r_1 = 0) → J G mX7_in 0 [(0, .long (Int32.toInt64 x2)), (2, .long 0), (4, .long 4)] [] ([] : va_W) (fun v_ w_ => ∃ (r_3 : Int32), v_ = some (.int r_3) ∧ w_ = ([] : va_W) ∧ (((¬ r_3 = 0) → (((x2 = 0) → Q (some (.int x1)) (mdW G ad 0 a v hh)) ∧ ((¬ x2 = 0) → (vp_in x1 6) ∧ (((x2 = ((a 1) (Int32.toNatClampNeg x1))) → Q (some (.int x1)) (mdW G ad 0 a v hh)) ∧ ((¬ x2 = ((a 1) (Int32.toNatClampNeg x1))) → (((¬ x2 = 2) → Q (some (.int (-1))) (mdW G ad 0 a v hh)) ∧ ((x2 = 2) → (((¬ ((a 1) (Int32.toNatClampNeg x1)) = 4) → Q (some (.int (-1))) (mdW G ad 0 a v hh)) ∧ ((((a 1) (Int32.toNatClampNeg x1)) = 4) → Q (some (.int x1)) (mdW G ad 0 a v hh)))))))))) ∧ ((r_3 = 0) → Q (some (.int (-102))) (mdW G ad 0 a v hh))))) ∧ ((r_1 = 0) → Q (some (.int (-101))) (mdW G ad 0 a v hh))))) : J G mX7_as 0 [(0, .ref (ad 0)), (1, .int x1), (2, .int x2)] [] (mdW G ad 0 a v hh) Q := by
  refine j_aload_n 0 dX7_as_0 rfl rfl ?_
  refine j_iload_n 1 dX7_as_1 rfl rfl ?_
  refine j_callV0 (q0 := 0) (As := [.int x1]) (st := []) ml_X7_isGutter vl_X7_119 dX7_as_2 rfl rfl rfl (Nat.le_of_ble_eq_true rfl) ⟨by decide, by decide⟩ rfl rfl (Nat.le_of_ble_eq_true rfl) (J.mono (fun v_ w_ hp_ => ?_) H)
  obtain ⟨r_1, rfl, rfl, H⟩ := hp_
  refine j_if_ne (tgt := 11) dX7_as_5 (by decide) (fun c_2 => ?_) (fun c_2 => ?_)
  · have H := H.1 c_2
    refine j_iload_n 2 dX7_as_11 rfl rfl ?_
    refine j_i2l dX7_as_12 ?_
    refine j_lconst (v := 0) dX7_as_13 (by decide) ?_
    refine j_ldc2 cl_X7_127 dX7_as_14 ?_
    refine j_callS0 (As := [.long (Int32.toInt64 x2), .long 0, .long 4]) (st := []) ml_X7_in sl_X7_77 dX7_as_17 (Nat.le_of_ble_eq_true rfl) ⟨by decide, by decide⟩ rfl rfl (Nat.le_of_ble_eq_true rfl) (J.mono (fun v_ w_ hp_ => ?_) H)
    obtain ⟨r_3, rfl, rfl, H⟩ := hp_
    refine j_if_ne (tgt := 26) dX7_as_20 (by decide) (fun c_4 => ?_) (fun c_4 => ?_)
    · have H := H.1 c_4
      refine j_iload_n 2 dX7_as_26 rfl rfl ?_
      refine j_if_eq (tgt := 55) dX7_as_27 (by decide) (fun c_5 => ?_) (fun c_5 => ?_)
      · have H := H.1 c_5
        refine j_iconst (v := 1) dX7_as_55 (by decide) ?_
        refine j_goto (tgt := 60) dX7_as_56 (by decide) ?_
        refine j_istore_n (lo' := [(3, .int 1), (0, .ref (ad 0)), (1, .int x1), (2, .int x2)]) dX7_as_60 rfl (by decide) rfl ?_
        refine j_iload_n 0 dX7_as_61 rfl rfl ?_
        refine j_if_eq (tgt := 69) dX7_as_62 (by decide) (fun c_6 => absurd c_6 (by decide)) (fun _ => ?_)
        refine j_iload_n 2 dX7_as_65 rfl rfl ?_
        refine j_goto (tgt := 70) dX7_as_66 (by decide) ?_
        exact j_iret dX7_as_70 rfl H
      · have H := H.2 c_5
        refine j_iload_n 2 dX7_as_30 rfl rfl ?_
        refine j_aload_n 0 dX7_as_31 rfl rfl ?_
        refine j_get 0 fl_X7_13 dX7_as_32 rfl rfl ?_
        refine j_iload_n 1 dX7_as_35 rfl rfl ?_
        obtain ⟨h_7, H⟩ := H
        refine j_iald 2 dX7_as_36 rfl h_7 ?_
        refine j_icmp_eq (tgt := 55) dX7_as_37 (by decide) (fun c_8 => ?_) (fun c_8 => ?_)
        · have H := H.1 c_8
          refine j_iconst (v := 1) dX7_as_55 (by decide) ?_
          refine j_goto (tgt := 60) dX7_as_56 (by decide) ?_
          refine j_istore_n (lo' := [(3, .int 1), (0, .ref (ad 0)), (1, .int x1), (2, .int x2)]) dX7_as_60 rfl (by decide) rfl ?_
          refine j_iload_n 0 dX7_as_61 rfl rfl ?_
          refine j_if_eq (tgt := 69) dX7_as_62 (by decide) (fun c_9 => absurd c_9 (by decide)) (fun _ => ?_)
          refine j_iload_n 2 dX7_as_65 rfl rfl ?_
          refine j_goto (tgt := 70) dX7_as_66 (by decide) ?_
          exact j_iret dX7_as_70 rfl H
        · have H := H.2 c_8
          refine j_iload_n 2 dX7_as_40 rfl rfl ?_
          refine j_iconst (v := 2) dX7_as_41 (by decide) ?_
          refine j_icmp_ne (tgt := 59) dX7_as_42 (by decide) (fun c_10 => ?_) (fun c_10 => ?_)
          · have H := H.1 c_10
            refine j_iconst (v := 0) dX7_as_59 (by decide) ?_
            refine j_istore_n (lo' := [(3, .int 0), (0, .ref (ad 0)), (1, .int x1), (2, .int x2)]) dX7_as_60 rfl (by decide) rfl ?_
            refine j_iload_n 0 dX7_as_61 rfl rfl ?_
            refine j_if_eq (tgt := 69) dX7_as_62 (by decide) (fun _ => ?_) (fun c_11 => absurd (by decide) c_11)
            refine j_iconst (v := (-1)) dX7_as_69 (by decide) ?_
            exact j_iret dX7_as_70 rfl H
          · have H := H.2 c_10
            refine j_aload_n 0 dX7_as_45 rfl rfl ?_
            refine j_get 0 fl_X7_13 dX7_as_46 rfl rfl ?_
            refine j_iload_n 1 dX7_as_49 rfl rfl ?_
            refine j_iald 2 dX7_as_50 rfl h_7 ?_
            refine j_iconst (v := 4) dX7_as_51 (by decide) ?_
            refine j_icmp_ne (tgt := 59) dX7_as_52 (by decide) (fun c_12 => ?_) (fun c_12 => ?_)
            · have H := H.1 c_12
              refine j_iconst (v := 0) dX7_as_59 (by decide) ?_
              refine j_istore_n (lo' := [(3, .int 0), (0, .ref (ad 0)), (1, .int x1), (2, .int x2)]) dX7_as_60 rfl (by decide) rfl ?_
              refine j_iload_n 0 dX7_as_61 rfl rfl ?_
              refine j_if_eq (tgt := 69) dX7_as_62 (by decide) (fun _ => ?_) (fun c_13 => absurd (by decide) c_13)
              refine j_iconst (v := (-1)) dX7_as_69 (by decide) ?_
              exact j_iret dX7_as_70 rfl H
            · have H := H.2 c_12
              refine j_iconst (v := 1) dX7_as_55 (by decide) ?_
              refine j_goto (tgt := 60) dX7_as_56 (by decide) ?_
              refine j_istore_n (lo' := [(3, .int 1), (0, .ref (ad 0)), (1, .int x1), (2, .int x2)]) dX7_as_60 rfl (by decide) rfl ?_
              refine j_iload_n 0 dX7_as_61 rfl rfl ?_
              refine j_if_eq (tgt := 69) dX7_as_62 (by decide) (fun c_14 => absurd c_14 (by decide)) (fun _ => ?_)
              refine j_iload_n 2 dX7_as_65 rfl rfl ?_
              refine j_goto (tgt := 70) dX7_as_66 (by decide) ?_
              exact j_iret dX7_as_70 rfl H
    · have H := H.2 c_4
      refine j_bipush (v := (-102)) dX7_as_23 (by decide) ?_
      exact j_iret dX7_as_25 rfl H
  · have H := H.2 c_2
    refine j_bipush (v := (-101)) dX7_as_8 (by decide) ?_
    exact j_iret dX7_as_10 rfl H
set_option maxRecDepth 20000 in
theorem sg_X7_copy_0 {G : GG} {ad : Nat → Nat} {f0 : Nat → Int32} {f1 : Nat → Int32} {L0 : Nat} {L1 : Nat} {Q : Option Value → va_W → Prop} (H : J G mX7_copy 2 [(0, .ref (ad 0)), (1, .ref (ad 1)), (2, .int 0)] [] (arW G ad 0 L0 f0 ++ (arW G ad 1 L1 f1)) Q) : J G mX7_copy 0 [(0, .ref (ad 0)), (1, .ref (ad 1))] [] (arW G ad 0 L0 f0 ++ (arW G ad 1 L1 f1)) Q := by
  refine j_iconst (v := 0) dX7_copy_0 (by decide) ?_
  refine j_istore_n (lo' := [(2, .int 0), (0, .ref (ad 0)), (1, .ref (ad 1))]) dX7_copy_1 rfl (by decide) rfl ?_
  refine j_lo [1, 2, 0] rfl ?_
  exact H
set_option maxRecDepth 20000 in
theorem sg_X7_copy_2 {G : GG} {ad : Nat → Nat} {f0 : Nat → Int32} {f1 : Nat → Int32} {L0 : Nat} {L1 : Nat} {x2 : Int32} {Q : Option Value → va_W → Prop} (H : ((((nI L0) ≤ x2) → Q none (arW G ad 0 L0 f0 ++ (arW G ad 1 L1 f1))) ∧ ((¬ (nI L0) ≤ x2) → (vp_in x2 L0) ∧ (vp_in x2 L1) ∧ J G mX7_copy 2 [(0, .ref (ad 0)), (1, .ref (ad 1)), (2, .int (x2 + 1))] [] (arW G ad 0 L0 f0 ++ (arW G ad 1 L1 (upd f1 (Int32.toNatClampNeg x2) (f0 (Int32.toNatClampNeg x2))))) Q))) : J G mX7_copy 2 [(0, .ref (ad 0)), (1, .ref (ad 1)), (2, .int x2)] [] (arW G ad 0 L0 f0 ++ (arW G ad 1 L1 f1)) Q := by
  refine j_iload_n 2 dX7_copy_2 rfl rfl ?_
  refine j_aload_n 0 dX7_copy_3 rfl rfl ?_
  refine j_alen (v := (nI L0)) 0 dX7_copy_4 rfl rfl ?_
  refine j_icmp_ge (tgt := 20) dX7_copy_5 (by decide) (fun c_1 => ?_) (fun c_1 => ?_)
  · have H := H.1 c_1
    exact j_vret dX7_copy_20 rfl H
  · have H := H.2 c_1
    refine j_aload_n 1 dX7_copy_8 rfl rfl ?_
    refine j_iload_n 2 dX7_copy_9 rfl rfl ?_
    refine j_aload_n 0 dX7_copy_10 rfl rfl ?_
    refine j_iload_n 2 dX7_copy_11 rfl rfl ?_
    obtain ⟨h_2, H⟩ := H
    refine j_iald 0 dX7_copy_12 rfl h_2 ?_
    obtain ⟨h_3, H⟩ := H
    refine j_iast (w' := (arW G ad 0 L0 f0 ++ (arW G ad 1 L1 (upd f1 (Int32.toNatClampNeg x2) (f0 (Int32.toNatClampNeg x2)))))) 1 dX7_copy_13 rfl h_3 rfl ?_
    refine j_iinc (v := (x2 + 1)) (lo' := [(2, .int (x2 + 1)), (0, .ref (ad 0)), (1, .ref (ad 1))]) 2 dX7_copy_14 rfl rfl (by decide) rfl ?_
    refine j_goto (tgt := 2) dX7_copy_17 (by decide) ?_
    refine j_lo [1, 2, 0] rfl ?_
    exact H
set_option maxRecDepth 20000 in
theorem sg_X7_asItIs_0 {G : GG} {ad : Nat → Nat} {a : Nat → Nat → Int32} {v : Nat → Int32} {hh : Int64} {Q : Option Value → va_W → Prop} (H : J G mX7_copy 0 [(0, .ref ((pk ad [2, 8]) 0)), (1, .ref ((pk ad [2, 8]) 1))] [] (arW G (pk ad [2, 8]) 0 6 (a 1) ++ (arW G (pk ad [2, 8]) 1 6 (a 7))) (fun v_ w_ => ∃ (f_1 : Nat → Int32), v_ = none ∧ w_ = (arW G (pk ad [2, 8]) 0 6 (a 1) ++ (arW G (pk ad [2, 8]) 1 6 f_1)) ∧ J G mX7_copy 0 [(0, .ref ((pk ad [3, 9]) 0)), (1, .ref ((pk ad [3, 9]) 1))] [] (arW G (pk ad [3, 9]) 0 6 (a 2) ++ (arW G (pk ad [3, 9]) 1 6 (a 8))) (fun v_ w_ => ∃ (f_2 : Nat → Int32), v_ = none ∧ w_ = (arW G (pk ad [3, 9]) 0 6 (a 2) ++ (arW G (pk ad [3, 9]) 1 6 f_2)) ∧ J G mX7_copy 0 [(0, .ref ((pk ad [6, 10]) 0)), (1, .ref ((pk ad [6, 10]) 1))] [] (arW G (pk ad [6, 10]) 0 12 (a 5) ++ (arW G (pk ad [6, 10]) 1 12 (a 9))) (fun v_ w_ => ∃ (f_3 : Nat → Int32), v_ = none ∧ w_ = (arW G (pk ad [6, 10]) 0 12 (a 5) ++ (arW G (pk ad [6, 10]) 1 12 f_3)) ∧ Q none (mdW G ad 0 (va_up (va_up (va_up a 7 f_1) 8 f_2) 9 f_3) v hh))))) : J G mX7_asItIs 0 [(0, .ref (ad 0))] [] (mdW G ad 0 a v hh) Q := by
  refine j_aload_n 0 dX7_asItIs_0 rfl rfl ?_
  refine j_get 0 fl_X7_13 dX7_asItIs_1 rfl rfl ?_
  refine j_aload_n 0 dX7_asItIs_4 rfl rfl ?_
  refine j_get 0 fl_X7_31 dX7_asItIs_5 rfl rfl ?_
  refine j_callS (wc := (arW G (pk ad [2, 8]) 0 6 (a 1) ++ (arW G (pk ad [2, 8]) 1 6 (a 7)))) (As := [.ref ((pk ad [2, 8]) 0), .ref ((pk ad [2, 8]) 1)]) (st := []) ml_X7_copy sl_X7_137 dX7_asItIs_8 [none, none, some 0, none, none, none, none, none, some 1] ⟨rfl, Nat.le_of_ble_eq_true rfl, rfl, rfl⟩ (Nat.le_of_ble_eq_true rfl) ⟨by decide, by decide⟩ rfl rfl (Nat.le_of_ble_eq_true rfl) (J.mono (fun v_ w_ hp_ => ?_) H)
  obtain ⟨f_1, rfl, rfl, H⟩ := hp_
  refine j_w (w' := (mdW G ad 0 (va_up a 7 f_1) v hh)) rfl ?_
  refine j_aload_n 0 dX7_asItIs_11 rfl rfl ?_
  refine j_get 0 fl_X7_16 dX7_asItIs_12 rfl rfl ?_
  refine j_aload_n 0 dX7_asItIs_15 rfl rfl ?_
  refine j_get 0 fl_X7_34 dX7_asItIs_16 rfl rfl ?_
  refine j_callS (wc := (arW G (pk ad [3, 9]) 0 6 (a 2) ++ (arW G (pk ad [3, 9]) 1 6 (a 8)))) (As := [.ref ((pk ad [3, 9]) 0), .ref ((pk ad [3, 9]) 1)]) (st := []) ml_X7_copy sl_X7_137 dX7_asItIs_19 [none, none, none, some 0, none, none, none, none, none, some 1] ⟨rfl, Nat.le_of_ble_eq_true rfl, rfl, rfl⟩ (Nat.le_of_ble_eq_true rfl) ⟨by decide, by decide⟩ rfl rfl (Nat.le_of_ble_eq_true rfl) (J.mono (fun v_ w_ hp_ => ?_) H)
  obtain ⟨f_2, rfl, rfl, H⟩ := hp_
  refine j_w (w' := (mdW G ad 0 (va_up (va_up a 7 f_1) 8 f_2) v hh)) rfl ?_
  refine j_aload_n 0 dX7_asItIs_22 rfl rfl ?_
  refine j_get 0 fl_X7_25 dX7_asItIs_23 rfl rfl ?_
  refine j_aload_n 0 dX7_asItIs_26 rfl rfl ?_
  refine j_get 0 fl_X7_37 dX7_asItIs_27 rfl rfl ?_
  refine j_callS (wc := (arW G (pk ad [6, 10]) 0 12 (a 5) ++ (arW G (pk ad [6, 10]) 1 12 (a 9)))) (As := [.ref ((pk ad [6, 10]) 0), .ref ((pk ad [6, 10]) 1)]) (st := []) ml_X7_copy sl_X7_137 dX7_asItIs_30 [none, none, none, none, none, none, some 0, none, none, none, some 1] ⟨rfl, Nat.le_of_ble_eq_true rfl, rfl, rfl⟩ (Nat.le_of_ble_eq_true rfl) ⟨by decide, by decide⟩ rfl rfl (Nat.le_of_ble_eq_true rfl) (J.mono (fun v_ w_ hp_ => ?_) H)
  obtain ⟨f_3, rfl, rfl, H⟩ := hp_
  refine j_w (w' := (mdW G ad 0 (va_up (va_up (va_up a 7 f_1) 8 f_2) 9 f_3) v hh)) rfl ?_
  exact j_vret dX7_asItIs_33 rfl H
set_option maxRecDepth 20000 in
theorem sg_X7_dryRows_0 {G : GG} {ad : Nat → Nat} {f0 : Nat → Int32} {L0 : Nat} {Q : Option Value → va_W → Prop} (H : J G mX7_dryRows 2 [(0, .ref (ad 0)), (1, .int 0)] [] (arW G ad 0 L0 f0) Q) : J G mX7_dryRows 0 [(0, .ref (ad 0))] [] (arW G ad 0 L0 f0) Q := by
  refine j_iconst (v := 0) dX7_dryRows_0 (by decide) ?_
  refine j_istore_n (lo' := [(1, .int 0), (0, .ref (ad 0))]) dX7_dryRows_1 rfl (by decide) rfl ?_
  refine j_lo [1, 0] rfl ?_
  exact H
set_option maxRecDepth 20000 in
theorem sg_X7_dryRows_2 {G : GG} {ad : Nat → Nat} {f0 : Nat → Int32} {L0 : Nat} {x1 : Int32} {Q : Option Value → va_W → Prop} (H : (((6 ≤ x1) → Q none (arW G ad 0 L0 f0)) ∧ ((¬ 6 ≤ x1) → J G mX7_dryRows 10 [(0, .ref (ad 0)), (1, .int x1), (2, .int 0)] [] (arW G ad 0 L0 f0) Q))) : J G mX7_dryRows 2 [(0, .ref (ad 0)), (1, .int x1)] [] (arW G ad 0 L0 f0) Q := by
  refine j_iload_n 1 dX7_dryRows_2 rfl rfl ?_
  refine j_bipush (v := 6) dX7_dryRows_3 (by decide) ?_
  refine j_icmp_ge (tgt := 46) dX7_dryRows_5 (by decide) (fun c_1 => ?_) (fun c_1 => ?_)
  · have H := H.1 c_1
    exact j_vret dX7_dryRows_46 rfl H
  · have H := H.2 c_1
    refine j_iconst (v := 0) dX7_dryRows_8 (by decide) ?_
    refine j_istore_n (lo' := [(2, .int 0), (0, .ref (ad 0)), (1, .int x1)]) dX7_dryRows_9 rfl (by decide) rfl ?_
    refine j_lo [1, 2, 0] rfl ?_
    exact H
set_option maxRecDepth 20000 in
theorem sg_X7_dryRows_10 {G : GG} {ad : Nat → Nat} {f0 : Nat → Int32} {L0 : Nat} {x1 : Int32} {x2 : Int32} {Q : Option Value → va_W → Prop} (H : (((17 ≤ x2) → J G mX7_dryRows 2 [(0, .ref (ad 0)), (1, .int (x1 + 1))] [] (arW G ad 0 L0 f0) Q) ∧ ((¬ 17 ≤ x2) → (((¬ x2 = 1) → (vp_in ((17 * x1) + x2) L0) ∧ J G mX7_dryRows 10 [(0, .ref (ad 0)), (1, .int x1), (2, .int (x2 + 1))] [] (arW G ad 0 L0 (upd f0 (Int32.toNatClampNeg ((17 * x1) + x2)) 0)) Q) ∧ ((x2 = 1) → (vp_in ((17 * x1) + x2) L0) ∧ J G mX7_dryRows 10 [(0, .ref (ad 0)), (1, .int x1), (2, .int (x2 + 1))] [] (arW G ad 0 L0 (upd f0 (Int32.toNatClampNeg ((17 * x1) + x2)) (-1))) Q))))) : J G mX7_dryRows 10 [(0, .ref (ad 0)), (1, .int x1), (2, .int x2)] [] (arW G ad 0 L0 f0) Q := by
  refine j_iload_n 2 dX7_dryRows_10 rfl rfl ?_
  refine j_bipush (v := 17) dX7_dryRows_11 (by decide) ?_
  refine j_icmp_ge (tgt := 40) dX7_dryRows_13 (by decide) (fun c_1 => ?_) (fun c_1 => ?_)
  · have H := H.1 c_1
    refine j_iinc (v := (x1 + 1)) (lo' := [(1, .int (x1 + 1)), (0, .ref (ad 0)), (2, .int x2)]) 1 dX7_dryRows_40 rfl rfl (by decide) rfl ?_
    refine j_goto (tgt := 2) dX7_dryRows_43 (by decide) ?_
    refine j_lo [1, 0] rfl ?_
    exact H
  · have H := H.2 c_1
    refine j_aload_n 0 dX7_dryRows_16 rfl rfl ?_
    refine j_bipush (v := 17) dX7_dryRows_17 (by decide) ?_
    refine j_iload_n 1 dX7_dryRows_19 rfl rfl ?_
    refine j_imul dX7_dryRows_20 ?_
    refine j_iload_n 2 dX7_dryRows_21 rfl rfl ?_
    refine j_iadd dX7_dryRows_22 ?_
    refine j_iload_n 2 dX7_dryRows_23 rfl rfl ?_
    refine j_iconst (v := 1) dX7_dryRows_24 (by decide) ?_
    refine j_icmp_ne (tgt := 32) dX7_dryRows_25 (by decide) (fun c_2 => ?_) (fun c_2 => ?_)
    · have H := H.1 c_2
      refine j_iconst (v := 0) dX7_dryRows_32 (by decide) ?_
      obtain ⟨h_3, H⟩ := H
      refine j_iast (w' := (arW G ad 0 L0 (upd f0 (Int32.toNatClampNeg ((17 * x1) + x2)) 0))) 0 dX7_dryRows_33 rfl h_3 rfl ?_
      refine j_iinc (v := (x2 + 1)) (lo' := [(2, .int (x2 + 1)), (0, .ref (ad 0)), (1, .int x1)]) 2 dX7_dryRows_34 rfl rfl (by decide) rfl ?_
      refine j_goto (tgt := 10) dX7_dryRows_37 (by decide) ?_
      refine j_lo [1, 2, 0] rfl ?_
      exact H
    · have H := H.2 c_2
      refine j_iconst (v := (-1)) dX7_dryRows_28 (by decide) ?_
      refine j_goto (tgt := 33) dX7_dryRows_29 (by decide) ?_
      obtain ⟨h_4, H⟩ := H
      refine j_iast (w' := (arW G ad 0 L0 (upd f0 (Int32.toNatClampNeg ((17 * x1) + x2)) (-1)))) 0 dX7_dryRows_33 rfl h_4 rfl ?_
      refine j_iinc (v := (x2 + 1)) (lo' := [(2, .int (x2 + 1)), (0, .ref (ad 0)), (1, .int x1)]) 2 dX7_dryRows_34 rfl rfl (by decide) rfl ?_
      refine j_goto (tgt := 10) dX7_dryRows_37 (by decide) ?_
      refine j_lo [1, 2, 0] rfl ?_
      exact H
set_option maxRecDepth 20000 in
theorem sg_X7_through_0 {G : GG} {ad : Nat → Nat} {f0 : Nat → Int32} {L0 : Nat} {x1 : Int32} {x2 : Int32} {x3 : Int32} {Q : Option Value → va_W → Prop} (H : (vp_in ((17 * x1) + 1) L0) ∧ (vp_in (17 * x1) L0) ∧ (((¬ x2 = 1) → (((¬ x2 = 3) → J G mX7_through 61 [(0, .ref (ad 0)), (1, .int x1), (2, .int x2), (3, .int x3), (4, .int (17 * x1)), (5, .int (f0 (Int32.toNatClampNeg ((17 * x1) + 1)))), (6, .int 1)] [] (arW G ad 0 L0 (upd f0 (Int32.toNatClampNeg (17 * x1)) ((f0 (Int32.toNatClampNeg (17 * x1))) + 1))) Q) ∧ ((x2 = 3) → (((x3 = 0) → J G mX7_through 61 [(0, .ref (ad 0)), (1, .int x1), (2, .int x2), (3, .int x3), (4, .int (17 * x1)), (5, .int (f0 (Int32.toNatClampNeg ((17 * x1) + 1)))), (6, .int 0)] [] (arW G ad 0 L0 (upd f0 (Int32.toNatClampNeg (17 * x1)) ((f0 (Int32.toNatClampNeg (17 * x1))) + 1))) Q) ∧ ((¬ x3 = 0) → (((x3 = 4) → J G mX7_through 61 [(0, .ref (ad 0)), (1, .int x1), (2, .int x2), (3, .int x3), (4, .int (17 * x1)), (5, .int (f0 (Int32.toNatClampNeg ((17 * x1) + 1)))), (6, .int 0)] [] (arW G ad 0 L0 (upd f0 (Int32.toNatClampNeg (17 * x1)) ((f0 (Int32.toNatClampNeg (17 * x1))) + 1))) Q) ∧ ((¬ x3 = 4) → J G mX7_through 61 [(0, .ref (ad 0)), (1, .int x1), (2, .int x2), (3, .int x3), (4, .int (17 * x1)), (5, .int (f0 (Int32.toNatClampNeg ((17 * x1) + 1)))), (6, .int 1)] [] (arW G ad 0 L0 (upd f0 (Int32.toNatClampNeg (17 * x1)) ((f0 (Int32.toNatClampNeg (17 * x1))) + 1))) Q))))))) ∧ ((x2 = 1) → Q (some (.int (f0 (Int32.toNatClampNeg ((17 * x1) + 1))))) (arW G ad 0 L0 (upd (upd f0 (Int32.toNatClampNeg (17 * x1)) ((f0 (Int32.toNatClampNeg (17 * x1))) + 1)) (Int32.toNatClampNeg ((17 * x1) + 1)) x3))))) : J G mX7_through 0 [(0, .ref (ad 0)), (1, .int x1), (2, .int x2), (3, .int x3)] [] (arW G ad 0 L0 f0) Q := by
  refine j_bipush (v := 17) dX7_through_0 (by decide) ?_
  refine j_iload_n 1 dX7_through_2 rfl rfl ?_
  refine j_imul dX7_through_3 ?_
  refine j_istore (lo' := [(4, .int (17 * x1)), (0, .ref (ad 0)), (1, .int x1), (2, .int x2), (3, .int x3)]) dX7_through_4 (by decide) rfl ?_
  refine j_aload_n 1 dX7_through_6 rfl rfl ?_
  refine j_iload 0 dX7_through_7 rfl ?_
  refine j_iconst (v := 1) dX7_through_9 (by decide) ?_
  refine j_iadd dX7_through_10 ?_
  obtain ⟨h_1, H⟩ := H
  refine j_iald 0 dX7_through_11 rfl h_1 ?_
  refine j_istore (lo' := [(5, .int (f0 (Int32.toNatClampNeg ((17 * x1) + 1)))), (4, .int (17 * x1)), (0, .ref (ad 0)), (1, .int x1), (2, .int x2), (3, .int x3)]) dX7_through_12 (by decide) rfl ?_
  refine j_aload_n 2 dX7_through_14 rfl rfl ?_
  refine j_iload 1 dX7_through_15 rfl ?_
  refine j_dup2 dX7_through_17 rfl rfl ?_
  obtain ⟨h_2, H⟩ := H
  refine j_iald 0 dX7_through_18 rfl h_2 ?_
  refine j_iconst (v := 1) dX7_through_19 (by decide) ?_
  refine j_iadd dX7_through_20 ?_
  refine j_iast (w' := (arW G ad 0 L0 (upd f0 (Int32.toNatClampNeg (17 * x1)) ((f0 (Int32.toNatClampNeg (17 * x1))) + 1)))) 0 dX7_through_21 rfl h_2 rfl ?_
  refine j_iload_n 4 dX7_through_22 rfl rfl ?_
  refine j_iconst (v := 1) dX7_through_23 (by decide) ?_
  refine j_icmp_ne (tgt := 37) dX7_through_24 (by decide) (fun c_3 => ?_) (fun c_3 => ?_)
  · have H := H.1 c_3
    refine j_iconst (v := 1) dX7_through_37 (by decide) ?_
    refine j_istore (lo' := [(6, .int 1), (5, .int (f0 (Int32.toNatClampNeg ((17 * x1) + 1)))), (4, .int (17 * x1)), (0, .ref (ad 0)), (1, .int x1), (2, .int x2), (3, .int x3)]) dX7_through_38 (by decide) rfl ?_
    refine j_iload_n 5 dX7_through_40 rfl rfl ?_
    refine j_iconst (v := 3) dX7_through_41 (by decide) ?_
    refine j_icmp_ne (tgt := 61) dX7_through_42 (by decide) (fun c_4 => ?_) (fun c_4 => ?_)
    · have H := H.1 c_4
      refine j_lo [3, 4, 5, 6, 2, 1, 0] rfl ?_
      exact H
    · have H := H.2 c_4
      refine j_iload_n 6 dX7_through_45 rfl rfl ?_
      refine j_if_eq (tgt := 58) dX7_through_46 (by decide) (fun c_5 => ?_) (fun c_5 => ?_)
      · have H := H.1 c_5
        refine j_iconst (v := 0) dX7_through_58 (by decide) ?_
        refine j_istore (lo' := [(6, .int 0), (5, .int (f0 (Int32.toNatClampNeg ((17 * x1) + 1)))), (4, .int (17 * x1)), (0, .ref (ad 0)), (1, .int x1), (2, .int x2), (3, .int x3)]) dX7_through_59 (by decide) rfl ?_
        refine j_lo [3, 4, 5, 6, 2, 1, 0] rfl ?_
        exact H
      · have H := H.2 c_5
        refine j_iload_n 6 dX7_through_49 rfl rfl ?_
        refine j_iconst (v := 4) dX7_through_50 (by decide) ?_
        refine j_icmp_eq (tgt := 58) dX7_through_51 (by decide) (fun c_6 => ?_) (fun c_6 => ?_)
        · have H := H.1 c_6
          refine j_iconst (v := 0) dX7_through_58 (by decide) ?_
          refine j_istore (lo' := [(6, .int 0), (5, .int (f0 (Int32.toNatClampNeg ((17 * x1) + 1)))), (4, .int (17 * x1)), (0, .ref (ad 0)), (1, .int x1), (2, .int x2), (3, .int x3)]) dX7_through_59 (by decide) rfl ?_
          refine j_lo [3, 4, 5, 6, 2, 1, 0] rfl ?_
          exact H
        · have H := H.2 c_6
          refine j_iconst (v := 1) dX7_through_54 (by decide) ?_
          refine j_goto (tgt := 59) dX7_through_55 (by decide) ?_
          refine j_istore (lo' := [(6, .int 1), (5, .int (f0 (Int32.toNatClampNeg ((17 * x1) + 1)))), (4, .int (17 * x1)), (0, .ref (ad 0)), (1, .int x1), (2, .int x2), (3, .int x3)]) dX7_through_59 (by decide) rfl ?_
          refine j_lo [3, 4, 5, 6, 2, 1, 0] rfl ?_
          exact H
  · have H := H.2 c_3
    refine j_aload_n 2 dX7_through_27 rfl rfl ?_
    refine j_iload 1 dX7_through_28 rfl ?_
    refine j_iconst (v := 1) dX7_through_30 (by decide) ?_
    refine j_iadd dX7_through_31 ?_
    refine j_iload_n 5 dX7_through_32 rfl rfl ?_
    refine j_iast (w' := (arW G ad 0 L0 (upd (upd f0 (Int32.toNatClampNeg (17 * x1)) ((f0 (Int32.toNatClampNeg (17 * x1))) + 1)) (Int32.toNatClampNeg ((17 * x1) + 1)) x3))) 0 dX7_through_33 rfl h_1 rfl ?_
    refine j_iload 0 dX7_through_34 rfl ?_
    exact j_iret dX7_through_36 rfl H
set_option maxRecDepth 20000 in
theorem sg_X7_through_61 {G : GG} {ad : Nat → Nat} {f0 : Nat → Int32} {L0 : Nat} {x1 : Int32} {x2 : Int32} {x3 : Int32} {x4 : Int32} {x5 : Int32} {x6 : Int32} {Q : Option Value → va_W → Prop} (H : (((x2 = 2) → (vp_in (x4 + 1) L0) ∧ (((x3 = x5) → J G mX7_through 91 [(0, .ref (ad 0)), (1, .int x1), (2, .int x2), (3, .int x3), (4, .int x4), (5, .int x5), (6, .int 0)] [] (arW G ad 0 L0 (upd f0 (Int32.toNatClampNeg (x4 + 1)) x3)) Q) ∧ ((¬ x3 = x5) → J G mX7_through 91 [(0, .ref (ad 0)), (1, .int x1), (2, .int x2), (3, .int x3), (4, .int x4), (5, .int x5), (6, .int 1)] [] (arW G ad 0 L0 (upd f0 (Int32.toNatClampNeg (x4 + 1)) x3)) Q))) ∧ ((¬ x2 = 2) → (((¬ x2 = 4) → J G mX7_through 139 [(0, .ref (ad 0)), (1, .int x1), (2, .int x2), (3, .int x3), (4, .int x4), (5, .int x5), (6, .int x6)] [] (arW G ad 0 L0 f0) Q) ∧ ((x2 = 4) → (vp_in (x4 + 1) L0) ∧ (((x3 = x5) → J G mX7_through 91 [(0, .ref (ad 0)), (1, .int x1), (2, .int x2), (3, .int x3), (4, .int x4), (5, .int x5), (6, .int 0)] [] (arW G ad 0 L0 (upd f0 (Int32.toNatClampNeg (x4 + 1)) x3)) Q) ∧ ((¬ x3 = x5) → J G mX7_through 91 [(0, .ref (ad 0)), (1, .int x1), (2, .int x2), (3, .int x3), (4, .int x4), (5, .int x5), (6, .int 1)] [] (arW G ad 0 L0 (upd f0 (Int32.toNatClampNeg (x4 + 1)) x3)) Q))))))) : J G mX7_through 61 [(0, .ref (ad 0)), (1, .int x1), (2, .int x2), (3, .int x3), (4, .int x4), (5, .int x5), (6, .int x6)] [] (arW G ad 0 L0 f0) Q := by
  refine j_iload_n 2 dX7_through_61 rfl rfl ?_
  refine j_iconst (v := 2) dX7_through_62 (by decide) ?_
  refine j_icmp_eq (tgt := 71) dX7_through_63 (by decide) (fun c_1 => ?_) (fun c_1 => ?_)
  · have H := H.1 c_1
    refine j_aload_n 0 dX7_through_71 rfl rfl ?_
    refine j_iload 4 dX7_through_72 rfl ?_
    refine j_iconst (v := 1) dX7_through_74 (by decide) ?_
    refine j_iadd dX7_through_75 ?_
    refine j_iload_n 3 dX7_through_76 rfl rfl ?_
    obtain ⟨h_2, H⟩ := H
    refine j_iast (w' := (arW G ad 0 L0 (upd f0 (Int32.toNatClampNeg (x4 + 1)) x3))) 0 dX7_through_77 rfl h_2 rfl ?_
    refine j_iload_n 3 dX7_through_78 rfl rfl ?_
    refine j_iload 5 dX7_through_79 rfl ?_
    refine j_icmp_eq (tgt := 88) dX7_through_81 (by decide) (fun c_3 => ?_) (fun c_3 => ?_)
    · have H := H.1 c_3
      refine j_iconst (v := 0) dX7_through_88 (by decide) ?_
      refine j_istore (lo' := [(6, .int 0), (0, .ref (ad 0)), (1, .int x1), (2, .int x2), (3, .int x3), (4, .int x4), (5, .int x5)]) dX7_through_89 (by decide) rfl ?_
      refine j_lo [1, 2, 3, 4, 5, 6, 0] rfl ?_
      exact H
    · have H := H.2 c_3
      refine j_iconst (v := 1) dX7_through_84 (by decide) ?_
      refine j_goto (tgt := 89) dX7_through_85 (by decide) ?_
      refine j_istore (lo' := [(6, .int 1), (0, .ref (ad 0)), (1, .int x1), (2, .int x2), (3, .int x3), (4, .int x4), (5, .int x5)]) dX7_through_89 (by decide) rfl ?_
      refine j_lo [1, 2, 3, 4, 5, 6, 0] rfl ?_
      exact H
  · have H := H.2 c_1
    refine j_iload_n 2 dX7_through_66 rfl rfl ?_
    refine j_iconst (v := 4) dX7_through_67 (by decide) ?_
    refine j_icmp_ne (tgt := 139) dX7_through_68 (by decide) (fun c_4 => ?_) (fun c_4 => ?_)
    · have H := H.1 c_4
      exact H
    · have H := H.2 c_4
      refine j_aload_n 0 dX7_through_71 rfl rfl ?_
      refine j_iload 4 dX7_through_72 rfl ?_
      refine j_iconst (v := 1) dX7_through_74 (by decide) ?_
      refine j_iadd dX7_through_75 ?_
      refine j_iload_n 3 dX7_through_76 rfl rfl ?_
      obtain ⟨h_5, H⟩ := H
      refine j_iast (w' := (arW G ad 0 L0 (upd f0 (Int32.toNatClampNeg (x4 + 1)) x3))) 0 dX7_through_77 rfl h_5 rfl ?_
      refine j_iload_n 3 dX7_through_78 rfl rfl ?_
      refine j_iload 5 dX7_through_79 rfl ?_
      refine j_icmp_eq (tgt := 88) dX7_through_81 (by decide) (fun c_6 => ?_) (fun c_6 => ?_)
      · have H := H.1 c_6
        refine j_iconst (v := 0) dX7_through_88 (by decide) ?_
        refine j_istore (lo' := [(6, .int 0), (0, .ref (ad 0)), (1, .int x1), (2, .int x2), (3, .int x3), (4, .int x4), (5, .int x5)]) dX7_through_89 (by decide) rfl ?_
        refine j_lo [1, 2, 3, 4, 5, 6, 0] rfl ?_
        exact H
      · have H := H.2 c_6
        refine j_iconst (v := 1) dX7_through_84 (by decide) ?_
        refine j_goto (tgt := 89) dX7_through_85 (by decide) ?_
        refine j_istore (lo' := [(6, .int 1), (0, .ref (ad 0)), (1, .int x1), (2, .int x2), (3, .int x3), (4, .int x4), (5, .int x5)]) dX7_through_89 (by decide) rfl ?_
        refine j_lo [1, 2, 3, 4, 5, 6, 0] rfl ?_
        exact H
set_option maxRecDepth 20000 in
theorem sg_X7_through_91 {G : GG} {ad : Nat → Nat} {f0 : Nat → Int32} {L0 : Nat} {x1 : Int32} {x2 : Int32} {x3 : Int32} {x4 : Int32} {x5 : Int32} {x6 : Int32} {Q : Option Value → va_W → Prop} (H : (vp_in (x4 + 2) L0) ∧ (((x6 = 0) → J G mX7_through 139 [(0, .ref (ad 0)), (1, .int x1), (2, .int x2), (3, .int x3), (4, .int x4), (5, .int x5), (6, .int 0)] [] (arW G ad 0 L0 (upd f0 (Int32.toNatClampNeg (x4 + 2)) ((f0 (Int32.toNatClampNeg (x4 + 2))) + 0))) Q) ∧ ((¬ x6 = 0) → (((x2 = 2) → J G mX7_through 139 [(0, .ref (ad 0)), (1, .int x1), (2, .int x2), (3, .int x3), (4, .int x4), (5, .int x5), (6, .int 1)] [] (arW G ad 0 L0 (upd f0 (Int32.toNatClampNeg (x4 + 2)) ((f0 (Int32.toNatClampNeg (x4 + 2))) + 1))) Q) ∧ ((¬ x2 = 2) → (((¬ (((f0 (Int32.toNatClampNeg (x4 + 2))) + 1) - ((f0 (Int32.toNatClampNeg (x4 + 2))) + 1) / 2 * 2) = 1) → J G mX7_through 139 [(0, .ref (ad 0)), (1, .int x1), (2, .int x2), (3, .int x3), (4, .int x4), (5, .int x5), (6, .int 0)] [] (arW G ad 0 L0 (upd f0 (Int32.toNatClampNeg (x4 + 2)) ((f0 (Int32.toNatClampNeg (x4 + 2))) + 1))) Q) ∧ (((((f0 (Int32.toNatClampNeg (x4 + 2))) + 1) - ((f0 (Int32.toNatClampNeg (x4 + 2))) + 1) / 2 * 2) = 1) → J G mX7_through 139 [(0, .ref (ad 0)), (1, .int x1), (2, .int x2), (3, .int x3), (4, .int x4), (5, .int x5), (6, .int 1)] [] (arW G ad 0 L0 (upd f0 (Int32.toNatClampNeg (x4 + 2)) ((f0 (Int32.toNatClampNeg (x4 + 2))) + 1))) Q))))))) : J G mX7_through 91 [(0, .ref (ad 0)), (1, .int x1), (2, .int x2), (3, .int x3), (4, .int x4), (5, .int x5), (6, .int x6)] [] (arW G ad 0 L0 f0) Q := by
  refine j_aload_n 0 dX7_through_91 rfl rfl ?_
  refine j_iload 4 dX7_through_92 rfl ?_
  refine j_iconst (v := 2) dX7_through_94 (by decide) ?_
  refine j_iadd dX7_through_95 ?_
  refine j_dup2 dX7_through_96 rfl rfl ?_
  obtain ⟨h_1, H⟩ := H
  refine j_iald 0 dX7_through_97 rfl h_1 ?_
  refine j_iload 6 dX7_through_98 rfl ?_
  refine j_if_eq (tgt := 107) dX7_through_100 (by decide) (fun c_2 => ?_) (fun c_2 => ?_)
  · have H := H.1 c_2
    refine j_iconst (v := 0) dX7_through_107 (by decide) ?_
    refine j_iadd dX7_through_108 ?_
    refine j_iast (w' := (arW G ad 0 L0 (upd f0 (Int32.toNatClampNeg (x4 + 2)) ((f0 (Int32.toNatClampNeg (x4 + 2))) + 0)))) 0 dX7_through_109 rfl h_1 rfl ?_
    refine j_iload 6 dX7_through_110 rfl ?_
    refine j_if_eq (tgt := 136) dX7_through_112 (by decide) (fun _ => ?_) (fun c_3 => absurd c_2 c_3)
    refine j_iconst (v := 0) dX7_through_136 (by decide) ?_
    refine j_istore (lo' := [(6, .int 0), (0, .ref (ad 0)), (1, .int x1), (2, .int x2), (3, .int x3), (4, .int x4), (5, .int x5)]) dX7_through_137 (by decide) rfl ?_
    refine j_lo [1, 2, 3, 4, 5, 6, 0] rfl ?_
    exact H
  · have H := H.2 c_2
    refine j_iconst (v := 1) dX7_through_103 (by decide) ?_
    refine j_goto (tgt := 108) dX7_through_104 (by decide) ?_
    refine j_iadd dX7_through_108 ?_
    refine j_iast (w' := (arW G ad 0 L0 (upd f0 (Int32.toNatClampNeg (x4 + 2)) ((f0 (Int32.toNatClampNeg (x4 + 2))) + 1)))) 0 dX7_through_109 rfl h_1 rfl ?_
    refine j_iload 6 dX7_through_110 rfl ?_
    refine j_if_eq (tgt := 136) dX7_through_112 (by decide) (fun c_4 => absurd c_4 c_2) (fun _ => ?_)
    refine j_iload_n 2 dX7_through_115 rfl rfl ?_
    refine j_iconst (v := 2) dX7_through_116 (by decide) ?_
    refine j_icmp_eq (tgt := 132) dX7_through_117 (by decide) (fun c_5 => ?_) (fun c_5 => ?_)
    · have H := H.1 c_5
      refine j_iconst (v := 1) dX7_through_132 (by decide) ?_
      refine j_goto (tgt := 137) dX7_through_133 (by decide) ?_
      refine j_istore (lo' := [(6, .int 1), (0, .ref (ad 0)), (1, .int x1), (2, .int x2), (3, .int x3), (4, .int x4), (5, .int x5)]) dX7_through_137 (by decide) rfl ?_
      refine j_lo [1, 2, 3, 4, 5, 6, 0] rfl ?_
      exact H
    · have H := H.2 c_5
      refine j_aload_n 0 dX7_through_120 rfl rfl ?_
      refine j_iload 4 dX7_through_121 rfl ?_
      refine j_iconst (v := 2) dX7_through_123 (by decide) ?_
      refine j_iadd dX7_through_124 ?_
      refine j_iald 0 dX7_through_125 rfl h_1 ?_
      refine j_top pk_us ?_
      refine j_iconst (v := 2) dX7_through_126 (by decide) ?_
      refine j_irem dX7_through_127 (by decide) ?_
      refine j_iconst (v := 1) dX7_through_128 (by decide) ?_
      refine j_icmp_ne (tgt := 136) dX7_through_129 (by decide) (fun c_6 => ?_) (fun c_6 => ?_)
      · have H := H.1 c_6
        refine j_iconst (v := 0) dX7_through_136 (by decide) ?_
        refine j_istore (lo' := [(6, .int 0), (0, .ref (ad 0)), (1, .int x1), (2, .int x2), (3, .int x3), (4, .int x4), (5, .int x5)]) dX7_through_137 (by decide) rfl ?_
        refine j_lo [1, 2, 3, 4, 5, 6, 0] rfl ?_
        exact H
      · have H := H.2 c_6
        refine j_iconst (v := 1) dX7_through_132 (by decide) ?_
        refine j_goto (tgt := 137) dX7_through_133 (by decide) ?_
        refine j_istore (lo' := [(6, .int 1), (0, .ref (ad 0)), (1, .int x1), (2, .int x2), (3, .int x3), (4, .int x4), (5, .int x5)]) dX7_through_137 (by decide) rfl ?_
        refine j_lo [1, 2, 3, 4, 5, 6, 0] rfl ?_
        exact H
set_option maxRecDepth 20000 in
theorem sg_X7_through_139 {G : GG} {ad : Nat → Nat} {f0 : Nat → Int32} {L0 : Nat} {x1 : Int32} {x2 : Int32} {x3 : Int32} {x4 : Int32} {x5 : Int32} {x6 : Int32} {Q : Option Value → va_W → Prop} (H : (vp_in (x4 + 3) L0) ∧ (((x6 = 0) → Q (some (.int (-1))) (arW G ad 0 L0 (upd f0 (Int32.toNatClampNeg (x4 + 3)) ((f0 (Int32.toNatClampNeg (x4 + 3))) + 1)))) ∧ ((¬ x6 = 0) → Q (some (.int x3)) (arW G ad 0 L0 (upd f0 (Int32.toNatClampNeg (x4 + 3)) ((f0 (Int32.toNatClampNeg (x4 + 3))) + 0)))))) : J G mX7_through 139 [(0, .ref (ad 0)), (1, .int x1), (2, .int x2), (3, .int x3), (4, .int x4), (5, .int x5), (6, .int x6)] [] (arW G ad 0 L0 f0) Q := by
  refine j_aload_n 0 dX7_through_139 rfl rfl ?_
  refine j_iload 4 dX7_through_140 rfl ?_
  refine j_iconst (v := 3) dX7_through_142 (by decide) ?_
  refine j_iadd dX7_through_143 ?_
  refine j_dup2 dX7_through_144 rfl rfl ?_
  obtain ⟨h_1, H⟩ := H
  refine j_iald 0 dX7_through_145 rfl h_1 ?_
  refine j_iload 6 dX7_through_146 rfl ?_
  refine j_if_eq (tgt := 155) dX7_through_148 (by decide) (fun c_2 => ?_) (fun c_2 => ?_)
  · have H := H.1 c_2
    refine j_iconst (v := 1) dX7_through_155 (by decide) ?_
    refine j_iadd dX7_through_156 ?_
    refine j_iast (w' := (arW G ad 0 L0 (upd f0 (Int32.toNatClampNeg (x4 + 3)) ((f0 (Int32.toNatClampNeg (x4 + 3))) + 1)))) 0 dX7_through_157 rfl h_1 rfl ?_
    refine j_iload 6 dX7_through_158 rfl ?_
    refine j_if_eq (tgt := 167) dX7_through_160 (by decide) (fun _ => ?_) (fun c_3 => absurd c_2 c_3)
    refine j_iconst (v := (-1)) dX7_through_167 (by decide) ?_
    exact j_iret dX7_through_168 rfl H
  · have H := H.2 c_2
    refine j_iconst (v := 0) dX7_through_151 (by decide) ?_
    refine j_goto (tgt := 156) dX7_through_152 (by decide) ?_
    refine j_iadd dX7_through_156 ?_
    refine j_iast (w' := (arW G ad 0 L0 (upd f0 (Int32.toNatClampNeg (x4 + 3)) ((f0 (Int32.toNatClampNeg (x4 + 3))) + 0)))) 0 dX7_through_157 rfl h_1 rfl ?_
    refine j_iload 6 dX7_through_158 rfl ?_
    refine j_if_eq (tgt := 167) dX7_through_160 (by decide) (fun c_4 => absurd c_4 c_2) (fun _ => ?_)
    refine j_iload_n 3 dX7_through_163 rfl rfl ?_
    refine j_goto (tgt := 168) dX7_through_164 (by decide) ?_
    exact j_iret dX7_through_168 rfl H
set_option maxRecDepth 20000 in
theorem sg_X7_runs_0 {G : GG} {ad : Nat → Nat} {f0 : Nat → Int32} {f1 : Nat → Int32} {f2 : Nat → Int32} {L0 : Nat} {L1 : Nat} {L2 : Nat} {x3 : Int32} {x4 : Int32} {Q : Option Value → va_W → Prop} (H : J G mX7_runs 7 [(0, .ref (ad 0)), (1, .ref (ad 1)), (2, .ref (ad 2)), (3, .int x3), (4, .int x4), (5, .int x3), (6, .int x4)] [] (arW G ad 0 L0 f0 ++ (arW G ad 1 L1 f1 ++ (arW G ad 2 L2 f2))) Q) : J G mX7_runs 0 [(0, .ref (ad 0)), (1, .ref (ad 1)), (2, .ref (ad 2)), (3, .int x3), (4, .int x4)] [] (arW G ad 0 L0 f0 ++ (arW G ad 1 L1 f1 ++ (arW G ad 2 L2 f2))) Q := by
  refine j_iload_n 3 dX7_runs_0 rfl rfl ?_
  refine j_istore (lo' := [(5, .int x3), (0, .ref (ad 0)), (1, .ref (ad 1)), (2, .ref (ad 2)), (3, .int x3), (4, .int x4)]) dX7_runs_1 (by decide) rfl ?_
  refine j_iload 5 dX7_runs_3 rfl ?_
  refine j_istore (lo' := [(6, .int x4), (5, .int x3), (0, .ref (ad 0)), (1, .ref (ad 1)), (2, .ref (ad 2)), (3, .int x3), (4, .int x4)]) dX7_runs_5 (by decide) rfl ?_
  refine j_lo [2, 3, 4, 5, 6, 1, 0] rfl ?_
  exact H
set_option maxRecDepth 20000 in
theorem sg_X7_runs_7 {G : GG} {ad : Nat → Nat} {f0 : Nat → Int32} {f1 : Nat → Int32} {f2 : Nat → Int32} {L0 : Nat} {L1 : Nat} {L2 : Nat} {x3 : Int32} {x4 : Int32} {x5 : Int32} {x6 : Int32} {Q : Option Value → va_W → Prop} (H : (vp_in x5 L1) ∧ J G mX7_through 0 [(0, .ref ((pk ad [0]) 0)), (1, .int x5), (2, .int (f1 (Int32.toNatClampNeg x5))), (3, .int x6)] [] (arW G (pk ad [0]) 0 L0 f0) (fun v_ w_ => ∃ (r_3 : Int32) (f_2 : Nat → Int32), v_ = some (.int r_3) ∧ w_ = (arW G (pk ad [0]) 0 L0 f_2) ∧ (((¬ r_3 = (-1)) → (vp_in x5 L2) ∧ (((¬ (f2 (Int32.toNatClampNeg x5)) = (-1)) → J G mX7_runs 7 [(0, .ref (ad 0)), (1, .ref (ad 1)), (2, .ref (ad 2)), (3, .int x3), (4, .int x4), (5, .int (f2 (Int32.toNatClampNeg x5))), (6, .int r_3)] [] (arW G ad 0 L0 f_2 ++ (arW G ad 1 L1 f1 ++ (arW G ad 2 L2 f2))) Q) ∧ (((f2 (Int32.toNatClampNeg x5)) = (-1)) → (vp_in ((17 * x5) + 4) L0) ∧ (vp_in (((17 * x5) + 5) + (f_2 (Int32.toNatClampNeg ((17 * x5) + 4)))) L0) ∧ Q (some (.int x5)) (arW G ad 0 L0 (upd (upd f_2 (Int32.toNatClampNeg (((17 * x5) + 5) + (f_2 (Int32.toNatClampNeg ((17 * x5) + 4))))) r_3) (Int32.toNatClampNeg ((17 * x5) + 4)) (((upd f_2 (Int32.toNatClampNeg (((17 * x5) + 5) + (f_2 (Int32.toNatClampNeg ((17 * x5) + 4))))) r_3) (Int32.toNatClampNeg ((17 * x5) + 4))) + 1)) ++ (arW G ad 1 L1 f1 ++ (arW G ad 2 L2 f2)))))) ∧ ((r_3 = (-1)) → Q (some (.int (-1))) (arW G ad 0 L0 f_2 ++ (arW G ad 1 L1 f1 ++ (arW G ad 2 L2 f2))))))) : J G mX7_runs 7 [(0, .ref (ad 0)), (1, .ref (ad 1)), (2, .ref (ad 2)), (3, .int x3), (4, .int x4), (5, .int x5), (6, .int x6)] [] (arW G ad 0 L0 f0 ++ (arW G ad 1 L1 f1 ++ (arW G ad 2 L2 f2))) Q := by
  refine j_aload_n 0 dX7_runs_7 rfl rfl ?_
  refine j_iload 5 dX7_runs_8 rfl ?_
  refine j_aload_n 1 dX7_runs_10 rfl rfl ?_
  refine j_iload 5 dX7_runs_11 rfl ?_
  obtain ⟨h_1, H⟩ := H
  refine j_iald 1 dX7_runs_13 rfl h_1 ?_
  refine j_iload 6 dX7_runs_14 rfl ?_
  refine j_callS (wc := (arW G (pk ad [0]) 0 L0 f0)) (As := [.ref ((pk ad [0]) 0), .int x5, .int (f1 (Int32.toNatClampNeg x5)), .int x6]) (st := []) ml_X7_through sl_X7_129 dX7_runs_16 [some 0] ⟨rfl, Nat.le_of_ble_eq_true rfl, rfl, rfl⟩ (Nat.le_of_ble_eq_true rfl) ⟨by decide, by decide⟩ rfl rfl (Nat.le_of_ble_eq_true rfl) (J.mono (fun v_ w_ hp_ => ?_) H)
  obtain ⟨r_3, f_2, rfl, rfl, H⟩ := hp_
  refine j_w (w' := (arW G ad 0 L0 f_2 ++ (arW G ad 1 L1 f1 ++ (arW G ad 2 L2 f2)))) rfl ?_
  refine j_istore (lo' := [(6, .int r_3), (0, .ref (ad 0)), (1, .ref (ad 1)), (2, .ref (ad 2)), (3, .int x3), (4, .int x4), (5, .int x5)]) dX7_runs_19 (by decide) rfl ?_
  refine j_iload 0 dX7_runs_21 rfl ?_
  refine j_iconst (v := (-1)) dX7_runs_23 (by decide) ?_
  refine j_icmp_ne (tgt := 29) dX7_runs_24 (by decide) (fun c_4 => ?_) (fun c_4 => ?_)
  · have H := H.1 c_4
    refine j_aload_n 3 dX7_runs_29 rfl rfl ?_
    refine j_iload 6 dX7_runs_30 rfl ?_
    obtain ⟨h_5, H⟩ := H
    refine j_iald 2 dX7_runs_32 rfl h_5 ?_
    refine j_iconst (v := (-1)) dX7_runs_33 (by decide) ?_
    refine j_icmp_ne (tgt := 78) dX7_runs_34 (by decide) (fun c_6 => ?_) (fun c_6 => ?_)
    · have H := H.1 c_6
      refine j_aload_n 3 dX7_runs_78 rfl rfl ?_
      refine j_iload 6 dX7_runs_79 rfl ?_
      refine j_iald 2 dX7_runs_81 rfl h_5 ?_
      refine j_istore (lo' := [(5, .int (f2 (Int32.toNatClampNeg x5))), (6, .int r_3), (0, .ref (ad 0)), (1, .ref (ad 1)), (2, .ref (ad 2)), (3, .int x3), (4, .int x4)]) dX7_runs_82 (by decide) rfl ?_
      refine j_goto (tgt := 7) dX7_runs_84 (by decide) ?_
      refine j_lo [2, 3, 4, 5, 6, 0, 1] rfl ?_
      exact H
    · have H := H.2 c_6
      refine j_aload_n 1 dX7_runs_37 rfl rfl ?_
      refine j_bipush (v := 17) dX7_runs_38 (by decide) ?_
      refine j_iload 6 dX7_runs_40 rfl ?_
      refine j_imul dX7_runs_42 ?_
      refine j_iconst (v := 4) dX7_runs_43 (by decide) ?_
      refine j_iadd dX7_runs_44 ?_
      obtain ⟨h_7, H⟩ := H
      refine j_iald 0 dX7_runs_45 rfl h_7 ?_
      refine j_istore (lo' := [(7, .int (f_2 (Int32.toNatClampNeg ((17 * x5) + 4)))), (6, .int r_3), (0, .ref (ad 0)), (1, .ref (ad 1)), (2, .ref (ad 2)), (3, .int x3), (4, .int x4), (5, .int x5)]) dX7_runs_46 (by decide) rfl ?_
      refine j_aload_n 2 dX7_runs_48 rfl rfl ?_
      refine j_bipush (v := 17) dX7_runs_49 (by decide) ?_
      refine j_iload 7 dX7_runs_51 rfl ?_
      refine j_imul dX7_runs_53 ?_
      refine j_iconst (v := 5) dX7_runs_54 (by decide) ?_
      refine j_iadd dX7_runs_55 ?_
      refine j_iload 0 dX7_runs_56 rfl ?_
      refine j_iadd dX7_runs_58 ?_
      refine j_iload 1 dX7_runs_59 rfl ?_
      obtain ⟨h_8, H⟩ := H
      refine j_iast (w' := (arW G ad 0 L0 (upd f_2 (Int32.toNatClampNeg (((17 * x5) + 5) + (f_2 (Int32.toNatClampNeg ((17 * x5) + 4))))) r_3) ++ (arW G ad 1 L1 f1 ++ (arW G ad 2 L2 f2)))) 0 dX7_runs_61 rfl h_8 rfl ?_
      refine j_aload_n 2 dX7_runs_62 rfl rfl ?_
      refine j_bipush (v := 17) dX7_runs_63 (by decide) ?_
      refine j_iload 7 dX7_runs_65 rfl ?_
      refine j_imul dX7_runs_67 ?_
      refine j_iconst (v := 4) dX7_runs_68 (by decide) ?_
      refine j_iadd dX7_runs_69 ?_
      refine j_dup2 dX7_runs_70 rfl rfl ?_
      refine j_iald 0 dX7_runs_71 rfl h_7 ?_
      refine j_iconst (v := 1) dX7_runs_72 (by decide) ?_
      refine j_iadd dX7_runs_73 ?_
      refine j_iast (w' := (arW G ad 0 L0 (upd (upd f_2 (Int32.toNatClampNeg (((17 * x5) + 5) + (f_2 (Int32.toNatClampNeg ((17 * x5) + 4))))) r_3) (Int32.toNatClampNeg ((17 * x5) + 4)) (((upd f_2 (Int32.toNatClampNeg (((17 * x5) + 5) + (f_2 (Int32.toNatClampNeg ((17 * x5) + 4))))) r_3) (Int32.toNatClampNeg ((17 * x5) + 4))) + 1)) ++ (arW G ad 1 L1 f1 ++ (arW G ad 2 L2 f2)))) 0 dX7_runs_74 rfl h_7 rfl ?_
      refine j_iload 7 dX7_runs_75 rfl ?_
      exact j_iret dX7_runs_77 rfl H
  · have H := H.2 c_4
    refine j_iconst (v := (-1)) dX7_runs_27 (by decide) ?_
    exact j_iret dX7_runs_28 rfl H
set_option maxRecDepth 20000 in
theorem sg_X7_fallsAgain_0 {G : GG} {ad : Nat → Nat} {a : Nat → Nat → Int32} {v : Nat → Int32} {hh : Int64} {Q : Option Value → va_W → Prop} (H : J G mX7_dryRows 0 [(0, .ref ((pk ad [7]) 0))] [] (arW G (pk ad [7]) 0 102 (a 6)) (fun v_ w_ => ∃ (f_1 : Nat → Int32), v_ = none ∧ w_ = (arW G (pk ad [7]) 0 102 f_1) ∧ J G mX7_fallsAgain 9 [(0, .ref (ad 0)), (1, .int 0)] [] (mdW G ad 0 (va_up a 6 f_1) v hh) Q)) : J G mX7_fallsAgain 0 [(0, .ref (ad 0))] [] (mdW G ad 0 a v hh) Q := by
  refine j_aload_n 0 dX7_fallsAgain_0 rfl rfl ?_
  refine j_get 0 fl_X7_28 dX7_fallsAgain_1 rfl rfl ?_
  refine j_callS (wc := (arW G (pk ad [7]) 0 102 (a 6))) (As := [.ref ((pk ad [7]) 0)]) (st := []) ml_X7_dryRows sl_X7_105 dX7_fallsAgain_4 [none, none, none, none, none, none, none, some 0] ⟨rfl, Nat.le_of_ble_eq_true rfl, rfl, rfl⟩ (Nat.le_of_ble_eq_true rfl) ⟨by decide, by decide⟩ rfl rfl (Nat.le_of_ble_eq_true rfl) (J.mono (fun v_ w_ hp_ => ?_) H)
  obtain ⟨f_1, rfl, rfl, H⟩ := hp_
  refine j_w (w' := (mdW G ad 0 (va_up a 6 f_1) v hh)) rfl ?_
  refine j_iconst (v := 0) dX7_fallsAgain_7 (by decide) ?_
  refine j_istore_n (lo' := [(1, .int 0), (0, .ref (ad 0))]) dX7_fallsAgain_8 rfl (by decide) rfl ?_
  refine j_lo [1, 0] rfl ?_
  exact H
set_option maxRecDepth 20000 in
theorem sg_X7_fallsAgain_9 {G : GG} {ad : Nat → Nat} {a : Nat → Nat → Int32} {v : Nat → Int32} {hh : Int64} {x1 : Int32} {Q : Option Value → va_W → Prop} (H : ((((v 3) ≤ x1) → Q none (mdW G ad 0 a v hh)) ∧ ((¬ (v 3) ≤ x1) → (vp_in x1 12) ∧ J G mX7_runs 0 [(0, .ref ((pk ad [7, 8, 9]) 0)), (1, .ref ((pk ad [7, 8, 9]) 1)), (2, .ref ((pk ad [7, 8, 9]) 2)), (3, .int ((a 4) (Int32.toNatClampNeg x1))), (4, .int ((a 9) (Int32.toNatClampNeg x1)))] [] (arW G (pk ad [7, 8, 9]) 0 102 (a 6) ++ (arW G (pk ad [7, 8, 9]) 1 6 (a 7) ++ (arW G (pk ad [7, 8, 9]) 2 6 (a 8)))) (fun v_ w_ => ∃ (r_4 : Int32) (f_3 : Nat → Int32), v_ = some (.int r_4) ∧ w_ = (arW G (pk ad [7, 8, 9]) 0 102 f_3 ++ (arW G (pk ad [7, 8, 9]) 1 6 (a 7) ++ (arW G (pk ad [7, 8, 9]) 2 6 (a 8)))) ∧ J G mX7_fallsAgain 9 [(0, .ref (ad 0)), (1, .int (x1 + 1))] [] (mdW G ad 0 (va_up a 6 f_3) v hh) Q)))) : J G mX7_fallsAgain 9 [(0, .ref (ad 0)), (1, .int x1)] [] (mdW G ad 0 a v hh) Q := by
  refine j_iload_n 1 dX7_fallsAgain_9 rfl rfl ?_
  refine j_aload_n 0 dX7_fallsAgain_10 rfl rfl ?_
  refine j_get 0 fl_X7_109 dX7_fallsAgain_11 rfl rfl ?_
  refine j_icmp_ge (tgt := 51) dX7_fallsAgain_14 (by decide) (fun c_1 => ?_) (fun c_1 => ?_)
  · have H := H.1 c_1
    exact j_vret dX7_fallsAgain_51 rfl H
  · have H := H.2 c_1
    refine j_aload_n 0 dX7_fallsAgain_17 rfl rfl ?_
    refine j_get 0 fl_X7_28 dX7_fallsAgain_18 rfl rfl ?_
    refine j_aload_n 0 dX7_fallsAgain_21 rfl rfl ?_
    refine j_get 0 fl_X7_31 dX7_fallsAgain_22 rfl rfl ?_
    refine j_aload_n 0 dX7_fallsAgain_25 rfl rfl ?_
    refine j_get 0 fl_X7_34 dX7_fallsAgain_26 rfl rfl ?_
    refine j_aload_n 0 dX7_fallsAgain_29 rfl rfl ?_
    refine j_get 0 fl_X7_22 dX7_fallsAgain_30 rfl rfl ?_
    refine j_iload_n 1 dX7_fallsAgain_33 rfl rfl ?_
    obtain ⟨h_2, H⟩ := H
    refine j_iald 5 dX7_fallsAgain_34 rfl h_2 ?_
    refine j_aload_n 0 dX7_fallsAgain_35 rfl rfl ?_
    refine j_get 0 fl_X7_37 dX7_fallsAgain_36 rfl rfl ?_
    refine j_iload_n 1 dX7_fallsAgain_39 rfl rfl ?_
    refine j_iald 10 dX7_fallsAgain_40 rfl h_2 ?_
    refine j_callS (wc := (arW G (pk ad [7, 8, 9]) 0 102 (a 6) ++ (arW G (pk ad [7, 8, 9]) 1 6 (a 7) ++ (arW G (pk ad [7, 8, 9]) 2 6 (a 8))))) (As := [.ref ((pk ad [7, 8, 9]) 0), .ref ((pk ad [7, 8, 9]) 1), .ref ((pk ad [7, 8, 9]) 2), .int ((a 4) (Int32.toNatClampNeg x1)), .int ((a 9) (Int32.toNatClampNeg x1))]) (st := []) ml_X7_runs sl_X7_133 dX7_fallsAgain_41 [none, none, none, none, none, none, none, some 0, some 1, some 2] ⟨rfl, Nat.le_of_ble_eq_true rfl, rfl, rfl⟩ (Nat.le_of_ble_eq_true rfl) ⟨by decide, by decide⟩ rfl rfl (Nat.le_of_ble_eq_true rfl) (J.mono (fun v_ w_ hp_ => ?_) H)
    obtain ⟨r_4, f_3, rfl, rfl, H⟩ := hp_
    refine j_w (w' := (mdW G ad 0 (va_up a 6 f_3) v hh)) rfl ?_
    refine j_istore_n (lo' := [(2, .int r_4), (0, .ref (ad 0)), (1, .int x1)]) dX7_fallsAgain_44 rfl (by decide) rfl ?_
    refine j_iinc (v := (x1 + 1)) (lo' := [(1, .int (x1 + 1)), (2, .int r_4), (0, .ref (ad 0))]) 2 dX7_fallsAgain_45 rfl rfl (by decide) rfl ?_
    refine j_goto (tgt := 9) dX7_fallsAgain_48 (by decide) ?_
    refine j_lo [2, 0] rfl ?_
    exact H
set_option maxRecDepth 20000 in
theorem sg_X7_outOf_0 {G : GG} {ad : Nat → Nat} {f0 : Nat → Int32} {L0 : Nat} {Q : Option Value → va_W → Prop} (H : J G mX7_outOf 4 [(0, .ref (ad 0)), (1, .int 0), (2, .int 0)] [] (arW G ad 0 L0 f0) Q) : J G mX7_outOf 0 [(0, .ref (ad 0))] [] (arW G ad 0 L0 f0) Q := by
  refine j_iconst (v := 0) dX7_outOf_0 (by decide) ?_
  refine j_istore_n (lo' := [(1, .int 0), (0, .ref (ad 0))]) dX7_outOf_1 rfl (by decide) rfl ?_
  refine j_iconst (v := 0) dX7_outOf_2 (by decide) ?_
  refine j_istore_n (lo' := [(2, .int 0), (1, .int 0), (0, .ref (ad 0))]) dX7_outOf_3 rfl (by decide) rfl ?_
  refine j_lo [2, 1, 0] rfl ?_
  exact H
set_option maxRecDepth 20000 in
theorem sg_X7_outOf_4 {G : GG} {ad : Nat → Nat} {f0 : Nat → Int32} {L0 : Nat} {x1 : Int32} {x2 : Int32} {Q : Option Value → va_W → Prop} (H : (((6 ≤ x2) → Q (some (.int x1)) (arW G ad 0 L0 f0)) ∧ ((¬ 6 ≤ x2) → (vp_in ((17 * x2) + 4) L0) ∧ J G mX7_outOf 4 [(0, .ref (ad 0)), (1, .int (x1 + (f0 (Int32.toNatClampNeg ((17 * x2) + 4))))), (2, .int (x2 + 1))] [] (arW G ad 0 L0 f0) Q))) : J G mX7_outOf 4 [(0, .ref (ad 0)), (1, .int x1), (2, .int x2)] [] (arW G ad 0 L0 f0) Q := by
  refine j_iload_n 2 dX7_outOf_4 rfl rfl ?_
  refine j_bipush (v := 6) dX7_outOf_5 (by decide) ?_
  refine j_icmp_ge (tgt := 27) dX7_outOf_7 (by decide) (fun c_1 => ?_) (fun c_1 => ?_)
  · have H := H.1 c_1
    refine j_iload_n 1 dX7_outOf_27 rfl rfl ?_
    exact j_iret dX7_outOf_28 rfl H
  · have H := H.2 c_1
    refine j_iload_n 1 dX7_outOf_10 rfl rfl ?_
    refine j_aload_n 0 dX7_outOf_11 rfl rfl ?_
    refine j_bipush (v := 17) dX7_outOf_12 (by decide) ?_
    refine j_iload_n 2 dX7_outOf_14 rfl rfl ?_
    refine j_imul dX7_outOf_15 ?_
    refine j_iconst (v := 4) dX7_outOf_16 (by decide) ?_
    refine j_iadd dX7_outOf_17 ?_
    obtain ⟨h_2, H⟩ := H
    refine j_iald 0 dX7_outOf_18 rfl h_2 ?_
    refine j_iadd dX7_outOf_19 ?_
    refine j_istore_n (lo' := [(1, .int (x1 + (f0 (Int32.toNatClampNeg ((17 * x2) + 4))))), (0, .ref (ad 0)), (2, .int x2)]) dX7_outOf_20 rfl (by decide) rfl ?_
    refine j_iinc (v := (x2 + 1)) (lo' := [(2, .int (x2 + 1)), (1, .int (x1 + (f0 (Int32.toNatClampNeg ((17 * x2) + 4))))), (0, .ref (ad 0))]) 2 dX7_outOf_21 rfl rfl (by decide) rfl ?_
    refine j_goto (tgt := 4) dX7_outOf_24 (by decide) ?_
    refine j_lo [2, 1, 0] rfl ?_
    exact H
set_option maxRecDepth 20000 in
theorem sg_X7_bestDrop_0 {G : GG} {ad : Nat → Nat} {a : Nat → Nat → Int32} {v : Nat → Int32} {hh : Int64} {x1 : Int32} {Q : Option Value → va_W → Prop} (H : J G mX7_in 0 [(0, .long (Int32.toInt64 x1)), (2, .long 0), (4, .long 4)] [] ([] : va_W) (fun v_ w_ => ∃ (r_1 : Int32), v_ = some (.int r_1) ∧ w_ = ([] : va_W) ∧ (((¬ r_1 = 0) → (((¬ (v 1) = 0) → (((¬ (v 3) = 12) → J G mX7_asItIs 0 [(0, .ref (ad 0))] [] (mdW G ad 0 a v hh) (fun v_ w_ => ∃ (a_5 : Nat → Nat → Int32), v_ = none ∧ w_ = (mdW G ad 0 a_5 v hh) ∧ J G mX7_bestDrop 48 [(0, .ref (ad 0)), (1, .int x1), (2, .int (-1)), (3, .int (-1)), (4, .int 0)] [] (mdW G ad 0 a_5 v hh) Q)) ∧ (((v 3) = 12) → Q (some (.int (-104))) (mdW G ad 0 a v hh)))) ∧ (((v 1) = 0) → Q (some (.int (-103))) (mdW G ad 0 a v hh)))) ∧ ((r_1 = 0) → Q (some (.int (-102))) (mdW G ad 0 a v hh))))) : J G mX7_bestDrop 0 [(0, .ref (ad 0)), (1, .int x1)] [] (mdW G ad 0 a v hh) Q := by
  refine j_iload_n 1 dX7_bestDrop_0 rfl rfl ?_
  refine j_i2l dX7_bestDrop_1 ?_
  refine j_lconst (v := 0) dX7_bestDrop_2 (by decide) ?_
  refine j_ldc2 cl_X7_127 dX7_bestDrop_3 ?_
  refine j_callS0 (As := [.long (Int32.toInt64 x1), .long 0, .long 4]) (st := []) ml_X7_in sl_X7_77 dX7_bestDrop_6 (Nat.le_of_ble_eq_true rfl) ⟨by decide, by decide⟩ rfl rfl (Nat.le_of_ble_eq_true rfl) (J.mono (fun v_ w_ hp_ => ?_) H)
  obtain ⟨r_1, rfl, rfl, H⟩ := hp_
  refine j_if_ne (tgt := 15) dX7_bestDrop_9 (by decide) (fun c_2 => ?_) (fun c_2 => ?_)
  · have H := H.1 c_2
    refine j_aload_n 0 dX7_bestDrop_15 rfl rfl ?_
    refine j_get 0 fl_X7_101 dX7_bestDrop_16 rfl rfl ?_
    refine j_if_ne (tgt := 25) dX7_bestDrop_19 (by decide) (fun c_3 => ?_) (fun c_3 => ?_)
    · have H := H.1 c_3
      refine j_aload_n 0 dX7_bestDrop_25 rfl rfl ?_
      refine j_get 0 fl_X7_109 dX7_bestDrop_26 rfl rfl ?_
      refine j_bipush (v := 12) dX7_bestDrop_29 (by decide) ?_
      refine j_icmp_ne (tgt := 37) dX7_bestDrop_31 (by decide) (fun c_4 => ?_) (fun c_4 => ?_)
      · have H := H.1 c_4
        refine j_aload_n 0 dX7_bestDrop_37 rfl rfl ?_
        refine j_callV0 (q0 := 0) (As := []) (st := []) ml_X7_asItIs vl_X7_150 dX7_bestDrop_38 rfl rfl rfl (Nat.le_of_ble_eq_true rfl) ⟨by decide, by decide⟩ rfl rfl (Nat.le_of_ble_eq_true rfl) (J.mono (fun v_ w_ hp_ => ?_) H)
        obtain ⟨a_5, rfl, rfl, H⟩ := hp_
        refine j_iconst (v := (-1)) dX7_bestDrop_41 (by decide) ?_
        refine j_istore_n (lo' := [(2, .int (-1)), (0, .ref (ad 0)), (1, .int x1)]) dX7_bestDrop_42 rfl (by decide) rfl ?_
        refine j_iconst (v := (-1)) dX7_bestDrop_43 (by decide) ?_
        refine j_istore_n (lo' := [(3, .int (-1)), (2, .int (-1)), (0, .ref (ad 0)), (1, .int x1)]) dX7_bestDrop_44 rfl (by decide) rfl ?_
        refine j_iconst (v := 0) dX7_bestDrop_45 (by decide) ?_
        refine j_istore (lo' := [(4, .int 0), (3, .int (-1)), (2, .int (-1)), (0, .ref (ad 0)), (1, .int x1)]) dX7_bestDrop_46 (by decide) rfl ?_
        refine j_lo [3, 4, 2, 1, 0] rfl ?_
        exact H
      · have H := H.2 c_4
        refine j_bipush (v := (-104)) dX7_bestDrop_34 (by decide) ?_
        exact j_iret dX7_bestDrop_36 rfl H
    · have H := H.2 c_3
      refine j_bipush (v := (-103)) dX7_bestDrop_22 (by decide) ?_
      exact j_iret dX7_bestDrop_24 rfl H
  · have H := H.2 c_2
    refine j_bipush (v := (-102)) dX7_bestDrop_12 (by decide) ?_
    exact j_iret dX7_bestDrop_14 rfl H
set_option maxRecDepth 20000 in
theorem sg_X7_bestDrop_48 {G : GG} {ad : Nat → Nat} {a : Nat → Nat → Int32} {v : Nat → Int32} {hh : Int64} {x1 : Int32} {x2 : Int32} {x3 : Int32} {x4 : Int32} {Q : Option Value → va_W → Prop} (H : (((6 ≤ x4) → Q (some (.int x2)) (mdW G ad 0 a v hh)) ∧ ((¬ 6 ≤ x4) → J G mX7_fallsAgain 0 [(0, .ref (ad 0))] [] (mdW G ad 0 a v hh) (fun v_ w_ => ∃ (a_2 : Nat → Nat → Int32), v_ = none ∧ w_ = (mdW G ad 0 a_2 v hh) ∧ J G mX7_runs 0 [(0, .ref ((pk ad [7, 8, 9]) 0)), (1, .ref ((pk ad [7, 8, 9]) 1)), (2, .ref ((pk ad [7, 8, 9]) 2)), (3, .int x4), (4, .int x1)] [] (arW G (pk ad [7, 8, 9]) 0 102 (a_2 6) ++ (arW G (pk ad [7, 8, 9]) 1 6 (a_2 7) ++ (arW G (pk ad [7, 8, 9]) 2 6 (a_2 8)))) (fun v_ w_ => ∃ (r_4 : Int32) (f_3 : Nat → Int32), v_ = some (.int r_4) ∧ w_ = (arW G (pk ad [7, 8, 9]) 0 102 f_3 ++ (arW G (pk ad [7, 8, 9]) 1 6 (a_2 7) ++ (arW G (pk ad [7, 8, 9]) 2 6 (a_2 8)))) ∧ J G mX7_outOf 0 [(0, .ref ((pk ad [7]) 0))] [] (arW G (pk ad [7]) 0 102 f_3) (fun v_ w_ => ∃ (r_5 : Int32), v_ = some (.int r_5) ∧ w_ = (arW G (pk ad [7]) 0 102 f_3) ∧ (((r_5 ≤ x3) → J G mX7_outOf 0 [(0, .ref ((pk ad [7]) 0))] [] (arW G (pk ad [7]) 0 102 f_3) (fun v_ w_ => ∃ (r_7 : Int32), v_ = some (.int r_7) ∧ w_ = (arW G (pk ad [7]) 0 102 f_3) ∧ (((r_7 ≤ x3) → J G mX7_bestDrop 48 [(0, .ref (ad 0)), (1, .int x1), (2, .int x2), (3, .int x3), (4, .int (x4 + 1))] [] (mdW G ad 0 (va_up a_2 6 f_3) v hh) Q) ∧ ((¬ r_7 ≤ x3) → J G mX7_outOf 0 [(0, .ref ((pk ad [7]) 0))] [] (arW G (pk ad [7]) 0 102 f_3) (fun v_ w_ => ∃ (r_9 : Int32), v_ = some (.int r_9) ∧ w_ = (arW G (pk ad [7]) 0 102 f_3) ∧ J G mX7_bestDrop 48 [(0, .ref (ad 0)), (1, .int x1), (2, .int x2), (3, .int r_9), (4, .int (x4 + 1))] [] (mdW G ad 0 (va_up a_2 6 f_3) v hh) Q))))) ∧ ((¬ r_5 ≤ x3) → J G mX7_outOf 0 [(0, .ref ((pk ad [7]) 0))] [] (arW G (pk ad [7]) 0 102 f_3) (fun v_ w_ => ∃ (r_10 : Int32), v_ = some (.int r_10) ∧ w_ = (arW G (pk ad [7]) 0 102 f_3) ∧ (((r_10 ≤ x3) → J G mX7_bestDrop 48 [(0, .ref (ad 0)), (1, .int x1), (2, .int x4), (3, .int x3), (4, .int (x4 + 1))] [] (mdW G ad 0 (va_up a_2 6 f_3) v hh) Q) ∧ ((¬ r_10 ≤ x3) → J G mX7_outOf 0 [(0, .ref ((pk ad [7]) 0))] [] (arW G (pk ad [7]) 0 102 f_3) (fun v_ w_ => ∃ (r_12 : Int32), v_ = some (.int r_12) ∧ w_ = (arW G (pk ad [7]) 0 102 f_3) ∧ J G mX7_bestDrop 48 [(0, .ref (ad 0)), (1, .int x1), (2, .int x4), (3, .int r_12), (4, .int (x4 + 1))] [] (mdW G ad 0 (va_up a_2 6 f_3) v hh) Q)))))))))))) : J G mX7_bestDrop 48 [(0, .ref (ad 0)), (1, .int x1), (2, .int x2), (3, .int x3), (4, .int x4)] [] (mdW G ad 0 a v hh) Q := by
  refine j_iload 4 dX7_bestDrop_48 rfl ?_
  refine j_bipush (v := 6) dX7_bestDrop_50 (by decide) ?_
  refine j_icmp_ge (tgt := 126) dX7_bestDrop_52 (by decide) (fun c_1 => ?_) (fun c_1 => ?_)
  · have H := H.1 c_1
    refine j_iload_n 2 dX7_bestDrop_126 rfl rfl ?_
    exact j_iret dX7_bestDrop_127 rfl H
  · have H := H.2 c_1
    refine j_aload_n 0 dX7_bestDrop_55 rfl rfl ?_
    refine j_callV0 (q0 := 0) (As := []) (st := []) ml_X7_fallsAgain vl_X7_159 dX7_bestDrop_56 rfl rfl rfl (Nat.le_of_ble_eq_true rfl) ⟨by decide, by decide⟩ rfl rfl (Nat.le_of_ble_eq_true rfl) (J.mono (fun v_ w_ hp_ => ?_) H)
    obtain ⟨a_2, rfl, rfl, H⟩ := hp_
    refine j_aload_n 0 dX7_bestDrop_59 rfl rfl ?_
    refine j_get 0 fl_X7_28 dX7_bestDrop_60 rfl rfl ?_
    refine j_aload_n 0 dX7_bestDrop_63 rfl rfl ?_
    refine j_get 0 fl_X7_31 dX7_bestDrop_64 rfl rfl ?_
    refine j_aload_n 0 dX7_bestDrop_67 rfl rfl ?_
    refine j_get 0 fl_X7_34 dX7_bestDrop_68 rfl rfl ?_
    refine j_iload 4 dX7_bestDrop_71 rfl ?_
    refine j_iload_n 1 dX7_bestDrop_73 rfl rfl ?_
    refine j_callS (wc := (arW G (pk ad [7, 8, 9]) 0 102 (a_2 6) ++ (arW G (pk ad [7, 8, 9]) 1 6 (a_2 7) ++ (arW G (pk ad [7, 8, 9]) 2 6 (a_2 8))))) (As := [.ref ((pk ad [7, 8, 9]) 0), .ref ((pk ad [7, 8, 9]) 1), .ref ((pk ad [7, 8, 9]) 2), .int x4, .int x1]) (st := []) ml_X7_runs sl_X7_133 dX7_bestDrop_74 [none, none, none, none, none, none, none, some 0, some 1, some 2] ⟨rfl, Nat.le_of_ble_eq_true rfl, rfl, rfl⟩ (Nat.le_of_ble_eq_true rfl) ⟨by decide, by decide⟩ rfl rfl (Nat.le_of_ble_eq_true rfl) (J.mono (fun v_ w_ hp_ => ?_) H)
    obtain ⟨r_4, f_3, rfl, rfl, H⟩ := hp_
    refine j_w (w' := (mdW G ad 0 (va_up a_2 6 f_3) v hh)) rfl ?_
    refine j_istore (lo' := [(5, .int r_4), (0, .ref (ad 0)), (1, .int x1), (2, .int x2), (3, .int x3), (4, .int x4)]) dX7_bestDrop_77 (by decide) rfl ?_
    refine j_aload_n 1 dX7_bestDrop_79 rfl rfl ?_
    refine j_get 0 fl_X7_28 dX7_bestDrop_80 rfl rfl ?_
    refine j_callS (wc := (arW G (pk ad [7]) 0 102 f_3)) (As := [.ref ((pk ad [7]) 0)]) (st := []) ml_X7_outOf sl_X7_174 dX7_bestDrop_83 [none, none, none, none, none, none, none, some 0] ⟨rfl, Nat.le_of_ble_eq_true rfl, rfl, rfl⟩ (Nat.le_of_ble_eq_true rfl) ⟨by decide, by decide⟩ rfl rfl (Nat.le_of_ble_eq_true rfl) (J.mono (fun v_ w_ hp_ => ?_) H)
    obtain ⟨r_5, rfl, rfl, H⟩ := hp_
    refine j_w (w' := (mdW G ad 0 (va_up a_2 6 f_3) v hh)) rfl ?_
    refine j_iload_n 4 dX7_bestDrop_86 rfl rfl ?_
    refine j_icmp_le (tgt := 95) dX7_bestDrop_87 (by decide) (fun c_6 => ?_) (fun c_6 => ?_)
    · have H := H.1 c_6
      refine j_iload_n 3 dX7_bestDrop_95 rfl rfl ?_
      refine j_istore_n (lo' := [(2, .int x2), (5, .int r_4), (0, .ref (ad 0)), (1, .int x1), (3, .int x3), (4, .int x4)]) dX7_bestDrop_96 rfl (by decide) rfl ?_
      refine j_aload_n 2 dX7_bestDrop_97 rfl rfl ?_
      refine j_get 0 fl_X7_28 dX7_bestDrop_98 rfl rfl ?_
      refine j_callS (wc := (arW G (pk ad [7]) 0 102 f_3)) (As := [.ref ((pk ad [7]) 0)]) (st := []) ml_X7_outOf sl_X7_174 dX7_bestDrop_101 [none, none, none, none, none, none, none, some 0] ⟨rfl, Nat.le_of_ble_eq_true rfl, rfl, rfl⟩ (Nat.le_of_ble_eq_true rfl) ⟨by decide, by decide⟩ rfl rfl (Nat.le_of_ble_eq_true rfl) (J.mono (fun v_ w_ hp_ => ?_) H)
      obtain ⟨r_7, rfl, rfl, H⟩ := hp_
      refine j_w (w' := (mdW G ad 0 (va_up a_2 6 f_3) v hh)) rfl ?_
      refine j_iload_n 4 dX7_bestDrop_104 rfl rfl ?_
      refine j_icmp_le (tgt := 118) dX7_bestDrop_105 (by decide) (fun c_8 => ?_) (fun c_8 => ?_)
      · have H := H.1 c_8
        refine j_iload_n 4 dX7_bestDrop_118 rfl rfl ?_
        refine j_istore_n (lo' := [(3, .int x3), (2, .int x2), (5, .int r_4), (0, .ref (ad 0)), (1, .int x1), (4, .int x4)]) dX7_bestDrop_119 rfl (by decide) rfl ?_
        refine j_iinc (v := (x4 + 1)) (lo' := [(4, .int (x4 + 1)), (3, .int x3), (2, .int x2), (5, .int r_4), (0, .ref (ad 0)), (1, .int x1)]) 5 dX7_bestDrop_120 rfl rfl (by decide) rfl ?_
        refine j_goto (tgt := 48) dX7_bestDrop_123 (by decide) ?_
        refine j_lo [4, 5, 2, 1, 0] rfl ?_
        exact H
      · have H := H.2 c_8
        refine j_aload_n 2 dX7_bestDrop_108 rfl rfl ?_
        refine j_get 0 fl_X7_28 dX7_bestDrop_109 rfl rfl ?_
        refine j_callS (wc := (arW G (pk ad [7]) 0 102 f_3)) (As := [.ref ((pk ad [7]) 0)]) (st := []) ml_X7_outOf sl_X7_174 dX7_bestDrop_112 [none, none, none, none, none, none, none, some 0] ⟨rfl, Nat.le_of_ble_eq_true rfl, rfl, rfl⟩ (Nat.le_of_ble_eq_true rfl) ⟨by decide, by decide⟩ rfl rfl (Nat.le_of_ble_eq_true rfl) (J.mono (fun v_ w_ hp_ => ?_) H)
        obtain ⟨r_9, rfl, rfl, H⟩ := hp_
        refine j_w (w' := (mdW G ad 0 (va_up a_2 6 f_3) v hh)) rfl ?_
        refine j_goto (tgt := 119) dX7_bestDrop_115 (by decide) ?_
        refine j_istore_n (lo' := [(3, .int r_9), (2, .int x2), (5, .int r_4), (0, .ref (ad 0)), (1, .int x1), (4, .int x4)]) dX7_bestDrop_119 rfl (by decide) rfl ?_
        refine j_iinc (v := (x4 + 1)) (lo' := [(4, .int (x4 + 1)), (3, .int r_9), (2, .int x2), (5, .int r_4), (0, .ref (ad 0)), (1, .int x1)]) 5 dX7_bestDrop_120 rfl rfl (by decide) rfl ?_
        refine j_goto (tgt := 48) dX7_bestDrop_123 (by decide) ?_
        refine j_lo [4, 5, 2, 1, 0] rfl ?_
        exact H
    · have H := H.2 c_6
      refine j_iload 5 dX7_bestDrop_90 rfl ?_
      refine j_goto (tgt := 96) dX7_bestDrop_92 (by decide) ?_
      refine j_istore_n (lo' := [(2, .int x4), (5, .int r_4), (0, .ref (ad 0)), (1, .int x1), (3, .int x3), (4, .int x4)]) dX7_bestDrop_96 rfl (by decide) rfl ?_
      refine j_aload_n 2 dX7_bestDrop_97 rfl rfl ?_
      refine j_get 0 fl_X7_28 dX7_bestDrop_98 rfl rfl ?_
      refine j_callS (wc := (arW G (pk ad [7]) 0 102 f_3)) (As := [.ref ((pk ad [7]) 0)]) (st := []) ml_X7_outOf sl_X7_174 dX7_bestDrop_101 [none, none, none, none, none, none, none, some 0] ⟨rfl, Nat.le_of_ble_eq_true rfl, rfl, rfl⟩ (Nat.le_of_ble_eq_true rfl) ⟨by decide, by decide⟩ rfl rfl (Nat.le_of_ble_eq_true rfl) (J.mono (fun v_ w_ hp_ => ?_) H)
      obtain ⟨r_10, rfl, rfl, H⟩ := hp_
      refine j_w (w' := (mdW G ad 0 (va_up a_2 6 f_3) v hh)) rfl ?_
      refine j_iload_n 4 dX7_bestDrop_104 rfl rfl ?_
      refine j_icmp_le (tgt := 118) dX7_bestDrop_105 (by decide) (fun c_11 => ?_) (fun c_11 => ?_)
      · have H := H.1 c_11
        refine j_iload_n 4 dX7_bestDrop_118 rfl rfl ?_
        refine j_istore_n (lo' := [(3, .int x3), (2, .int x4), (5, .int r_4), (0, .ref (ad 0)), (1, .int x1), (4, .int x4)]) dX7_bestDrop_119 rfl (by decide) rfl ?_
        refine j_iinc (v := (x4 + 1)) (lo' := [(4, .int (x4 + 1)), (3, .int x3), (2, .int x4), (5, .int r_4), (0, .ref (ad 0)), (1, .int x1)]) 5 dX7_bestDrop_120 rfl rfl (by decide) rfl ?_
        refine j_goto (tgt := 48) dX7_bestDrop_123 (by decide) ?_
        refine j_lo [4, 5, 2, 1, 0] rfl ?_
        exact H
      · have H := H.2 c_11
        refine j_aload_n 2 dX7_bestDrop_108 rfl rfl ?_
        refine j_get 0 fl_X7_28 dX7_bestDrop_109 rfl rfl ?_
        refine j_callS (wc := (arW G (pk ad [7]) 0 102 f_3)) (As := [.ref ((pk ad [7]) 0)]) (st := []) ml_X7_outOf sl_X7_174 dX7_bestDrop_112 [none, none, none, none, none, none, none, some 0] ⟨rfl, Nat.le_of_ble_eq_true rfl, rfl, rfl⟩ (Nat.le_of_ble_eq_true rfl) ⟨by decide, by decide⟩ rfl rfl (Nat.le_of_ble_eq_true rfl) (J.mono (fun v_ w_ hp_ => ?_) H)
        obtain ⟨r_12, rfl, rfl, H⟩ := hp_
        refine j_w (w' := (mdW G ad 0 (va_up a_2 6 f_3) v hh)) rfl ?_
        refine j_goto (tgt := 119) dX7_bestDrop_115 (by decide) ?_
        refine j_istore_n (lo' := [(3, .int r_12), (2, .int x4), (5, .int r_4), (0, .ref (ad 0)), (1, .int x1), (4, .int x4)]) dX7_bestDrop_119 rfl (by decide) rfl ?_
        refine j_iinc (v := (x4 + 1)) (lo' := [(4, .int (x4 + 1)), (3, .int r_12), (2, .int x4), (5, .int r_4), (0, .ref (ad 0)), (1, .int x1)]) 5 dX7_bestDrop_120 rfl rfl (by decide) rfl ?_
        refine j_goto (tgt := 48) dX7_bestDrop_123 (by decide) ?_
        refine j_lo [4, 5, 2, 1, 0] rfl ?_
        exact H
set_option maxRecDepth 20000 in
theorem sg_X7_blank_0 {G : GG} {ad : Nat → Nat} {a : Nat → Nat → Int32} {v : Nat → Int32} {hh : Int64} {Q : Option Value → va_W → Prop} (H : Q (some (.int (v 0))) (mdW G ad 0 a (va_up v 0 0) hh)) : J G mX7_blank 0 [(0, .ref (ad 0))] [] (mdW G ad 0 a v hh) Q := by
  refine j_aload_n 0 dX7_blank_0 rfl rfl ?_
  refine j_get 0 fl_X7_81 dX7_blank_1 rfl rfl ?_
  refine j_istore_n (lo' := [(1, .int (v 0)), (0, .ref (ad 0))]) dX7_blank_4 rfl (by decide) rfl ?_
  refine j_aload_n 1 dX7_blank_5 rfl rfl ?_
  refine j_iconst (v := 0) dX7_blank_6 (by decide) ?_
  refine j_put (w' := (mdW G ad 0 a (va_up v 0 0) hh)) 0 fp_X7_81 dX7_blank_7 rfl rfl rfl (Nat.le_of_ble_eq_true rfl) rfl ?_
  refine j_iload_n 0 dX7_blank_10 rfl rfl ?_
  exact j_iret dX7_blank_11 rfl H
set_option maxRecDepth 20000 in
theorem sg_X7_outs_0 {G : GG} {ad : Nat → Nat} {a : Nat → Nat → Int32} {v : Nat → Int32} {hh : Int64} {Q : Option Value → va_W → Prop} (H : J G mX7_outs 4 [(0, .ref (ad 0)), (1, .int 0), (2, .int 0)] [] (mdW G ad 0 a v hh) Q) : J G mX7_outs 0 [(0, .ref (ad 0))] [] (mdW G ad 0 a v hh) Q := by
  refine j_iconst (v := 0) dX7_outs_0 (by decide) ?_
  refine j_istore_n (lo' := [(1, .int 0), (0, .ref (ad 0))]) dX7_outs_1 rfl (by decide) rfl ?_
  refine j_iconst (v := 0) dX7_outs_2 (by decide) ?_
  refine j_istore_n (lo' := [(2, .int 0), (1, .int 0), (0, .ref (ad 0))]) dX7_outs_3 rfl (by decide) rfl ?_
  refine j_lo [2, 1, 0] rfl ?_
  exact H
set_option maxRecDepth 20000 in
theorem sg_X7_outs_4 {G : GG} {ad : Nat → Nat} {a : Nat → Nat → Int32} {v : Nat → Int32} {hh : Int64} {x1 : Int32} {x2 : Int32} {Q : Option Value → va_W → Prop} (H : (((6 ≤ x2) → Q (some (.int x1)) (mdW G ad 0 a v hh)) ∧ ((¬ 6 ≤ x2) → ((((v 1) = 0) → Q (some (.int x1)) (mdW G ad 0 a v hh)) ∧ ((¬ (v 1) = 0) → (vp_in x2 6) ∧ (((¬ ((a 2) (Int32.toNatClampNeg x2)) = (-1)) → J G mX7_outs 4 [(0, .ref (ad 0)), (1, .int (x1 + 0)), (2, .int (x2 + 1))] [] (mdW G ad 0 a v hh) Q) ∧ ((((a 2) (Int32.toNatClampNeg x2)) = (-1)) → J G mX7_outs 4 [(0, .ref (ad 0)), (1, .int (x1 + 1)), (2, .int (x2 + 1))] [] (mdW G ad 0 a v hh) Q))))))) : J G mX7_outs 4 [(0, .ref (ad 0)), (1, .int x1), (2, .int x2)] [] (mdW G ad 0 a v hh) Q := by
  refine j_iload_n 2 dX7_outs_4 rfl rfl ?_
  refine j_bipush (v := 6) dX7_outs_5 (by decide) ?_
  refine j_icmp_ge (tgt := 41) dX7_outs_7 (by decide) (fun c_1 => ?_) (fun c_1 => ?_)
  · have H := H.1 c_1
    refine j_iload_n 1 dX7_outs_41 rfl rfl ?_
    exact j_iret dX7_outs_42 rfl H
  · have H := H.2 c_1
    refine j_aload_n 0 dX7_outs_10 rfl rfl ?_
    refine j_get 0 fl_X7_101 dX7_outs_11 rfl rfl ?_
    refine j_if_eq (tgt := 41) dX7_outs_14 (by decide) (fun c_2 => ?_) (fun c_2 => ?_)
    · have H := H.1 c_2
      refine j_iload_n 1 dX7_outs_41 rfl rfl ?_
      exact j_iret dX7_outs_42 rfl H
    · have H := H.2 c_2
      refine j_iload_n 1 dX7_outs_17 rfl rfl ?_
      refine j_aload_n 0 dX7_outs_18 rfl rfl ?_
      refine j_get 0 fl_X7_16 dX7_outs_19 rfl rfl ?_
      refine j_iload_n 2 dX7_outs_22 rfl rfl ?_
      obtain ⟨h_3, H⟩ := H
      refine j_iald 3 dX7_outs_23 rfl h_3 ?_
      refine j_iconst (v := (-1)) dX7_outs_24 (by decide) ?_
      refine j_icmp_ne (tgt := 32) dX7_outs_25 (by decide) (fun c_4 => ?_) (fun c_4 => ?_)
      · have H := H.1 c_4
        refine j_iconst (v := 0) dX7_outs_32 (by decide) ?_
        refine j_iadd dX7_outs_33 ?_
        refine j_istore_n (lo' := [(1, .int (x1 + 0)), (0, .ref (ad 0)), (2, .int x2)]) dX7_outs_34 rfl (by decide) rfl ?_
        refine j_iinc (v := (x2 + 1)) (lo' := [(2, .int (x2 + 1)), (1, .int (x1 + 0)), (0, .ref (ad 0))]) 2 dX7_outs_35 rfl rfl (by decide) rfl ?_
        refine j_goto (tgt := 4) dX7_outs_38 (by decide) ?_
        refine j_lo [2, 1, 0] rfl ?_
        exact H
      · have H := H.2 c_4
        refine j_iconst (v := 1) dX7_outs_28 (by decide) ?_
        refine j_goto (tgt := 33) dX7_outs_29 (by decide) ?_
        refine j_iadd dX7_outs_33 ?_
        refine j_istore_n (lo' := [(1, .int (x1 + 1)), (0, .ref (ad 0)), (2, .int x2)]) dX7_outs_34 rfl (by decide) rfl ?_
        refine j_iinc (v := (x2 + 1)) (lo' := [(2, .int (x2 + 1)), (1, .int (x1 + 1)), (0, .ref (ad 0))]) 2 dX7_outs_35 rfl rfl (by decide) rfl ?_
        refine j_goto (tgt := 4) dX7_outs_38 (by decide) ?_
        refine j_lo [2, 1, 0] rfl ?_
        exact H
set_option maxRecDepth 20000 in
theorem sg_X7_founds_0 {G : GG} {ad : Nat → Nat} {a : Nat → Nat → Int32} {v : Nat → Int32} {hh : Int64} {Q : Option Value → va_W → Prop} (H : J G mX7_founds 4 [(0, .ref (ad 0)), (1, .int 0), (2, .int 0)] [] (mdW G ad 0 a v hh) Q) : J G mX7_founds 0 [(0, .ref (ad 0))] [] (mdW G ad 0 a v hh) Q := by
  refine j_iconst (v := 0) dX7_founds_0 (by decide) ?_
  refine j_istore_n (lo' := [(1, .int 0), (0, .ref (ad 0))]) dX7_founds_1 rfl (by decide) rfl ?_
  refine j_iconst (v := 0) dX7_founds_2 (by decide) ?_
  refine j_istore_n (lo' := [(2, .int 0), (1, .int 0), (0, .ref (ad 0))]) dX7_founds_3 rfl (by decide) rfl ?_
  refine j_lo [2, 1, 0] rfl ?_
  exact H
set_option maxRecDepth 20000 in
theorem sg_X7_founds_4 {G : GG} {ad : Nat → Nat} {a : Nat → Nat → Int32} {v : Nat → Int32} {hh : Int64} {x1 : Int32} {x2 : Int32} {Q : Option Value → va_W → Prop} (H : (((6 ≤ x2) → Q (some (.int x1)) (mdW G ad 0 a v hh)) ∧ ((¬ 6 ≤ x2) → ((((v 1) = 0) → Q (some (.int x1)) (mdW G ad 0 a v hh)) ∧ ((¬ (v 1) = 0) → (vp_in x2 6) ∧ (((¬ ((a 12) (Int32.toNatClampNeg x2)) = (-1)) → J G mX7_founds 4 [(0, .ref (ad 0)), (1, .int (x1 + 1)), (2, .int (x2 + 1))] [] (mdW G ad 0 a v hh) Q) ∧ ((((a 12) (Int32.toNatClampNeg x2)) = (-1)) → J G mX7_founds 4 [(0, .ref (ad 0)), (1, .int (x1 + 0)), (2, .int (x2 + 1))] [] (mdW G ad 0 a v hh) Q))))))) : J G mX7_founds 4 [(0, .ref (ad 0)), (1, .int x1), (2, .int x2)] [] (mdW G ad 0 a v hh) Q := by
  refine j_iload_n 2 dX7_founds_4 rfl rfl ?_
  refine j_bipush (v := 6) dX7_founds_5 (by decide) ?_
  refine j_icmp_ge (tgt := 41) dX7_founds_7 (by decide) (fun c_1 => ?_) (fun c_1 => ?_)
  · have H := H.1 c_1
    refine j_iload_n 1 dX7_founds_41 rfl rfl ?_
    exact j_iret dX7_founds_42 rfl H
  · have H := H.2 c_1
    refine j_aload_n 0 dX7_founds_10 rfl rfl ?_
    refine j_get 0 fl_X7_101 dX7_founds_11 rfl rfl ?_
    refine j_if_eq (tgt := 41) dX7_founds_14 (by decide) (fun c_2 => ?_) (fun c_2 => ?_)
    · have H := H.1 c_2
      refine j_iload_n 1 dX7_founds_41 rfl rfl ?_
      exact j_iret dX7_founds_42 rfl H
    · have H := H.2 c_2
      refine j_iload_n 1 dX7_founds_17 rfl rfl ?_
      refine j_aload_n 0 dX7_founds_18 rfl rfl ?_
      refine j_get 0 fl_X7_47 dX7_founds_19 rfl rfl ?_
      refine j_iload_n 2 dX7_founds_22 rfl rfl ?_
      obtain ⟨h_3, H⟩ := H
      refine j_iald 13 dX7_founds_23 rfl h_3 ?_
      refine j_iconst (v := (-1)) dX7_founds_24 (by decide) ?_
      refine j_icmp_ne (tgt := 32) dX7_founds_25 (by decide) (fun c_4 => ?_) (fun c_4 => ?_)
      · have H := H.1 c_4
        refine j_iconst (v := 1) dX7_founds_32 (by decide) ?_
        refine j_iadd dX7_founds_33 ?_
        refine j_istore_n (lo' := [(1, .int (x1 + 1)), (0, .ref (ad 0)), (2, .int x2)]) dX7_founds_34 rfl (by decide) rfl ?_
        refine j_iinc (v := (x2 + 1)) (lo' := [(2, .int (x2 + 1)), (1, .int (x1 + 1)), (0, .ref (ad 0))]) 2 dX7_founds_35 rfl rfl (by decide) rfl ?_
        refine j_goto (tgt := 4) dX7_founds_38 (by decide) ?_
        refine j_lo [2, 1, 0] rfl ?_
        exact H
      · have H := H.2 c_4
        refine j_iconst (v := 0) dX7_founds_28 (by decide) ?_
        refine j_goto (tgt := 33) dX7_founds_29 (by decide) ?_
        refine j_iadd dX7_founds_33 ?_
        refine j_istore_n (lo' := [(1, .int (x1 + 0)), (0, .ref (ad 0)), (2, .int x2)]) dX7_founds_34 rfl (by decide) rfl ?_
        refine j_iinc (v := (x2 + 1)) (lo' := [(2, .int (x2 + 1)), (1, .int (x1 + 0)), (0, .ref (ad 0))]) 2 dX7_founds_35 rfl rfl (by decide) rfl ?_
        refine j_goto (tgt := 4) dX7_founds_38 (by decide) ?_
        refine j_lo [2, 1, 0] rfl ?_
        exact H
set_option maxRecDepth 20000 in
theorem sg_X7_countOf_0 {G : GG} {ad : Nat → Nat} {a : Nat → Nat → Int32} {v : Nat → Int32} {hh : Int64} {x1 : Int32} {Q : Option Value → va_W → Prop} (H : J G mX7_countOf 7 [(0, .ref (ad 0)), (1, .int x1), (2, .int 0), (3, .int 0), (4, .int 0)] [] (mdW G ad 0 a v hh) Q) : J G mX7_countOf 0 [(0, .ref (ad 0)), (1, .int x1)] [] (mdW G ad 0 a v hh) Q := by
  refine j_iconst (v := 0) dX7_countOf_0 (by decide) ?_
  refine j_istore_n (lo' := [(2, .int 0), (0, .ref (ad 0)), (1, .int x1)]) dX7_countOf_1 rfl (by decide) rfl ?_
  refine j_iconst (v := 0) dX7_countOf_2 (by decide) ?_
  refine j_istore_n (lo' := [(3, .int 0), (2, .int 0), (0, .ref (ad 0)), (1, .int x1)]) dX7_countOf_3 rfl (by decide) rfl ?_
  refine j_iconst (v := 0) dX7_countOf_4 (by decide) ?_
  refine j_istore (lo' := [(4, .int 0), (3, .int 0), (2, .int 0), (0, .ref (ad 0)), (1, .int x1)]) dX7_countOf_5 (by decide) rfl ?_
  refine j_lo [3, 4, 2, 1, 0] rfl ?_
  exact H
set_option maxRecDepth 20000 in
theorem sg_X7_countOf_7 {G : GG} {ad : Nat → Nat} {a : Nat → Nat → Int32} {v : Nat → Int32} {hh : Int64} {x1 : Int32} {x2 : Int32} {x3 : Int32} {x4 : Int32} {Q : Option Value → va_W → Prop} (H : (((6 ≤ x4) → (((x1 = 0) → ((((v 1) = 0) → Q (some (.int 0)) (mdW G ad 0 a v hh)) ∧ ((¬ (v 1) = 0) → Q (some (.int 6)) (mdW G ad 0 a v hh)))) ∧ ((x1 = 1) → J G mX7_outs 0 [(0, .ref (ad 0))] [] (mdW G ad 0 a v hh) (fun v_ w_ => ∃ (r_3 : Int32), v_ = some (.int r_3) ∧ w_ = (mdW G ad 0 a v hh) ∧ Q (some (.int r_3)) (mdW G ad 0 a v hh))) ∧ ((x1 = 2) → Q (some (.int (v 3))) (mdW G ad 0 a v hh)) ∧ ((x1 = 3) → J G mX7_outOf 0 [(0, .ref ((pk ad [4]) 0))] [] (arW G (pk ad [4]) 0 102 (a 3)) (fun v_ w_ => ∃ (r_4 : Int32), v_ = some (.int r_4) ∧ w_ = (arW G (pk ad [4]) 0 102 (a 3)) ∧ Q (some (.int r_4)) (mdW G ad 0 a v hh))) ∧ ((x1 = 4) → Q (some (.int x2)) (mdW G ad 0 a v hh)) ∧ ((x1 = 5) → Q (some (.int x3)) (mdW G ad 0 a v hh)) ∧ ((x1 = 6) → J G mX7_founds 0 [(0, .ref (ad 0))] [] (mdW G ad 0 a v hh) (fun v_ w_ => ∃ (r_5 : Int32), v_ = some (.int r_5) ∧ w_ = (mdW G ad 0 a v hh) ∧ Q (some (.int r_5)) (mdW G ad 0 a v hh))) ∧ ((x1 = 7) → Q (some (.int (v 0))) (mdW G ad 0 a v hh)) ∧ ((x1 = 8) → Q (some (.int (v 2))) (mdW G ad 0 a v hh)) ∧ ((x1 = 9) → Q (some (.int (v 4))) (mdW G ad 0 a v hh)) ∧ ((x1 = 10) → Q (some (.int (v 5))) (mdW G ad 0 a v hh)) ∧ ((¬ x1 = 0 ∧ ¬ x1 = 1 ∧ ¬ x1 = 2 ∧ ¬ x1 = 3 ∧ ¬ x1 = 4 ∧ ¬ x1 = 5 ∧ ¬ x1 = 6 ∧ ¬ x1 = 7 ∧ ¬ x1 = 8 ∧ ¬ x1 = 9 ∧ ¬ x1 = 10) → Q (some (.int (-102))) (mdW G ad 0 a v hh)))) ∧ ((¬ 6 ≤ x4) → (vp_in ((17 * x4) + 3) 102) ∧ (vp_in x4 6) ∧ (((¬ ((a 1) (Int32.toNatClampNeg x4)) = 1) → J G mX7_countOf 7 [(0, .ref (ad 0)), (1, .int x1), (2, .int (x2 + ((a 3) (Int32.toNatClampNeg ((17 * x4) + 3))))), (3, .int (x3 + 0)), (4, .int (x4 + 1))] [] (mdW G ad 0 a v hh) Q) ∧ ((((a 1) (Int32.toNatClampNeg x4)) = 1) → (vp_in ((17 * x4) + 1) 102) ∧ (((((a 3) (Int32.toNatClampNeg ((17 * x4) + 1))) = (-1)) → J G mX7_countOf 7 [(0, .ref (ad 0)), (1, .int x1), (2, .int (x2 + ((a 3) (Int32.toNatClampNeg ((17 * x4) + 3))))), (3, .int (x3 + 0)), (4, .int (x4 + 1))] [] (mdW G ad 0 a v hh) Q) ∧ ((¬ ((a 3) (Int32.toNatClampNeg ((17 * x4) + 1))) = (-1)) → J G mX7_countOf 7 [(0, .ref (ad 0)), (1, .int x1), (2, .int (x2 + ((a 3) (Int32.toNatClampNeg ((17 * x4) + 3))))), (3, .int (x3 + 1)), (4, .int (x4 + 1))] [] (mdW G ad 0 a v hh) Q))))))) : J G mX7_countOf 7 [(0, .ref (ad 0)), (1, .int x1), (2, .int x2), (3, .int x3), (4, .int x4)] [] (mdW G ad 0 a v hh) Q := by
  refine j_iload 4 dX7_countOf_7 rfl ?_
  refine j_bipush (v := 6) dX7_countOf_9 (by decide) ?_
  refine j_icmp_ge (tgt := 70) dX7_countOf_11 (by decide) (fun c_1 => ?_) (fun c_1 => ?_)
  · have H := H.1 c_1
    refine j_iload_n 1 dX7_countOf_70 rfl rfl ?_
    refine j_tsw dX7_countOf_71 [(0, 128), (1, 142), (2, 147), (3, 152), (4, 160), (5, 162), (6, 164), (7, 169), (8, 174), (9, 179), (10, 184)] 189 (by decide) (by decide) (by decide) (fun v_ t_ hm hx => ?_) (fun hn => ?_)
    · simp only [List.mem_cons, Prod.mk.injEq, List.not_mem_nil, or_false] at hm
      rcases hm with ⟨rfl, rfl⟩ | ⟨rfl, rfl⟩ | ⟨rfl, rfl⟩ | ⟨rfl, rfl⟩ | ⟨rfl, rfl⟩ | ⟨rfl, rfl⟩ | ⟨rfl, rfl⟩ | ⟨rfl, rfl⟩ | ⟨rfl, rfl⟩ | ⟨rfl, rfl⟩ | ⟨rfl, rfl⟩
      · have H := H.1 hx
        refine j_aload_n 0 dX7_countOf_128 rfl rfl ?_
        refine j_get 0 fl_X7_101 dX7_countOf_129 rfl rfl ?_
        refine j_if_eq (tgt := 140) dX7_countOf_132 (by decide) (fun c_2 => ?_) (fun c_2 => ?_)
        · have H := H.1 c_2
          refine j_iconst (v := 0) dX7_countOf_140 (by decide) ?_
          exact j_iret dX7_countOf_141 rfl H
        · have H := H.2 c_2
          refine j_bipush (v := 6) dX7_countOf_135 (by decide) ?_
          refine j_goto (tgt := 141) dX7_countOf_137 (by decide) ?_
          exact j_iret dX7_countOf_141 rfl H
      · have H := H.2.1 hx
        refine j_aload_n 0 dX7_countOf_142 rfl rfl ?_
        refine j_callV0 (q0 := 0) (As := []) (st := []) ml_X7_outs vl_X7_115 dX7_countOf_143 rfl rfl rfl (Nat.le_of_ble_eq_true rfl) ⟨by decide, by decide⟩ rfl rfl (Nat.le_of_ble_eq_true rfl) (J.mono (fun v_ w_ hp_ => ?_) H)
        obtain ⟨r_3, rfl, rfl, H⟩ := hp_
        exact j_iret dX7_countOf_146 rfl H
      · have H := H.2.2.1 hx
        refine j_aload_n 0 dX7_countOf_147 rfl rfl ?_
        refine j_get 0 fl_X7_109 dX7_countOf_148 rfl rfl ?_
        exact j_iret dX7_countOf_151 rfl H
      · have H := H.2.2.2.1 hx
        refine j_aload_n 0 dX7_countOf_152 rfl rfl ?_
        refine j_get 0 fl_X7_19 dX7_countOf_153 rfl rfl ?_
        refine j_callS (wc := (arW G (pk ad [4]) 0 102 (a 3))) (As := [.ref ((pk ad [4]) 0)]) (st := []) ml_X7_outOf sl_X7_174 dX7_countOf_156 [none, none, none, none, some 0] ⟨rfl, Nat.le_of_ble_eq_true rfl, rfl, rfl⟩ (Nat.le_of_ble_eq_true rfl) ⟨by decide, by decide⟩ rfl rfl (Nat.le_of_ble_eq_true rfl) (J.mono (fun v_ w_ hp_ => ?_) H)
        obtain ⟨r_4, rfl, rfl, H⟩ := hp_
        refine j_w (w' := (mdW G ad 0 a v hh)) rfl ?_
        exact j_iret dX7_countOf_159 rfl H
      · have H := H.2.2.2.2.1 hx
        refine j_iload_n 2 dX7_countOf_160 rfl rfl ?_
        exact j_iret dX7_countOf_161 rfl H
      · have H := H.2.2.2.2.2.1 hx
        refine j_iload_n 3 dX7_countOf_162 rfl rfl ?_
        exact j_iret dX7_countOf_163 rfl H
      · have H := H.2.2.2.2.2.2.1 hx
        refine j_aload_n 0 dX7_countOf_164 rfl rfl ?_
        refine j_callV0 (q0 := 0) (As := []) (st := []) ml_X7_founds vl_X7_178 dX7_countOf_165 rfl rfl rfl (Nat.le_of_ble_eq_true rfl) ⟨by decide, by decide⟩ rfl rfl (Nat.le_of_ble_eq_true rfl) (J.mono (fun v_ w_ hp_ => ?_) H)
        obtain ⟨r_5, rfl, rfl, H⟩ := hp_
        exact j_iret dX7_countOf_168 rfl H
      · have H := H.2.2.2.2.2.2.2.1 hx
        refine j_aload_n 0 dX7_countOf_169 rfl rfl ?_
        refine j_get 0 fl_X7_81 dX7_countOf_170 rfl rfl ?_
        exact j_iret dX7_countOf_173 rfl H
      · have H := H.2.2.2.2.2.2.2.2.1 hx
        refine j_aload_n 0 dX7_countOf_174 rfl rfl ?_
        refine j_get 0 fl_X7_112 dX7_countOf_175 rfl rfl ?_
        exact j_iret dX7_countOf_178 rfl H
      · have H := H.2.2.2.2.2.2.2.2.2.1 hx
        refine j_aload_n 0 dX7_countOf_179 rfl rfl ?_
        refine j_get 0 fl_X7_147 dX7_countOf_180 rfl rfl ?_
        exact j_iret dX7_countOf_183 rfl H
      · have H := H.2.2.2.2.2.2.2.2.2.2.1 hx
        refine j_aload_n 0 dX7_countOf_184 rfl rfl ?_
        refine j_get 0 fl_X7_165 dX7_countOf_185 rfl rfl ?_
        exact j_iret dX7_countOf_188 rfl H
    · have H := H.2.2.2.2.2.2.2.2.2.2.2 ⟨hn 0 128 (by simp), hn 1 142 (by simp), hn 2 147 (by simp), hn 3 152 (by simp), hn 4 160 (by simp), hn 5 162 (by simp), hn 6 164 (by simp), hn 7 169 (by simp), hn 8 174 (by simp), hn 9 179 (by simp), hn 10 184 (by simp)⟩
      refine j_bipush (v := (-102)) dX7_countOf_189 (by decide) ?_
      exact j_iret dX7_countOf_191 rfl H
  · have H := H.2 c_1
    refine j_iload_n 2 dX7_countOf_14 rfl rfl ?_
    refine j_aload_n 0 dX7_countOf_15 rfl rfl ?_
    refine j_get 0 fl_X7_19 dX7_countOf_16 rfl rfl ?_
    refine j_bipush (v := 17) dX7_countOf_19 (by decide) ?_
    refine j_iload 4 dX7_countOf_21 rfl ?_
    refine j_imul dX7_countOf_23 ?_
    refine j_iconst (v := 3) dX7_countOf_24 (by decide) ?_
    refine j_iadd dX7_countOf_25 ?_
    obtain ⟨h_6, H⟩ := H
    refine j_iald 4 dX7_countOf_26 rfl h_6 ?_
    refine j_iadd dX7_countOf_27 ?_
    refine j_istore_n (lo' := [(2, .int (x2 + ((a 3) (Int32.toNatClampNeg ((17 * x4) + 3))))), (0, .ref (ad 0)), (1, .int x1), (3, .int x3), (4, .int x4)]) dX7_countOf_28 rfl (by decide) rfl ?_
    refine j_iload_n 3 dX7_countOf_29 rfl rfl ?_
    refine j_aload_n 1 dX7_countOf_30 rfl rfl ?_
    refine j_get 0 fl_X7_13 dX7_countOf_31 rfl rfl ?_
    refine j_iload 4 dX7_countOf_34 rfl ?_
    obtain ⟨h_7, H⟩ := H
    refine j_iald 2 dX7_countOf_36 rfl h_7 ?_
    refine j_iconst (v := 1) dX7_countOf_37 (by decide) ?_
    refine j_icmp_ne (tgt := 61) dX7_countOf_38 (by decide) (fun c_8 => ?_) (fun c_8 => ?_)
    · have H := H.1 c_8
      refine j_iconst (v := 0) dX7_countOf_61 (by decide) ?_
      refine j_iadd dX7_countOf_62 ?_
      refine j_istore_n (lo' := [(3, .int (x3 + 0)), (2, .int (x2 + ((a 3) (Int32.toNatClampNeg ((17 * x4) + 3))))), (0, .ref (ad 0)), (1, .int x1), (4, .int x4)]) dX7_countOf_63 rfl (by decide) rfl ?_
      refine j_iinc (v := (x4 + 1)) (lo' := [(4, .int (x4 + 1)), (3, .int (x3 + 0)), (2, .int (x2 + ((a 3) (Int32.toNatClampNeg ((17 * x4) + 3))))), (0, .ref (ad 0)), (1, .int x1)]) 4 dX7_countOf_64 rfl rfl (by decide) rfl ?_
      refine j_goto (tgt := 7) dX7_countOf_67 (by decide) ?_
      refine j_lo [3, 4, 2, 1, 0] rfl ?_
      exact H
    · have H := H.2 c_8
      refine j_aload_n 1 dX7_countOf_41 rfl rfl ?_
      refine j_get 0 fl_X7_19 dX7_countOf_42 rfl rfl ?_
      refine j_bipush (v := 17) dX7_countOf_45 (by decide) ?_
      refine j_iload 4 dX7_countOf_47 rfl ?_
      refine j_imul dX7_countOf_49 ?_
      refine j_iconst (v := 1) dX7_countOf_50 (by decide) ?_
      refine j_iadd dX7_countOf_51 ?_
      obtain ⟨h_9, H⟩ := H
      refine j_iald 4 dX7_countOf_52 rfl h_9 ?_
      refine j_iconst (v := (-1)) dX7_countOf_53 (by decide) ?_
      refine j_icmp_eq (tgt := 61) dX7_countOf_54 (by decide) (fun c_10 => ?_) (fun c_10 => ?_)
      · have H := H.1 c_10
        refine j_iconst (v := 0) dX7_countOf_61 (by decide) ?_
        refine j_iadd dX7_countOf_62 ?_
        refine j_istore_n (lo' := [(3, .int (x3 + 0)), (2, .int (x2 + ((a 3) (Int32.toNatClampNeg ((17 * x4) + 3))))), (0, .ref (ad 0)), (1, .int x1), (4, .int x4)]) dX7_countOf_63 rfl (by decide) rfl ?_
        refine j_iinc (v := (x4 + 1)) (lo' := [(4, .int (x4 + 1)), (3, .int (x3 + 0)), (2, .int (x2 + ((a 3) (Int32.toNatClampNeg ((17 * x4) + 3))))), (0, .ref (ad 0)), (1, .int x1)]) 4 dX7_countOf_64 rfl rfl (by decide) rfl ?_
        refine j_goto (tgt := 7) dX7_countOf_67 (by decide) ?_
        refine j_lo [3, 4, 2, 1, 0] rfl ?_
        exact H
      · have H := H.2 c_10
        refine j_iconst (v := 1) dX7_countOf_57 (by decide) ?_
        refine j_goto (tgt := 62) dX7_countOf_58 (by decide) ?_
        refine j_iadd dX7_countOf_62 ?_
        refine j_istore_n (lo' := [(3, .int (x3 + 1)), (2, .int (x2 + ((a 3) (Int32.toNatClampNeg ((17 * x4) + 3))))), (0, .ref (ad 0)), (1, .int x1), (4, .int x4)]) dX7_countOf_63 rfl (by decide) rfl ?_
        refine j_iinc (v := (x4 + 1)) (lo' := [(4, .int (x4 + 1)), (3, .int (x3 + 1)), (2, .int (x2 + ((a 3) (Int32.toNatClampNeg ((17 * x4) + 3))))), (0, .ref (ad 0)), (1, .int x1)]) 4 dX7_countOf_64 rfl rfl (by decide) rfl ?_
        refine j_goto (tgt := 7) dX7_countOf_67 (by decide) ?_
        refine j_lo [3, 4, 2, 1, 0] rfl ?_
        exact H
set_option maxRecDepth 20000 in
theorem sg_X7_count_0 {G : GG} {ad : Nat → Nat} {a : Nat → Nat → Int32} {v : Nat → Int32} {hh : Int64} {x1 : Int32} {Q : Option Value → va_W → Prop} (H : J G mX7_countOf 0 [(0, .ref (ad 0)), (1, .int x1)] [] (mdW G ad 0 a v hh) (fun v_ w_ => ∃ (r_1 : Int32), v_ = some (.int r_1) ∧ w_ = (mdW G ad 0 a v hh) ∧ Q (some (.int r_1)) (mdW G ad 0 a v hh))) : J G mX7_count 0 [(0, .ref (ad 0)), (1, .int x1)] [] (mdW G ad 0 a v hh) Q := by
  refine j_aload_n 0 dX7_count_0 rfl rfl ?_
  refine j_iload_n 1 dX7_count_1 rfl rfl ?_
  refine j_callV0 (q0 := 0) (As := [.int x1]) (st := []) ml_X7_countOf vl_X7_208 dX7_count_2 rfl rfl rfl (Nat.le_of_ble_eq_true rfl) ⟨by decide, by decide⟩ rfl rfl (Nat.le_of_ble_eq_true rfl) (J.mono (fun v_ w_ hp_ => ?_) H)
  obtain ⟨r_1, rfl, rfl, H⟩ := hp_
  exact j_iret dX7_count_5 rfl H
set_option maxRecDepth 20000 in
theorem sg_X7_say_0 {G : GG} {ad : Nat → Nat} {a : Nat → Nat → Int32} {v : Nat → Int32} {hh : Int64} {x1 : Int64} {Q : Option Value → va_W → Prop} (H : Q none (mdW G ad 0 a v ((31 * hh) + x1))) : J G mX7_say 0 [(0, .ref (ad 0)), (1, .long x1)] [] (mdW G ad 0 a v hh) Q := by
  refine j_aload_n 0 dX7_say_0 rfl rfl ?_
  refine j_ldc2 cl_X7_211 dX7_say_1 ?_
  refine j_aload_n 0 dX7_say_4 rfl rfl ?_
  refine j_get 0 fl_X7_213 dX7_say_5 rfl rfl ?_
  refine j_lmul dX7_say_8 ?_
  refine j_lload_n 1 dX7_say_9 rfl rfl ?_
  refine j_ladd dX7_say_10 ?_
  refine j_put (w' := (mdW G ad 0 a v ((31 * hh) + x1))) 0 fp_X7_213 dX7_say_11 rfl rfl rfl (Nat.le_of_ble_eq_true rfl) rfl ?_
  exact j_vret dX7_say_14 rfl H
set_option maxRecDepth 20000 in
theorem sg_X7_isFound_0 {G : GG} {ad : Nat → Nat} {a : Nat → Nat → Int32} {v : Nat → Int32} {hh : Int64} {Q : Option Value → va_W → Prop} (H : J G mX7_fallsAgain 0 [(0, .ref (ad 0))] [] (mdW G ad 0 a v hh) (fun v_ w_ => ∃ (a_1 : Nat → Nat → Int32), v_ = none ∧ w_ = (mdW G ad 0 a_1 v hh) ∧ J G mX7_isFound 8 [(0, .ref (ad 0)), (1, .int 1), (2, .int 0)] [] (mdW G ad 0 a_1 v hh) Q)) : J G mX7_isFound 0 [(0, .ref (ad 0))] [] (mdW G ad 0 a v hh) Q := by
  refine j_aload_n 0 dX7_isFound_0 rfl rfl ?_
  refine j_callV0 (q0 := 0) (As := []) (st := []) ml_X7_fallsAgain vl_X7_159 dX7_isFound_1 rfl rfl rfl (Nat.le_of_ble_eq_true rfl) ⟨by decide, by decide⟩ rfl rfl (Nat.le_of_ble_eq_true rfl) (J.mono (fun v_ w_ hp_ => ?_) H)
  obtain ⟨a_1, rfl, rfl, H⟩ := hp_
  refine j_iconst (v := 1) dX7_isFound_4 (by decide) ?_
  refine j_istore_n (lo' := [(1, .int 1), (0, .ref (ad 0))]) dX7_isFound_5 rfl (by decide) rfl ?_
  refine j_iconst (v := 0) dX7_isFound_6 (by decide) ?_
  refine j_istore_n (lo' := [(2, .int 0), (1, .int 1), (0, .ref (ad 0))]) dX7_isFound_7 rfl (by decide) rfl ?_
  refine j_lo [2, 1, 0] rfl ?_
  exact H
set_option maxRecDepth 20000 in
theorem sg_X7_isFound_8 {G : GG} {ad : Nat → Nat} {a : Nat → Nat → Int32} {v : Nat → Int32} {hh : Int64} {x1 : Int32} {x2 : Int32} {Q : Option Value → va_W → Prop} (H : (((6 ≤ x2) → (narrow .boolean (.int x1) = .int x1) ∧ Q (some (.int x1)) (mdW G ad 0 a v hh)) ∧ ((¬ 6 ≤ x2) → (vp_in x2 6) ∧ (((((a 12) (Int32.toNatClampNeg x2)) = (-1)) → J G mX7_isFound 8 [(0, .ref (ad 0)), (1, .int x1), (2, .int (x2 + 1))] [] (mdW G ad 0 a v hh) Q) ∧ ((¬ ((a 12) (Int32.toNatClampNeg x2)) = (-1)) → (((x1 = 0) → J G mX7_isFound 56 [(0, .ref (ad 0)), (1, .int 0), (2, .int x2), (3, .int 0)] [] (mdW G ad 0 a v hh) Q) ∧ ((¬ x1 = 0) → (vp_in ((17 * x2) + 4) 102) ∧ (((¬ ((a 6) (Int32.toNatClampNeg ((17 * x2) + 4))) = ((a 12) (Int32.toNatClampNeg x2))) → J G mX7_isFound 56 [(0, .ref (ad 0)), (1, .int 0), (2, .int x2), (3, .int 0)] [] (mdW G ad 0 a v hh) Q) ∧ ((((a 6) (Int32.toNatClampNeg ((17 * x2) + 4))) = ((a 12) (Int32.toNatClampNeg x2))) → J G mX7_isFound 56 [(0, .ref (ad 0)), (1, .int 1), (2, .int x2), (3, .int 0)] [] (mdW G ad 0 a v hh) Q))))))))) : J G mX7_isFound 8 [(0, .ref (ad 0)), (1, .int x1), (2, .int x2)] [] (mdW G ad 0 a v hh) Q := by
  refine j_iload_n 2 dX7_isFound_8 rfl rfl ?_
  refine j_bipush (v := 6) dX7_isFound_9 (by decide) ?_
  refine j_icmp_ge (tgt := 115) dX7_isFound_11 (by decide) (fun c_1 => ?_) (fun c_1 => ?_)
  · have H := H.1 c_1
    refine j_iload_n 1 dX7_isFound_115 rfl rfl ?_
    obtain ⟨hn, H⟩ := H
    exact j_zret dX7_isFound_116 rfl hn H
  · have H := H.2 c_1
    refine j_aload_n 0 dX7_isFound_14 rfl rfl ?_
    refine j_get 0 fl_X7_47 dX7_isFound_15 rfl rfl ?_
    refine j_iload_n 2 dX7_isFound_18 rfl rfl ?_
    obtain ⟨h_2, H⟩ := H
    refine j_iald 13 dX7_isFound_19 rfl h_2 ?_
    refine j_iconst (v := (-1)) dX7_isFound_20 (by decide) ?_
    refine j_icmp_eq (tgt := 109) dX7_isFound_21 (by decide) (fun c_3 => ?_) (fun c_3 => ?_)
    · have H := H.1 c_3
      refine j_iinc (v := (x2 + 1)) (lo' := [(2, .int (x2 + 1)), (0, .ref (ad 0)), (1, .int x1)]) 2 dX7_isFound_109 rfl rfl (by decide) rfl ?_
      refine j_goto (tgt := 8) dX7_isFound_112 (by decide) ?_
      refine j_lo [1, 2, 0] rfl ?_
      exact H
    · have H := H.2 c_3
      refine j_iload_n 1 dX7_isFound_24 rfl rfl ?_
      refine j_if_eq (tgt := 52) dX7_isFound_25 (by decide) (fun c_4 => ?_) (fun c_4 => ?_)
      · have H := H.1 c_4
        refine j_iconst (v := 0) dX7_isFound_52 (by decide) ?_
        refine j_istore_n (lo' := [(1, .int 0), (0, .ref (ad 0)), (2, .int x2)]) dX7_isFound_53 rfl (by decide) rfl ?_
        refine j_iconst (v := 0) dX7_isFound_54 (by decide) ?_
        refine j_istore_n (lo' := [(3, .int 0), (1, .int 0), (0, .ref (ad 0)), (2, .int x2)]) dX7_isFound_55 rfl (by decide) rfl ?_
        refine j_lo [2, 1, 3, 0] rfl ?_
        exact H
      · have H := H.2 c_4
        refine j_aload_n 0 dX7_isFound_28 rfl rfl ?_
        refine j_get 0 fl_X7_28 dX7_isFound_29 rfl rfl ?_
        refine j_bipush (v := 17) dX7_isFound_32 (by decide) ?_
        refine j_iload_n 2 dX7_isFound_34 rfl rfl ?_
        refine j_imul dX7_isFound_35 ?_
        refine j_iconst (v := 4) dX7_isFound_36 (by decide) ?_
        refine j_iadd dX7_isFound_37 ?_
        obtain ⟨h_5, H⟩ := H
        refine j_iald 7 dX7_isFound_38 rfl h_5 ?_
        refine j_aload_n 0 dX7_isFound_39 rfl rfl ?_
        refine j_get 0 fl_X7_47 dX7_isFound_40 rfl rfl ?_
        refine j_iload_n 2 dX7_isFound_43 rfl rfl ?_
        refine j_iald 13 dX7_isFound_44 rfl h_2 ?_
        refine j_icmp_ne (tgt := 52) dX7_isFound_45 (by decide) (fun c_6 => ?_) (fun c_6 => ?_)
        · have H := H.1 c_6
          refine j_iconst (v := 0) dX7_isFound_52 (by decide) ?_
          refine j_istore_n (lo' := [(1, .int 0), (0, .ref (ad 0)), (2, .int x2)]) dX7_isFound_53 rfl (by decide) rfl ?_
          refine j_iconst (v := 0) dX7_isFound_54 (by decide) ?_
          refine j_istore_n (lo' := [(3, .int 0), (1, .int 0), (0, .ref (ad 0)), (2, .int x2)]) dX7_isFound_55 rfl (by decide) rfl ?_
          refine j_lo [2, 1, 3, 0] rfl ?_
          exact H
        · have H := H.2 c_6
          refine j_iconst (v := 1) dX7_isFound_48 (by decide) ?_
          refine j_goto (tgt := 53) dX7_isFound_49 (by decide) ?_
          refine j_istore_n (lo' := [(1, .int 1), (0, .ref (ad 0)), (2, .int x2)]) dX7_isFound_53 rfl (by decide) rfl ?_
          refine j_iconst (v := 0) dX7_isFound_54 (by decide) ?_
          refine j_istore_n (lo' := [(3, .int 0), (1, .int 1), (0, .ref (ad 0)), (2, .int x2)]) dX7_isFound_55 rfl (by decide) rfl ?_
          refine j_lo [2, 1, 3, 0] rfl ?_
          exact H
set_option maxRecDepth 20000 in
theorem sg_X7_isFound_56 {G : GG} {ad : Nat → Nat} {a : Nat → Nat → Int32} {v : Nat → Int32} {hh : Int64} {x1 : Int32} {x2 : Int32} {x3 : Int32} {Q : Option Value → va_W → Prop} (H : (vp_in x2 6) ∧ (((((a 12) (Int32.toNatClampNeg x2)) ≤ x3) → J G mX7_isFound 8 [(0, .ref (ad 0)), (1, .int x1), (2, .int (x2 + 1))] [] (mdW G ad 0 a v hh) Q) ∧ ((¬ ((a 12) (Int32.toNatClampNeg x2)) ≤ x3) → (((x1 = 0) → J G mX7_isFound 56 [(0, .ref (ad 0)), (1, .int 0), (2, .int x2), (3, .int (x3 + 1))] [] (mdW G ad 0 a v hh) Q) ∧ ((¬ x1 = 0) → (vp_in (((17 * x2) + 5) + x3) 102) ∧ (vp_in ((8 * x2) + x3) 48) ∧ (((¬ ((a 6) (Int32.toNatClampNeg (((17 * x2) + 5) + x3))) = ((a 13) (Int32.toNatClampNeg ((8 * x2) + x3)))) → J G mX7_isFound 56 [(0, .ref (ad 0)), (1, .int 0), (2, .int x2), (3, .int (x3 + 1))] [] (mdW G ad 0 a v hh) Q) ∧ ((((a 6) (Int32.toNatClampNeg (((17 * x2) + 5) + x3))) = ((a 13) (Int32.toNatClampNeg ((8 * x2) + x3)))) → J G mX7_isFound 56 [(0, .ref (ad 0)), (1, .int 1), (2, .int x2), (3, .int (x3 + 1))] [] (mdW G ad 0 a v hh) Q))))))) : J G mX7_isFound 56 [(0, .ref (ad 0)), (1, .int x1), (2, .int x2), (3, .int x3)] [] (mdW G ad 0 a v hh) Q := by
  refine j_iload_n 3 dX7_isFound_56 rfl rfl ?_
  refine j_aload_n 0 dX7_isFound_57 rfl rfl ?_
  refine j_get 0 fl_X7_47 dX7_isFound_58 rfl rfl ?_
  refine j_iload_n 2 dX7_isFound_61 rfl rfl ?_
  obtain ⟨h_1, H⟩ := H
  refine j_iald 13 dX7_isFound_62 rfl h_1 ?_
  refine j_icmp_ge (tgt := 109) dX7_isFound_63 (by decide) (fun c_2 => ?_) (fun c_2 => ?_)
  · have H := H.1 c_2
    refine j_iinc (v := (x2 + 1)) (lo' := [(2, .int (x2 + 1)), (0, .ref (ad 0)), (1, .int x1), (3, .int x3)]) 2 dX7_isFound_109 rfl rfl (by decide) rfl ?_
    refine j_goto (tgt := 8) dX7_isFound_112 (by decide) ?_
    refine j_lo [1, 2, 0] rfl ?_
    exact H
  · have H := H.2 c_2
    refine j_iload_n 1 dX7_isFound_66 rfl rfl ?_
    refine j_if_eq (tgt := 101) dX7_isFound_67 (by decide) (fun c_3 => ?_) (fun c_3 => ?_)
    · have H := H.1 c_3
      refine j_iconst (v := 0) dX7_isFound_101 (by decide) ?_
      refine j_istore_n (lo' := [(1, .int 0), (0, .ref (ad 0)), (2, .int x2), (3, .int x3)]) dX7_isFound_102 rfl (by decide) rfl ?_
      refine j_iinc (v := (x3 + 1)) (lo' := [(3, .int (x3 + 1)), (1, .int 0), (0, .ref (ad 0)), (2, .int x2)]) 3 dX7_isFound_103 rfl rfl (by decide) rfl ?_
      refine j_goto (tgt := 56) dX7_isFound_106 (by decide) ?_
      refine j_lo [2, 1, 3, 0] rfl ?_
      exact H
    · have H := H.2 c_3
      refine j_aload_n 0 dX7_isFound_70 rfl rfl ?_
      refine j_get 0 fl_X7_28 dX7_isFound_71 rfl rfl ?_
      refine j_bipush (v := 17) dX7_isFound_74 (by decide) ?_
      refine j_iload_n 2 dX7_isFound_76 rfl rfl ?_
      refine j_imul dX7_isFound_77 ?_
      refine j_iconst (v := 5) dX7_isFound_78 (by decide) ?_
      refine j_iadd dX7_isFound_79 ?_
      refine j_iload_n 3 dX7_isFound_80 rfl rfl ?_
      refine j_iadd dX7_isFound_81 ?_
      obtain ⟨h_4, H⟩ := H
      refine j_iald 7 dX7_isFound_82 rfl h_4 ?_
      refine j_aload_n 0 dX7_isFound_83 rfl rfl ?_
      refine j_get 0 fl_X7_50 dX7_isFound_84 rfl rfl ?_
      refine j_bipush (v := 8) dX7_isFound_87 (by decide) ?_
      refine j_iload_n 2 dX7_isFound_89 rfl rfl ?_
      refine j_imul dX7_isFound_90 ?_
      refine j_iload_n 3 dX7_isFound_91 rfl rfl ?_
      refine j_iadd dX7_isFound_92 ?_
      obtain ⟨h_5, H⟩ := H
      refine j_iald 14 dX7_isFound_93 rfl h_5 ?_
      refine j_icmp_ne (tgt := 101) dX7_isFound_94 (by decide) (fun c_6 => ?_) (fun c_6 => ?_)
      · have H := H.1 c_6
        refine j_iconst (v := 0) dX7_isFound_101 (by decide) ?_
        refine j_istore_n (lo' := [(1, .int 0), (0, .ref (ad 0)), (2, .int x2), (3, .int x3)]) dX7_isFound_102 rfl (by decide) rfl ?_
        refine j_iinc (v := (x3 + 1)) (lo' := [(3, .int (x3 + 1)), (1, .int 0), (0, .ref (ad 0)), (2, .int x2)]) 3 dX7_isFound_103 rfl rfl (by decide) rfl ?_
        refine j_goto (tgt := 56) dX7_isFound_106 (by decide) ?_
        refine j_lo [2, 1, 3, 0] rfl ?_
        exact H
      · have H := H.2 c_6
        refine j_iconst (v := 1) dX7_isFound_97 (by decide) ?_
        refine j_goto (tgt := 102) dX7_isFound_98 (by decide) ?_
        refine j_istore_n (lo' := [(1, .int 1), (0, .ref (ad 0)), (2, .int x2), (3, .int x3)]) dX7_isFound_102 rfl (by decide) rfl ?_
        refine j_iinc (v := (x3 + 1)) (lo' := [(3, .int (x3 + 1)), (1, .int 1), (0, .ref (ad 0)), (2, .int x2)]) 3 dX7_isFound_103 rfl rfl (by decide) rfl ?_
        refine j_goto (tgt := 56) dX7_isFound_106 (by decide) ?_
        refine j_lo [2, 1, 3, 0] rfl ?_
        exact H
set_option maxRecDepth 20000 in
theorem sg_X7_kindBits_0 {G : GG} {ad : Nat → Nat} {a : Nat → Nat → Int32} {v : Nat → Int32} {hh : Int64} {x1 : Int32} {Q : Option Value → va_W → Prop} (H : J G mX7_asItIs 0 [(0, .ref (ad 0))] [] (mdW G ad 0 a v hh) (fun v_ w_ => ∃ (a_1 : Nat → Nat → Int32), v_ = none ∧ w_ = (mdW G ad 0 a_1 v hh) ∧ J G mX7_kindBits 8 [(0, .ref (ad 0)), (1, .int x1), (2, .int 0), (3, .int 0)] [] (mdW G ad 0 a_1 v hh) Q)) : J G mX7_kindBits 0 [(0, .ref (ad 0)), (1, .int x1)] [] (mdW G ad 0 a v hh) Q := by
  refine j_aload_n 0 dX7_kindBits_0 rfl rfl ?_
  refine j_callV0 (q0 := 0) (As := []) (st := []) ml_X7_asItIs vl_X7_150 dX7_kindBits_1 rfl rfl rfl (Nat.le_of_ble_eq_true rfl) ⟨by decide, by decide⟩ rfl rfl (Nat.le_of_ble_eq_true rfl) (J.mono (fun v_ w_ hp_ => ?_) H)
  obtain ⟨a_1, rfl, rfl, H⟩ := hp_
  refine j_iconst (v := 0) dX7_kindBits_4 (by decide) ?_
  refine j_istore_n (lo' := [(2, .int 0), (0, .ref (ad 0)), (1, .int x1)]) dX7_kindBits_5 rfl (by decide) rfl ?_
  refine j_iconst (v := 0) dX7_kindBits_6 (by decide) ?_
  refine j_istore_n (lo' := [(3, .int 0), (2, .int 0), (0, .ref (ad 0)), (1, .int x1)]) dX7_kindBits_7 rfl (by decide) rfl ?_
  refine j_lo [2, 3, 1, 0] rfl ?_
  exact H
set_option maxRecDepth 20000 in
theorem sg_X7_kindBits_8 {G : GG} {ad : Nat → Nat} {a : Nat → Nat → Int32} {v : Nat → Int32} {hh : Int64} {x1 : Int32} {x2 : Int32} {x3 : Int32} {Q : Option Value → va_W → Prop} (H : (((5 ≤ x3) → Q (some (.int x2)) (mdW G ad 0 a v hh)) ∧ ((¬ 5 ≤ x3) → (vp_in x1 6) ∧ J G mX7_isFound 0 [(0, .ref (ad 0))] [] (mdW G ad 0 (va_up a 7 (upd (a 7) (Int32.toNatClampNeg x1) x3)) v hh) (fun v_ w_ => ∃ (r_4 : Int32) (a_3 : Nat → Nat → Int32), v_ = some (.int r_4) ∧ w_ = (mdW G ad 0 a_3 v hh) ∧ (((r_4 = 0) → J G mX7_kindBits 8 [(0, .ref (ad 0)), (1, .int x1), (2, .int (x2 ||| 0)), (3, .int (x3 + 1))] [] (mdW G ad 0 a_3 v hh) Q) ∧ ((¬ r_4 = 0) → J G mX7_kindBits 8 [(0, .ref (ad 0)), (1, .int x1), (2, .int (x2 ||| ((1 <<< (x3 &&& 31)) : Int32))), (3, .int (x3 + 1))] [] (mdW G ad 0 a_3 v hh) Q)))))) : J G mX7_kindBits 8 [(0, .ref (ad 0)), (1, .int x1), (2, .int x2), (3, .int x3)] [] (mdW G ad 0 a v hh) Q := by
  refine j_iload_n 3 dX7_kindBits_8 rfl rfl ?_
  refine j_iconst (v := 5) dX7_kindBits_9 (by decide) ?_
  refine j_icmp_ge (tgt := 43) dX7_kindBits_10 (by decide) (fun c_1 => ?_) (fun c_1 => ?_)
  · have H := H.1 c_1
    refine j_iload_n 2 dX7_kindBits_43 rfl rfl ?_
    exact j_iret dX7_kindBits_44 rfl H
  · have H := H.2 c_1
    refine j_aload_n 0 dX7_kindBits_13 rfl rfl ?_
    refine j_get 0 fl_X7_31 dX7_kindBits_14 rfl rfl ?_
    refine j_iload_n 1 dX7_kindBits_17 rfl rfl ?_
    refine j_iload_n 3 dX7_kindBits_18 rfl rfl ?_
    obtain ⟨h_2, H⟩ := H
    refine j_iast (w' := (mdW G ad 0 (va_up a 7 (upd (a 7) (Int32.toNatClampNeg x1) x3)) v hh)) 8 dX7_kindBits_19 rfl h_2 rfl ?_
    refine j_iload_n 2 dX7_kindBits_20 rfl rfl ?_
    refine j_aload_n 0 dX7_kindBits_21 rfl rfl ?_
    refine j_callV0 (q0 := 0) (As := []) (st := [.int x2]) ml_X7_isFound vl_X7_181 dX7_kindBits_22 rfl rfl rfl (Nat.le_of_ble_eq_true rfl) ⟨by decide, by decide⟩ rfl rfl (Nat.le_of_ble_eq_true rfl) (J.mono (fun v_ w_ hp_ => ?_) H)
    obtain ⟨r_4, a_3, rfl, rfl, H⟩ := hp_
    refine j_if_eq (tgt := 34) dX7_kindBits_25 (by decide) (fun c_5 => ?_) (fun c_5 => ?_)
    · have H := H.1 c_5
      refine j_iconst (v := 0) dX7_kindBits_34 (by decide) ?_
      refine j_ior dX7_kindBits_35 ?_
      refine j_istore_n (lo' := [(2, .int (x2 ||| 0)), (0, .ref (ad 0)), (1, .int x1), (3, .int x3)]) dX7_kindBits_36 rfl (by decide) rfl ?_
      refine j_iinc (v := (x3 + 1)) (lo' := [(3, .int (x3 + 1)), (2, .int (x2 ||| 0)), (0, .ref (ad 0)), (1, .int x1)]) 3 dX7_kindBits_37 rfl rfl (by decide) rfl ?_
      refine j_goto (tgt := 8) dX7_kindBits_40 (by decide) ?_
      refine j_lo [2, 3, 1, 0] rfl ?_
      exact H
    · have H := H.2 c_5
      refine j_iconst (v := 1) dX7_kindBits_28 (by decide) ?_
      refine j_iload_n 3 dX7_kindBits_29 rfl rfl ?_
      refine j_ishl dX7_kindBits_30 ?_
      refine j_goto (tgt := 35) dX7_kindBits_31 (by decide) ?_
      refine j_ior dX7_kindBits_35 ?_
      refine j_istore_n (lo' := [(2, .int (x2 ||| ((1 <<< (x3 &&& 31)) : Int32))), (0, .ref (ad 0)), (1, .int x1), (3, .int x3)]) dX7_kindBits_36 rfl (by decide) rfl ?_
      refine j_iinc (v := (x3 + 1)) (lo' := [(3, .int (x3 + 1)), (2, .int (x2 ||| ((1 <<< (x3 &&& 31)) : Int32))), (0, .ref (ad 0)), (1, .int x1)]) 3 dX7_kindBits_37 rfl rfl (by decide) rfl ?_
      refine j_goto (tgt := 8) dX7_kindBits_40 (by decide) ?_
      refine j_lo [2, 3, 1, 0] rfl ?_
      exact H
set_option maxRecDepth 20000 in
theorem sg_X7_sayGutter_0 {G : GG} {ad : Nat → Nat} {a : Nat → Nat → Int32} {v : Nat → Int32} {hh : Int64} {x1 : Int32} {Q : Option Value → va_W → Prop} (H : J G mX7_sayGutter 2 [(0, .ref (ad 0)), (1, .int x1), (2, .int 0)] [] (mdW G ad 0 a v hh) Q) : J G mX7_sayGutter 0 [(0, .ref (ad 0)), (1, .int x1)] [] (mdW G ad 0 a v hh) Q := by
  refine j_iconst (v := 0) dX7_sayGutter_0 (by decide) ?_
  refine j_istore_n (lo' := [(2, .int 0), (0, .ref (ad 0)), (1, .int x1)]) dX7_sayGutter_1 rfl (by decide) rfl ?_
  refine j_lo [1, 2, 0] rfl ?_
  exact H
set_option maxRecDepth 20000 in
theorem sg_X7_sayGutter_2 {G : GG} {ad : Nat → Nat} {a : Nat → Nat → Int32} {v : Nat → Int32} {hh : Int64} {x1 : Int32} {x2 : Int32} {Q : Option Value → va_W → Prop} (H : (((6 ≤ x2) → J G mX7_sayGutter 27 [(0, .ref (ad 0)), (1, .int x1), (2, .int 0)] [] (mdW G ad 0 a v hh) Q) ∧ ((¬ 6 ≤ x2) → J G mX7_tell 0 [(0, .ref (ad 0)), (1, .int x1), (2, .int x2)] [] (mdW G ad 0 a v hh) (fun v_ w_ => ∃ (r_2 : Int32), v_ = some (.int r_2) ∧ w_ = (mdW G ad 0 a v hh) ∧ J G mX7_say 0 [(0, .ref (ad 0)), (1, .long (Int32.toInt64 r_2))] [] (mdW G ad 0 a v hh) (fun v_ w_ => ∃ (hh_3 : Int64), v_ = none ∧ w_ = (mdW G ad 0 a v hh_3) ∧ J G mX7_sayGutter 2 [(0, .ref (ad 0)), (1, .int x1), (2, .int (x2 + 1))] [] (mdW G ad 0 a v hh_3) Q))))) : J G mX7_sayGutter 2 [(0, .ref (ad 0)), (1, .int x1), (2, .int x2)] [] (mdW G ad 0 a v hh) Q := by
  refine j_iload_n 2 dX7_sayGutter_2 rfl rfl ?_
  refine j_bipush (v := 6) dX7_sayGutter_3 (by decide) ?_
  refine j_icmp_ge (tgt := 25) dX7_sayGutter_5 (by decide) (fun c_1 => ?_) (fun c_1 => ?_)
  · have H := H.1 c_1
    refine j_iconst (v := 0) dX7_sayGutter_25 (by decide) ?_
    refine j_istore_n (lo' := [(2, .int 0), (0, .ref (ad 0)), (1, .int x1)]) dX7_sayGutter_26 rfl (by decide) rfl ?_
    refine j_lo [1, 2, 0] rfl ?_
    exact H
  · have H := H.2 c_1
    refine j_aload_n 0 dX7_sayGutter_8 rfl rfl ?_
    refine j_aload_n 0 dX7_sayGutter_9 rfl rfl ?_
    refine j_iload_n 1 dX7_sayGutter_10 rfl rfl ?_
    refine j_iload_n 2 dX7_sayGutter_11 rfl rfl ?_
    refine j_callV0 (q0 := 0) (As := [.int x1, .int x2]) (st := [.ref (ad 0)]) ml_X7_tell vl_X7_123 dX7_sayGutter_12 rfl rfl rfl (Nat.le_of_ble_eq_true rfl) ⟨by decide, by decide⟩ rfl rfl (Nat.le_of_ble_eq_true rfl) (J.mono (fun v_ w_ hp_ => ?_) H)
    obtain ⟨r_2, rfl, rfl, H⟩ := hp_
    refine j_i2l dX7_sayGutter_15 ?_
    refine j_callV0 (q0 := 0) (As := [.long (Int32.toInt64 r_2)]) (st := []) ml_X7_say vl_X7_217 dX7_sayGutter_16 rfl rfl rfl (Nat.le_of_ble_eq_true rfl) ⟨by decide, by decide⟩ rfl rfl (Nat.le_of_ble_eq_true rfl) (J.mono (fun v_ w_ hp_ => ?_) H)
    obtain ⟨hh_3, rfl, rfl, H⟩ := hp_
    refine j_iinc (v := (x2 + 1)) (lo' := [(2, .int (x2 + 1)), (0, .ref (ad 0)), (1, .int x1)]) 2 dX7_sayGutter_19 rfl rfl (by decide) rfl ?_
    refine j_goto (tgt := 2) dX7_sayGutter_22 (by decide) ?_
    refine j_lo [1, 2, 0] rfl ?_
    exact H
set_option maxRecDepth 20000 in
theorem sg_X7_sayGutter_27 {G : GG} {ad : Nat → Nat} {a : Nat → Nat → Int32} {v : Nat → Int32} {hh : Int64} {x1 : Int32} {x2 : Int32} {Q : Option Value → va_W → Prop} (H : (vp_in ((17 * x1) + 4) 102) ∧ (((((a 3) (Int32.toNatClampNeg ((17 * x1) + 4))) ≤ x2) → J G mX7_kindBits 0 [(0, .ref (ad 0)), (1, .int x1)] [] (mdW G ad 0 a v hh) (fun v_ w_ => ∃ (r_4 : Int32) (a_3 : Nat → Nat → Int32), v_ = some (.int r_4) ∧ w_ = (mdW G ad 0 a_3 v hh) ∧ J G mX7_say 0 [(0, .ref (ad 0)), (1, .long (Int32.toInt64 r_4))] [] (mdW G ad 0 a_3 v hh) (fun v_ w_ => ∃ (hh_5 : Int64), v_ = none ∧ w_ = (mdW G ad 0 a_3 v hh_5) ∧ Q none (mdW G ad 0 a_3 v hh_5)))) ∧ ((¬ ((a 3) (Int32.toNatClampNeg ((17 * x1) + 4))) ≤ x2) → (vp_in (((17 * x1) + 5) + x2) 102) ∧ J G mX7_say 0 [(0, .ref (ad 0)), (1, .long (Int32.toInt64 ((a 3) (Int32.toNatClampNeg (((17 * x1) + 5) + x2)))))] [] (mdW G ad 0 a v hh) (fun v_ w_ => ∃ (hh_7 : Int64), v_ = none ∧ w_ = (mdW G ad 0 a v hh_7) ∧ J G mX7_sayGutter 27 [(0, .ref (ad 0)), (1, .int x1), (2, .int (x2 + 1))] [] (mdW G ad 0 a v hh_7) Q)))) : J G mX7_sayGutter 27 [(0, .ref (ad 0)), (1, .int x1), (2, .int x2)] [] (mdW G ad 0 a v hh) Q := by
  refine j_iload_n 2 dX7_sayGutter_27 rfl rfl ?_
  refine j_aload_n 0 dX7_sayGutter_28 rfl rfl ?_
  refine j_get 0 fl_X7_19 dX7_sayGutter_29 rfl rfl ?_
  refine j_bipush (v := 17) dX7_sayGutter_32 (by decide) ?_
  refine j_iload_n 1 dX7_sayGutter_34 rfl rfl ?_
  refine j_imul dX7_sayGutter_35 ?_
  refine j_iconst (v := 4) dX7_sayGutter_36 (by decide) ?_
  refine j_iadd dX7_sayGutter_37 ?_
  obtain ⟨h_1, H⟩ := H
  refine j_iald 4 dX7_sayGutter_38 rfl h_1 ?_
  refine j_icmp_ge (tgt := 66) dX7_sayGutter_39 (by decide) (fun c_2 => ?_) (fun c_2 => ?_)
  · have H := H.1 c_2
    refine j_aload_n 0 dX7_sayGutter_66 rfl rfl ?_
    refine j_aload_n 0 dX7_sayGutter_67 rfl rfl ?_
    refine j_iload_n 1 dX7_sayGutter_68 rfl rfl ?_
    refine j_callV0 (q0 := 0) (As := [.int x1]) (st := [.ref (ad 0)]) ml_X7_kindBits vl_X7_184 dX7_sayGutter_69 rfl rfl rfl (Nat.le_of_ble_eq_true rfl) ⟨by decide, by decide⟩ rfl rfl (Nat.le_of_ble_eq_true rfl) (J.mono (fun v_ w_ hp_ => ?_) H)
    obtain ⟨r_4, a_3, rfl, rfl, H⟩ := hp_
    refine j_i2l dX7_sayGutter_72 ?_
    refine j_callV0 (q0 := 0) (As := [.long (Int32.toInt64 r_4)]) (st := []) ml_X7_say vl_X7_217 dX7_sayGutter_73 rfl rfl rfl (Nat.le_of_ble_eq_true rfl) ⟨by decide, by decide⟩ rfl rfl (Nat.le_of_ble_eq_true rfl) (J.mono (fun v_ w_ hp_ => ?_) H)
    obtain ⟨hh_5, rfl, rfl, H⟩ := hp_
    exact j_vret dX7_sayGutter_76 rfl H
  · have H := H.2 c_2
    refine j_aload_n 0 dX7_sayGutter_42 rfl rfl ?_
    refine j_aload_n 0 dX7_sayGutter_43 rfl rfl ?_
    refine j_get 0 fl_X7_19 dX7_sayGutter_44 rfl rfl ?_
    refine j_bipush (v := 17) dX7_sayGutter_47 (by decide) ?_
    refine j_iload_n 1 dX7_sayGutter_49 rfl rfl ?_
    refine j_imul dX7_sayGutter_50 ?_
    refine j_iconst (v := 5) dX7_sayGutter_51 (by decide) ?_
    refine j_iadd dX7_sayGutter_52 ?_
    refine j_iload_n 2 dX7_sayGutter_53 rfl rfl ?_
    refine j_iadd dX7_sayGutter_54 ?_
    obtain ⟨h_6, H⟩ := H
    refine j_iald 4 dX7_sayGutter_55 rfl h_6 ?_
    refine j_i2l dX7_sayGutter_56 ?_
    refine j_callV0 (q0 := 0) (As := [.long (Int32.toInt64 ((a 3) (Int32.toNatClampNeg (((17 * x1) + 5) + x2))))]) (st := []) ml_X7_say vl_X7_217 dX7_sayGutter_57 rfl rfl rfl (Nat.le_of_ble_eq_true rfl) ⟨by decide, by decide⟩ rfl rfl (Nat.le_of_ble_eq_true rfl) (J.mono (fun v_ w_ hp_ => ?_) H)
    obtain ⟨hh_7, rfl, rfl, H⟩ := hp_
    refine j_iinc (v := (x2 + 1)) (lo' := [(2, .int (x2 + 1)), (0, .ref (ad 0)), (1, .int x1)]) 2 dX7_sayGutter_60 rfl rfl (by decide) rfl ?_
    refine j_goto (tgt := 27) dX7_sayGutter_63 (by decide) ?_
    refine j_lo [1, 2, 0] rfl ?_
    exact H
set_option maxRecDepth 20000 in
theorem sg_X7_letterBits_0 {G : GG} {ad : Nat → Nat} {a : Nat → Nat → Int32} {v : Nat → Int32} {hh : Int64} {x1 : Int32} {Q : Option Value → va_W → Prop} (H : J G mX7_asItIs 0 [(0, .ref (ad 0))] [] (mdW G ad 0 a v hh) (fun v_ w_ => ∃ (a_1 : Nat → Nat → Int32), v_ = none ∧ w_ = (mdW G ad 0 a_1 v hh) ∧ J G mX7_letterBits 8 [(0, .ref (ad 0)), (1, .int x1), (2, .int 0), (3, .int 0)] [] (mdW G ad 0 a_1 v hh) Q)) : J G mX7_letterBits 0 [(0, .ref (ad 0)), (1, .int x1)] [] (mdW G ad 0 a v hh) Q := by
  refine j_aload_n 0 dX7_letterBits_0 rfl rfl ?_
  refine j_callV0 (q0 := 0) (As := []) (st := []) ml_X7_asItIs vl_X7_150 dX7_letterBits_1 rfl rfl rfl (Nat.le_of_ble_eq_true rfl) ⟨by decide, by decide⟩ rfl rfl (Nat.le_of_ble_eq_true rfl) (J.mono (fun v_ w_ hp_ => ?_) H)
  obtain ⟨a_1, rfl, rfl, H⟩ := hp_
  refine j_iconst (v := 0) dX7_letterBits_4 (by decide) ?_
  refine j_istore_n (lo' := [(2, .int 0), (0, .ref (ad 0)), (1, .int x1)]) dX7_letterBits_5 rfl (by decide) rfl ?_
  refine j_iconst (v := 0) dX7_letterBits_6 (by decide) ?_
  refine j_istore_n (lo' := [(3, .int 0), (2, .int 0), (0, .ref (ad 0)), (1, .int x1)]) dX7_letterBits_7 rfl (by decide) rfl ?_
  refine j_lo [2, 3, 1, 0] rfl ?_
  exact H
set_option maxRecDepth 20000 in
theorem sg_X7_letterBits_8 {G : GG} {ad : Nat → Nat} {a : Nat → Nat → Int32} {v : Nat → Int32} {hh : Int64} {x1 : Int32} {x2 : Int32} {x3 : Int32} {Q : Option Value → va_W → Prop} (H : (((5 ≤ x3) → Q (some (.int x2)) (mdW G ad 0 a v hh)) ∧ ((¬ 5 ≤ x3) → (vp_in x1 12) ∧ J G mX7_isFound 0 [(0, .ref (ad 0))] [] (mdW G ad 0 (va_up a 9 (upd (a 9) (Int32.toNatClampNeg x1) x3)) v hh) (fun v_ w_ => ∃ (r_4 : Int32) (a_3 : Nat → Nat → Int32), v_ = some (.int r_4) ∧ w_ = (mdW G ad 0 a_3 v hh) ∧ (((r_4 = 0) → J G mX7_letterBits 8 [(0, .ref (ad 0)), (1, .int x1), (2, .int (x2 ||| 0)), (3, .int (x3 + 1))] [] (mdW G ad 0 a_3 v hh) Q) ∧ ((¬ r_4 = 0) → J G mX7_letterBits 8 [(0, .ref (ad 0)), (1, .int x1), (2, .int (x2 ||| ((1 <<< (x3 &&& 31)) : Int32))), (3, .int (x3 + 1))] [] (mdW G ad 0 a_3 v hh) Q)))))) : J G mX7_letterBits 8 [(0, .ref (ad 0)), (1, .int x1), (2, .int x2), (3, .int x3)] [] (mdW G ad 0 a v hh) Q := by
  refine j_iload_n 3 dX7_letterBits_8 rfl rfl ?_
  refine j_iconst (v := 5) dX7_letterBits_9 (by decide) ?_
  refine j_icmp_ge (tgt := 43) dX7_letterBits_10 (by decide) (fun c_1 => ?_) (fun c_1 => ?_)
  · have H := H.1 c_1
    refine j_iload_n 2 dX7_letterBits_43 rfl rfl ?_
    exact j_iret dX7_letterBits_44 rfl H
  · have H := H.2 c_1
    refine j_aload_n 0 dX7_letterBits_13 rfl rfl ?_
    refine j_get 0 fl_X7_37 dX7_letterBits_14 rfl rfl ?_
    refine j_iload_n 1 dX7_letterBits_17 rfl rfl ?_
    refine j_iload_n 3 dX7_letterBits_18 rfl rfl ?_
    obtain ⟨h_2, H⟩ := H
    refine j_iast (w' := (mdW G ad 0 (va_up a 9 (upd (a 9) (Int32.toNatClampNeg x1) x3)) v hh)) 10 dX7_letterBits_19 rfl h_2 rfl ?_
    refine j_iload_n 2 dX7_letterBits_20 rfl rfl ?_
    refine j_aload_n 0 dX7_letterBits_21 rfl rfl ?_
    refine j_callV0 (q0 := 0) (As := []) (st := [.int x2]) ml_X7_isFound vl_X7_181 dX7_letterBits_22 rfl rfl rfl (Nat.le_of_ble_eq_true rfl) ⟨by decide, by decide⟩ rfl rfl (Nat.le_of_ble_eq_true rfl) (J.mono (fun v_ w_ hp_ => ?_) H)
    obtain ⟨r_4, a_3, rfl, rfl, H⟩ := hp_
    refine j_if_eq (tgt := 34) dX7_letterBits_25 (by decide) (fun c_5 => ?_) (fun c_5 => ?_)
    · have H := H.1 c_5
      refine j_iconst (v := 0) dX7_letterBits_34 (by decide) ?_
      refine j_ior dX7_letterBits_35 ?_
      refine j_istore_n (lo' := [(2, .int (x2 ||| 0)), (0, .ref (ad 0)), (1, .int x1), (3, .int x3)]) dX7_letterBits_36 rfl (by decide) rfl ?_
      refine j_iinc (v := (x3 + 1)) (lo' := [(3, .int (x3 + 1)), (2, .int (x2 ||| 0)), (0, .ref (ad 0)), (1, .int x1)]) 3 dX7_letterBits_37 rfl rfl (by decide) rfl ?_
      refine j_goto (tgt := 8) dX7_letterBits_40 (by decide) ?_
      refine j_lo [2, 3, 1, 0] rfl ?_
      exact H
    · have H := H.2 c_5
      refine j_iconst (v := 1) dX7_letterBits_28 (by decide) ?_
      refine j_iload_n 3 dX7_letterBits_29 rfl rfl ?_
      refine j_ishl dX7_letterBits_30 ?_
      refine j_goto (tgt := 35) dX7_letterBits_31 (by decide) ?_
      refine j_ior dX7_letterBits_35 ?_
      refine j_istore_n (lo' := [(2, .int (x2 ||| ((1 <<< (x3 &&& 31)) : Int32))), (0, .ref (ad 0)), (1, .int x1), (3, .int x3)]) dX7_letterBits_36 rfl (by decide) rfl ?_
      refine j_iinc (v := (x3 + 1)) (lo' := [(3, .int (x3 + 1)), (2, .int (x2 ||| ((1 <<< (x3 &&& 31)) : Int32))), (0, .ref (ad 0)), (1, .int x1)]) 3 dX7_letterBits_37 rfl rfl (by decide) rfl ?_
      refine j_goto (tgt := 8) dX7_letterBits_40 (by decide) ?_
      refine j_lo [2, 3, 1, 0] rfl ?_
      exact H
set_option maxRecDepth 20000 in
theorem sg_X7_digest_0 {G : GG} {ad : Nat → Nat} {a : Nat → Nat → Int32} {v : Nat → Int32} {hh : Int64} {Q : Option Value → va_W → Prop} (H : J G mX7_digest 9 [(0, .ref (ad 0)), (1, .int 0)] [] (mdW G ad 0 a v 821) Q) : J G mX7_digest 0 [(0, .ref (ad 0))] [] (mdW G ad 0 a v hh) Q := by
  refine j_aload_n 0 dX7_digest_0 rfl rfl ?_
  refine j_ldc2 cl_X7_221 dX7_digest_1 ?_
  refine j_put (w' := (mdW G ad 0 a v 821)) 0 fp_X7_213 dX7_digest_4 rfl rfl rfl (Nat.le_of_ble_eq_true rfl) rfl ?_
  refine j_iconst (v := 0) dX7_digest_7 (by decide) ?_
  refine j_istore_n (lo' := [(1, .int 0), (0, .ref (ad 0))]) dX7_digest_8 rfl (by decide) rfl ?_
  refine j_lo [1, 0] rfl ?_
  exact H
set_option maxRecDepth 20000 in
theorem sg_X7_digest_9 {G : GG} {ad : Nat → Nat} {a : Nat → Nat → Int32} {v : Nat → Int32} {hh : Int64} {x1 : Int32} {Q : Option Value → va_W → Prop} (H : (((6 ≤ x1) → J G mX7_digest 35 [(0, .ref (ad 0)), (1, .int 0)] [] (mdW G ad 0 a v hh) Q) ∧ ((¬ 6 ≤ x1) → ((((v 1) = 0) → J G mX7_digest 35 [(0, .ref (ad 0)), (1, .int 0)] [] (mdW G ad 0 a v hh) Q) ∧ ((¬ (v 1) = 0) → J G mX7_sayGutter 0 [(0, .ref (ad 0)), (1, .int x1)] [] (mdW G ad 0 a v hh) (fun v_ w_ => ∃ (a_3 : Nat → Nat → Int32) (hh_4 : Int64), v_ = none ∧ w_ = (mdW G ad 0 a_3 v hh_4) ∧ J G mX7_digest 9 [(0, .ref (ad 0)), (1, .int (x1 + 1))] [] (mdW G ad 0 a_3 v hh_4) Q)))))) : J G mX7_digest 9 [(0, .ref (ad 0)), (1, .int x1)] [] (mdW G ad 0 a v hh) Q := by
  refine j_iload_n 1 dX7_digest_9 rfl rfl ?_
  refine j_bipush (v := 6) dX7_digest_10 (by decide) ?_
  refine j_icmp_ge (tgt := 33) dX7_digest_12 (by decide) (fun c_1 => ?_) (fun c_1 => ?_)
  · have H := H.1 c_1
    refine j_iconst (v := 0) dX7_digest_33 (by decide) ?_
    refine j_istore_n (lo' := [(1, .int 0), (0, .ref (ad 0))]) dX7_digest_34 rfl (by decide) rfl ?_
    refine j_lo [1, 0] rfl ?_
    exact H
  · have H := H.2 c_1
    refine j_aload_n 0 dX7_digest_15 rfl rfl ?_
    refine j_get 0 fl_X7_101 dX7_digest_16 rfl rfl ?_
    refine j_if_eq (tgt := 33) dX7_digest_19 (by decide) (fun c_2 => ?_) (fun c_2 => ?_)
    · have H := H.1 c_2
      refine j_iconst (v := 0) dX7_digest_33 (by decide) ?_
      refine j_istore_n (lo' := [(1, .int 0), (0, .ref (ad 0))]) dX7_digest_34 rfl (by decide) rfl ?_
      refine j_lo [1, 0] rfl ?_
      exact H
    · have H := H.2 c_2
      refine j_aload_n 0 dX7_digest_22 rfl rfl ?_
      refine j_iload_n 1 dX7_digest_23 rfl rfl ?_
      refine j_callV0 (q0 := 0) (As := [.int x1]) (st := []) ml_X7_sayGutter vl_X7_223 dX7_digest_24 rfl rfl rfl (Nat.le_of_ble_eq_true rfl) ⟨by decide, by decide⟩ rfl rfl (Nat.le_of_ble_eq_true rfl) (J.mono (fun v_ w_ hp_ => ?_) H)
      obtain ⟨a_3, hh_4, rfl, rfl, H⟩ := hp_
      refine j_iinc (v := (x1 + 1)) (lo' := [(1, .int (x1 + 1)), (0, .ref (ad 0))]) 1 dX7_digest_27 rfl rfl (by decide) rfl ?_
      refine j_goto (tgt := 9) dX7_digest_30 (by decide) ?_
      refine j_lo [1, 0] rfl ?_
      exact H
set_option maxRecDepth 20000 in
theorem sg_X7_digest_35 {G : GG} {ad : Nat → Nat} {a : Nat → Nat → Int32} {v : Nat → Int32} {hh : Int64} {x1 : Int32} {Q : Option Value → va_W → Prop} (H : ((((v 3) ≤ x1) → J G mX7_digest 83 [(0, .ref (ad 0)), (1, .int 0)] [] (mdW G ad 0 a v hh) Q) ∧ ((¬ (v 3) ≤ x1) → (vp_in x1 12) ∧ J G mX7_say 0 [(0, .ref (ad 0)), (1, .long (Int32.toInt64 ((a 4) (Int32.toNatClampNeg x1))))] [] (mdW G ad 0 a v hh) (fun v_ w_ => ∃ (hh_3 : Int64), v_ = none ∧ w_ = (mdW G ad 0 a v hh_3) ∧ J G mX7_say 0 [(0, .ref (ad 0)), (1, .long (Int32.toInt64 ((a 5) (Int32.toNatClampNeg x1))))] [] (mdW G ad 0 a v hh_3) (fun v_ w_ => ∃ (hh_4 : Int64), v_ = none ∧ w_ = (mdW G ad 0 a v hh_4) ∧ J G mX7_letterBits 0 [(0, .ref (ad 0)), (1, .int x1)] [] (mdW G ad 0 a v hh_4) (fun v_ w_ => ∃ (r_6 : Int32) (a_5 : Nat → Nat → Int32), v_ = some (.int r_6) ∧ w_ = (mdW G ad 0 a_5 v hh_4) ∧ J G mX7_say 0 [(0, .ref (ad 0)), (1, .long (Int32.toInt64 r_6))] [] (mdW G ad 0 a_5 v hh_4) (fun v_ w_ => ∃ (hh_7 : Int64), v_ = none ∧ w_ = (mdW G ad 0 a_5 v hh_7) ∧ J G mX7_digest 35 [(0, .ref (ad 0)), (1, .int (x1 + 1))] [] (mdW G ad 0 a_5 v hh_7) Q))))))) : J G mX7_digest 35 [(0, .ref (ad 0)), (1, .int x1)] [] (mdW G ad 0 a v hh) Q := by
  refine j_iload_n 1 dX7_digest_35 rfl rfl ?_
  refine j_aload_n 0 dX7_digest_36 rfl rfl ?_
  refine j_get 0 fl_X7_109 dX7_digest_37 rfl rfl ?_
  refine j_icmp_ge (tgt := 81) dX7_digest_40 (by decide) (fun c_1 => ?_) (fun c_1 => ?_)
  · have H := H.1 c_1
    refine j_iconst (v := 0) dX7_digest_81 (by decide) ?_
    refine j_istore_n (lo' := [(1, .int 0), (0, .ref (ad 0))]) dX7_digest_82 rfl (by decide) rfl ?_
    refine j_lo [1, 0] rfl ?_
    exact H
  · have H := H.2 c_1
    refine j_aload_n 0 dX7_digest_43 rfl rfl ?_
    refine j_aload_n 0 dX7_digest_44 rfl rfl ?_
    refine j_get 0 fl_X7_22 dX7_digest_45 rfl rfl ?_
    refine j_iload_n 1 dX7_digest_48 rfl rfl ?_
    obtain ⟨h_2, H⟩ := H
    refine j_iald 5 dX7_digest_49 rfl h_2 ?_
    refine j_i2l dX7_digest_50 ?_
    refine j_callV0 (q0 := 0) (As := [.long (Int32.toInt64 ((a 4) (Int32.toNatClampNeg x1)))]) (st := []) ml_X7_say vl_X7_217 dX7_digest_51 rfl rfl rfl (Nat.le_of_ble_eq_true rfl) ⟨by decide, by decide⟩ rfl rfl (Nat.le_of_ble_eq_true rfl) (J.mono (fun v_ w_ hp_ => ?_) H)
    obtain ⟨hh_3, rfl, rfl, H⟩ := hp_
    refine j_aload_n 0 dX7_digest_54 rfl rfl ?_
    refine j_aload_n 0 dX7_digest_55 rfl rfl ?_
    refine j_get 0 fl_X7_25 dX7_digest_56 rfl rfl ?_
    refine j_iload_n 1 dX7_digest_59 rfl rfl ?_
    refine j_iald 6 dX7_digest_60 rfl h_2 ?_
    refine j_i2l dX7_digest_61 ?_
    refine j_callV0 (q0 := 0) (As := [.long (Int32.toInt64 ((a 5) (Int32.toNatClampNeg x1)))]) (st := []) ml_X7_say vl_X7_217 dX7_digest_62 rfl rfl rfl (Nat.le_of_ble_eq_true rfl) ⟨by decide, by decide⟩ rfl rfl (Nat.le_of_ble_eq_true rfl) (J.mono (fun v_ w_ hp_ => ?_) H)
    obtain ⟨hh_4, rfl, rfl, H⟩ := hp_
    refine j_aload_n 0 dX7_digest_65 rfl rfl ?_
    refine j_aload_n 0 dX7_digest_66 rfl rfl ?_
    refine j_iload_n 1 dX7_digest_67 rfl rfl ?_
    refine j_callV0 (q0 := 0) (As := [.int x1]) (st := [.ref (ad 0)]) ml_X7_letterBits vl_X7_187 dX7_digest_68 rfl rfl rfl (Nat.le_of_ble_eq_true rfl) ⟨by decide, by decide⟩ rfl rfl (Nat.le_of_ble_eq_true rfl) (J.mono (fun v_ w_ hp_ => ?_) H)
    obtain ⟨r_6, a_5, rfl, rfl, H⟩ := hp_
    refine j_i2l dX7_digest_71 ?_
    refine j_callV0 (q0 := 0) (As := [.long (Int32.toInt64 r_6)]) (st := []) ml_X7_say vl_X7_217 dX7_digest_72 rfl rfl rfl (Nat.le_of_ble_eq_true rfl) ⟨by decide, by decide⟩ rfl rfl (Nat.le_of_ble_eq_true rfl) (J.mono (fun v_ w_ hp_ => ?_) H)
    obtain ⟨hh_7, rfl, rfl, H⟩ := hp_
    refine j_iinc (v := (x1 + 1)) (lo' := [(1, .int (x1 + 1)), (0, .ref (ad 0))]) 1 dX7_digest_75 rfl rfl (by decide) rfl ?_
    refine j_goto (tgt := 35) dX7_digest_78 (by decide) ?_
    refine j_lo [1, 0] rfl ?_
    exact H
set_option maxRecDepth 20000 in
theorem sg_X7_digest_83 {G : GG} {ad : Nat → Nat} {a : Nat → Nat → Int32} {v : Nat → Int32} {hh : Int64} {x1 : Int32} {Q : Option Value → va_W → Prop} (H : ((((v 0) ≤ x1) → J G mX7_digest 110 [(0, .ref (ad 0)), (1, .int 0)] [] (mdW G ad 0 a v hh) Q) ∧ ((¬ (v 0) ≤ x1) → (vp_in x1 20) ∧ J G mX7_say 0 [(0, .ref (ad 0)), (1, .long (Int32.toInt64 ((a 0) (Int32.toNatClampNeg x1))))] [] (mdW G ad 0 a v hh) (fun v_ w_ => ∃ (hh_3 : Int64), v_ = none ∧ w_ = (mdW G ad 0 a v hh_3) ∧ J G mX7_digest 83 [(0, .ref (ad 0)), (1, .int (x1 + 1))] [] (mdW G ad 0 a v hh_3) Q)))) : J G mX7_digest 83 [(0, .ref (ad 0)), (1, .int x1)] [] (mdW G ad 0 a v hh) Q := by
  refine j_iload_n 1 dX7_digest_83 rfl rfl ?_
  refine j_aload_n 0 dX7_digest_84 rfl rfl ?_
  refine j_get 0 fl_X7_81 dX7_digest_85 rfl rfl ?_
  refine j_icmp_ge (tgt := 108) dX7_digest_88 (by decide) (fun c_1 => ?_) (fun c_1 => ?_)
  · have H := H.1 c_1
    refine j_iconst (v := 0) dX7_digest_108 (by decide) ?_
    refine j_istore_n (lo' := [(1, .int 0), (0, .ref (ad 0))]) dX7_digest_109 rfl (by decide) rfl ?_
    refine j_lo [1, 0] rfl ?_
    exact H
  · have H := H.2 c_1
    refine j_aload_n 0 dX7_digest_91 rfl rfl ?_
    refine j_aload_n 0 dX7_digest_92 rfl rfl ?_
    refine j_get 0 fl_X7_7 dX7_digest_93 rfl rfl ?_
    refine j_iload_n 1 dX7_digest_96 rfl rfl ?_
    obtain ⟨h_2, H⟩ := H
    refine j_iald 1 dX7_digest_97 rfl h_2 ?_
    refine j_i2l dX7_digest_98 ?_
    refine j_callV0 (q0 := 0) (As := [.long (Int32.toInt64 ((a 0) (Int32.toNatClampNeg x1)))]) (st := []) ml_X7_say vl_X7_217 dX7_digest_99 rfl rfl rfl (Nat.le_of_ble_eq_true rfl) ⟨by decide, by decide⟩ rfl rfl (Nat.le_of_ble_eq_true rfl) (J.mono (fun v_ w_ hp_ => ?_) H)
    obtain ⟨hh_3, rfl, rfl, H⟩ := hp_
    refine j_iinc (v := (x1 + 1)) (lo' := [(1, .int (x1 + 1)), (0, .ref (ad 0))]) 1 dX7_digest_102 rfl rfl (by decide) rfl ?_
    refine j_goto (tgt := 83) dX7_digest_105 (by decide) ?_
    refine j_lo [1, 0] rfl ?_
    exact H
set_option maxRecDepth 20000 in
theorem sg_X7_digest_110 {G : GG} {ad : Nat → Nat} {a : Nat → Nat → Int32} {v : Nat → Int32} {hh : Int64} {x1 : Int32} {Q : Option Value → va_W → Prop} (H : (((11 ≤ x1) → Q (some (.long hh)) (mdW G ad 0 a v hh)) ∧ ((¬ 11 ≤ x1) → J G mX7_countOf 0 [(0, .ref (ad 0)), (1, .int x1)] [] (mdW G ad 0 a v hh) (fun v_ w_ => ∃ (r_2 : Int32), v_ = some (.int r_2) ∧ w_ = (mdW G ad 0 a v hh) ∧ J G mX7_say 0 [(0, .ref (ad 0)), (1, .long (Int32.toInt64 r_2))] [] (mdW G ad 0 a v hh) (fun v_ w_ => ∃ (hh_3 : Int64), v_ = none ∧ w_ = (mdW G ad 0 a v hh_3) ∧ J G mX7_digest 110 [(0, .ref (ad 0)), (1, .int (x1 + 1))] [] (mdW G ad 0 a v hh_3) Q))))) : J G mX7_digest 110 [(0, .ref (ad 0)), (1, .int x1)] [] (mdW G ad 0 a v hh) Q := by
  refine j_iload_n 1 dX7_digest_110 rfl rfl ?_
  refine j_bipush (v := 11) dX7_digest_111 (by decide) ?_
  refine j_icmp_ge (tgt := 132) dX7_digest_113 (by decide) (fun c_1 => ?_) (fun c_1 => ?_)
  · have H := H.1 c_1
    refine j_aload_n 0 dX7_digest_132 rfl rfl ?_
    refine j_get 0 fl_X7_213 dX7_digest_133 rfl rfl ?_
    exact j_lret dX7_digest_136 rfl H
  · have H := H.2 c_1
    refine j_aload_n 0 dX7_digest_116 rfl rfl ?_
    refine j_aload_n 0 dX7_digest_117 rfl rfl ?_
    refine j_iload_n 1 dX7_digest_118 rfl rfl ?_
    refine j_callV0 (q0 := 0) (As := [.int x1]) (st := [.ref (ad 0)]) ml_X7_countOf vl_X7_208 dX7_digest_119 rfl rfl rfl (Nat.le_of_ble_eq_true rfl) ⟨by decide, by decide⟩ rfl rfl (Nat.le_of_ble_eq_true rfl) (J.mono (fun v_ w_ hp_ => ?_) H)
    obtain ⟨r_2, rfl, rfl, H⟩ := hp_
    refine j_i2l dX7_digest_122 ?_
    refine j_callV0 (q0 := 0) (As := [.long (Int32.toInt64 r_2)]) (st := []) ml_X7_say vl_X7_217 dX7_digest_123 rfl rfl rfl (Nat.le_of_ble_eq_true rfl) ⟨by decide, by decide⟩ rfl rfl (Nat.le_of_ble_eq_true rfl) (J.mono (fun v_ w_ hp_ => ?_) H)
    obtain ⟨hh_3, rfl, rfl, H⟩ := hp_
    refine j_iinc (v := (x1 + 1)) (lo' := [(1, .int (x1 + 1)), (0, .ref (ad 0))]) 1 dX7_digest_126 rfl rfl (by decide) rfl ?_
    refine j_goto (tgt := 110) dX7_digest_129 (by decide) ?_
    refine j_lo [1, 0] rfl ?_
    exact H
set_option maxRecDepth 20000 in
theorem sg_X7_draw_0 {G : GG} {ad : Nat → Nat} {a : Nat → Nat → Int32} {v : Nat → Int32} {hh : Int64} {x1 : Int32} {Q : Option Value → va_W → Prop} (H : (¬ x1 = (0 : Int32)) ∧ Q (some (.int (((Int64.toInt32 (((1103515245 * (Int32.toInt64 (v 6))) + 12345) &&& 2147483647)) / 65536) - ((Int64.toInt32 (((1103515245 * (Int32.toInt64 (v 6))) + 12345) &&& 2147483647)) / 65536) / x1 * x1))) (mdW G ad 0 a (va_up v 6 (Int64.toInt32 (((1103515245 * (Int32.toInt64 (v 6))) + 12345) &&& 2147483647))) hh)) : J G mX7_draw 0 [(0, .ref (ad 0)), (1, .int x1)] [] (mdW G ad 0 a v hh) Q := by
  refine j_aload_n 0 dX7_draw_0 rfl rfl ?_
  refine j_ldc2 cl_X7_190 dX7_draw_1 ?_
  refine j_aload_n 0 dX7_draw_4 rfl rfl ?_
  refine j_get 0 fl_X7_192 dX7_draw_5 rfl rfl ?_
  refine j_i2l dX7_draw_8 ?_
  refine j_lmul dX7_draw_9 ?_
  refine j_ldc2 cl_X7_195 dX7_draw_10 ?_
  refine j_ladd dX7_draw_13 ?_
  refine j_ldc2 cl_X7_197 dX7_draw_14 ?_
  refine j_land dX7_draw_17 ?_
  refine j_l2i dX7_draw_18 ?_
  refine j_put (w' := (mdW G ad 0 a (va_up v 6 (Int64.toInt32 (((1103515245 * (Int32.toInt64 (v 6))) + 12345) &&& 2147483647))) hh)) 0 fp_X7_192 dX7_draw_19 rfl rfl rfl (Nat.le_of_ble_eq_true rfl) rfl ?_
  refine j_aload_n 0 dX7_draw_22 rfl rfl ?_
  refine j_get 0 fl_X7_192 dX7_draw_23 rfl rfl ?_
  refine j_ldc ck_X7_199 dX7_draw_26 ?_
  refine j_idiv dX7_draw_28 (by decide) ?_
  refine j_iload_n 1 dX7_draw_29 rfl rfl ?_
  obtain ⟨h_1, H⟩ := H
  refine j_irem dX7_draw_30 h_1 ?_
  exact j_iret dX7_draw_31 rfl H
set_option maxRecDepth 20000 in
theorem sg_X7_drop_0 {G : GG} {ad : Nat → Nat} {a : Nat → Nat → Int32} {v : Nat → Int32} {hh : Int64} {x1 : Int32} {x2 : Int32} {Q : Option Value → va_W → Prop} (H : J G mX7_isGutter 0 [(0, .ref (ad 0)), (1, .int x1)] [] (mdW G ad 0 a v hh) (fun v_ w_ => ∃ (r_1 : Int32), v_ = some (.int r_1) ∧ w_ = (mdW G ad 0 a v hh) ∧ (((¬ r_1 = 0) → J G mX7_in 0 [(0, .long (Int32.toInt64 x2)), (2, .long 0), (4, .long 4)] [] ([] : va_W) (fun v_ w_ => ∃ (r_3 : Int32), v_ = some (.int r_3) ∧ w_ = ([] : va_W) ∧ (((¬ r_3 = 0) → (((¬ (v 3) = 12) → (vp_in (v 3) 12) ∧ J G mX7_runs 0 [(0, .ref ((pk ad [4, 2, 3]) 0)), (1, .ref ((pk ad [4, 2, 3]) 1)), (2, .ref ((pk ad [4, 2, 3]) 2)), (3, .int x1), (4, .int x2)] [] (arW G (pk ad [4, 2, 3]) 0 102 (a 3) ++ (arW G (pk ad [4, 2, 3]) 1 6 (a 1) ++ (arW G (pk ad [4, 2, 3]) 2 6 (a 2)))) (fun v_ w_ => ∃ (r_8 : Int32) (f_7 : Nat → Int32), v_ = some (.int r_8) ∧ w_ = (arW G (pk ad [4, 2, 3]) 0 102 f_7 ++ (arW G (pk ad [4, 2, 3]) 1 6 (a 1) ++ (arW G (pk ad [4, 2, 3]) 2 6 (a 2)))) ∧ Q (some (.int r_8)) (mdW G ad 0 (va_up (va_up (va_up a 4 (upd (a 4) (Int32.toNatClampNeg (v 3)) x1)) 5 (upd (a 5) (Int32.toNatClampNeg (v 3)) x2)) 3 f_7) (va_up v 3 ((v 3) + 1)) hh))) ∧ (((v 3) = 12) → Q (some (.int (-104))) (mdW G ad 0 a v hh)))) ∧ ((r_3 = 0) → Q (some (.int (-102))) (mdW G ad 0 a v hh))))) ∧ ((r_1 = 0) → Q (some (.int (-101))) (mdW G ad 0 a v hh))))) : J G mX7_drop 0 [(0, .ref (ad 0)), (1, .int x1), (2, .int x2)] [] (mdW G ad 0 a v hh) Q := by
  refine j_aload_n 0 dX7_drop_0 rfl rfl ?_
  refine j_iload_n 1 dX7_drop_1 rfl rfl ?_
  refine j_callV0 (q0 := 0) (As := [.int x1]) (st := []) ml_X7_isGutter vl_X7_119 dX7_drop_2 rfl rfl rfl (Nat.le_of_ble_eq_true rfl) ⟨by decide, by decide⟩ rfl rfl (Nat.le_of_ble_eq_true rfl) (J.mono (fun v_ w_ hp_ => ?_) H)
  obtain ⟨r_1, rfl, rfl, H⟩ := hp_
  refine j_if_ne (tgt := 11) dX7_drop_5 (by decide) (fun c_2 => ?_) (fun c_2 => ?_)
  · have H := H.1 c_2
    refine j_iload_n 2 dX7_drop_11 rfl rfl ?_
    refine j_i2l dX7_drop_12 ?_
    refine j_lconst (v := 0) dX7_drop_13 (by decide) ?_
    refine j_ldc2 cl_X7_127 dX7_drop_14 ?_
    refine j_callS0 (As := [.long (Int32.toInt64 x2), .long 0, .long 4]) (st := []) ml_X7_in sl_X7_77 dX7_drop_17 (Nat.le_of_ble_eq_true rfl) ⟨by decide, by decide⟩ rfl rfl (Nat.le_of_ble_eq_true rfl) (J.mono (fun v_ w_ hp_ => ?_) H)
    obtain ⟨r_3, rfl, rfl, H⟩ := hp_
    refine j_if_ne (tgt := 26) dX7_drop_20 (by decide) (fun c_4 => ?_) (fun c_4 => ?_)
    · have H := H.1 c_4
      refine j_aload_n 0 dX7_drop_26 rfl rfl ?_
      refine j_get 0 fl_X7_109 dX7_drop_27 rfl rfl ?_
      refine j_bipush (v := 12) dX7_drop_30 (by decide) ?_
      refine j_icmp_ne (tgt := 38) dX7_drop_32 (by decide) (fun c_5 => ?_) (fun c_5 => ?_)
      · have H := H.1 c_5
        refine j_aload_n 0 dX7_drop_38 rfl rfl ?_
        refine j_get 0 fl_X7_22 dX7_drop_39 rfl rfl ?_
        refine j_aload_n 0 dX7_drop_42 rfl rfl ?_
        refine j_get 0 fl_X7_109 dX7_drop_43 rfl rfl ?_
        refine j_iload_n 1 dX7_drop_46 rfl rfl ?_
        obtain ⟨h_6, H⟩ := H
        refine j_iast (w' := (mdW G ad 0 (va_up a 4 (upd (a 4) (Int32.toNatClampNeg (v 3)) x1)) v hh)) 5 dX7_drop_47 rfl h_6 rfl ?_
        refine j_aload_n 0 dX7_drop_48 rfl rfl ?_
        refine j_get 0 fl_X7_25 dX7_drop_49 rfl rfl ?_
        refine j_aload_n 0 dX7_drop_52 rfl rfl ?_
        refine j_get 0 fl_X7_109 dX7_drop_53 rfl rfl ?_
        refine j_iload_n 2 dX7_drop_56 rfl rfl ?_
        refine j_iast (w' := (mdW G ad 0 (va_up (va_up a 4 (upd (a 4) (Int32.toNatClampNeg (v 3)) x1)) 5 (upd (a 5) (Int32.toNatClampNeg (v 3)) x2)) v hh)) 6 dX7_drop_57 rfl h_6 rfl ?_
        refine j_aload_n 0 dX7_drop_58 rfl rfl ?_
        refine j_dup dX7_drop_59 rfl ?_
        refine j_get 0 fl_X7_109 dX7_drop_60 rfl rfl ?_
        refine j_iconst (v := 1) dX7_drop_63 (by decide) ?_
        refine j_iadd dX7_drop_64 ?_
        refine j_put (w' := (mdW G ad 0 (va_up (va_up a 4 (upd (a 4) (Int32.toNatClampNeg (v 3)) x1)) 5 (upd (a 5) (Int32.toNatClampNeg (v 3)) x2)) (va_up v 3 ((v 3) + 1)) hh)) 0 fp_X7_109 dX7_drop_65 rfl rfl rfl (Nat.le_of_ble_eq_true rfl) rfl ?_
        refine j_aload_n 0 dX7_drop_68 rfl rfl ?_
        refine j_get 0 fl_X7_19 dX7_drop_69 rfl rfl ?_
        refine j_aload_n 0 dX7_drop_72 rfl rfl ?_
        refine j_get 0 fl_X7_13 dX7_drop_73 rfl rfl ?_
        refine j_aload_n 0 dX7_drop_76 rfl rfl ?_
        refine j_get 0 fl_X7_16 dX7_drop_77 rfl rfl ?_
        refine j_iload_n 1 dX7_drop_80 rfl rfl ?_
        refine j_iload_n 2 dX7_drop_81 rfl rfl ?_
        refine j_callS (wc := (arW G (pk ad [4, 2, 3]) 0 102 (a 3) ++ (arW G (pk ad [4, 2, 3]) 1 6 (a 1) ++ (arW G (pk ad [4, 2, 3]) 2 6 (a 2))))) (As := [.ref ((pk ad [4, 2, 3]) 0), .ref ((pk ad [4, 2, 3]) 1), .ref ((pk ad [4, 2, 3]) 2), .int x1, .int x2]) (st := []) ml_X7_runs sl_X7_133 dX7_drop_82 [none, none, some 1, some 2, some 0] ⟨rfl, Nat.le_of_ble_eq_true rfl, rfl, rfl⟩ (Nat.le_of_ble_eq_true rfl) ⟨by decide, by decide⟩ rfl rfl (Nat.le_of_ble_eq_true rfl) (J.mono (fun v_ w_ hp_ => ?_) H)
        obtain ⟨r_8, f_7, rfl, rfl, H⟩ := hp_
        refine j_w (w' := (mdW G ad 0 (va_up (va_up (va_up a 4 (upd (a 4) (Int32.toNatClampNeg (v 3)) x1)) 5 (upd (a 5) (Int32.toNatClampNeg (v 3)) x2)) 3 f_7) (va_up v 3 ((v 3) + 1)) hh)) rfl ?_
        exact j_iret dX7_drop_85 rfl H
      · have H := H.2 c_5
        refine j_bipush (v := (-104)) dX7_drop_35 (by decide) ?_
        exact j_iret dX7_drop_37 rfl H
    · have H := H.2 c_4
      refine j_bipush (v := (-102)) dX7_drop_23 (by decide) ?_
      exact j_iret dX7_drop_25 rfl H
  · have H := H.2 c_2
    refine j_bipush (v := (-101)) dX7_drop_8 (by decide) ?_
    exact j_iret dX7_drop_10 rfl H
set_option maxRecDepth 20000 in
theorem sg_X7_dry_0 {G : GG} {ad : Nat → Nat} {a : Nat → Nat → Int32} {v : Nat → Int32} {hh : Int64} {Q : Option Value → va_W → Prop} (H : (((¬ (v 1) = 0) → J G mX7_dryRows 0 [(0, .ref ((pk ad [4]) 0))] [] (arW G (pk ad [4]) 0 102 (a 3)) (fun v_ w_ => ∃ (f_2 : Nat → Int32), v_ = none ∧ w_ = (arW G (pk ad [4]) 0 102 f_2) ∧ Q (some (.int (v 3))) (mdW G ad 0 (va_up a 3 f_2) (va_up v 3 0) hh))) ∧ (((v 1) = 0) → Q (some (.int (-103))) (mdW G ad 0 a v hh)))) : J G mX7_dry 0 [(0, .ref (ad 0))] [] (mdW G ad 0 a v hh) Q := by
  refine j_aload_n 0 dX7_dry_0 rfl rfl ?_
  refine j_get 0 fl_X7_101 dX7_dry_1 rfl rfl ?_
  refine j_if_ne (tgt := 10) dX7_dry_4 (by decide) (fun c_1 => ?_) (fun c_1 => ?_)
  · have H := H.1 c_1
    refine j_aload_n 0 dX7_dry_10 rfl rfl ?_
    refine j_get 0 fl_X7_109 dX7_dry_11 rfl rfl ?_
    refine j_istore_n (lo' := [(1, .int (v 3)), (0, .ref (ad 0))]) dX7_dry_14 rfl (by decide) rfl ?_
    refine j_aload_n 1 dX7_dry_15 rfl rfl ?_
    refine j_get 0 fl_X7_19 dX7_dry_16 rfl rfl ?_
    refine j_callS (wc := (arW G (pk ad [4]) 0 102 (a 3))) (As := [.ref ((pk ad [4]) 0)]) (st := []) ml_X7_dryRows sl_X7_105 dX7_dry_19 [none, none, none, none, some 0] ⟨rfl, Nat.le_of_ble_eq_true rfl, rfl, rfl⟩ (Nat.le_of_ble_eq_true rfl) ⟨by decide, by decide⟩ rfl rfl (Nat.le_of_ble_eq_true rfl) (J.mono (fun v_ w_ hp_ => ?_) H)
    obtain ⟨f_2, rfl, rfl, H⟩ := hp_
    refine j_w (w' := (mdW G ad 0 (va_up a 3 f_2) v hh)) rfl ?_
    refine j_aload_n 1 dX7_dry_22 rfl rfl ?_
    refine j_iconst (v := 0) dX7_dry_23 (by decide) ?_
    refine j_put (w' := (mdW G ad 0 (va_up a 3 f_2) (va_up v 3 0) hh)) 0 fp_X7_109 dX7_dry_24 rfl rfl rfl (Nat.le_of_ble_eq_true rfl) rfl ?_
    refine j_iload_n 0 dX7_dry_27 rfl rfl ?_
    exact j_iret dX7_dry_28 rfl H
  · have H := H.2 c_1
    refine j_bipush (v := (-103)) dX7_dry_7 (by decide) ?_
    exact j_iret dX7_dry_9 rfl H
set_option maxRecDepth 20000 in
theorem sg_X7_kindBy_0 {G : GG} {ad : Nat → Nat} {x0 : Int32} {Q : Option Value → va_W → Prop} (H : (((¬ x0 = 103) → (((¬ x0 = 98) → (((¬ x0 = 115) → (((¬ x0 = 116) → (((¬ x0 = 100) → Q (some (.int (-1))) ([] : va_W)) ∧ ((x0 = 100) → Q (some (.int 4)) ([] : va_W)))) ∧ ((x0 = 116) → Q (some (.int 3)) ([] : va_W)))) ∧ ((x0 = 115) → Q (some (.int 2)) ([] : va_W)))) ∧ ((x0 = 98) → Q (some (.int 1)) ([] : va_W)))) ∧ ((x0 = 103) → Q (some (.int 0)) ([] : va_W)))) : J G mX7_kindBy 0 [(0, .int x0)] [] ([] : va_W) Q := by
  refine j_iload_n 0 dX7_kindBy_0 rfl rfl ?_
  refine j_bipush (v := 103) dX7_kindBy_1 (by decide) ?_
  refine j_icmp_ne (tgt := 10) dX7_kindBy_3 (by decide) (fun c_1 => ?_) (fun c_1 => ?_)
  · have H := H.1 c_1
    refine j_iload_n 0 dX7_kindBy_10 rfl rfl ?_
    refine j_bipush (v := 98) dX7_kindBy_11 (by decide) ?_
    refine j_icmp_ne (tgt := 20) dX7_kindBy_13 (by decide) (fun c_2 => ?_) (fun c_2 => ?_)
    · have H := H.1 c_2
      refine j_iload_n 0 dX7_kindBy_20 rfl rfl ?_
      refine j_bipush (v := 115) dX7_kindBy_21 (by decide) ?_
      refine j_icmp_ne (tgt := 30) dX7_kindBy_23 (by decide) (fun c_3 => ?_) (fun c_3 => ?_)
      · have H := H.1 c_3
        refine j_iload_n 0 dX7_kindBy_30 rfl rfl ?_
        refine j_bipush (v := 116) dX7_kindBy_31 (by decide) ?_
        refine j_icmp_ne (tgt := 40) dX7_kindBy_33 (by decide) (fun c_4 => ?_) (fun c_4 => ?_)
        · have H := H.1 c_4
          refine j_iload_n 0 dX7_kindBy_40 rfl rfl ?_
          refine j_bipush (v := 100) dX7_kindBy_41 (by decide) ?_
          refine j_icmp_ne (tgt := 50) dX7_kindBy_43 (by decide) (fun c_5 => ?_) (fun c_5 => ?_)
          · have H := H.1 c_5
            refine j_iconst (v := (-1)) dX7_kindBy_50 (by decide) ?_
            exact j_iret dX7_kindBy_51 rfl H
          · have H := H.2 c_5
            refine j_iconst (v := 4) dX7_kindBy_46 (by decide) ?_
            refine j_goto (tgt := 51) dX7_kindBy_47 (by decide) ?_
            exact j_iret dX7_kindBy_51 rfl H
        · have H := H.2 c_4
          refine j_iconst (v := 3) dX7_kindBy_36 (by decide) ?_
          refine j_goto (tgt := 51) dX7_kindBy_37 (by decide) ?_
          exact j_iret dX7_kindBy_51 rfl H
      · have H := H.2 c_3
        refine j_iconst (v := 2) dX7_kindBy_26 (by decide) ?_
        refine j_goto (tgt := 51) dX7_kindBy_27 (by decide) ?_
        exact j_iret dX7_kindBy_51 rfl H
    · have H := H.2 c_2
      refine j_iconst (v := 1) dX7_kindBy_16 (by decide) ?_
      refine j_goto (tgt := 51) dX7_kindBy_17 (by decide) ?_
      exact j_iret dX7_kindBy_51 rfl H
  · have H := H.2 c_1
    refine j_iconst (v := 0) dX7_kindBy_6 (by decide) ?_
    refine j_goto (tgt := 51) dX7_kindBy_7 (by decide) ?_
    exact j_iret dX7_kindBy_51 rfl H
set_option maxRecDepth 20000 in
theorem sg_X7_isGood_0 {G : GG} {ad : Nat → Nat} {x0 : Int32} {x1 : Int32} {Q : Option Value → va_W → Prop} (H : (((x0 ≤ 16) → (((¬ (x0 - x0 / 3 * 3) = 0) → (((¬ (x0 - x0 / 3 * 3) = 1) → (((¬ x1 = 44) → Q (some (.int 0)) ([] : va_W)) ∧ ((x1 = 44) → Q (some (.int 1)) ([] : va_W)))) ∧ (((x0 - x0 / 3 * 3) = 1) → (((x1 = 45) → Q (some (.int 1)) ([] : va_W)) ∧ ((¬ x1 = 45) → J G mX7_in 0 [(0, .long (Int32.toInt64 (x1 - 48))), (2, .long (Int32.toInt64 ((x0 / 3) + 1))), (4, .long 5)] [] ([] : va_W) (fun v_ w_ => ∃ (r_6 : Int32), v_ = some (.int r_6) ∧ w_ = ([] : va_W) ∧ (((r_6 = 0) → Q (some (.int 0)) ([] : va_W)) ∧ ((¬ r_6 = 0) → Q (some (.int 1)) ([] : va_W))))))))) ∧ (((x0 - x0 / 3 * 3) = 0) → J G mX7_kindBy 0 [(0, .int x1)] [] ([] : va_W) (fun v_ w_ => ∃ (r_8 : Int32), v_ = some (.int r_8) ∧ w_ = ([] : va_W) ∧ (((r_8 = (-1)) → Q (some (.int 0)) ([] : va_W)) ∧ ((¬ r_8 = (-1)) → Q (some (.int 1)) ([] : va_W))))))) ∧ ((¬ x0 ≤ 16) → Q (some (.int 0)) ([] : va_W)))) : J G mX7_isGood 0 [(0, .int x0), (1, .int x1)] [] ([] : va_W) Q := by
  refine j_iload_n 0 dX7_isGood_0 rfl rfl ?_
  refine j_iconst (v := 3) dX7_isGood_1 (by decide) ?_
  refine j_irem dX7_isGood_2 (by decide) ?_
  refine j_istore_n (lo' := [(2, .int (x0 - x0 / 3 * 3)), (0, .int x0), (1, .int x1)]) dX7_isGood_3 rfl (by decide) rfl ?_
  refine j_iload_n 1 dX7_isGood_4 rfl rfl ?_
  refine j_bipush (v := 16) dX7_isGood_5 (by decide) ?_
  refine j_icmp_le (tgt := 12) dX7_isGood_7 (by decide) (fun c_1 => ?_) (fun c_1 => ?_)
  · have H := H.1 c_1
    refine j_iload_n 0 dX7_isGood_12 rfl rfl ?_
    refine j_if_ne (tgt := 32) dX7_isGood_13 (by decide) (fun c_2 => ?_) (fun c_2 => ?_)
    · have H := H.1 c_2
      refine j_iload_n 0 dX7_isGood_32 rfl rfl ?_
      refine j_iconst (v := 1) dX7_isGood_33 (by decide) ?_
      refine j_icmp_ne (tgt := 71) dX7_isGood_34 (by decide) (fun c_3 => ?_) (fun c_3 => ?_)
      · have H := H.1 c_3
        refine j_iload_n 2 dX7_isGood_71 rfl rfl ?_
        refine j_bipush (v := 44) dX7_isGood_72 (by decide) ?_
        refine j_icmp_ne (tgt := 81) dX7_isGood_74 (by decide) (fun c_4 => ?_) (fun c_4 => ?_)
        · have H := H.1 c_4
          refine j_iconst (v := 0) dX7_isGood_81 (by decide) ?_
          exact j_zret dX7_isGood_82 rfl (by decide) H
        · have H := H.2 c_4
          refine j_iconst (v := 1) dX7_isGood_77 (by decide) ?_
          refine j_goto (tgt := 82) dX7_isGood_78 (by decide) ?_
          exact j_zret dX7_isGood_82 rfl (by decide) H
      · have H := H.2 c_3
        refine j_iload_n 2 dX7_isGood_37 rfl rfl ?_
        refine j_bipush (v := 45) dX7_isGood_38 (by decide) ?_
        refine j_icmp_eq (tgt := 63) dX7_isGood_40 (by decide) (fun c_5 => ?_) (fun c_5 => ?_)
        · have H := H.1 c_5
          refine j_iconst (v := 1) dX7_isGood_63 (by decide) ?_
          refine j_goto (tgt := 82) dX7_isGood_64 (by decide) ?_
          exact j_zret dX7_isGood_82 rfl (by decide) H
        · have H := H.2 c_5
          refine j_iload_n 2 dX7_isGood_43 rfl rfl ?_
          refine j_bipush (v := 48) dX7_isGood_44 (by decide) ?_
          refine j_isub dX7_isGood_46 ?_
          refine j_i2l dX7_isGood_47 ?_
          refine j_iload_n 1 dX7_isGood_48 rfl rfl ?_
          refine j_iconst (v := 3) dX7_isGood_49 (by decide) ?_
          refine j_idiv dX7_isGood_50 (by decide) ?_
          refine j_iconst (v := 1) dX7_isGood_51 (by decide) ?_
          refine j_iadd dX7_isGood_52 ?_
          refine j_i2l dX7_isGood_53 ?_
          refine j_ldc2 cl_X7_88 dX7_isGood_54 ?_
          refine j_callS0 (As := [.long (Int32.toInt64 (x1 - 48)), .long (Int32.toInt64 ((x0 / 3) + 1)), .long 5]) (st := []) ml_X7_in sl_X7_77 dX7_isGood_57 (Nat.le_of_ble_eq_true rfl) ⟨by decide, by decide⟩ rfl rfl (Nat.le_of_ble_eq_true rfl) (J.mono (fun v_ w_ hp_ => ?_) H)
          obtain ⟨r_6, rfl, rfl, H⟩ := hp_
          refine j_if_eq (tgt := 67) dX7_isGood_60 (by decide) (fun c_7 => ?_) (fun c_7 => ?_)
          · have H := H.1 c_7
            refine j_iconst (v := 0) dX7_isGood_67 (by decide) ?_
            refine j_goto (tgt := 82) dX7_isGood_68 (by decide) ?_
            exact j_zret dX7_isGood_82 rfl (by decide) H
          · have H := H.2 c_7
            refine j_iconst (v := 1) dX7_isGood_63 (by decide) ?_
            refine j_goto (tgt := 82) dX7_isGood_64 (by decide) ?_
            exact j_zret dX7_isGood_82 rfl (by decide) H
    · have H := H.2 c_2
      refine j_iload_n 2 dX7_isGood_16 rfl rfl ?_
      refine j_callS0 (As := [.int x1]) (st := []) ml_X7_kindBy sl_X7_84 dX7_isGood_17 (Nat.le_of_ble_eq_true rfl) ⟨by decide, by decide⟩ rfl rfl (Nat.le_of_ble_eq_true rfl) (J.mono (fun v_ w_ hp_ => ?_) H)
      obtain ⟨r_8, rfl, rfl, H⟩ := hp_
      refine j_iconst (v := (-1)) dX7_isGood_20 (by decide) ?_
      refine j_icmp_eq (tgt := 28) dX7_isGood_21 (by decide) (fun c_9 => ?_) (fun c_9 => ?_)
      · have H := H.1 c_9
        refine j_iconst (v := 0) dX7_isGood_28 (by decide) ?_
        refine j_goto (tgt := 82) dX7_isGood_29 (by decide) ?_
        exact j_zret dX7_isGood_82 rfl (by decide) H
      · have H := H.2 c_9
        refine j_iconst (v := 1) dX7_isGood_24 (by decide) ?_
        refine j_goto (tgt := 82) dX7_isGood_25 (by decide) ?_
        exact j_zret dX7_isGood_82 rfl (by decide) H
  · have H := H.2 c_1
    refine j_iconst (v := 0) dX7_isGood_10 (by decide) ?_
    exact j_zret dX7_isGood_11 rfl (by decide) H
set_option maxRecDepth 20000 in
theorem sg_X7_faultOf_0 {G : GG} {ad : Nat → Nat} {a : Nat → Nat → Int32} {v : Nat → Int32} {hh : Int64} {x1 : Int32} {Q : Option Value → va_W → Prop} (H : J G mX7_faultOf 2 [(0, .ref (ad 0)), (1, .int x1), (2, .int 0)] [] (mdW G ad 0 a v hh) Q) : J G mX7_faultOf 0 [(0, .ref (ad 0)), (1, .int x1)] [] (mdW G ad 0 a v hh) Q := by
  refine j_iconst (v := 0) dX7_faultOf_0 (by decide) ?_
  refine j_istore_n (lo' := [(2, .int 0), (0, .ref (ad 0)), (1, .int x1)]) dX7_faultOf_1 rfl (by decide) rfl ?_
  refine j_lo [1, 2, 0] rfl ?_
  exact H
set_option maxRecDepth 20000 in
theorem sg_X7_faultOf_2 {G : GG} {ad : Nat → Nat} {a : Nat → Nat → Int32} {v : Nat → Int32} {hh : Int64} {x1 : Int32} {x2 : Int32} {Q : Option Value → va_W → Prop} (H : ((((v 0) ≤ x2) → Q (some (.int x2)) (mdW G ad 0 a v hh)) ∧ ((¬ (v 0) ≤ x2) → (((¬ x1 = 0) → (((8 ≤ x2) → Q (some (.int x2)) (mdW G ad 0 a v hh)) ∧ ((¬ 8 ≤ x2) → (vp_in x2 20) ∧ J G mX7_in 0 [(0, .long (Int32.toInt64 ((a 0) (Int32.toNatClampNeg x2)))), (2, .long 97), (4, .long 101)] [] ([] : va_W) (fun v_ w_ => ∃ (r_5 : Int32), v_ = some (.int r_5) ∧ w_ = ([] : va_W) ∧ (((r_5 = 0) → Q (some (.int x2)) (mdW G ad 0 a v hh)) ∧ ((¬ r_5 = 0) → J G mX7_faultOf 2 [(0, .ref (ad 0)), (1, .int x1), (2, .int (x2 + 1))] [] (mdW G ad 0 a v hh) Q)))))) ∧ ((x1 = 0) → (vp_in x2 20) ∧ J G mX7_isGood 0 [(0, .int x2), (1, .int ((a 0) (Int32.toNatClampNeg x2)))] [] ([] : va_W) (fun v_ w_ => ∃ (r_8 : Int32), v_ = some (.int r_8) ∧ w_ = ([] : va_W) ∧ (((r_8 = 0) → Q (some (.int x2)) (mdW G ad 0 a v hh)) ∧ ((¬ r_8 = 0) → J G mX7_faultOf 2 [(0, .ref (ad 0)), (1, .int x1), (2, .int (x2 + 1))] [] (mdW G ad 0 a v hh) Q)))))))) : J G mX7_faultOf 2 [(0, .ref (ad 0)), (1, .int x1), (2, .int x2)] [] (mdW G ad 0 a v hh) Q := by
  refine j_iload_n 2 dX7_faultOf_2 rfl rfl ?_
  refine j_aload_n 0 dX7_faultOf_3 rfl rfl ?_
  refine j_get 0 fl_X7_81 dX7_faultOf_4 rfl rfl ?_
  refine j_icmp_ge (tgt := 61) dX7_faultOf_7 (by decide) (fun c_1 => ?_) (fun c_1 => ?_)
  · have H := H.1 c_1
    refine j_iload_n 2 dX7_faultOf_61 rfl rfl ?_
    exact j_iret dX7_faultOf_62 rfl H
  · have H := H.2 c_1
    refine j_iload_n 1 dX7_faultOf_10 rfl rfl ?_
    refine j_if_ne (tgt := 30) dX7_faultOf_11 (by decide) (fun c_2 => ?_) (fun c_2 => ?_)
    · have H := H.1 c_2
      refine j_iload_n 2 dX7_faultOf_30 rfl rfl ?_
      refine j_bipush (v := 8) dX7_faultOf_31 (by decide) ?_
      refine j_icmp_ge (tgt := 61) dX7_faultOf_33 (by decide) (fun c_3 => ?_) (fun c_3 => ?_)
      · have H := H.1 c_3
        refine j_iload_n 2 dX7_faultOf_61 rfl rfl ?_
        exact j_iret dX7_faultOf_62 rfl H
      · have H := H.2 c_3
        refine j_aload_n 0 dX7_faultOf_36 rfl rfl ?_
        refine j_get 0 fl_X7_7 dX7_faultOf_37 rfl rfl ?_
        refine j_iload_n 2 dX7_faultOf_40 rfl rfl ?_
        obtain ⟨h_4, H⟩ := H
        refine j_iald 1 dX7_faultOf_41 rfl h_4 ?_
        refine j_i2l dX7_faultOf_42 ?_
        refine j_ldc2 cl_X7_94 dX7_faultOf_43 ?_
        refine j_ldc2 cl_X7_96 dX7_faultOf_46 ?_
        refine j_callS0 (As := [.long (Int32.toInt64 ((a 0) (Int32.toNatClampNeg x2))), .long 97, .long 101]) (st := []) ml_X7_in sl_X7_77 dX7_faultOf_49 (Nat.le_of_ble_eq_true rfl) ⟨by decide, by decide⟩ rfl rfl (Nat.le_of_ble_eq_true rfl) (J.mono (fun v_ w_ hp_ => ?_) H)
        obtain ⟨r_5, rfl, rfl, H⟩ := hp_
        refine j_if_eq (tgt := 61) dX7_faultOf_52 (by decide) (fun c_6 => ?_) (fun c_6 => ?_)
        · have H := H.1 c_6
          refine j_iload_n 2 dX7_faultOf_61 rfl rfl ?_
          exact j_iret dX7_faultOf_62 rfl H
        · have H := H.2 c_6
          refine j_iinc (v := (x2 + 1)) (lo' := [(2, .int (x2 + 1)), (0, .ref (ad 0)), (1, .int x1)]) 2 dX7_faultOf_55 rfl rfl (by decide) rfl ?_
          refine j_goto (tgt := 2) dX7_faultOf_58 (by decide) ?_
          refine j_lo [1, 2, 0] rfl ?_
          exact H
    · have H := H.2 c_2
      refine j_iload_n 2 dX7_faultOf_14 rfl rfl ?_
      refine j_aload_n 0 dX7_faultOf_15 rfl rfl ?_
      refine j_get 0 fl_X7_7 dX7_faultOf_16 rfl rfl ?_
      refine j_iload_n 2 dX7_faultOf_19 rfl rfl ?_
      obtain ⟨h_7, H⟩ := H
      refine j_iald 1 dX7_faultOf_20 rfl h_7 ?_
      refine j_callS0 (As := [.int x2, .int ((a 0) (Int32.toNatClampNeg x2))]) (st := []) ml_X7_isGood sl_X7_90 dX7_faultOf_21 (Nat.le_of_ble_eq_true rfl) ⟨by decide, by decide⟩ rfl rfl (Nat.le_of_ble_eq_true rfl) (J.mono (fun v_ w_ hp_ => ?_) H)
      obtain ⟨r_8, rfl, rfl, H⟩ := hp_
      refine j_if_eq (tgt := 61) dX7_faultOf_24 (by decide) (fun c_9 => ?_) (fun c_9 => ?_)
      · have H := H.1 c_9
        refine j_iload_n 2 dX7_faultOf_61 rfl rfl ?_
        exact j_iret dX7_faultOf_62 rfl H
      · have H := H.2 c_9
        refine j_goto (tgt := 55) dX7_faultOf_27 (by decide) ?_
        refine j_iinc (v := (x2 + 1)) (lo' := [(2, .int (x2 + 1)), (0, .ref (ad 0)), (1, .int x1)]) 2 dX7_faultOf_55 rfl rfl (by decide) rfl ?_
        refine j_goto (tgt := 2) dX7_faultOf_58 (by decide) ?_
        refine j_lo [1, 2, 0] rfl ?_
        exact H
set_option maxRecDepth 20000 in
theorem sg_X7_fault_0 {G : GG} {ad : Nat → Nat} {a : Nat → Nat → Int32} {v : Nat → Int32} {hh : Int64} {x1 : Int32} {Q : Option Value → va_W → Prop} (H : J G mX7_in 0 [(0, .long (Int32.toInt64 x1)), (2, .long 0), (4, .long 1)] [] ([] : va_W) (fun v_ w_ => ∃ (r_1 : Int32), v_ = some (.int r_1) ∧ w_ = ([] : va_W) ∧ (((r_1 = 0) → Q (some (.int (-102))) (mdW G ad 0 a v hh)) ∧ ((¬ r_1 = 0) → J G mX7_faultOf 0 [(0, .ref (ad 0)), (1, .int x1)] [] (mdW G ad 0 a v hh) (fun v_ w_ => ∃ (r_3 : Int32), v_ = some (.int r_3) ∧ w_ = (mdW G ad 0 a v hh) ∧ Q (some (.int r_3)) (mdW G ad 0 a v hh)))))) : J G mX7_fault 0 [(0, .ref (ad 0)), (1, .int x1)] [] (mdW G ad 0 a v hh) Q := by
  refine j_iload_n 1 dX7_fault_0 rfl rfl ?_
  refine j_i2l dX7_fault_1 ?_
  refine j_lconst (v := 0) dX7_fault_2 (by decide) ?_
  refine j_lconst (v := 1) dX7_fault_3 (by decide) ?_
  refine j_callS0 (As := [.long (Int32.toInt64 x1), .long 0, .long 1]) (st := []) ml_X7_in sl_X7_77 dX7_fault_4 (Nat.le_of_ble_eq_true rfl) ⟨by decide, by decide⟩ rfl rfl (Nat.le_of_ble_eq_true rfl) (J.mono (fun v_ w_ hp_ => ?_) H)
  obtain ⟨r_1, rfl, rfl, H⟩ := hp_
  refine j_if_eq (tgt := 18) dX7_fault_7 (by decide) (fun c_2 => ?_) (fun c_2 => ?_)
  · have H := H.1 c_2
    refine j_bipush (v := (-102)) dX7_fault_18 (by decide) ?_
    exact j_iret dX7_fault_20 rfl H
  · have H := H.2 c_2
    refine j_aload_n 0 dX7_fault_10 rfl rfl ?_
    refine j_iload_n 1 dX7_fault_11 rfl rfl ?_
    refine j_callV0 (q0 := 0) (As := [.int x1]) (st := []) ml_X7_faultOf vl_X7_98 dX7_fault_12 rfl rfl rfl (Nat.le_of_ble_eq_true rfl) ⟨by decide, by decide⟩ rfl rfl (Nat.le_of_ble_eq_true rfl) (J.mono (fun v_ w_ hp_ => ?_) H)
    obtain ⟨r_3, rfl, rfl, H⟩ := hp_
    refine j_goto (tgt := 20) dX7_fault_15 (by decide) ?_
    exact j_iret dX7_fault_20 rfl H
set_option maxRecDepth 20000 in
theorem sg_X7_isPageWord_0 {G : GG} {ad : Nat → Nat} {a : Nat → Nat → Int32} {v : Nat → Int32} {hh : Int64} {Q : Option Value → va_W → Prop} (H : ((((v 0) ≤ 0) → Q (some (.int 0)) (mdW G ad 0 a v hh)) ∧ ((¬ (v 0) ≤ 0) → J G mX7_faultOf 0 [(0, .ref (ad 0)), (1, .int 1)] [] (mdW G ad 0 a v hh) (fun v_ w_ => ∃ (r_2 : Int32), v_ = some (.int r_2) ∧ w_ = (mdW G ad 0 a v hh) ∧ (((¬ r_2 = (v 0)) → Q (some (.int 0)) (mdW G ad 0 a v hh)) ∧ ((r_2 = (v 0)) → Q (some (.int 1)) (mdW G ad 0 a v hh))))))) : J G mX7_isPageWord 0 [(0, .ref (ad 0))] [] (mdW G ad 0 a v hh) Q := by
  refine j_aload_n 0 dX7_isPageWord_0 rfl rfl ?_
  refine j_get 0 fl_X7_81 dX7_isPageWord_1 rfl rfl ?_
  refine j_if_le (tgt := 23) dX7_isPageWord_4 (by decide) (fun c_1 => ?_) (fun c_1 => ?_)
  · have H := H.1 c_1
    refine j_iconst (v := 0) dX7_isPageWord_23 (by decide) ?_
    exact j_zret dX7_isPageWord_24 rfl (by decide) H
  · have H := H.2 c_1
    refine j_aload_n 0 dX7_isPageWord_7 rfl rfl ?_
    refine j_iconst (v := 1) dX7_isPageWord_8 (by decide) ?_
    refine j_callV0 (q0 := 0) (As := [.int 1]) (st := []) ml_X7_faultOf vl_X7_98 dX7_isPageWord_9 rfl rfl rfl (Nat.le_of_ble_eq_true rfl) ⟨by decide, by decide⟩ rfl rfl (Nat.le_of_ble_eq_true rfl) (J.mono (fun v_ w_ hp_ => ?_) H)
    obtain ⟨r_2, rfl, rfl, H⟩ := hp_
    refine j_aload_n 0 dX7_isPageWord_12 rfl rfl ?_
    refine j_get 0 fl_X7_81 dX7_isPageWord_13 rfl rfl ?_
    refine j_icmp_ne (tgt := 23) dX7_isPageWord_16 (by decide) (fun c_3 => ?_) (fun c_3 => ?_)
    · have H := H.1 c_3
      refine j_iconst (v := 0) dX7_isPageWord_23 (by decide) ?_
      exact j_zret dX7_isPageWord_24 rfl (by decide) H
    · have H := H.2 c_3
      refine j_iconst (v := 1) dX7_isPageWord_19 (by decide) ?_
      refine j_goto (tgt := 24) dX7_isPageWord_20 (by decide) ?_
      exact j_zret dX7_isPageWord_24 rfl (by decide) H
set_option maxRecDepth 20000 in
theorem sg_X7_layWays_0 {G : GG} {ad : Nat → Nat} {a : Nat → Nat → Int32} {v : Nat → Int32} {hh : Int64} {x1 : Int32} {Q : Option Value → va_W → Prop} (H : J G mX7_layWays 7 [(0, .ref (ad 0)), (1, .int x1), (2, .int x1), (3, .int 0), (4, .int 0)] [] (mdW G ad 0 a v hh) Q) : J G mX7_layWays 0 [(0, .ref (ad 0)), (1, .int x1)] [] (mdW G ad 0 a v hh) Q := by
  refine j_iload_n 1 dX7_layWays_0 rfl rfl ?_
  refine j_istore_n (lo' := [(2, .int x1), (0, .ref (ad 0)), (1, .int x1)]) dX7_layWays_1 rfl (by decide) rfl ?_
  refine j_iconst (v := 0) dX7_layWays_2 (by decide) ?_
  refine j_istore_n (lo' := [(3, .int 0), (2, .int x1), (0, .ref (ad 0)), (1, .int x1)]) dX7_layWays_3 rfl (by decide) rfl ?_
  refine j_iconst (v := 0) dX7_layWays_4 (by decide) ?_
  refine j_istore (lo' := [(4, .int 0), (3, .int 0), (2, .int x1), (0, .ref (ad 0)), (1, .int x1)]) dX7_layWays_5 (by decide) rfl ?_
  refine j_lo [3, 4, 2, 1, 0] rfl ?_
  exact H
set_option maxRecDepth 20000 in
theorem sg_X7_layWays_7 {G : GG} {ad : Nat → Nat} {a : Nat → Nat → Int32} {v : Nat → Int32} {hh : Int64} {x1 : Int32} {x2 : Int32} {x3 : Int32} {x4 : Int32} {Q : Option Value → va_W → Prop} (H : (((6 ≤ x4) → Q (some (.int x3)) (mdW G ad 0 a v hh)) ∧ ((¬ 6 ≤ x4) → (¬ (6 - x4) = (0 : Int32)) ∧ (¬ (6 - x4) = (0 : Int32)) ∧ (((¬ (x2 - x2 / (6 - x4) * (6 - x4)) = 0) → (vp_in x4 6) ∧ (((¬ (x4 + (x2 - x2 / (6 - x4) * (6 - x4))) = ((a 2) (Int32.toNatClampNeg x4))) → J G mX7_layWays 7 [(0, .ref (ad 0)), (1, .int x1), (2, .int (x2 / (6 - x4))), (3, .int (x3 ||| ((1 <<< (x4 &&& 31)) : Int32))), (4, .int (x4 + 1))] [] (mdW G ad 0 (va_up a 8 (upd (a 8) (Int32.toNatClampNeg x4) (x4 + (x2 - x2 / (6 - x4) * (6 - x4))))) v hh) Q) ∧ (((x4 + (x2 - x2 / (6 - x4) * (6 - x4))) = ((a 2) (Int32.toNatClampNeg x4))) → J G mX7_layWays 7 [(0, .ref (ad 0)), (1, .int x1), (2, .int (x2 / (6 - x4))), (3, .int (x3 ||| 0)), (4, .int (x4 + 1))] [] (mdW G ad 0 (va_up a 8 (upd (a 8) (Int32.toNatClampNeg x4) (x4 + (x2 - x2 / (6 - x4) * (6 - x4))))) v hh) Q))) ∧ (((x2 - x2 / (6 - x4) * (6 - x4)) = 0) → (vp_in x4 6) ∧ (((¬ (-1) = ((a 2) (Int32.toNatClampNeg x4))) → J G mX7_layWays 7 [(0, .ref (ad 0)), (1, .int x1), (2, .int (x2 / (6 - x4))), (3, .int (x3 ||| ((1 <<< (x4 &&& 31)) : Int32))), (4, .int (x4 + 1))] [] (mdW G ad 0 (va_up a 8 (upd (a 8) (Int32.toNatClampNeg x4) (-1))) v hh) Q) ∧ (((-1) = ((a 2) (Int32.toNatClampNeg x4))) → J G mX7_layWays 7 [(0, .ref (ad 0)), (1, .int x1), (2, .int (x2 / (6 - x4))), (3, .int (x3 ||| 0)), (4, .int (x4 + 1))] [] (mdW G ad 0 (va_up a 8 (upd (a 8) (Int32.toNatClampNeg x4) (-1))) v hh) Q))))))) : J G mX7_layWays 7 [(0, .ref (ad 0)), (1, .int x1), (2, .int x2), (3, .int x3), (4, .int x4)] [] (mdW G ad 0 a v hh) Q := by
  refine j_iload 4 dX7_layWays_7 rfl ?_
  refine j_bipush (v := 6) dX7_layWays_9 (by decide) ?_
  refine j_icmp_ge (tgt := 87) dX7_layWays_11 (by decide) (fun c_1 => ?_) (fun c_1 => ?_)
  · have H := H.1 c_1
    refine j_iload_n 3 dX7_layWays_87 rfl rfl ?_
    exact j_iret dX7_layWays_88 rfl H
  · have H := H.2 c_1
    refine j_bipush (v := 6) dX7_layWays_14 (by decide) ?_
    refine j_iload 4 dX7_layWays_16 rfl ?_
    refine j_isub dX7_layWays_18 ?_
    refine j_istore (lo' := [(5, .int (6 - x4)), (0, .ref (ad 0)), (1, .int x1), (2, .int x2), (3, .int x3), (4, .int x4)]) dX7_layWays_19 (by decide) rfl ?_
    refine j_iload_n 3 dX7_layWays_21 rfl rfl ?_
    refine j_iload 0 dX7_layWays_22 rfl ?_
    obtain ⟨h_2, H⟩ := H
    refine j_irem dX7_layWays_24 h_2 ?_
    refine j_istore (lo' := [(6, .int (x2 - x2 / (6 - x4) * (6 - x4))), (5, .int (6 - x4)), (0, .ref (ad 0)), (1, .int x1), (2, .int x2), (3, .int x3), (4, .int x4)]) dX7_layWays_25 (by decide) rfl ?_
    refine j_iload_n 4 dX7_layWays_27 rfl rfl ?_
    refine j_iload 1 dX7_layWays_28 rfl ?_
    obtain ⟨h_3, H⟩ := H
    refine j_idiv dX7_layWays_30 h_3 ?_
    refine j_istore_n (lo' := [(2, .int (x2 / (6 - x4))), (6, .int (x2 - x2 / (6 - x4) * (6 - x4))), (5, .int (6 - x4)), (0, .ref (ad 0)), (1, .int x1), (3, .int x3), (4, .int x4)]) dX7_layWays_31 rfl (by decide) rfl ?_
    refine j_aload_n 3 dX7_layWays_32 rfl rfl ?_
    refine j_get 0 fl_X7_34 dX7_layWays_33 rfl rfl ?_
    refine j_iload 6 dX7_layWays_36 rfl ?_
    refine j_iload 1 dX7_layWays_38 rfl ?_
    refine j_if_ne (tgt := 47) dX7_layWays_40 (by decide) (fun c_4 => ?_) (fun c_4 => ?_)
    · have H := H.1 c_4
      refine j_iload 6 dX7_layWays_47 rfl ?_
      refine j_iload 1 dX7_layWays_49 rfl ?_
      refine j_iadd dX7_layWays_51 ?_
      obtain ⟨h_5, H⟩ := H
      refine j_iast (w' := (mdW G ad 0 (va_up a 8 (upd (a 8) (Int32.toNatClampNeg x4) (x4 + (x2 - x2 / (6 - x4) * (6 - x4))))) v hh)) 9 dX7_layWays_52 rfl h_5 rfl ?_
      refine j_iload_n 5 dX7_layWays_53 rfl rfl ?_
      refine j_aload_n 3 dX7_layWays_54 rfl rfl ?_
      refine j_get 0 fl_X7_34 dX7_layWays_55 rfl rfl ?_
      refine j_iload 6 dX7_layWays_58 rfl ?_
      refine j_iald 9 dX7_layWays_60 rfl h_5 ?_
      refine j_top pk_us ?_
      refine j_aload_n 3 dX7_layWays_61 rfl rfl ?_
      refine j_get 0 fl_X7_16 dX7_layWays_62 rfl rfl ?_
      refine j_iload 6 dX7_layWays_65 rfl ?_
      refine j_iald 3 dX7_layWays_67 rfl h_5 ?_
      refine j_icmp_ne (tgt := 75) dX7_layWays_68 (by decide) (fun c_6 => ?_) (fun c_6 => ?_)
      · have H := H.1 c_6
        refine j_iconst (v := 1) dX7_layWays_75 (by decide) ?_
        refine j_iload 6 dX7_layWays_76 rfl ?_
        refine j_ishl dX7_layWays_78 ?_
        refine j_ior dX7_layWays_79 ?_
        refine j_istore_n (lo' := [(3, .int (x3 ||| ((1 <<< (x4 &&& 31)) : Int32))), (2, .int (x2 / (6 - x4))), (6, .int (x2 - x2 / (6 - x4) * (6 - x4))), (5, .int (6 - x4)), (0, .ref (ad 0)), (1, .int x1), (4, .int x4)]) dX7_layWays_80 rfl (by decide) rfl ?_
        refine j_iinc (v := (x4 + 1)) (lo' := [(4, .int (x4 + 1)), (3, .int (x3 ||| ((1 <<< (x4 &&& 31)) : Int32))), (2, .int (x2 / (6 - x4))), (6, .int (x2 - x2 / (6 - x4) * (6 - x4))), (5, .int (6 - x4)), (0, .ref (ad 0)), (1, .int x1)]) 6 dX7_layWays_81 rfl rfl (by decide) rfl ?_
        refine j_goto (tgt := 7) dX7_layWays_84 (by decide) ?_
        refine j_lo [5, 6, 2, 1, 0] rfl ?_
        exact H
      · have H := H.2 c_6
        refine j_iconst (v := 0) dX7_layWays_71 (by decide) ?_
        refine j_goto (tgt := 79) dX7_layWays_72 (by decide) ?_
        refine j_ior dX7_layWays_79 ?_
        refine j_istore_n (lo' := [(3, .int (x3 ||| 0)), (2, .int (x2 / (6 - x4))), (6, .int (x2 - x2 / (6 - x4) * (6 - x4))), (5, .int (6 - x4)), (0, .ref (ad 0)), (1, .int x1), (4, .int x4)]) dX7_layWays_80 rfl (by decide) rfl ?_
        refine j_iinc (v := (x4 + 1)) (lo' := [(4, .int (x4 + 1)), (3, .int (x3 ||| 0)), (2, .int (x2 / (6 - x4))), (6, .int (x2 - x2 / (6 - x4) * (6 - x4))), (5, .int (6 - x4)), (0, .ref (ad 0)), (1, .int x1)]) 6 dX7_layWays_81 rfl rfl (by decide) rfl ?_
        refine j_goto (tgt := 7) dX7_layWays_84 (by decide) ?_
        refine j_lo [5, 6, 2, 1, 0] rfl ?_
        exact H
    · have H := H.2 c_4
      refine j_iconst (v := (-1)) dX7_layWays_43 (by decide) ?_
      refine j_goto (tgt := 52) dX7_layWays_44 (by decide) ?_
      obtain ⟨h_7, H⟩ := H
      refine j_iast (w' := (mdW G ad 0 (va_up a 8 (upd (a 8) (Int32.toNatClampNeg x4) (-1))) v hh)) 9 dX7_layWays_52 rfl h_7 rfl ?_
      refine j_iload_n 5 dX7_layWays_53 rfl rfl ?_
      refine j_aload_n 3 dX7_layWays_54 rfl rfl ?_
      refine j_get 0 fl_X7_34 dX7_layWays_55 rfl rfl ?_
      refine j_iload 6 dX7_layWays_58 rfl ?_
      refine j_iald 9 dX7_layWays_60 rfl h_7 ?_
      refine j_top pk_us ?_
      refine j_aload_n 3 dX7_layWays_61 rfl rfl ?_
      refine j_get 0 fl_X7_16 dX7_layWays_62 rfl rfl ?_
      refine j_iload 6 dX7_layWays_65 rfl ?_
      refine j_iald 3 dX7_layWays_67 rfl h_7 ?_
      refine j_icmp_ne (tgt := 75) dX7_layWays_68 (by decide) (fun c_8 => ?_) (fun c_8 => ?_)
      · have H := H.1 c_8
        refine j_iconst (v := 1) dX7_layWays_75 (by decide) ?_
        refine j_iload 6 dX7_layWays_76 rfl ?_
        refine j_ishl dX7_layWays_78 ?_
        refine j_ior dX7_layWays_79 ?_
        refine j_istore_n (lo' := [(3, .int (x3 ||| ((1 <<< (x4 &&& 31)) : Int32))), (2, .int (x2 / (6 - x4))), (6, .int (x2 - x2 / (6 - x4) * (6 - x4))), (5, .int (6 - x4)), (0, .ref (ad 0)), (1, .int x1), (4, .int x4)]) dX7_layWays_80 rfl (by decide) rfl ?_
        refine j_iinc (v := (x4 + 1)) (lo' := [(4, .int (x4 + 1)), (3, .int (x3 ||| ((1 <<< (x4 &&& 31)) : Int32))), (2, .int (x2 / (6 - x4))), (6, .int (x2 - x2 / (6 - x4) * (6 - x4))), (5, .int (6 - x4)), (0, .ref (ad 0)), (1, .int x1)]) 6 dX7_layWays_81 rfl rfl (by decide) rfl ?_
        refine j_goto (tgt := 7) dX7_layWays_84 (by decide) ?_
        refine j_lo [5, 6, 2, 1, 0] rfl ?_
        exact H
      · have H := H.2 c_8
        refine j_iconst (v := 0) dX7_layWays_71 (by decide) ?_
        refine j_goto (tgt := 79) dX7_layWays_72 (by decide) ?_
        refine j_ior dX7_layWays_79 ?_
        refine j_istore_n (lo' := [(3, .int (x3 ||| 0)), (2, .int (x2 / (6 - x4))), (6, .int (x2 - x2 / (6 - x4) * (6 - x4))), (5, .int (6 - x4)), (0, .ref (ad 0)), (1, .int x1), (4, .int x4)]) dX7_layWays_80 rfl (by decide) rfl ?_
        refine j_iinc (v := (x4 + 1)) (lo' := [(4, .int (x4 + 1)), (3, .int (x3 ||| 0)), (2, .int (x2 / (6 - x4))), (6, .int (x2 - x2 / (6 - x4) * (6 - x4))), (5, .int (6 - x4)), (0, .ref (ad 0)), (1, .int x1)]) 6 dX7_layWays_81 rfl rfl (by decide) rfl ?_
        refine j_goto (tgt := 7) dX7_layWays_84 (by decide) ?_
        refine j_lo [5, 6, 2, 1, 0] rfl ?_
        exact H
set_option maxRecDepth 20000 in
theorem sg_X7_ones_0 {G : GG} {ad : Nat → Nat} {x0 : Int32} {Q : Option Value → va_W → Prop} (H : J G mX7_ones 4 [(0, .int x0), (1, .int 0), (2, .int 0)] [] ([] : va_W) Q) : J G mX7_ones 0 [(0, .int x0)] [] ([] : va_W) Q := by
  refine j_iconst (v := 0) dX7_ones_0 (by decide) ?_
  refine j_istore_n (lo' := [(1, .int 0), (0, .int x0)]) dX7_ones_1 rfl (by decide) rfl ?_
  refine j_iconst (v := 0) dX7_ones_2 (by decide) ?_
  refine j_istore_n (lo' := [(2, .int 0), (1, .int 0), (0, .int x0)]) dX7_ones_3 rfl (by decide) rfl ?_
  refine j_lo [2, 1, 0] rfl ?_
  exact H
set_option maxRecDepth 20000 in
theorem sg_X7_ones_4 {G : GG} {ad : Nat → Nat} {x0 : Int32} {x1 : Int32} {x2 : Int32} {Q : Option Value → va_W → Prop} (H : (((6 ≤ x2) → Q (some (.int x1)) ([] : va_W)) ∧ ((¬ 6 ≤ x2) → J G mX7_ones 4 [(0, .int x0), (1, .int (x1 + (((x0 >>> (x2 &&& 31)) : Int32) &&& 1))), (2, .int (x2 + 1))] [] ([] : va_W) Q))) : J G mX7_ones 4 [(0, .int x0), (1, .int x1), (2, .int x2)] [] ([] : va_W) Q := by
  refine j_iload_n 2 dX7_ones_4 rfl rfl ?_
  refine j_bipush (v := 6) dX7_ones_5 (by decide) ?_
  refine j_icmp_ge (tgt := 24) dX7_ones_7 (by decide) (fun c_1 => ?_) (fun c_1 => ?_)
  · have H := H.1 c_1
    refine j_iload_n 1 dX7_ones_24 rfl rfl ?_
    exact j_iret dX7_ones_25 rfl H
  · have H := H.2 c_1
    refine j_iload_n 1 dX7_ones_10 rfl rfl ?_
    refine j_iload_n 0 dX7_ones_11 rfl rfl ?_
    refine j_iload_n 2 dX7_ones_12 rfl rfl ?_
    refine j_ishr dX7_ones_13 ?_
    refine j_iconst (v := 1) dX7_ones_14 (by decide) ?_
    refine j_iand dX7_ones_15 ?_
    refine j_iadd dX7_ones_16 ?_
    refine j_istore_n (lo' := [(1, .int (x1 + (((x0 >>> (x2 &&& 31)) : Int32) &&& 1))), (0, .int x0), (2, .int x2)]) dX7_ones_17 rfl (by decide) rfl ?_
    refine j_iinc (v := (x2 + 1)) (lo' := [(2, .int (x2 + 1)), (1, .int (x1 + (((x0 >>> (x2 &&& 31)) : Int32) &&& 1))), (0, .int x0)]) 2 dX7_ones_18 rfl rfl (by decide) rfl ?_
    refine j_goto (tgt := 4) dX7_ones_21 (by decide) ?_
    refine j_lo [2, 1, 0] rfl ?_
    exact H
set_option maxRecDepth 20000 in
theorem sg_X7_hasPage_0 {G : GG} {ad : Nat → Nat} {a : Nat → Nat → Int32} {v : Nat → Int32} {hh : Int64} {x1 : Int32} {Q : Option Value → va_W → Prop} (H : (vp_in ((17 * x1) + 4) 102) ∧ (((¬ ((a 6) (Int32.toNatClampNeg ((17 * x1) + 4))) = (v 0)) → J G mX7_hasPage 26 [(0, .ref (ad 0)), (1, .int x1), (2, .int 0), (3, .int 0)] [] (mdW G ad 0 a v hh) Q) ∧ ((((a 6) (Int32.toNatClampNeg ((17 * x1) + 4))) = (v 0)) → J G mX7_hasPage 26 [(0, .ref (ad 0)), (1, .int x1), (2, .int 1), (3, .int 0)] [] (mdW G ad 0 a v hh) Q))) : J G mX7_hasPage 0 [(0, .ref (ad 0)), (1, .int x1)] [] (mdW G ad 0 a v hh) Q := by
  refine j_aload_n 0 dX7_hasPage_0 rfl rfl ?_
  refine j_get 0 fl_X7_28 dX7_hasPage_1 rfl rfl ?_
  refine j_bipush (v := 17) dX7_hasPage_4 (by decide) ?_
  refine j_iload_n 1 dX7_hasPage_6 rfl rfl ?_
  refine j_imul dX7_hasPage_7 ?_
  refine j_iconst (v := 4) dX7_hasPage_8 (by decide) ?_
  refine j_iadd dX7_hasPage_9 ?_
  obtain ⟨h_1, H⟩ := H
  refine j_iald 7 dX7_hasPage_10 rfl h_1 ?_
  refine j_aload_n 0 dX7_hasPage_11 rfl rfl ?_
  refine j_get 0 fl_X7_81 dX7_hasPage_12 rfl rfl ?_
  refine j_icmp_ne (tgt := 22) dX7_hasPage_15 (by decide) (fun c_2 => ?_) (fun c_2 => ?_)
  · have H := H.1 c_2
    refine j_iconst (v := 0) dX7_hasPage_22 (by decide) ?_
    refine j_istore_n (lo' := [(2, .int 0), (0, .ref (ad 0)), (1, .int x1)]) dX7_hasPage_23 rfl (by decide) rfl ?_
    refine j_iconst (v := 0) dX7_hasPage_24 (by decide) ?_
    refine j_istore_n (lo' := [(3, .int 0), (2, .int 0), (0, .ref (ad 0)), (1, .int x1)]) dX7_hasPage_25 rfl (by decide) rfl ?_
    refine j_lo [2, 3, 1, 0] rfl ?_
    exact H
  · have H := H.2 c_2
    refine j_iconst (v := 1) dX7_hasPage_18 (by decide) ?_
    refine j_goto (tgt := 23) dX7_hasPage_19 (by decide) ?_
    refine j_istore_n (lo' := [(2, .int 1), (0, .ref (ad 0)), (1, .int x1)]) dX7_hasPage_23 rfl (by decide) rfl ?_
    refine j_iconst (v := 0) dX7_hasPage_24 (by decide) ?_
    refine j_istore_n (lo' := [(3, .int 0), (2, .int 1), (0, .ref (ad 0)), (1, .int x1)]) dX7_hasPage_25 rfl (by decide) rfl ?_
    refine j_lo [2, 3, 1, 0] rfl ?_
    exact H
set_option maxRecDepth 20000 in
theorem sg_X7_hasPage_26 {G : GG} {ad : Nat → Nat} {a : Nat → Nat → Int32} {v : Nat → Int32} {hh : Int64} {x1 : Int32} {x2 : Int32} {x3 : Int32} {Q : Option Value → va_W → Prop} (H : ((((v 0) ≤ x3) → (narrow .boolean (.int x2) = .int x2) ∧ Q (some (.int x2)) (mdW G ad 0 a v hh)) ∧ ((¬ (v 0) ≤ x3) → (((x2 = 0) → (narrow .boolean (.int x2) = .int x2) ∧ Q (some (.int x2)) (mdW G ad 0 a v hh)) ∧ ((¬ x2 = 0) → (vp_in (((17 * x1) + 5) + x3) 102) ∧ (vp_in x3 20) ∧ (((¬ ((a 6) (Int32.toNatClampNeg (((17 * x1) + 5) + x3))) = (((a 0) (Int32.toNatClampNeg x3)) - 97)) → J G mX7_hasPage 26 [(0, .ref (ad 0)), (1, .int x1), (2, .int 0), (3, .int (x3 + 1))] [] (mdW G ad 0 a v hh) Q) ∧ ((((a 6) (Int32.toNatClampNeg (((17 * x1) + 5) + x3))) = (((a 0) (Int32.toNatClampNeg x3)) - 97)) → J G mX7_hasPage 26 [(0, .ref (ad 0)), (1, .int x1), (2, .int 1), (3, .int (x3 + 1))] [] (mdW G ad 0 a v hh) Q))))))) : J G mX7_hasPage 26 [(0, .ref (ad 0)), (1, .int x1), (2, .int x2), (3, .int x3)] [] (mdW G ad 0 a v hh) Q := by
  refine j_iload_n 3 dX7_hasPage_26 rfl rfl ?_
  refine j_aload_n 0 dX7_hasPage_27 rfl rfl ?_
  refine j_get 0 fl_X7_81 dX7_hasPage_28 rfl rfl ?_
  refine j_icmp_ge (tgt := 75) dX7_hasPage_31 (by decide) (fun c_1 => ?_) (fun c_1 => ?_)
  · have H := H.1 c_1
    refine j_iload_n 2 dX7_hasPage_75 rfl rfl ?_
    obtain ⟨hn, H⟩ := H
    exact j_zret dX7_hasPage_76 rfl hn H
  · have H := H.2 c_1
    refine j_iload_n 2 dX7_hasPage_34 rfl rfl ?_
    refine j_if_eq (tgt := 75) dX7_hasPage_35 (by decide) (fun c_2 => ?_) (fun c_2 => ?_)
    · have H := H.1 c_2
      refine j_iload_n 2 dX7_hasPage_75 rfl rfl ?_
      obtain ⟨hn, H⟩ := H
      exact j_zret dX7_hasPage_76 rfl hn H
    · have H := H.2 c_2
      refine j_aload_n 0 dX7_hasPage_38 rfl rfl ?_
      refine j_get 0 fl_X7_28 dX7_hasPage_39 rfl rfl ?_
      refine j_bipush (v := 17) dX7_hasPage_42 (by decide) ?_
      refine j_iload_n 1 dX7_hasPage_44 rfl rfl ?_
      refine j_imul dX7_hasPage_45 ?_
      refine j_iconst (v := 5) dX7_hasPage_46 (by decide) ?_
      refine j_iadd dX7_hasPage_47 ?_
      refine j_iload_n 3 dX7_hasPage_48 rfl rfl ?_
      refine j_iadd dX7_hasPage_49 ?_
      obtain ⟨h_3, H⟩ := H
      refine j_iald 7 dX7_hasPage_50 rfl h_3 ?_
      refine j_aload_n 0 dX7_hasPage_51 rfl rfl ?_
      refine j_get 0 fl_X7_7 dX7_hasPage_52 rfl rfl ?_
      refine j_iload_n 3 dX7_hasPage_55 rfl rfl ?_
      obtain ⟨h_4, H⟩ := H
      refine j_iald 1 dX7_hasPage_56 rfl h_4 ?_
      refine j_bipush (v := 97) dX7_hasPage_57 (by decide) ?_
      refine j_isub dX7_hasPage_59 ?_
      refine j_icmp_ne (tgt := 67) dX7_hasPage_60 (by decide) (fun c_5 => ?_) (fun c_5 => ?_)
      · have H := H.1 c_5
        refine j_iconst (v := 0) dX7_hasPage_67 (by decide) ?_
        refine j_istore_n (lo' := [(2, .int 0), (0, .ref (ad 0)), (1, .int x1), (3, .int x3)]) dX7_hasPage_68 rfl (by decide) rfl ?_
        refine j_iinc (v := (x3 + 1)) (lo' := [(3, .int (x3 + 1)), (2, .int 0), (0, .ref (ad 0)), (1, .int x1)]) 3 dX7_hasPage_69 rfl rfl (by decide) rfl ?_
        refine j_goto (tgt := 26) dX7_hasPage_72 (by decide) ?_
        refine j_lo [2, 3, 1, 0] rfl ?_
        exact H
      · have H := H.2 c_5
        refine j_iconst (v := 1) dX7_hasPage_63 (by decide) ?_
        refine j_goto (tgt := 68) dX7_hasPage_64 (by decide) ?_
        refine j_istore_n (lo' := [(2, .int 1), (0, .ref (ad 0)), (1, .int x1), (3, .int x3)]) dX7_hasPage_68 rfl (by decide) rfl ?_
        refine j_iinc (v := (x3 + 1)) (lo' := [(3, .int (x3 + 1)), (2, .int 1), (0, .ref (ad 0)), (1, .int x1)]) 3 dX7_hasPage_69 rfl rfl (by decide) rfl ?_
        refine j_goto (tgt := 26) dX7_hasPage_72 (by decide) ?_
        refine j_lo [2, 3, 1, 0] rfl ?_
        exact H
set_option maxRecDepth 20000 in
theorem sg_X7_fewTurns_0 {G : GG} {ad : Nat → Nat} {a : Nat → Nat → Int32} {v : Nat → Int32} {hh : Int64} {x1 : Int32} {x2 : Int32} {Q : Option Value → va_W → Prop} (H : J G mX7_isGutter 0 [(0, .ref (ad 0)), (1, .int x1)] [] (mdW G ad 0 a v hh) (fun v_ w_ => ∃ (r_1 : Int32), v_ = some (.int r_1) ∧ w_ = (mdW G ad 0 a v hh) ∧ (((¬ r_1 = 0) → J G mX7_in 0 [(0, .long (Int32.toInt64 x2)), (2, .long 0), (4, .long 2)] [] ([] : va_W) (fun v_ w_ => ∃ (r_3 : Int32), v_ = some (.int r_3) ∧ w_ = ([] : va_W) ∧ (((¬ r_3 = 0) → J G mX7_isPageWord 0 [(0, .ref (ad 0))] [] (mdW G ad 0 a v hh) (fun v_ w_ => ∃ (r_5 : Int32), v_ = some (.int r_5) ∧ w_ = (mdW G ad 0 a v hh) ∧ (((r_5 = 0) → Q (some (.int (-103))) (mdW G ad 0 a v hh)) ∧ ((¬ r_5 = 0) → (((¬ (v 4) = 20) → J G mX7_asItIs 0 [(0, .ref (ad 0))] [] (mdW G ad 0 a (va_up v 4 ((v 4) + 1)) hh) (fun v_ w_ => ∃ (a_8 : Nat → Nat → Int32), v_ = none ∧ w_ = (mdW G ad 0 a_8 (va_up v 4 ((v 4) + 1)) hh) ∧ J G mX7_fewTurns 67 [(0, .ref (ad 0)), (1, .int x1), (2, .int x2), (3, .int (-1)), (4, .int (-1)), (5, .int 0)] [] (mdW G ad 0 a_8 (va_up v 4 ((v 4) + 1)) hh) Q)) ∧ (((v 4) = 20) → Q (some (.int (-103))) (mdW G ad 0 a v hh))))))) ∧ ((r_3 = 0) → Q (some (.int (-102))) (mdW G ad 0 a v hh))))) ∧ ((r_1 = 0) → Q (some (.int (-101))) (mdW G ad 0 a v hh))))) : J G mX7_fewTurns 0 [(0, .ref (ad 0)), (1, .int x1), (2, .int x2)] [] (mdW G ad 0 a v hh) Q := by
  refine j_aload_n 0 dX7_fewTurns_0 rfl rfl ?_
  refine j_iload_n 1 dX7_fewTurns_1 rfl rfl ?_
  refine j_callV0 (q0 := 0) (As := [.int x1]) (st := []) ml_X7_isGutter vl_X7_119 dX7_fewTurns_2 rfl rfl rfl (Nat.le_of_ble_eq_true rfl) ⟨by decide, by decide⟩ rfl rfl (Nat.le_of_ble_eq_true rfl) (J.mono (fun v_ w_ hp_ => ?_) H)
  obtain ⟨r_1, rfl, rfl, H⟩ := hp_
  refine j_if_ne (tgt := 11) dX7_fewTurns_5 (by decide) (fun c_2 => ?_) (fun c_2 => ?_)
  · have H := H.1 c_2
    refine j_iload_n 2 dX7_fewTurns_11 rfl rfl ?_
    refine j_i2l dX7_fewTurns_12 ?_
    refine j_lconst (v := 0) dX7_fewTurns_13 (by decide) ?_
    refine j_ldc2 cl_X7_141 dX7_fewTurns_14 ?_
    refine j_callS0 (As := [.long (Int32.toInt64 x2), .long 0, .long 2]) (st := []) ml_X7_in sl_X7_77 dX7_fewTurns_17 (Nat.le_of_ble_eq_true rfl) ⟨by decide, by decide⟩ rfl rfl (Nat.le_of_ble_eq_true rfl) (J.mono (fun v_ w_ hp_ => ?_) H)
    obtain ⟨r_3, rfl, rfl, H⟩ := hp_
    refine j_if_ne (tgt := 26) dX7_fewTurns_20 (by decide) (fun c_4 => ?_) (fun c_4 => ?_)
    · have H := H.1 c_4
      refine j_aload_n 0 dX7_fewTurns_26 rfl rfl ?_
      refine j_callV0 (q0 := 0) (As := []) (st := []) ml_X7_isPageWord vl_X7_143 dX7_fewTurns_27 rfl rfl rfl (Nat.le_of_ble_eq_true rfl) ⟨by decide, by decide⟩ rfl rfl (Nat.le_of_ble_eq_true rfl) (J.mono (fun v_ w_ hp_ => ?_) H)
      obtain ⟨r_5, rfl, rfl, H⟩ := hp_
      refine j_if_eq (tgt := 42) dX7_fewTurns_30 (by decide) (fun c_6 => ?_) (fun c_6 => ?_)
      · have H := H.1 c_6
        refine j_bipush (v := (-103)) dX7_fewTurns_42 (by decide) ?_
        exact j_iret dX7_fewTurns_44 rfl H
      · have H := H.2 c_6
        refine j_aload_n 0 dX7_fewTurns_33 rfl rfl ?_
        refine j_get 0 fl_X7_147 dX7_fewTurns_34 rfl rfl ?_
        refine j_bipush (v := 20) dX7_fewTurns_37 (by decide) ?_
        refine j_icmp_ne (tgt := 45) dX7_fewTurns_39 (by decide) (fun c_7 => ?_) (fun c_7 => ?_)
        · have H := H.1 c_7
          refine j_aload_n 0 dX7_fewTurns_45 rfl rfl ?_
          refine j_dup dX7_fewTurns_46 rfl ?_
          refine j_get 0 fl_X7_147 dX7_fewTurns_47 rfl rfl ?_
          refine j_iconst (v := 1) dX7_fewTurns_50 (by decide) ?_
          refine j_iadd dX7_fewTurns_51 ?_
          refine j_put (w' := (mdW G ad 0 a (va_up v 4 ((v 4) + 1)) hh)) 0 fp_X7_147 dX7_fewTurns_52 rfl rfl rfl (Nat.le_of_ble_eq_true rfl) rfl ?_
          refine j_aload_n 0 dX7_fewTurns_55 rfl rfl ?_
          refine j_callV0 (q0 := 0) (As := []) (st := []) ml_X7_asItIs vl_X7_150 dX7_fewTurns_56 rfl rfl rfl (Nat.le_of_ble_eq_true rfl) ⟨by decide, by decide⟩ rfl rfl (Nat.le_of_ble_eq_true rfl) (J.mono (fun v_ w_ hp_ => ?_) H)
          obtain ⟨a_8, rfl, rfl, H⟩ := hp_
          refine j_iconst (v := (-1)) dX7_fewTurns_59 (by decide) ?_
          refine j_istore_n (lo' := [(3, .int (-1)), (0, .ref (ad 0)), (1, .int x1), (2, .int x2)]) dX7_fewTurns_60 rfl (by decide) rfl ?_
          refine j_iconst (v := (-1)) dX7_fewTurns_61 (by decide) ?_
          refine j_istore (lo' := [(4, .int (-1)), (3, .int (-1)), (0, .ref (ad 0)), (1, .int x1), (2, .int x2)]) dX7_fewTurns_62 (by decide) rfl ?_
          refine j_iconst (v := 0) dX7_fewTurns_64 (by decide) ?_
          refine j_istore (lo' := [(5, .int 0), (4, .int (-1)), (3, .int (-1)), (0, .ref (ad 0)), (1, .int x1), (2, .int x2)]) dX7_fewTurns_65 (by decide) rfl ?_
          refine j_lo [3, 4, 5, 2, 1, 0] rfl ?_
          exact H
        · have H := H.2 c_7
          refine j_bipush (v := (-103)) dX7_fewTurns_42 (by decide) ?_
          exact j_iret dX7_fewTurns_44 rfl H
    · have H := H.2 c_4
      refine j_bipush (v := (-102)) dX7_fewTurns_23 (by decide) ?_
      exact j_iret dX7_fewTurns_25 rfl H
  · have H := H.2 c_2
    refine j_bipush (v := (-101)) dX7_fewTurns_8 (by decide) ?_
    exact j_iret dX7_fewTurns_10 rfl H
set_option maxRecDepth 20000 in
theorem sg_X7_fewTurns_67 {G : GG} {ad : Nat → Nat} {a : Nat → Nat → Int32} {v : Nat → Int32} {hh : Int64} {x1 : Int32} {x2 : Int32} {x3 : Int32} {x4 : Int32} {x5 : Int32} {Q : Option Value → va_W → Prop} (H : (((720 ≤ x5) → (((x3 = (-1)) → Q (some (.int x3)) (mdW G ad 0 a v hh)) ∧ ((¬ x3 = (-1)) → (((¬ x2 = 1) → (((¬ x2 = 0) → Q (some (.int x4)) (mdW G ad 0 a v hh)) ∧ ((x2 = 0) → J G mX7_ones 0 [(0, .int x3)] [] ([] : va_W) (fun v_ w_ => ∃ (r_5 : Int32), v_ = some (.int r_5) ∧ w_ = ([] : va_W) ∧ Q (some (.int r_5)) (mdW G ad 0 a v hh))))) ∧ ((x2 = 1) → Q (some (.int x3)) (mdW G ad 0 a v hh)))))) ∧ ((¬ 720 ≤ x5) → J G mX7_layWays 0 [(0, .ref (ad 0)), (1, .int x5)] [] (mdW G ad 0 a v hh) (fun v_ w_ => ∃ (r_7 : Int32) (a_6 : Nat → Nat → Int32), v_ = some (.int r_7) ∧ w_ = (mdW G ad 0 a_6 v hh) ∧ (vp_in x1 6) ∧ (((¬ ((a_6 8) (Int32.toNatClampNeg x1)) = (-1)) → J G mX7_fewTurns 117 [(0, .ref (ad 0)), (1, .int x1), (2, .int x2), (3, .int x3), (4, .int x4), (5, .int x5), (6, .int r_7), (7, .int 0)] [] (mdW G ad 0 a_6 v hh) Q) ∧ ((((a_6 8) (Int32.toNatClampNeg x1)) = (-1)) → (((x3 = (-1)) → J G mX7_fewTurns 117 [(0, .ref (ad 0)), (1, .int x1), (2, .int x2), (3, .int x3), (4, .int x4), (5, .int x5), (6, .int r_7), (7, .int 1)] [] (mdW G ad 0 a_6 v hh) Q) ∧ ((¬ x3 = (-1)) → J G mX7_ones 0 [(0, .int r_7)] [] ([] : va_W) (fun v_ w_ => ∃ (r_11 : Int32), v_ = some (.int r_11) ∧ w_ = ([] : va_W) ∧ J G mX7_ones 0 [(0, .int x3)] [] ([] : va_W) (fun v_ w_ => ∃ (r_12 : Int32), v_ = some (.int r_12) ∧ w_ = ([] : va_W) ∧ (((r_12 < r_11) → J G mX7_fewTurns 117 [(0, .ref (ad 0)), (1, .int x1), (2, .int x2), (3, .int x3), (4, .int x4), (5, .int x5), (6, .int r_7), (7, .int 0)] [] (mdW G ad 0 a_6 v hh) Q) ∧ ((¬ r_12 < r_11) → J G mX7_fewTurns 117 [(0, .ref (ad 0)), (1, .int x1), (2, .int x2), (3, .int x3), (4, .int x4), (5, .int x5), (6, .int r_7), (7, .int 1)] [] (mdW G ad 0 a_6 v hh) Q)))))))))))) : J G mX7_fewTurns 67 [(0, .ref (ad 0)), (1, .int x1), (2, .int x2), (3, .int x3), (4, .int x4), (5, .int x5)] [] (mdW G ad 0 a v hh) Q := by
  refine j_iload 5 dX7_fewTurns_67 rfl ?_
  refine j_sipush (v := 720) dX7_fewTurns_69 (by decide) ?_
  refine j_icmp_ge (tgt := 197) dX7_fewTurns_72 (by decide) (fun c_1 => ?_) (fun c_1 => ?_)
  · have H := H.1 c_1
    refine j_iload_n 3 dX7_fewTurns_197 rfl rfl ?_
    refine j_iconst (v := (-1)) dX7_fewTurns_198 (by decide) ?_
    refine j_icmp_eq (tgt := 207) dX7_fewTurns_199 (by decide) (fun c_2 => ?_) (fun c_2 => ?_)
    · have H := H.1 c_2
      refine j_iload_n 3 dX7_fewTurns_207 rfl rfl ?_
      refine j_goto (tgt := 224) dX7_fewTurns_208 (by decide) ?_
      exact j_iret dX7_fewTurns_224 rfl H
    · have H := H.2 c_2
      refine j_iload_n 2 dX7_fewTurns_202 rfl rfl ?_
      refine j_iconst (v := 1) dX7_fewTurns_203 (by decide) ?_
      refine j_icmp_ne (tgt := 211) dX7_fewTurns_204 (by decide) (fun c_3 => ?_) (fun c_3 => ?_)
      · have H := H.1 c_3
        refine j_iload_n 2 dX7_fewTurns_211 rfl rfl ?_
        refine j_if_ne (tgt := 222) dX7_fewTurns_212 (by decide) (fun c_4 => ?_) (fun c_4 => ?_)
        · have H := H.1 c_4
          refine j_iload 4 dX7_fewTurns_222 rfl ?_
          exact j_iret dX7_fewTurns_224 rfl H
        · have H := H.2 c_4
          refine j_iload_n 3 dX7_fewTurns_215 rfl rfl ?_
          refine j_callS0 (As := [.int x3]) (st := []) ml_X7_ones sl_X7_156 dX7_fewTurns_216 (Nat.le_of_ble_eq_true rfl) ⟨by decide, by decide⟩ rfl rfl (Nat.le_of_ble_eq_true rfl) (J.mono (fun v_ w_ hp_ => ?_) H)
          obtain ⟨r_5, rfl, rfl, H⟩ := hp_
          refine j_goto (tgt := 224) dX7_fewTurns_219 (by decide) ?_
          exact j_iret dX7_fewTurns_224 rfl H
      · have H := H.2 c_3
        refine j_iload_n 3 dX7_fewTurns_207 rfl rfl ?_
        refine j_goto (tgt := 224) dX7_fewTurns_208 (by decide) ?_
        exact j_iret dX7_fewTurns_224 rfl H
  · have H := H.2 c_1
    refine j_aload_n 0 dX7_fewTurns_75 rfl rfl ?_
    refine j_iload 5 dX7_fewTurns_76 rfl ?_
    refine j_callV0 (q0 := 0) (As := [.int x5]) (st := []) ml_X7_layWays vl_X7_153 dX7_fewTurns_78 rfl rfl rfl (Nat.le_of_ble_eq_true rfl) ⟨by decide, by decide⟩ rfl rfl (Nat.le_of_ble_eq_true rfl) (J.mono (fun v_ w_ hp_ => ?_) H)
    obtain ⟨r_7, a_6, rfl, rfl, H⟩ := hp_
    refine j_istore (lo' := [(6, .int r_7), (0, .ref (ad 0)), (1, .int x1), (2, .int x2), (3, .int x3), (4, .int x4), (5, .int x5)]) dX7_fewTurns_81 (by decide) rfl ?_
    refine j_aload_n 1 dX7_fewTurns_83 rfl rfl ?_
    refine j_get 0 fl_X7_34 dX7_fewTurns_84 rfl rfl ?_
    refine j_iload_n 2 dX7_fewTurns_87 rfl rfl ?_
    obtain ⟨h_8, H⟩ := H
    refine j_iald 9 dX7_fewTurns_88 rfl h_8 ?_
    refine j_iconst (v := (-1)) dX7_fewTurns_89 (by decide) ?_
    refine j_icmp_ne (tgt := 114) dX7_fewTurns_90 (by decide) (fun c_9 => ?_) (fun c_9 => ?_)
    · have H := H.1 c_9
      refine j_iconst (v := 0) dX7_fewTurns_114 (by decide) ?_
      refine j_istore (lo' := [(7, .int 0), (6, .int r_7), (0, .ref (ad 0)), (1, .int x1), (2, .int x2), (3, .int x3), (4, .int x4), (5, .int x5)]) dX7_fewTurns_115 (by decide) rfl ?_
      refine j_lo [2, 3, 4, 5, 6, 7, 1, 0] rfl ?_
      exact H
    · have H := H.2 c_9
      refine j_iload_n 4 dX7_fewTurns_93 rfl rfl ?_
      refine j_iconst (v := (-1)) dX7_fewTurns_94 (by decide) ?_
      refine j_icmp_eq (tgt := 110) dX7_fewTurns_95 (by decide) (fun c_10 => ?_) (fun c_10 => ?_)
      · have H := H.1 c_10
        refine j_iconst (v := 1) dX7_fewTurns_110 (by decide) ?_
        refine j_goto (tgt := 115) dX7_fewTurns_111 (by decide) ?_
        refine j_istore (lo' := [(7, .int 1), (6, .int r_7), (0, .ref (ad 0)), (1, .int x1), (2, .int x2), (3, .int x3), (4, .int x4), (5, .int x5)]) dX7_fewTurns_115 (by decide) rfl ?_
        refine j_lo [2, 3, 4, 5, 6, 7, 1, 0] rfl ?_
        exact H
      · have H := H.2 c_10
        refine j_iload 0 dX7_fewTurns_98 rfl ?_
        refine j_callS0 (As := [.int r_7]) (st := []) ml_X7_ones sl_X7_156 dX7_fewTurns_100 (Nat.le_of_ble_eq_true rfl) ⟨by decide, by decide⟩ rfl rfl (Nat.le_of_ble_eq_true rfl) (J.mono (fun v_ w_ hp_ => ?_) H)
        obtain ⟨r_11, rfl, rfl, H⟩ := hp_
        refine j_iload_n 4 dX7_fewTurns_103 rfl rfl ?_
        refine j_callS0 (As := [.int x3]) (st := [.int r_11]) ml_X7_ones sl_X7_156 dX7_fewTurns_104 (Nat.le_of_ble_eq_true rfl) ⟨by decide, by decide⟩ rfl rfl (Nat.le_of_ble_eq_true rfl) (J.mono (fun v_ w_ hp_ => ?_) H)
        obtain ⟨r_12, rfl, rfl, H⟩ := hp_
        refine j_icmp_gt (tgt := 114) dX7_fewTurns_107 (by decide) (fun c_13 => ?_) (fun c_13 => ?_)
        · have H := H.1 c_13
          refine j_iconst (v := 0) dX7_fewTurns_114 (by decide) ?_
          refine j_istore (lo' := [(7, .int 0), (6, .int r_7), (0, .ref (ad 0)), (1, .int x1), (2, .int x2), (3, .int x3), (4, .int x4), (5, .int x5)]) dX7_fewTurns_115 (by decide) rfl ?_
          refine j_lo [2, 3, 4, 5, 6, 7, 1, 0] rfl ?_
          exact H
        · have H := H.2 c_13
          refine j_iconst (v := 1) dX7_fewTurns_110 (by decide) ?_
          refine j_goto (tgt := 115) dX7_fewTurns_111 (by decide) ?_
          refine j_istore (lo' := [(7, .int 1), (6, .int r_7), (0, .ref (ad 0)), (1, .int x1), (2, .int x2), (3, .int x3), (4, .int x4), (5, .int x5)]) dX7_fewTurns_115 (by decide) rfl ?_
          refine j_lo [2, 3, 4, 5, 6, 7, 1, 0] rfl ?_
          exact H
set_option maxRecDepth 20000 in
theorem sg_X7_fewTurns_117 {G : GG} {ad : Nat → Nat} {a : Nat → Nat → Int32} {v : Nat → Int32} {hh : Int64} {x1 : Int32} {x2 : Int32} {x3 : Int32} {x4 : Int32} {x5 : Int32} {x6 : Int32} {x7 : Int32} {Q : Option Value → va_W → Prop} (H : (((x7 = 0) → J G mX7_fewTurns 191 [(0, .ref (ad 0)), (1, .int x1), (2, .int x2), (3, .int x3), (4, .int x4), (5, .int x5), (6, .int x6), (7, .int x7)] [] (mdW G ad 0 a v hh) Q) ∧ ((¬ x7 = 0) → J G mX7_fallsAgain 0 [(0, .ref (ad 0))] [] (mdW G ad 0 a v hh) (fun v_ w_ => ∃ (a_2 : Nat → Nat → Int32), v_ = none ∧ w_ = (mdW G ad 0 a_2 v hh) ∧ J G mX7_hasPage 0 [(0, .ref (ad 0)), (1, .int x1)] [] (mdW G ad 0 a_2 v hh) (fun v_ w_ => ∃ (r_3 : Int32), v_ = some (.int r_3) ∧ w_ = (mdW G ad 0 a_2 v hh) ∧ (((r_3 = 0) → J G mX7_fewTurns 191 [(0, .ref (ad 0)), (1, .int x1), (2, .int x2), (3, .int x3), (4, .int x4), (5, .int x5), (6, .int x6), (7, .int x7)] [] (mdW G ad 0 a_2 v hh) Q) ∧ ((¬ r_3 = 0) → (((x3 = (-1)) → J G mX7_fewTurns 158 [(0, .ref (ad 0)), (1, .int x1), (2, .int x2), (3, .int x3), (4, .int x4), (5, .int x5), (6, .int x6), (7, .int x7), (8, .int 1)] [] (mdW G ad 0 a_2 v hh) Q) ∧ ((¬ x3 = (-1)) → J G mX7_ones 0 [(0, .int x6)] [] ([] : va_W) (fun v_ w_ => ∃ (r_6 : Int32), v_ = some (.int r_6) ∧ w_ = ([] : va_W) ∧ J G mX7_ones 0 [(0, .int x3)] [] ([] : va_W) (fun v_ w_ => ∃ (r_7 : Int32), v_ = some (.int r_7) ∧ w_ = ([] : va_W) ∧ (((r_7 ≤ r_6) → J G mX7_fewTurns 158 [(0, .ref (ad 0)), (1, .int x1), (2, .int x2), (3, .int x3), (4, .int x4), (5, .int x5), (6, .int x6), (7, .int x7), (8, .int 0)] [] (mdW G ad 0 a_2 v hh) Q) ∧ ((¬ r_7 ≤ r_6) → J G mX7_fewTurns 158 [(0, .ref (ad 0)), (1, .int x1), (2, .int x2), (3, .int x3), (4, .int x4), (5, .int x5), (6, .int x6), (7, .int x7), (8, .int 1)] [] (mdW G ad 0 a_2 v hh) Q))))))))))))) : J G mX7_fewTurns 117 [(0, .ref (ad 0)), (1, .int x1), (2, .int x2), (3, .int x3), (4, .int x4), (5, .int x5), (6, .int x6), (7, .int x7)] [] (mdW G ad 0 a v hh) Q := by
  refine j_iload 7 dX7_fewTurns_117 rfl ?_
  refine j_if_eq (tgt := 191) dX7_fewTurns_119 (by decide) (fun c_1 => ?_) (fun c_1 => ?_)
  · have H := H.1 c_1
    exact H
  · have H := H.2 c_1
    refine j_aload_n 0 dX7_fewTurns_122 rfl rfl ?_
    refine j_callV0 (q0 := 0) (As := []) (st := []) ml_X7_fallsAgain vl_X7_159 dX7_fewTurns_123 rfl rfl rfl (Nat.le_of_ble_eq_true rfl) ⟨by decide, by decide⟩ rfl rfl (Nat.le_of_ble_eq_true rfl) (J.mono (fun v_ w_ hp_ => ?_) H)
    obtain ⟨a_2, rfl, rfl, H⟩ := hp_
    refine j_aload_n 0 dX7_fewTurns_126 rfl rfl ?_
    refine j_iload_n 1 dX7_fewTurns_127 rfl rfl ?_
    refine j_callV0 (q0 := 0) (As := [.int x1]) (st := []) ml_X7_hasPage vl_X7_162 dX7_fewTurns_128 rfl rfl rfl (Nat.le_of_ble_eq_true rfl) ⟨by decide, by decide⟩ rfl rfl (Nat.le_of_ble_eq_true rfl) (J.mono (fun v_ w_ hp_ => ?_) H)
    obtain ⟨r_3, rfl, rfl, H⟩ := hp_
    refine j_if_eq (tgt := 191) dX7_fewTurns_131 (by decide) (fun c_4 => ?_) (fun c_4 => ?_)
    · have H := H.1 c_4
      exact H
    · have H := H.2 c_4
      refine j_iload_n 3 dX7_fewTurns_134 rfl rfl ?_
      refine j_iconst (v := (-1)) dX7_fewTurns_135 (by decide) ?_
      refine j_icmp_eq (tgt := 151) dX7_fewTurns_136 (by decide) (fun c_5 => ?_) (fun c_5 => ?_)
      · have H := H.1 c_5
        refine j_iconst (v := 1) dX7_fewTurns_151 (by decide) ?_
        refine j_goto (tgt := 156) dX7_fewTurns_152 (by decide) ?_
        refine j_istore (lo' := [(8, .int 1), (0, .ref (ad 0)), (1, .int x1), (2, .int x2), (3, .int x3), (4, .int x4), (5, .int x5), (6, .int x6), (7, .int x7)]) dX7_fewTurns_156 (by decide) rfl ?_
        refine j_lo [1, 2, 3, 4, 5, 6, 7, 8, 0] rfl ?_
        exact H
      · have H := H.2 c_5
        refine j_iload 6 dX7_fewTurns_139 rfl ?_
        refine j_callS0 (As := [.int x6]) (st := []) ml_X7_ones sl_X7_156 dX7_fewTurns_141 (Nat.le_of_ble_eq_true rfl) ⟨by decide, by decide⟩ rfl rfl (Nat.le_of_ble_eq_true rfl) (J.mono (fun v_ w_ hp_ => ?_) H)
        obtain ⟨r_6, rfl, rfl, H⟩ := hp_
        refine j_iload_n 3 dX7_fewTurns_144 rfl rfl ?_
        refine j_callS0 (As := [.int x3]) (st := [.int r_6]) ml_X7_ones sl_X7_156 dX7_fewTurns_145 (Nat.le_of_ble_eq_true rfl) ⟨by decide, by decide⟩ rfl rfl (Nat.le_of_ble_eq_true rfl) (J.mono (fun v_ w_ hp_ => ?_) H)
        obtain ⟨r_7, rfl, rfl, H⟩ := hp_
        refine j_icmp_ge (tgt := 155) dX7_fewTurns_148 (by decide) (fun c_8 => ?_) (fun c_8 => ?_)
        · have H := H.1 c_8
          refine j_iconst (v := 0) dX7_fewTurns_155 (by decide) ?_
          refine j_istore (lo' := [(8, .int 0), (0, .ref (ad 0)), (1, .int x1), (2, .int x2), (3, .int x3), (4, .int x4), (5, .int x5), (6, .int x6), (7, .int x7)]) dX7_fewTurns_156 (by decide) rfl ?_
          refine j_lo [1, 2, 3, 4, 5, 6, 7, 8, 0] rfl ?_
          exact H
        · have H := H.2 c_8
          refine j_iconst (v := 1) dX7_fewTurns_151 (by decide) ?_
          refine j_goto (tgt := 156) dX7_fewTurns_152 (by decide) ?_
          refine j_istore (lo' := [(8, .int 1), (0, .ref (ad 0)), (1, .int x1), (2, .int x2), (3, .int x3), (4, .int x4), (5, .int x5), (6, .int x6), (7, .int x7)]) dX7_fewTurns_156 (by decide) rfl ?_
          refine j_lo [1, 2, 3, 4, 5, 6, 7, 8, 0] rfl ?_
          exact H
set_option maxRecDepth 20000 in
theorem sg_X7_fewTurns_191 {G : GG} {ad : Nat → Nat} {a : Nat → Nat → Int32} {v : Nat → Int32} {hh : Int64} {x1 : Int32} {x2 : Int32} {x3 : Int32} {x4 : Int32} {x5 : Int32} {x6 : Int32} {x7 : Int32} {Q : Option Value → va_W → Prop} (H : J G mX7_fewTurns 67 [(0, .ref (ad 0)), (1, .int x1), (2, .int x2), (3, .int x3), (4, .int x4), (5, .int (x5 + 1))] [] (mdW G ad 0 a v hh) Q) : J G mX7_fewTurns 191 [(0, .ref (ad 0)), (1, .int x1), (2, .int x2), (3, .int x3), (4, .int x4), (5, .int x5), (6, .int x6), (7, .int x7)] [] (mdW G ad 0 a v hh) Q := by
  refine j_iinc (v := (x5 + 1)) (lo' := [(5, .int (x5 + 1)), (0, .ref (ad 0)), (1, .int x1), (2, .int x2), (3, .int x3), (4, .int x4), (6, .int x6), (7, .int x7)]) 5 dX7_fewTurns_191 rfl rfl (by decide) rfl ?_
  refine j_goto (tgt := 67) dX7_fewTurns_194 (by decide) ?_
  refine j_lo [1, 2, 3, 4, 5, 0] rfl ?_
  exact H
set_option maxRecDepth 20000 in
theorem sg_X7_fewTurns_158 {G : GG} {ad : Nat → Nat} {a : Nat → Nat → Int32} {v : Nat → Int32} {hh : Int64} {x1 : Int32} {x2 : Int32} {x3 : Int32} {x4 : Int32} {x5 : Int32} {x6 : Int32} {x7 : Int32} {x8 : Int32} {Q : Option Value → va_W → Prop} (H : (((x8 = 0) → J G mX7_fewTurns 173 [(0, .ref (ad 0)), (1, .int x1), (2, .int x2), (3, .int x3), (4, .int (x4 + 1)), (5, .int x5), (6, .int x6), (7, .int x7), (8, .int x8)] [] (mdW G ad 0 a v hh) Q) ∧ ((¬ x8 = 0) → J G mX7_fewTurns 173 [(0, .ref (ad 0)), (1, .int x1), (2, .int x2), (3, .int x3), (4, .int 1), (5, .int x5), (6, .int x6), (7, .int x7), (8, .int x8)] [] (mdW G ad 0 a v hh) Q))) : J G mX7_fewTurns 158 [(0, .ref (ad 0)), (1, .int x1), (2, .int x2), (3, .int x3), (4, .int x4), (5, .int x5), (6, .int x6), (7, .int x7), (8, .int x8)] [] (mdW G ad 0 a v hh) Q := by
  refine j_iload 8 dX7_fewTurns_158 rfl ?_
  refine j_if_eq (tgt := 167) dX7_fewTurns_160 (by decide) (fun c_1 => ?_) (fun c_1 => ?_)
  · have H := H.1 c_1
    refine j_iload 4 dX7_fewTurns_167 rfl ?_
    refine j_iconst (v := 1) dX7_fewTurns_169 (by decide) ?_
    refine j_iadd dX7_fewTurns_170 ?_
    refine j_istore (lo' := [(4, .int (x4 + 1)), (0, .ref (ad 0)), (1, .int x1), (2, .int x2), (3, .int x3), (5, .int x5), (6, .int x6), (7, .int x7), (8, .int x8)]) dX7_fewTurns_171 (by decide) rfl ?_
    refine j_lo [1, 2, 3, 4, 0, 5, 6, 7, 8] rfl ?_
    exact H
  · have H := H.2 c_1
    refine j_iconst (v := 1) dX7_fewTurns_163 (by decide) ?_
    refine j_goto (tgt := 171) dX7_fewTurns_164 (by decide) ?_
    refine j_istore (lo' := [(4, .int 1), (0, .ref (ad 0)), (1, .int x1), (2, .int x2), (3, .int x3), (5, .int x5), (6, .int x6), (7, .int x7), (8, .int x8)]) dX7_fewTurns_171 (by decide) rfl ?_
    refine j_lo [1, 2, 3, 4, 0, 5, 6, 7, 8] rfl ?_
    exact H
set_option maxRecDepth 20000 in
theorem sg_X7_fewTurns_173 {G : GG} {ad : Nat → Nat} {a : Nat → Nat → Int32} {v : Nat → Int32} {hh : Int64} {x1 : Int32} {x2 : Int32} {x3 : Int32} {x4 : Int32} {x5 : Int32} {x6 : Int32} {x7 : Int32} {x8 : Int32} {Q : Option Value → va_W → Prop} (H : (((¬ x8 = 0) → J G mX7_fewTurns 191 [(0, .ref (ad 0)), (1, .int x1), (2, .int x2), (3, .int x6), (4, .int x4), (5, .int x5), (6, .int x6), (7, .int x7)] [] (mdW G ad 0 a v hh) Q) ∧ ((x8 = 0) → (((x3 ≤ x6) → J G mX7_fewTurns 191 [(0, .ref (ad 0)), (1, .int x1), (2, .int x2), (3, .int x3), (4, .int x4), (5, .int x5), (6, .int x6), (7, .int x7)] [] (mdW G ad 0 a v hh) Q) ∧ ((¬ x3 ≤ x6) → J G mX7_fewTurns 191 [(0, .ref (ad 0)), (1, .int x1), (2, .int x2), (3, .int x6), (4, .int x4), (5, .int x5), (6, .int x6), (7, .int x7)] [] (mdW G ad 0 a v hh) Q))))) : J G mX7_fewTurns 173 [(0, .ref (ad 0)), (1, .int x1), (2, .int x2), (3, .int x3), (4, .int x4), (5, .int x5), (6, .int x6), (7, .int x7), (8, .int x8)] [] (mdW G ad 0 a v hh) Q := by
  refine j_iload 8 dX7_fewTurns_173 rfl ?_
  refine j_if_ne (tgt := 184) dX7_fewTurns_175 (by decide) (fun c_1 => ?_) (fun c_1 => ?_)
  · have H := H.1 c_1
    refine j_iload 6 dX7_fewTurns_184 rfl ?_
    refine j_goto (tgt := 190) dX7_fewTurns_186 (by decide) ?_
    refine j_istore_n (lo' := [(3, .int x6), (0, .ref (ad 0)), (1, .int x1), (2, .int x2), (4, .int x4), (5, .int x5), (6, .int x6), (7, .int x7), (8, .int x8)]) dX7_fewTurns_190 rfl (by decide) rfl ?_
    refine j_lo [1, 2, 3, 0, 4, 5, 6, 7] rfl ?_
    exact H
  · have H := H.2 c_1
    refine j_iload 6 dX7_fewTurns_178 rfl ?_
    refine j_iload_n 3 dX7_fewTurns_180 rfl rfl ?_
    refine j_icmp_ge (tgt := 189) dX7_fewTurns_181 (by decide) (fun c_2 => ?_) (fun c_2 => ?_)
    · have H := H.1 c_2
      refine j_iload_n 3 dX7_fewTurns_189 rfl rfl ?_
      refine j_istore_n (lo' := [(3, .int x3), (0, .ref (ad 0)), (1, .int x1), (2, .int x2), (4, .int x4), (5, .int x5), (6, .int x6), (7, .int x7), (8, .int x8)]) dX7_fewTurns_190 rfl (by decide) rfl ?_
      refine j_lo [1, 2, 3, 0, 4, 5, 6, 7] rfl ?_
      exact H
    · have H := H.2 c_2
      refine j_iload 6 dX7_fewTurns_184 rfl ?_
      refine j_goto (tgt := 190) dX7_fewTurns_186 (by decide) ?_
      refine j_istore_n (lo' := [(3, .int x6), (0, .ref (ad 0)), (1, .int x1), (2, .int x2), (4, .int x4), (5, .int x5), (6, .int x6), (7, .int x7), (8, .int x8)]) dX7_fewTurns_190 rfl (by decide) rfl ?_
      refine j_lo [1, 2, 3, 0, 4, 5, 6, 7] rfl ?_
      exact H
set_option maxRecDepth 20000 in
theorem sg_X7_forget_0 {G : GG} {ad : Nat → Nat} {a : Nat → Nat → Int32} {v : Nat → Int32} {hh : Int64} {Q : Option Value → va_W → Prop} (H : J G mX7_founds 0 [(0, .ref (ad 0))] [] (mdW G ad 0 a v hh) (fun v_ w_ => ∃ (r_1 : Int32), v_ = some (.int r_1) ∧ w_ = (mdW G ad 0 a v hh) ∧ J G mX7_forget 7 [(0, .ref (ad 0)), (1, .int r_1), (2, .int 0)] [] (mdW G ad 0 a v hh) Q)) : J G mX7_forget 0 [(0, .ref (ad 0))] [] (mdW G ad 0 a v hh) Q := by
  refine j_aload_n 0 dX7_forget_0 rfl rfl ?_
  refine j_callV0 (q0 := 0) (As := []) (st := []) ml_X7_founds vl_X7_178 dX7_forget_1 rfl rfl rfl (Nat.le_of_ble_eq_true rfl) ⟨by decide, by decide⟩ rfl rfl (Nat.le_of_ble_eq_true rfl) (J.mono (fun v_ w_ hp_ => ?_) H)
  obtain ⟨r_1, rfl, rfl, H⟩ := hp_
  refine j_istore_n (lo' := [(1, .int r_1), (0, .ref (ad 0))]) dX7_forget_4 rfl (by decide) rfl ?_
  refine j_iconst (v := 0) dX7_forget_5 (by decide) ?_
  refine j_istore_n (lo' := [(2, .int 0), (1, .int r_1), (0, .ref (ad 0))]) dX7_forget_6 rfl (by decide) rfl ?_
  refine j_lo [2, 1, 0] rfl ?_
  exact H
set_option maxRecDepth 20000 in
theorem sg_X7_forget_7 {G : GG} {ad : Nat → Nat} {a : Nat → Nat → Int32} {v : Nat → Int32} {hh : Int64} {x1 : Int32} {x2 : Int32} {Q : Option Value → va_W → Prop} (H : (((6 ≤ x2) → Q (some (.int x1)) (mdW G ad 0 a v hh)) ∧ ((¬ 6 ≤ x2) → (vp_in x2 6) ∧ J G mX7_forget 7 [(0, .ref (ad 0)), (1, .int x1), (2, .int (x2 + 1))] [] (mdW G ad 0 (va_up a 12 (upd (a 12) (Int32.toNatClampNeg x2) (-1))) v hh) Q))) : J G mX7_forget 7 [(0, .ref (ad 0)), (1, .int x1), (2, .int x2)] [] (mdW G ad 0 a v hh) Q := by
  refine j_iload_n 2 dX7_forget_7 rfl rfl ?_
  refine j_bipush (v := 6) dX7_forget_8 (by decide) ?_
  refine j_icmp_ge (tgt := 26) dX7_forget_10 (by decide) (fun c_1 => ?_) (fun c_1 => ?_)
  · have H := H.1 c_1
    refine j_iload_n 1 dX7_forget_26 rfl rfl ?_
    exact j_iret dX7_forget_27 rfl H
  · have H := H.2 c_1
    refine j_aload_n 0 dX7_forget_13 rfl rfl ?_
    refine j_get 0 fl_X7_47 dX7_forget_14 rfl rfl ?_
    refine j_iload_n 2 dX7_forget_17 rfl rfl ?_
    refine j_iconst (v := (-1)) dX7_forget_18 (by decide) ?_
    obtain ⟨h_2, H⟩ := H
    refine j_iast (w' := (mdW G ad 0 (va_up a 12 (upd (a 12) (Int32.toNatClampNeg x2) (-1))) v hh)) 13 dX7_forget_19 rfl h_2 rfl ?_
    refine j_iinc (v := (x2 + 1)) (lo' := [(2, .int (x2 + 1)), (0, .ref (ad 0)), (1, .int x1)]) 2 dX7_forget_20 rfl rfl (by decide) rfl ?_
    refine j_goto (tgt := 7) dX7_forget_23 (by decide) ?_
    refine j_lo [1, 2, 0] rfl ?_
    exact H
set_option maxRecDepth 20000 in
theorem sg_X7_found_0 {G : GG} {ad : Nat → Nat} {a : Nat → Nat → Int32} {v : Nat → Int32} {hh : Int64} {x1 : Int32} {Q : Option Value → va_W → Prop} (H : J G mX7_isGutter 0 [(0, .ref (ad 0)), (1, .int x1)] [] (mdW G ad 0 a v hh) (fun v_ w_ => ∃ (r_1 : Int32), v_ = some (.int r_1) ∧ w_ = (mdW G ad 0 a v hh) ∧ (((¬ r_1 = 0) → ((((v 0) ≤ 0) → J G mX7_found 30 [(0, .ref (ad 0)), (1, .int x1), (2, .int 0)] [] (mdW G ad 0 a v hh) Q) ∧ ((¬ (v 0) ≤ 0) → J G mX7_isPageWord 0 [(0, .ref (ad 0))] [] (mdW G ad 0 a v hh) (fun v_ w_ => ∃ (r_4 : Int32), v_ = some (.int r_4) ∧ w_ = (mdW G ad 0 a v hh) ∧ (((¬ r_4 = 0) → J G mX7_found 30 [(0, .ref (ad 0)), (1, .int x1), (2, .int 0)] [] (mdW G ad 0 a v hh) Q) ∧ ((r_4 = 0) → Q (some (.int (-103))) (mdW G ad 0 a v hh))))))) ∧ ((r_1 = 0) → Q (some (.int (-101))) (mdW G ad 0 a v hh))))) : J G mX7_found 0 [(0, .ref (ad 0)), (1, .int x1)] [] (mdW G ad 0 a v hh) Q := by
  refine j_aload_n 0 dX7_found_0 rfl rfl ?_
  refine j_iload_n 1 dX7_found_1 rfl rfl ?_
  refine j_callV0 (q0 := 0) (As := [.int x1]) (st := []) ml_X7_isGutter vl_X7_119 dX7_found_2 rfl rfl rfl (Nat.le_of_ble_eq_true rfl) ⟨by decide, by decide⟩ rfl rfl (Nat.le_of_ble_eq_true rfl) (J.mono (fun v_ w_ hp_ => ?_) H)
  obtain ⟨r_1, rfl, rfl, H⟩ := hp_
  refine j_if_ne (tgt := 11) dX7_found_5 (by decide) (fun c_2 => ?_) (fun c_2 => ?_)
  · have H := H.1 c_2
    refine j_aload_n 0 dX7_found_11 rfl rfl ?_
    refine j_get 0 fl_X7_81 dX7_found_12 rfl rfl ?_
    refine j_if_le (tgt := 28) dX7_found_15 (by decide) (fun c_3 => ?_) (fun c_3 => ?_)
    · have H := H.1 c_3
      refine j_iconst (v := 0) dX7_found_28 (by decide) ?_
      refine j_istore_n (lo' := [(2, .int 0), (0, .ref (ad 0)), (1, .int x1)]) dX7_found_29 rfl (by decide) rfl ?_
      refine j_lo [1, 2, 0] rfl ?_
      exact H
    · have H := H.2 c_3
      refine j_aload_n 0 dX7_found_18 rfl rfl ?_
      refine j_callV0 (q0 := 0) (As := []) (st := []) ml_X7_isPageWord vl_X7_143 dX7_found_19 rfl rfl rfl (Nat.le_of_ble_eq_true rfl) ⟨by decide, by decide⟩ rfl rfl (Nat.le_of_ble_eq_true rfl) (J.mono (fun v_ w_ hp_ => ?_) H)
      obtain ⟨r_4, rfl, rfl, H⟩ := hp_
      refine j_if_ne (tgt := 28) dX7_found_22 (by decide) (fun c_5 => ?_) (fun c_5 => ?_)
      · have H := H.1 c_5
        refine j_iconst (v := 0) dX7_found_28 (by decide) ?_
        refine j_istore_n (lo' := [(2, .int 0), (0, .ref (ad 0)), (1, .int x1)]) dX7_found_29 rfl (by decide) rfl ?_
        refine j_lo [1, 2, 0] rfl ?_
        exact H
      · have H := H.2 c_5
        refine j_bipush (v := (-103)) dX7_found_25 (by decide) ?_
        exact j_iret dX7_found_27 rfl H
  · have H := H.2 c_2
    refine j_bipush (v := (-101)) dX7_found_8 (by decide) ?_
    exact j_iret dX7_found_10 rfl H
set_option maxRecDepth 20000 in
theorem sg_X7_found_30 {G : GG} {ad : Nat → Nat} {a : Nat → Nat → Int32} {v : Nat → Int32} {hh : Int64} {x1 : Int32} {x2 : Int32} {Q : Option Value → va_W → Prop} (H : ((((v 0) ≤ x2) → (vp_in x1 6) ∧ J G mX7_founds 0 [(0, .ref (ad 0))] [] (mdW G ad 0 (va_up a 12 (upd (a 12) (Int32.toNatClampNeg x1) (v 0))) (va_up v 0 0) hh) (fun v_ w_ => ∃ (r_3 : Int32), v_ = some (.int r_3) ∧ w_ = (mdW G ad 0 (va_up a 12 (upd (a 12) (Int32.toNatClampNeg x1) (v 0))) (va_up v 0 0) hh) ∧ Q (some (.int r_3)) (mdW G ad 0 (va_up a 12 (upd (a 12) (Int32.toNatClampNeg x1) (v 0))) (va_up v 0 0) hh))) ∧ ((¬ (v 0) ≤ x2) → (vp_in x2 20) ∧ (vp_in ((8 * x1) + x2) 48) ∧ J G mX7_found 30 [(0, .ref (ad 0)), (1, .int x1), (2, .int (x2 + 1))] [] (mdW G ad 0 (va_up a 13 (upd (a 13) (Int32.toNatClampNeg ((8 * x1) + x2)) (((a 0) (Int32.toNatClampNeg x2)) - 97))) v hh) Q))) : J G mX7_found 30 [(0, .ref (ad 0)), (1, .int x1), (2, .int x2)] [] (mdW G ad 0 a v hh) Q := by
  refine j_iload_n 2 dX7_found_30 rfl rfl ?_
  refine j_aload_n 0 dX7_found_31 rfl rfl ?_
  refine j_get 0 fl_X7_81 dX7_found_32 rfl rfl ?_
  refine j_icmp_ge (tgt := 64) dX7_found_35 (by decide) (fun c_1 => ?_) (fun c_1 => ?_)
  · have H := H.1 c_1
    refine j_aload_n 0 dX7_found_64 rfl rfl ?_
    refine j_get 0 fl_X7_47 dX7_found_65 rfl rfl ?_
    refine j_iload_n 1 dX7_found_68 rfl rfl ?_
    refine j_aload_n 0 dX7_found_69 rfl rfl ?_
    refine j_get 0 fl_X7_81 dX7_found_70 rfl rfl ?_
    obtain ⟨h_2, H⟩ := H
    refine j_iast (w' := (mdW G ad 0 (va_up a 12 (upd (a 12) (Int32.toNatClampNeg x1) (v 0))) v hh)) 13 dX7_found_73 rfl h_2 rfl ?_
    refine j_aload_n 0 dX7_found_74 rfl rfl ?_
    refine j_iconst (v := 0) dX7_found_75 (by decide) ?_
    refine j_put (w' := (mdW G ad 0 (va_up a 12 (upd (a 12) (Int32.toNatClampNeg x1) (v 0))) (va_up v 0 0) hh)) 0 fp_X7_81 dX7_found_76 rfl rfl rfl (Nat.le_of_ble_eq_true rfl) rfl ?_
    refine j_aload_n 0 dX7_found_79 rfl rfl ?_
    refine j_callV0 (q0 := 0) (As := []) (st := []) ml_X7_founds vl_X7_178 dX7_found_80 rfl rfl rfl (Nat.le_of_ble_eq_true rfl) ⟨by decide, by decide⟩ rfl rfl (Nat.le_of_ble_eq_true rfl) (J.mono (fun v_ w_ hp_ => ?_) H)
    obtain ⟨r_3, rfl, rfl, H⟩ := hp_
    exact j_iret dX7_found_83 rfl H
  · have H := H.2 c_1
    refine j_aload_n 0 dX7_found_38 rfl rfl ?_
    refine j_get 0 fl_X7_50 dX7_found_39 rfl rfl ?_
    refine j_bipush (v := 8) dX7_found_42 (by decide) ?_
    refine j_iload_n 1 dX7_found_44 rfl rfl ?_
    refine j_imul dX7_found_45 ?_
    refine j_iload_n 2 dX7_found_46 rfl rfl ?_
    refine j_iadd dX7_found_47 ?_
    refine j_aload_n 0 dX7_found_48 rfl rfl ?_
    refine j_get 0 fl_X7_7 dX7_found_49 rfl rfl ?_
    refine j_iload_n 2 dX7_found_52 rfl rfl ?_
    obtain ⟨h_4, H⟩ := H
    refine j_iald 1 dX7_found_53 rfl h_4 ?_
    refine j_bipush (v := 97) dX7_found_54 (by decide) ?_
    refine j_isub dX7_found_56 ?_
    obtain ⟨h_5, H⟩ := H
    refine j_iast (w' := (mdW G ad 0 (va_up a 13 (upd (a 13) (Int32.toNatClampNeg ((8 * x1) + x2)) (((a 0) (Int32.toNatClampNeg x2)) - 97))) v hh)) 14 dX7_found_57 rfl h_5 rfl ?_
    refine j_iinc (v := (x2 + 1)) (lo' := [(2, .int (x2 + 1)), (0, .ref (ad 0)), (1, .int x1)]) 2 dX7_found_58 rfl rfl (by decide) rfl ?_
    refine j_goto (tgt := 30) dX7_found_61 (by decide) ?_
    refine j_lo [1, 2, 0] rfl ?_
    exact H
set_option maxRecDepth 20000 in
theorem sg_X7_image_0 {G : GG} {ad : Nat → Nat} {a : Nat → Nat → Int32} {v : Nat → Int32} {hh : Int64} {Q : Option Value → va_W → Prop} (H : (((¬ (v 1) = 0) → J G mX7_copy 0 [(0, .ref ((pk ad [3, 15]) 0)), (1, .ref ((pk ad [3, 15]) 1))] [] (arW G (pk ad [3, 15]) 0 6 (a 2) ++ (arW G (pk ad [3, 15]) 1 6 (a 14))) (fun v_ w_ => ∃ (f_2 : Nat → Int32), v_ = none ∧ w_ = (arW G (pk ad [3, 15]) 0 6 (a 2) ++ (arW G (pk ad [3, 15]) 1 6 f_2)) ∧ J G mX7_copy 0 [(0, .ref ((pk ad [4, 16]) 0)), (1, .ref ((pk ad [4, 16]) 1))] [] (arW G (pk ad [4, 16]) 0 102 (a 3) ++ (arW G (pk ad [4, 16]) 1 102 (a 15))) (fun v_ w_ => ∃ (f_3 : Nat → Int32), v_ = none ∧ w_ = (arW G (pk ad [4, 16]) 0 102 (a 3) ++ (arW G (pk ad [4, 16]) 1 102 f_3)) ∧ J G mX7_copy 0 [(0, .ref ((pk ad [5, 17]) 0)), (1, .ref ((pk ad [5, 17]) 1))] [] (arW G (pk ad [5, 17]) 0 12 (a 4) ++ (arW G (pk ad [5, 17]) 1 12 (a 16))) (fun v_ w_ => ∃ (f_4 : Nat → Int32), v_ = none ∧ w_ = (arW G (pk ad [5, 17]) 0 12 (a 4) ++ (arW G (pk ad [5, 17]) 1 12 f_4)) ∧ J G mX7_copy 0 [(0, .ref ((pk ad [6, 18]) 0)), (1, .ref ((pk ad [6, 18]) 1))] [] (arW G (pk ad [6, 18]) 0 12 (a 5) ++ (arW G (pk ad [6, 18]) 1 12 (a 17))) (fun v_ w_ => ∃ (f_5 : Nat → Int32), v_ = none ∧ w_ = (arW G (pk ad [6, 18]) 0 12 (a 5) ++ (arW G (pk ad [6, 18]) 1 12 f_5)) ∧ J G mX7_copy 0 [(0, .ref ((pk ad [13, 19]) 0)), (1, .ref ((pk ad [13, 19]) 1))] [] (arW G (pk ad [13, 19]) 0 6 (a 12) ++ (arW G (pk ad [13, 19]) 1 6 (a 18))) (fun v_ w_ => ∃ (f_6 : Nat → Int32), v_ = none ∧ w_ = (arW G (pk ad [13, 19]) 0 6 (a 12) ++ (arW G (pk ad [13, 19]) 1 6 f_6)) ∧ J G mX7_copy 0 [(0, .ref ((pk ad [14, 20]) 0)), (1, .ref ((pk ad [14, 20]) 1))] [] (arW G (pk ad [14, 20]) 0 48 (a 13) ++ (arW G (pk ad [14, 20]) 1 48 (a 19))) (fun v_ w_ => ∃ (f_7 : Nat → Int32), v_ = none ∧ w_ = (arW G (pk ad [14, 20]) 0 48 (a 13) ++ (arW G (pk ad [14, 20]) 1 48 f_7)) ∧ Q (some (.int (v 3))) (mdW G ad 0 (va_up (va_up (va_up (va_up (va_up (va_up a 14 f_2) 15 f_3) 16 f_4) 17 f_5) 18 f_6) 19 f_7) (va_up (va_up v 8 (v 3)) 7 (v 2)) hh)))))))) ∧ (((v 1) = 0) → Q (some (.int (-103))) (mdW G ad 0 a v hh)))) : J G mX7_image 0 [(0, .ref (ad 0))] [] (mdW G ad 0 a v hh) Q := by
  refine j_aload_n 0 dX7_image_0 rfl rfl ?_
  refine j_get 0 fl_X7_101 dX7_image_1 rfl rfl ?_
  refine j_if_ne (tgt := 10) dX7_image_4 (by decide) (fun c_1 => ?_) (fun c_1 => ?_)
  · have H := H.1 c_1
    refine j_aload_n 0 dX7_image_10 rfl rfl ?_
    refine j_get 0 fl_X7_16 dX7_image_11 rfl rfl ?_
    refine j_aload_n 0 dX7_image_14 rfl rfl ?_
    refine j_get 0 fl_X7_53 dX7_image_15 rfl rfl ?_
    refine j_callS (wc := (arW G (pk ad [3, 15]) 0 6 (a 2) ++ (arW G (pk ad [3, 15]) 1 6 (a 14)))) (As := [.ref ((pk ad [3, 15]) 0), .ref ((pk ad [3, 15]) 1)]) (st := []) ml_X7_copy sl_X7_137 dX7_image_18 [none, none, none, some 0, none, none, none, none, none, none, none, none, none, none, none, some 1] ⟨rfl, Nat.le_of_ble_eq_true rfl, rfl, rfl⟩ (Nat.le_of_ble_eq_true rfl) ⟨by decide, by decide⟩ rfl rfl (Nat.le_of_ble_eq_true rfl) (J.mono (fun v_ w_ hp_ => ?_) H)
    obtain ⟨f_2, rfl, rfl, H⟩ := hp_
    refine j_w (w' := (mdW G ad 0 (va_up a 14 f_2) v hh)) rfl ?_
    refine j_aload_n 0 dX7_image_21 rfl rfl ?_
    refine j_get 0 fl_X7_19 dX7_image_22 rfl rfl ?_
    refine j_aload_n 0 dX7_image_25 rfl rfl ?_
    refine j_get 0 fl_X7_56 dX7_image_26 rfl rfl ?_
    refine j_callS (wc := (arW G (pk ad [4, 16]) 0 102 (a 3) ++ (arW G (pk ad [4, 16]) 1 102 (a 15)))) (As := [.ref ((pk ad [4, 16]) 0), .ref ((pk ad [4, 16]) 1)]) (st := []) ml_X7_copy sl_X7_137 dX7_image_29 [none, none, none, none, some 0, none, none, none, none, none, none, none, none, none, none, none, some 1] ⟨rfl, Nat.le_of_ble_eq_true rfl, rfl, rfl⟩ (Nat.le_of_ble_eq_true rfl) ⟨by decide, by decide⟩ rfl rfl (Nat.le_of_ble_eq_true rfl) (J.mono (fun v_ w_ hp_ => ?_) H)
    obtain ⟨f_3, rfl, rfl, H⟩ := hp_
    refine j_w (w' := (mdW G ad 0 (va_up (va_up a 14 f_2) 15 f_3) v hh)) rfl ?_
    refine j_aload_n 0 dX7_image_32 rfl rfl ?_
    refine j_get 0 fl_X7_22 dX7_image_33 rfl rfl ?_
    refine j_aload_n 0 dX7_image_36 rfl rfl ?_
    refine j_get 0 fl_X7_59 dX7_image_37 rfl rfl ?_
    refine j_callS (wc := (arW G (pk ad [5, 17]) 0 12 (a 4) ++ (arW G (pk ad [5, 17]) 1 12 (a 16)))) (As := [.ref ((pk ad [5, 17]) 0), .ref ((pk ad [5, 17]) 1)]) (st := []) ml_X7_copy sl_X7_137 dX7_image_40 [none, none, none, none, none, some 0, none, none, none, none, none, none, none, none, none, none, none, some 1] ⟨rfl, Nat.le_of_ble_eq_true rfl, rfl, rfl⟩ (Nat.le_of_ble_eq_true rfl) ⟨by decide, by decide⟩ rfl rfl (Nat.le_of_ble_eq_true rfl) (J.mono (fun v_ w_ hp_ => ?_) H)
    obtain ⟨f_4, rfl, rfl, H⟩ := hp_
    refine j_w (w' := (mdW G ad 0 (va_up (va_up (va_up a 14 f_2) 15 f_3) 16 f_4) v hh)) rfl ?_
    refine j_aload_n 0 dX7_image_43 rfl rfl ?_
    refine j_get 0 fl_X7_25 dX7_image_44 rfl rfl ?_
    refine j_aload_n 0 dX7_image_47 rfl rfl ?_
    refine j_get 0 fl_X7_62 dX7_image_48 rfl rfl ?_
    refine j_callS (wc := (arW G (pk ad [6, 18]) 0 12 (a 5) ++ (arW G (pk ad [6, 18]) 1 12 (a 17)))) (As := [.ref ((pk ad [6, 18]) 0), .ref ((pk ad [6, 18]) 1)]) (st := []) ml_X7_copy sl_X7_137 dX7_image_51 [none, none, none, none, none, none, some 0, none, none, none, none, none, none, none, none, none, none, none, some 1] ⟨rfl, Nat.le_of_ble_eq_true rfl, rfl, rfl⟩ (Nat.le_of_ble_eq_true rfl) ⟨by decide, by decide⟩ rfl rfl (Nat.le_of_ble_eq_true rfl) (J.mono (fun v_ w_ hp_ => ?_) H)
    obtain ⟨f_5, rfl, rfl, H⟩ := hp_
    refine j_w (w' := (mdW G ad 0 (va_up (va_up (va_up (va_up a 14 f_2) 15 f_3) 16 f_4) 17 f_5) v hh)) rfl ?_
    refine j_aload_n 0 dX7_image_54 rfl rfl ?_
    refine j_get 0 fl_X7_47 dX7_image_55 rfl rfl ?_
    refine j_aload_n 0 dX7_image_58 rfl rfl ?_
    refine j_get 0 fl_X7_65 dX7_image_59 rfl rfl ?_
    refine j_callS (wc := (arW G (pk ad [13, 19]) 0 6 (a 12) ++ (arW G (pk ad [13, 19]) 1 6 (a 18)))) (As := [.ref ((pk ad [13, 19]) 0), .ref ((pk ad [13, 19]) 1)]) (st := []) ml_X7_copy sl_X7_137 dX7_image_62 [none, none, none, none, none, none, none, none, none, none, none, none, none, some 0, none, none, none, none, none, some 1] ⟨rfl, Nat.le_of_ble_eq_true rfl, rfl, rfl⟩ (Nat.le_of_ble_eq_true rfl) ⟨by decide, by decide⟩ rfl rfl (Nat.le_of_ble_eq_true rfl) (J.mono (fun v_ w_ hp_ => ?_) H)
    obtain ⟨f_6, rfl, rfl, H⟩ := hp_
    refine j_w (w' := (mdW G ad 0 (va_up (va_up (va_up (va_up (va_up a 14 f_2) 15 f_3) 16 f_4) 17 f_5) 18 f_6) v hh)) rfl ?_
    refine j_aload_n 0 dX7_image_65 rfl rfl ?_
    refine j_get 0 fl_X7_50 dX7_image_66 rfl rfl ?_
    refine j_aload_n 0 dX7_image_69 rfl rfl ?_
    refine j_get 0 fl_X7_68 dX7_image_70 rfl rfl ?_
    refine j_callS (wc := (arW G (pk ad [14, 20]) 0 48 (a 13) ++ (arW G (pk ad [14, 20]) 1 48 (a 19)))) (As := [.ref ((pk ad [14, 20]) 0), .ref ((pk ad [14, 20]) 1)]) (st := []) ml_X7_copy sl_X7_137 dX7_image_73 [none, none, none, none, none, none, none, none, none, none, none, none, none, none, some 0, none, none, none, none, none, some 1] ⟨rfl, Nat.le_of_ble_eq_true rfl, rfl, rfl⟩ (Nat.le_of_ble_eq_true rfl) ⟨by decide, by decide⟩ rfl rfl (Nat.le_of_ble_eq_true rfl) (J.mono (fun v_ w_ hp_ => ?_) H)
    obtain ⟨f_7, rfl, rfl, H⟩ := hp_
    refine j_w (w' := (mdW G ad 0 (va_up (va_up (va_up (va_up (va_up (va_up a 14 f_2) 15 f_3) 16 f_4) 17 f_5) 18 f_6) 19 f_7) v hh)) rfl ?_
    refine j_aload_n 0 dX7_image_76 rfl rfl ?_
    refine j_aload_n 0 dX7_image_77 rfl rfl ?_
    refine j_get 0 fl_X7_109 dX7_image_78 rfl rfl ?_
    refine j_put (w' := (mdW G ad 0 (va_up (va_up (va_up (va_up (va_up (va_up a 14 f_2) 15 f_3) 16 f_4) 17 f_5) 18 f_6) 19 f_7) (va_up v 8 (v 3)) hh)) 0 fp_X7_205 dX7_image_81 rfl rfl rfl (Nat.le_of_ble_eq_true rfl) rfl ?_
    refine j_aload_n 0 dX7_image_84 rfl rfl ?_
    refine j_aload_n 0 dX7_image_85 rfl rfl ?_
    refine j_get 0 fl_X7_112 dX7_image_86 rfl rfl ?_
    refine j_put (w' := (mdW G ad 0 (va_up (va_up (va_up (va_up (va_up (va_up a 14 f_2) 15 f_3) 16 f_4) 17 f_5) 18 f_6) 19 f_7) (va_up (va_up v 8 (v 3)) 7 (v 2)) hh)) 0 fp_X7_71 dX7_image_89 rfl rfl rfl (Nat.le_of_ble_eq_true rfl) rfl ?_
    refine j_aload_n 0 dX7_image_92 rfl rfl ?_
    refine j_get 0 fl_X7_109 dX7_image_93 rfl rfl ?_
    exact j_iret dX7_image_96 rfl H
  · have H := H.2 c_1
    refine j_bipush (v := (-103)) dX7_image_7 (by decide) ?_
    exact j_iret dX7_image_9 rfl H
set_option maxRecDepth 20000 in
theorem sg_X7_isOrder_0 {G : GG} {ad : Nat → Nat} {a : Nat → Nat → Int32} {v : Nat → Int32} {hh : Int64} {x1 : Int32} {x2 : Int32} {Q : Option Value → va_W → Prop} (H : J G mX7_isOrder 8 [(0, .ref (ad 0)), (1, .int x1), (2, .int x2), (3, .int x1), (4, .int 0), (5, .int 0)] [] (mdW G ad 0 a v hh) Q) : J G mX7_isOrder 0 [(0, .ref (ad 0)), (1, .int x1), (2, .int x2)] [] (mdW G ad 0 a v hh) Q := by
  refine j_iload_n 1 dX7_isOrder_0 rfl rfl ?_
  refine j_istore_n (lo' := [(3, .int x1), (0, .ref (ad 0)), (1, .int x1), (2, .int x2)]) dX7_isOrder_1 rfl (by decide) rfl ?_
  refine j_iconst (v := 0) dX7_isOrder_2 (by decide) ?_
  refine j_istore (lo' := [(4, .int 0), (3, .int x1), (0, .ref (ad 0)), (1, .int x1), (2, .int x2)]) dX7_isOrder_3 (by decide) rfl ?_
  refine j_iconst (v := 0) dX7_isOrder_5 (by decide) ?_
  refine j_istore (lo' := [(5, .int 0), (4, .int 0), (3, .int x1), (0, .ref (ad 0)), (1, .int x1), (2, .int x2)]) dX7_isOrder_6 (by decide) rfl ?_
  refine j_lo [3, 4, 5, 2, 1, 0] rfl ?_
  exact H
set_option maxRecDepth 20000 in
theorem sg_X7_isOrder_8 {G : GG} {ad : Nat → Nat} {a : Nat → Nat → Int32} {v : Nat → Int32} {hh : Int64} {x1 : Int32} {x2 : Int32} {x3 : Int32} {x4 : Int32} {x5 : Int32} {Q : Option Value → va_W → Prop} (H : (((x2 ≤ x5) → (((¬ x4 = (((1 <<< (x2 &&& 31)) : Int32) - 1)) → Q (some (.int 0)) (mdW G ad 0 a v hh)) ∧ ((x4 = (((1 <<< (x2 &&& 31)) : Int32) - 1)) → Q (some (.int 1)) (mdW G ad 0 a v hh)))) ∧ ((¬ x2 ≤ x5) → (¬ x2 = (0 : Int32)) ∧ (vp_in x5 6) ∧ (¬ x2 = (0 : Int32)) ∧ J G mX7_isOrder 8 [(0, .ref (ad 0)), (1, .int x1), (2, .int x2), (3, .int (x3 / x2)), (4, .int (x4 ||| ((1 <<< ((x3 - x3 / x2 * x2) &&& 31)) : Int32))), (5, .int (x5 + 1))] [] (mdW G ad 0 (va_up a 11 (upd (a 11) (Int32.toNatClampNeg x5) (x3 - x3 / x2 * x2))) v hh) Q))) : J G mX7_isOrder 8 [(0, .ref (ad 0)), (1, .int x1), (2, .int x2), (3, .int x3), (4, .int x4), (5, .int x5)] [] (mdW G ad 0 a v hh) Q := by
  refine j_iload 5 dX7_isOrder_8 rfl ?_
  refine j_iload_n 2 dX7_isOrder_10 rfl rfl ?_
  refine j_icmp_ge (tgt := 48) dX7_isOrder_11 (by decide) (fun c_1 => ?_) (fun c_1 => ?_)
  · have H := H.1 c_1
    refine j_iload 4 dX7_isOrder_48 rfl ?_
    refine j_iconst (v := 1) dX7_isOrder_50 (by decide) ?_
    refine j_iload_n 2 dX7_isOrder_51 rfl rfl ?_
    refine j_ishl dX7_isOrder_52 ?_
    refine j_iconst (v := 1) dX7_isOrder_53 (by decide) ?_
    refine j_isub dX7_isOrder_54 ?_
    refine j_icmp_ne (tgt := 62) dX7_isOrder_55 (by decide) (fun c_2 => ?_) (fun c_2 => ?_)
    · have H := H.1 c_2
      refine j_iconst (v := 0) dX7_isOrder_62 (by decide) ?_
      exact j_zret dX7_isOrder_63 rfl (by decide) H
    · have H := H.2 c_2
      refine j_iconst (v := 1) dX7_isOrder_58 (by decide) ?_
      refine j_goto (tgt := 63) dX7_isOrder_59 (by decide) ?_
      exact j_zret dX7_isOrder_63 rfl (by decide) H
  · have H := H.2 c_1
    refine j_aload_n 0 dX7_isOrder_14 rfl rfl ?_
    refine j_get 0 fl_X7_44 dX7_isOrder_15 rfl rfl ?_
    refine j_iload 5 dX7_isOrder_18 rfl ?_
    refine j_iload_n 3 dX7_isOrder_20 rfl rfl ?_
    refine j_iload_n 2 dX7_isOrder_21 rfl rfl ?_
    obtain ⟨h_3, H⟩ := H
    refine j_irem dX7_isOrder_22 h_3 ?_
    obtain ⟨h_4, H⟩ := H
    refine j_iast (w' := (mdW G ad 0 (va_up a 11 (upd (a 11) (Int32.toNatClampNeg x5) (x3 - x3 / x2 * x2))) v hh)) 12 dX7_isOrder_23 rfl h_4 rfl ?_
    refine j_iload 4 dX7_isOrder_24 rfl ?_
    refine j_iconst (v := 1) dX7_isOrder_26 (by decide) ?_
    refine j_aload_n 0 dX7_isOrder_27 rfl rfl ?_
    refine j_get 0 fl_X7_44 dX7_isOrder_28 rfl rfl ?_
    refine j_iload 5 dX7_isOrder_31 rfl ?_
    refine j_iald 12 dX7_isOrder_33 rfl h_4 ?_
    refine j_top pk_us ?_
    refine j_ishl dX7_isOrder_34 ?_
    refine j_ior dX7_isOrder_35 ?_
    refine j_istore (lo' := [(4, .int (x4 ||| ((1 <<< ((x3 - x3 / x2 * x2) &&& 31)) : Int32))), (0, .ref (ad 0)), (1, .int x1), (2, .int x2), (3, .int x3), (5, .int x5)]) dX7_isOrder_36 (by decide) rfl ?_
    refine j_iload_n 4 dX7_isOrder_38 rfl rfl ?_
    refine j_iload_n 3 dX7_isOrder_39 rfl rfl ?_
    obtain ⟨h_5, H⟩ := H
    refine j_idiv dX7_isOrder_40 h_5 ?_
    refine j_istore_n (lo' := [(3, .int (x3 / x2)), (4, .int (x4 ||| ((1 <<< ((x3 - x3 / x2 * x2) &&& 31)) : Int32))), (0, .ref (ad 0)), (1, .int x1), (2, .int x2), (5, .int x5)]) dX7_isOrder_41 rfl (by decide) rfl ?_
    refine j_iinc (v := (x5 + 1)) (lo' := [(5, .int (x5 + 1)), (3, .int (x3 / x2)), (4, .int (x4 ||| ((1 <<< ((x3 - x3 / x2 * x2) &&& 31)) : Int32))), (0, .ref (ad 0)), (1, .int x1), (2, .int x2)]) 5 dX7_isOrder_42 rfl rfl (by decide) rfl ?_
    refine j_goto (tgt := 8) dX7_isOrder_45 (by decide) ?_
    refine j_lo [3, 4, 5, 1, 2, 0] rfl ?_
    exact H
set_option maxRecDepth 20000 in
theorem sg_X7_kindOf_0 {G : GG} {ad : Nat → Nat} {a : Nat → Nat → Int32} {v : Nat → Int32} {hh : Int64} {x1 : Int32} {Q : Option Value → va_W → Prop} (H : J G mX7_isGutter 0 [(0, .ref (ad 0)), (1, .int x1)] [] (mdW G ad 0 a v hh) (fun v_ w_ => ∃ (r_1 : Int32), v_ = some (.int r_1) ∧ w_ = (mdW G ad 0 a v hh) ∧ (((r_1 = 0) → Q (some (.int (-101))) (mdW G ad 0 a v hh)) ∧ ((¬ r_1 = 0) → J G mX7_kindBits 0 [(0, .ref (ad 0)), (1, .int x1)] [] (mdW G ad 0 a v hh) (fun v_ w_ => ∃ (r_4 : Int32) (a_3 : Nat → Nat → Int32), v_ = some (.int r_4) ∧ w_ = (mdW G ad 0 a_3 v hh) ∧ Q (some (.int r_4)) (mdW G ad 0 a_3 v hh)))))) : J G mX7_kindOf 0 [(0, .ref (ad 0)), (1, .int x1)] [] (mdW G ad 0 a v hh) Q := by
  refine j_aload_n 0 dX7_kindOf_0 rfl rfl ?_
  refine j_iload_n 1 dX7_kindOf_1 rfl rfl ?_
  refine j_callV0 (q0 := 0) (As := [.int x1]) (st := []) ml_X7_isGutter vl_X7_119 dX7_kindOf_2 rfl rfl rfl (Nat.le_of_ble_eq_true rfl) ⟨by decide, by decide⟩ rfl rfl (Nat.le_of_ble_eq_true rfl) (J.mono (fun v_ w_ hp_ => ?_) H)
  obtain ⟨r_1, rfl, rfl, H⟩ := hp_
  refine j_if_eq (tgt := 16) dX7_kindOf_5 (by decide) (fun c_2 => ?_) (fun c_2 => ?_)
  · have H := H.1 c_2
    refine j_bipush (v := (-101)) dX7_kindOf_16 (by decide) ?_
    exact j_iret dX7_kindOf_18 rfl H
  · have H := H.2 c_2
    refine j_aload_n 0 dX7_kindOf_8 rfl rfl ?_
    refine j_iload_n 1 dX7_kindOf_9 rfl rfl ?_
    refine j_callV0 (q0 := 0) (As := [.int x1]) (st := []) ml_X7_kindBits vl_X7_184 dX7_kindOf_10 rfl rfl rfl (Nat.le_of_ble_eq_true rfl) ⟨by decide, by decide⟩ rfl rfl (Nat.le_of_ble_eq_true rfl) (J.mono (fun v_ w_ hp_ => ?_) H)
    obtain ⟨r_4, a_3, rfl, rfl, H⟩ := hp_
    refine j_goto (tgt := 18) dX7_kindOf_13 (by decide) ?_
    exact j_iret dX7_kindOf_18 rfl H
set_option maxRecDepth 20000 in
theorem sg_X7_letter_0 {G : GG} {ad : Nat → Nat} {a : Nat → Nat → Int32} {v : Nat → Int32} {hh : Int64} {x1 : Int32} {Q : Option Value → va_W → Prop} (H : J G mX7_in 0 [(0, .long (Int32.toInt64 x1)), (2, .long 1), (4, .long 126)] [] ([] : va_W) (fun v_ w_ => ∃ (r_1 : Int32), v_ = some (.int r_1) ∧ w_ = ([] : va_W) ∧ (((¬ r_1 = 0) → (((¬ (v 0) = 20) → (vp_in (v 0) 20) ∧ Q (some (.int ((v 0) + 1))) (mdW G ad 0 (va_up a 0 (upd (a 0) (Int32.toNatClampNeg (v 0)) x1)) (va_up v 0 ((v 0) + 1)) hh)) ∧ (((v 0) = 20) → Q (some (.int (-104))) (mdW G ad 0 a v hh)))) ∧ ((r_1 = 0) → Q (some (.int (-102))) (mdW G ad 0 a v hh))))) : J G mX7_letter 0 [(0, .ref (ad 0)), (1, .int x1)] [] (mdW G ad 0 a v hh) Q := by
  refine j_iload_n 1 dX7_letter_0 rfl rfl ?_
  refine j_i2l dX7_letter_1 ?_
  refine j_lconst (v := 1) dX7_letter_2 (by decide) ?_
  refine j_ldc2 cl_X7_75 dX7_letter_3 ?_
  refine j_callS0 (As := [.long (Int32.toInt64 x1), .long 1, .long 126]) (st := []) ml_X7_in sl_X7_77 dX7_letter_6 (Nat.le_of_ble_eq_true rfl) ⟨by decide, by decide⟩ rfl rfl (Nat.le_of_ble_eq_true rfl) (J.mono (fun v_ w_ hp_ => ?_) H)
  obtain ⟨r_1, rfl, rfl, H⟩ := hp_
  refine j_if_ne (tgt := 15) dX7_letter_9 (by decide) (fun c_2 => ?_) (fun c_2 => ?_)
  · have H := H.1 c_2
    refine j_aload_n 0 dX7_letter_15 rfl rfl ?_
    refine j_get 0 fl_X7_81 dX7_letter_16 rfl rfl ?_
    refine j_bipush (v := 20) dX7_letter_19 (by decide) ?_
    refine j_icmp_ne (tgt := 27) dX7_letter_21 (by decide) (fun c_3 => ?_) (fun c_3 => ?_)
    · have H := H.1 c_3
      refine j_aload_n 0 dX7_letter_27 rfl rfl ?_
      refine j_get 0 fl_X7_7 dX7_letter_28 rfl rfl ?_
      refine j_aload_n 0 dX7_letter_31 rfl rfl ?_
      refine j_get 0 fl_X7_81 dX7_letter_32 rfl rfl ?_
      refine j_iload_n 1 dX7_letter_35 rfl rfl ?_
      obtain ⟨h_4, H⟩ := H
      refine j_iast (w' := (mdW G ad 0 (va_up a 0 (upd (a 0) (Int32.toNatClampNeg (v 0)) x1)) v hh)) 1 dX7_letter_36 rfl h_4 rfl ?_
      refine j_aload_n 0 dX7_letter_37 rfl rfl ?_
      refine j_dup dX7_letter_38 rfl ?_
      refine j_get 0 fl_X7_81 dX7_letter_39 rfl rfl ?_
      refine j_iconst (v := 1) dX7_letter_42 (by decide) ?_
      refine j_iadd dX7_letter_43 ?_
      refine j_put (w' := (mdW G ad 0 (va_up a 0 (upd (a 0) (Int32.toNatClampNeg (v 0)) x1)) (va_up v 0 ((v 0) + 1)) hh)) 0 fp_X7_81 dX7_letter_44 rfl rfl rfl (Nat.le_of_ble_eq_true rfl) rfl ?_
      refine j_aload_n 0 dX7_letter_47 rfl rfl ?_
      refine j_get 0 fl_X7_81 dX7_letter_48 rfl rfl ?_
      exact j_iret dX7_letter_51 rfl H
    · have H := H.2 c_3
      refine j_bipush (v := (-104)) dX7_letter_24 (by decide) ?_
      exact j_iret dX7_letter_26 rfl H
  · have H := H.2 c_2
    refine j_bipush (v := (-102)) dX7_letter_12 (by decide) ?_
    exact j_iret dX7_letter_14 rfl H
set_option maxRecDepth 20000 in
theorem sg_X7_letterOf_0 {G : GG} {ad : Nat → Nat} {a : Nat → Nat → Int32} {v : Nat → Int32} {hh : Int64} {x1 : Int32} {Q : Option Value → va_W → Prop} (H : J G mX7_in 0 [(0, .long (Int32.toInt64 x1)), (2, .long 0), (4, .long (Int32.toInt64 ((v 3) - 1)))] [] ([] : va_W) (fun v_ w_ => ∃ (r_1 : Int32), v_ = some (.int r_1) ∧ w_ = ([] : va_W) ∧ (((r_1 = 0) → Q (some (.int (-101))) (mdW G ad 0 a v hh)) ∧ ((¬ r_1 = 0) → J G mX7_letterBits 0 [(0, .ref (ad 0)), (1, .int x1)] [] (mdW G ad 0 a v hh) (fun v_ w_ => ∃ (r_4 : Int32) (a_3 : Nat → Nat → Int32), v_ = some (.int r_4) ∧ w_ = (mdW G ad 0 a_3 v hh) ∧ Q (some (.int r_4)) (mdW G ad 0 a_3 v hh)))))) : J G mX7_letterOf 0 [(0, .ref (ad 0)), (1, .int x1)] [] (mdW G ad 0 a v hh) Q := by
  refine j_iload_n 1 dX7_letterOf_0 rfl rfl ?_
  refine j_i2l dX7_letterOf_1 ?_
  refine j_lconst (v := 0) dX7_letterOf_2 (by decide) ?_
  refine j_aload_n 0 dX7_letterOf_3 rfl rfl ?_
  refine j_get 0 fl_X7_109 dX7_letterOf_4 rfl rfl ?_
  refine j_iconst (v := 1) dX7_letterOf_7 (by decide) ?_
  refine j_isub dX7_letterOf_8 ?_
  refine j_i2l dX7_letterOf_9 ?_
  refine j_callS0 (As := [.long (Int32.toInt64 x1), .long 0, .long (Int32.toInt64 ((v 3) - 1))]) (st := []) ml_X7_in sl_X7_77 dX7_letterOf_10 (Nat.le_of_ble_eq_true rfl) ⟨by decide, by decide⟩ rfl rfl (Nat.le_of_ble_eq_true rfl) (J.mono (fun v_ w_ hp_ => ?_) H)
  obtain ⟨r_1, rfl, rfl, H⟩ := hp_
  refine j_if_eq (tgt := 24) dX7_letterOf_13 (by decide) (fun c_2 => ?_) (fun c_2 => ?_)
  · have H := H.1 c_2
    refine j_bipush (v := (-101)) dX7_letterOf_24 (by decide) ?_
    exact j_iret dX7_letterOf_26 rfl H
  · have H := H.2 c_2
    refine j_aload_n 0 dX7_letterOf_16 rfl rfl ?_
    refine j_iload_n 1 dX7_letterOf_17 rfl rfl ?_
    refine j_callV0 (q0 := 0) (As := [.int x1]) (st := []) ml_X7_letterBits vl_X7_187 dX7_letterOf_18 rfl rfl rfl (Nat.le_of_ble_eq_true rfl) ⟨by decide, by decide⟩ rfl rfl (Nat.le_of_ble_eq_true rfl) (J.mono (fun v_ w_ hp_ => ?_) H)
    obtain ⟨r_4, a_3, rfl, rfl, H⟩ := hp_
    refine j_goto (tgt := 26) dX7_letterOf_21 (by decide) ?_
    exact j_iret dX7_letterOf_26 rfl H
set_option maxRecDepth 20000 in
theorem sg_X7_mornings_0 {G : GG} {ad : Nat → Nat} {a : Nat → Nat → Int32} {v : Nat → Int32} {hh : Int64} {x1 : Int32} {x2 : Int32} {x3 : Int32} {Q : Option Value → va_W → Prop} (H : J G mX7_in 0 [(0, .long (Int32.toInt64 x1)), (2, .long 1), (4, .long 40)] [] ([] : va_W) (fun v_ w_ => ∃ (r_1 : Int32), v_ = some (.int r_1) ∧ w_ = ([] : va_W) ∧ (((r_1 = 0) → Q (some (.int (-102))) (mdW G ad 0 a v hh)) ∧ ((¬ r_1 = 0) → (((x2 < 0) → Q (some (.int (-102))) (mdW G ad 0 a v hh)) ∧ ((¬ x2 < 0) → J G mX7_in 0 [(0, .long (Int32.toInt64 x3)), (2, .long 0), (4, .long 1)] [] ([] : va_W) (fun v_ w_ => ∃ (r_4 : Int32), v_ = some (.int r_4) ∧ w_ = ([] : va_W) ∧ (((¬ r_4 = 0) → (((¬ (v 1) = 0) → J G mX7_mornings 50 [(0, .ref (ad 0)), (1, .int x1), (2, .int x2), (3, .int x3), (4, .int 0), (5, .int 0)] [] (mdW G ad 0 a (va_up v 6 x2) hh) Q) ∧ (((v 1) = 0) → Q (some (.int (-103))) (mdW G ad 0 a v hh)))) ∧ ((r_4 = 0) → Q (some (.int (-102))) (mdW G ad 0 a v hh)))))))))) : J G mX7_mornings 0 [(0, .ref (ad 0)), (1, .int x1), (2, .int x2), (3, .int x3)] [] (mdW G ad 0 a v hh) Q := by
  refine j_iload_n 1 dX7_mornings_0 rfl rfl ?_
  refine j_i2l dX7_mornings_1 ?_
  refine j_lconst (v := 1) dX7_mornings_2 (by decide) ?_
  refine j_ldc2 cl_X7_200 dX7_mornings_3 ?_
  refine j_callS0 (As := [.long (Int32.toInt64 x1), .long 1, .long 40]) (st := []) ml_X7_in sl_X7_77 dX7_mornings_6 (Nat.le_of_ble_eq_true rfl) ⟨by decide, by decide⟩ rfl rfl (Nat.le_of_ble_eq_true rfl) (J.mono (fun v_ w_ hp_ => ?_) H)
  obtain ⟨r_1, rfl, rfl, H⟩ := hp_
  refine j_if_eq (tgt := 26) dX7_mornings_9 (by decide) (fun c_2 => ?_) (fun c_2 => ?_)
  · have H := H.1 c_2
    refine j_bipush (v := (-102)) dX7_mornings_26 (by decide) ?_
    exact j_iret dX7_mornings_28 rfl H
  · have H := H.2 c_2
    refine j_iload_n 2 dX7_mornings_12 rfl rfl ?_
    refine j_if_lt (tgt := 26) dX7_mornings_13 (by decide) (fun c_3 => ?_) (fun c_3 => ?_)
    · have H := H.1 c_3
      refine j_bipush (v := (-102)) dX7_mornings_26 (by decide) ?_
      exact j_iret dX7_mornings_28 rfl H
    · have H := H.2 c_3
      refine j_iload_n 3 dX7_mornings_16 rfl rfl ?_
      refine j_i2l dX7_mornings_17 ?_
      refine j_lconst (v := 0) dX7_mornings_18 (by decide) ?_
      refine j_lconst (v := 1) dX7_mornings_19 (by decide) ?_
      refine j_callS0 (As := [.long (Int32.toInt64 x3), .long 0, .long 1]) (st := []) ml_X7_in sl_X7_77 dX7_mornings_20 (Nat.le_of_ble_eq_true rfl) ⟨by decide, by decide⟩ rfl rfl (Nat.le_of_ble_eq_true rfl) (J.mono (fun v_ w_ hp_ => ?_) H)
      obtain ⟨r_4, rfl, rfl, H⟩ := hp_
      refine j_if_ne (tgt := 29) dX7_mornings_23 (by decide) (fun c_5 => ?_) (fun c_5 => ?_)
      · have H := H.1 c_5
        refine j_aload_n 0 dX7_mornings_29 rfl rfl ?_
        refine j_get 0 fl_X7_101 dX7_mornings_30 rfl rfl ?_
        refine j_if_ne (tgt := 39) dX7_mornings_33 (by decide) (fun c_6 => ?_) (fun c_6 => ?_)
        · have H := H.1 c_6
          refine j_aload_n 0 dX7_mornings_39 rfl rfl ?_
          refine j_iload_n 2 dX7_mornings_40 rfl rfl ?_
          refine j_put (w' := (mdW G ad 0 a (va_up v 6 x2) hh)) 0 fp_X7_192 dX7_mornings_41 rfl rfl rfl (Nat.le_of_ble_eq_true rfl) rfl ?_
          refine j_iconst (v := 0) dX7_mornings_44 (by decide) ?_
          refine j_istore (lo' := [(4, .int 0), (0, .ref (ad 0)), (1, .int x1), (2, .int x2), (3, .int x3)]) dX7_mornings_45 (by decide) rfl ?_
          refine j_iconst (v := 0) dX7_mornings_47 (by decide) ?_
          refine j_istore (lo' := [(5, .int 0), (4, .int 0), (0, .ref (ad 0)), (1, .int x1), (2, .int x2), (3, .int x3)]) dX7_mornings_48 (by decide) rfl ?_
          refine j_lo [2, 3, 4, 5, 1, 0] rfl ?_
          exact H
        · have H := H.2 c_6
          refine j_bipush (v := (-103)) dX7_mornings_36 (by decide) ?_
          exact j_iret dX7_mornings_38 rfl H
      · have H := H.2 c_5
        refine j_bipush (v := (-102)) dX7_mornings_26 (by decide) ?_
        exact j_iret dX7_mornings_28 rfl H
set_option maxRecDepth 20000 in
theorem sg_X7_mornings_50 {G : GG} {ad : Nat → Nat} {a : Nat → Nat → Int32} {v : Nat → Int32} {hh : Int64} {x1 : Int32} {x2 : Int32} {x3 : Int32} {x4 : Int32} {x5 : Int32} {Q : Option Value → va_W → Prop} (H : (((x1 ≤ x5) → (((¬ x3 = 0) → Q (some (.int (v 6))) (mdW G ad 0 a v hh)) ∧ ((x3 = 0) → Q (some (.int x4)) (mdW G ad 0 a v hh)))) ∧ ((¬ x1 ≤ x5) → J G mX7_dryRows 0 [(0, .ref ((pk ad [7]) 0))] [] (arW G (pk ad [7]) 0 102 (a 6)) (fun v_ w_ => ∃ (f_3 : Nat → Int32), v_ = none ∧ w_ = (arW G (pk ad [7]) 0 102 f_3) ∧ J G mX7_mornings 66 [(0, .ref (ad 0)), (1, .int x1), (2, .int x2), (3, .int x3), (4, .int x4), (5, .int x5), (6, .int 0)] [] (mdW G ad 0 (va_up a 6 f_3) v hh) Q)))) : J G mX7_mornings 50 [(0, .ref (ad 0)), (1, .int x1), (2, .int x2), (3, .int x3), (4, .int x4), (5, .int x5)] [] (mdW G ad 0 a v hh) Q := by
  refine j_iload 5 dX7_mornings_50 rfl ?_
  refine j_iload_n 1 dX7_mornings_52 rfl rfl ?_
  refine j_icmp_ge (tgt := 132) dX7_mornings_53 (by decide) (fun c_1 => ?_) (fun c_1 => ?_)
  · have H := H.1 c_1
    refine j_iload_n 3 dX7_mornings_132 rfl rfl ?_
    refine j_if_ne (tgt := 141) dX7_mornings_133 (by decide) (fun c_2 => ?_) (fun c_2 => ?_)
    · have H := H.1 c_2
      refine j_aload_n 0 dX7_mornings_141 rfl rfl ?_
      refine j_get 0 fl_X7_192 dX7_mornings_142 rfl rfl ?_
      exact j_iret dX7_mornings_145 rfl H
    · have H := H.2 c_2
      refine j_iload 4 dX7_mornings_136 rfl ?_
      refine j_goto (tgt := 145) dX7_mornings_138 (by decide) ?_
      exact j_iret dX7_mornings_145 rfl H
  · have H := H.2 c_1
    refine j_aload_n 0 dX7_mornings_56 rfl rfl ?_
    refine j_get 0 fl_X7_28 dX7_mornings_57 rfl rfl ?_
    refine j_callS (wc := (arW G (pk ad [7]) 0 102 (a 6))) (As := [.ref ((pk ad [7]) 0)]) (st := []) ml_X7_dryRows sl_X7_105 dX7_mornings_60 [none, none, none, none, none, none, none, some 0] ⟨rfl, Nat.le_of_ble_eq_true rfl, rfl, rfl⟩ (Nat.le_of_ble_eq_true rfl) ⟨by decide, by decide⟩ rfl rfl (Nat.le_of_ble_eq_true rfl) (J.mono (fun v_ w_ hp_ => ?_) H)
    obtain ⟨f_3, rfl, rfl, H⟩ := hp_
    refine j_w (w' := (mdW G ad 0 (va_up a 6 f_3) v hh)) rfl ?_
    refine j_iconst (v := 0) dX7_mornings_63 (by decide) ?_
    refine j_istore (lo' := [(6, .int 0), (0, .ref (ad 0)), (1, .int x1), (2, .int x2), (3, .int x3), (4, .int x4), (5, .int x5)]) dX7_mornings_64 (by decide) rfl ?_
    refine j_lo [1, 2, 3, 4, 5, 6, 0] rfl ?_
    exact H
set_option maxRecDepth 20000 in
theorem sg_X7_mornings_66 {G : GG} {ad : Nat → Nat} {a : Nat → Nat → Int32} {v : Nat → Int32} {hh : Int64} {x1 : Int32} {x2 : Int32} {x3 : Int32} {x4 : Int32} {x5 : Int32} {x6 : Int32} {Q : Option Value → va_W → Prop} (H : (((5 ≤ x6) → J G mX7_outOf 0 [(0, .ref ((pk ad [7]) 0))] [] (arW G (pk ad [7]) 0 102 (a 6)) (fun v_ w_ => ∃ (r_2 : Int32), v_ = some (.int r_2) ∧ w_ = (arW G (pk ad [7]) 0 102 (a 6)) ∧ J G mX7_mornings 50 [(0, .ref (ad 0)), (1, .int x1), (2, .int x2), (3, .int x3), (4, .int (x4 + r_2)), (5, .int (x5 + 1))] [] (mdW G ad 0 a v hh) Q)) ∧ ((¬ 5 ≤ x6) → J G mX7_draw 0 [(0, .ref (ad 0)), (1, .int 6)] [] (mdW G ad 0 a v hh) (fun v_ w_ => ∃ (r_4 : Int32) (v_3 : Nat → Int32), v_ = some (.int r_4) ∧ w_ = (mdW G ad 0 a v_3 hh) ∧ J G mX7_draw 0 [(0, .ref (ad 0)), (1, .int 5)] [] (mdW G ad 0 a v_3 hh) (fun v_ w_ => ∃ (r_6 : Int32) (v_5 : Nat → Int32), v_ = some (.int r_6) ∧ w_ = (mdW G ad 0 a v_5 hh) ∧ J G mX7_runs 0 [(0, .ref ((pk ad [7, 2, 3]) 0)), (1, .ref ((pk ad [7, 2, 3]) 1)), (2, .ref ((pk ad [7, 2, 3]) 2)), (3, .int r_4), (4, .int r_6)] [] (arW G (pk ad [7, 2, 3]) 0 102 (a 6) ++ (arW G (pk ad [7, 2, 3]) 1 6 (a 1) ++ (arW G (pk ad [7, 2, 3]) 2 6 (a 2)))) (fun v_ w_ => ∃ (r_8 : Int32) (f_7 : Nat → Int32), v_ = some (.int r_8) ∧ w_ = (arW G (pk ad [7, 2, 3]) 0 102 f_7 ++ (arW G (pk ad [7, 2, 3]) 1 6 (a 1) ++ (arW G (pk ad [7, 2, 3]) 2 6 (a 2)))) ∧ J G mX7_mornings 66 [(0, .ref (ad 0)), (1, .int x1), (2, .int x2), (3, .int x3), (4, .int x4), (5, .int x5), (6, .int (x6 + 1))] [] (mdW G ad 0 (va_up a 6 f_7) v_5 hh) Q)))))) : J G mX7_mornings 66 [(0, .ref (ad 0)), (1, .int x1), (2, .int x2), (3, .int x3), (4, .int x4), (5, .int x5), (6, .int x6)] [] (mdW G ad 0 a v hh) Q := by
  refine j_iload 6 dX7_mornings_66 rfl ?_
  refine j_iconst (v := 5) dX7_mornings_68 (by decide) ?_
  refine j_icmp_ge (tgt := 114) dX7_mornings_69 (by decide) (fun c_1 => ?_) (fun c_1 => ?_)
  · have H := H.1 c_1
    refine j_iload 4 dX7_mornings_114 rfl ?_
    refine j_aload_n 0 dX7_mornings_116 rfl rfl ?_
    refine j_get 0 fl_X7_28 dX7_mornings_117 rfl rfl ?_
    refine j_callS (wc := (arW G (pk ad [7]) 0 102 (a 6))) (As := [.ref ((pk ad [7]) 0)]) (st := [.int x4]) ml_X7_outOf sl_X7_174 dX7_mornings_120 [none, none, none, none, none, none, none, some 0] ⟨rfl, Nat.le_of_ble_eq_true rfl, rfl, rfl⟩ (Nat.le_of_ble_eq_true rfl) ⟨by decide, by decide⟩ rfl rfl (Nat.le_of_ble_eq_true rfl) (J.mono (fun v_ w_ hp_ => ?_) H)
    obtain ⟨r_2, rfl, rfl, H⟩ := hp_
    refine j_w (w' := (mdW G ad 0 a v hh)) rfl ?_
    refine j_iadd dX7_mornings_123 ?_
    refine j_istore (lo' := [(4, .int (x4 + r_2)), (0, .ref (ad 0)), (1, .int x1), (2, .int x2), (3, .int x3), (5, .int x5), (6, .int x6)]) dX7_mornings_124 (by decide) rfl ?_
    refine j_iinc (v := (x5 + 1)) (lo' := [(5, .int (x5 + 1)), (4, .int (x4 + r_2)), (0, .ref (ad 0)), (1, .int x1), (2, .int x2), (3, .int x3), (6, .int x6)]) 5 dX7_mornings_126 rfl rfl (by decide) rfl ?_
    refine j_goto (tgt := 50) dX7_mornings_129 (by decide) ?_
    refine j_lo [2, 3, 4, 5, 1, 0] rfl ?_
    exact H
  · have H := H.2 c_1
    refine j_aload_n 0 dX7_mornings_72 rfl rfl ?_
    refine j_bipush (v := 6) dX7_mornings_73 (by decide) ?_
    refine j_callV0 (q0 := 0) (As := [.int 6]) (st := []) ml_X7_draw vl_X7_202 dX7_mornings_75 rfl rfl rfl (Nat.le_of_ble_eq_true rfl) ⟨by decide, by decide⟩ rfl rfl (Nat.le_of_ble_eq_true rfl) (J.mono (fun v_ w_ hp_ => ?_) H)
    obtain ⟨r_4, v_3, rfl, rfl, H⟩ := hp_
    refine j_istore (lo' := [(7, .int r_4), (0, .ref (ad 0)), (1, .int x1), (2, .int x2), (3, .int x3), (4, .int x4), (5, .int x5), (6, .int x6)]) dX7_mornings_78 (by decide) rfl ?_
    refine j_aload_n 1 dX7_mornings_80 rfl rfl ?_
    refine j_iconst (v := 5) dX7_mornings_81 (by decide) ?_
    refine j_callV0 (q0 := 0) (As := [.int 5]) (st := []) ml_X7_draw vl_X7_202 dX7_mornings_82 rfl rfl rfl (Nat.le_of_ble_eq_true rfl) ⟨by decide, by decide⟩ rfl rfl (Nat.le_of_ble_eq_true rfl) (J.mono (fun v_ w_ hp_ => ?_) H)
    obtain ⟨r_6, v_5, rfl, rfl, H⟩ := hp_
    refine j_istore (lo' := [(8, .int r_6), (7, .int r_4), (0, .ref (ad 0)), (1, .int x1), (2, .int x2), (3, .int x3), (4, .int x4), (5, .int x5), (6, .int x6)]) dX7_mornings_85 (by decide) rfl ?_
    refine j_aload_n 2 dX7_mornings_87 rfl rfl ?_
    refine j_get 0 fl_X7_28 dX7_mornings_88 rfl rfl ?_
    refine j_aload_n 2 dX7_mornings_91 rfl rfl ?_
    refine j_get 0 fl_X7_13 dX7_mornings_92 rfl rfl ?_
    refine j_aload_n 2 dX7_mornings_95 rfl rfl ?_
    refine j_get 0 fl_X7_16 dX7_mornings_96 rfl rfl ?_
    refine j_iload 1 dX7_mornings_99 rfl ?_
    refine j_iload 0 dX7_mornings_101 rfl ?_
    refine j_callS (wc := (arW G (pk ad [7, 2, 3]) 0 102 (a 6) ++ (arW G (pk ad [7, 2, 3]) 1 6 (a 1) ++ (arW G (pk ad [7, 2, 3]) 2 6 (a 2))))) (As := [.ref ((pk ad [7, 2, 3]) 0), .ref ((pk ad [7, 2, 3]) 1), .ref ((pk ad [7, 2, 3]) 2), .int r_4, .int r_6]) (st := []) ml_X7_runs sl_X7_133 dX7_mornings_103 [none, none, some 1, some 2, none, none, none, some 0] ⟨rfl, Nat.le_of_ble_eq_true rfl, rfl, rfl⟩ (Nat.le_of_ble_eq_true rfl) ⟨by decide, by decide⟩ rfl rfl (Nat.le_of_ble_eq_true rfl) (J.mono (fun v_ w_ hp_ => ?_) H)
    obtain ⟨r_8, f_7, rfl, rfl, H⟩ := hp_
    refine j_w (w' := (mdW G ad 0 (va_up a 6 f_7) v_5 hh)) rfl ?_
    refine j_istore (lo' := [(9, .int r_8), (8, .int r_6), (7, .int r_4), (0, .ref (ad 0)), (1, .int x1), (2, .int x2), (3, .int x3), (4, .int x4), (5, .int x5), (6, .int x6)]) dX7_mornings_106 (by decide) rfl ?_
    refine j_iinc (v := (x6 + 1)) (lo' := [(6, .int (x6 + 1)), (9, .int r_8), (8, .int r_6), (7, .int r_4), (0, .ref (ad 0)), (1, .int x1), (2, .int x2), (3, .int x3), (4, .int x4), (5, .int x5)]) 9 dX7_mornings_108 rfl rfl (by decide) rfl ?_
    refine j_goto (tgt := 66) dX7_mornings_111 (by decide) ?_
    refine j_lo [4, 5, 6, 7, 8, 9, 0] rfl ?_
    exact H
set_option maxRecDepth 20000 in
theorem sg_X7_wordOf_0 {G : GG} {ad : Nat → Nat} {a : Nat → Nat → Int32} {v : Nat → Int32} {hh : Int64} {x1 : Int32} {Q : Option Value → va_W → Prop} (H : J G mX7_wordOf 4 [(0, .ref (ad 0)), (1, .int x1), (2, .int 0), (3, .int 0)] [] (mdW G ad 0 a v hh) Q) : J G mX7_wordOf 0 [(0, .ref (ad 0)), (1, .int x1)] [] (mdW G ad 0 a v hh) Q := by
  refine j_iconst (v := 0) dX7_wordOf_0 (by decide) ?_
  refine j_istore_n (lo' := [(2, .int 0), (0, .ref (ad 0)), (1, .int x1)]) dX7_wordOf_1 rfl (by decide) rfl ?_
  refine j_iconst (v := 0) dX7_wordOf_2 (by decide) ?_
  refine j_istore_n (lo' := [(3, .int 0), (2, .int 0), (0, .ref (ad 0)), (1, .int x1)]) dX7_wordOf_3 rfl (by decide) rfl ?_
  refine j_lo [2, 3, 1, 0] rfl ?_
  exact H
set_option maxRecDepth 20000 in
theorem sg_X7_wordOf_4 {G : GG} {ad : Nat → Nat} {a : Nat → Nat → Int32} {v : Nat → Int32} {hh : Int64} {x1 : Int32} {x2 : Int32} {x3 : Int32} {Q : Option Value → va_W → Prop} (H : (vp_in ((17 * x1) + 4) 102) ∧ (((((a 6) (Int32.toNatClampNeg ((17 * x1) + 4))) ≤ x3) → Q (some (.int x2)) (mdW G ad 0 a v hh)) ∧ ((¬ ((a 6) (Int32.toNatClampNeg ((17 * x1) + 4))) ≤ x3) → (vp_in (((17 * x1) + 5) + x3) 102) ∧ J G mX7_wordOf 4 [(0, .ref (ad 0)), (1, .int x1), (2, .int (((6 * x2) + ((a 6) (Int32.toNatClampNeg (((17 * x1) + 5) + x3)))) + 1)), (3, .int (x3 + 1))] [] (mdW G ad 0 a v hh) Q))) : J G mX7_wordOf 4 [(0, .ref (ad 0)), (1, .int x1), (2, .int x2), (3, .int x3)] [] (mdW G ad 0 a v hh) Q := by
  refine j_iload_n 3 dX7_wordOf_4 rfl rfl ?_
  refine j_aload_n 0 dX7_wordOf_5 rfl rfl ?_
  refine j_get 0 fl_X7_28 dX7_wordOf_6 rfl rfl ?_
  refine j_bipush (v := 17) dX7_wordOf_9 (by decide) ?_
  refine j_iload_n 1 dX7_wordOf_11 rfl rfl ?_
  refine j_imul dX7_wordOf_12 ?_
  refine j_iconst (v := 4) dX7_wordOf_13 (by decide) ?_
  refine j_iadd dX7_wordOf_14 ?_
  obtain ⟨h_1, H⟩ := H
  refine j_iald 7 dX7_wordOf_15 rfl h_1 ?_
  refine j_icmp_ge (tgt := 46) dX7_wordOf_16 (by decide) (fun c_2 => ?_) (fun c_2 => ?_)
  · have H := H.1 c_2
    refine j_iload_n 2 dX7_wordOf_46 rfl rfl ?_
    exact j_iret dX7_wordOf_47 rfl H
  · have H := H.2 c_2
    refine j_bipush (v := 6) dX7_wordOf_19 (by decide) ?_
    refine j_iload_n 2 dX7_wordOf_21 rfl rfl ?_
    refine j_imul dX7_wordOf_22 ?_
    refine j_aload_n 0 dX7_wordOf_23 rfl rfl ?_
    refine j_get 0 fl_X7_28 dX7_wordOf_24 rfl rfl ?_
    refine j_bipush (v := 17) dX7_wordOf_27 (by decide) ?_
    refine j_iload_n 1 dX7_wordOf_29 rfl rfl ?_
    refine j_imul dX7_wordOf_30 ?_
    refine j_iconst (v := 5) dX7_wordOf_31 (by decide) ?_
    refine j_iadd dX7_wordOf_32 ?_
    refine j_iload_n 3 dX7_wordOf_33 rfl rfl ?_
    refine j_iadd dX7_wordOf_34 ?_
    obtain ⟨h_3, H⟩ := H
    refine j_iald 7 dX7_wordOf_35 rfl h_3 ?_
    refine j_iadd dX7_wordOf_36 ?_
    refine j_iconst (v := 1) dX7_wordOf_37 (by decide) ?_
    refine j_iadd dX7_wordOf_38 ?_
    refine j_istore_n (lo' := [(2, .int (((6 * x2) + ((a 6) (Int32.toNatClampNeg (((17 * x1) + 5) + x3)))) + 1)), (0, .ref (ad 0)), (1, .int x1), (3, .int x3)]) dX7_wordOf_39 rfl (by decide) rfl ?_
    refine j_iinc (v := (x3 + 1)) (lo' := [(3, .int (x3 + 1)), (2, .int (((6 * x2) + ((a 6) (Int32.toNatClampNeg (((17 * x1) + 5) + x3)))) + 1)), (0, .ref (ad 0)), (1, .int x1)]) 3 dX7_wordOf_40 rfl rfl (by decide) rfl ?_
    refine j_goto (tgt := 4) dX7_wordOf_43 (by decide) ?_
    refine j_lo [2, 3, 1, 0] rfl ?_
    exact H
set_option maxRecDepth 20000 in
theorem sg_X7_orders_0 {G : GG} {ad : Nat → Nat} {a : Nat → Nat → Int32} {v : Nat → Int32} {hh : Int64} {x1 : Int32} {Q : Option Value → va_W → Prop} (H : J G mX7_isGutter 0 [(0, .ref (ad 0)), (1, .int x1)] [] (mdW G ad 0 a v hh) (fun v_ w_ => ∃ (r_1 : Int32), v_ = some (.int r_1) ∧ w_ = (mdW G ad 0 a v hh) ∧ (((¬ r_1 = 0) → (vp_in x1 6) ∧ (((¬ ((a 2) (Int32.toNatClampNeg x1)) = (-1)) → Q (some (.int (-103))) (mdW G ad 0 a v hh)) ∧ ((((a 2) (Int32.toNatClampNeg x1)) = (-1)) → (((¬ (v 5) = 20) → J G mX7_asItIs 0 [(0, .ref (ad 0))] [] (mdW G ad 0 a (va_up v 5 ((v 5) + 1)) hh) (fun v_ w_ => ∃ (a_6 : Nat → Nat → Int32), v_ = none ∧ w_ = (mdW G ad 0 a_6 (va_up v 5 ((v 5) + 1)) hh) ∧ J G mX7_orders 49 [(0, .ref (ad 0)), (1, .int x1), (2, .int 0)] [] (mdW G ad 0 a_6 (va_up v 5 ((v 5) + 1)) hh) Q)) ∧ (((v 5) = 20) → Q (some (.int (-103))) (mdW G ad 0 a v hh)))))) ∧ ((r_1 = 0) → Q (some (.int (-101))) (mdW G ad 0 a v hh))))) : J G mX7_orders 0 [(0, .ref (ad 0)), (1, .int x1)] [] (mdW G ad 0 a v hh) Q := by
  refine j_aload_n 0 dX7_orders_0 rfl rfl ?_
  refine j_iload_n 1 dX7_orders_1 rfl rfl ?_
  refine j_callV0 (q0 := 0) (As := [.int x1]) (st := []) ml_X7_isGutter vl_X7_119 dX7_orders_2 rfl rfl rfl (Nat.le_of_ble_eq_true rfl) ⟨by decide, by decide⟩ rfl rfl (Nat.le_of_ble_eq_true rfl) (J.mono (fun v_ w_ hp_ => ?_) H)
  obtain ⟨r_1, rfl, rfl, H⟩ := hp_
  refine j_if_ne (tgt := 11) dX7_orders_5 (by decide) (fun c_2 => ?_) (fun c_2 => ?_)
  · have H := H.1 c_2
    refine j_aload_n 0 dX7_orders_11 rfl rfl ?_
    refine j_get 0 fl_X7_16 dX7_orders_12 rfl rfl ?_
    refine j_iload_n 1 dX7_orders_15 rfl rfl ?_
    obtain ⟨h_3, H⟩ := H
    refine j_iald 3 dX7_orders_16 rfl h_3 ?_
    refine j_iconst (v := (-1)) dX7_orders_17 (by decide) ?_
    refine j_icmp_ne (tgt := 30) dX7_orders_18 (by decide) (fun c_4 => ?_) (fun c_4 => ?_)
    · have H := H.1 c_4
      refine j_bipush (v := (-103)) dX7_orders_30 (by decide) ?_
      exact j_iret dX7_orders_32 rfl H
    · have H := H.2 c_4
      refine j_aload_n 0 dX7_orders_21 rfl rfl ?_
      refine j_get 0 fl_X7_165 dX7_orders_22 rfl rfl ?_
      refine j_bipush (v := 20) dX7_orders_25 (by decide) ?_
      refine j_icmp_ne (tgt := 33) dX7_orders_27 (by decide) (fun c_5 => ?_) (fun c_5 => ?_)
      · have H := H.1 c_5
        refine j_aload_n 0 dX7_orders_33 rfl rfl ?_
        refine j_dup dX7_orders_34 rfl ?_
        refine j_get 0 fl_X7_165 dX7_orders_35 rfl rfl ?_
        refine j_iconst (v := 1) dX7_orders_38 (by decide) ?_
        refine j_iadd dX7_orders_39 ?_
        refine j_put (w' := (mdW G ad 0 a (va_up v 5 ((v 5) + 1)) hh)) 0 fp_X7_165 dX7_orders_40 rfl rfl rfl (Nat.le_of_ble_eq_true rfl) rfl ?_
        refine j_aload_n 0 dX7_orders_43 rfl rfl ?_
        refine j_callV0 (q0 := 0) (As := []) (st := []) ml_X7_asItIs vl_X7_150 dX7_orders_44 rfl rfl rfl (Nat.le_of_ble_eq_true rfl) ⟨by decide, by decide⟩ rfl rfl (Nat.le_of_ble_eq_true rfl) (J.mono (fun v_ w_ hp_ => ?_) H)
        obtain ⟨a_6, rfl, rfl, H⟩ := hp_
        refine j_iconst (v := 0) dX7_orders_47 (by decide) ?_
        refine j_istore_n (lo' := [(2, .int 0), (0, .ref (ad 0)), (1, .int x1)]) dX7_orders_48 rfl (by decide) rfl ?_
        refine j_lo [1, 2, 0] rfl ?_
        exact H
      · have H := H.2 c_5
        refine j_bipush (v := (-103)) dX7_orders_30 (by decide) ?_
        exact j_iret dX7_orders_32 rfl H
  · have H := H.2 c_2
    refine j_bipush (v := (-101)) dX7_orders_8 (by decide) ?_
    exact j_iret dX7_orders_10 rfl H
set_option maxRecDepth 20000 in
theorem sg_X7_orders_49 {G : GG} {ad : Nat → Nat} {a : Nat → Nat → Int32} {v : Nat → Int32} {hh : Int64} {x1 : Int32} {x2 : Int32} {Q : Option Value → va_W → Prop} (H : (((55987 ≤ x2) → (((6 ≤ (v 3)) → J G mX7_orders 92 [(0, .ref (ad 0)), (1, .int x1), (2, .int 6), (3, .int 1), (4, .int 0)] [] (mdW G ad 0 a v hh) Q) ∧ ((¬ 6 ≤ (v 3)) → J G mX7_orders 92 [(0, .ref (ad 0)), (1, .int x1), (2, .int (v 3)), (3, .int 1), (4, .int 0)] [] (mdW G ad 0 a v hh) Q))) ∧ ((¬ 55987 ≤ x2) → (vp_in x2 55987) ∧ J G mX7_orders 49 [(0, .ref (ad 0)), (1, .int x1), (2, .int (x2 + 1))] [] (mdW G ad 0 (va_up a 10 (upd (a 10) (Int32.toNatClampNeg x2) 0)) v hh) Q))) : J G mX7_orders 49 [(0, .ref (ad 0)), (1, .int x1), (2, .int x2)] [] (mdW G ad 0 a v hh) Q := by
  refine j_iload_n 2 dX7_orders_49 rfl rfl ?_
  refine j_ldc ck_X7_40 dX7_orders_50 ?_
  refine j_icmp_ge (tgt := 68) dX7_orders_52 (by decide) (fun c_1 => ?_) (fun c_1 => ?_)
  · have H := H.1 c_1
    refine j_aload_n 0 dX7_orders_68 rfl rfl ?_
    refine j_get 0 fl_X7_109 dX7_orders_69 rfl rfl ?_
    refine j_bipush (v := 6) dX7_orders_72 (by decide) ?_
    refine j_icmp_ge (tgt := 84) dX7_orders_74 (by decide) (fun c_2 => ?_) (fun c_2 => ?_)
    · have H := H.1 c_2
      refine j_bipush (v := 6) dX7_orders_84 (by decide) ?_
      refine j_istore_n (lo' := [(2, .int 6), (0, .ref (ad 0)), (1, .int x1)]) dX7_orders_86 rfl (by decide) rfl ?_
      refine j_iconst (v := 1) dX7_orders_87 (by decide) ?_
      refine j_istore_n (lo' := [(3, .int 1), (2, .int 6), (0, .ref (ad 0)), (1, .int x1)]) dX7_orders_88 rfl (by decide) rfl ?_
      refine j_iconst (v := 0) dX7_orders_89 (by decide) ?_
      refine j_istore (lo' := [(4, .int 0), (3, .int 1), (2, .int 6), (0, .ref (ad 0)), (1, .int x1)]) dX7_orders_90 (by decide) rfl ?_
      refine j_lo [3, 4, 2, 1, 0] rfl ?_
      exact H
    · have H := H.2 c_2
      refine j_aload_n 0 dX7_orders_77 rfl rfl ?_
      refine j_get 0 fl_X7_109 dX7_orders_78 rfl rfl ?_
      refine j_goto (tgt := 86) dX7_orders_81 (by decide) ?_
      refine j_istore_n (lo' := [(2, .int (v 3)), (0, .ref (ad 0)), (1, .int x1)]) dX7_orders_86 rfl (by decide) rfl ?_
      refine j_iconst (v := 1) dX7_orders_87 (by decide) ?_
      refine j_istore_n (lo' := [(3, .int 1), (2, .int (v 3)), (0, .ref (ad 0)), (1, .int x1)]) dX7_orders_88 rfl (by decide) rfl ?_
      refine j_iconst (v := 0) dX7_orders_89 (by decide) ?_
      refine j_istore (lo' := [(4, .int 0), (3, .int 1), (2, .int (v 3)), (0, .ref (ad 0)), (1, .int x1)]) dX7_orders_90 (by decide) rfl ?_
      refine j_lo [3, 4, 2, 1, 0] rfl ?_
      exact H
  · have H := H.2 c_1
    refine j_aload_n 0 dX7_orders_55 rfl rfl ?_
    refine j_get 0 fl_X7_41 dX7_orders_56 rfl rfl ?_
    refine j_iload_n 2 dX7_orders_59 rfl rfl ?_
    refine j_iconst (v := 0) dX7_orders_60 (by decide) ?_
    obtain ⟨h_3, H⟩ := H
    refine j_iast (w' := (mdW G ad 0 (va_up a 10 (upd (a 10) (Int32.toNatClampNeg x2) 0)) v hh)) 11 dX7_orders_61 rfl h_3 rfl ?_
    refine j_iinc (v := (x2 + 1)) (lo' := [(2, .int (x2 + 1)), (0, .ref (ad 0)), (1, .int x1)]) 2 dX7_orders_62 rfl rfl (by decide) rfl ?_
    refine j_goto (tgt := 49) dX7_orders_65 (by decide) ?_
    refine j_lo [1, 2, 0] rfl ?_
    exact H
set_option maxRecDepth 20000 in
theorem sg_X7_orders_92 {G : GG} {ad : Nat → Nat} {a : Nat → Nat → Int32} {v : Nat → Int32} {hh : Int64} {x1 : Int32} {x2 : Int32} {x3 : Int32} {x4 : Int32} {Q : Option Value → va_W → Prop} (H : (((x2 ≤ x4) → J G mX7_orders 114 [(0, .ref (ad 0)), (1, .int x1), (2, .int x2), (3, .int x3), (4, .int 0), (5, .int 0)] [] (mdW G ad 0 a v hh) Q) ∧ ((¬ x2 ≤ x4) → J G mX7_orders 92 [(0, .ref (ad 0)), (1, .int x1), (2, .int x2), (3, .int (x3 * x2)), (4, .int (x4 + 1))] [] (mdW G ad 0 a v hh) Q))) : J G mX7_orders 92 [(0, .ref (ad 0)), (1, .int x1), (2, .int x2), (3, .int x3), (4, .int x4)] [] (mdW G ad 0 a v hh) Q := by
  refine j_iload 4 dX7_orders_92 rfl ?_
  refine j_iload_n 2 dX7_orders_94 rfl rfl ?_
  refine j_icmp_ge (tgt := 108) dX7_orders_95 (by decide) (fun c_1 => ?_) (fun c_1 => ?_)
  · have H := H.1 c_1
    refine j_iconst (v := 0) dX7_orders_108 (by decide) ?_
    refine j_istore (lo' := [(4, .int 0), (0, .ref (ad 0)), (1, .int x1), (2, .int x2), (3, .int x3)]) dX7_orders_109 (by decide) rfl ?_
    refine j_iconst (v := 0) dX7_orders_111 (by decide) ?_
    refine j_istore (lo' := [(5, .int 0), (4, .int 0), (0, .ref (ad 0)), (1, .int x1), (2, .int x2), (3, .int x3)]) dX7_orders_112 (by decide) rfl ?_
    refine j_lo [2, 3, 4, 5, 1, 0] rfl ?_
    exact H
  · have H := H.2 c_1
    refine j_iload_n 3 dX7_orders_98 rfl rfl ?_
    refine j_iload_n 2 dX7_orders_99 rfl rfl ?_
    refine j_imul dX7_orders_100 ?_
    refine j_istore_n (lo' := [(3, .int (x3 * x2)), (0, .ref (ad 0)), (1, .int x1), (2, .int x2), (4, .int x4)]) dX7_orders_101 rfl (by decide) rfl ?_
    refine j_iinc (v := (x4 + 1)) (lo' := [(4, .int (x4 + 1)), (3, .int (x3 * x2)), (0, .ref (ad 0)), (1, .int x1), (2, .int x2)]) 4 dX7_orders_102 rfl rfl (by decide) rfl ?_
    refine j_goto (tgt := 92) dX7_orders_105 (by decide) ?_
    refine j_lo [2, 3, 4, 1, 0] rfl ?_
    exact H
set_option maxRecDepth 20000 in
theorem sg_X7_orders_114 {G : GG} {ad : Nat → Nat} {a : Nat → Nat → Int32} {v : Nat → Int32} {hh : Int64} {x1 : Int32} {x2 : Int32} {x3 : Int32} {x4 : Int32} {x5 : Int32} {Q : Option Value → va_W → Prop} (H : (((x3 ≤ x5) → Q (some (.int x4)) (mdW G ad 0 a v hh)) ∧ ((¬ x3 ≤ x5) → J G mX7_isOrder 0 [(0, .ref (ad 0)), (1, .int x5), (2, .int x2)] [] (mdW G ad 0 a v hh) (fun v_ w_ => ∃ (r_3 : Int32) (a_2 : Nat → Nat → Int32), v_ = some (.int r_3) ∧ w_ = (mdW G ad 0 a_2 v hh) ∧ (((r_3 = 0) → J G mX7_orders 114 [(0, .ref (ad 0)), (1, .int x1), (2, .int x2), (3, .int x3), (4, .int x4), (5, .int (x5 + 1))] [] (mdW G ad 0 a_2 v hh) Q) ∧ ((¬ r_3 = 0) → J G mX7_dryRows 0 [(0, .ref ((pk ad [7]) 0))] [] (arW G (pk ad [7]) 0 102 (a_2 6)) (fun v_ w_ => ∃ (f_5 : Nat → Int32), v_ = none ∧ w_ = (arW G (pk ad [7]) 0 102 f_5) ∧ J G mX7_orders 140 [(0, .ref (ad 0)), (1, .int x1), (2, .int x2), (3, .int x3), (4, .int x4), (5, .int x5), (6, .int 0)] [] (mdW G ad 0 (va_up a_2 6 f_5) v hh) Q))))))) : J G mX7_orders 114 [(0, .ref (ad 0)), (1, .int x1), (2, .int x2), (3, .int x3), (4, .int x4), (5, .int x5)] [] (mdW G ad 0 a v hh) Q := by
  refine j_iload 5 dX7_orders_114 rfl ?_
  refine j_iload_n 3 dX7_orders_116 rfl rfl ?_
  refine j_icmp_ge (tgt := 234) dX7_orders_117 (by decide) (fun c_1 => ?_) (fun c_1 => ?_)
  · have H := H.1 c_1
    refine j_iload 4 dX7_orders_234 rfl ?_
    exact j_iret dX7_orders_236 rfl H
  · have H := H.2 c_1
    refine j_aload_n 0 dX7_orders_120 rfl rfl ?_
    refine j_iload 5 dX7_orders_121 rfl ?_
    refine j_iload_n 2 dX7_orders_123 rfl rfl ?_
    refine j_callV0 (q0 := 0) (As := [.int x5, .int x2]) (st := []) ml_X7_isOrder vl_X7_168 dX7_orders_124 rfl rfl rfl (Nat.le_of_ble_eq_true rfl) ⟨by decide, by decide⟩ rfl rfl (Nat.le_of_ble_eq_true rfl) (J.mono (fun v_ w_ hp_ => ?_) H)
    obtain ⟨r_3, a_2, rfl, rfl, H⟩ := hp_
    refine j_if_eq (tgt := 228) dX7_orders_127 (by decide) (fun c_4 => ?_) (fun c_4 => ?_)
    · have H := H.1 c_4
      refine j_iinc (v := (x5 + 1)) (lo' := [(5, .int (x5 + 1)), (0, .ref (ad 0)), (1, .int x1), (2, .int x2), (3, .int x3), (4, .int x4)]) 5 dX7_orders_228 rfl rfl (by decide) rfl ?_
      refine j_goto (tgt := 114) dX7_orders_231 (by decide) ?_
      refine j_lo [1, 2, 3, 4, 5, 0] rfl ?_
      exact H
    · have H := H.2 c_4
      refine j_aload_n 0 dX7_orders_130 rfl rfl ?_
      refine j_get 0 fl_X7_28 dX7_orders_131 rfl rfl ?_
      refine j_callS (wc := (arW G (pk ad [7]) 0 102 (a_2 6))) (As := [.ref ((pk ad [7]) 0)]) (st := []) ml_X7_dryRows sl_X7_105 dX7_orders_134 [none, none, none, none, none, none, none, some 0] ⟨rfl, Nat.le_of_ble_eq_true rfl, rfl, rfl⟩ (Nat.le_of_ble_eq_true rfl) ⟨by decide, by decide⟩ rfl rfl (Nat.le_of_ble_eq_true rfl) (J.mono (fun v_ w_ hp_ => ?_) H)
      obtain ⟨f_5, rfl, rfl, H⟩ := hp_
      refine j_w (w' := (mdW G ad 0 (va_up a_2 6 f_5) v hh)) rfl ?_
      refine j_iconst (v := 0) dX7_orders_137 (by decide) ?_
      refine j_istore (lo' := [(6, .int 0), (0, .ref (ad 0)), (1, .int x1), (2, .int x2), (3, .int x3), (4, .int x4), (5, .int x5)]) dX7_orders_138 (by decide) rfl ?_
      refine j_lo [1, 2, 3, 4, 5, 6, 0] rfl ?_
      exact H
set_option maxRecDepth 20000 in
theorem sg_X7_orders_140 {G : GG} {ad : Nat → Nat} {a : Nat → Nat → Int32} {v : Nat → Int32} {hh : Int64} {x1 : Int32} {x2 : Int32} {x3 : Int32} {x4 : Int32} {x5 : Int32} {x6 : Int32} {Q : Option Value → va_W → Prop} (H : (((x2 ≤ x6) → J G mX7_wordOf 0 [(0, .ref (ad 0)), (1, .int x1)] [] (mdW G ad 0 a v hh) (fun v_ w_ => ∃ (r_2 : Int32), v_ = some (.int r_2) ∧ w_ = (mdW G ad 0 a v hh) ∧ (vp_in r_2 55987) ∧ (((¬ ((a 10) (Int32.toNatClampNeg r_2)) = 0) → J G mX7_orders 114 [(0, .ref (ad 0)), (1, .int x1), (2, .int x2), (3, .int x3), (4, .int (x4 + 0)), (5, .int (x5 + 1))] [] (mdW G ad 0 (va_up a 10 (upd (a 10) (Int32.toNatClampNeg r_2) 1)) v hh) Q) ∧ ((((a 10) (Int32.toNatClampNeg r_2)) = 0) → J G mX7_orders 114 [(0, .ref (ad 0)), (1, .int x1), (2, .int x2), (3, .int x3), (4, .int (x4 + 1)), (5, .int (x5 + 1))] [] (mdW G ad 0 (va_up a 10 (upd (a 10) (Int32.toNatClampNeg r_2) 1)) v hh) Q)))) ∧ ((¬ x2 ≤ x6) → (vp_in x6 6) ∧ (vp_in ((a 11) (Int32.toNatClampNeg x6)) 12) ∧ J G mX7_runs 0 [(0, .ref ((pk ad [7, 8, 9]) 0)), (1, .ref ((pk ad [7, 8, 9]) 1)), (2, .ref ((pk ad [7, 8, 9]) 2)), (3, .int ((a 4) (Int32.toNatClampNeg ((a 11) (Int32.toNatClampNeg x6))))), (4, .int ((a 5) (Int32.toNatClampNeg ((a 11) (Int32.toNatClampNeg x6)))))] [] (arW G (pk ad [7, 8, 9]) 0 102 (a 6) ++ (arW G (pk ad [7, 8, 9]) 1 6 (a 7) ++ (arW G (pk ad [7, 8, 9]) 2 6 (a 8)))) (fun v_ w_ => ∃ (r_8 : Int32) (f_7 : Nat → Int32), v_ = some (.int r_8) ∧ w_ = (arW G (pk ad [7, 8, 9]) 0 102 f_7 ++ (arW G (pk ad [7, 8, 9]) 1 6 (a 7) ++ (arW G (pk ad [7, 8, 9]) 2 6 (a 8)))) ∧ J G mX7_orders 140 [(0, .ref (ad 0)), (1, .int x1), (2, .int x2), (3, .int x3), (4, .int x4), (5, .int x5), (6, .int (x6 + 1))] [] (mdW G ad 0 (va_up a 6 f_7) v hh) Q)))) : J G mX7_orders 140 [(0, .ref (ad 0)), (1, .int x1), (2, .int x2), (3, .int x3), (4, .int x4), (5, .int x5), (6, .int x6)] [] (mdW G ad 0 a v hh) Q := by
  refine j_iload 6 dX7_orders_140 rfl ?_
  refine j_iload_n 2 dX7_orders_142 rfl rfl ?_
  refine j_icmp_ge (tgt := 193) dX7_orders_143 (by decide) (fun c_1 => ?_) (fun c_1 => ?_)
  · have H := H.1 c_1
    refine j_aload_n 0 dX7_orders_193 rfl rfl ?_
    refine j_iload_n 1 dX7_orders_194 rfl rfl ?_
    refine j_callV0 (q0 := 0) (As := [.int x1]) (st := []) ml_X7_wordOf vl_X7_171 dX7_orders_195 rfl rfl rfl (Nat.le_of_ble_eq_true rfl) ⟨by decide, by decide⟩ rfl rfl (Nat.le_of_ble_eq_true rfl) (J.mono (fun v_ w_ hp_ => ?_) H)
    obtain ⟨r_2, rfl, rfl, H⟩ := hp_
    refine j_istore (lo' := [(6, .int r_2), (0, .ref (ad 0)), (1, .int x1), (2, .int x2), (3, .int x3), (4, .int x4), (5, .int x5)]) dX7_orders_198 (by decide) rfl ?_
    refine j_iload 5 dX7_orders_200 rfl ?_
    refine j_aload_n 1 dX7_orders_202 rfl rfl ?_
    refine j_get 0 fl_X7_41 dX7_orders_203 rfl rfl ?_
    refine j_iload 0 dX7_orders_206 rfl ?_
    obtain ⟨h_3, H⟩ := H
    refine j_iald 11 dX7_orders_208 rfl h_3 ?_
    refine j_if_ne (tgt := 216) dX7_orders_209 (by decide) (fun c_4 => ?_) (fun c_4 => ?_)
    · have H := H.1 c_4
      refine j_iconst (v := 0) dX7_orders_216 (by decide) ?_
      refine j_iadd dX7_orders_217 ?_
      refine j_istore (lo' := [(4, .int (x4 + 0)), (6, .int r_2), (0, .ref (ad 0)), (1, .int x1), (2, .int x2), (3, .int x3), (5, .int x5)]) dX7_orders_218 (by decide) rfl ?_
      refine j_aload_n 2 dX7_orders_220 rfl rfl ?_
      refine j_get 0 fl_X7_41 dX7_orders_221 rfl rfl ?_
      refine j_iload 1 dX7_orders_224 rfl ?_
      refine j_iconst (v := 1) dX7_orders_226 (by decide) ?_
      refine j_iast (w' := (mdW G ad 0 (va_up a 10 (upd (a 10) (Int32.toNatClampNeg r_2) 1)) v hh)) 11 dX7_orders_227 rfl h_3 rfl ?_
      refine j_iinc (v := (x5 + 1)) (lo' := [(5, .int (x5 + 1)), (4, .int (x4 + 0)), (6, .int r_2), (0, .ref (ad 0)), (1, .int x1), (2, .int x2), (3, .int x3)]) 6 dX7_orders_228 rfl rfl (by decide) rfl ?_
      refine j_goto (tgt := 114) dX7_orders_231 (by decide) ?_
      refine j_lo [3, 4, 5, 6, 1, 0] rfl ?_
      exact H
    · have H := H.2 c_4
      refine j_iconst (v := 1) dX7_orders_212 (by decide) ?_
      refine j_goto (tgt := 217) dX7_orders_213 (by decide) ?_
      refine j_iadd dX7_orders_217 ?_
      refine j_istore (lo' := [(4, .int (x4 + 1)), (6, .int r_2), (0, .ref (ad 0)), (1, .int x1), (2, .int x2), (3, .int x3), (5, .int x5)]) dX7_orders_218 (by decide) rfl ?_
      refine j_aload_n 2 dX7_orders_220 rfl rfl ?_
      refine j_get 0 fl_X7_41 dX7_orders_221 rfl rfl ?_
      refine j_iload 1 dX7_orders_224 rfl ?_
      refine j_iconst (v := 1) dX7_orders_226 (by decide) ?_
      refine j_iast (w' := (mdW G ad 0 (va_up a 10 (upd (a 10) (Int32.toNatClampNeg r_2) 1)) v hh)) 11 dX7_orders_227 rfl h_3 rfl ?_
      refine j_iinc (v := (x5 + 1)) (lo' := [(5, .int (x5 + 1)), (4, .int (x4 + 1)), (6, .int r_2), (0, .ref (ad 0)), (1, .int x1), (2, .int x2), (3, .int x3)]) 6 dX7_orders_228 rfl rfl (by decide) rfl ?_
      refine j_goto (tgt := 114) dX7_orders_231 (by decide) ?_
      refine j_lo [3, 4, 5, 6, 1, 0] rfl ?_
      exact H
  · have H := H.2 c_1
    refine j_aload_n 0 dX7_orders_146 rfl rfl ?_
    refine j_get 0 fl_X7_28 dX7_orders_147 rfl rfl ?_
    refine j_aload_n 0 dX7_orders_150 rfl rfl ?_
    refine j_get 0 fl_X7_31 dX7_orders_151 rfl rfl ?_
    refine j_aload_n 0 dX7_orders_154 rfl rfl ?_
    refine j_get 0 fl_X7_34 dX7_orders_155 rfl rfl ?_
    refine j_aload_n 0 dX7_orders_158 rfl rfl ?_
    refine j_get 0 fl_X7_22 dX7_orders_159 rfl rfl ?_
    refine j_aload_n 0 dX7_orders_162 rfl rfl ?_
    refine j_get 0 fl_X7_44 dX7_orders_163 rfl rfl ?_
    refine j_iload 6 dX7_orders_166 rfl ?_
    obtain ⟨h_5, H⟩ := H
    refine j_iald 12 dX7_orders_168 rfl h_5 ?_
    obtain ⟨h_6, H⟩ := H
    refine j_iald 5 dX7_orders_169 rfl h_6 ?_
    refine j_aload_n 0 dX7_orders_170 rfl rfl ?_
    refine j_get 0 fl_X7_25 dX7_orders_171 rfl rfl ?_
    refine j_aload_n 0 dX7_orders_174 rfl rfl ?_
    refine j_get 0 fl_X7_44 dX7_orders_175 rfl rfl ?_
    refine j_iload 6 dX7_orders_178 rfl ?_
    refine j_iald 12 dX7_orders_180 rfl h_5 ?_
    refine j_iald 6 dX7_orders_181 rfl h_6 ?_
    refine j_callS (wc := (arW G (pk ad [7, 8, 9]) 0 102 (a 6) ++ (arW G (pk ad [7, 8, 9]) 1 6 (a 7) ++ (arW G (pk ad [7, 8, 9]) 2 6 (a 8))))) (As := [.ref ((pk ad [7, 8, 9]) 0), .ref ((pk ad [7, 8, 9]) 1), .ref ((pk ad [7, 8, 9]) 2), .int ((a 4) (Int32.toNatClampNeg ((a 11) (Int32.toNatClampNeg x6)))), .int ((a 5) (Int32.toNatClampNeg ((a 11) (Int32.toNatClampNeg x6))))]) (st := []) ml_X7_runs sl_X7_133 dX7_orders_182 [none, none, none, none, none, none, none, some 0, some 1, some 2] ⟨rfl, Nat.le_of_ble_eq_true rfl, rfl, rfl⟩ (Nat.le_of_ble_eq_true rfl) ⟨by decide, by decide⟩ rfl rfl (Nat.le_of_ble_eq_true rfl) (J.mono (fun v_ w_ hp_ => ?_) H)
    obtain ⟨r_8, f_7, rfl, rfl, H⟩ := hp_
    refine j_w (w' := (mdW G ad 0 (va_up a 6 f_7) v hh)) rfl ?_
    refine j_istore (lo' := [(7, .int r_8), (0, .ref (ad 0)), (1, .int x1), (2, .int x2), (3, .int x3), (4, .int x4), (5, .int x5), (6, .int x6)]) dX7_orders_185 (by decide) rfl ?_
    refine j_iinc (v := (x6 + 1)) (lo' := [(6, .int (x6 + 1)), (7, .int r_8), (0, .ref (ad 0)), (1, .int x1), (2, .int x2), (3, .int x3), (4, .int x4), (5, .int x5)]) 7 dX7_orders_187 rfl rfl (by decide) rfl ?_
    refine j_goto (tgt := 140) dX7_orders_190 (by decide) ?_
    refine j_lo [2, 3, 4, 5, 6, 7, 0] rfl ?_
    exact H
set_option maxRecDepth 20000 in
theorem sg_X7_rain_0 {G : GG} {ad : Nat → Nat} {a : Nat → Nat → Int32} {v : Nat → Int32} {hh : Int64} {x1 : Int32} {x2 : Int32} {Q : Option Value → va_W → Prop} (H : J G mX7_in 0 [(0, .long (Int32.toInt64 x1)), (2, .long 0), (4, .long (Int32.toInt64 ((v 3) - 1)))] [] ([] : va_W) (fun v_ w_ => ∃ (r_1 : Int32), v_ = some (.int r_1) ∧ w_ = ([] : va_W) ∧ (((¬ r_1 = 0) → (((¬ x2 = 0) → (((¬ x2 = 1) → Q (some (.int (-102))) (mdW G ad 0 a v hh)) ∧ ((x2 = 1) → (vp_in x1 12) ∧ Q (some (.int ((a 5) (Int32.toNatClampNeg x1)))) (mdW G ad 0 a v hh)))) ∧ ((x2 = 0) → (vp_in x1 12) ∧ Q (some (.int ((a 4) (Int32.toNatClampNeg x1)))) (mdW G ad 0 a v hh)))) ∧ ((r_1 = 0) → Q (some (.int (-101))) (mdW G ad 0 a v hh))))) : J G mX7_rain 0 [(0, .ref (ad 0)), (1, .int x1), (2, .int x2)] [] (mdW G ad 0 a v hh) Q := by
  refine j_iload_n 1 dX7_rain_0 rfl rfl ?_
  refine j_i2l dX7_rain_1 ?_
  refine j_lconst (v := 0) dX7_rain_2 (by decide) ?_
  refine j_aload_n 0 dX7_rain_3 rfl rfl ?_
  refine j_get 0 fl_X7_109 dX7_rain_4 rfl rfl ?_
  refine j_iconst (v := 1) dX7_rain_7 (by decide) ?_
  refine j_isub dX7_rain_8 ?_
  refine j_i2l dX7_rain_9 ?_
  refine j_callS0 (As := [.long (Int32.toInt64 x1), .long 0, .long (Int32.toInt64 ((v 3) - 1))]) (st := []) ml_X7_in sl_X7_77 dX7_rain_10 (Nat.le_of_ble_eq_true rfl) ⟨by decide, by decide⟩ rfl rfl (Nat.le_of_ble_eq_true rfl) (J.mono (fun v_ w_ hp_ => ?_) H)
  obtain ⟨r_1, rfl, rfl, H⟩ := hp_
  refine j_if_ne (tgt := 19) dX7_rain_13 (by decide) (fun c_2 => ?_) (fun c_2 => ?_)
  · have H := H.1 c_2
    refine j_iload_n 2 dX7_rain_19 rfl rfl ?_
    refine j_if_ne (tgt := 32) dX7_rain_20 (by decide) (fun c_3 => ?_) (fun c_3 => ?_)
    · have H := H.1 c_3
      refine j_iload_n 2 dX7_rain_32 rfl rfl ?_
      refine j_iconst (v := 1) dX7_rain_33 (by decide) ?_
      refine j_icmp_ne (tgt := 46) dX7_rain_34 (by decide) (fun c_4 => ?_) (fun c_4 => ?_)
      · have H := H.1 c_4
        refine j_bipush (v := (-102)) dX7_rain_46 (by decide) ?_
        exact j_iret dX7_rain_48 rfl H
      · have H := H.2 c_4
        refine j_aload_n 0 dX7_rain_37 rfl rfl ?_
        refine j_get 0 fl_X7_25 dX7_rain_38 rfl rfl ?_
        refine j_iload_n 1 dX7_rain_41 rfl rfl ?_
        obtain ⟨h_5, H⟩ := H
        refine j_iald 6 dX7_rain_42 rfl h_5 ?_
        refine j_goto (tgt := 48) dX7_rain_43 (by decide) ?_
        exact j_iret dX7_rain_48 rfl H
    · have H := H.2 c_3
      refine j_aload_n 0 dX7_rain_23 rfl rfl ?_
      refine j_get 0 fl_X7_22 dX7_rain_24 rfl rfl ?_
      refine j_iload_n 1 dX7_rain_27 rfl rfl ?_
      obtain ⟨h_6, H⟩ := H
      refine j_iald 5 dX7_rain_28 rfl h_6 ?_
      refine j_goto (tgt := 48) dX7_rain_29 (by decide) ?_
      exact j_iret dX7_rain_48 rfl H
  · have H := H.2 c_2
    refine j_bipush (v := (-101)) dX7_rain_16 (by decide) ?_
    exact j_iret dX7_rain_18 rfl H
set_option maxRecDepth 20000 in
theorem sg_X7_restore_0 {G : GG} {ad : Nat → Nat} {a : Nat → Nat → Int32} {v : Nat → Int32} {hh : Int64} {Q : Option Value → va_W → Prop} (H : ((((v 7) = (v 2)) → J G mX7_copy 0 [(0, .ref ((pk ad [15, 3]) 0)), (1, .ref ((pk ad [15, 3]) 1))] [] (arW G (pk ad [15, 3]) 0 6 (a 14) ++ (arW G (pk ad [15, 3]) 1 6 (a 2))) (fun v_ w_ => ∃ (f_2 : Nat → Int32), v_ = none ∧ w_ = (arW G (pk ad [15, 3]) 0 6 (a 14) ++ (arW G (pk ad [15, 3]) 1 6 f_2)) ∧ J G mX7_copy 0 [(0, .ref ((pk ad [16, 4]) 0)), (1, .ref ((pk ad [16, 4]) 1))] [] (arW G (pk ad [16, 4]) 0 102 (a 15) ++ (arW G (pk ad [16, 4]) 1 102 (a 3))) (fun v_ w_ => ∃ (f_3 : Nat → Int32), v_ = none ∧ w_ = (arW G (pk ad [16, 4]) 0 102 (a 15) ++ (arW G (pk ad [16, 4]) 1 102 f_3)) ∧ J G mX7_copy 0 [(0, .ref ((pk ad [17, 5]) 0)), (1, .ref ((pk ad [17, 5]) 1))] [] (arW G (pk ad [17, 5]) 0 12 (a 16) ++ (arW G (pk ad [17, 5]) 1 12 (a 4))) (fun v_ w_ => ∃ (f_4 : Nat → Int32), v_ = none ∧ w_ = (arW G (pk ad [17, 5]) 0 12 (a 16) ++ (arW G (pk ad [17, 5]) 1 12 f_4)) ∧ J G mX7_copy 0 [(0, .ref ((pk ad [18, 6]) 0)), (1, .ref ((pk ad [18, 6]) 1))] [] (arW G (pk ad [18, 6]) 0 12 (a 17) ++ (arW G (pk ad [18, 6]) 1 12 (a 5))) (fun v_ w_ => ∃ (f_5 : Nat → Int32), v_ = none ∧ w_ = (arW G (pk ad [18, 6]) 0 12 (a 17) ++ (arW G (pk ad [18, 6]) 1 12 f_5)) ∧ J G mX7_copy 0 [(0, .ref ((pk ad [19, 13]) 0)), (1, .ref ((pk ad [19, 13]) 1))] [] (arW G (pk ad [19, 13]) 0 6 (a 18) ++ (arW G (pk ad [19, 13]) 1 6 (a 12))) (fun v_ w_ => ∃ (f_6 : Nat → Int32), v_ = none ∧ w_ = (arW G (pk ad [19, 13]) 0 6 (a 18) ++ (arW G (pk ad [19, 13]) 1 6 f_6)) ∧ J G mX7_copy 0 [(0, .ref ((pk ad [20, 14]) 0)), (1, .ref ((pk ad [20, 14]) 1))] [] (arW G (pk ad [20, 14]) 0 48 (a 19) ++ (arW G (pk ad [20, 14]) 1 48 (a 13))) (fun v_ w_ => ∃ (f_7 : Nat → Int32), v_ = none ∧ w_ = (arW G (pk ad [20, 14]) 0 48 (a 19) ++ (arW G (pk ad [20, 14]) 1 48 f_7)) ∧ Q (some (.int (v 8))) (mdW G ad 0 (va_up (va_up (va_up (va_up (va_up (va_up a 2 f_2) 3 f_3) 4 f_4) 5 f_5) 12 f_6) 13 f_7) (va_up v 3 (v 8)) hh)))))))) ∧ ((¬ (v 7) = (v 2)) → Q (some (.int (-103))) (mdW G ad 0 a v hh)))) : J G mX7_restore 0 [(0, .ref (ad 0))] [] (mdW G ad 0 a v hh) Q := by
  refine j_aload_n 0 dX7_restore_0 rfl rfl ?_
  refine j_get 0 fl_X7_71 dX7_restore_1 rfl rfl ?_
  refine j_aload_n 0 dX7_restore_4 rfl rfl ?_
  refine j_get 0 fl_X7_112 dX7_restore_5 rfl rfl ?_
  refine j_icmp_eq (tgt := 14) dX7_restore_8 (by decide) (fun c_1 => ?_) (fun c_1 => ?_)
  · have H := H.1 c_1
    refine j_aload_n 0 dX7_restore_14 rfl rfl ?_
    refine j_get 0 fl_X7_53 dX7_restore_15 rfl rfl ?_
    refine j_aload_n 0 dX7_restore_18 rfl rfl ?_
    refine j_get 0 fl_X7_16 dX7_restore_19 rfl rfl ?_
    refine j_callS (wc := (arW G (pk ad [15, 3]) 0 6 (a 14) ++ (arW G (pk ad [15, 3]) 1 6 (a 2)))) (As := [.ref ((pk ad [15, 3]) 0), .ref ((pk ad [15, 3]) 1)]) (st := []) ml_X7_copy sl_X7_137 dX7_restore_22 [none, none, none, some 1, none, none, none, none, none, none, none, none, none, none, none, some 0] ⟨rfl, Nat.le_of_ble_eq_true rfl, rfl, rfl⟩ (Nat.le_of_ble_eq_true rfl) ⟨by decide, by decide⟩ rfl rfl (Nat.le_of_ble_eq_true rfl) (J.mono (fun v_ w_ hp_ => ?_) H)
    obtain ⟨f_2, rfl, rfl, H⟩ := hp_
    refine j_w (w' := (mdW G ad 0 (va_up a 2 f_2) v hh)) rfl ?_
    refine j_aload_n 0 dX7_restore_25 rfl rfl ?_
    refine j_get 0 fl_X7_56 dX7_restore_26 rfl rfl ?_
    refine j_aload_n 0 dX7_restore_29 rfl rfl ?_
    refine j_get 0 fl_X7_19 dX7_restore_30 rfl rfl ?_
    refine j_callS (wc := (arW G (pk ad [16, 4]) 0 102 (a 15) ++ (arW G (pk ad [16, 4]) 1 102 (a 3)))) (As := [.ref ((pk ad [16, 4]) 0), .ref ((pk ad [16, 4]) 1)]) (st := []) ml_X7_copy sl_X7_137 dX7_restore_33 [none, none, none, none, some 1, none, none, none, none, none, none, none, none, none, none, none, some 0] ⟨rfl, Nat.le_of_ble_eq_true rfl, rfl, rfl⟩ (Nat.le_of_ble_eq_true rfl) ⟨by decide, by decide⟩ rfl rfl (Nat.le_of_ble_eq_true rfl) (J.mono (fun v_ w_ hp_ => ?_) H)
    obtain ⟨f_3, rfl, rfl, H⟩ := hp_
    refine j_w (w' := (mdW G ad 0 (va_up (va_up a 2 f_2) 3 f_3) v hh)) rfl ?_
    refine j_aload_n 0 dX7_restore_36 rfl rfl ?_
    refine j_get 0 fl_X7_59 dX7_restore_37 rfl rfl ?_
    refine j_aload_n 0 dX7_restore_40 rfl rfl ?_
    refine j_get 0 fl_X7_22 dX7_restore_41 rfl rfl ?_
    refine j_callS (wc := (arW G (pk ad [17, 5]) 0 12 (a 16) ++ (arW G (pk ad [17, 5]) 1 12 (a 4)))) (As := [.ref ((pk ad [17, 5]) 0), .ref ((pk ad [17, 5]) 1)]) (st := []) ml_X7_copy sl_X7_137 dX7_restore_44 [none, none, none, none, none, some 1, none, none, none, none, none, none, none, none, none, none, none, some 0] ⟨rfl, Nat.le_of_ble_eq_true rfl, rfl, rfl⟩ (Nat.le_of_ble_eq_true rfl) ⟨by decide, by decide⟩ rfl rfl (Nat.le_of_ble_eq_true rfl) (J.mono (fun v_ w_ hp_ => ?_) H)
    obtain ⟨f_4, rfl, rfl, H⟩ := hp_
    refine j_w (w' := (mdW G ad 0 (va_up (va_up (va_up a 2 f_2) 3 f_3) 4 f_4) v hh)) rfl ?_
    refine j_aload_n 0 dX7_restore_47 rfl rfl ?_
    refine j_get 0 fl_X7_62 dX7_restore_48 rfl rfl ?_
    refine j_aload_n 0 dX7_restore_51 rfl rfl ?_
    refine j_get 0 fl_X7_25 dX7_restore_52 rfl rfl ?_
    refine j_callS (wc := (arW G (pk ad [18, 6]) 0 12 (a 17) ++ (arW G (pk ad [18, 6]) 1 12 (a 5)))) (As := [.ref ((pk ad [18, 6]) 0), .ref ((pk ad [18, 6]) 1)]) (st := []) ml_X7_copy sl_X7_137 dX7_restore_55 [none, none, none, none, none, none, some 1, none, none, none, none, none, none, none, none, none, none, none, some 0] ⟨rfl, Nat.le_of_ble_eq_true rfl, rfl, rfl⟩ (Nat.le_of_ble_eq_true rfl) ⟨by decide, by decide⟩ rfl rfl (Nat.le_of_ble_eq_true rfl) (J.mono (fun v_ w_ hp_ => ?_) H)
    obtain ⟨f_5, rfl, rfl, H⟩ := hp_
    refine j_w (w' := (mdW G ad 0 (va_up (va_up (va_up (va_up a 2 f_2) 3 f_3) 4 f_4) 5 f_5) v hh)) rfl ?_
    refine j_aload_n 0 dX7_restore_58 rfl rfl ?_
    refine j_get 0 fl_X7_65 dX7_restore_59 rfl rfl ?_
    refine j_aload_n 0 dX7_restore_62 rfl rfl ?_
    refine j_get 0 fl_X7_47 dX7_restore_63 rfl rfl ?_
    refine j_callS (wc := (arW G (pk ad [19, 13]) 0 6 (a 18) ++ (arW G (pk ad [19, 13]) 1 6 (a 12)))) (As := [.ref ((pk ad [19, 13]) 0), .ref ((pk ad [19, 13]) 1)]) (st := []) ml_X7_copy sl_X7_137 dX7_restore_66 [none, none, none, none, none, none, none, none, none, none, none, none, none, some 1, none, none, none, none, none, some 0] ⟨rfl, Nat.le_of_ble_eq_true rfl, rfl, rfl⟩ (Nat.le_of_ble_eq_true rfl) ⟨by decide, by decide⟩ rfl rfl (Nat.le_of_ble_eq_true rfl) (J.mono (fun v_ w_ hp_ => ?_) H)
    obtain ⟨f_6, rfl, rfl, H⟩ := hp_
    refine j_w (w' := (mdW G ad 0 (va_up (va_up (va_up (va_up (va_up a 2 f_2) 3 f_3) 4 f_4) 5 f_5) 12 f_6) v hh)) rfl ?_
    refine j_aload_n 0 dX7_restore_69 rfl rfl ?_
    refine j_get 0 fl_X7_68 dX7_restore_70 rfl rfl ?_
    refine j_aload_n 0 dX7_restore_73 rfl rfl ?_
    refine j_get 0 fl_X7_50 dX7_restore_74 rfl rfl ?_
    refine j_callS (wc := (arW G (pk ad [20, 14]) 0 48 (a 19) ++ (arW G (pk ad [20, 14]) 1 48 (a 13)))) (As := [.ref ((pk ad [20, 14]) 0), .ref ((pk ad [20, 14]) 1)]) (st := []) ml_X7_copy sl_X7_137 dX7_restore_77 [none, none, none, none, none, none, none, none, none, none, none, none, none, none, some 1, none, none, none, none, none, some 0] ⟨rfl, Nat.le_of_ble_eq_true rfl, rfl, rfl⟩ (Nat.le_of_ble_eq_true rfl) ⟨by decide, by decide⟩ rfl rfl (Nat.le_of_ble_eq_true rfl) (J.mono (fun v_ w_ hp_ => ?_) H)
    obtain ⟨f_7, rfl, rfl, H⟩ := hp_
    refine j_w (w' := (mdW G ad 0 (va_up (va_up (va_up (va_up (va_up (va_up a 2 f_2) 3 f_3) 4 f_4) 5 f_5) 12 f_6) 13 f_7) v hh)) rfl ?_
    refine j_aload_n 0 dX7_restore_80 rfl rfl ?_
    refine j_aload_n 0 dX7_restore_81 rfl rfl ?_
    refine j_get 0 fl_X7_205 dX7_restore_82 rfl rfl ?_
    refine j_put (w' := (mdW G ad 0 (va_up (va_up (va_up (va_up (va_up (va_up a 2 f_2) 3 f_3) 4 f_4) 5 f_5) 12 f_6) 13 f_7) (va_up v 3 (v 8)) hh)) 0 fp_X7_109 dX7_restore_85 rfl rfl rfl (Nat.le_of_ble_eq_true rfl) rfl ?_
    refine j_aload_n 0 dX7_restore_88 rfl rfl ?_
    refine j_get 0 fl_X7_109 dX7_restore_89 rfl rfl ?_
    exact j_iret dX7_restore_92 rfl H
  · have H := H.2 c_1
    refine j_bipush (v := (-103)) dX7_restore_11 (by decide) ?_
    exact j_iret dX7_restore_13 rfl H
set_option maxRecDepth 20000 in
theorem sg_X7_street_0 {G : GG} {ad : Nat → Nat} {a : Nat → Nat → Int32} {v : Nat → Int32} {hh : Int64} {Q : Option Value → va_W → Prop} (H : (((¬ (v 0) = 17) → Q (some (.int (-103))) (mdW G ad 0 a v hh)) ∧ (((v 0) = 17) → J G mX7_faultOf 0 [(0, .ref (ad 0)), (1, .int 0)] [] (mdW G ad 0 a v hh) (fun v_ w_ => ∃ (r_2 : Int32), v_ = some (.int r_2) ∧ w_ = (mdW G ad 0 a v hh) ∧ (((17 ≤ r_2) → J G mX7_street 24 [(0, .ref (ad 0)), (1, .int 0)] [] (mdW G ad 0 a v hh) Q) ∧ ((¬ 17 ≤ r_2) → Q (some (.int (-103))) (mdW G ad 0 a v hh))))))) : J G mX7_street 0 [(0, .ref (ad 0))] [] (mdW G ad 0 a v hh) Q := by
  refine j_aload_n 0 dX7_street_0 rfl rfl ?_
  refine j_get 0 fl_X7_81 dX7_street_1 rfl rfl ?_
  refine j_bipush (v := 17) dX7_street_4 (by decide) ?_
  refine j_icmp_ne (tgt := 19) dX7_street_6 (by decide) (fun c_1 => ?_) (fun c_1 => ?_)
  · have H := H.1 c_1
    refine j_bipush (v := (-103)) dX7_street_19 (by decide) ?_
    exact j_iret dX7_street_21 rfl H
  · have H := H.2 c_1
    refine j_aload_n 0 dX7_street_9 rfl rfl ?_
    refine j_iconst (v := 0) dX7_street_10 (by decide) ?_
    refine j_callV0 (q0 := 0) (As := [.int 0]) (st := []) ml_X7_faultOf vl_X7_98 dX7_street_11 rfl rfl rfl (Nat.le_of_ble_eq_true rfl) ⟨by decide, by decide⟩ rfl rfl (Nat.le_of_ble_eq_true rfl) (J.mono (fun v_ w_ hp_ => ?_) H)
    obtain ⟨r_2, rfl, rfl, H⟩ := hp_
    refine j_bipush (v := 17) dX7_street_14 (by decide) ?_
    refine j_icmp_ge (tgt := 22) dX7_street_16 (by decide) (fun c_3 => ?_) (fun c_3 => ?_)
    · have H := H.1 c_3
      refine j_iconst (v := 0) dX7_street_22 (by decide) ?_
      refine j_istore_n (lo' := [(1, .int 0), (0, .ref (ad 0))]) dX7_street_23 rfl (by decide) rfl ?_
      refine j_lo [1, 0] rfl ?_
      exact H
    · have H := H.2 c_3
      refine j_bipush (v := (-103)) dX7_street_19 (by decide) ?_
      exact j_iret dX7_street_21 rfl H
set_option maxRecDepth 20000 in
theorem sg_X7_street_24 {G : GG} {ad : Nat → Nat} {a : Nat → Nat → Int32} {v : Nat → Int32} {hh : Int64} {x1 : Int32} {Q : Option Value → va_W → Prop} (H : (((6 ≤ x1) → J G mX7_dryRows 0 [(0, .ref ((pk ad [4]) 0))] [] (arW G (pk ad [4]) 0 102 (a 3)) (fun v_ w_ => ∃ (f_2 : Nat → Int32), v_ = none ∧ w_ = (arW G (pk ad [4]) 0 102 f_2) ∧ J G mX7_outs 0 [(0, .ref (ad 0))] [] (mdW G ad 0 (va_up a 3 f_2) (va_up (va_up (va_up (va_up v 3 0) 1 1) 2 ((v 2) + 1)) 0 0) hh) (fun v_ w_ => ∃ (r_3 : Int32), v_ = some (.int r_3) ∧ w_ = (mdW G ad 0 (va_up a 3 f_2) (va_up (va_up (va_up (va_up v 3 0) 1 1) 2 ((v 2) + 1)) 0 0) hh) ∧ Q (some (.int r_3)) (mdW G ad 0 (va_up a 3 f_2) (va_up (va_up (va_up (va_up v 3 0) 1 1) 2 ((v 2) + 1)) 0 0) hh)))) ∧ ((¬ 6 ≤ x1) → (vp_in (3 * x1) 20) ∧ J G mX7_kindBy 0 [(0, .int ((a 0) (Int32.toNatClampNeg (3 * x1))))] [] ([] : va_W) (fun v_ w_ => ∃ (r_5 : Int32), v_ = some (.int r_5) ∧ w_ = ([] : va_W) ∧ (vp_in x1 6) ∧ (vp_in ((3 * x1) + 1) 20) ∧ (((¬ ((a 0) (Int32.toNatClampNeg ((3 * x1) + 1))) = 45) → J G mX7_street 24 [(0, .ref (ad 0)), (1, .int (x1 + 1))] [] (mdW G ad 0 (va_up (va_up (va_up a 1 (upd (a 1) (Int32.toNatClampNeg x1) r_5)) 2 (upd (a 2) (Int32.toNatClampNeg x1) (((a 0) (Int32.toNatClampNeg ((3 * x1) + 1))) - 48))) 12 (upd (a 12) (Int32.toNatClampNeg x1) (-1))) v hh) Q) ∧ ((((a 0) (Int32.toNatClampNeg ((3 * x1) + 1))) = 45) → J G mX7_street 24 [(0, .ref (ad 0)), (1, .int (x1 + 1))] [] (mdW G ad 0 (va_up (va_up (va_up a 1 (upd (a 1) (Int32.toNatClampNeg x1) r_5)) 2 (upd (a 2) (Int32.toNatClampNeg x1) (-1))) 12 (upd (a 12) (Int32.toNatClampNeg x1) (-1))) v hh) Q)))))) : J G mX7_street 24 [(0, .ref (ad 0)), (1, .int x1)] [] (mdW G ad 0 a v hh) Q := by
  refine j_iload_n 1 dX7_street_24 rfl rfl ?_
  refine j_bipush (v := 6) dX7_street_25 (by decide) ?_
  refine j_icmp_ge (tgt := 98) dX7_street_27 (by decide) (fun c_1 => ?_) (fun c_1 => ?_)
  · have H := H.1 c_1
    refine j_aload_n 0 dX7_street_98 rfl rfl ?_
    refine j_get 0 fl_X7_19 dX7_street_99 rfl rfl ?_
    refine j_callS (wc := (arW G (pk ad [4]) 0 102 (a 3))) (As := [.ref ((pk ad [4]) 0)]) (st := []) ml_X7_dryRows sl_X7_105 dX7_street_102 [none, none, none, none, some 0] ⟨rfl, Nat.le_of_ble_eq_true rfl, rfl, rfl⟩ (Nat.le_of_ble_eq_true rfl) ⟨by decide, by decide⟩ rfl rfl (Nat.le_of_ble_eq_true rfl) (J.mono (fun v_ w_ hp_ => ?_) H)
    obtain ⟨f_2, rfl, rfl, H⟩ := hp_
    refine j_w (w' := (mdW G ad 0 (va_up a 3 f_2) v hh)) rfl ?_
    refine j_aload_n 0 dX7_street_105 rfl rfl ?_
    refine j_iconst (v := 0) dX7_street_106 (by decide) ?_
    refine j_put (w' := (mdW G ad 0 (va_up a 3 f_2) (va_up v 3 0) hh)) 0 fp_X7_109 dX7_street_107 rfl rfl rfl (Nat.le_of_ble_eq_true rfl) rfl ?_
    refine j_aload_n 0 dX7_street_110 rfl rfl ?_
    refine j_iconst (v := 1) dX7_street_111 (by decide) ?_
    refine j_put (w' := (mdW G ad 0 (va_up a 3 f_2) (va_up (va_up v 3 0) 1 1) hh)) 0 fp_X7_101 dX7_street_112 rfl (by decide) rfl (Nat.le_of_ble_eq_true rfl) rfl ?_
    refine j_aload_n 0 dX7_street_115 rfl rfl ?_
    refine j_dup dX7_street_116 rfl ?_
    refine j_get 0 fl_X7_112 dX7_street_117 rfl rfl ?_
    refine j_iconst (v := 1) dX7_street_120 (by decide) ?_
    refine j_iadd dX7_street_121 ?_
    refine j_put (w' := (mdW G ad 0 (va_up a 3 f_2) (va_up (va_up (va_up v 3 0) 1 1) 2 ((v 2) + 1)) hh)) 0 fp_X7_112 dX7_street_122 rfl rfl rfl (Nat.le_of_ble_eq_true rfl) rfl ?_
    refine j_aload_n 0 dX7_street_125 rfl rfl ?_
    refine j_iconst (v := 0) dX7_street_126 (by decide) ?_
    refine j_put (w' := (mdW G ad 0 (va_up a 3 f_2) (va_up (va_up (va_up (va_up v 3 0) 1 1) 2 ((v 2) + 1)) 0 0) hh)) 0 fp_X7_81 dX7_street_127 rfl rfl rfl (Nat.le_of_ble_eq_true rfl) rfl ?_
    refine j_aload_n 0 dX7_street_130 rfl rfl ?_
    refine j_callV0 (q0 := 0) (As := []) (st := []) ml_X7_outs vl_X7_115 dX7_street_131 rfl rfl rfl (Nat.le_of_ble_eq_true rfl) ⟨by decide, by decide⟩ rfl rfl (Nat.le_of_ble_eq_true rfl) (J.mono (fun v_ w_ hp_ => ?_) H)
    obtain ⟨r_3, rfl, rfl, H⟩ := hp_
    exact j_iret dX7_street_134 rfl H
  · have H := H.2 c_1
    refine j_aload_n 0 dX7_street_30 rfl rfl ?_
    refine j_get 0 fl_X7_13 dX7_street_31 rfl rfl ?_
    refine j_iload_n 1 dX7_street_34 rfl rfl ?_
    refine j_aload_n 0 dX7_street_35 rfl rfl ?_
    refine j_get 0 fl_X7_7 dX7_street_36 rfl rfl ?_
    refine j_iconst (v := 3) dX7_street_39 (by decide) ?_
    refine j_iload_n 1 dX7_street_40 rfl rfl ?_
    refine j_imul dX7_street_41 ?_
    obtain ⟨h_4, H⟩ := H
    refine j_iald 1 dX7_street_42 rfl h_4 ?_
    refine j_callS0 (As := [.int ((a 0) (Int32.toNatClampNeg (3 * x1)))]) (st := [.int x1, .ref (ad 2)]) ml_X7_kindBy sl_X7_84 dX7_street_43 (Nat.le_of_ble_eq_true rfl) ⟨by decide, by decide⟩ rfl rfl (Nat.le_of_ble_eq_true rfl) (J.mono (fun v_ w_ hp_ => ?_) H)
    obtain ⟨r_5, rfl, rfl, H⟩ := hp_
    obtain ⟨h_6, H⟩ := H
    refine j_iast (w' := (mdW G ad 0 (va_up a 1 (upd (a 1) (Int32.toNatClampNeg x1) r_5)) v hh)) 2 dX7_street_46 rfl h_6 rfl ?_
    refine j_aload_n 0 dX7_street_47 rfl rfl ?_
    refine j_get 0 fl_X7_16 dX7_street_48 rfl rfl ?_
    refine j_iload_n 1 dX7_street_51 rfl rfl ?_
    refine j_aload_n 0 dX7_street_52 rfl rfl ?_
    refine j_get 0 fl_X7_7 dX7_street_53 rfl rfl ?_
    refine j_iconst (v := 3) dX7_street_56 (by decide) ?_
    refine j_iload_n 1 dX7_street_57 rfl rfl ?_
    refine j_imul dX7_street_58 ?_
    refine j_iconst (v := 1) dX7_street_59 (by decide) ?_
    refine j_iadd dX7_street_60 ?_
    obtain ⟨h_7, H⟩ := H
    refine j_iald 1 dX7_street_61 rfl h_7 ?_
    refine j_bipush (v := 45) dX7_street_62 (by decide) ?_
    refine j_icmp_ne (tgt := 71) dX7_street_64 (by decide) (fun c_8 => ?_) (fun c_8 => ?_)
    · have H := H.1 c_8
      refine j_aload_n 0 dX7_street_71 rfl rfl ?_
      refine j_get 0 fl_X7_7 dX7_street_72 rfl rfl ?_
      refine j_iconst (v := 3) dX7_street_75 (by decide) ?_
      refine j_iload_n 1 dX7_street_76 rfl rfl ?_
      refine j_imul dX7_street_77 ?_
      refine j_iconst (v := 1) dX7_street_78 (by decide) ?_
      refine j_iadd dX7_street_79 ?_
      refine j_iald 1 dX7_street_80 rfl h_7 ?_
      refine j_bipush (v := 48) dX7_street_81 (by decide) ?_
      refine j_isub dX7_street_83 ?_
      refine j_iast (w' := (mdW G ad 0 (va_up (va_up a 1 (upd (a 1) (Int32.toNatClampNeg x1) r_5)) 2 (upd (a 2) (Int32.toNatClampNeg x1) (((a 0) (Int32.toNatClampNeg ((3 * x1) + 1))) - 48))) v hh)) 3 dX7_street_84 rfl h_6 rfl ?_
      refine j_aload_n 0 dX7_street_85 rfl rfl ?_
      refine j_get 0 fl_X7_47 dX7_street_86 rfl rfl ?_
      refine j_iload_n 1 dX7_street_89 rfl rfl ?_
      refine j_iconst (v := (-1)) dX7_street_90 (by decide) ?_
      refine j_iast (w' := (mdW G ad 0 (va_up (va_up (va_up a 1 (upd (a 1) (Int32.toNatClampNeg x1) r_5)) 2 (upd (a 2) (Int32.toNatClampNeg x1) (((a 0) (Int32.toNatClampNeg ((3 * x1) + 1))) - 48))) 12 (upd (a 12) (Int32.toNatClampNeg x1) (-1))) v hh)) 13 dX7_street_91 rfl h_6 rfl ?_
      refine j_iinc (v := (x1 + 1)) (lo' := [(1, .int (x1 + 1)), (0, .ref (ad 0))]) 1 dX7_street_92 rfl rfl (by decide) rfl ?_
      refine j_goto (tgt := 24) dX7_street_95 (by decide) ?_
      refine j_lo [1, 0] rfl ?_
      exact H
    · have H := H.2 c_8
      refine j_iconst (v := (-1)) dX7_street_67 (by decide) ?_
      refine j_goto (tgt := 84) dX7_street_68 (by decide) ?_
      refine j_iast (w' := (mdW G ad 0 (va_up (va_up a 1 (upd (a 1) (Int32.toNatClampNeg x1) r_5)) 2 (upd (a 2) (Int32.toNatClampNeg x1) (-1))) v hh)) 3 dX7_street_84 rfl h_6 rfl ?_
      refine j_aload_n 0 dX7_street_85 rfl rfl ?_
      refine j_get 0 fl_X7_47 dX7_street_86 rfl rfl ?_
      refine j_iload_n 1 dX7_street_89 rfl rfl ?_
      refine j_iconst (v := (-1)) dX7_street_90 (by decide) ?_
      refine j_iast (w' := (mdW G ad 0 (va_up (va_up (va_up a 1 (upd (a 1) (Int32.toNatClampNeg x1) r_5)) 2 (upd (a 2) (Int32.toNatClampNeg x1) (-1))) 12 (upd (a 12) (Int32.toNatClampNeg x1) (-1))) v hh)) 13 dX7_street_91 rfl h_6 rfl ?_
      refine j_iinc (v := (x1 + 1)) (lo' := [(1, .int (x1 + 1)), (0, .ref (ad 0))]) 1 dX7_street_92 rfl rfl (by decide) rfl ?_
      refine j_goto (tgt := 24) dX7_street_95 (by decide) ?_
      refine j_lo [1, 0] rfl ?_
      exact H
set_option maxRecDepth 20000 in
theorem sg_X7_turn_0 {G : GG} {ad : Nat → Nat} {a : Nat → Nat → Int32} {v : Nat → Int32} {hh : Int64} {x1 : Int32} {x2 : Int32} {Q : Option Value → va_W → Prop} (H : J G mX7_isGutter 0 [(0, .ref (ad 0)), (1, .int x1)] [] (mdW G ad 0 a v hh) (fun v_ w_ => ∃ (r_1 : Int32), v_ = some (.int r_1) ∧ w_ = (mdW G ad 0 a v hh) ∧ (((¬ r_1 = 0) → (((x2 = (-1)) → (vp_in x1 6) ∧ Q (some (.int ((a 2) (Int32.toNatClampNeg x1)))) (mdW G ad 0 (va_up a 2 (upd (a 2) (Int32.toNatClampNeg x1) x2)) v hh)) ∧ ((¬ x2 = (-1)) → J G mX7_in 0 [(0, .long (Int32.toInt64 x2)), (2, .long (Int32.toInt64 (x1 + 1))), (4, .long 5)] [] ([] : va_W) (fun v_ w_ => ∃ (r_5 : Int32), v_ = some (.int r_5) ∧ w_ = ([] : va_W) ∧ (((¬ r_5 = 0) → (vp_in x1 6) ∧ Q (some (.int ((a 2) (Int32.toNatClampNeg x1)))) (mdW G ad 0 (va_up a 2 (upd (a 2) (Int32.toNatClampNeg x1) x2)) v hh)) ∧ ((r_5 = 0) → Q (some (.int (-102))) (mdW G ad 0 a v hh))))))) ∧ ((r_1 = 0) → Q (some (.int (-101))) (mdW G ad 0 a v hh))))) : J G mX7_turn 0 [(0, .ref (ad 0)), (1, .int x1), (2, .int x2)] [] (mdW G ad 0 a v hh) Q := by
  refine j_aload_n 0 dX7_turn_0 rfl rfl ?_
  refine j_iload_n 1 dX7_turn_1 rfl rfl ?_
  refine j_callV0 (q0 := 0) (As := [.int x1]) (st := []) ml_X7_isGutter vl_X7_119 dX7_turn_2 rfl rfl rfl (Nat.le_of_ble_eq_true rfl) ⟨by decide, by decide⟩ rfl rfl (Nat.le_of_ble_eq_true rfl) (J.mono (fun v_ w_ hp_ => ?_) H)
  obtain ⟨r_1, rfl, rfl, H⟩ := hp_
  refine j_if_ne (tgt := 11) dX7_turn_5 (by decide) (fun c_2 => ?_) (fun c_2 => ?_)
  · have H := H.1 c_2
    refine j_iload_n 2 dX7_turn_11 rfl rfl ?_
    refine j_iconst (v := (-1)) dX7_turn_12 (by decide) ?_
    refine j_icmp_eq (tgt := 34) dX7_turn_13 (by decide) (fun c_3 => ?_) (fun c_3 => ?_)
    · have H := H.1 c_3
      refine j_aload_n 0 dX7_turn_34 rfl rfl ?_
      refine j_get 0 fl_X7_16 dX7_turn_35 rfl rfl ?_
      refine j_iload_n 1 dX7_turn_38 rfl rfl ?_
      obtain ⟨h_4, H⟩ := H
      refine j_iald 3 dX7_turn_39 rfl h_4 ?_
      refine j_istore_n (lo' := [(3, .int ((a 2) (Int32.toNatClampNeg x1))), (0, .ref (ad 0)), (1, .int x1), (2, .int x2)]) dX7_turn_40 rfl (by decide) rfl ?_
      refine j_aload_n 1 dX7_turn_41 rfl rfl ?_
      refine j_get 0 fl_X7_16 dX7_turn_42 rfl rfl ?_
      refine j_iload_n 2 dX7_turn_45 rfl rfl ?_
      refine j_iload_n 3 dX7_turn_46 rfl rfl ?_
      refine j_iast (w' := (mdW G ad 0 (va_up a 2 (upd (a 2) (Int32.toNatClampNeg x1) x2)) v hh)) 3 dX7_turn_47 rfl h_4 rfl ?_
      refine j_iload_n 0 dX7_turn_48 rfl rfl ?_
      exact j_iret dX7_turn_49 rfl H
    · have H := H.2 c_3
      refine j_iload_n 2 dX7_turn_16 rfl rfl ?_
      refine j_i2l dX7_turn_17 ?_
      refine j_iload_n 1 dX7_turn_18 rfl rfl ?_
      refine j_iconst (v := 1) dX7_turn_19 (by decide) ?_
      refine j_iadd dX7_turn_20 ?_
      refine j_i2l dX7_turn_21 ?_
      refine j_ldc2 cl_X7_88 dX7_turn_22 ?_
      refine j_callS0 (As := [.long (Int32.toInt64 x2), .long (Int32.toInt64 (x1 + 1)), .long 5]) (st := []) ml_X7_in sl_X7_77 dX7_turn_25 (Nat.le_of_ble_eq_true rfl) ⟨by decide, by decide⟩ rfl rfl (Nat.le_of_ble_eq_true rfl) (J.mono (fun v_ w_ hp_ => ?_) H)
      obtain ⟨r_5, rfl, rfl, H⟩ := hp_
      refine j_if_ne (tgt := 34) dX7_turn_28 (by decide) (fun c_6 => ?_) (fun c_6 => ?_)
      · have H := H.1 c_6
        refine j_aload_n 0 dX7_turn_34 rfl rfl ?_
        refine j_get 0 fl_X7_16 dX7_turn_35 rfl rfl ?_
        refine j_iload_n 1 dX7_turn_38 rfl rfl ?_
        obtain ⟨h_7, H⟩ := H
        refine j_iald 3 dX7_turn_39 rfl h_7 ?_
        refine j_istore_n (lo' := [(3, .int ((a 2) (Int32.toNatClampNeg x1))), (0, .ref (ad 0)), (1, .int x1), (2, .int x2)]) dX7_turn_40 rfl (by decide) rfl ?_
        refine j_aload_n 1 dX7_turn_41 rfl rfl ?_
        refine j_get 0 fl_X7_16 dX7_turn_42 rfl rfl ?_
        refine j_iload_n 2 dX7_turn_45 rfl rfl ?_
        refine j_iload_n 3 dX7_turn_46 rfl rfl ?_
        refine j_iast (w' := (mdW G ad 0 (va_up a 2 (upd (a 2) (Int32.toNatClampNeg x1) x2)) v hh)) 3 dX7_turn_47 rfl h_7 rfl ?_
        refine j_iload_n 0 dX7_turn_48 rfl rfl ?_
        exact j_iret dX7_turn_49 rfl H
      · have H := H.2 c_6
        refine j_bipush (v := (-102)) dX7_turn_31 (by decide) ?_
        exact j_iret dX7_turn_33 rfl H
  · have H := H.2 c_2
    refine j_bipush (v := (-101)) dX7_turn_8 (by decide) ?_
    exact j_iret dX7_turn_10 rfl H
set_option maxRecDepth 20000 in
theorem sg_X7_word_0 {G : GG} {ad : Nat → Nat} {a : Nat → Nat → Int32} {v : Nat → Int32} {hh : Int64} {x1 : Int32} {x2 : Int32} {Q : Option Value → va_W → Prop} (H : J G mX7_isGutter 0 [(0, .ref (ad 0)), (1, .int x1)] [] (mdW G ad 0 a v hh) (fun v_ w_ => ∃ (r_1 : Int32), v_ = some (.int r_1) ∧ w_ = (mdW G ad 0 a v hh) ∧ (((r_1 = 0) → Q (some (.int (-101))) (mdW G ad 0 a v hh)) ∧ ((¬ r_1 = 0) → (vp_in ((17 * x1) + 4) 102) ∧ J G mX7_in 0 [(0, .long (Int32.toInt64 x2)), (2, .long 0), (4, .long (Int32.toInt64 (((a 3) (Int32.toNatClampNeg ((17 * x1) + 4))) - 1)))] [] ([] : va_W) (fun v_ w_ => ∃ (r_4 : Int32), v_ = some (.int r_4) ∧ w_ = ([] : va_W) ∧ (((r_4 = 0) → Q (some (.int (-101))) (mdW G ad 0 a v hh)) ∧ ((¬ r_4 = 0) → (vp_in (((17 * x1) + 5) + x2) 102) ∧ Q (some (.int ((a 3) (Int32.toNatClampNeg (((17 * x1) + 5) + x2))))) (mdW G ad 0 a v hh)))))))) : J G mX7_word 0 [(0, .ref (ad 0)), (1, .int x1), (2, .int x2)] [] (mdW G ad 0 a v hh) Q := by
  refine j_aload_n 0 dX7_word_0 rfl rfl ?_
  refine j_iload_n 1 dX7_word_1 rfl rfl ?_
  refine j_callV0 (q0 := 0) (As := [.int x1]) (st := []) ml_X7_isGutter vl_X7_119 dX7_word_2 rfl rfl rfl (Nat.le_of_ble_eq_true rfl) ⟨by decide, by decide⟩ rfl rfl (Nat.le_of_ble_eq_true rfl) (J.mono (fun v_ w_ hp_ => ?_) H)
  obtain ⟨r_1, rfl, rfl, H⟩ := hp_
  refine j_if_eq (tgt := 47) dX7_word_5 (by decide) (fun c_2 => ?_) (fun c_2 => ?_)
  · have H := H.1 c_2
    refine j_bipush (v := (-101)) dX7_word_47 (by decide) ?_
    exact j_iret dX7_word_49 rfl H
  · have H := H.2 c_2
    refine j_iload_n 2 dX7_word_8 rfl rfl ?_
    refine j_i2l dX7_word_9 ?_
    refine j_lconst (v := 0) dX7_word_10 (by decide) ?_
    refine j_aload_n 0 dX7_word_11 rfl rfl ?_
    refine j_get 0 fl_X7_19 dX7_word_12 rfl rfl ?_
    refine j_bipush (v := 17) dX7_word_15 (by decide) ?_
    refine j_iload_n 1 dX7_word_17 rfl rfl ?_
    refine j_imul dX7_word_18 ?_
    refine j_iconst (v := 4) dX7_word_19 (by decide) ?_
    refine j_iadd dX7_word_20 ?_
    obtain ⟨h_3, H⟩ := H
    refine j_iald 4 dX7_word_21 rfl h_3 ?_
    refine j_iconst (v := 1) dX7_word_22 (by decide) ?_
    refine j_isub dX7_word_23 ?_
    refine j_i2l dX7_word_24 ?_
    refine j_callS0 (As := [.long (Int32.toInt64 x2), .long 0, .long (Int32.toInt64 (((a 3) (Int32.toNatClampNeg ((17 * x1) + 4))) - 1))]) (st := []) ml_X7_in sl_X7_77 dX7_word_25 (Nat.le_of_ble_eq_true rfl) ⟨by decide, by decide⟩ rfl rfl (Nat.le_of_ble_eq_true rfl) (J.mono (fun v_ w_ hp_ => ?_) H)
    obtain ⟨r_4, rfl, rfl, H⟩ := hp_
    refine j_if_eq (tgt := 47) dX7_word_28 (by decide) (fun c_5 => ?_) (fun c_5 => ?_)
    · have H := H.1 c_5
      refine j_bipush (v := (-101)) dX7_word_47 (by decide) ?_
      exact j_iret dX7_word_49 rfl H
    · have H := H.2 c_5
      refine j_aload_n 0 dX7_word_31 rfl rfl ?_
      refine j_get 0 fl_X7_19 dX7_word_32 rfl rfl ?_
      refine j_bipush (v := 17) dX7_word_35 (by decide) ?_
      refine j_iload_n 1 dX7_word_37 rfl rfl ?_
      refine j_imul dX7_word_38 ?_
      refine j_iconst (v := 5) dX7_word_39 (by decide) ?_
      refine j_iadd dX7_word_40 ?_
      refine j_iload_n 2 dX7_word_41 rfl rfl ?_
      refine j_iadd dX7_word_42 ?_
      obtain ⟨h_6, H⟩ := H
      refine j_iald 4 dX7_word_43 rfl h_6 ?_
      refine j_goto (tgt := 49) dX7_word_44 (by decide) ?_
      exact j_iret dX7_word_49 rfl H
