set_option maxRecDepth 20000 in
theorem sg_X0_add_0 {G : GG} {ad : Nat → Nat} {g : Nat → Int32} {l : Nat → Int32} {n : Int32} {x1 : Int32} {x2 : Int32} {Q : Option Value → va_W → Prop} (H : (((12 ≤ n) → Q none (faW G ad 0 g l n)) ∧ ((¬ 12 ≤ n) → (vp_in n 12) ∧ Q none (faW G ad 0 (upd g (Int32.toNatClampNeg n) x1) (upd l (Int32.toNatClampNeg n) x2) (n + 1))))) : J G mX0_add 0 [(0, .ref (ad 0)), (1, .int x1), (2, .int x2)] [] (faW G ad 0 g l n) Q := by
  refine j_aload_n 0 dX0_add_0 rfl rfl ?_
  refine j_get 0 fl_X0_18 dX0_add_1 rfl rfl ?_
  refine j_bipush (v := 12) dX0_add_4 (by decide) ?_
  refine j_icmp_ge (tgt := 39) dX0_add_6 (by decide) (fun c_1 => ?_) (fun c_1 => ?_)
  · have H := H.1 c_1
    exact j_vret dX0_add_39 rfl H
  · have H := H.2 c_1
    refine j_aload_n 0 dX0_add_9 rfl rfl ?_
    refine j_get 0 fl_X0_9 dX0_add_10 rfl rfl ?_
    refine j_aload_n 0 dX0_add_13 rfl rfl ?_
    refine j_get 0 fl_X0_18 dX0_add_14 rfl rfl ?_
    refine j_iload_n 1 dX0_add_17 rfl rfl ?_
    obtain ⟨h_2, H⟩ := H
    refine j_iast (w' := (faW G ad 0 (upd g (Int32.toNatClampNeg n) x1) l n)) 1 dX0_add_18 rfl h_2 rfl ?_
    refine j_aload_n 0 dX0_add_19 rfl rfl ?_
    refine j_get 0 fl_X0_15 dX0_add_20 rfl rfl ?_
    refine j_aload_n 0 dX0_add_23 rfl rfl ?_
    refine j_get 0 fl_X0_18 dX0_add_24 rfl rfl ?_
    refine j_iload_n 2 dX0_add_27 rfl rfl ?_
    refine j_iast (w' := (faW G ad 0 (upd g (Int32.toNatClampNeg n) x1) (upd l (Int32.toNatClampNeg n) x2) n)) 2 dX0_add_28 rfl h_2 rfl ?_
    refine j_aload_n 0 dX0_add_29 rfl rfl ?_
    refine j_dup dX0_add_30 rfl ?_
    refine j_get 0 fl_X0_18 dX0_add_31 rfl rfl ?_
    refine j_iconst (v := 1) dX0_add_34 (by decide) ?_
    refine j_iadd dX0_add_35 ?_
    refine j_put (w' := (faW G ad 0 (upd g (Int32.toNatClampNeg n) x1) (upd l (Int32.toNatClampNeg n) x2) (n + 1))) 0 fp_X0_18 dX0_add_36 rfl rfl rfl (Nat.le_of_ble_eq_true rfl) rfl ?_
    exact j_vret dX0_add_39 rfl H
set_option maxRecDepth 20000 in
theorem sg_X0_takeAll_0 {G : GG} {ad : Nat → Nat} {g : Nat → Int32} {l : Nat → Int32} {n : Int32} {g1 : Nat → Int32} {l1 : Nat → Int32} {n1 : Int32} {Q : Option Value → va_W → Prop} (H : Q none (faW G ad 0 (va_cpy g1 g 0 0 12) (va_cpy l1 l 0 0 12) n1 ++ (faW G ad 3 g1 l1 n1))) : J G mX0_takeAll 0 [(0, .ref (ad 0)), (1, .ref (ad 3))] [] (faW G ad 0 g l n ++ (faW G ad 3 g1 l1 n1)) Q := by
  refine j_aload_n 1 dX0_takeAll_0 rfl rfl ?_
  refine j_get 3 fl_X0_9 dX0_takeAll_1 rfl rfl ?_
  refine j_iconst (v := 0) dX0_takeAll_4 (by decide) ?_
  refine j_aload_n 0 dX0_takeAll_5 rfl rfl ?_
  refine j_get 0 fl_X0_9 dX0_takeAll_6 rfl rfl ?_
  refine j_iconst (v := 0) dX0_takeAll_9 (by decide) ?_
  refine j_bipush (v := 12) dX0_takeAll_10 (by decide) ?_
  refine j_cpy (w' := (faW G ad 0 (va_cpy g1 g 0 0 12) l n ++ (faW G ad 3 g1 l1 n1))) 4 1 0 0 12 ac_X0_22 dX0_takeAll_12 rfl rfl (by decide) (by decide) (by decide) (by decide) (Nat.le_of_ble_eq_true rfl) rfl ?_
  refine j_aload_n 1 dX0_takeAll_15 rfl rfl ?_
  refine j_get 3 fl_X0_15 dX0_takeAll_16 rfl rfl ?_
  refine j_iconst (v := 0) dX0_takeAll_19 (by decide) ?_
  refine j_aload_n 0 dX0_takeAll_20 rfl rfl ?_
  refine j_get 0 fl_X0_15 dX0_takeAll_21 rfl rfl ?_
  refine j_iconst (v := 0) dX0_takeAll_24 (by decide) ?_
  refine j_bipush (v := 12) dX0_takeAll_25 (by decide) ?_
  refine j_cpy (w' := (faW G ad 0 (va_cpy g1 g 0 0 12) (va_cpy l1 l 0 0 12) n ++ (faW G ad 3 g1 l1 n1))) 5 2 0 0 12 ac_X0_22 dX0_takeAll_27 rfl rfl (by decide) (by decide) (by decide) (by decide) (Nat.le_of_ble_eq_true rfl) rfl ?_
  refine j_aload_n 0 dX0_takeAll_30 rfl rfl ?_
  refine j_aload_n 1 dX0_takeAll_31 rfl rfl ?_
  refine j_get 3 fl_X0_18 dX0_takeAll_32 rfl rfl ?_
  refine j_put (w' := (faW G ad 0 (va_cpy g1 g 0 0 12) (va_cpy l1 l 0 0 12) n1 ++ (faW G ad 3 g1 l1 n1))) 0 fp_X0_18 dX0_takeAll_35 rfl rfl rfl (Nat.le_of_ble_eq_true rfl) rfl ?_
  exact j_vret dX0_takeAll_38 rfl H
set_option maxRecDepth 20000 in
theorem sg_X1_clear_0 {G : GG} {ad : Nat → Nat} {fn : Nat → Int32} {fd : Nat → Nat → Int32} {Q : Option Value → va_W → Prop} (H : J G mJ7_fill_53178 0 [(0, .ref ((pk ad [2]) 0)), (1, .int (-1))] [] (arW G (pk ad [2]) 0 6 fn) (fun v_ w_ => ∃ (f_1 : Nat → Int32), v_ = none ∧ w_ = (arW G (pk ad [2]) 0 6 f_1) ∧ Q none (fiW G ad 0 f_1 fd))) : J G mX1_clear 0 [(0, .ref (ad 0))] [] (fiW G ad 0 fn fd) Q := by
  refine j_aload_n 0 dX1_clear_0 rfl rfl ?_
  refine j_get 0 fl_X1_16 dX1_clear_1 rfl rfl ?_
  refine j_iconst (v := (-1)) dX1_clear_4 (by decide) ?_
  refine j_callS (wc := (arW G (pk ad [2]) 0 6 fn)) (As := [.ref ((pk ad [2]) 0), .int (-1)]) (st := []) ml_J7_fill_53178 sl_X1_23 dX1_clear_5 [none, none, some 0] ⟨rfl, Nat.le_of_ble_eq_true rfl, rfl, rfl⟩ (Nat.le_of_ble_eq_true rfl) ⟨by decide, by decide⟩ rfl rfl (Nat.le_of_ble_eq_true rfl) (J.mono (fun v_ w_ hp_ => ?_) H)
  obtain ⟨f_1, rfl, rfl, H⟩ := hp_
  refine j_w (w' := (fiW G ad 0 f_1 fd)) rfl ?_
  exact j_vret dX1_clear_8 rfl H
set_option maxRecDepth 20000 in
theorem sg_X1_countFound_0 {G : GG} {ad : Nat → Nat} {fn : Nat → Int32} {fd : Nat → Nat → Int32} {Q : Option Value → va_W → Prop} (H : J G mX1_countFound 13 [(0, .ref (ad 0)), (1, .int 0), (2, .ref (ad 2)), (3, .int 6), (4, .int 0)] [] (fiW G ad 0 fn fd) Q) : J G mX1_countFound 0 [(0, .ref (ad 0))] [] (fiW G ad 0 fn fd) Q := by
  refine j_iconst (v := 0) dX1_countFound_0 (by decide) ?_
  refine j_istore_n (lo' := [(1, .int 0), (0, .ref (ad 0))]) dX1_countFound_1 rfl (by decide) rfl ?_
  refine j_aload_n 1 dX1_countFound_2 rfl rfl ?_
  refine j_get 0 fl_X1_16 dX1_countFound_3 rfl rfl ?_
  refine j_astore_n (lo' := [(2, .ref (ad 2)), (1, .int 0), (0, .ref (ad 0))]) dX1_countFound_6 rfl (by decide) rfl ?_
  refine j_aload_n 0 dX1_countFound_7 rfl rfl ?_
  refine j_alen (v := 6) 2 dX1_countFound_8 rfl (by decide) ?_
  refine j_istore_n (lo' := [(3, .int 6), (2, .ref (ad 2)), (1, .int 0), (0, .ref (ad 0))]) dX1_countFound_9 rfl (by decide) rfl ?_
  refine j_iconst (v := 0) dX1_countFound_10 (by decide) ?_
  refine j_istore (lo' := [(4, .int 0), (3, .int 6), (2, .ref (ad 2)), (1, .int 0), (0, .ref (ad 0))]) dX1_countFound_11 (by decide) rfl ?_
  refine j_lo [4, 3, 2, 1, 0] rfl ?_
  exact H
set_option maxRecDepth 20000 in
theorem sg_X1_countFound_13 {G : GG} {ad : Nat → Nat} {fn : Nat → Int32} {fd : Nat → Nat → Int32} {x1 : Int32} {x3 : Int32} {x4 : Int32} {Q : Option Value → va_W → Prop} (H : (((x3 ≤ x4) → Q (some (.int x1)) (fiW G ad 0 fn fd)) ∧ ((¬ x3 ≤ x4) → (vp_in x4 6) ∧ (((¬ (fn (Int32.toNatClampNeg x4)) = (-1)) → J G mX1_countFound 13 [(0, .ref (ad 0)), (1, .int (x1 + 1)), (2, .ref (ad 2)), (3, .int x3), (4, .int (x4 + 1))] [] (fiW G ad 0 fn fd) Q) ∧ (((fn (Int32.toNatClampNeg x4)) = (-1)) → J G mX1_countFound 13 [(0, .ref (ad 0)), (1, .int (x1 + 0)), (2, .ref (ad 2)), (3, .int x3), (4, .int (x4 + 1))] [] (fiW G ad 0 fn fd) Q))))) : J G mX1_countFound 13 [(0, .ref (ad 0)), (1, .int x1), (2, .ref (ad 2)), (3, .int x3), (4, .int x4)] [] (fiW G ad 0 fn fd) Q := by
  refine j_iload 4 dX1_countFound_13 rfl ?_
  refine j_iload_n 3 dX1_countFound_15 rfl rfl ?_
  refine j_icmp_ge (tgt := 45) dX1_countFound_16 (by decide) (fun c_1 => ?_) (fun c_1 => ?_)
  · have H := H.1 c_1
    refine j_iload_n 1 dX1_countFound_45 rfl rfl ?_
    exact j_iret dX1_countFound_46 rfl H
  · have H := H.2 c_1
    refine j_aload_n 2 dX1_countFound_19 rfl rfl ?_
    refine j_iload 4 dX1_countFound_20 rfl ?_
    obtain ⟨h_2, H⟩ := H
    refine j_iald 2 dX1_countFound_22 rfl h_2 ?_
    refine j_istore (lo' := [(5, .int (fn (Int32.toNatClampNeg x4))), (0, .ref (ad 0)), (1, .int x1), (2, .ref (ad 2)), (3, .int x3), (4, .int x4)]) dX1_countFound_23 (by decide) rfl ?_
    refine j_iload_n 2 dX1_countFound_25 rfl rfl ?_
    refine j_iload 0 dX1_countFound_26 rfl ?_
    refine j_iconst (v := (-1)) dX1_countFound_28 (by decide) ?_
    refine j_icmp_ne (tgt := 36) dX1_countFound_29 (by decide) (fun c_3 => ?_) (fun c_3 => ?_)
    · have H := H.1 c_3
      refine j_iconst (v := 1) dX1_countFound_36 (by decide) ?_
      refine j_iadd dX1_countFound_37 ?_
      refine j_istore_n (lo' := [(1, .int (x1 + 1)), (5, .int (fn (Int32.toNatClampNeg x4))), (0, .ref (ad 0)), (2, .ref (ad 2)), (3, .int x3), (4, .int x4)]) dX1_countFound_38 rfl (by decide) rfl ?_
      refine j_iinc (v := (x4 + 1)) (lo' := [(4, .int (x4 + 1)), (1, .int (x1 + 1)), (5, .int (fn (Int32.toNatClampNeg x4))), (0, .ref (ad 0)), (2, .ref (ad 2)), (3, .int x3)]) 5 dX1_countFound_39 rfl rfl (by decide) rfl ?_
      refine j_goto (tgt := 13) dX1_countFound_42 (by decide) ?_
      refine j_lo [3, 1, 4, 5, 0] rfl ?_
      exact H
    · have H := H.2 c_3
      refine j_iconst (v := 0) dX1_countFound_32 (by decide) ?_
      refine j_goto (tgt := 37) dX1_countFound_33 (by decide) ?_
      refine j_iadd dX1_countFound_37 ?_
      refine j_istore_n (lo' := [(1, .int (x1 + 0)), (5, .int (fn (Int32.toNatClampNeg x4))), (0, .ref (ad 0)), (2, .ref (ad 2)), (3, .int x3), (4, .int x4)]) dX1_countFound_38 rfl (by decide) rfl ?_
      refine j_iinc (v := (x4 + 1)) (lo' := [(4, .int (x4 + 1)), (1, .int (x1 + 0)), (5, .int (fn (Int32.toNatClampNeg x4))), (0, .ref (ad 0)), (2, .ref (ad 2)), (3, .int x3)]) 5 dX1_countFound_39 rfl rfl (by decide) rfl ?_
      refine j_goto (tgt := 13) dX1_countFound_42 (by decide) ?_
      refine j_lo [3, 1, 4, 5, 0] rfl ?_
      exact H
set_option maxRecDepth 20000 in
theorem sg_X4_wordIs_0 {G : GG} {ad : Nat → Nat} {u : Nat → Nat → Int32} {d : Nat → Nat → Int32} {f2 : Nat → Int32} {x1 : Int32} {L2 : Nat} {x3 : Int32} {Q : Option Value → va_W → Prop} (H : (vp_in x1 6) ∧ (((((u 6) (Int32.toNatClampNeg x1)) = x3) → J G mX4_wordIs 15 [(0, .ref (ad 0)), (1, .int x1), (2, .ref (ad 15)), (3, .int x3), (4, .int 0)] [] (stW G ad 0 u d ++ (arW G ad 15 L2 f2)) Q) ∧ ((¬ ((u 6) (Int32.toNatClampNeg x1)) = x3) → Q (some (.int 0)) (stW G ad 0 u d ++ (arW G ad 15 L2 f2))))) : J G mX4_wordIs 0 [(0, .ref (ad 0)), (1, .int x1), (2, .ref (ad 15)), (3, .int x3)] [] (stW G ad 0 u d ++ (arW G ad 15 L2 f2)) Q := by
  refine j_aload_n 0 dX4_wordIs_0 rfl rfl ?_
  refine j_get 0 fl_X4_30 dX4_wordIs_1 rfl rfl ?_
  refine j_iload_n 1 dX4_wordIs_4 rfl rfl ?_
  obtain ⟨h_1, H⟩ := H
  refine j_iald 7 dX4_wordIs_5 rfl h_1 ?_
  refine j_iload_n 3 dX4_wordIs_6 rfl rfl ?_
  refine j_icmp_eq (tgt := 12) dX4_wordIs_7 (by decide) (fun c_2 => ?_) (fun c_2 => ?_)
  · have H := H.1 c_2
    refine j_iconst (v := 0) dX4_wordIs_12 (by decide) ?_
    refine j_istore (lo' := [(4, .int 0), (0, .ref (ad 0)), (1, .int x1), (2, .ref (ad 15)), (3, .int x3)]) dX4_wordIs_13 (by decide) rfl ?_
    refine j_lo [1, 2, 3, 4, 0] rfl ?_
    exact H
  · have H := H.2 c_2
    refine j_iconst (v := 0) dX4_wordIs_10 (by decide) ?_
    exact j_zret dX4_wordIs_11 rfl (by decide) H
set_option maxRecDepth 20000 in
theorem sg_X4_wordIs_15 {G : GG} {ad : Nat → Nat} {u : Nat → Nat → Int32} {d : Nat → Nat → Int32} {f2 : Nat → Int32} {L2 : Nat} {x1 : Int32} {x3 : Int32} {x4 : Int32} {Q : Option Value → va_W → Prop} (H : (((x3 ≤ x4) → Q (some (.int 1)) (stW G ad 0 u d ++ (arW G ad 15 L2 f2))) ∧ ((¬ x3 ≤ x4) → ((((nI L2) ≤ x4) → Q (some (.int 1)) (stW G ad 0 u d ++ (arW G ad 15 L2 f2))) ∧ ((¬ (nI L2) ≤ x4) → (vp_in x1 6) ∧ (vp_in x4 12) ∧ (vp_in x4 L2) ∧ (((((d (Int32.toNatClampNeg x1)) (Int32.toNatClampNeg x4)) = (f2 (Int32.toNatClampNeg x4))) → J G mX4_wordIs 15 [(0, .ref (ad 0)), (1, .int x1), (2, .ref (ad 15)), (3, .int x3), (4, .int (x4 + 1))] [] (stW G ad 0 u d ++ (arW G ad 15 L2 f2)) Q) ∧ ((¬ ((d (Int32.toNatClampNeg x1)) (Int32.toNatClampNeg x4)) = (f2 (Int32.toNatClampNeg x4))) → Q (some (.int 0)) (stW G ad 0 u d ++ (arW G ad 15 L2 f2))))))))) : J G mX4_wordIs 15 [(0, .ref (ad 0)), (1, .int x1), (2, .ref (ad 15)), (3, .int x3), (4, .int x4)] [] (stW G ad 0 u d ++ (arW G ad 15 L2 f2)) Q := by
  refine j_iload 4 dX4_wordIs_15 rfl ?_
  refine j_iload_n 3 dX4_wordIs_17 rfl rfl ?_
  refine j_icmp_ge (tgt := 52) dX4_wordIs_18 (by decide) (fun c_1 => ?_) (fun c_1 => ?_)
  · have H := H.1 c_1
    refine j_iconst (v := 1) dX4_wordIs_52 (by decide) ?_
    exact j_zret dX4_wordIs_53 rfl (by decide) H
  · have H := H.2 c_1
    refine j_iload 4 dX4_wordIs_21 rfl ?_
    refine j_aload_n 2 dX4_wordIs_23 rfl rfl ?_
    refine j_alen (v := (nI L2)) 15 dX4_wordIs_24 rfl rfl ?_
    refine j_icmp_ge (tgt := 52) dX4_wordIs_25 (by decide) (fun c_2 => ?_) (fun c_2 => ?_)
    · have H := H.1 c_2
      refine j_iconst (v := 1) dX4_wordIs_52 (by decide) ?_
      exact j_zret dX4_wordIs_53 rfl (by decide) H
    · have H := H.2 c_2
      refine j_aload_n 0 dX4_wordIs_28 rfl rfl ?_
      refine j_get 0 fl_X4_35 dX4_wordIs_29 rfl rfl ?_
      refine j_iload_n 1 dX4_wordIs_32 rfl rfl ?_
      obtain ⟨h_3, H⟩ := H
      refine j_aald 8 dX4_wordIs_33 rfl h_3 (ow_rf h_3) ?_
      refine j_iload 4 dX4_wordIs_34 rfl ?_
      obtain ⟨h_4, H⟩ := H
      refine j_iald (9 + (Int32.toNatClampNeg x1)) dX4_wordIs_36 (row6 (P := fun k_ => (stW G ad 0 u d ++ (arW G ad 15 L2 f2))[9 + k_]? = some (ad (9 + k_), .inl (G.2.1.1, 12, .inl (d k_)))) rfl rfl rfl rfl rfl rfl (in_lt h_3)) h_4 ?_
      refine j_aload_n 2 dX4_wordIs_37 rfl rfl ?_
      refine j_iload 4 dX4_wordIs_38 rfl ?_
      obtain ⟨h_5, H⟩ := H
      refine j_iald 15 dX4_wordIs_40 rfl h_5 ?_
      refine j_icmp_eq (tgt := 46) dX4_wordIs_41 (by decide) (fun c_6 => ?_) (fun c_6 => ?_)
      · have H := H.1 c_6
        refine j_iinc (v := (x4 + 1)) (lo' := [(4, .int (x4 + 1)), (0, .ref (ad 0)), (1, .int x1), (2, .ref (ad 15)), (3, .int x3)]) 4 dX4_wordIs_46 rfl rfl (by decide) rfl ?_
        refine j_goto (tgt := 15) dX4_wordIs_49 (by decide) ?_
        refine j_lo [1, 2, 3, 4, 0] rfl ?_
        exact H
      · have H := H.2 c_6
        refine j_iconst (v := 0) dX4_wordIs_44 (by decide) ?_
        exact j_zret dX4_wordIs_45 rfl (by decide) H
set_option maxRecDepth 20000 in
theorem sg_X1_fit_0 {G : GG} {ad : Nat → Nat} {fn : Nat → Int32} {fd : Nat → Nat → Int32} {u1 : Nat → Nat → Int32} {d1 : Nat → Nat → Int32} {Q : Option Value → va_W → Prop} (H : J G mX1_fit 2 [(0, .ref (ad 0)), (1, .ref (ad 9)), (2, .int 0)] [] (fiW G ad 0 fn fd ++ (stW G ad 9 u1 d1)) Q) : J G mX1_fit 0 [(0, .ref (ad 0)), (1, .ref (ad 9))] [] (fiW G ad 0 fn fd ++ (stW G ad 9 u1 d1)) Q := by
  refine j_iconst (v := 0) dX1_fit_0 (by decide) ?_
  refine j_istore_n (lo' := [(2, .int 0), (0, .ref (ad 0)), (1, .ref (ad 9))]) dX1_fit_1 rfl (by decide) rfl ?_
  refine j_lo [1, 2, 0] rfl ?_
  exact H
set_option maxRecDepth 20000 in
theorem sg_X1_fit_2 {G : GG} {ad : Nat → Nat} {fn : Nat → Int32} {fd : Nat → Nat → Int32} {u1 : Nat → Nat → Int32} {d1 : Nat → Nat → Int32} {x2 : Int32} {Q : Option Value → va_W → Prop} (H : (((6 ≤ x2) → Q (some (.int 1)) (fiW G ad 0 fn fd ++ (stW G ad 9 u1 d1))) ∧ ((¬ 6 ≤ x2) → (vp_in x2 6) ∧ ((((fn (Int32.toNatClampNeg x2)) = (-1)) → J G mX1_fit 2 [(0, .ref (ad 0)), (1, .ref (ad 9)), (2, .int (x2 + 1))] [] (fiW G ad 0 fn fd ++ (stW G ad 9 u1 d1)) Q) ∧ ((¬ (fn (Int32.toNatClampNeg x2)) = (-1)) → J G mX4_wordIs 0 [(0, .ref ((pk ad [9, 10, 11, 12, 13, 14, 15, 16, 17, 18, 19, 20, 21, 22, 23, 3 + (Int32.toNatClampNeg x2)]) 0)), (1, .int x2), (2, .ref ((pk ad [9, 10, 11, 12, 13, 14, 15, 16, 17, 18, 19, 20, 21, 22, 23, 3 + (Int32.toNatClampNeg x2)]) 15)), (3, .int (fn (Int32.toNatClampNeg x2)))] [] (stW G (pk ad [9, 10, 11, 12, 13, 14, 15, 16, 17, 18, 19, 20, 21, 22, 23, 3 + (Int32.toNatClampNeg x2)]) 0 u1 d1 ++ (arW G (pk ad [9, 10, 11, 12, 13, 14, 15, 16, 17, 18, 19, 20, 21, 22, 23, 3 + (Int32.toNatClampNeg x2)]) 15 8 (fd (Int32.toNatClampNeg x2)))) (fun v_ w_ => ∃ (r_4 : Int32), v_ = some (.int r_4) ∧ w_ = (stW G (pk ad [9, 10, 11, 12, 13, 14, 15, 16, 17, 18, 19, 20, 21, 22, 23, 3 + (Int32.toNatClampNeg x2)]) 0 u1 d1 ++ (arW G (pk ad [9, 10, 11, 12, 13, 14, 15, 16, 17, 18, 19, 20, 21, 22, 23, 3 + (Int32.toNatClampNeg x2)]) 15 8 (fd (Int32.toNatClampNeg x2)))) ∧ (((¬ r_4 = 0) → J G mX1_fit 2 [(0, .ref (ad 0)), (1, .ref (ad 9)), (2, .int (x2 + 1))] [] (fiW G ad 0 fn fd ++ (stW G ad 9 u1 d1)) Q) ∧ ((r_4 = 0) → Q (some (.int 0)) (fiW G ad 0 fn fd ++ (stW G ad 9 u1 d1)))))))))) : J G mX1_fit 2 [(0, .ref (ad 0)), (1, .ref (ad 9)), (2, .int x2)] [] (fiW G ad 0 fn fd ++ (stW G ad 9 u1 d1)) Q := by
  refine j_iload_n 2 dX1_fit_2 rfl rfl ?_
  refine j_bipush (v := 6) dX1_fit_3 (by decide) ?_
  refine j_icmp_ge (tgt := 46) dX1_fit_5 (by decide) (fun c_1 => ?_) (fun c_1 => ?_)
  · have H := H.1 c_1
    refine j_iconst (v := 1) dX1_fit_46 (by decide) ?_
    exact j_zret dX1_fit_47 rfl (by decide) H
  · have H := H.2 c_1
    refine j_aload_n 0 dX1_fit_8 rfl rfl ?_
    refine j_get 0 fl_X1_16 dX1_fit_9 rfl rfl ?_
    refine j_iload_n 2 dX1_fit_12 rfl rfl ?_
    obtain ⟨h_2, H⟩ := H
    refine j_iald 2 dX1_fit_13 rfl h_2 ?_
    refine j_iconst (v := (-1)) dX1_fit_14 (by decide) ?_
    refine j_icmp_eq (tgt := 40) dX1_fit_15 (by decide) (fun c_3 => ?_) (fun c_3 => ?_)
    · have H := H.1 c_3
      refine j_iinc (v := (x2 + 1)) (lo' := [(2, .int (x2 + 1)), (0, .ref (ad 0)), (1, .ref (ad 9))]) 2 dX1_fit_40 rfl rfl (by decide) rfl ?_
      refine j_goto (tgt := 2) dX1_fit_43 (by decide) ?_
      refine j_lo [1, 2, 0] rfl ?_
      exact H
    · have H := H.2 c_3
      refine j_aload_n 1 dX1_fit_18 rfl rfl ?_
      refine j_iload_n 2 dX1_fit_19 rfl rfl ?_
      refine j_aload_n 0 dX1_fit_20 rfl rfl ?_
      refine j_get 0 fl_X1_11 dX1_fit_21 rfl rfl ?_
      refine j_iload_n 2 dX1_fit_24 rfl rfl ?_
      refine j_aald 1 dX1_fit_25 rfl h_2 (ow_rf h_2) ?_
      refine j_aload_n 0 dX1_fit_26 rfl rfl ?_
      refine j_get 0 fl_X1_16 dX1_fit_27 rfl rfl ?_
      refine j_iload_n 2 dX1_fit_30 rfl rfl ?_
      refine j_iald 2 dX1_fit_31 rfl h_2 ?_
      refine j_callV (q0 := 0) (wc := (stW G (pk ad [9, 10, 11, 12, 13, 14, 15, 16, 17, 18, 19, 20, 21, 22, 23, 3 + (Int32.toNatClampNeg x2)]) 0 u1 d1 ++ (arW G (pk ad [9, 10, 11, 12, 13, 14, 15, 16, 17, 18, 19, 20, 21, 22, 23, 3 + (Int32.toNatClampNeg x2)]) 15 8 (fd (Int32.toNatClampNeg x2))))) (As := [.int x2, .ref ((pk ad [9, 10, 11, 12, 13, 14, 15, 16, 17, 18, 19, 20, 21, 22, 23, 3 + (Int32.toNatClampNeg x2)]) 15), .int (fn (Int32.toNatClampNeg x2))]) (st := []) ml_X4_wordIs vl_X1_29 dX1_fit_32 (List.set [none, none, none, none, none, none, none, none, none, some 0, some 1, some 2, some 3, some 4, some 5, some 6, some 7, some 8, some 9, some 10, some 11, some 12, some 13, some 14] (3 + (Int32.toNatClampNeg x2)) (some 15)) (row6 (P := fun k_ => Lay (fiW G ad 0 fn fd ++ (stW G ad 9 u1 d1)) (stW G (pk ad [9, 10, 11, 12, 13, 14, 15, 16, 17, 18, 19, 20, 21, 22, 23, 3 + k_]) 0 u1 d1 ++ (arW G (pk ad [9, 10, 11, 12, 13, 14, 15, 16, 17, 18, 19, 20, 21, 22, 23, 3 + k_]) 15 8 (fd k_))) (List.set [none, none, none, none, none, none, none, none, none, some 0, some 1, some 2, some 3, some 4, some 5, some 6, some 7, some 8, some 9, some 10, some 11, some 12, some 13, some 14] (3 + k_) (some 15))) ⟨rfl, Nat.le_of_ble_eq_true rfl, rfl, rfl⟩ ⟨rfl, Nat.le_of_ble_eq_true rfl, rfl, rfl⟩ ⟨rfl, Nat.le_of_ble_eq_true rfl, rfl, rfl⟩ ⟨rfl, Nat.le_of_ble_eq_true rfl, rfl, rfl⟩ ⟨rfl, Nat.le_of_ble_eq_true rfl, rfl, rfl⟩ ⟨rfl, Nat.le_of_ble_eq_true rfl, rfl, rfl⟩ (in_lt h_2)) rfl rfl rfl (Nat.le_of_ble_eq_true rfl) ⟨by decide, by decide⟩ rfl rfl (Nat.le_of_ble_eq_true rfl) (J.mono (fun v_ w_ hp_ => ?_) H)
      obtain ⟨r_4, rfl, rfl, H⟩ := hp_
      refine j_w (w' := (fiW G ad 0 fn fd ++ (stW G ad 9 u1 d1))) (row6 (P := fun k_ => mrg (fiW G ad 0 fn fd ++ (stW G ad 9 u1 d1)) (stW G (pk ad [9, 10, 11, 12, 13, 14, 15, 16, 17, 18, 19, 20, 21, 22, 23, 3 + k_]) 0 u1 d1 ++ (arW G (pk ad [9, 10, 11, 12, 13, 14, 15, 16, 17, 18, 19, 20, 21, 22, 23, 3 + k_]) 15 8 (fd k_))) (List.set [none, none, none, none, none, none, none, none, none, some 0, some 1, some 2, some 3, some 4, some 5, some 6, some 7, some 8, some 9, some 10, some 11, some 12, some 13, some 14] (3 + k_) (some 15)) = (fiW G ad 0 fn fd ++ (stW G ad 9 u1 d1))) rfl rfl rfl rfl rfl rfl (in_lt h_2)) ?_
      refine j_if_ne (tgt := 40) dX1_fit_35 (by decide) (fun c_5 => ?_) (fun c_5 => ?_)
      · have H := H.1 c_5
        refine j_iinc (v := (x2 + 1)) (lo' := [(2, .int (x2 + 1)), (0, .ref (ad 0)), (1, .ref (ad 9))]) 2 dX1_fit_40 rfl rfl (by decide) rfl ?_
        refine j_goto (tgt := 2) dX1_fit_43 (by decide) ?_
        refine j_lo [1, 2, 0] rfl ?_
        exact H
      · have H := H.2 c_5
        refine j_iconst (v := 0) dX1_fit_38 (by decide) ?_
        exact j_zret dX1_fit_39 rfl (by decide) H
set_option maxRecDepth 20000 in
theorem sg_X1_takeAll_0 {G : GG} {ad : Nat → Nat} {fn : Nat → Int32} {fd : Nat → Nat → Int32} {fn1 : Nat → Int32} {fd1 : Nat → Nat → Int32} {Q : Option Value → va_W → Prop} (H : J G mX1_takeAll 17 [(0, .ref (ad 0)), (1, .ref (ad 9)), (2, .int 0)] [] (fiW G ad 0 (va_cpy fn1 fn 0 0 6) fd ++ (fiW G ad 9 fn1 fd1)) Q) : J G mX1_takeAll 0 [(0, .ref (ad 0)), (1, .ref (ad 9))] [] (fiW G ad 0 fn fd ++ (fiW G ad 9 fn1 fd1)) Q := by
  refine j_aload_n 1 dX1_takeAll_0 rfl rfl ?_
  refine j_get 9 fl_X1_16 dX1_takeAll_1 rfl rfl ?_
  refine j_iconst (v := 0) dX1_takeAll_4 (by decide) ?_
  refine j_aload_n 0 dX1_takeAll_5 rfl rfl ?_
  refine j_get 0 fl_X1_16 dX1_takeAll_6 rfl rfl ?_
  refine j_iconst (v := 0) dX1_takeAll_9 (by decide) ?_
  refine j_bipush (v := 6) dX1_takeAll_10 (by decide) ?_
  refine j_cpy (w' := (fiW G ad 0 (va_cpy fn1 fn 0 0 6) fd ++ (fiW G ad 9 fn1 fd1))) 11 2 0 0 6 ac_X1_35 dX1_takeAll_12 rfl rfl (by decide) (by decide) (by decide) (by decide) (Nat.le_of_ble_eq_true rfl) rfl ?_
  refine j_iconst (v := 0) dX1_takeAll_15 (by decide) ?_
  refine j_istore_n (lo' := [(2, .int 0), (0, .ref (ad 0)), (1, .ref (ad 9))]) dX1_takeAll_16 rfl (by decide) rfl ?_
  refine j_lo [1, 2, 0] rfl ?_
  exact H
set_option maxRecDepth 20000 in
theorem sg_X1_takeAll_17 {G : GG} {ad : Nat → Nat} {fn : Nat → Int32} {fd : Nat → Nat → Int32} {fn1 : Nat → Int32} {fd1 : Nat → Nat → Int32} {x2 : Int32} {Q : Option Value → va_W → Prop} (H : (((6 ≤ x2) → Q none (fiW G ad 0 fn fd ++ (fiW G ad 9 fn1 fd1))) ∧ ((¬ 6 ≤ x2) → (vp_in x2 6) ∧ J G mX1_takeAll 17 [(0, .ref (ad 0)), (1, .ref (ad 9)), (2, .int (x2 + 1))] [] (fiW G ad 0 fn (va_up fd (Int32.toNatClampNeg x2) (va_cpy (fd1 (Int32.toNatClampNeg x2)) (fd (Int32.toNatClampNeg x2)) 0 0 8)) ++ (fiW G ad 9 fn1 fd1)) Q))) : J G mX1_takeAll 17 [(0, .ref (ad 0)), (1, .ref (ad 9)), (2, .int x2)] [] (fiW G ad 0 fn fd ++ (fiW G ad 9 fn1 fd1)) Q := by
  refine j_iload_n 2 dX1_takeAll_17 rfl rfl ?_
  refine j_bipush (v := 6) dX1_takeAll_18 (by decide) ?_
  refine j_icmp_ge (tgt := 48) dX1_takeAll_20 (by decide) (fun c_1 => ?_) (fun c_1 => ?_)
  · have H := H.1 c_1
    exact j_vret dX1_takeAll_48 rfl H
  · have H := H.2 c_1
    refine j_aload_n 1 dX1_takeAll_23 rfl rfl ?_
    refine j_get 9 fl_X1_11 dX1_takeAll_24 rfl rfl ?_
    refine j_iload_n 2 dX1_takeAll_27 rfl rfl ?_
    obtain ⟨h_2, H⟩ := H
    refine j_aald 10 dX1_takeAll_28 rfl h_2 (ow_rf h_2) ?_
    refine j_iconst (v := 0) dX1_takeAll_29 (by decide) ?_
    refine j_aload_n 0 dX1_takeAll_30 rfl rfl ?_
    refine j_get 0 fl_X1_11 dX1_takeAll_31 rfl rfl ?_
    refine j_iload_n 2 dX1_takeAll_34 rfl rfl ?_
    refine j_aald 1 dX1_takeAll_35 rfl h_2 (ow_rf h_2) ?_
    refine j_iconst (v := 0) dX1_takeAll_36 (by decide) ?_
    refine j_bipush (v := 8) dX1_takeAll_37 (by decide) ?_
    refine j_cpy (w' := (fiW G ad 0 fn (va_up fd (Int32.toNatClampNeg x2) (va_cpy (fd1 (Int32.toNatClampNeg x2)) (fd (Int32.toNatClampNeg x2)) 0 0 8)) ++ (fiW G ad 9 fn1 fd1))) (12 + (Int32.toNatClampNeg x2)) (3 + (Int32.toNatClampNeg x2)) 0 0 8 ac_X1_35 dX1_takeAll_39 (row6 (P := fun k_ => (fiW G ad 0 fn fd ++ (fiW G ad 9 fn1 fd1))[12 + k_]? = some (ad (12 + k_), .inl (G.2.1.1, 8, .inl (fd1 k_)))) rfl rfl rfl rfl rfl rfl (in_lt h_2)) (row6 (P := fun k_ => (fiW G ad 0 fn fd ++ (fiW G ad 9 fn1 fd1))[3 + k_]? = some (ad (3 + k_), .inl (G.2.1.1, 8, .inl (fd k_)))) rfl rfl rfl rfl rfl rfl (in_lt h_2)) (by decide) (by decide) (by decide) (by decide) (Nat.le_of_ble_eq_true rfl) (row6 (P := fun k_ => (fiW G ad 0 fn fd ++ (fiW G ad 9 fn1 fd1)).set (3 + k_) (ad (3 + k_), .inl (G.2.1.1, 8, .inl (va_cpy (fd1 (Int32.toNatClampNeg x2)) (fd k_) 0 0 8))) = (fiW G ad 0 fn (va_up fd k_ (va_cpy (fd1 (Int32.toNatClampNeg x2)) (fd k_) 0 0 8)) ++ (fiW G ad 9 fn1 fd1))) rfl rfl rfl rfl rfl rfl (in_lt h_2)) ?_
    refine j_iinc (v := (x2 + 1)) (lo' := [(2, .int (x2 + 1)), (0, .ref (ad 0)), (1, .ref (ad 9))]) 2 dX1_takeAll_42 rfl rfl (by decide) rfl ?_
    refine j_goto (tgt := 17) dX1_takeAll_45 (by decide) ?_
    refine j_lo [1, 2, 0] rfl ?_
    exact H
set_option maxRecDepth 20000 in
theorem sg_X2_copyLetters_0 {G : GG} {ad : Nat → Nat} {pf : Nat → Int32} {pn : Int32} {f1 : Nat → Int32} {L1 : Nat} {Q : Option Value → va_W → Prop} (H : J G mX2_copyLetters 2 [(0, .ref (ad 0)), (1, .ref (ad 2)), (2, .int 0)] [] (pgW G ad 0 pf pn ++ (arW G ad 2 L1 f1)) Q) : J G mX2_copyLetters 0 [(0, .ref (ad 0)), (1, .ref (ad 2))] [] (pgW G ad 0 pf pn ++ (arW G ad 2 L1 f1)) Q := by
  refine j_iconst (v := 0) dX2_copyLetters_0 (by decide) ?_
  refine j_istore_n (lo' := [(2, .int 0), (0, .ref (ad 0)), (1, .ref (ad 2))]) dX2_copyLetters_1 rfl (by decide) rfl ?_
  refine j_lo [1, 2, 0] rfl ?_
  exact H
set_option maxRecDepth 20000 in
theorem sg_X2_copyLetters_2 {G : GG} {ad : Nat → Nat} {pf : Nat → Int32} {pn : Int32} {f1 : Nat → Int32} {L1 : Nat} {x2 : Int32} {Q : Option Value → va_W → Prop} (H : (((pn ≤ x2) → Q none (pgW G ad 0 pf pn ++ (arW G ad 2 L1 f1))) ∧ ((¬ pn ≤ x2) → ((((nI L1) ≤ x2) → Q none (pgW G ad 0 pf pn ++ (arW G ad 2 L1 f1))) ∧ ((¬ (nI L1) ≤ x2) → (vp_in x2 20) ∧ (vp_in x2 L1) ∧ J G mX2_copyLetters 2 [(0, .ref (ad 0)), (1, .ref (ad 2)), (2, .int (x2 + 1))] [] (pgW G ad 0 pf pn ++ (arW G ad 2 L1 (upd f1 (Int32.toNatClampNeg x2) ((pf (Int32.toNatClampNeg x2)) - 97)))) Q))))) : J G mX2_copyLetters 2 [(0, .ref (ad 0)), (1, .ref (ad 2)), (2, .int x2)] [] (pgW G ad 0 pf pn ++ (arW G ad 2 L1 f1)) Q := by
  refine j_iload_n 2 dX2_copyLetters_2 rfl rfl ?_
  refine j_aload_n 0 dX2_copyLetters_3 rfl rfl ?_
  refine j_get 0 fl_X2_15 dX2_copyLetters_4 rfl rfl ?_
  refine j_icmp_ge (tgt := 34) dX2_copyLetters_7 (by decide) (fun c_1 => ?_) (fun c_1 => ?_)
  · have H := H.1 c_1
    exact j_vret dX2_copyLetters_34 rfl H
  · have H := H.2 c_1
    refine j_iload_n 2 dX2_copyLetters_10 rfl rfl ?_
    refine j_aload_n 1 dX2_copyLetters_11 rfl rfl ?_
    refine j_alen (v := (nI L1)) 2 dX2_copyLetters_12 rfl rfl ?_
    refine j_icmp_ge (tgt := 34) dX2_copyLetters_13 (by decide) (fun c_2 => ?_) (fun c_2 => ?_)
    · have H := H.1 c_2
      exact j_vret dX2_copyLetters_34 rfl H
    · have H := H.2 c_2
      refine j_aload_n 1 dX2_copyLetters_16 rfl rfl ?_
      refine j_iload_n 2 dX2_copyLetters_17 rfl rfl ?_
      refine j_aload_n 0 dX2_copyLetters_18 rfl rfl ?_
      refine j_get 0 fl_X2_9 dX2_copyLetters_19 rfl rfl ?_
      refine j_iload_n 2 dX2_copyLetters_22 rfl rfl ?_
      obtain ⟨h_3, H⟩ := H
      refine j_iald 1 dX2_copyLetters_23 rfl h_3 ?_
      refine j_bipush (v := 97) dX2_copyLetters_24 (by decide) ?_
      refine j_isub dX2_copyLetters_26 ?_
      obtain ⟨h_4, H⟩ := H
      refine j_iast (w' := (pgW G ad 0 pf pn ++ (arW G ad 2 L1 (upd f1 (Int32.toNatClampNeg x2) ((pf (Int32.toNatClampNeg x2)) - 97))))) 2 dX2_copyLetters_27 rfl h_4 rfl ?_
      refine j_iinc (v := (x2 + 1)) (lo' := [(2, .int (x2 + 1)), (0, .ref (ad 0)), (1, .ref (ad 2))]) 2 dX2_copyLetters_28 rfl rfl (by decide) rfl ?_
      refine j_goto (tgt := 2) dX2_copyLetters_31 (by decide) ?_
      refine j_lo [1, 2, 0] rfl ?_
      exact H
set_option maxRecDepth 20000 in
theorem sg_X2_flowAt_0 {G : GG} {ad : Nat → Nat} {pf : Nat → Int32} {pn : Int32} {x1 : Int32} {x2 : Int32} {Q : Option Value → va_W → Prop} (H : (vp_in x1 20) ∧ (((¬ (pf (Int32.toNatClampNeg x1)) = 45) → (((((pf (Int32.toNatClampNeg x1)) - 48) ≤ x2) → Q (some (.int (-101))) (pgW G ad 0 pf pn)) ∧ ((¬ ((pf (Int32.toNatClampNeg x1)) - 48) ≤ x2) → (((6 ≤ ((pf (Int32.toNatClampNeg x1)) - 48)) → Q (some (.int (-101))) (pgW G ad 0 pf pn)) ∧ ((¬ 6 ≤ ((pf (Int32.toNatClampNeg x1)) - 48)) → Q (some (.int ((pf (Int32.toNatClampNeg x1)) - 48))) (pgW G ad 0 pf pn)))))) ∧ (((pf (Int32.toNatClampNeg x1)) = 45) → Q (some (.int (-1))) (pgW G ad 0 pf pn)))) : J G mX2_flowAt 0 [(0, .ref (ad 0)), (1, .int x1), (2, .int x2)] [] (pgW G ad 0 pf pn) Q := by
  refine j_aload_n 0 dX2_flowAt_0 rfl rfl ?_
  refine j_get 0 fl_X2_9 dX2_flowAt_1 rfl rfl ?_
  refine j_iload_n 1 dX2_flowAt_4 rfl rfl ?_
  obtain ⟨h_1, H⟩ := H
  refine j_iald 1 dX2_flowAt_5 rfl h_1 ?_
  refine j_istore_n (lo' := [(3, .int (pf (Int32.toNatClampNeg x1))), (0, .ref (ad 0)), (1, .int x1), (2, .int x2)]) dX2_flowAt_6 rfl (by decide) rfl ?_
  refine j_iload_n 0 dX2_flowAt_7 rfl rfl ?_
  refine j_bipush (v := 45) dX2_flowAt_8 (by decide) ?_
  refine j_icmp_ne (tgt := 15) dX2_flowAt_10 (by decide) (fun c_2 => ?_) (fun c_2 => ?_)
  · have H := H.1 c_2
    refine j_iload_n 0 dX2_flowAt_15 rfl rfl ?_
    refine j_bipush (v := 48) dX2_flowAt_16 (by decide) ?_
    refine j_isub dX2_flowAt_18 ?_
    refine j_istore (lo' := [(4, .int ((pf (Int32.toNatClampNeg x1)) - 48)), (3, .int (pf (Int32.toNatClampNeg x1))), (0, .ref (ad 0)), (1, .int x1), (2, .int x2)]) dX2_flowAt_19 (by decide) rfl ?_
    refine j_iload 0 dX2_flowAt_21 rfl ?_
    refine j_iload_n 4 dX2_flowAt_23 rfl rfl ?_
    refine j_icmp_le (tgt := 39) dX2_flowAt_24 (by decide) (fun c_3 => ?_) (fun c_3 => ?_)
    · have H := H.1 c_3
      refine j_bipush (v := (-101)) dX2_flowAt_39 (by decide) ?_
      exact j_iret dX2_flowAt_41 rfl H
    · have H := H.2 c_3
      refine j_iload 0 dX2_flowAt_27 rfl ?_
      refine j_bipush (v := 6) dX2_flowAt_29 (by decide) ?_
      refine j_icmp_ge (tgt := 39) dX2_flowAt_31 (by decide) (fun c_4 => ?_) (fun c_4 => ?_)
      · have H := H.1 c_4
        refine j_bipush (v := (-101)) dX2_flowAt_39 (by decide) ?_
        exact j_iret dX2_flowAt_41 rfl H
      · have H := H.2 c_4
        refine j_iload 0 dX2_flowAt_34 rfl ?_
        refine j_goto (tgt := 41) dX2_flowAt_36 (by decide) ?_
        exact j_iret dX2_flowAt_41 rfl H
  · have H := H.2 c_2
    refine j_iconst (v := (-1)) dX2_flowAt_13 (by decide) ?_
    exact j_iret dX2_flowAt_14 rfl H
set_option maxRecDepth 20000 in
theorem sg_X2_fitsStreet_0 {G : GG} {ad : Nat → Nat} {pf : Nat → Int32} {pn : Int32} {x1 : Int32} {Q : Option Value → va_W → Prop} (H : (((x1 < 17) → ((((x1 - x1 / 3 * 3) = 0) → J G mX2_kindAt 0 [(0, .ref (ad 0)), (1, .int x1)] [] (pgW G ad 0 pf pn) (fun v_ w_ => ∃ (r_2 : Int32), v_ = some (.int r_2) ∧ w_ = (pgW G ad 0 pf pn) ∧ (((r_2 < 0) → Q (some (.int 0)) (pgW G ad 0 pf pn)) ∧ ((¬ r_2 < 0) → Q (some (.int 1)) (pgW G ad 0 pf pn))))) ∧ (((x1 - x1 / 3 * 3) = 1) → J G mX2_flowAt 0 [(0, .ref (ad 0)), (1, .int x1), (2, .int (x1 / 3))] [] (pgW G ad 0 pf pn) (fun v_ w_ => ∃ (r_4 : Int32), v_ = some (.int r_4) ∧ w_ = (pgW G ad 0 pf pn) ∧ (((r_4 = (-101)) → Q (some (.int 0)) (pgW G ad 0 pf pn)) ∧ ((¬ r_4 = (-101)) → Q (some (.int 1)) (pgW G ad 0 pf pn))))) ∧ ((¬ (x1 - x1 / 3 * 3) = 0 ∧ ¬ (x1 - x1 / 3 * 3) = 1) → (vp_in x1 20) ∧ (((¬ (pf (Int32.toNatClampNeg x1)) = 44) → Q (some (.int 0)) (pgW G ad 0 pf pn)) ∧ (((pf (Int32.toNatClampNeg x1)) = 44) → Q (some (.int 1)) (pgW G ad 0 pf pn)))))) ∧ ((¬ x1 < 17) → Q (some (.int 0)) (pgW G ad 0 pf pn)))) : J G mX2_fitsStreet 0 [(0, .ref (ad 0)), (1, .int x1)] [] (pgW G ad 0 pf pn) Q := by
  refine j_iload_n 1 dX2_fitsStreet_0 rfl rfl ?_
  refine j_bipush (v := 17) dX2_fitsStreet_1 (by decide) ?_
  refine j_icmp_lt (tgt := 8) dX2_fitsStreet_3 (by decide) (fun c_1 => ?_) (fun c_1 => ?_)
  · have H := H.1 c_1
    refine j_iload_n 1 dX2_fitsStreet_8 rfl rfl ?_
    refine j_iconst (v := 3) dX2_fitsStreet_9 (by decide) ?_
    refine j_irem dX2_fitsStreet_10 (by decide) ?_
    refine j_lsw2 (v0 := 0) (v1 := 1) (t0 := 36) (t1 := 50) (dt := 69) dX2_fitsStreet_11 (by decide) (by decide) (by decide) (by decide) (fun hx => ?_) (fun hx => ?_) (fun hx => ?_)
    · have H := H.1 hx
      refine j_aload_n 0 dX2_fitsStreet_36 rfl rfl ?_
      refine j_iload_n 1 dX2_fitsStreet_37 rfl rfl ?_
      refine j_callV0 (q0 := 0) (As := [.int x1]) (st := []) ml_X2_kindAt vl_X2_37 dX2_fitsStreet_38 rfl rfl rfl (Nat.le_of_ble_eq_true rfl) ⟨by decide, by decide⟩ rfl rfl (Nat.le_of_ble_eq_true rfl) (J.mono (fun v_ w_ hp_ => ?_) H)
      obtain ⟨r_2, rfl, rfl, H⟩ := hp_
      refine j_if_lt (tgt := 48) dX2_fitsStreet_41 (by decide) (fun c_3 => ?_) (fun c_3 => ?_)
      · have H := H.1 c_3
        refine j_iconst (v := 0) dX2_fitsStreet_48 (by decide) ?_
        exact j_zret dX2_fitsStreet_49 rfl (by decide) H
      · have H := H.2 c_3
        refine j_iconst (v := 1) dX2_fitsStreet_44 (by decide) ?_
        refine j_goto (tgt := 49) dX2_fitsStreet_45 (by decide) ?_
        exact j_zret dX2_fitsStreet_49 rfl (by decide) H
    · have H := H.2.1 hx
      refine j_aload_n 0 dX2_fitsStreet_50 rfl rfl ?_
      refine j_iload_n 1 dX2_fitsStreet_51 rfl rfl ?_
      refine j_iload_n 1 dX2_fitsStreet_52 rfl rfl ?_
      refine j_iconst (v := 3) dX2_fitsStreet_53 (by decide) ?_
      refine j_idiv dX2_fitsStreet_54 (by decide) ?_
      refine j_callV0 (q0 := 0) (As := [.int x1, .int (x1 / 3)]) (st := []) ml_X2_flowAt vl_X2_40 dX2_fitsStreet_55 rfl rfl rfl (Nat.le_of_ble_eq_true rfl) ⟨by decide, by decide⟩ rfl rfl (Nat.le_of_ble_eq_true rfl) (J.mono (fun v_ w_ hp_ => ?_) H)
      obtain ⟨r_4, rfl, rfl, H⟩ := hp_
      refine j_bipush (v := (-101)) dX2_fitsStreet_58 (by decide) ?_
      refine j_icmp_eq (tgt := 67) dX2_fitsStreet_60 (by decide) (fun c_5 => ?_) (fun c_5 => ?_)
      · have H := H.1 c_5
        refine j_iconst (v := 0) dX2_fitsStreet_67 (by decide) ?_
        exact j_zret dX2_fitsStreet_68 rfl (by decide) H
      · have H := H.2 c_5
        refine j_iconst (v := 1) dX2_fitsStreet_63 (by decide) ?_
        refine j_goto (tgt := 68) dX2_fitsStreet_64 (by decide) ?_
        exact j_zret dX2_fitsStreet_68 rfl (by decide) H
    · have H := H.2.2 hx
      refine j_aload_n 0 dX2_fitsStreet_69 rfl rfl ?_
      refine j_get 0 fl_X2_9 dX2_fitsStreet_70 rfl rfl ?_
      refine j_iload_n 1 dX2_fitsStreet_73 rfl rfl ?_
      obtain ⟨h_6, H⟩ := H
      refine j_iald 1 dX2_fitsStreet_74 rfl h_6 ?_
      refine j_bipush (v := 44) dX2_fitsStreet_75 (by decide) ?_
      refine j_icmp_ne (tgt := 84) dX2_fitsStreet_77 (by decide) (fun c_7 => ?_) (fun c_7 => ?_)
      · have H := H.1 c_7
        refine j_iconst (v := 0) dX2_fitsStreet_84 (by decide) ?_
        exact j_zret dX2_fitsStreet_85 rfl (by decide) H
      · have H := H.2 c_7
        refine j_iconst (v := 1) dX2_fitsStreet_80 (by decide) ?_
        refine j_goto (tgt := 85) dX2_fitsStreet_81 (by decide) ?_
        exact j_zret dX2_fitsStreet_85 rfl (by decide) H
  · have H := H.2 c_1
    refine j_iconst (v := 0) dX2_fitsStreet_6 (by decide) ?_
    exact j_zret dX2_fitsStreet_7 rfl (by decide) H
set_option maxRecDepth 20000 in
theorem sg_X2_fitsWord_0 {G : GG} {ad : Nat → Nat} {pf : Nat → Int32} {pn : Int32} {x1 : Int32} {Q : Option Value → va_W → Prop} (H : (((8 ≤ x1) → Q (some (.int 0)) (pgW G ad 0 pf pn)) ∧ ((¬ 8 ≤ x1) → (vp_in x1 20) ∧ J G mX6_isLetter 0 [(0, .int ((pf (Int32.toNatClampNeg x1)) - 97))] [] ([] : va_W) (fun v_ w_ => ∃ (r_3 : Int32), v_ = some (.int r_3) ∧ w_ = ([] : va_W) ∧ (((r_3 = 0) → Q (some (.int 0)) (pgW G ad 0 pf pn)) ∧ ((¬ r_3 = 0) → Q (some (.int 1)) (pgW G ad 0 pf pn))))))) : J G mX2_fitsWord 0 [(0, .ref (ad 0)), (1, .int x1)] [] (pgW G ad 0 pf pn) Q := by
  refine j_iload_n 1 dX2_fitsWord_0 rfl rfl ?_
  refine j_bipush (v := 8) dX2_fitsWord_1 (by decide) ?_
  refine j_icmp_ge (tgt := 25) dX2_fitsWord_3 (by decide) (fun c_1 => ?_) (fun c_1 => ?_)
  · have H := H.1 c_1
    refine j_iconst (v := 0) dX2_fitsWord_25 (by decide) ?_
    exact j_zret dX2_fitsWord_26 rfl (by decide) H
  · have H := H.2 c_1
    refine j_aload_n 0 dX2_fitsWord_6 rfl rfl ?_
    refine j_get 0 fl_X2_9 dX2_fitsWord_7 rfl rfl ?_
    refine j_iload_n 1 dX2_fitsWord_10 rfl rfl ?_
    obtain ⟨h_2, H⟩ := H
    refine j_iald 1 dX2_fitsWord_11 rfl h_2 ?_
    refine j_bipush (v := 97) dX2_fitsWord_12 (by decide) ?_
    refine j_isub dX2_fitsWord_14 ?_
    refine j_callSN0 (As := [.int ((pf (Int32.toNatClampNeg x1)) - 97)]) (st := []) ml_X6_isLetter sl_X2_44 dX2_fitsWord_15 (Nat.le_of_ble_eq_true rfl) ⟨by decide, by decide⟩ rfl rfl (Nat.le_of_ble_eq_true rfl) (J.mono (fun v_ w_ hp_ => ?_) H)
    obtain ⟨r_3, rfl, rfl, H⟩ := hp_
    refine j_if_eq (tgt := 25) dX2_fitsWord_18 (by decide) (fun c_4 => ?_) (fun c_4 => ?_)
    · have H := H.1 c_4
      refine j_iconst (v := 0) dX2_fitsWord_25 (by decide) ?_
      exact j_zret dX2_fitsWord_26 rfl (by decide) H
    · have H := H.2 c_4
      refine j_iconst (v := 1) dX2_fitsWord_21 (by decide) ?_
      refine j_goto (tgt := 26) dX2_fitsWord_22 (by decide) ?_
      exact j_zret dX2_fitsWord_26 rfl (by decide) H
set_option maxRecDepth 20000 in
theorem sg_X2_firstFault_0 {G : GG} {ad : Nat → Nat} {pf : Nat → Int32} {pn : Int32} {x1 : Int32} {Q : Option Value → va_W → Prop} (H : J G mX2_firstFault 2 [(0, .ref (ad 0)), (1, .int x1), (2, .int 0)] [] (pgW G ad 0 pf pn) Q) : J G mX2_firstFault 0 [(0, .ref (ad 0)), (1, .int x1)] [] (pgW G ad 0 pf pn) Q := by
  refine j_iconst (v := 0) dX2_firstFault_0 (by decide) ?_
  refine j_istore_n (lo' := [(2, .int 0), (0, .ref (ad 0)), (1, .int x1)]) dX2_firstFault_1 rfl (by decide) rfl ?_
  refine j_lo [1, 2, 0] rfl ?_
  exact H
set_option maxRecDepth 20000 in
theorem sg_X2_firstFault_2 {G : GG} {ad : Nat → Nat} {pf : Nat → Int32} {pn : Int32} {x1 : Int32} {x2 : Int32} {Q : Option Value → va_W → Prop} (H : (((pn ≤ x2) → Q (some (.int pn)) (pgW G ad 0 pf pn)) ∧ ((¬ pn ≤ x2) → (((¬ x1 = 0) → J G mX2_fitsWord 0 [(0, .ref (ad 0)), (1, .int x2)] [] (pgW G ad 0 pf pn) (fun v_ w_ => ∃ (r_3 : Int32), v_ = some (.int r_3) ∧ w_ = (pgW G ad 0 pf pn) ∧ (((¬ r_3 = 0) → J G mX2_firstFault 2 [(0, .ref (ad 0)), (1, .int x1), (2, .int (x2 + 1))] [] (pgW G ad 0 pf pn) Q) ∧ ((r_3 = 0) → Q (some (.int x2)) (pgW G ad 0 pf pn))))) ∧ ((x1 = 0) → J G mX2_fitsStreet 0 [(0, .ref (ad 0)), (1, .int x2)] [] (pgW G ad 0 pf pn) (fun v_ w_ => ∃ (r_5 : Int32), v_ = some (.int r_5) ∧ w_ = (pgW G ad 0 pf pn) ∧ (((¬ r_5 = 0) → J G mX2_firstFault 2 [(0, .ref (ad 0)), (1, .int x1), (2, .int (x2 + 1))] [] (pgW G ad 0 pf pn) Q) ∧ ((r_5 = 0) → Q (some (.int x2)) (pgW G ad 0 pf pn))))))))) : J G mX2_firstFault 2 [(0, .ref (ad 0)), (1, .int x1), (2, .int x2)] [] (pgW G ad 0 pf pn) Q := by
  refine j_iload_n 2 dX2_firstFault_2 rfl rfl ?_
  refine j_aload_n 0 dX2_firstFault_3 rfl rfl ?_
  refine j_get 0 fl_X2_15 dX2_firstFault_4 rfl rfl ?_
  refine j_icmp_ge (tgt := 40) dX2_firstFault_7 (by decide) (fun c_1 => ?_) (fun c_1 => ?_)
  · have H := H.1 c_1
    refine j_aload_n 0 dX2_firstFault_40 rfl rfl ?_
    refine j_get 0 fl_X2_15 dX2_firstFault_41 rfl rfl ?_
    exact j_iret dX2_firstFault_44 rfl H
  · have H := H.2 c_1
    refine j_iload_n 1 dX2_firstFault_10 rfl rfl ?_
    refine j_if_ne (tgt := 22) dX2_firstFault_11 (by decide) (fun c_2 => ?_) (fun c_2 => ?_)
    · have H := H.1 c_2
      refine j_aload_n 0 dX2_firstFault_22 rfl rfl ?_
      refine j_iload_n 2 dX2_firstFault_23 rfl rfl ?_
      refine j_callV0 (q0 := 0) (As := [.int x2]) (st := []) ml_X2_fitsWord vl_X2_23 dX2_firstFault_24 rfl rfl rfl (Nat.le_of_ble_eq_true rfl) ⟨by decide, by decide⟩ rfl rfl (Nat.le_of_ble_eq_true rfl) (J.mono (fun v_ w_ hp_ => ?_) H)
      obtain ⟨r_3, rfl, rfl, H⟩ := hp_
      refine j_istore_n (lo' := [(3, .int r_3), (0, .ref (ad 0)), (1, .int x1), (2, .int x2)]) dX2_firstFault_27 rfl (by decide) rfl ?_
      refine j_iload_n 0 dX2_firstFault_28 rfl rfl ?_
      refine j_if_ne (tgt := 34) dX2_firstFault_29 (by decide) (fun c_4 => ?_) (fun c_4 => ?_)
      · have H := H.1 c_4
        refine j_iinc (v := (x2 + 1)) (lo' := [(2, .int (x2 + 1)), (3, .int r_3), (0, .ref (ad 0)), (1, .int x1)]) 3 dX2_firstFault_34 rfl rfl (by decide) rfl ?_
        refine j_goto (tgt := 2) dX2_firstFault_37 (by decide) ?_
        refine j_lo [2, 3, 0] rfl ?_
        exact H
      · have H := H.2 c_4
        refine j_iload_n 3 dX2_firstFault_32 rfl rfl ?_
        exact j_iret dX2_firstFault_33 rfl H
    · have H := H.2 c_2
      refine j_aload_n 0 dX2_firstFault_14 rfl rfl ?_
      refine j_iload_n 2 dX2_firstFault_15 rfl rfl ?_
      refine j_callV0 (q0 := 0) (As := [.int x2]) (st := []) ml_X2_fitsStreet vl_X2_19 dX2_firstFault_16 rfl rfl rfl (Nat.le_of_ble_eq_true rfl) ⟨by decide, by decide⟩ rfl rfl (Nat.le_of_ble_eq_true rfl) (J.mono (fun v_ w_ hp_ => ?_) H)
      obtain ⟨r_5, rfl, rfl, H⟩ := hp_
      refine j_goto (tgt := 27) dX2_firstFault_19 (by decide) ?_
      refine j_istore_n (lo' := [(3, .int r_5), (0, .ref (ad 0)), (1, .int x1), (2, .int x2)]) dX2_firstFault_27 rfl (by decide) rfl ?_
      refine j_iload_n 0 dX2_firstFault_28 rfl rfl ?_
      refine j_if_ne (tgt := 34) dX2_firstFault_29 (by decide) (fun c_6 => ?_) (fun c_6 => ?_)
      · have H := H.1 c_6
        refine j_iinc (v := (x2 + 1)) (lo' := [(2, .int (x2 + 1)), (3, .int r_5), (0, .ref (ad 0)), (1, .int x1)]) 3 dX2_firstFault_34 rfl rfl (by decide) rfl ?_
        refine j_goto (tgt := 2) dX2_firstFault_37 (by decide) ?_
        refine j_lo [2, 3, 0] rfl ?_
        exact H
      · have H := H.2 c_6
        refine j_iload_n 3 dX2_firstFault_32 rfl rfl ?_
        exact j_iret dX2_firstFault_33 rfl H
set_option maxRecDepth 20000 in
theorem sg_X2_isStreet_0 {G : GG} {ad : Nat → Nat} {pf : Nat → Int32} {pn : Int32} {Q : Option Value → va_W → Prop} (H : (((¬ pn = 17) → Q (some (.int 0)) (pgW G ad 0 pf pn)) ∧ ((pn = 17) → J G mX2_firstFault 0 [(0, .ref (ad 0)), (1, .int 0)] [] (pgW G ad 0 pf pn) (fun v_ w_ => ∃ (r_2 : Int32), v_ = some (.int r_2) ∧ w_ = (pgW G ad 0 pf pn) ∧ (((¬ r_2 = pn) → Q (some (.int 0)) (pgW G ad 0 pf pn)) ∧ ((r_2 = pn) → Q (some (.int 1)) (pgW G ad 0 pf pn))))))) : J G mX2_isStreet 0 [(0, .ref (ad 0))] [] (pgW G ad 0 pf pn) Q := by
  refine j_aload_n 0 dX2_isStreet_0 rfl rfl ?_
  refine j_get 0 fl_X2_15 dX2_isStreet_1 rfl rfl ?_
  refine j_bipush (v := 17) dX2_isStreet_4 (by decide) ?_
  refine j_icmp_ne (tgt := 25) dX2_isStreet_6 (by decide) (fun c_1 => ?_) (fun c_1 => ?_)
  · have H := H.1 c_1
    refine j_iconst (v := 0) dX2_isStreet_25 (by decide) ?_
    exact j_zret dX2_isStreet_26 rfl (by decide) H
  · have H := H.2 c_1
    refine j_aload_n 0 dX2_isStreet_9 rfl rfl ?_
    refine j_iconst (v := 0) dX2_isStreet_10 (by decide) ?_
    refine j_callV0 (q0 := 0) (As := [.int 0]) (st := []) ml_X2_firstFault vl_X2_26 dX2_isStreet_11 rfl rfl rfl (Nat.le_of_ble_eq_true rfl) ⟨by decide, by decide⟩ rfl rfl (Nat.le_of_ble_eq_true rfl) (J.mono (fun v_ w_ hp_ => ?_) H)
    obtain ⟨r_2, rfl, rfl, H⟩ := hp_
    refine j_aload_n 0 dX2_isStreet_14 rfl rfl ?_
    refine j_get 0 fl_X2_15 dX2_isStreet_15 rfl rfl ?_
    refine j_icmp_ne (tgt := 25) dX2_isStreet_18 (by decide) (fun c_3 => ?_) (fun c_3 => ?_)
    · have H := H.1 c_3
      refine j_iconst (v := 0) dX2_isStreet_25 (by decide) ?_
      exact j_zret dX2_isStreet_26 rfl (by decide) H
    · have H := H.2 c_3
      refine j_iconst (v := 1) dX2_isStreet_21 (by decide) ?_
      refine j_goto (tgt := 26) dX2_isStreet_22 (by decide) ?_
      exact j_zret dX2_isStreet_26 rfl (by decide) H
set_option maxRecDepth 20000 in
theorem sg_X2_isWord_0 {G : GG} {ad : Nat → Nat} {pf : Nat → Int32} {pn : Int32} {Q : Option Value → va_W → Prop} (H : (((pn ≤ 0) → Q (some (.int 0)) (pgW G ad 0 pf pn)) ∧ ((¬ pn ≤ 0) → J G mX2_firstFault 0 [(0, .ref (ad 0)), (1, .int 1)] [] (pgW G ad 0 pf pn) (fun v_ w_ => ∃ (r_2 : Int32), v_ = some (.int r_2) ∧ w_ = (pgW G ad 0 pf pn) ∧ (((¬ r_2 = pn) → Q (some (.int 0)) (pgW G ad 0 pf pn)) ∧ ((r_2 = pn) → Q (some (.int 1)) (pgW G ad 0 pf pn))))))) : J G mX2_isWord 0 [(0, .ref (ad 0))] [] (pgW G ad 0 pf pn) Q := by
  refine j_aload_n 0 dX2_isWord_0 rfl rfl ?_
  refine j_get 0 fl_X2_15 dX2_isWord_1 rfl rfl ?_
  refine j_if_le (tgt := 23) dX2_isWord_4 (by decide) (fun c_1 => ?_) (fun c_1 => ?_)
  · have H := H.1 c_1
    refine j_iconst (v := 0) dX2_isWord_23 (by decide) ?_
    exact j_zret dX2_isWord_24 rfl (by decide) H
  · have H := H.2 c_1
    refine j_aload_n 0 dX2_isWord_7 rfl rfl ?_
    refine j_iconst (v := 1) dX2_isWord_8 (by decide) ?_
    refine j_callV0 (q0 := 0) (As := [.int 1]) (st := []) ml_X2_firstFault vl_X2_26 dX2_isWord_9 rfl rfl rfl (Nat.le_of_ble_eq_true rfl) ⟨by decide, by decide⟩ rfl rfl (Nat.le_of_ble_eq_true rfl) (J.mono (fun v_ w_ hp_ => ?_) H)
    obtain ⟨r_2, rfl, rfl, H⟩ := hp_
    refine j_aload_n 0 dX2_isWord_12 rfl rfl ?_
    refine j_get 0 fl_X2_15 dX2_isWord_13 rfl rfl ?_
    refine j_icmp_ne (tgt := 23) dX2_isWord_16 (by decide) (fun c_3 => ?_) (fun c_3 => ?_)
    · have H := H.1 c_3
      refine j_iconst (v := 0) dX2_isWord_23 (by decide) ?_
      exact j_zret dX2_isWord_24 rfl (by decide) H
    · have H := H.2 c_3
      refine j_iconst (v := 1) dX2_isWord_19 (by decide) ?_
      refine j_goto (tgt := 24) dX2_isWord_20 (by decide) ?_
      exact j_zret dX2_isWord_24 rfl (by decide) H
set_option maxRecDepth 20000 in
theorem sg_X4_clear_0 {G : GG} {ad : Nat → Nat} {u : Nat → Nat → Int32} {d : Nat → Nat → Int32} {Q : Option Value → va_W → Prop} (H : J G mJ7_fill_53178 0 [(0, .ref ((pk ad [3]) 0)), (1, .int (-1))] [] (arW G (pk ad [3]) 0 6 (u 2)) (fun v_ w_ => ∃ (f_1 : Nat → Int32), v_ = none ∧ w_ = (arW G (pk ad [3]) 0 6 f_1) ∧ J G mJ7_fill_53178 0 [(0, .ref ((pk ad [4]) 0)), (1, .int 0)] [] (arW G (pk ad [4]) 0 6 (u 3)) (fun v_ w_ => ∃ (f_2 : Nat → Int32), v_ = none ∧ w_ = (arW G (pk ad [4]) 0 6 f_2) ∧ J G mJ7_fill_53178 0 [(0, .ref ((pk ad [5]) 0)), (1, .int 0)] [] (arW G (pk ad [5]) 0 6 (u 4)) (fun v_ w_ => ∃ (f_3 : Nat → Int32), v_ = none ∧ w_ = (arW G (pk ad [5]) 0 6 f_3) ∧ J G mJ7_fill_53178 0 [(0, .ref ((pk ad [6]) 0)), (1, .int 0)] [] (arW G (pk ad [6]) 0 6 (u 5)) (fun v_ w_ => ∃ (f_4 : Nat → Int32), v_ = none ∧ w_ = (arW G (pk ad [6]) 0 6 f_4) ∧ J G mJ7_fill_53178 0 [(0, .ref ((pk ad [7]) 0)), (1, .int 0)] [] (arW G (pk ad [7]) 0 6 (u 6)) (fun v_ w_ => ∃ (f_5 : Nat → Int32), v_ = none ∧ w_ = (arW G (pk ad [7]) 0 6 f_5) ∧ Q none (stW G ad 0 (va_up (va_up (va_up (va_up (va_up u 2 f_1) 3 f_2) 4 f_3) 5 f_4) 6 f_5) d))))))) : J G mX4_clear 0 [(0, .ref (ad 0))] [] (stW G ad 0 u d) Q := by
  refine j_aload_n 0 dX4_clear_0 rfl rfl ?_
  refine j_get 0 fl_X4_18 dX4_clear_1 rfl rfl ?_
  refine j_iconst (v := (-1)) dX4_clear_4 (by decide) ?_
  refine j_callS (wc := (arW G (pk ad [3]) 0 6 (u 2))) (As := [.ref ((pk ad [3]) 0), .int (-1)]) (st := []) ml_J7_fill_53178 sl_X4_38 dX4_clear_5 [none, none, none, some 0] ⟨rfl, Nat.le_of_ble_eq_true rfl, rfl, rfl⟩ (Nat.le_of_ble_eq_true rfl) ⟨by decide, by decide⟩ rfl rfl (Nat.le_of_ble_eq_true rfl) (J.mono (fun v_ w_ hp_ => ?_) H)
  obtain ⟨f_1, rfl, rfl, H⟩ := hp_
  refine j_w (w' := (stW G ad 0 (va_up u 2 f_1) d)) rfl ?_
  refine j_aload_n 0 dX4_clear_8 rfl rfl ?_
  refine j_get 0 fl_X4_21 dX4_clear_9 rfl rfl ?_
  refine j_iconst (v := 0) dX4_clear_12 (by decide) ?_
  refine j_callS (wc := (arW G (pk ad [4]) 0 6 (u 3))) (As := [.ref ((pk ad [4]) 0), .int 0]) (st := []) ml_J7_fill_53178 sl_X4_38 dX4_clear_13 [none, none, none, none, some 0] ⟨rfl, Nat.le_of_ble_eq_true rfl, rfl, rfl⟩ (Nat.le_of_ble_eq_true rfl) ⟨by decide, by decide⟩ rfl rfl (Nat.le_of_ble_eq_true rfl) (J.mono (fun v_ w_ hp_ => ?_) H)
  obtain ⟨f_2, rfl, rfl, H⟩ := hp_
  refine j_w (w' := (stW G ad 0 (va_up (va_up u 2 f_1) 3 f_2) d)) rfl ?_
  refine j_aload_n 0 dX4_clear_16 rfl rfl ?_
  refine j_get 0 fl_X4_24 dX4_clear_17 rfl rfl ?_
  refine j_iconst (v := 0) dX4_clear_20 (by decide) ?_
  refine j_callS (wc := (arW G (pk ad [5]) 0 6 (u 4))) (As := [.ref ((pk ad [5]) 0), .int 0]) (st := []) ml_J7_fill_53178 sl_X4_38 dX4_clear_21 [none, none, none, none, none, some 0] ⟨rfl, Nat.le_of_ble_eq_true rfl, rfl, rfl⟩ (Nat.le_of_ble_eq_true rfl) ⟨by decide, by decide⟩ rfl rfl (Nat.le_of_ble_eq_true rfl) (J.mono (fun v_ w_ hp_ => ?_) H)
  obtain ⟨f_3, rfl, rfl, H⟩ := hp_
  refine j_w (w' := (stW G ad 0 (va_up (va_up (va_up u 2 f_1) 3 f_2) 4 f_3) d)) rfl ?_
  refine j_aload_n 0 dX4_clear_24 rfl rfl ?_
  refine j_get 0 fl_X4_27 dX4_clear_25 rfl rfl ?_
  refine j_iconst (v := 0) dX4_clear_28 (by decide) ?_
  refine j_callS (wc := (arW G (pk ad [6]) 0 6 (u 5))) (As := [.ref ((pk ad [6]) 0), .int 0]) (st := []) ml_J7_fill_53178 sl_X4_38 dX4_clear_29 [none, none, none, none, none, none, some 0] ⟨rfl, Nat.le_of_ble_eq_true rfl, rfl, rfl⟩ (Nat.le_of_ble_eq_true rfl) ⟨by decide, by decide⟩ rfl rfl (Nat.le_of_ble_eq_true rfl) (J.mono (fun v_ w_ hp_ => ?_) H)
  obtain ⟨f_4, rfl, rfl, H⟩ := hp_
  refine j_w (w' := (stW G ad 0 (va_up (va_up (va_up (va_up u 2 f_1) 3 f_2) 4 f_3) 5 f_4) d)) rfl ?_
  refine j_aload_n 0 dX4_clear_32 rfl rfl ?_
  refine j_get 0 fl_X4_30 dX4_clear_33 rfl rfl ?_
  refine j_iconst (v := 0) dX4_clear_36 (by decide) ?_
  refine j_callS (wc := (arW G (pk ad [7]) 0 6 (u 6))) (As := [.ref ((pk ad [7]) 0), .int 0]) (st := []) ml_J7_fill_53178 sl_X4_38 dX4_clear_37 [none, none, none, none, none, none, none, some 0] ⟨rfl, Nat.le_of_ble_eq_true rfl, rfl, rfl⟩ (Nat.le_of_ble_eq_true rfl) ⟨by decide, by decide⟩ rfl rfl (Nat.le_of_ble_eq_true rfl) (J.mono (fun v_ w_ hp_ => ?_) H)
  obtain ⟨f_5, rfl, rfl, H⟩ := hp_
  refine j_w (w' := (stW G ad 0 (va_up (va_up (va_up (va_up (va_up u 2 f_1) 3 f_2) 4 f_3) 5 f_4) 6 f_5) d)) rfl ?_
  exact j_vret dX4_clear_40 rfl H
set_option maxRecDepth 20000 in
theorem sg_X4_layLike_0 {G : GG} {ad : Nat → Nat} {u : Nat → Nat → Int32} {d : Nat → Nat → Int32} {u1 : Nat → Nat → Int32} {d1 : Nat → Nat → Int32} {Q : Option Value → va_W → Prop} (H : J G mX4_clear 0 [(0, .ref ((pk ad [0, 1, 2, 3, 4, 5, 6, 7, 8, 9, 10, 11, 12, 13, 14]) 0))] [] (stW G (pk ad [0, 1, 2, 3, 4, 5, 6, 7, 8, 9, 10, 11, 12, 13, 14]) 0 (va_up (va_up u 0 (va_cpy (u1 0) (u 0) 0 0 6)) 1 (va_cpy (u1 1) (u 1) 0 0 6)) d) (fun v_ w_ => ∃ (u_1 : Nat → Nat → Int32), v_ = none ∧ w_ = (stW G (pk ad [0, 1, 2, 3, 4, 5, 6, 7, 8, 9, 10, 11, 12, 13, 14]) 0 u_1 d) ∧ Q none (stW G ad 0 u_1 d ++ (stW G ad 15 u1 d1)))) : J G mX4_layLike 0 [(0, .ref (ad 0)), (1, .ref (ad 15))] [] (stW G ad 0 u d ++ (stW G ad 15 u1 d1)) Q := by
  refine j_aload_n 1 dX4_layLike_0 rfl rfl ?_
  refine j_get 15 fl_X4_9 dX4_layLike_1 rfl rfl ?_
  refine j_iconst (v := 0) dX4_layLike_4 (by decide) ?_
  refine j_aload_n 0 dX4_layLike_5 rfl rfl ?_
  refine j_get 0 fl_X4_9 dX4_layLike_6 rfl rfl ?_
  refine j_iconst (v := 0) dX4_layLike_9 (by decide) ?_
  refine j_bipush (v := 6) dX4_layLike_10 (by decide) ?_
  refine j_cpy (w' := (stW G ad 0 (va_up u 0 (va_cpy (u1 0) (u 0) 0 0 6)) d ++ (stW G ad 15 u1 d1))) 16 1 0 0 6 ac_X4_44 dX4_layLike_12 rfl rfl (by decide) (by decide) (by decide) (by decide) (Nat.le_of_ble_eq_true rfl) rfl ?_
  refine j_aload_n 1 dX4_layLike_15 rfl rfl ?_
  refine j_get 15 fl_X4_15 dX4_layLike_16 rfl rfl ?_
  refine j_iconst (v := 0) dX4_layLike_19 (by decide) ?_
  refine j_aload_n 0 dX4_layLike_20 rfl rfl ?_
  refine j_get 0 fl_X4_15 dX4_layLike_21 rfl rfl ?_
  refine j_iconst (v := 0) dX4_layLike_24 (by decide) ?_
  refine j_bipush (v := 6) dX4_layLike_25 (by decide) ?_
  refine j_cpy (w' := (stW G ad 0 (va_up (va_up u 0 (va_cpy (u1 0) (u 0) 0 0 6)) 1 (va_cpy (u1 1) (u 1) 0 0 6)) d ++ (stW G ad 15 u1 d1))) 17 2 0 0 6 ac_X4_44 dX4_layLike_27 rfl rfl (by decide) (by decide) (by decide) (by decide) (Nat.le_of_ble_eq_true rfl) rfl ?_
  refine j_aload_n 0 dX4_layLike_30 rfl rfl ?_
  refine j_callV (q0 := 0) (wc := (stW G (pk ad [0, 1, 2, 3, 4, 5, 6, 7, 8, 9, 10, 11, 12, 13, 14]) 0 (va_up (va_up u 0 (va_cpy (u1 0) (u 0) 0 0 6)) 1 (va_cpy (u1 1) (u 1) 0 0 6)) d)) (As := []) (st := []) ml_X4_clear vl_X4_50 dX4_layLike_31 [some 0, some 1, some 2, some 3, some 4, some 5, some 6, some 7, some 8, some 9, some 10, some 11, some 12, some 13, some 14] ⟨rfl, Nat.le_of_ble_eq_true rfl, rfl, rfl⟩ rfl rfl rfl (Nat.le_of_ble_eq_true rfl) ⟨by decide, by decide⟩ rfl rfl (Nat.le_of_ble_eq_true rfl) (J.mono (fun v_ w_ hp_ => ?_) H)
  obtain ⟨u_1, rfl, rfl, H⟩ := hp_
  refine j_w (w' := (stW G ad 0 u_1 d ++ (stW G ad 15 u1 d1))) rfl ?_
  exact j_vret dX4_layLike_34 rfl H
set_option maxRecDepth 20000 in
theorem sg_X4_takeAll_0 {G : GG} {ad : Nat → Nat} {u : Nat → Nat → Int32} {d : Nat → Nat → Int32} {u1 : Nat → Nat → Int32} {d1 : Nat → Nat → Int32} {Q : Option Value → va_W → Prop} (H : J G mX4_layLike 0 [(0, .ref (ad 0)), (1, .ref (ad 15))] [] (stW G ad 0 u d ++ (stW G ad 15 u1 d1)) (fun v_ w_ => ∃ (u_1 : Nat → Nat → Int32), v_ = none ∧ w_ = (stW G ad 0 u_1 d ++ (stW G ad 15 u1 d1)) ∧ J G mX4_takeAll 82 [(0, .ref (ad 0)), (1, .ref (ad 15)), (2, .int 0)] [] (stW G ad 0 (va_up (va_up (va_up (va_up (va_up u_1 2 (va_cpy (u1 2) (u_1 2) 0 0 6)) 3 (va_cpy (u1 3) (u_1 3) 0 0 6)) 4 (va_cpy (u1 4) (u_1 4) 0 0 6)) 5 (va_cpy (u1 5) (u_1 5) 0 0 6)) 6 (va_cpy (u1 6) (u_1 6) 0 0 6)) d ++ (stW G ad 15 u1 d1)) Q)) : J G mX4_takeAll 0 [(0, .ref (ad 0)), (1, .ref (ad 15))] [] (stW G ad 0 u d ++ (stW G ad 15 u1 d1)) Q := by
  refine j_aload_n 0 dX4_takeAll_0 rfl rfl ?_
  refine j_aload_n 1 dX4_takeAll_1 rfl rfl ?_
  refine j_callV0 (q0 := 0) (As := [.ref (ad 15)]) (st := []) ml_X4_layLike vl_X4_53 dX4_takeAll_2 rfl rfl rfl (Nat.le_of_ble_eq_true rfl) ⟨by decide, by decide⟩ rfl rfl (Nat.le_of_ble_eq_true rfl) (J.mono (fun v_ w_ hp_ => ?_) H)
  obtain ⟨u_1, rfl, rfl, H⟩ := hp_
  refine j_aload_n 1 dX4_takeAll_5 rfl rfl ?_
  refine j_get 15 fl_X4_18 dX4_takeAll_6 rfl rfl ?_
  refine j_iconst (v := 0) dX4_takeAll_9 (by decide) ?_
  refine j_aload_n 0 dX4_takeAll_10 rfl rfl ?_
  refine j_get 0 fl_X4_18 dX4_takeAll_11 rfl rfl ?_
  refine j_iconst (v := 0) dX4_takeAll_14 (by decide) ?_
  refine j_bipush (v := 6) dX4_takeAll_15 (by decide) ?_
  refine j_cpy (w' := (stW G ad 0 (va_up u_1 2 (va_cpy (u1 2) (u_1 2) 0 0 6)) d ++ (stW G ad 15 u1 d1))) 18 3 0 0 6 ac_X4_44 dX4_takeAll_17 rfl rfl (by decide) (by decide) (by decide) (by decide) (Nat.le_of_ble_eq_true rfl) rfl ?_
  refine j_aload_n 1 dX4_takeAll_20 rfl rfl ?_
  refine j_get 15 fl_X4_21 dX4_takeAll_21 rfl rfl ?_
  refine j_iconst (v := 0) dX4_takeAll_24 (by decide) ?_
  refine j_aload_n 0 dX4_takeAll_25 rfl rfl ?_
  refine j_get 0 fl_X4_21 dX4_takeAll_26 rfl rfl ?_
  refine j_iconst (v := 0) dX4_takeAll_29 (by decide) ?_
  refine j_bipush (v := 6) dX4_takeAll_30 (by decide) ?_
  refine j_cpy (w' := (stW G ad 0 (va_up (va_up u_1 2 (va_cpy (u1 2) (u_1 2) 0 0 6)) 3 (va_cpy (u1 3) (u_1 3) 0 0 6)) d ++ (stW G ad 15 u1 d1))) 19 4 0 0 6 ac_X4_44 dX4_takeAll_32 rfl rfl (by decide) (by decide) (by decide) (by decide) (Nat.le_of_ble_eq_true rfl) rfl ?_
  refine j_aload_n 1 dX4_takeAll_35 rfl rfl ?_
  refine j_get 15 fl_X4_24 dX4_takeAll_36 rfl rfl ?_
  refine j_iconst (v := 0) dX4_takeAll_39 (by decide) ?_
  refine j_aload_n 0 dX4_takeAll_40 rfl rfl ?_
  refine j_get 0 fl_X4_24 dX4_takeAll_41 rfl rfl ?_
  refine j_iconst (v := 0) dX4_takeAll_44 (by decide) ?_
  refine j_bipush (v := 6) dX4_takeAll_45 (by decide) ?_
  refine j_cpy (w' := (stW G ad 0 (va_up (va_up (va_up u_1 2 (va_cpy (u1 2) (u_1 2) 0 0 6)) 3 (va_cpy (u1 3) (u_1 3) 0 0 6)) 4 (va_cpy (u1 4) (u_1 4) 0 0 6)) d ++ (stW G ad 15 u1 d1))) 20 5 0 0 6 ac_X4_44 dX4_takeAll_47 rfl rfl (by decide) (by decide) (by decide) (by decide) (Nat.le_of_ble_eq_true rfl) rfl ?_
  refine j_aload_n 1 dX4_takeAll_50 rfl rfl ?_
  refine j_get 15 fl_X4_27 dX4_takeAll_51 rfl rfl ?_
  refine j_iconst (v := 0) dX4_takeAll_54 (by decide) ?_
  refine j_aload_n 0 dX4_takeAll_55 rfl rfl ?_
  refine j_get 0 fl_X4_27 dX4_takeAll_56 rfl rfl ?_
  refine j_iconst (v := 0) dX4_takeAll_59 (by decide) ?_
  refine j_bipush (v := 6) dX4_takeAll_60 (by decide) ?_
  refine j_cpy (w' := (stW G ad 0 (va_up (va_up (va_up (va_up u_1 2 (va_cpy (u1 2) (u_1 2) 0 0 6)) 3 (va_cpy (u1 3) (u_1 3) 0 0 6)) 4 (va_cpy (u1 4) (u_1 4) 0 0 6)) 5 (va_cpy (u1 5) (u_1 5) 0 0 6)) d ++ (stW G ad 15 u1 d1))) 21 6 0 0 6 ac_X4_44 dX4_takeAll_62 rfl rfl (by decide) (by decide) (by decide) (by decide) (Nat.le_of_ble_eq_true rfl) rfl ?_
  refine j_aload_n 1 dX4_takeAll_65 rfl rfl ?_
  refine j_get 15 fl_X4_30 dX4_takeAll_66 rfl rfl ?_
  refine j_iconst (v := 0) dX4_takeAll_69 (by decide) ?_
  refine j_aload_n 0 dX4_takeAll_70 rfl rfl ?_
  refine j_get 0 fl_X4_30 dX4_takeAll_71 rfl rfl ?_
  refine j_iconst (v := 0) dX4_takeAll_74 (by decide) ?_
  refine j_bipush (v := 6) dX4_takeAll_75 (by decide) ?_
  refine j_cpy (w' := (stW G ad 0 (va_up (va_up (va_up (va_up (va_up u_1 2 (va_cpy (u1 2) (u_1 2) 0 0 6)) 3 (va_cpy (u1 3) (u_1 3) 0 0 6)) 4 (va_cpy (u1 4) (u_1 4) 0 0 6)) 5 (va_cpy (u1 5) (u_1 5) 0 0 6)) 6 (va_cpy (u1 6) (u_1 6) 0 0 6)) d ++ (stW G ad 15 u1 d1))) 22 7 0 0 6 ac_X4_44 dX4_takeAll_77 rfl rfl (by decide) (by decide) (by decide) (by decide) (Nat.le_of_ble_eq_true rfl) rfl ?_
  refine j_iconst (v := 0) dX4_takeAll_80 (by decide) ?_
  refine j_istore_n (lo' := [(2, .int 0), (0, .ref (ad 0)), (1, .ref (ad 15))]) dX4_takeAll_81 rfl (by decide) rfl ?_
  refine j_lo [1, 2, 0] rfl ?_
  exact H
set_option maxRecDepth 20000 in
theorem sg_X4_takeAll_82 {G : GG} {ad : Nat → Nat} {u : Nat → Nat → Int32} {d : Nat → Nat → Int32} {u1 : Nat → Nat → Int32} {d1 : Nat → Nat → Int32} {x2 : Int32} {Q : Option Value → va_W → Prop} (H : (((6 ≤ x2) → Q none (stW G ad 0 u d ++ (stW G ad 15 u1 d1))) ∧ ((¬ 6 ≤ x2) → (vp_in x2 6) ∧ J G mX4_takeAll 82 [(0, .ref (ad 0)), (1, .ref (ad 15)), (2, .int (x2 + 1))] [] (stW G ad 0 u (va_up d (Int32.toNatClampNeg x2) (va_cpy (d1 (Int32.toNatClampNeg x2)) (d (Int32.toNatClampNeg x2)) 0 0 12)) ++ (stW G ad 15 u1 d1)) Q))) : J G mX4_takeAll 82 [(0, .ref (ad 0)), (1, .ref (ad 15)), (2, .int x2)] [] (stW G ad 0 u d ++ (stW G ad 15 u1 d1)) Q := by
  refine j_iload_n 2 dX4_takeAll_82 rfl rfl ?_
  refine j_bipush (v := 6) dX4_takeAll_83 (by decide) ?_
  refine j_icmp_ge (tgt := 113) dX4_takeAll_85 (by decide) (fun c_1 => ?_) (fun c_1 => ?_)
  · have H := H.1 c_1
    exact j_vret dX4_takeAll_113 rfl H
  · have H := H.2 c_1
    refine j_aload_n 1 dX4_takeAll_88 rfl rfl ?_
    refine j_get 15 fl_X4_35 dX4_takeAll_89 rfl rfl ?_
    refine j_iload_n 2 dX4_takeAll_92 rfl rfl ?_
    obtain ⟨h_2, H⟩ := H
    refine j_aald 23 dX4_takeAll_93 rfl h_2 (ow_rf h_2) ?_
    refine j_iconst (v := 0) dX4_takeAll_94 (by decide) ?_
    refine j_aload_n 0 dX4_takeAll_95 rfl rfl ?_
    refine j_get 0 fl_X4_35 dX4_takeAll_96 rfl rfl ?_
    refine j_iload_n 2 dX4_takeAll_99 rfl rfl ?_
    refine j_aald 8 dX4_takeAll_100 rfl h_2 (ow_rf h_2) ?_
    refine j_iconst (v := 0) dX4_takeAll_101 (by decide) ?_
    refine j_bipush (v := 12) dX4_takeAll_102 (by decide) ?_
    refine j_cpy (w' := (stW G ad 0 u (va_up d (Int32.toNatClampNeg x2) (va_cpy (d1 (Int32.toNatClampNeg x2)) (d (Int32.toNatClampNeg x2)) 0 0 12)) ++ (stW G ad 15 u1 d1))) (24 + (Int32.toNatClampNeg x2)) (9 + (Int32.toNatClampNeg x2)) 0 0 12 ac_X4_44 dX4_takeAll_104 (row6 (P := fun k_ => (stW G ad 0 u d ++ (stW G ad 15 u1 d1))[24 + k_]? = some (ad (24 + k_), .inl (G.2.1.1, 12, .inl (d1 k_)))) rfl rfl rfl rfl rfl rfl (in_lt h_2)) (row6 (P := fun k_ => (stW G ad 0 u d ++ (stW G ad 15 u1 d1))[9 + k_]? = some (ad (9 + k_), .inl (G.2.1.1, 12, .inl (d k_)))) rfl rfl rfl rfl rfl rfl (in_lt h_2)) (by decide) (by decide) (by decide) (by decide) (Nat.le_of_ble_eq_true rfl) (row6 (P := fun k_ => (stW G ad 0 u d ++ (stW G ad 15 u1 d1)).set (9 + k_) (ad (9 + k_), .inl (G.2.1.1, 12, .inl (va_cpy (d1 (Int32.toNatClampNeg x2)) (d k_) 0 0 12))) = (stW G ad 0 u (va_up d k_ (va_cpy (d1 (Int32.toNatClampNeg x2)) (d k_) 0 0 12)) ++ (stW G ad 15 u1 d1))) rfl rfl rfl rfl rfl rfl (in_lt h_2)) ?_
    refine j_iinc (v := (x2 + 1)) (lo' := [(2, .int (x2 + 1)), (0, .ref (ad 0)), (1, .ref (ad 15))]) 2 dX4_takeAll_107 rfl rfl (by decide) rfl ?_
    refine j_goto (tgt := 82) dX4_takeAll_110 (by decide) ?_
    refine j_lo [1, 2, 0] rfl ?_
    exact H
set_option maxRecDepth 20000 in
theorem sg_X3_takeAll_0 {G : GG} {ad : Nat → Nat} {u : Nat → Nat → Int32} {d : Nat → Nat → Int32} {g : Nat → Int32} {l : Nat → Int32} {n : Int32} {fn : Nat → Int32} {fd : Nat → Nat → Int32} {u1 : Nat → Nat → Int32} {d1 : Nat → Nat → Int32} {g1 : Nat → Int32} {l1 : Nat → Int32} {n1 : Int32} {fn1 : Nat → Int32} {fd1 : Nat → Nat → Int32} {Q : Option Value → va_W → Prop} (H : J G mX4_takeAll 0 [(0, .ref ((pk ad [1, 2, 3, 4, 5, 6, 7, 8, 9, 10, 11, 12, 13, 14, 15, 29, 30, 31, 32, 33, 34, 35, 36, 37, 38, 39, 40, 41, 42, 43]) 0)), (1, .ref ((pk ad [1, 2, 3, 4, 5, 6, 7, 8, 9, 10, 11, 12, 13, 14, 15, 29, 30, 31, 32, 33, 34, 35, 36, 37, 38, 39, 40, 41, 42, 43]) 15))] [] (stW G (pk ad [1, 2, 3, 4, 5, 6, 7, 8, 9, 10, 11, 12, 13, 14, 15, 29, 30, 31, 32, 33, 34, 35, 36, 37, 38, 39, 40, 41, 42, 43]) 0 u d ++ (stW G (pk ad [1, 2, 3, 4, 5, 6, 7, 8, 9, 10, 11, 12, 13, 14, 15, 29, 30, 31, 32, 33, 34, 35, 36, 37, 38, 39, 40, 41, 42, 43]) 15 u1 d1)) (fun v_ w_ => ∃ (d_1 : Nat → Nat → Int32) (u_2 : Nat → Nat → Int32), v_ = none ∧ w_ = (stW G (pk ad [1, 2, 3, 4, 5, 6, 7, 8, 9, 10, 11, 12, 13, 14, 15, 29, 30, 31, 32, 33, 34, 35, 36, 37, 38, 39, 40, 41, 42, 43]) 0 u_2 d_1 ++ (stW G (pk ad [1, 2, 3, 4, 5, 6, 7, 8, 9, 10, 11, 12, 13, 14, 15, 29, 30, 31, 32, 33, 34, 35, 36, 37, 38, 39, 40, 41, 42, 43]) 15 u1 d1)) ∧ J G mX0_takeAll 0 [(0, .ref ((pk ad [16, 17, 18, 44, 45, 46]) 0)), (1, .ref ((pk ad [16, 17, 18, 44, 45, 46]) 3))] [] (faW G (pk ad [16, 17, 18, 44, 45, 46]) 0 g l n ++ (faW G (pk ad [16, 17, 18, 44, 45, 46]) 3 g1 l1 n1)) (fun v_ w_ => ∃ (g_3 : Nat → Int32) (l_4 : Nat → Int32) (n_5 : Int32), v_ = none ∧ w_ = (faW G (pk ad [16, 17, 18, 44, 45, 46]) 0 g_3 l_4 n_5 ++ (faW G (pk ad [16, 17, 18, 44, 45, 46]) 3 g1 l1 n1)) ∧ J G mX1_takeAll 0 [(0, .ref ((pk ad [19, 20, 21, 22, 23, 24, 25, 26, 27, 47, 48, 49, 50, 51, 52, 53, 54, 55]) 0)), (1, .ref ((pk ad [19, 20, 21, 22, 23, 24, 25, 26, 27, 47, 48, 49, 50, 51, 52, 53, 54, 55]) 9))] [] (fiW G (pk ad [19, 20, 21, 22, 23, 24, 25, 26, 27, 47, 48, 49, 50, 51, 52, 53, 54, 55]) 0 fn fd ++ (fiW G (pk ad [19, 20, 21, 22, 23, 24, 25, 26, 27, 47, 48, 49, 50, 51, 52, 53, 54, 55]) 9 fn1 fd1)) (fun v_ w_ => ∃ (fd_6 : Nat → Nat → Int32) (fn_7 : Nat → Int32), v_ = none ∧ w_ = (fiW G (pk ad [19, 20, 21, 22, 23, 24, 25, 26, 27, 47, 48, 49, 50, 51, 52, 53, 54, 55]) 0 fn_7 fd_6 ++ (fiW G (pk ad [19, 20, 21, 22, 23, 24, 25, 26, 27, 47, 48, 49, 50, 51, 52, 53, 54, 55]) 9 fn1 fd1)) ∧ Q none (scW G ad 0 u_2 d_1 g_3 l_4 n_5 fn_7 fd_6 ++ (scW G ad 28 u1 d1 g1 l1 n1 fn1 fd1)))))) : J G mX3_takeAll 0 [(0, .ref (ad 0)), (1, .ref (ad 28))] [] (scW G ad 0 u d g l n fn fd ++ (scW G ad 28 u1 d1 g1 l1 n1 fn1 fd1)) Q := by
  refine j_aload_n 0 dX3_takeAll_0 rfl rfl ?_
  refine j_get 0 fl_X3_10 dX3_takeAll_1 rfl rfl ?_
  refine j_aload_n 1 dX3_takeAll_4 rfl rfl ?_
  refine j_get 28 fl_X3_10 dX3_takeAll_5 rfl rfl ?_
  refine j_callV (q0 := 0) (wc := (stW G (pk ad [1, 2, 3, 4, 5, 6, 7, 8, 9, 10, 11, 12, 13, 14, 15, 29, 30, 31, 32, 33, 34, 35, 36, 37, 38, 39, 40, 41, 42, 43]) 0 u d ++ (stW G (pk ad [1, 2, 3, 4, 5, 6, 7, 8, 9, 10, 11, 12, 13, 14, 15, 29, 30, 31, 32, 33, 34, 35, 36, 37, 38, 39, 40, 41, 42, 43]) 15 u1 d1))) (As := [.ref ((pk ad [1, 2, 3, 4, 5, 6, 7, 8, 9, 10, 11, 12, 13, 14, 15, 29, 30, 31, 32, 33, 34, 35, 36, 37, 38, 39, 40, 41, 42, 43]) 15)]) (st := []) ml_X4_takeAll vl_X3_30 dX3_takeAll_8 [none, some 0, some 1, some 2, some 3, some 4, some 5, some 6, some 7, some 8, some 9, some 10, some 11, some 12, some 13, some 14, none, none, none, none, none, none, none, none, none, none, none, none, none, some 15, some 16, some 17, some 18, some 19, some 20, some 21, some 22, some 23, some 24, some 25, some 26, some 27, some 28, some 29] ⟨rfl, Nat.le_of_ble_eq_true rfl, rfl, rfl⟩ rfl rfl rfl (Nat.le_of_ble_eq_true rfl) ⟨by decide, by decide⟩ rfl rfl (Nat.le_of_ble_eq_true rfl) (J.mono (fun v_ w_ hp_ => ?_) H)
  obtain ⟨d_1, u_2, rfl, rfl, H⟩ := hp_
  refine j_w (w' := (scW G ad 0 u_2 d_1 g l n fn fd ++ (scW G ad 28 u1 d1 g1 l1 n1 fn1 fd1))) rfl ?_
  refine j_aload_n 0 dX3_takeAll_11 rfl rfl ?_
  refine j_get 0 fl_X3_19 dX3_takeAll_12 rfl rfl ?_
  refine j_aload_n 1 dX3_takeAll_15 rfl rfl ?_
  refine j_get 28 fl_X3_19 dX3_takeAll_16 rfl rfl ?_
  refine j_callV (q0 := 0) (wc := (faW G (pk ad [16, 17, 18, 44, 45, 46]) 0 g l n ++ (faW G (pk ad [16, 17, 18, 44, 45, 46]) 3 g1 l1 n1))) (As := [.ref ((pk ad [16, 17, 18, 44, 45, 46]) 3)]) (st := []) ml_X0_takeAll vl_X3_34 dX3_takeAll_19 [none, none, none, none, none, none, none, none, none, none, none, none, none, none, none, none, some 0, some 1, some 2, none, none, none, none, none, none, none, none, none, none, none, none, none, none, none, none, none, none, none, none, none, none, none, none, none, some 3, some 4, some 5] ⟨rfl, Nat.le_of_ble_eq_true rfl, rfl, rfl⟩ rfl rfl rfl (Nat.le_of_ble_eq_true rfl) ⟨by decide, by decide⟩ rfl rfl (Nat.le_of_ble_eq_true rfl) (J.mono (fun v_ w_ hp_ => ?_) H)
  obtain ⟨g_3, l_4, n_5, rfl, rfl, H⟩ := hp_
  refine j_w (w' := (scW G ad 0 u_2 d_1 g_3 l_4 n_5 fn fd ++ (scW G ad 28 u1 d1 g1 l1 n1 fn1 fd1))) rfl ?_
  refine j_aload_n 0 dX3_takeAll_22 rfl rfl ?_
  refine j_get 0 fl_X3_26 dX3_takeAll_23 rfl rfl ?_
  refine j_aload_n 1 dX3_takeAll_26 rfl rfl ?_
  refine j_get 28 fl_X3_26 dX3_takeAll_27 rfl rfl ?_
  refine j_callV (q0 := 0) (wc := (fiW G (pk ad [19, 20, 21, 22, 23, 24, 25, 26, 27, 47, 48, 49, 50, 51, 52, 53, 54, 55]) 0 fn fd ++ (fiW G (pk ad [19, 20, 21, 22, 23, 24, 25, 26, 27, 47, 48, 49, 50, 51, 52, 53, 54, 55]) 9 fn1 fd1))) (As := [.ref ((pk ad [19, 20, 21, 22, 23, 24, 25, 26, 27, 47, 48, 49, 50, 51, 52, 53, 54, 55]) 9)]) (st := []) ml_X1_takeAll vl_X3_37 dX3_takeAll_30 [none, none, none, none, none, none, none, none, none, none, none, none, none, none, none, none, none, none, none, some 0, some 1, some 2, some 3, some 4, some 5, some 6, some 7, some 8, none, none, none, none, none, none, none, none, none, none, none, none, none, none, none, none, none, none, none, some 9, some 10, some 11, some 12, some 13, some 14, some 15, some 16, some 17] ⟨rfl, Nat.le_of_ble_eq_true rfl, rfl, rfl⟩ rfl rfl rfl (Nat.le_of_ble_eq_true rfl) ⟨by decide, by decide⟩ rfl rfl (Nat.le_of_ble_eq_true rfl) (J.mono (fun v_ w_ hp_ => ?_) H)
  obtain ⟨fd_6, fn_7, rfl, rfl, H⟩ := hp_
  refine j_w (w' := (scW G ad 0 u_2 d_1 g_3 l_4 n_5 fn_7 fd_6 ++ (scW G ad 28 u1 d1 g1 l1 n1 fn1 fd1))) rfl ?_
  exact j_vret dX3_takeAll_33 rfl H
set_option maxRecDepth 20000 in
theorem sg_X4_countOut_0 {G : GG} {ad : Nat → Nat} {u : Nat → Nat → Int32} {d : Nat → Nat → Int32} {Q : Option Value → va_W → Prop} (H : J G mX4_countOut 13 [(0, .ref (ad 0)), (1, .int 0), (2, .ref (ad 2)), (3, .int 6), (4, .int 0)] [] (stW G ad 0 u d) Q) : J G mX4_countOut 0 [(0, .ref (ad 0))] [] (stW G ad 0 u d) Q := by
  refine j_iconst (v := 0) dX4_countOut_0 (by decide) ?_
  refine j_istore_n (lo' := [(1, .int 0), (0, .ref (ad 0))]) dX4_countOut_1 rfl (by decide) rfl ?_
  refine j_aload_n 1 dX4_countOut_2 rfl rfl ?_
  refine j_get 0 fl_X4_15 dX4_countOut_3 rfl rfl ?_
  refine j_astore_n (lo' := [(2, .ref (ad 2)), (1, .int 0), (0, .ref (ad 0))]) dX4_countOut_6 rfl (by decide) rfl ?_
  refine j_aload_n 0 dX4_countOut_7 rfl rfl ?_
  refine j_alen (v := 6) 2 dX4_countOut_8 rfl (by decide) ?_
  refine j_istore_n (lo' := [(3, .int 6), (2, .ref (ad 2)), (1, .int 0), (0, .ref (ad 0))]) dX4_countOut_9 rfl (by decide) rfl ?_
  refine j_iconst (v := 0) dX4_countOut_10 (by decide) ?_
  refine j_istore (lo' := [(4, .int 0), (3, .int 6), (2, .ref (ad 2)), (1, .int 0), (0, .ref (ad 0))]) dX4_countOut_11 (by decide) rfl ?_
  refine j_lo [4, 3, 2, 1, 0] rfl ?_
  exact H
set_option maxRecDepth 20000 in
theorem sg_X4_countOut_13 {G : GG} {ad : Nat → Nat} {u : Nat → Nat → Int32} {d : Nat → Nat → Int32} {x1 : Int32} {x3 : Int32} {x4 : Int32} {Q : Option Value → va_W → Prop} (H : (((x3 ≤ x4) → Q (some (.int x1)) (stW G ad 0 u d)) ∧ ((¬ x3 ≤ x4) → (vp_in x4 6) ∧ (((¬ ((u 1) (Int32.toNatClampNeg x4)) = (-1)) → J G mX4_countOut 13 [(0, .ref (ad 0)), (1, .int (x1 + 0)), (2, .ref (ad 2)), (3, .int x3), (4, .int (x4 + 1))] [] (stW G ad 0 u d) Q) ∧ ((((u 1) (Int32.toNatClampNeg x4)) = (-1)) → J G mX4_countOut 13 [(0, .ref (ad 0)), (1, .int (x1 + 1)), (2, .ref (ad 2)), (3, .int x3), (4, .int (x4 + 1))] [] (stW G ad 0 u d) Q))))) : J G mX4_countOut 13 [(0, .ref (ad 0)), (1, .int x1), (2, .ref (ad 2)), (3, .int x3), (4, .int x4)] [] (stW G ad 0 u d) Q := by
  refine j_iload 4 dX4_countOut_13 rfl ?_
  refine j_iload_n 3 dX4_countOut_15 rfl rfl ?_
  refine j_icmp_ge (tgt := 45) dX4_countOut_16 (by decide) (fun c_1 => ?_) (fun c_1 => ?_)
  · have H := H.1 c_1
    refine j_iload_n 1 dX4_countOut_45 rfl rfl ?_
    exact j_iret dX4_countOut_46 rfl H
  · have H := H.2 c_1
    refine j_aload_n 2 dX4_countOut_19 rfl rfl ?_
    refine j_iload 4 dX4_countOut_20 rfl ?_
    obtain ⟨h_2, H⟩ := H
    refine j_iald 2 dX4_countOut_22 rfl h_2 ?_
    refine j_istore (lo' := [(5, .int ((u 1) (Int32.toNatClampNeg x4))), (0, .ref (ad 0)), (1, .int x1), (2, .ref (ad 2)), (3, .int x3), (4, .int x4)]) dX4_countOut_23 (by decide) rfl ?_
    refine j_iload_n 2 dX4_countOut_25 rfl rfl ?_
    refine j_iload 0 dX4_countOut_26 rfl ?_
    refine j_iconst (v := (-1)) dX4_countOut_28 (by decide) ?_
    refine j_icmp_ne (tgt := 36) dX4_countOut_29 (by decide) (fun c_3 => ?_) (fun c_3 => ?_)
    · have H := H.1 c_3
      refine j_iconst (v := 0) dX4_countOut_36 (by decide) ?_
      refine j_iadd dX4_countOut_37 ?_
      refine j_istore_n (lo' := [(1, .int (x1 + 0)), (5, .int ((u 1) (Int32.toNatClampNeg x4))), (0, .ref (ad 0)), (2, .ref (ad 2)), (3, .int x3), (4, .int x4)]) dX4_countOut_38 rfl (by decide) rfl ?_
      refine j_iinc (v := (x4 + 1)) (lo' := [(4, .int (x4 + 1)), (1, .int (x1 + 0)), (5, .int ((u 1) (Int32.toNatClampNeg x4))), (0, .ref (ad 0)), (2, .ref (ad 2)), (3, .int x3)]) 5 dX4_countOut_39 rfl rfl (by decide) rfl ?_
      refine j_goto (tgt := 13) dX4_countOut_42 (by decide) ?_
      refine j_lo [3, 1, 4, 5, 0] rfl ?_
      exact H
    · have H := H.2 c_3
      refine j_iconst (v := 1) dX4_countOut_32 (by decide) ?_
      refine j_goto (tgt := 37) dX4_countOut_33 (by decide) ?_
      refine j_iadd dX4_countOut_37 ?_
      refine j_istore_n (lo' := [(1, .int (x1 + 1)), (5, .int ((u 1) (Int32.toNatClampNeg x4))), (0, .ref (ad 0)), (2, .ref (ad 2)), (3, .int x3), (4, .int x4)]) dX4_countOut_38 rfl (by decide) rfl ?_
      refine j_iinc (v := (x4 + 1)) (lo' := [(4, .int (x4 + 1)), (1, .int (x1 + 1)), (5, .int ((u 1) (Int32.toNatClampNeg x4))), (0, .ref (ad 0)), (2, .ref (ad 2)), (3, .int x3)]) 5 dX4_countOut_39 rfl rfl (by decide) rfl ?_
      refine j_goto (tgt := 13) dX4_countOut_42 (by decide) ?_
      refine j_lo [3, 1, 4, 5, 0] rfl ?_
      exact H
set_option maxRecDepth 20000 in
theorem sg_X4_flowBy_0 {G : GG} {ad : Nat → Nat} {u : Nat → Nat → Int32} {d : Nat → Nat → Int32} {x1 : Int32} {Q : Option Value → va_W → Prop} (H : J G mX4_flowBy 4 [(0, .ref (ad 0)), (1, .int x1), (2, .int x1), (3, .int 0)] [] (stW G ad 0 u d) Q) : J G mX4_flowBy 0 [(0, .ref (ad 0)), (1, .int x1)] [] (stW G ad 0 u d) Q := by
  refine j_iload_n 1 dX4_flowBy_0 rfl rfl ?_
  refine j_istore_n (lo' := [(2, .int x1), (0, .ref (ad 0)), (1, .int x1)]) dX4_flowBy_1 rfl (by decide) rfl ?_
  refine j_iconst (v := 0) dX4_flowBy_2 (by decide) ?_
  refine j_istore_n (lo' := [(3, .int 0), (2, .int x1), (0, .ref (ad 0)), (1, .int x1)]) dX4_flowBy_3 rfl (by decide) rfl ?_
  refine j_lo [2, 3, 1, 0] rfl ?_
  exact H
set_option maxRecDepth 20000 in
theorem sg_X4_flowBy_4 {G : GG} {ad : Nat → Nat} {u : Nat → Nat → Int32} {d : Nat → Nat → Int32} {x1 : Int32} {x2 : Int32} {x3 : Int32} {Q : Option Value → va_W → Prop} (H : (((6 ≤ x3) → Q none (stW G ad 0 u d)) ∧ ((¬ 6 ≤ x3) → (¬ (6 - x3) = (0 : Int32)) ∧ (¬ (6 - x3) = (0 : Int32)) ∧ (((¬ (x2 - x2 / (6 - x3) * (6 - x3)) = 0) → (vp_in x3 6) ∧ J G mX4_flowBy 4 [(0, .ref (ad 0)), (1, .int x1), (2, .int (x2 / (6 - x3))), (3, .int (x3 + 1))] [] (stW G ad 0 (va_up u 1 (upd (u 1) (Int32.toNatClampNeg x3) (x3 + (x2 - x2 / (6 - x3) * (6 - x3))))) d) Q) ∧ (((x2 - x2 / (6 - x3) * (6 - x3)) = 0) → (vp_in x3 6) ∧ J G mX4_flowBy 4 [(0, .ref (ad 0)), (1, .int x1), (2, .int (x2 / (6 - x3))), (3, .int (x3 + 1))] [] (stW G ad 0 (va_up u 1 (upd (u 1) (Int32.toNatClampNeg x3) (-1))) d) Q))))) : J G mX4_flowBy 4 [(0, .ref (ad 0)), (1, .int x1), (2, .int x2), (3, .int x3)] [] (stW G ad 0 u d) Q := by
  refine j_iload_n 3 dX4_flowBy_4 rfl rfl ?_
  refine j_bipush (v := 6) dX4_flowBy_5 (by decide) ?_
  refine j_icmp_ge (tgt := 52) dX4_flowBy_7 (by decide) (fun c_1 => ?_) (fun c_1 => ?_)
  · have H := H.1 c_1
    exact j_vret dX4_flowBy_52 rfl H
  · have H := H.2 c_1
    refine j_bipush (v := 6) dX4_flowBy_10 (by decide) ?_
    refine j_iload_n 3 dX4_flowBy_12 rfl rfl ?_
    refine j_isub dX4_flowBy_13 ?_
    refine j_istore (lo' := [(4, .int (6 - x3)), (0, .ref (ad 0)), (1, .int x1), (2, .int x2), (3, .int x3)]) dX4_flowBy_14 (by decide) rfl ?_
    refine j_iload_n 3 dX4_flowBy_16 rfl rfl ?_
    refine j_iload 0 dX4_flowBy_17 rfl ?_
    obtain ⟨h_2, H⟩ := H
    refine j_irem dX4_flowBy_19 h_2 ?_
    refine j_istore (lo' := [(5, .int (x2 - x2 / (6 - x3) * (6 - x3))), (4, .int (6 - x3)), (0, .ref (ad 0)), (1, .int x1), (2, .int x2), (3, .int x3)]) dX4_flowBy_20 (by decide) rfl ?_
    refine j_iload_n 4 dX4_flowBy_22 rfl rfl ?_
    refine j_iload 1 dX4_flowBy_23 rfl ?_
    obtain ⟨h_3, H⟩ := H
    refine j_idiv dX4_flowBy_25 h_3 ?_
    refine j_istore_n (lo' := [(2, .int (x2 / (6 - x3))), (5, .int (x2 - x2 / (6 - x3) * (6 - x3))), (4, .int (6 - x3)), (0, .ref (ad 0)), (1, .int x1), (3, .int x3)]) dX4_flowBy_26 rfl (by decide) rfl ?_
    refine j_aload_n 3 dX4_flowBy_27 rfl rfl ?_
    refine j_get 0 fl_X4_15 dX4_flowBy_28 rfl rfl ?_
    refine j_iload_n 5 dX4_flowBy_31 rfl rfl ?_
    refine j_iload 1 dX4_flowBy_32 rfl ?_
    refine j_if_ne (tgt := 41) dX4_flowBy_34 (by decide) (fun c_4 => ?_) (fun c_4 => ?_)
    · have H := H.1 c_4
      refine j_iload_n 5 dX4_flowBy_41 rfl rfl ?_
      refine j_iload 1 dX4_flowBy_42 rfl ?_
      refine j_iadd dX4_flowBy_44 ?_
      obtain ⟨h_5, H⟩ := H
      refine j_iast (w' := (stW G ad 0 (va_up u 1 (upd (u 1) (Int32.toNatClampNeg x3) (x3 + (x2 - x2 / (6 - x3) * (6 - x3))))) d)) 2 dX4_flowBy_45 rfl h_5 rfl ?_
      refine j_iinc (v := (x3 + 1)) (lo' := [(3, .int (x3 + 1)), (2, .int (x2 / (6 - x3))), (5, .int (x2 - x2 / (6 - x3) * (6 - x3))), (4, .int (6 - x3)), (0, .ref (ad 0)), (1, .int x1)]) 5 dX4_flowBy_46 rfl rfl (by decide) rfl ?_
      refine j_goto (tgt := 4) dX4_flowBy_49 (by decide) ?_
      refine j_lo [4, 5, 1, 0] rfl ?_
      exact H
    · have H := H.2 c_4
      refine j_iconst (v := (-1)) dX4_flowBy_37 (by decide) ?_
      refine j_goto (tgt := 45) dX4_flowBy_38 (by decide) ?_
      obtain ⟨h_6, H⟩ := H
      refine j_iast (w' := (stW G ad 0 (va_up u 1 (upd (u 1) (Int32.toNatClampNeg x3) (-1))) d)) 2 dX4_flowBy_45 rfl h_6 rfl ?_
      refine j_iinc (v := (x3 + 1)) (lo' := [(3, .int (x3 + 1)), (2, .int (x2 / (6 - x3))), (5, .int (x2 - x2 / (6 - x3) * (6 - x3))), (4, .int (6 - x3)), (0, .ref (ad 0)), (1, .int x1)]) 5 dX4_flowBy_46 rfl rfl (by decide) rfl ?_
      refine j_goto (tgt := 4) dX4_flowBy_49 (by decide) ?_
      refine j_lo [4, 5, 1, 0] rfl ?_
      exact H
set_option maxRecDepth 20000 in
theorem sg_X4_fullBowls_0 {G : GG} {ad : Nat → Nat} {u : Nat → Nat → Int32} {d : Nat → Nat → Int32} {Q : Option Value → va_W → Prop} (H : J G mX4_fullBowls 4 [(0, .ref (ad 0)), (1, .int 0), (2, .int 0)] [] (stW G ad 0 u d) Q) : J G mX4_fullBowls 0 [(0, .ref (ad 0))] [] (stW G ad 0 u d) Q := by
  refine j_iconst (v := 0) dX4_fullBowls_0 (by decide) ?_
  refine j_istore_n (lo' := [(1, .int 0), (0, .ref (ad 0))]) dX4_fullBowls_1 rfl (by decide) rfl ?_
  refine j_iconst (v := 0) dX4_fullBowls_2 (by decide) ?_
  refine j_istore_n (lo' := [(2, .int 0), (1, .int 0), (0, .ref (ad 0))]) dX4_fullBowls_3 rfl (by decide) rfl ?_
  refine j_lo [2, 1, 0] rfl ?_
  exact H
set_option maxRecDepth 20000 in
theorem sg_X4_fullBowls_4 {G : GG} {ad : Nat → Nat} {u : Nat → Nat → Int32} {d : Nat → Nat → Int32} {x1 : Int32} {x2 : Int32} {Q : Option Value → va_W → Prop} (H : (((6 ≤ x2) → Q (some (.int x1)) (stW G ad 0 u d)) ∧ ((¬ 6 ≤ x2) → (vp_in x2 6) ∧ (((¬ ((u 0) (Int32.toNatClampNeg x2)) = 1) → J G mX4_fullBowls 4 [(0, .ref (ad 0)), (1, .int (x1 + 0)), (2, .int (x2 + 1))] [] (stW G ad 0 u d) Q) ∧ ((((u 0) (Int32.toNatClampNeg x2)) = 1) → (((((u 2) (Int32.toNatClampNeg x2)) = (-1)) → J G mX4_fullBowls 4 [(0, .ref (ad 0)), (1, .int (x1 + 0)), (2, .int (x2 + 1))] [] (stW G ad 0 u d) Q) ∧ ((¬ ((u 2) (Int32.toNatClampNeg x2)) = (-1)) → J G mX4_fullBowls 4 [(0, .ref (ad 0)), (1, .int (x1 + 1)), (2, .int (x2 + 1))] [] (stW G ad 0 u d) Q))))))) : J G mX4_fullBowls 4 [(0, .ref (ad 0)), (1, .int x1), (2, .int x2)] [] (stW G ad 0 u d) Q := by
  refine j_iload_n 2 dX4_fullBowls_4 rfl rfl ?_
  refine j_bipush (v := 6) dX4_fullBowls_5 (by decide) ?_
  refine j_icmp_ge (tgt := 44) dX4_fullBowls_7 (by decide) (fun c_1 => ?_) (fun c_1 => ?_)
  · have H := H.1 c_1
    refine j_iload_n 1 dX4_fullBowls_44 rfl rfl ?_
    exact j_iret dX4_fullBowls_45 rfl H
  · have H := H.2 c_1
    refine j_iload_n 1 dX4_fullBowls_10 rfl rfl ?_
    refine j_aload_n 0 dX4_fullBowls_11 rfl rfl ?_
    refine j_get 0 fl_X4_9 dX4_fullBowls_12 rfl rfl ?_
    refine j_iload_n 2 dX4_fullBowls_15 rfl rfl ?_
    obtain ⟨h_2, H⟩ := H
    refine j_iald 1 dX4_fullBowls_16 rfl h_2 ?_
    refine j_iconst (v := 1) dX4_fullBowls_17 (by decide) ?_
    refine j_icmp_ne (tgt := 35) dX4_fullBowls_18 (by decide) (fun c_3 => ?_) (fun c_3 => ?_)
    · have H := H.1 c_3
      refine j_iconst (v := 0) dX4_fullBowls_35 (by decide) ?_
      refine j_iadd dX4_fullBowls_36 ?_
      refine j_istore_n (lo' := [(1, .int (x1 + 0)), (0, .ref (ad 0)), (2, .int x2)]) dX4_fullBowls_37 rfl (by decide) rfl ?_
      refine j_iinc (v := (x2 + 1)) (lo' := [(2, .int (x2 + 1)), (1, .int (x1 + 0)), (0, .ref (ad 0))]) 2 dX4_fullBowls_38 rfl rfl (by decide) rfl ?_
      refine j_goto (tgt := 4) dX4_fullBowls_41 (by decide) ?_
      refine j_lo [2, 1, 0] rfl ?_
      exact H
    · have H := H.2 c_3
      refine j_aload_n 0 dX4_fullBowls_21 rfl rfl ?_
      refine j_get 0 fl_X4_18 dX4_fullBowls_22 rfl rfl ?_
      refine j_iload_n 2 dX4_fullBowls_25 rfl rfl ?_
      refine j_iald 3 dX4_fullBowls_26 rfl h_2 ?_
      refine j_iconst (v := (-1)) dX4_fullBowls_27 (by decide) ?_
      refine j_icmp_eq (tgt := 35) dX4_fullBowls_28 (by decide) (fun c_4 => ?_) (fun c_4 => ?_)
      · have H := H.1 c_4
        refine j_iconst (v := 0) dX4_fullBowls_35 (by decide) ?_
        refine j_iadd dX4_fullBowls_36 ?_
        refine j_istore_n (lo' := [(1, .int (x1 + 0)), (0, .ref (ad 0)), (2, .int x2)]) dX4_fullBowls_37 rfl (by decide) rfl ?_
        refine j_iinc (v := (x2 + 1)) (lo' := [(2, .int (x2 + 1)), (1, .int (x1 + 0)), (0, .ref (ad 0))]) 2 dX4_fullBowls_38 rfl rfl (by decide) rfl ?_
        refine j_goto (tgt := 4) dX4_fullBowls_41 (by decide) ?_
        refine j_lo [2, 1, 0] rfl ?_
        exact H
      · have H := H.2 c_4
        refine j_iconst (v := 1) dX4_fullBowls_31 (by decide) ?_
        refine j_goto (tgt := 36) dX4_fullBowls_32 (by decide) ?_
        refine j_iadd dX4_fullBowls_36 ?_
        refine j_istore_n (lo' := [(1, .int (x1 + 1)), (0, .ref (ad 0)), (2, .int x2)]) dX4_fullBowls_37 rfl (by decide) rfl ?_
        refine j_iinc (v := (x2 + 1)) (lo' := [(2, .int (x2 + 1)), (1, .int (x1 + 1)), (0, .ref (ad 0))]) 2 dX4_fullBowls_38 rfl rfl (by decide) rfl ?_
        refine j_goto (tgt := 4) dX4_fullBowls_41 (by decide) ?_
        refine j_lo [2, 1, 0] rfl ?_
        exact H
set_option maxRecDepth 20000 in
theorem sg_X4_letsThrough_0 {G : GG} {ad : Nat → Nat} {u : Nat → Nat → Int32} {d : Nat → Nat → Int32} {x1 : Int32} {x2 : Int32} {Q : Option Value → va_W → Prop} (H : (vp_in x1 6) ∧ (((((u 2) (Int32.toNatClampNeg x1)) = x2) → (((((u 0) (Int32.toNatClampNeg x1)) = 2) → Q (some (.int 0)) (stW G ad 0 (va_up u 2 (upd (u 2) (Int32.toNatClampNeg x1) x2)) d)) ∧ ((((u 0) (Int32.toNatClampNeg x1)) = 3) → (((x2 = 0) → Q (some (.int 0)) (stW G ad 0 u d)) ∧ ((¬ x2 = 0) → (((x2 = 4) → Q (some (.int 0)) (stW G ad 0 u d)) ∧ ((¬ x2 = 4) → Q (some (.int 1)) (stW G ad 0 u d)))))) ∧ ((((u 0) (Int32.toNatClampNeg x1)) = 4) → Q (some (.int 0)) (stW G ad 0 (va_up (va_up u 2 (upd (u 2) (Int32.toNatClampNeg x1) x2)) 3 (upd (u 3) (Int32.toNatClampNeg x1) (((u 3) (Int32.toNatClampNeg x1)) + 0))) d)) ∧ ((¬ ((u 0) (Int32.toNatClampNeg x1)) = 2 ∧ ¬ ((u 0) (Int32.toNatClampNeg x1)) = 3 ∧ ¬ ((u 0) (Int32.toNatClampNeg x1)) = 4) → Q (some (.int 1)) (stW G ad 0 u d)))) ∧ ((¬ ((u 2) (Int32.toNatClampNeg x1)) = x2) → (((((u 0) (Int32.toNatClampNeg x1)) = 2) → Q (some (.int 1)) (stW G ad 0 (va_up u 2 (upd (u 2) (Int32.toNatClampNeg x1) x2)) d)) ∧ ((((u 0) (Int32.toNatClampNeg x1)) = 3) → (((x2 = 0) → Q (some (.int 0)) (stW G ad 0 u d)) ∧ ((¬ x2 = 0) → (((x2 = 4) → Q (some (.int 0)) (stW G ad 0 u d)) ∧ ((¬ x2 = 4) → Q (some (.int 1)) (stW G ad 0 u d)))))) ∧ ((((u 0) (Int32.toNatClampNeg x1)) = 4) → (((¬ ((((u 3) (Int32.toNatClampNeg x1)) + 1) - (((u 3) (Int32.toNatClampNeg x1)) + 1) / 2 * 2) = 1) → Q (some (.int 0)) (stW G ad 0 (va_up (va_up u 2 (upd (u 2) (Int32.toNatClampNeg x1) x2)) 3 (upd (u 3) (Int32.toNatClampNeg x1) (((u 3) (Int32.toNatClampNeg x1)) + 1))) d)) ∧ ((((((u 3) (Int32.toNatClampNeg x1)) + 1) - (((u 3) (Int32.toNatClampNeg x1)) + 1) / 2 * 2) = 1) → Q (some (.int 1)) (stW G ad 0 (va_up (va_up u 2 (upd (u 2) (Int32.toNatClampNeg x1) x2)) 3 (upd (u 3) (Int32.toNatClampNeg x1) (((u 3) (Int32.toNatClampNeg x1)) + 1))) d)))) ∧ ((¬ ((u 0) (Int32.toNatClampNeg x1)) = 2 ∧ ¬ ((u 0) (Int32.toNatClampNeg x1)) = 3 ∧ ¬ ((u 0) (Int32.toNatClampNeg x1)) = 4) → Q (some (.int 1)) (stW G ad 0 u d)))))) : J G mX4_letsThrough 0 [(0, .ref (ad 0)), (1, .int x1), (2, .int x2)] [] (stW G ad 0 u d) Q := by
  refine j_aload_n 0 dX4_letsThrough_0 rfl rfl ?_
  refine j_get 0 fl_X4_18 dX4_letsThrough_1 rfl rfl ?_
  refine j_iload_n 1 dX4_letsThrough_4 rfl rfl ?_
  obtain ⟨h_1, H⟩ := H
  refine j_iald 3 dX4_letsThrough_5 rfl h_1 ?_
  refine j_iload_n 2 dX4_letsThrough_6 rfl rfl ?_
  refine j_icmp_eq (tgt := 14) dX4_letsThrough_7 (by decide) (fun c_2 => ?_) (fun c_2 => ?_)
  · have H := H.1 c_2
    refine j_iconst (v := 0) dX4_letsThrough_14 (by decide) ?_
    refine j_istore_n (lo' := [(3, .int 0), (0, .ref (ad 0)), (1, .int x1), (2, .int x2)]) dX4_letsThrough_15 rfl (by decide) rfl ?_
    refine j_aload_n 1 dX4_letsThrough_16 rfl rfl ?_
    refine j_get 0 fl_X4_9 dX4_letsThrough_17 rfl rfl ?_
    refine j_iload_n 2 dX4_letsThrough_20 rfl rfl ?_
    refine j_iald 1 dX4_letsThrough_21 rfl h_1 ?_
    refine j_tsw dX4_letsThrough_22 [(2, 48), (3, 57), (4, 72)] 119 (by decide) (by decide) (by decide) (fun v_ t_ hm hx => ?_) (fun hn => ?_)
    · simp only [List.mem_cons, Prod.mk.injEq, List.not_mem_nil, or_false] at hm
      rcases hm with ⟨rfl, rfl⟩ | ⟨rfl, rfl⟩ | ⟨rfl, rfl⟩
      · have H := H.1 hx
        refine j_aload_n 1 dX4_letsThrough_48 rfl rfl ?_
        refine j_get 0 fl_X4_18 dX4_letsThrough_49 rfl rfl ?_
        refine j_iload_n 2 dX4_letsThrough_52 rfl rfl ?_
        refine j_iload_n 3 dX4_letsThrough_53 rfl rfl ?_
        refine j_iast (w' := (stW G ad 0 (va_up u 2 (upd (u 2) (Int32.toNatClampNeg x1) x2)) d)) 3 dX4_letsThrough_54 rfl h_1 rfl ?_
        refine j_iload_n 0 dX4_letsThrough_55 rfl rfl ?_
        exact j_zret dX4_letsThrough_56 rfl (by decide) H
      · have H := H.2.1 hx
        refine j_iload_n 3 dX4_letsThrough_57 rfl rfl ?_
        refine j_if_eq (tgt := 70) dX4_letsThrough_58 (by decide) (fun c_3 => ?_) (fun c_3 => ?_)
        · have H := H.1 c_3
          refine j_iconst (v := 0) dX4_letsThrough_70 (by decide) ?_
          exact j_zret dX4_letsThrough_71 rfl (by decide) H
        · have H := H.2 c_3
          refine j_iload_n 3 dX4_letsThrough_61 rfl rfl ?_
          refine j_iconst (v := 4) dX4_letsThrough_62 (by decide) ?_
          refine j_icmp_eq (tgt := 70) dX4_letsThrough_63 (by decide) (fun c_4 => ?_) (fun c_4 => ?_)
          · have H := H.1 c_4
            refine j_iconst (v := 0) dX4_letsThrough_70 (by decide) ?_
            exact j_zret dX4_letsThrough_71 rfl (by decide) H
          · have H := H.2 c_4
            refine j_iconst (v := 1) dX4_letsThrough_66 (by decide) ?_
            refine j_goto (tgt := 71) dX4_letsThrough_67 (by decide) ?_
            exact j_zret dX4_letsThrough_71 rfl (by decide) H
      · have H := H.2.2.1 hx
        refine j_aload_n 1 dX4_letsThrough_72 rfl rfl ?_
        refine j_get 0 fl_X4_18 dX4_letsThrough_73 rfl rfl ?_
        refine j_iload_n 2 dX4_letsThrough_76 rfl rfl ?_
        refine j_iload_n 3 dX4_letsThrough_77 rfl rfl ?_
        refine j_iast (w' := (stW G ad 0 (va_up u 2 (upd (u 2) (Int32.toNatClampNeg x1) x2)) d)) 3 dX4_letsThrough_78 rfl h_1 rfl ?_
        refine j_aload_n 1 dX4_letsThrough_79 rfl rfl ?_
        refine j_get 0 fl_X4_21 dX4_letsThrough_80 rfl rfl ?_
        refine j_iload_n 2 dX4_letsThrough_83 rfl rfl ?_
        refine j_dup2 dX4_letsThrough_84 rfl rfl ?_
        refine j_iald 4 dX4_letsThrough_85 rfl h_1 ?_
        refine j_iload_n 0 dX4_letsThrough_86 rfl rfl ?_
        refine j_if_eq (tgt := 94) dX4_letsThrough_87 (by decide) (fun _ => ?_) (fun c_5 => absurd (by decide) c_5)
        refine j_iconst (v := 0) dX4_letsThrough_94 (by decide) ?_
        refine j_iadd dX4_letsThrough_95 ?_
        refine j_iast (w' := (stW G ad 0 (va_up (va_up u 2 (upd (u 2) (Int32.toNatClampNeg x1) x2)) 3 (upd (u 3) (Int32.toNatClampNeg x1) (((u 3) (Int32.toNatClampNeg x1)) + 0))) d)) 4 dX4_letsThrough_96 rfl h_1 rfl ?_
        refine j_iload_n 0 dX4_letsThrough_97 rfl rfl ?_
        refine j_if_eq (tgt := 117) dX4_letsThrough_98 (by decide) (fun _ => ?_) (fun c_6 => absurd (by decide) c_6)
        refine j_iconst (v := 0) dX4_letsThrough_117 (by decide) ?_
        exact j_zret dX4_letsThrough_118 rfl (by decide) H
    · have H := H.2.2.2 ⟨hn 2 48 (by simp), hn 3 57 (by simp), hn 4 72 (by simp)⟩
      refine j_iconst (v := 1) dX4_letsThrough_119 (by decide) ?_
      exact j_zret dX4_letsThrough_120 rfl (by decide) H
  · have H := H.2 c_2
    refine j_iconst (v := 1) dX4_letsThrough_10 (by decide) ?_
    refine j_goto (tgt := 15) dX4_letsThrough_11 (by decide) ?_
    refine j_istore_n (lo' := [(3, .int 1), (0, .ref (ad 0)), (1, .int x1), (2, .int x2)]) dX4_letsThrough_15 rfl (by decide) rfl ?_
    refine j_aload_n 1 dX4_letsThrough_16 rfl rfl ?_
    refine j_get 0 fl_X4_9 dX4_letsThrough_17 rfl rfl ?_
    refine j_iload_n 2 dX4_letsThrough_20 rfl rfl ?_
    refine j_iald 1 dX4_letsThrough_21 rfl h_1 ?_
    refine j_tsw dX4_letsThrough_22 [(2, 48), (3, 57), (4, 72)] 119 (by decide) (by decide) (by decide) (fun v_ t_ hm hx => ?_) (fun hn => ?_)
    · simp only [List.mem_cons, Prod.mk.injEq, List.not_mem_nil, or_false] at hm
      rcases hm with ⟨rfl, rfl⟩ | ⟨rfl, rfl⟩ | ⟨rfl, rfl⟩
      · have H := H.1 hx
        refine j_aload_n 1 dX4_letsThrough_48 rfl rfl ?_
        refine j_get 0 fl_X4_18 dX4_letsThrough_49 rfl rfl ?_
        refine j_iload_n 2 dX4_letsThrough_52 rfl rfl ?_
        refine j_iload_n 3 dX4_letsThrough_53 rfl rfl ?_
        refine j_iast (w' := (stW G ad 0 (va_up u 2 (upd (u 2) (Int32.toNatClampNeg x1) x2)) d)) 3 dX4_letsThrough_54 rfl h_1 rfl ?_
        refine j_iload_n 0 dX4_letsThrough_55 rfl rfl ?_
        exact j_zret dX4_letsThrough_56 rfl (by decide) H
      · have H := H.2.1 hx
        refine j_iload_n 3 dX4_letsThrough_57 rfl rfl ?_
        refine j_if_eq (tgt := 70) dX4_letsThrough_58 (by decide) (fun c_7 => ?_) (fun c_7 => ?_)
        · have H := H.1 c_7
          refine j_iconst (v := 0) dX4_letsThrough_70 (by decide) ?_
          exact j_zret dX4_letsThrough_71 rfl (by decide) H
        · have H := H.2 c_7
          refine j_iload_n 3 dX4_letsThrough_61 rfl rfl ?_
          refine j_iconst (v := 4) dX4_letsThrough_62 (by decide) ?_
          refine j_icmp_eq (tgt := 70) dX4_letsThrough_63 (by decide) (fun c_8 => ?_) (fun c_8 => ?_)
          · have H := H.1 c_8
            refine j_iconst (v := 0) dX4_letsThrough_70 (by decide) ?_
            exact j_zret dX4_letsThrough_71 rfl (by decide) H
          · have H := H.2 c_8
            refine j_iconst (v := 1) dX4_letsThrough_66 (by decide) ?_
            refine j_goto (tgt := 71) dX4_letsThrough_67 (by decide) ?_
            exact j_zret dX4_letsThrough_71 rfl (by decide) H
      · have H := H.2.2.1 hx
        refine j_aload_n 1 dX4_letsThrough_72 rfl rfl ?_
        refine j_get 0 fl_X4_18 dX4_letsThrough_73 rfl rfl ?_
        refine j_iload_n 2 dX4_letsThrough_76 rfl rfl ?_
        refine j_iload_n 3 dX4_letsThrough_77 rfl rfl ?_
        refine j_iast (w' := (stW G ad 0 (va_up u 2 (upd (u 2) (Int32.toNatClampNeg x1) x2)) d)) 3 dX4_letsThrough_78 rfl h_1 rfl ?_
        refine j_aload_n 1 dX4_letsThrough_79 rfl rfl ?_
        refine j_get 0 fl_X4_21 dX4_letsThrough_80 rfl rfl ?_
        refine j_iload_n 2 dX4_letsThrough_83 rfl rfl ?_
        refine j_dup2 dX4_letsThrough_84 rfl rfl ?_
        refine j_iald 4 dX4_letsThrough_85 rfl h_1 ?_
        refine j_iload_n 0 dX4_letsThrough_86 rfl rfl ?_
        refine j_if_eq (tgt := 94) dX4_letsThrough_87 (by decide) (fun c_9 => absurd c_9 (by decide)) (fun _ => ?_)
        refine j_iconst (v := 1) dX4_letsThrough_90 (by decide) ?_
        refine j_goto (tgt := 95) dX4_letsThrough_91 (by decide) ?_
        refine j_iadd dX4_letsThrough_95 ?_
        refine j_iast (w' := (stW G ad 0 (va_up (va_up u 2 (upd (u 2) (Int32.toNatClampNeg x1) x2)) 3 (upd (u 3) (Int32.toNatClampNeg x1) (((u 3) (Int32.toNatClampNeg x1)) + 1))) d)) 4 dX4_letsThrough_96 rfl h_1 rfl ?_
        refine j_iload_n 0 dX4_letsThrough_97 rfl rfl ?_
        refine j_if_eq (tgt := 117) dX4_letsThrough_98 (by decide) (fun c_10 => absurd c_10 (by decide)) (fun _ => ?_)
        refine j_aload_n 1 dX4_letsThrough_101 rfl rfl ?_
        refine j_get 0 fl_X4_21 dX4_letsThrough_102 rfl rfl ?_
        refine j_iload_n 2 dX4_letsThrough_105 rfl rfl ?_
        refine j_iald 4 dX4_letsThrough_106 rfl h_1 ?_
        refine j_top pk_us ?_
        refine j_iconst (v := 2) dX4_letsThrough_107 (by decide) ?_
        refine j_irem dX4_letsThrough_108 (by decide) ?_
        refine j_iconst (v := 1) dX4_letsThrough_109 (by decide) ?_
        refine j_icmp_ne (tgt := 117) dX4_letsThrough_110 (by decide) (fun c_11 => ?_) (fun c_11 => ?_)
        · have H := H.1 c_11
          refine j_iconst (v := 0) dX4_letsThrough_117 (by decide) ?_
          exact j_zret dX4_letsThrough_118 rfl (by decide) H
        · have H := H.2 c_11
          refine j_iconst (v := 1) dX4_letsThrough_113 (by decide) ?_
          refine j_goto (tgt := 118) dX4_letsThrough_114 (by decide) ?_
          exact j_zret dX4_letsThrough_118 rfl (by decide) H
    · have H := H.2.2.2 ⟨hn 2 48 (by simp), hn 3 57 (by simp), hn 4 72 (by simp)⟩
      refine j_iconst (v := 1) dX4_letsThrough_119 (by decide) ?_
      exact j_zret dX4_letsThrough_120 rfl (by decide) H
set_option maxRecDepth 20000 in
theorem sg_X4_sum_0 {G : GG} {ad : Nat → Nat} {f0 : Nat → Int32} {L0 : Nat} {Q : Option Value → va_W → Prop} (H : J G mX4_sum 10 [(0, .ref (ad 0)), (1, .int 0), (2, .ref (ad 0)), (3, .int (nI L0)), (4, .int 0)] [] (arW G ad 0 L0 f0) Q) : J G mX4_sum 0 [(0, .ref (ad 0))] [] (arW G ad 0 L0 f0) Q := by
  refine j_iconst (v := 0) dX4_sum_0 (by decide) ?_
  refine j_istore_n (lo' := [(1, .int 0), (0, .ref (ad 0))]) dX4_sum_1 rfl (by decide) rfl ?_
  refine j_aload_n 1 dX4_sum_2 rfl rfl ?_
  refine j_astore_n (lo' := [(2, .ref (ad 0)), (1, .int 0), (0, .ref (ad 0))]) dX4_sum_3 rfl (by decide) rfl ?_
  refine j_aload_n 0 dX4_sum_4 rfl rfl ?_
  refine j_alen (v := (nI L0)) 0 dX4_sum_5 rfl rfl ?_
  refine j_istore_n (lo' := [(3, .int (nI L0)), (2, .ref (ad 0)), (1, .int 0), (0, .ref (ad 0))]) dX4_sum_6 rfl (by decide) rfl ?_
  refine j_iconst (v := 0) dX4_sum_7 (by decide) ?_
  refine j_istore (lo' := [(4, .int 0), (3, .int (nI L0)), (2, .ref (ad 0)), (1, .int 0), (0, .ref (ad 0))]) dX4_sum_8 (by decide) rfl ?_
  refine j_lo [4, 3, 2, 1, 0] rfl ?_
  exact H
set_option maxRecDepth 20000 in
theorem sg_X4_sum_10 {G : GG} {ad : Nat → Nat} {f0 : Nat → Int32} {L0 : Nat} {x1 : Int32} {x3 : Int32} {x4 : Int32} {Q : Option Value → va_W → Prop} (H : (((x3 ≤ x4) → Q (some (.int x1)) (arW G ad 0 L0 f0)) ∧ ((¬ x3 ≤ x4) → (vp_in x4 L0) ∧ J G mX4_sum 10 [(0, .ref (ad 0)), (1, .int (x1 + (f0 (Int32.toNatClampNeg x4)))), (2, .ref (ad 0)), (3, .int x3), (4, .int (x4 + 1))] [] (arW G ad 0 L0 f0) Q))) : J G mX4_sum 10 [(0, .ref (ad 0)), (1, .int x1), (2, .ref (ad 0)), (3, .int x3), (4, .int x4)] [] (arW G ad 0 L0 f0) Q := by
  refine j_iload 4 dX4_sum_10 rfl ?_
  refine j_iload_n 3 dX4_sum_12 rfl rfl ?_
  refine j_icmp_ge (tgt := 33) dX4_sum_13 (by decide) (fun c_1 => ?_) (fun c_1 => ?_)
  · have H := H.1 c_1
    refine j_iload_n 1 dX4_sum_33 rfl rfl ?_
    exact j_iret dX4_sum_34 rfl H
  · have H := H.2 c_1
    refine j_aload_n 2 dX4_sum_16 rfl rfl ?_
    refine j_iload 4 dX4_sum_17 rfl ?_
    obtain ⟨h_2, H⟩ := H
    refine j_iald 0 dX4_sum_19 rfl h_2 ?_
    refine j_istore (lo' := [(5, .int (f0 (Int32.toNatClampNeg x4))), (0, .ref (ad 0)), (1, .int x1), (2, .ref (ad 0)), (3, .int x3), (4, .int x4)]) dX4_sum_20 (by decide) rfl ?_
    refine j_iload_n 2 dX4_sum_22 rfl rfl ?_
    refine j_iload 0 dX4_sum_23 rfl ?_
    refine j_iadd dX4_sum_25 ?_
    refine j_istore_n (lo' := [(1, .int (x1 + (f0 (Int32.toNatClampNeg x4)))), (5, .int (f0 (Int32.toNatClampNeg x4))), (0, .ref (ad 0)), (2, .ref (ad 0)), (3, .int x3), (4, .int x4)]) dX4_sum_26 rfl (by decide) rfl ?_
    refine j_iinc (v := (x4 + 1)) (lo' := [(4, .int (x4 + 1)), (1, .int (x1 + (f0 (Int32.toNatClampNeg x4)))), (5, .int (f0 (Int32.toNatClampNeg x4))), (0, .ref (ad 0)), (2, .ref (ad 0)), (3, .int x3)]) 5 dX4_sum_27 rfl rfl (by decide) rfl ?_
    refine j_goto (tgt := 10) dX4_sum_30 (by decide) ?_
    refine j_lo [3, 1, 4, 5, 0] rfl ?_
    exact H
set_option maxRecDepth 20000 in
theorem sg_X4_lettersLost_0 {G : GG} {ad : Nat → Nat} {u : Nat → Nat → Int32} {d : Nat → Nat → Int32} {Q : Option Value → va_W → Prop} (H : J G mX4_sum 0 [(0, .ref ((pk ad [6]) 0))] [] (arW G (pk ad [6]) 0 6 (u 5)) (fun v_ w_ => ∃ (r_1 : Int32), v_ = some (.int r_1) ∧ w_ = (arW G (pk ad [6]) 0 6 (u 5)) ∧ Q (some (.int r_1)) (stW G ad 0 u d))) : J G mX4_lettersLost 0 [(0, .ref (ad 0))] [] (stW G ad 0 u d) Q := by
  refine j_aload_n 0 dX4_lettersLost_0 rfl rfl ?_
  refine j_get 0 fl_X4_27 dX4_lettersLost_1 rfl rfl ?_
  refine j_callS (wc := (arW G (pk ad [6]) 0 6 (u 5))) (As := [.ref ((pk ad [6]) 0)]) (st := []) ml_X4_sum sl_X4_80 dX4_lettersLost_4 [none, none, none, none, none, none, some 0] ⟨rfl, Nat.le_of_ble_eq_true rfl, rfl, rfl⟩ (Nat.le_of_ble_eq_true rfl) ⟨by decide, by decide⟩ rfl rfl (Nat.le_of_ble_eq_true rfl) (J.mono (fun v_ w_ hp_ => ?_) H)
  obtain ⟨r_1, rfl, rfl, H⟩ := hp_
  refine j_w (w' := (stW G ad 0 u d)) rfl ?_
  exact j_iret dX4_lettersLost_7 rfl H
set_option maxRecDepth 20000 in
theorem sg_X4_lettersOut_0 {G : GG} {ad : Nat → Nat} {u : Nat → Nat → Int32} {d : Nat → Nat → Int32} {Q : Option Value → va_W → Prop} (H : J G mX4_sum 0 [(0, .ref ((pk ad [7]) 0))] [] (arW G (pk ad [7]) 0 6 (u 6)) (fun v_ w_ => ∃ (r_1 : Int32), v_ = some (.int r_1) ∧ w_ = (arW G (pk ad [7]) 0 6 (u 6)) ∧ Q (some (.int r_1)) (stW G ad 0 u d))) : J G mX4_lettersOut 0 [(0, .ref (ad 0))] [] (stW G ad 0 u d) Q := by
  refine j_aload_n 0 dX4_lettersOut_0 rfl rfl ?_
  refine j_get 0 fl_X4_30 dX4_lettersOut_1 rfl rfl ?_
  refine j_callS (wc := (arW G (pk ad [7]) 0 6 (u 6))) (As := [.ref ((pk ad [7]) 0)]) (st := []) ml_X4_sum sl_X4_80 dX4_lettersOut_4 [none, none, none, none, none, none, none, some 0] ⟨rfl, Nat.le_of_ble_eq_true rfl, rfl, rfl⟩ (Nat.le_of_ble_eq_true rfl) ⟨by decide, by decide⟩ rfl rfl (Nat.le_of_ble_eq_true rfl) (J.mono (fun v_ w_ hp_ => ?_) H)
  obtain ⟨r_1, rfl, rfl, H⟩ := hp_
  refine j_w (w' := (stW G ad 0 u d)) rfl ?_
  exact j_iret dX4_lettersOut_7 rfl H
set_option maxRecDepth 20000 in
theorem sg_X4_passOn_0 {G : GG} {ad : Nat → Nat} {u : Nat → Nat → Int32} {d : Nat → Nat → Int32} {x1 : Int32} {x2 : Int32} {Q : Option Value → va_W → Prop} (H : (vp_in x1 6) ∧ (((¬ ((u 0) (Int32.toNatClampNeg x1)) = 1) → J G mX4_letsThrough 0 [(0, .ref (ad 0)), (1, .int x1), (2, .int x2)] [] (stW G ad 0 (va_up u 4 (upd (u 4) (Int32.toNatClampNeg x1) (((u 4) (Int32.toNatClampNeg x1)) + 1))) d) (fun v_ w_ => ∃ (r_4 : Int32) (u_3 : Nat → Nat → Int32), v_ = some (.int r_4) ∧ w_ = (stW G ad 0 u_3 d) ∧ (((r_4 = 0) → Q (some (.int (-1))) (stW G ad 0 (va_up u_3 5 (upd (u_3 5) (Int32.toNatClampNeg x1) (((u_3 5) (Int32.toNatClampNeg x1)) + 1))) d)) ∧ ((¬ r_4 = 0) → Q (some (.int x2)) (stW G ad 0 u_3 d))))) ∧ ((((u 0) (Int32.toNatClampNeg x1)) = 1) → Q (some (.int ((u 2) (Int32.toNatClampNeg x1)))) (stW G ad 0 (va_up (va_up u 4 (upd (u 4) (Int32.toNatClampNeg x1) (((u 4) (Int32.toNatClampNeg x1)) + 1))) 2 (upd (u 2) (Int32.toNatClampNeg x1) x2)) d)))) : J G mX4_passOn 0 [(0, .ref (ad 0)), (1, .int x1), (2, .int x2)] [] (stW G ad 0 u d) Q := by
  refine j_aload_n 0 dX4_passOn_0 rfl rfl ?_
  refine j_get 0 fl_X4_24 dX4_passOn_1 rfl rfl ?_
  refine j_iload_n 1 dX4_passOn_4 rfl rfl ?_
  refine j_dup2 dX4_passOn_5 rfl rfl ?_
  obtain ⟨h_1, H⟩ := H
  refine j_iald 5 dX4_passOn_6 rfl h_1 ?_
  refine j_iconst (v := 1) dX4_passOn_7 (by decide) ?_
  refine j_iadd dX4_passOn_8 ?_
  refine j_iast (w' := (stW G ad 0 (va_up u 4 (upd (u 4) (Int32.toNatClampNeg x1) (((u 4) (Int32.toNatClampNeg x1)) + 1))) d)) 5 dX4_passOn_9 rfl h_1 rfl ?_
  refine j_aload_n 0 dX4_passOn_10 rfl rfl ?_
  refine j_get 0 fl_X4_9 dX4_passOn_11 rfl rfl ?_
  refine j_iload_n 1 dX4_passOn_14 rfl rfl ?_
  refine j_iald 1 dX4_passOn_15 rfl h_1 ?_
  refine j_iconst (v := 1) dX4_passOn_16 (by decide) ?_
  refine j_icmp_ne (tgt := 36) dX4_passOn_17 (by decide) (fun c_2 => ?_) (fun c_2 => ?_)
  · have H := H.1 c_2
    refine j_aload_n 0 dX4_passOn_36 rfl rfl ?_
    refine j_iload_n 1 dX4_passOn_37 rfl rfl ?_
    refine j_iload_n 2 dX4_passOn_38 rfl rfl ?_
    refine j_callV0 (q0 := 0) (As := [.int x1, .int x2]) (st := []) ml_X4_letsThrough vl_X4_84 dX4_passOn_39 rfl rfl rfl (Nat.le_of_ble_eq_true rfl) ⟨by decide, by decide⟩ rfl rfl (Nat.le_of_ble_eq_true rfl) (J.mono (fun v_ w_ hp_ => ?_) H)
    obtain ⟨r_4, u_3, rfl, rfl, H⟩ := hp_
    refine j_if_eq (tgt := 47) dX4_passOn_42 (by decide) (fun c_5 => ?_) (fun c_5 => ?_)
    · have H := H.1 c_5
      refine j_aload_n 0 dX4_passOn_47 rfl rfl ?_
      refine j_get 0 fl_X4_27 dX4_passOn_48 rfl rfl ?_
      refine j_iload_n 1 dX4_passOn_51 rfl rfl ?_
      refine j_dup2 dX4_passOn_52 rfl rfl ?_
      refine j_iald 6 dX4_passOn_53 rfl h_1 ?_
      refine j_iconst (v := 1) dX4_passOn_54 (by decide) ?_
      refine j_iadd dX4_passOn_55 ?_
      refine j_iast (w' := (stW G ad 0 (va_up u_3 5 (upd (u_3 5) (Int32.toNatClampNeg x1) (((u_3 5) (Int32.toNatClampNeg x1)) + 1))) d)) 6 dX4_passOn_56 rfl h_1 rfl ?_
      refine j_iconst (v := (-1)) dX4_passOn_57 (by decide) ?_
      exact j_iret dX4_passOn_58 rfl H
    · have H := H.2 c_5
      refine j_iload_n 2 dX4_passOn_45 rfl rfl ?_
      exact j_iret dX4_passOn_46 rfl H
  · have H := H.2 c_2
    refine j_aload_n 0 dX4_passOn_20 rfl rfl ?_
    refine j_get 0 fl_X4_18 dX4_passOn_21 rfl rfl ?_
    refine j_iload_n 1 dX4_passOn_24 rfl rfl ?_
    refine j_iald 3 dX4_passOn_25 rfl h_1 ?_
    refine j_istore_n (lo' := [(3, .int ((u 2) (Int32.toNatClampNeg x1))), (0, .ref (ad 0)), (1, .int x1), (2, .int x2)]) dX4_passOn_26 rfl (by decide) rfl ?_
    refine j_aload_n 1 dX4_passOn_27 rfl rfl ?_
    refine j_get 0 fl_X4_18 dX4_passOn_28 rfl rfl ?_
    refine j_iload_n 2 dX4_passOn_31 rfl rfl ?_
    refine j_iload_n 3 dX4_passOn_32 rfl rfl ?_
    refine j_iast (w' := (stW G ad 0 (va_up (va_up u 4 (upd (u 4) (Int32.toNatClampNeg x1) (((u 4) (Int32.toNatClampNeg x1)) + 1))) 2 (upd (u 2) (Int32.toNatClampNeg x1) x2)) d)) 3 dX4_passOn_33 rfl h_1 rfl ?_
    refine j_iload_n 0 dX4_passOn_34 rfl rfl ?_
    exact j_iret dX4_passOn_35 rfl H
set_option maxRecDepth 20000 in
theorem sg_X4_runOut_0 {G : GG} {ad : Nat → Nat} {u : Nat → Nat → Int32} {d : Nat → Nat → Int32} {x1 : Int32} {x2 : Int32} {Q : Option Value → va_W → Prop} (H : (vp_in x1 6) ∧ (((12 ≤ ((u 6) (Int32.toNatClampNeg x1))) → Q none (stW G ad 0 u d)) ∧ ((¬ 12 ≤ ((u 6) (Int32.toNatClampNeg x1))) → (vp_in ((u 6) (Int32.toNatClampNeg x1)) 12) ∧ Q none (stW G ad 0 (va_up u 6 (upd (u 6) (Int32.toNatClampNeg x1) (((u 6) (Int32.toNatClampNeg x1)) + 1))) (va_up d (Int32.toNatClampNeg x1) (upd (d (Int32.toNatClampNeg x1)) (Int32.toNatClampNeg ((u 6) (Int32.toNatClampNeg x1))) x2)))))) : J G mX4_runOut 0 [(0, .ref (ad 0)), (1, .int x1), (2, .int x2)] [] (stW G ad 0 u d) Q := by
  refine j_aload_n 0 dX4_runOut_0 rfl rfl ?_
  refine j_get 0 fl_X4_30 dX4_runOut_1 rfl rfl ?_
  refine j_iload_n 1 dX4_runOut_4 rfl rfl ?_
  obtain ⟨h_1, H⟩ := H
  refine j_iald 7 dX4_runOut_5 rfl h_1 ?_
  refine j_bipush (v := 12) dX4_runOut_6 (by decide) ?_
  refine j_icmp_ge (tgt := 35) dX4_runOut_8 (by decide) (fun c_2 => ?_) (fun c_2 => ?_)
  · have H := H.1 c_2
    exact j_vret dX4_runOut_35 rfl H
  · have H := H.2 c_2
    refine j_aload_n 0 dX4_runOut_11 rfl rfl ?_
    refine j_get 0 fl_X4_35 dX4_runOut_12 rfl rfl ?_
    refine j_iload_n 1 dX4_runOut_15 rfl rfl ?_
    refine j_aald 8 dX4_runOut_16 rfl h_1 (ow_rf h_1) ?_
    refine j_aload_n 0 dX4_runOut_17 rfl rfl ?_
    refine j_get 0 fl_X4_30 dX4_runOut_18 rfl rfl ?_
    refine j_iload_n 1 dX4_runOut_21 rfl rfl ?_
    refine j_iald 7 dX4_runOut_22 rfl h_1 ?_
    refine j_iload_n 2 dX4_runOut_23 rfl rfl ?_
    obtain ⟨h_3, H⟩ := H
    refine j_iast (w' := (stW G ad 0 u (va_up d (Int32.toNatClampNeg x1) (upd (d (Int32.toNatClampNeg x1)) (Int32.toNatClampNeg ((u 6) (Int32.toNatClampNeg x1))) x2)))) (9 + (Int32.toNatClampNeg x1)) dX4_runOut_24 (row6 (P := fun k_ => (stW G ad 0 u d)[9 + k_]? = some (ad (9 + k_), .inl (G.2.1.1, 12, .inl (d k_)))) rfl rfl rfl rfl rfl rfl (in_lt h_1)) h_3 (row6 (P := fun k_ => (stW G ad 0 u d).set (9 + k_) (ad (9 + k_), .inl (G.2.1.1, 12, .inl (upd (d k_) (Int32.toNatClampNeg ((u 6) (Int32.toNatClampNeg x1))) x2))) = (stW G ad 0 u (va_up d k_ (upd (d k_) (Int32.toNatClampNeg ((u 6) (Int32.toNatClampNeg x1))) x2)))) rfl rfl rfl rfl rfl rfl (in_lt h_1)) ?_
    refine j_aload_n 0 dX4_runOut_25 rfl rfl ?_
    refine j_get 0 fl_X4_30 dX4_runOut_26 rfl rfl ?_
    refine j_iload_n 1 dX4_runOut_29 rfl rfl ?_
    refine j_dup2 dX4_runOut_30 rfl rfl ?_
    refine j_iald 7 dX4_runOut_31 rfl h_1 ?_
    refine j_iconst (v := 1) dX4_runOut_32 (by decide) ?_
    refine j_iadd dX4_runOut_33 ?_
    refine j_iast (w' := (stW G ad 0 (va_up u 6 (upd (u 6) (Int32.toNatClampNeg x1) (((u 6) (Int32.toNatClampNeg x1)) + 1))) (va_up d (Int32.toNatClampNeg x1) (upd (d (Int32.toNatClampNeg x1)) (Int32.toNatClampNeg ((u 6) (Int32.toNatClampNeg x1))) x2)))) 7 dX4_runOut_34 rfl h_1 rfl ?_
    exact j_vret dX4_runOut_35 rfl H
set_option maxRecDepth 20000 in
theorem sg_X4_run_0 {G : GG} {ad : Nat → Nat} {u : Nat → Nat → Int32} {d : Nat → Nat → Int32} {x1 : Int32} {x2 : Int32} {Q : Option Value → va_W → Prop} (H : J G mX4_run 8 [(0, .ref (ad 0)), (1, .int x1), (2, .int x2), (3, .int x1), (4, .int x2), (5, .int 0)] [] (stW G ad 0 u d) Q) : J G mX4_run 0 [(0, .ref (ad 0)), (1, .int x1), (2, .int x2)] [] (stW G ad 0 u d) Q := by
  refine j_iload_n 1 dX4_run_0 rfl rfl ?_
  refine j_istore_n (lo' := [(3, .int x1), (0, .ref (ad 0)), (1, .int x1), (2, .int x2)]) dX4_run_1 rfl (by decide) rfl ?_
  refine j_iload_n 3 dX4_run_2 rfl rfl ?_
  refine j_istore (lo' := [(4, .int x2), (3, .int x1), (0, .ref (ad 0)), (1, .int x1), (2, .int x2)]) dX4_run_3 (by decide) rfl ?_
  refine j_iconst (v := 0) dX4_run_5 (by decide) ?_
  refine j_istore (lo' := [(5, .int 0), (4, .int x2), (3, .int x1), (0, .ref (ad 0)), (1, .int x1), (2, .int x2)]) dX4_run_6 (by decide) rfl ?_
  refine j_lo [3, 4, 5, 2, 1, 0] rfl ?_
  exact H
set_option maxRecDepth 20000 in
theorem sg_X4_run_8 {G : GG} {ad : Nat → Nat} {u : Nat → Nat → Int32} {d : Nat → Nat → Int32} {x1 : Int32} {x2 : Int32} {x3 : Int32} {x4 : Int32} {x5 : Int32} {Q : Option Value → va_W → Prop} (H : (((6 ≤ x5) → Q (some (.int (-1))) (stW G ad 0 u d)) ∧ ((¬ 6 ≤ x5) → (((x3 < 0) → Q (some (.int (-1))) (stW G ad 0 u d)) ∧ ((¬ x3 < 0) → (((6 ≤ x3) → Q (some (.int (-1))) (stW G ad 0 u d)) ∧ ((¬ 6 ≤ x3) → J G mX4_passOn 0 [(0, .ref (ad 0)), (1, .int x3), (2, .int x4)] [] (stW G ad 0 u d) (fun v_ w_ => ∃ (r_5 : Int32) (u_4 : Nat → Nat → Int32), v_ = some (.int r_5) ∧ w_ = (stW G ad 0 u_4 d) ∧ (((¬ r_5 = (-1)) → (vp_in x3 6) ∧ (((¬ ((u_4 1) (Int32.toNatClampNeg x3)) = (-1)) → J G mX4_run 8 [(0, .ref (ad 0)), (1, .int x1), (2, .int x2), (3, .int ((u_4 1) (Int32.toNatClampNeg x3))), (4, .int r_5), (5, .int (x5 + 1))] [] (stW G ad 0 u_4 d) Q) ∧ ((((u_4 1) (Int32.toNatClampNeg x3)) = (-1)) → J G mX4_runOut 0 [(0, .ref (ad 0)), (1, .int x3), (2, .int r_5)] [] (stW G ad 0 u_4 d) (fun v_ w_ => ∃ (d_9 : Nat → Nat → Int32) (u_10 : Nat → Nat → Int32), v_ = none ∧ w_ = (stW G ad 0 u_10 d_9) ∧ Q (some (.int x3)) (stW G ad 0 u_10 d_9))))) ∧ ((r_5 = (-1)) → Q (some (.int (-1))) (stW G ad 0 u_4 d))))))))))) : J G mX4_run 8 [(0, .ref (ad 0)), (1, .int x1), (2, .int x2), (3, .int x3), (4, .int x4), (5, .int x5)] [] (stW G ad 0 u d) Q := by
  refine j_iload 5 dX4_run_8 rfl ?_
  refine j_bipush (v := 6) dX4_run_10 (by decide) ?_
  refine j_icmp_ge (tgt := 74) dX4_run_12 (by decide) (fun c_1 => ?_) (fun c_1 => ?_)
  · have H := H.1 c_1
    refine j_iconst (v := (-1)) dX4_run_74 (by decide) ?_
    exact j_iret dX4_run_75 rfl H
  · have H := H.2 c_1
    refine j_iload_n 3 dX4_run_15 rfl rfl ?_
    refine j_if_lt (tgt := 74) dX4_run_16 (by decide) (fun c_2 => ?_) (fun c_2 => ?_)
    · have H := H.1 c_2
      refine j_iconst (v := (-1)) dX4_run_74 (by decide) ?_
      exact j_iret dX4_run_75 rfl H
    · have H := H.2 c_2
      refine j_iload_n 3 dX4_run_19 rfl rfl ?_
      refine j_bipush (v := 6) dX4_run_20 (by decide) ?_
      refine j_icmp_ge (tgt := 74) dX4_run_22 (by decide) (fun c_3 => ?_) (fun c_3 => ?_)
      · have H := H.1 c_3
        refine j_iconst (v := (-1)) dX4_run_74 (by decide) ?_
        exact j_iret dX4_run_75 rfl H
      · have H := H.2 c_3
        refine j_aload_n 0 dX4_run_25 rfl rfl ?_
        refine j_iload_n 3 dX4_run_26 rfl rfl ?_
        refine j_iload 4 dX4_run_27 rfl ?_
        refine j_callV0 (q0 := 0) (As := [.int x3, .int x4]) (st := []) ml_X4_passOn vl_X4_73 dX4_run_29 rfl rfl rfl (Nat.le_of_ble_eq_true rfl) ⟨by decide, by decide⟩ rfl rfl (Nat.le_of_ble_eq_true rfl) (J.mono (fun v_ w_ hp_ => ?_) H)
        obtain ⟨r_5, u_4, rfl, rfl, H⟩ := hp_
        refine j_istore (lo' := [(4, .int r_5), (0, .ref (ad 0)), (1, .int x1), (2, .int x2), (3, .int x3), (5, .int x5)]) dX4_run_32 (by decide) rfl ?_
        refine j_iload 0 dX4_run_34 rfl ?_
        refine j_iconst (v := (-1)) dX4_run_36 (by decide) ?_
        refine j_icmp_ne (tgt := 42) dX4_run_37 (by decide) (fun c_6 => ?_) (fun c_6 => ?_)
        · have H := H.1 c_6
          refine j_aload_n 1 dX4_run_42 rfl rfl ?_
          refine j_get 0 fl_X4_15 dX4_run_43 rfl rfl ?_
          refine j_iload_n 4 dX4_run_46 rfl rfl ?_
          obtain ⟨h_7, H⟩ := H
          refine j_iald 2 dX4_run_47 rfl h_7 ?_
          refine j_iconst (v := (-1)) dX4_run_48 (by decide) ?_
          refine j_icmp_ne (tgt := 61) dX4_run_49 (by decide) (fun c_8 => ?_) (fun c_8 => ?_)
          · have H := H.1 c_8
            refine j_aload_n 1 dX4_run_61 rfl rfl ?_
            refine j_get 0 fl_X4_15 dX4_run_62 rfl rfl ?_
            refine j_iload_n 4 dX4_run_65 rfl rfl ?_
            refine j_iald 2 dX4_run_66 rfl h_7 ?_
            refine j_istore_n (lo' := [(3, .int ((u_4 1) (Int32.toNatClampNeg x3))), (4, .int r_5), (0, .ref (ad 0)), (1, .int x1), (2, .int x2), (5, .int x5)]) dX4_run_67 rfl (by decide) rfl ?_
            refine j_iinc (v := (x5 + 1)) (lo' := [(5, .int (x5 + 1)), (3, .int ((u_4 1) (Int32.toNatClampNeg x3))), (4, .int r_5), (0, .ref (ad 0)), (1, .int x1), (2, .int x2)]) 5 dX4_run_68 rfl rfl (by decide) rfl ?_
            refine j_goto (tgt := 8) dX4_run_71 (by decide) ?_
            refine j_lo [3, 4, 5, 1, 2, 0] rfl ?_
            exact H
          · have H := H.2 c_8
            refine j_aload_n 1 dX4_run_52 rfl rfl ?_
            refine j_iload_n 4 dX4_run_53 rfl rfl ?_
            refine j_iload 0 dX4_run_54 rfl ?_
            refine j_callV0 (q0 := 0) (As := [.int x3, .int r_5]) (st := []) ml_X4_runOut vl_X4_76 dX4_run_56 rfl rfl rfl (Nat.le_of_ble_eq_true rfl) ⟨by decide, by decide⟩ rfl rfl (Nat.le_of_ble_eq_true rfl) (J.mono (fun v_ w_ hp_ => ?_) H)
            obtain ⟨d_9, u_10, rfl, rfl, H⟩ := hp_
            refine j_iload_n 4 dX4_run_59 rfl rfl ?_
            exact j_iret dX4_run_60 rfl H
        · have H := H.2 c_6
          refine j_iconst (v := (-1)) dX4_run_40 (by decide) ?_
          exact j_iret dX4_run_41 rfl H
set_option maxRecDepth 20000 in
theorem sg_X4_runAll_0 {G : GG} {ad : Nat → Nat} {u : Nat → Nat → Int32} {d : Nat → Nat → Int32} {g1 : Nat → Int32} {l1 : Nat → Int32} {n1 : Int32} {x2 : Int32} {x3 : Int32} {Q : Option Value → va_W → Prop} (H : J G mX4_runAll 3 [(0, .ref (ad 0)), (1, .ref (ad 15)), (2, .int x2), (3, .int x3), (4, .int 0)] [] (stW G ad 0 u d ++ (faW G ad 15 g1 l1 n1)) Q) : J G mX4_runAll 0 [(0, .ref (ad 0)), (1, .ref (ad 15)), (2, .int x2), (3, .int x3)] [] (stW G ad 0 u d ++ (faW G ad 15 g1 l1 n1)) Q := by
  refine j_iconst (v := 0) dX4_runAll_0 (by decide) ?_
  refine j_istore (lo' := [(4, .int 0), (0, .ref (ad 0)), (1, .ref (ad 15)), (2, .int x2), (3, .int x3)]) dX4_runAll_1 (by decide) rfl ?_
  refine j_lo [1, 2, 3, 4, 0] rfl ?_
  exact H
set_option maxRecDepth 20000 in
theorem sg_X4_runAll_3 {G : GG} {ad : Nat → Nat} {u : Nat → Nat → Int32} {d : Nat → Nat → Int32} {g1 : Nat → Int32} {l1 : Nat → Int32} {n1 : Int32} {x2 : Int32} {x3 : Int32} {x4 : Int32} {Q : Option Value → va_W → Prop} (H : (((n1 ≤ x4) → Q none (stW G ad 0 u d ++ (faW G ad 15 g1 l1 n1))) ∧ ((¬ n1 ≤ x4) → (vp_in x4 12) ∧ (((¬ x4 = x2) → J G mX4_run 0 [(0, .ref ((pk ad [0, 1, 2, 3, 4, 5, 6, 7, 8, 9, 10, 11, 12, 13, 14]) 0)), (1, .int (g1 (Int32.toNatClampNeg x4))), (2, .int (l1 (Int32.toNatClampNeg x4)))] [] (stW G (pk ad [0, 1, 2, 3, 4, 5, 6, 7, 8, 9, 10, 11, 12, 13, 14]) 0 u d) (fun v_ w_ => ∃ (r_6 : Int32) (d_4 : Nat → Nat → Int32) (u_5 : Nat → Nat → Int32), v_ = some (.int r_6) ∧ w_ = (stW G (pk ad [0, 1, 2, 3, 4, 5, 6, 7, 8, 9, 10, 11, 12, 13, 14]) 0 u_5 d_4) ∧ J G mX4_runAll 3 [(0, .ref (ad 0)), (1, .ref (ad 15)), (2, .int x2), (3, .int x3), (4, .int (x4 + 1))] [] (stW G ad 0 u_5 d_4 ++ (faW G ad 15 g1 l1 n1)) Q)) ∧ ((x4 = x2) → J G mX4_run 0 [(0, .ref ((pk ad [0, 1, 2, 3, 4, 5, 6, 7, 8, 9, 10, 11, 12, 13, 14]) 0)), (1, .int (g1 (Int32.toNatClampNeg x4))), (2, .int x3)] [] (stW G (pk ad [0, 1, 2, 3, 4, 5, 6, 7, 8, 9, 10, 11, 12, 13, 14]) 0 u d) (fun v_ w_ => ∃ (r_9 : Int32) (d_7 : Nat → Nat → Int32) (u_8 : Nat → Nat → Int32), v_ = some (.int r_9) ∧ w_ = (stW G (pk ad [0, 1, 2, 3, 4, 5, 6, 7, 8, 9, 10, 11, 12, 13, 14]) 0 u_8 d_7) ∧ J G mX4_runAll 3 [(0, .ref (ad 0)), (1, .ref (ad 15)), (2, .int x2), (3, .int x3), (4, .int (x4 + 1))] [] (stW G ad 0 u_8 d_7 ++ (faW G ad 15 g1 l1 n1)) Q)))))) : J G mX4_runAll 3 [(0, .ref (ad 0)), (1, .ref (ad 15)), (2, .int x2), (3, .int x3), (4, .int x4)] [] (stW G ad 0 u d ++ (faW G ad 15 g1 l1 n1)) Q := by
  refine j_iload 4 dX4_runAll_3 rfl ?_
  refine j_aload_n 1 dX4_runAll_5 rfl rfl ?_
  refine j_get 15 fl_X4_57 dX4_runAll_6 rfl rfl ?_
  refine j_icmp_ge (tgt := 47) dX4_runAll_9 (by decide) (fun c_1 => ?_) (fun c_1 => ?_)
  · have H := H.1 c_1
    exact j_vret dX4_runAll_47 rfl H
  · have H := H.2 c_1
    refine j_aload_n 0 dX4_runAll_12 rfl rfl ?_
    refine j_aload_n 1 dX4_runAll_13 rfl rfl ?_
    refine j_get 15 fl_X4_63 dX4_runAll_14 rfl rfl ?_
    refine j_iload 4 dX4_runAll_17 rfl ?_
    obtain ⟨h_2, H⟩ := H
    refine j_iald 16 dX4_runAll_19 rfl h_2 ?_
    refine j_iload 4 dX4_runAll_20 rfl ?_
    refine j_iload_n 2 dX4_runAll_22 rfl rfl ?_
    refine j_icmp_ne (tgt := 30) dX4_runAll_23 (by decide) (fun c_3 => ?_) (fun c_3 => ?_)
    · have H := H.1 c_3
      refine j_aload_n 1 dX4_runAll_30 rfl rfl ?_
      refine j_get 15 fl_X4_66 dX4_runAll_31 rfl rfl ?_
      refine j_iload 4 dX4_runAll_34 rfl ?_
      refine j_iald 17 dX4_runAll_36 rfl h_2 ?_
      refine j_callV (q0 := 0) (wc := (stW G (pk ad [0, 1, 2, 3, 4, 5, 6, 7, 8, 9, 10, 11, 12, 13, 14]) 0 u d)) (As := [.int (g1 (Int32.toNatClampNeg x4)), .int (l1 (Int32.toNatClampNeg x4))]) (st := []) ml_X4_run vl_X4_69 dX4_runAll_37 [some 0, some 1, some 2, some 3, some 4, some 5, some 6, some 7, some 8, some 9, some 10, some 11, some 12, some 13, some 14] ⟨rfl, Nat.le_of_ble_eq_true rfl, rfl, rfl⟩ rfl rfl rfl (Nat.le_of_ble_eq_true rfl) ⟨by decide, by decide⟩ rfl rfl (Nat.le_of_ble_eq_true rfl) (J.mono (fun v_ w_ hp_ => ?_) H)
      obtain ⟨r_6, d_4, u_5, rfl, rfl, H⟩ := hp_
      refine j_w (w' := (stW G ad 0 u_5 d_4 ++ (faW G ad 15 g1 l1 n1))) rfl ?_
      refine j_pop dX4_runAll_40 rfl ?_
      refine j_iinc (v := (x4 + 1)) (lo' := [(4, .int (x4 + 1)), (0, .ref (ad 0)), (1, .ref (ad 15)), (2, .int x2), (3, .int x3)]) 4 dX4_runAll_41 rfl rfl (by decide) rfl ?_
      refine j_goto (tgt := 3) dX4_runAll_44 (by decide) ?_
      refine j_lo [1, 2, 3, 4, 0] rfl ?_
      exact H
    · have H := H.2 c_3
      refine j_iload_n 3 dX4_runAll_26 rfl rfl ?_
      refine j_goto (tgt := 37) dX4_runAll_27 (by decide) ?_
      refine j_callV (q0 := 0) (wc := (stW G (pk ad [0, 1, 2, 3, 4, 5, 6, 7, 8, 9, 10, 11, 12, 13, 14]) 0 u d)) (As := [.int (g1 (Int32.toNatClampNeg x4)), .int x3]) (st := []) ml_X4_run vl_X4_69 dX4_runAll_37 [some 0, some 1, some 2, some 3, some 4, some 5, some 6, some 7, some 8, some 9, some 10, some 11, some 12, some 13, some 14] ⟨rfl, Nat.le_of_ble_eq_true rfl, rfl, rfl⟩ rfl rfl rfl (Nat.le_of_ble_eq_true rfl) ⟨by decide, by decide⟩ rfl rfl (Nat.le_of_ble_eq_true rfl) (J.mono (fun v_ w_ hp_ => ?_) H)
      obtain ⟨r_9, d_7, u_8, rfl, rfl, H⟩ := hp_
      refine j_w (w' := (stW G ad 0 u_8 d_7 ++ (faW G ad 15 g1 l1 n1))) rfl ?_
      refine j_pop dX4_runAll_40 rfl ?_
      refine j_iinc (v := (x4 + 1)) (lo' := [(4, .int (x4 + 1)), (0, .ref (ad 0)), (1, .ref (ad 15)), (2, .int x2), (3, .int x3)]) 4 dX4_runAll_41 rfl rfl (by decide) rfl ?_
      refine j_goto (tgt := 3) dX4_runAll_44 (by decide) ?_
      refine j_lo [1, 2, 3, 4, 0] rfl ?_
      exact H
set_option maxRecDepth 20000 in
theorem sg_X4_unlikeFlows_0 {G : GG} {ad : Nat → Nat} {u : Nat → Nat → Int32} {d : Nat → Nat → Int32} {u1 : Nat → Nat → Int32} {d1 : Nat → Nat → Int32} {Q : Option Value → va_W → Prop} (H : J G mX4_unlikeFlows 4 [(0, .ref (ad 0)), (1, .ref (ad 15)), (2, .int 0), (3, .int 0)] [] (stW G ad 0 u d ++ (stW G ad 15 u1 d1)) Q) : J G mX4_unlikeFlows 0 [(0, .ref (ad 0)), (1, .ref (ad 15))] [] (stW G ad 0 u d ++ (stW G ad 15 u1 d1)) Q := by
  refine j_iconst (v := 0) dX4_unlikeFlows_0 (by decide) ?_
  refine j_istore_n (lo' := [(2, .int 0), (0, .ref (ad 0)), (1, .ref (ad 15))]) dX4_unlikeFlows_1 rfl (by decide) rfl ?_
  refine j_iconst (v := 0) dX4_unlikeFlows_2 (by decide) ?_
  refine j_istore_n (lo' := [(3, .int 0), (2, .int 0), (0, .ref (ad 0)), (1, .ref (ad 15))]) dX4_unlikeFlows_3 rfl (by decide) rfl ?_
  refine j_lo [2, 3, 1, 0] rfl ?_
  exact H
set_option maxRecDepth 20000 in
theorem sg_X4_unlikeFlows_4 {G : GG} {ad : Nat → Nat} {u : Nat → Nat → Int32} {d : Nat → Nat → Int32} {u1 : Nat → Nat → Int32} {d1 : Nat → Nat → Int32} {x2 : Int32} {x3 : Int32} {Q : Option Value → va_W → Prop} (H : (((6 ≤ x3) → Q (some (.int x2)) (stW G ad 0 u d ++ (stW G ad 15 u1 d1))) ∧ ((¬ 6 ≤ x3) → (vp_in x3 6) ∧ (((((u 1) (Int32.toNatClampNeg x3)) = ((u1 1) (Int32.toNatClampNeg x3))) → J G mX4_unlikeFlows 4 [(0, .ref (ad 0)), (1, .ref (ad 15)), (2, .int x2), (3, .int (x3 + 1))] [] (stW G ad 0 u d ++ (stW G ad 15 u1 d1)) Q) ∧ ((¬ ((u 1) (Int32.toNatClampNeg x3)) = ((u1 1) (Int32.toNatClampNeg x3))) → J G mX4_unlikeFlows 4 [(0, .ref (ad 0)), (1, .ref (ad 15)), (2, .int (x2 ||| ((1 <<< (x3 &&& 31)) : Int32))), (3, .int (x3 + 1))] [] (stW G ad 0 u d ++ (stW G ad 15 u1 d1)) Q))))) : J G mX4_unlikeFlows 4 [(0, .ref (ad 0)), (1, .ref (ad 15)), (2, .int x2), (3, .int x3)] [] (stW G ad 0 u d ++ (stW G ad 15 u1 d1)) Q := by
  refine j_iload_n 3 dX4_unlikeFlows_4 rfl rfl ?_
  refine j_bipush (v := 6) dX4_unlikeFlows_5 (by decide) ?_
  refine j_icmp_ge (tgt := 37) dX4_unlikeFlows_7 (by decide) (fun c_1 => ?_) (fun c_1 => ?_)
  · have H := H.1 c_1
    refine j_iload_n 2 dX4_unlikeFlows_37 rfl rfl ?_
    exact j_iret dX4_unlikeFlows_38 rfl H
  · have H := H.2 c_1
    refine j_aload_n 0 dX4_unlikeFlows_10 rfl rfl ?_
    refine j_get 0 fl_X4_15 dX4_unlikeFlows_11 rfl rfl ?_
    refine j_iload_n 3 dX4_unlikeFlows_14 rfl rfl ?_
    obtain ⟨h_2, H⟩ := H
    refine j_iald 2 dX4_unlikeFlows_15 rfl h_2 ?_
    refine j_aload_n 1 dX4_unlikeFlows_16 rfl rfl ?_
    refine j_get 15 fl_X4_15 dX4_unlikeFlows_17 rfl rfl ?_
    refine j_iload_n 3 dX4_unlikeFlows_20 rfl rfl ?_
    refine j_iald 17 dX4_unlikeFlows_21 rfl h_2 ?_
    refine j_icmp_eq (tgt := 31) dX4_unlikeFlows_22 (by decide) (fun c_3 => ?_) (fun c_3 => ?_)
    · have H := H.1 c_3
      refine j_iinc (v := (x3 + 1)) (lo' := [(3, .int (x3 + 1)), (0, .ref (ad 0)), (1, .ref (ad 15)), (2, .int x2)]) 3 dX4_unlikeFlows_31 rfl rfl (by decide) rfl ?_
      refine j_goto (tgt := 4) dX4_unlikeFlows_34 (by decide) ?_
      refine j_lo [1, 2, 3, 0] rfl ?_
      exact H
    · have H := H.2 c_3
      refine j_iload_n 2 dX4_unlikeFlows_25 rfl rfl ?_
      refine j_iconst (v := 1) dX4_unlikeFlows_26 (by decide) ?_
      refine j_iload_n 3 dX4_unlikeFlows_27 rfl rfl ?_
      refine j_ishl dX4_unlikeFlows_28 ?_
      refine j_ior dX4_unlikeFlows_29 ?_
      refine j_istore_n (lo' := [(2, .int (x2 ||| ((1 <<< (x3 &&& 31)) : Int32))), (0, .ref (ad 0)), (1, .ref (ad 15)), (3, .int x3)]) dX4_unlikeFlows_30 rfl (by decide) rfl ?_
      refine j_iinc (v := (x3 + 1)) (lo' := [(3, .int (x3 + 1)), (2, .int (x2 ||| ((1 <<< (x3 &&& 31)) : Int32))), (0, .ref (ad 0)), (1, .ref (ad 15))]) 3 dX4_unlikeFlows_31 rfl rfl (by decide) rfl ?_
      refine j_goto (tgt := 4) dX4_unlikeFlows_34 (by decide) ?_
      refine j_lo [2, 3, 1, 0] rfl ?_
      exact H
set_option maxRecDepth 20000 in
theorem sg_X4_wordCode_0 {G : GG} {ad : Nat → Nat} {u : Nat → Nat → Int32} {d : Nat → Nat → Int32} {x1 : Int32} {Q : Option Value → va_W → Prop} (H : J G mX4_wordCode 4 [(0, .ref (ad 0)), (1, .int x1), (2, .int 1), (3, .int 0)] [] (stW G ad 0 u d) Q) : J G mX4_wordCode 0 [(0, .ref (ad 0)), (1, .int x1)] [] (stW G ad 0 u d) Q := by
  refine j_iconst (v := 1) dX4_wordCode_0 (by decide) ?_
  refine j_istore_n (lo' := [(2, .int 1), (0, .ref (ad 0)), (1, .int x1)]) dX4_wordCode_1 rfl (by decide) rfl ?_
  refine j_iconst (v := 0) dX4_wordCode_2 (by decide) ?_
  refine j_istore_n (lo' := [(3, .int 0), (2, .int 1), (0, .ref (ad 0)), (1, .int x1)]) dX4_wordCode_3 rfl (by decide) rfl ?_
  refine j_lo [2, 3, 1, 0] rfl ?_
  exact H
set_option maxRecDepth 20000 in
theorem sg_X4_wordCode_4 {G : GG} {ad : Nat → Nat} {u : Nat → Nat → Int32} {d : Nat → Nat → Int32} {x1 : Int32} {x2 : Int32} {x3 : Int32} {Q : Option Value → va_W → Prop} (H : (vp_in x1 6) ∧ (((((u 6) (Int32.toNatClampNeg x1)) ≤ x3) → Q (some (.int x2)) (stW G ad 0 u d)) ∧ ((¬ ((u 6) (Int32.toNatClampNeg x1)) ≤ x3) → (vp_in x3 12) ∧ J G mX4_wordCode 4 [(0, .ref (ad 0)), (1, .int x1), (2, .int ((x2 * 5) + ((d (Int32.toNatClampNeg x1)) (Int32.toNatClampNeg x3)))), (3, .int (x3 + 1))] [] (stW G ad 0 u d) Q))) : J G mX4_wordCode 4 [(0, .ref (ad 0)), (1, .int x1), (2, .int x2), (3, .int x3)] [] (stW G ad 0 u d) Q := by
  refine j_iload_n 3 dX4_wordCode_4 rfl rfl ?_
  refine j_aload_n 0 dX4_wordCode_5 rfl rfl ?_
  refine j_get 0 fl_X4_30 dX4_wordCode_6 rfl rfl ?_
  refine j_iload_n 1 dX4_wordCode_9 rfl rfl ?_
  obtain ⟨h_1, H⟩ := H
  refine j_iald 7 dX4_wordCode_10 rfl h_1 ?_
  refine j_icmp_ge (tgt := 33) dX4_wordCode_11 (by decide) (fun c_2 => ?_) (fun c_2 => ?_)
  · have H := H.1 c_2
    refine j_iload_n 2 dX4_wordCode_33 rfl rfl ?_
    exact j_iret dX4_wordCode_34 rfl H
  · have H := H.2 c_2
    refine j_iload_n 2 dX4_wordCode_14 rfl rfl ?_
    refine j_iconst (v := 5) dX4_wordCode_15 (by decide) ?_
    refine j_imul dX4_wordCode_16 ?_
    refine j_aload_n 0 dX4_wordCode_17 rfl rfl ?_
    refine j_get 0 fl_X4_35 dX4_wordCode_18 rfl rfl ?_
    refine j_iload_n 1 dX4_wordCode_21 rfl rfl ?_
    refine j_aald 8 dX4_wordCode_22 rfl h_1 (ow_rf h_1) ?_
    refine j_iload_n 3 dX4_wordCode_23 rfl rfl ?_
    obtain ⟨h_3, H⟩ := H
    refine j_iald (9 + (Int32.toNatClampNeg x1)) dX4_wordCode_24 (row6 (P := fun k_ => (stW G ad 0 u d)[9 + k_]? = some (ad (9 + k_), .inl (G.2.1.1, 12, .inl (d k_)))) rfl rfl rfl rfl rfl rfl (in_lt h_1)) h_3 ?_
    refine j_iadd dX4_wordCode_25 ?_
    refine j_istore_n (lo' := [(2, .int ((x2 * 5) + ((d (Int32.toNatClampNeg x1)) (Int32.toNatClampNeg x3)))), (0, .ref (ad 0)), (1, .int x1), (3, .int x3)]) dX4_wordCode_26 rfl (by decide) rfl ?_
    refine j_iinc (v := (x3 + 1)) (lo' := [(3, .int (x3 + 1)), (2, .int ((x2 * 5) + ((d (Int32.toNatClampNeg x1)) (Int32.toNatClampNeg x3)))), (0, .ref (ad 0)), (1, .int x1)]) 3 dX4_wordCode_27 rfl rfl (by decide) rfl ?_
    refine j_goto (tgt := 4) dX4_wordCode_30 (by decide) ?_
    refine j_lo [2, 3, 1, 0] rfl ?_
    exact H
set_option maxRecDepth 20000 in
theorem sg_X5_add_0 {G : GG} {ad : Nat → Nat} {t : Nat → Int32} {x1 : Int32} {Q : Option Value → va_W → Prop} (H : J G mJ6_bitCount_0f7a4 0 [(0, .int x1)] [] ([] : va_W) (fun v_ w_ => ∃ (r_1 : Int32), v_ = some (.int r_1) ∧ w_ = ([] : va_W) ∧ ((((t 2) = 0) → Q none (tuW G ad 0 (va_up (va_up (va_up t 0 r_1) 1 x1) 2 1))) ∧ ((¬ (t 2) = 0) → ((((t 0) ≤ r_1) → (((¬ r_1 = (t 0)) → Q none (tuW G ad 0 t)) ∧ ((r_1 = (t 0)) → Q none (tuW G ad 0 (va_up (va_up t 1 (if x1 < (t 1) then x1 else (t 1))) 2 ((t 2) + 1)))))) ∧ ((¬ (t 0) ≤ r_1) → Q none (tuW G ad 0 (va_up (va_up (va_up t 0 r_1) 1 x1) 2 1)))))))) : J G mX5_add 0 [(0, .ref (ad 0)), (1, .int x1)] [] (tuW G ad 0 t) Q := by
  refine j_iload_n 1 dX5_add_0 rfl rfl ?_
  refine j_callS0 (As := [.int x1]) (st := []) ml_J6_bitCount_0f7a4 sl_X5_21 dX5_add_1 (Nat.le_of_ble_eq_true rfl) ⟨by decide, by decide⟩ rfl rfl (Nat.le_of_ble_eq_true rfl) (J.mono (fun v_ w_ hp_ => ?_) H)
  obtain ⟨r_1, rfl, rfl, H⟩ := hp_
  refine j_istore_n (lo' := [(2, .int r_1), (0, .ref (ad 0)), (1, .int x1)]) dX5_add_4 rfl (by decide) rfl ?_
  refine j_aload_n 1 dX5_add_5 rfl rfl ?_
  refine j_get 0 fl_X5_18 dX5_add_6 rfl rfl ?_
  refine j_if_eq (tgt := 20) dX5_add_9 (by decide) (fun c_2 => ?_) (fun c_2 => ?_)
  · have H := H.1 c_2
    refine j_aload_n 1 dX5_add_20 rfl rfl ?_
    refine j_iload_n 0 dX5_add_21 rfl rfl ?_
    refine j_put (w' := (tuW G ad 0 (va_up t 0 r_1))) 0 fp_X5_9 dX5_add_22 rfl rfl rfl (Nat.le_of_ble_eq_true rfl) rfl ?_
    refine j_aload_n 1 dX5_add_25 rfl rfl ?_
    refine j_iload_n 2 dX5_add_26 rfl rfl ?_
    refine j_put (w' := (tuW G ad 0 (va_up (va_up t 0 r_1) 1 x1))) 0 fp_X5_15 dX5_add_27 rfl rfl rfl (Nat.le_of_ble_eq_true rfl) rfl ?_
    refine j_aload_n 1 dX5_add_30 rfl rfl ?_
    refine j_iconst (v := 1) dX5_add_31 (by decide) ?_
    refine j_put (w' := (tuW G ad 0 (va_up (va_up (va_up t 0 r_1) 1 x1) 2 1))) 0 fp_X5_18 dX5_add_32 rfl rfl rfl (Nat.le_of_ble_eq_true rfl) rfl ?_
    refine j_goto (tgt := 68) dX5_add_35 (by decide) ?_
    exact j_vret dX5_add_68 rfl H
  · have H := H.2 c_2
    refine j_iload_n 0 dX5_add_12 rfl rfl ?_
    refine j_aload_n 1 dX5_add_13 rfl rfl ?_
    refine j_get 0 fl_X5_9 dX5_add_14 rfl rfl ?_
    refine j_icmp_ge (tgt := 38) dX5_add_17 (by decide) (fun c_3 => ?_) (fun c_3 => ?_)
    · have H := H.1 c_3
      refine j_iload_n 0 dX5_add_38 rfl rfl ?_
      refine j_aload_n 1 dX5_add_39 rfl rfl ?_
      refine j_get 0 fl_X5_9 dX5_add_40 rfl rfl ?_
      refine j_icmp_ne (tgt := 68) dX5_add_43 (by decide) (fun c_4 => ?_) (fun c_4 => ?_)
      · have H := H.1 c_4
        exact j_vret dX5_add_68 rfl H
      · have H := H.2 c_4
        refine j_aload_n 1 dX5_add_46 rfl rfl ?_
        refine j_aload_n 1 dX5_add_47 rfl rfl ?_
        refine j_get 0 fl_X5_15 dX5_add_48 rfl rfl ?_
        refine j_iload_n 2 dX5_add_51 rfl rfl ?_
        refine j_mmin mm_X5_27 mmin_w dX5_add_52 (by decide) (Nat.le_of_ble_eq_true rfl) ?_
        refine j_put (w' := (tuW G ad 0 (va_up t 1 (if x1 < (t 1) then x1 else (t 1))))) 0 fp_X5_15 dX5_add_55 rfl rfl rfl (Nat.le_of_ble_eq_true rfl) rfl ?_
        refine j_aload_n 1 dX5_add_58 rfl rfl ?_
        refine j_dup dX5_add_59 rfl ?_
        refine j_get 0 fl_X5_18 dX5_add_60 rfl rfl ?_
        refine j_iconst (v := 1) dX5_add_63 (by decide) ?_
        refine j_iadd dX5_add_64 ?_
        refine j_put (w' := (tuW G ad 0 (va_up (va_up t 1 (if x1 < (t 1) then x1 else (t 1))) 2 ((t 2) + 1)))) 0 fp_X5_18 dX5_add_65 rfl rfl rfl (Nat.le_of_ble_eq_true rfl) rfl ?_
        exact j_vret dX5_add_68 rfl H
    · have H := H.2 c_3
      refine j_aload_n 1 dX5_add_20 rfl rfl ?_
      refine j_iload_n 0 dX5_add_21 rfl rfl ?_
      refine j_put (w' := (tuW G ad 0 (va_up t 0 r_1))) 0 fp_X5_9 dX5_add_22 rfl rfl rfl (Nat.le_of_ble_eq_true rfl) rfl ?_
      refine j_aload_n 1 dX5_add_25 rfl rfl ?_
      refine j_iload_n 2 dX5_add_26 rfl rfl ?_
      refine j_put (w' := (tuW G ad 0 (va_up (va_up t 0 r_1) 1 x1))) 0 fp_X5_15 dX5_add_27 rfl rfl rfl (Nat.le_of_ble_eq_true rfl) rfl ?_
      refine j_aload_n 1 dX5_add_30 rfl rfl ?_
      refine j_iconst (v := 1) dX5_add_31 (by decide) ?_
      refine j_put (w' := (tuW G ad 0 (va_up (va_up (va_up t 0 r_1) 1 x1) 2 1))) 0 fp_X5_18 dX5_add_32 rfl rfl rfl (Nat.le_of_ble_eq_true rfl) rfl ?_
      refine j_goto (tgt := 68) dX5_add_35 (by decide) ?_
      exact j_vret dX5_add_68 rfl H
set_option maxRecDepth 20000 in
theorem sg_X5_clear_0 {G : GG} {ad : Nat → Nat} {t : Nat → Int32} {Q : Option Value → va_W → Prop} (H : Q none (tuW G ad 0 (va_up (va_up (va_up t 0 6) 1 0) 2 0))) : J G mX5_clear 0 [(0, .ref (ad 0))] [] (tuW G ad 0 t) Q := by
  refine j_aload_n 0 dX5_clear_0 rfl rfl ?_
  refine j_bipush (v := 6) dX5_clear_1 (by decide) ?_
  refine j_put (w' := (tuW G ad 0 (va_up t 0 6))) 0 fp_X5_9 dX5_clear_3 rfl rfl rfl (Nat.le_of_ble_eq_true rfl) rfl ?_
  refine j_aload_n 0 dX5_clear_6 rfl rfl ?_
  refine j_iconst (v := 0) dX5_clear_7 (by decide) ?_
  refine j_put (w' := (tuW G ad 0 (va_up (va_up t 0 6) 1 0))) 0 fp_X5_15 dX5_clear_8 rfl rfl rfl (Nat.le_of_ble_eq_true rfl) rfl ?_
  refine j_aload_n 0 dX5_clear_11 rfl rfl ?_
  refine j_iconst (v := 0) dX5_clear_12 (by decide) ?_
  refine j_put (w' := (tuW G ad 0 (va_up (va_up (va_up t 0 6) 1 0) 2 0))) 0 fp_X5_18 dX5_clear_13 rfl rfl rfl (Nat.le_of_ble_eq_true rfl) rfl ?_
  exact j_vret dX5_clear_16 rfl H
set_option maxRecDepth 20000 in
theorem sg_X5_tell_0 {G : GG} {ad : Nat → Nat} {t : Nat → Int32} {x1 : Int32} {Q : Option Value → va_W → Prop} (H : (((¬ (t 2) = 0) → (((x1 = 0) → Q (some (.int (t 0))) (tuW G ad 0 t)) ∧ ((x1 = 1) → Q (some (.int (t 1))) (tuW G ad 0 t)) ∧ ((¬ x1 = 0 ∧ ¬ x1 = 1) → Q (some (.int (t 2))) (tuW G ad 0 t)))) ∧ (((t 2) = 0) → Q (some (.int (-1))) (tuW G ad 0 t)))) : J G mX5_tell 0 [(0, .ref (ad 0)), (1, .int x1)] [] (tuW G ad 0 t) Q := by
  refine j_aload_n 0 dX5_tell_0 rfl rfl ?_
  refine j_get 0 fl_X5_18 dX5_tell_1 rfl rfl ?_
  refine j_if_ne (tgt := 9) dX5_tell_4 (by decide) (fun c_1 => ?_) (fun c_1 => ?_)
  · have H := H.1 c_1
    refine j_iload_n 1 dX5_tell_9 rfl rfl ?_
    refine j_lsw2 (v0 := 0) (v1 := 1) (t0 := 36) (t1 := 41) (dt := 46) dX5_tell_10 (by decide) (by decide) (by decide) (by decide) (fun hx => ?_) (fun hx => ?_) (fun hx => ?_)
    · have H := H.1 hx
      refine j_aload_n 0 dX5_tell_36 rfl rfl ?_
      refine j_get 0 fl_X5_9 dX5_tell_37 rfl rfl ?_
      exact j_iret dX5_tell_40 rfl H
    · have H := H.2.1 hx
      refine j_aload_n 0 dX5_tell_41 rfl rfl ?_
      refine j_get 0 fl_X5_15 dX5_tell_42 rfl rfl ?_
      exact j_iret dX5_tell_45 rfl H
    · have H := H.2.2 hx
      refine j_aload_n 0 dX5_tell_46 rfl rfl ?_
      refine j_get 0 fl_X5_18 dX5_tell_47 rfl rfl ?_
      exact j_iret dX5_tell_50 rfl H
  · have H := H.2 c_1
    refine j_iconst (v := (-1)) dX5_tell_7 (by decide) ?_
    exact j_iret dX5_tell_8 rfl H
