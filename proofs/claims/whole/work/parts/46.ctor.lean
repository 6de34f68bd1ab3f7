/-! the constructors -/
def adL (l : List Nat) : Nat → Nat := fun k => l.getD k 0
def mX0_init : Mt := (yX0_init, cX0_init, 1, none, { frames := 1, cells := 2, slots := 24, locals := 12 })
set_option maxRecDepth 100000 in
theorem im_X0 : Cond.code mX0_init.1 mX0_init.2.1 mX0_init.2.2.1 mX0_init.2.2.2.1 ∈ tb ∧ Cond.instanceMethod mX0_init.1 ∈ tb ∧ (mX0_init.1.cls ≠ "java/lang/invoke/MethodHandle" ∧ mX0_init.1.cls ≠ "java/lang/invoke/VarHandle" ∧ (parseMethodDescriptor mX0_init.1.desc).map (fun d => d.parameters.length) = some 0) ∧ mX0_init.2.2.1 = 1 ∧ plainName mX0_init.1.cls = true ∧ mX0_init.1.name = "<init>" ∧ mX0_init.2.2.2.1 = none := ⟨tb_in 125 rfl rfl, tb_in 124 rfl rfl, by decide +kernel, rfl, by decide +kernel, rfl, rfl⟩
theorem df_X0 : ∀ j, j < 3 → defaultValue (tyX0 j) = vp_V [.null, .null, .int 0] j := fun j hj => match j, hj with | 0, _ => rfl | 1, _ => rfl | 2, _ => rfl | _ + 3, h => absurd h (by omega)
def mX1_init : Mt := (yX1_init, cX1_init, 1, none, { frames := 2, cells := 8, slots := 60, locals := 43 })
set_option maxRecDepth 100000 in
theorem im_X1 : Cond.code mX1_init.1 mX1_init.2.1 mX1_init.2.2.1 mX1_init.2.2.2.1 ∈ tb ∧ Cond.instanceMethod mX1_init.1 ∈ tb ∧ (mX1_init.1.cls ≠ "java/lang/invoke/MethodHandle" ∧ mX1_init.1.cls ≠ "java/lang/invoke/VarHandle" ∧ (parseMethodDescriptor mX1_init.1.desc).map (fun d => d.parameters.length) = some 0) ∧ mX1_init.2.2.1 = 1 ∧ plainName mX1_init.1.cls = true ∧ mX1_init.1.name = "<init>" ∧ mX1_init.2.2.2.1 = none := ⟨tb_in 147 rfl rfl, tb_in 146 rfl rfl, by decide +kernel, rfl, by decide +kernel, rfl, rfl⟩
theorem df_X1 : ∀ j, j < 2 → defaultValue (tyX1 j) = vp_V [.null, .null] j := fun j hj => match j, hj with | 0, _ => rfl | 1, _ => rfl | _ + 2, h => absurd h (by omega)
def mX2_init : Mt := (yX2_init, cX2_init, 1, none, { frames := 1, cells := 1, slots := 20, locals := 12 })
set_option maxRecDepth 100000 in
theorem im_X2 : Cond.code mX2_init.1 mX2_init.2.1 mX2_init.2.2.1 mX2_init.2.2.2.1 ∈ tb ∧ Cond.instanceMethod mX2_init.1 ∈ tb ∧ (mX2_init.1.cls ≠ "java/lang/invoke/MethodHandle" ∧ mX2_init.1.cls ≠ "java/lang/invoke/VarHandle" ∧ (parseMethodDescriptor mX2_init.1.desc).map (fun d => d.parameters.length) = some 0) ∧ mX2_init.2.2.1 = 1 ∧ plainName mX2_init.1.cls = true ∧ mX2_init.1.name = "<init>" ∧ mX2_init.2.2.2.1 = none := ⟨tb_in 63 rfl rfl, tb_in 62 rfl rfl, by decide +kernel, rfl, by decide +kernel, rfl, rfl⟩
theorem df_X2 : ∀ j, j < 2 → defaultValue (tyX2 j) = vp_V [.null, .int 0] j := fun j hj => match j, hj with | 0, _ => rfl | 1, _ => rfl | _ + 2, h => absurd h (by omega)
def mX3_init : Mt := (yX3_init, cX3_init, 1, none, { frames := 3, cells := 27, slots := 217, locals := 63 })
set_option maxRecDepth 100000 in
theorem im_X3 : Cond.code mX3_init.1 mX3_init.2.1 mX3_init.2.2.1 mX3_init.2.2.2.1 ∈ tb ∧ Cond.instanceMethod mX3_init.1 ∈ tb ∧ (mX3_init.1.cls ≠ "java/lang/invoke/MethodHandle" ∧ mX3_init.1.cls ≠ "java/lang/invoke/VarHandle" ∧ (parseMethodDescriptor mX3_init.1.desc).map (fun d => d.parameters.length) = some 0) ∧ mX3_init.2.2.1 = 1 ∧ plainName mX3_init.1.cls = true ∧ mX3_init.1.name = "<init>" ∧ mX3_init.2.2.2.1 = none := ⟨tb_in 79 rfl rfl, tb_in 78 rfl rfl, by decide +kernel, rfl, by decide +kernel, rfl, rfl⟩
theorem df_X3 : ∀ j, j < 3 → defaultValue (tyX3 j) = vp_V [.null, .null, .null] j := fun j hj => match j, hj with | 0, _ => rfl | 1, _ => rfl | 2, _ => rfl | _ + 3, h => absurd h (by omega)
def mX4_init : Mt := (yX4_init, cX4_init, 1, none, { frames := 1, cells := 14, slots := 120, locals := 12 })
set_option maxRecDepth 100000 in
theorem im_X4 : Cond.code mX4_init.1 mX4_init.2.1 mX4_init.2.2.1 mX4_init.2.2.2.1 ∈ tb ∧ Cond.instanceMethod mX4_init.1 ∈ tb ∧ (mX4_init.1.cls ≠ "java/lang/invoke/MethodHandle" ∧ mX4_init.1.cls ≠ "java/lang/invoke/VarHandle" ∧ (parseMethodDescriptor mX4_init.1.desc).map (fun d => d.parameters.length) = some 0) ∧ mX4_init.2.2.1 = 1 ∧ plainName mX4_init.1.cls = true ∧ mX4_init.1.name = "<init>" ∧ mX4_init.2.2.2.1 = none := ⟨tb_in 85 rfl rfl, tb_in 84 rfl rfl, by decide +kernel, rfl, by decide +kernel, rfl, rfl⟩
theorem df_X4 : ∀ j, j < 8 → defaultValue (tyX4 j) = vp_V [.null, .null, .null, .null, .null, .null, .null, .null] j := fun j hj => match j, hj with | 0, _ => rfl | 1, _ => rfl | 2, _ => rfl | 3, _ => rfl | 4, _ => rfl | 5, _ => rfl | 6, _ => rfl | 7, _ => rfl | _ + 8, h => absurd h (by omega)
def mX5_init : Mt := (yX5_init, cX5_init, 1, none, { frames := 1, cells := 0, slots := 0, locals := 12 })
set_option maxRecDepth 100000 in
theorem im_X5 : Cond.code mX5_init.1 mX5_init.2.1 mX5_init.2.2.1 mX5_init.2.2.2.1 ∈ tb ∧ Cond.instanceMethod mX5_init.1 ∈ tb ∧ (mX5_init.1.cls ≠ "java/lang/invoke/MethodHandle" ∧ mX5_init.1.cls ≠ "java/lang/invoke/VarHandle" ∧ (parseMethodDescriptor mX5_init.1.desc).map (fun d => d.parameters.length) = some 0) ∧ mX5_init.2.2.1 = 1 ∧ plainName mX5_init.1.cls = true ∧ mX5_init.1.name = "<init>" ∧ mX5_init.2.2.2.1 = none := ⟨tb_in 185 rfl rfl, tb_in 184 rfl rfl, by decide +kernel, rfl, by decide +kernel, rfl, rfl⟩
theorem df_X5 : ∀ j, j < 3 → defaultValue (tyX5 j) = vp_V [.int 0, .int 0, .int 0] j := fun j hj => match j, hj with | 0, _ => rfl | 1, _ => rfl | 2, _ => rfl | _ + 3, h => absurd h (by omega)
def mX6_init : Mt := (yX6_init, cX6_init, 1, none, { frames := 4, cells := 77, slots := 1584, locals := 83 })
set_option maxRecDepth 100000 in
theorem im_X6 : Cond.code mX6_init.1 mX6_init.2.1 mX6_init.2.2.1 mX6_init.2.2.2.1 ∈ tb ∧ Cond.instanceMethod mX6_init.1 ∈ tb ∧ (mX6_init.1.cls ≠ "java/lang/invoke/MethodHandle" ∧ mX6_init.1.cls ≠ "java/lang/invoke/VarHandle" ∧ (parseMethodDescriptor mX6_init.1.desc).map (fun d => d.parameters.length) = some 0) ∧ mX6_init.2.2.1 = 1 ∧ plainName mX6_init.1.cls = true ∧ mX6_init.1.name = "<init>" ∧ mX6_init.2.2.2.1 = none := ⟨tb_in 55 rfl rfl, tb_in 54 rfl rfl, by decide +kernel, rfl, by decide +kernel, rfl, rfl⟩
theorem df_X6 : ∀ j, j < 12 → defaultValue (tyX6 j) = vp_V [.null, .null, .null, .null, .null, .null, .null, .null, .int 0, .int 0, .int 0, .int 0] j := fun j hj => match j, hj with | 0, _ => rfl | 1, _ => rfl | 2, _ => rfl | 3, _ => rfl | 4, _ => rfl | 5, _ => rfl | 6, _ => rfl | 7, _ => rfl | 8, _ => rfl | 9, _ => rfl | 10, _ => rfl | 11, _ => rfl | _ + 12, h => absurd h (by omega)
def mX7_init : Mt := (yX7_init, cX7_init, 1, none, { frames := 1, cells := 20, slots := 56517, locals := 12 })
set_option maxRecDepth 100000 in
theorem im_X7 : Cond.code mX7_init.1 mX7_init.2.1 mX7_init.2.2.1 mX7_init.2.2.2.1 ∈ tb ∧ Cond.instanceMethod mX7_init.1 ∈ tb ∧ (mX7_init.1.cls ≠ "java/lang/invoke/MethodHandle" ∧ mX7_init.1.cls ≠ "java/lang/invoke/VarHandle" ∧ (parseMethodDescriptor mX7_init.1.desc).map (fun d => d.parameters.length) = some 0) ∧ mX7_init.2.2.1 = 1 ∧ plainName mX7_init.1.cls = true ∧ mX7_init.1.name = "<init>" ∧ mX7_init.2.2.2.1 = none := ⟨tb_in 634 rfl rfl, tb_in 633 rfl rfl, by decide +kernel, rfl, by decide +kernel, rfl, rfl⟩
theorem df_X7 : ∀ j, j < 30 → defaultValue (tyX7 j) = vp_V [.null, .int 0, .int 0, .int 0, .null, .null, .null, .int 0, .null, .null, .null, .null, .null, .null, .int 0, .int 0, .null, .null, .null, .null, .int 0, .int 0, .int 0, .null, .null, .null, .null, .null, .null, .long 0] j := fun j hj => match j, hj with | 0, _ => rfl | 1, _ => rfl | 2, _ => rfl | 3, _ => rfl | 4, _ => rfl | 5, _ => rfl | 6, _ => rfl | 7, _ => rfl | 8, _ => rfl | 9, _ => rfl | 10, _ => rfl | 11, _ => rfl | 12, _ => rfl | 13, _ => rfl | 14, _ => rfl | 15, _ => rfl | 16, _ => rfl | 17, _ => rfl | 18, _ => rfl | 19, _ => rfl | 20, _ => rfl | 21, _ => rfl | 22, _ => rfl | 23, _ => rfl | 24, _ => rfl | 25, _ => rfl | 26, _ => rfl | 27, _ => rfl | 28, _ => rfl | 29, _ => rfl | _ + 30, h => absurd h (by omega)
set_option maxRecDepth 100000 in
theorem k_X5 {G : GG} (b : Nat) : JN G mX5_init 0 [(0, .ref b)] [] [(b, .inr (5, [.int 0, .int 0, .int 0]))] 0 0 (fun w => ∃ ad : Nat → Nat, ad 0 = b ∧ w = tuW G ad 0 (fun _ => 0)) := by
  refine n_aload_n 0 dX5_init_0 rfl rfl ?_
  refine n_obj (tb_in 186 rfl rfl) (tb_in 57 rfl rfl) (tb_in 58 rfl rfl) dX5_init_1 (Nat.le_of_ble_eq_true rfl) (Nat.le_of_ble_eq_true rfl) ?_
  exact n_ret dX5_init_4 rfl ⟨(Nat.le_of_ble_eq_true rfl), (Nat.le_of_ble_eq_true rfl)⟩ ⟨adL ([b]), rfl, rfl⟩
set_option maxRecDepth 100000 in
theorem k_X2 {G : GG} (b : Nat) : JN G mX2_init 0 [(0, .ref b)] [] [(b, .inr (2, [.null, .int 0]))] 0 0 (fun w => ∃ ad : Nat → Nat, ad 0 = b ∧ w = pgW G ad 0 (fun _ => 0) 0) := by
  refine n_aload_n 0 dX2_init_0 rfl rfl ?_
  refine n_obj (tb_in 64 rfl rfl) (tb_in 57 rfl rfl) (tb_in 58 rfl rfl) dX2_init_1 (Nat.le_of_ble_eq_true rfl) (Nat.le_of_ble_eq_true rfl) ?_
  refine n_aload_n 0 dX2_init_4 rfl rfl ?_
  refine n_bipush (v := 20) dX2_init_5 (by decide) ?_
  refine n_newa (N := 20) (tb_in 74 rfl rfl) dX2_init_7 (by decide) (by decide +kernel) (by decide) (Nat.le_of_ble_eq_true rfl) (Nat.le_of_ble_eq_true rfl) (fun q1 => ?_)
  refine n_putF (w' := [(b, .inr (2, [.ref q1, .int 0])), (q1, arC G 20 (fun _ => 0))]) (ty := (.array .int)) (k := 0) (ci := 2) 0 ⟨RX2, TX2, 2, tyX2, rfl, uw_2, by decide, (tb_in 65 rfl rfl), tyX2_ok, nmX2, rfl, rfl, by decide +kernel⟩ dX2_init_9 rfl rfl rfl (Nat.le_of_ble_eq_true rfl) rfl ?_
  exact n_ret dX2_init_12 rfl ⟨(Nat.le_of_ble_eq_true rfl), (Nat.le_of_ble_eq_true rfl)⟩ ⟨adL ([b] ++ ([q1])), rfl, rfl⟩
set_option maxRecDepth 100000 in
theorem k_X0 {G : GG} (b : Nat) : JN G mX0_init 0 [(0, .ref b)] [] [(b, .inr (0, [.null, .null, .int 0]))] 0 0 (fun w => ∃ ad : Nat → Nat, ad 0 = b ∧ w = faW G ad 0 (fun _ => 0) (fun _ => 0) 0) := by
  refine n_aload_n 0 dX0_init_0 rfl rfl ?_
  refine n_obj (tb_in 126 rfl rfl) (tb_in 57 rfl rfl) (tb_in 58 rfl rfl) dX0_init_1 (Nat.le_of_ble_eq_true rfl) (Nat.le_of_ble_eq_true rfl) ?_
  refine n_aload_n 0 dX0_init_4 rfl rfl ?_
  refine n_bipush (v := 12) dX0_init_5 (by decide) ?_
  refine n_newa (N := 12) (tb_in 74 rfl rfl) dX0_init_7 (by decide) (by decide +kernel) (by decide) (Nat.le_of_ble_eq_true rfl) (Nat.le_of_ble_eq_true rfl) (fun q1 => ?_)
  refine n_putF (w' := [(b, .inr (0, [.ref q1, .null, .int 0])), (q1, arC G 12 (fun _ => 0))]) (ty := (.array .int)) (k := 0) (ci := 0) 0 ⟨RX0, TX0, 3, tyX0, rfl, uw_0, by decide, (tb_in 127 rfl rfl), tyX0_ok, nmX0, rfl, rfl, by decide +kernel⟩ dX0_init_9 rfl rfl rfl (Nat.le_of_ble_eq_true rfl) rfl ?_
  refine n_aload_n 0 dX0_init_12 rfl rfl ?_
  refine n_bipush (v := 12) dX0_init_13 (by decide) ?_
  refine n_newa (N := 12) (tb_in 74 rfl rfl) dX0_init_15 (by decide) (by decide +kernel) (by decide) (Nat.le_of_ble_eq_true rfl) (Nat.le_of_ble_eq_true rfl) (fun q2 => ?_)
  refine n_putF (w' := [(b, .inr (0, [.ref q1, .ref q2, .int 0])), (q1, arC G 12 (fun _ => 0)), (q2, arC G 12 (fun _ => 0))]) (ty := (.array .int)) (k := 1) (ci := 0) 0 ⟨RX0, TX0, 3, tyX0, rfl, uw_0, by decide, (tb_in 130 rfl rfl), tyX0_ok, nmX0, rfl, rfl, by decide +kernel⟩ dX0_init_17 rfl rfl rfl (Nat.le_of_ble_eq_true rfl) rfl ?_
  exact n_ret dX0_init_20 rfl ⟨(Nat.le_of_ble_eq_true rfl), (Nat.le_of_ble_eq_true rfl)⟩ ⟨adL ([b] ++ ([q1] ++ ([q2]))), rfl, rfl⟩
set_option maxRecDepth 100000 in
theorem k_X1 {G : GG} (b : Nat) : JN G mX1_init 0 [(0, .ref b)] [] [(b, .inr (1, [.null, .null]))] 0 0 (fun w => ∃ ad : Nat → Nat, ad 0 = b ∧ w = fiW G ad 0 (fil 6 (-1) (fun _ => 0)) (fun _ _ => 0)) := by
  refine n_aload_n 0 dX1_init_0 rfl rfl ?_
  refine n_obj (tb_in 148 rfl rfl) (tb_in 57 rfl rfl) (tb_in 58 rfl rfl) dX1_init_1 (Nat.le_of_ble_eq_true rfl) (Nat.le_of_ble_eq_true rfl) ?_
  refine n_aload_n 0 dX1_init_4 rfl rfl ?_
  refine n_bipush (v := 6) dX1_init_5 (by decide) ?_
  refine n_bipush (v := 8) dX1_init_7 (by decide) ?_
  refine n_mna (K := 8) (tb_in 74 rfl rfl) (tb_in 149 rfl rfl) dX1_init_9 (by decide) (by decide) (by decide) (by decide) (by decide) (Nat.le_of_ble_eq_true rfl) (Nat.le_of_ble_eq_true rfl) (fun q1 r => ?_)
  refine n_putF (w' := [(b, .inr (1, [.ref q1, .null])), (q1, .inl (G.2.1.2, 6, .inr (.inr (.inr (.inr (rw6 r)))))), (r 0, arC G 8 (fun _ => 0)), (r 1, arC G 8 (fun _ => 0)), (r 2, arC G 8 (fun _ => 0)), (r 3, arC G 8 (fun _ => 0)), (r 4, arC G 8 (fun _ => 0)), (r 5, arC G 8 (fun _ => 0))]) (ty := (.array (.array .int))) (k := 0) (ci := 1) 0 ⟨RX1, TX1, 2, tyX1, rfl, uw_1, by decide, (tb_in 157 rfl rfl), tyX1_ok, nmX1, rfl, rfl, by decide +kernel⟩ dX1_init_13 rfl rfl rfl (Nat.le_of_ble_eq_true rfl) rfl ?_
  refine n_aload_n 0 dX1_init_16 rfl rfl ?_
  refine n_bipush (v := 6) dX1_init_17 (by decide) ?_
  refine n_newa (N := 6) (tb_in 74 rfl rfl) dX1_init_19 (by decide) (by decide +kernel) (by decide) (Nat.le_of_ble_eq_true rfl) (Nat.le_of_ble_eq_true rfl) (fun q2 => ?_)
  refine n_putF (w' := [(b, .inr (1, [.ref q1, .ref q2])), (q1, .inl (G.2.1.2, 6, .inr (.inr (.inr (.inr (rw6 r)))))), (r 0, arC G 8 (fun _ => 0)), (r 1, arC G 8 (fun _ => 0)), (r 2, arC G 8 (fun _ => 0)), (r 3, arC G 8 (fun _ => 0)), (r 4, arC G 8 (fun _ => 0)), (r 5, arC G 8 (fun _ => 0)), (q2, arC G 6 (fun _ => 0))]) (ty := (.array .int)) (k := 1) (ci := 1) 0 ⟨RX1, TX1, 2, tyX1, rfl, uw_1, by decide, (tb_in 159 rfl rfl), tyX1_ok, nmX1, rfl, rfl, by decide +kernel⟩ dX1_init_21 rfl rfl rfl (Nat.le_of_ble_eq_true rfl) rfl ?_
  refine n_aload_n 0 dX1_init_24 rfl rfl ?_
  refine n_sub (w' := fiW G (adL [b, q1, q2, r 0, r 1, r 2, r 3, r 4, r 5]) 0 (fun _ => 0) (fun _ _ => 0)) [0, 1, 8, 2, 3, 4, 5, 6, 7] (by rw [rw6_ow (r := r) (ad := adL [b, q1, q2, r 0, r 1, r 2, r 3, r 4, r 5]) (b := 3) (fun i hi => row6 (P := fun i => adL [b, q1, q2, r 0, r 1, r 2, r 3, r 4, r 5] (3 + i) = r i) rfl rfl rfl rfl rfl rfl hi)]; rfl) (by rw [rw6_ow (r := r) (ad := adL [b, q1, q2, r 0, r 1, r 2, r 3, r 4, r 5]) (b := 3) (fun i hi => row6 (P := fun i => adL [b, q1, q2, r 0, r 1, r 2, r 3, r 4, r 5] (3 + i) = r i) rfl rfl rfl rfl rfl rfl hi)]; rfl) (by decide) ?_
  refine n_callV (b := adL [b, q1, q2, r 0, r 1, r 2, r 3, r 4, r 5] 0) (q0 := 0) (wc := fiW G (adL [b, q1, q2, r 0, r 1, r 2, r 3, r 4, r 5]) 0 (fun _ => 0) (fun _ _ => 0)) ml_X1_clear vl_X1_20 dX1_init_25 [some 0, some 1, some 2, some 3, some 4, some 5, some 6, some 7, some 8] ⟨rfl, (Nat.le_of_ble_eq_true rfl), rfl, rfl⟩ rfl rfl rfl (Nat.le_of_ble_eq_true rfl) ⟨(Nat.le_of_ble_eq_true rfl), (Nat.le_of_ble_eq_true rfl)⟩ ⟨(Nat.le_of_ble_eq_true rfl), (Nat.le_of_ble_eq_true rfl)⟩ rfl (Nat.le_of_ble_eq_true rfl) (t_fiClear ⟨rfl, ?_⟩)
  exact n_ret dX1_init_28 rfl ⟨(Nat.le_of_ble_eq_true rfl), (Nat.le_of_ble_eq_true rfl)⟩ ⟨adL [b, q1, q2, r 0, r 1, r 2, r 3, r 4, r 5], rfl, rfl⟩
set_option maxRecDepth 100000 in
theorem k_X4 {G : GG} (b : Nat) : JN G mX4_init 0 [(0, .ref b)] [] [(b, .inr (4, [.null, .null, .null, .null, .null, .null, .null, .null]))] 0 0 (fun w => ∃ ad : Nat → Nat, ad 0 = b ∧ w = stW G ad 0 (fun _ _ => 0) (fun _ _ => 0)) := by
  refine n_aload_n 0 dX4_init_0 rfl rfl ?_
  refine n_obj (tb_in 86 rfl rfl) (tb_in 57 rfl rfl) (tb_in 58 rfl rfl) dX4_init_1 (Nat.le_of_ble_eq_true rfl) (Nat.le_of_ble_eq_true rfl) ?_
  refine n_aload_n 0 dX4_init_4 rfl rfl ?_
  refine n_bipush (v := 6) dX4_init_5 (by decide) ?_
  refine n_newa (N := 6) (tb_in 74 rfl rfl) dX4_init_7 (by decide) (by decide +kernel) (by decide) (Nat.le_of_ble_eq_true rfl) (Nat.le_of_ble_eq_true rfl) (fun q1 => ?_)
  refine n_putF (w' := [(b, .inr (4, [.ref q1, .null, .null, .null, .null, .null, .null, .null])), (q1, arC G 6 (fun _ => 0))]) (ty := (.array .int)) (k := 0) (ci := 4) 0 ⟨RX4, TX4, 8, tyX4, rfl, uw_4, by decide, (tb_in 89 rfl rfl), tyX4_ok, nmX4, rfl, rfl, by decide +kernel⟩ dX4_init_9 rfl rfl rfl (Nat.le_of_ble_eq_true rfl) rfl ?_
  refine n_aload_n 0 dX4_init_12 rfl rfl ?_
  refine n_bipush (v := 6) dX4_init_13 (by decide) ?_
  refine n_newa (N := 6) (tb_in 74 rfl rfl) dX4_init_15 (by decide) (by decide +kernel) (by decide) (Nat.le_of_ble_eq_true rfl) (Nat.le_of_ble_eq_true rfl) (fun q2 => ?_)
  refine n_putF (w' := [(b, .inr (4, [.ref q1, .ref q2, .null, .null, .null, .null, .null, .null])), (q1, arC G 6 (fun _ => 0)), (q2, arC G 6 (fun _ => 0))]) (ty := (.array .int)) (k := 1) (ci := 4) 0 ⟨RX4, TX4, 8, tyX4, rfl, uw_4, by decide, (tb_in 91 rfl rfl), tyX4_ok, nmX4, rfl, rfl, by decide +kernel⟩ dX4_init_17 rfl rfl rfl (Nat.le_of_ble_eq_true rfl) rfl ?_
  refine n_aload_n 0 dX4_init_20 rfl rfl ?_
  refine n_bipush (v := 6) dX4_init_21 (by decide) ?_
  refine n_newa (N := 6) (tb_in 74 rfl rfl) dX4_init_23 (by decide) (by decide +kernel) (by decide) (Nat.le_of_ble_eq_true rfl) (Nat.le_of_ble_eq_true rfl) (fun q3 => ?_)
  refine n_putF (w' := [(b, .inr (4, [.ref q1, .ref q2, .ref q3, .null, .null, .null, .null, .null])), (q1, arC G 6 (fun _ => 0)), (q2, arC G 6 (fun _ => 0)), (q3, arC G 6 (fun _ => 0))]) (ty := (.array .int)) (k := 2) (ci := 4) 0 ⟨RX4, TX4, 8, tyX4, rfl, uw_4, by decide, (tb_in 93 rfl rfl), tyX4_ok, nmX4, rfl, rfl, by decide +kernel⟩ dX4_init_25 rfl rfl rfl (Nat.le_of_ble_eq_true rfl) rfl ?_
  refine n_aload_n 0 dX4_init_28 rfl rfl ?_
  refine n_bipush (v := 6) dX4_init_29 (by decide) ?_
  refine n_newa (N := 6) (tb_in 74 rfl rfl) dX4_init_31 (by decide) (by decide +kernel) (by decide) (Nat.le_of_ble_eq_true rfl) (Nat.le_of_ble_eq_true rfl) (fun q4 => ?_)
  refine n_putF (w' := [(b, .inr (4, [.ref q1, .ref q2, .ref q3, .ref q4, .null, .null, .null, .null])), (q1, arC G 6 (fun _ => 0)), (q2, arC G 6 (fun _ => 0)), (q3, arC G 6 (fun _ => 0)), (q4, arC G 6 (fun _ => 0))]) (ty := (.array .int)) (k := 3) (ci := 4) 0 ⟨RX4, TX4, 8, tyX4, rfl, uw_4, by decide, (tb_in 95 rfl rfl), tyX4_ok, nmX4, rfl, rfl, by decide +kernel⟩ dX4_init_33 rfl rfl rfl (Nat.le_of_ble_eq_true rfl) rfl ?_
  refine n_aload_n 0 dX4_init_36 rfl rfl ?_
  refine n_bipush (v := 6) dX4_init_37 (by decide) ?_
  refine n_newa (N := 6) (tb_in 74 rfl rfl) dX4_init_39 (by decide) (by decide +kernel) (by decide) (Nat.le_of_ble_eq_true rfl) (Nat.le_of_ble_eq_true rfl) (fun q5 => ?_)
  refine n_putF (w' := [(b, .inr (4, [.ref q1, .ref q2, .ref q3, .ref q4, .ref q5, .null, .null, .null])), (q1, arC G 6 (fun _ => 0)), (q2, arC G 6 (fun _ => 0)), (q3, arC G 6 (fun _ => 0)), (q4, arC G 6 (fun _ => 0)), (q5, arC G 6 (fun _ => 0))]) (ty := (.array .int)) (k := 4) (ci := 4) 0 ⟨RX4, TX4, 8, tyX4, rfl, uw_4, by decide, (tb_in 96 rfl rfl), tyX4_ok, nmX4, rfl, rfl, by decide +kernel⟩ dX4_init_41 rfl rfl rfl (Nat.le_of_ble_eq_true rfl) rfl ?_
  refine n_aload_n 0 dX4_init_44 rfl rfl ?_
  refine n_bipush (v := 6) dX4_init_45 (by decide) ?_
  refine n_newa (N := 6) (tb_in 74 rfl rfl) dX4_init_47 (by decide) (by decide +kernel) (by decide) (Nat.le_of_ble_eq_true rfl) (Nat.le_of_ble_eq_true rfl) (fun q6 => ?_)
  refine n_putF (w' := [(b, .inr (4, [.ref q1, .ref q2, .ref q3, .ref q4, .ref q5, .ref q6, .null, .null])), (q1, arC G 6 (fun _ => 0)), (q2, arC G 6 (fun _ => 0)), (q3, arC G 6 (fun _ => 0)), (q4, arC G 6 (fun _ => 0)), (q5, arC G 6 (fun _ => 0)), (q6, arC G 6 (fun _ => 0))]) (ty := (.array .int)) (k := 5) (ci := 4) 0 ⟨RX4, TX4, 8, tyX4, rfl, uw_4, by decide, (tb_in 98 rfl rfl), tyX4_ok, nmX4, rfl, rfl, by decide +kernel⟩ dX4_init_49 rfl rfl rfl (Nat.le_of_ble_eq_true rfl) rfl ?_
  refine n_aload_n 0 dX4_init_52 rfl rfl ?_
  refine n_bipush (v := 6) dX4_init_53 (by decide) ?_
  refine n_newa (N := 6) (tb_in 74 rfl rfl) dX4_init_55 (by decide) (by decide +kernel) (by decide) (Nat.le_of_ble_eq_true rfl) (Nat.le_of_ble_eq_true rfl) (fun q7 => ?_)
  refine n_putF (w' := [(b, .inr (4, [.ref q1, .ref q2, .ref q3, .ref q4, .ref q5, .ref q6, .ref q7, .null])), (q1, arC G 6 (fun _ => 0)), (q2, arC G 6 (fun _ => 0)), (q3, arC G 6 (fun _ => 0)), (q4, arC G 6 (fun _ => 0)), (q5, arC G 6 (fun _ => 0)), (q6, arC G 6 (fun _ => 0)), (q7, arC G 6 (fun _ => 0))]) (ty := (.array .int)) (k := 6) (ci := 4) 0 ⟨RX4, TX4, 8, tyX4, rfl, uw_4, by decide, (tb_in 100 rfl rfl), tyX4_ok, nmX4, rfl, rfl, by decide +kernel⟩ dX4_init_57 rfl rfl rfl (Nat.le_of_ble_eq_true rfl) rfl ?_
  refine n_aload_n 0 dX4_init_60 rfl rfl ?_
  refine n_bipush (v := 6) dX4_init_61 (by decide) ?_
  refine n_bipush (v := 12) dX4_init_63 (by decide) ?_
  refine n_mna (K := 12) (tb_in 74 rfl rfl) (tb_in 87 rfl rfl) dX4_init_65 (by decide) (by decide) (by decide) (by decide) (by decide) (Nat.le_of_ble_eq_true rfl) (Nat.le_of_ble_eq_true rfl) (fun q8 r => ?_)
  refine n_putF (w' := [(b, .inr (4, [.ref q1, .ref q2, .ref q3, .ref q4, .ref q5, .ref q6, .ref q7, .ref q8])), (q1, arC G 6 (fun _ => 0)), (q2, arC G 6 (fun _ => 0)), (q3, arC G 6 (fun _ => 0)), (q4, arC G 6 (fun _ => 0)), (q5, arC G 6 (fun _ => 0)), (q6, arC G 6 (fun _ => 0)), (q7, arC G 6 (fun _ => 0)), (q8, .inl (G.2.1.2, 6, .inr (.inr (.inr (.inr (rw6 r)))))), (r 0, arC G 12 (fun _ => 0)), (r 1, arC G 12 (fun _ => 0)), (r 2, arC G 12 (fun _ => 0)), (r 3, arC G 12 (fun _ => 0)), (r 4, arC G 12 (fun _ => 0)), (r 5, arC G 12 (fun _ => 0))]) (ty := (.array (.array .int))) (k := 7) (ci := 4) 0 ⟨RX4, TX4, 8, tyX4, rfl, uw_4, by decide, (tb_in 102 rfl rfl), tyX4_ok, nmX4, rfl, rfl, by decide +kernel⟩ dX4_init_69 rfl rfl rfl (Nat.le_of_ble_eq_true rfl) rfl ?_
  refine n_ret dX4_init_72 rfl ⟨(Nat.le_of_ble_eq_true rfl), (Nat.le_of_ble_eq_true rfl)⟩ ⟨adL [b, q1, q2, q3, q4, q5, q6, q7, q8, r 0, r 1, r 2, r 3, r 4, r 5], rfl, ?_⟩
  rw [rw6_ow (r := r) (ad := adL [b, q1, q2, q3, q4, q5, q6, q7, q8, r 0, r 1, r 2, r 3, r 4, r 5]) (b := 9) (fun i hi => row6 (P := fun i => adL [b, q1, q2, q3, q4, q5, q6, q7, q8, r 0, r 1, r 2, r 3, r 4, r 5] (9 + i) = r i) rfl rfl rfl rfl rfl rfl hi)]
  rfl
set_option maxRecDepth 100000 in
theorem k_X3 {G : GG} (b : Nat) : JN G mX3_init 0 [(0, .ref b)] [] [(b, .inr (3, [.null, .null, .null]))] 0 0 (fun w => ∃ ad : Nat → Nat, ad 0 = b ∧ w = scW G ad 0 (fun _ _ => 0) (fun _ _ => 0) (fun _ => 0) (fun _ => 0) 0 (fil 6 (-1) (fun _ => 0)) (fun _ _ => 0)) := by
  refine n_aload_n 0 dX3_init_0 rfl rfl ?_
  refine n_obj (tb_in 80 rfl rfl) (tb_in 57 rfl rfl) (tb_in 58 rfl rfl) dX3_init_1 (Nat.le_of_ble_eq_true rfl) (Nat.le_of_ble_eq_true rfl) ?_
  refine n_aload_n 0 dX3_init_4 rfl rfl ?_
  refine n_new (Mc := mX4_init) (i2 := 9) ⟨RX4, TX4, 8, tyX4, rfl, uw_4, tyX4_ok, (tb_in 81 rfl rfl), (tb_in 82 rfl rfl), (tb_in 37 rfl rfl), df_X4, rfl, rfl⟩ (fun _ h => Or.inr h.2.2.1) im_X4 k_X4 ⟨(Nat.le_of_ble_eq_true rfl), (Nat.le_of_ble_eq_true rfl)⟩ ⟨(Nat.le_of_ble_eq_true rfl), (Nat.le_of_ble_eq_true rfl)⟩ (Nat.le_of_ble_eq_true rfl) dX3_init_5 dX3_init_8 dX3_init_9 (fun q w1 hw1 => ?_)
  obtain ⟨a1, rfl, rfl⟩ := hw1
  refine n_putF (w' := ([(b, .inr (3, [.ref (a1 0), .null, .null]))] ++ stW G a1 0 (fun _ _ => 0) (fun _ _ => 0))) (ty := (.object "RainLetters$Street")) (k := 0) (ci := 3) 0 ⟨RX3, TX3, 3, tyX3, rfl, uw_3, by decide, (tb_in 166 rfl rfl), tyX3_ok, nmX3, rfl, rfl, by decide +kernel⟩ dX3_init_12 rfl rfl rfl (Nat.le_of_ble_eq_true rfl) rfl ?_
  refine n_aload_n 0 dX3_init_15 rfl rfl ?_
  refine n_new (Mc := mX0_init) (i2 := 18) ⟨RX0, TX0, 3, tyX0, rfl, uw_0, tyX0_ok, (tb_in 121 rfl rfl), (tb_in 122 rfl rfl), (tb_in 38 rfl rfl), df_X0, rfl, rfl⟩ (fun _ h => Or.inr h.2.2.2.1) im_X0 k_X0 ⟨(Nat.le_of_ble_eq_true rfl), (Nat.le_of_ble_eq_true rfl)⟩ ⟨(Nat.le_of_ble_eq_true rfl), (Nat.le_of_ble_eq_true rfl)⟩ (Nat.le_of_ble_eq_true rfl) dX3_init_16 dX3_init_19 dX3_init_20 (fun q w1 hw1 => ?_)
  obtain ⟨a2, rfl, rfl⟩ := hw1
  refine n_putF (w' := (([(b, .inr (3, [.ref (a1 0), .ref (a2 0), .null]))] ++ stW G a1 0 (fun _ _ => 0) (fun _ _ => 0)) ++ faW G a2 0 (fun _ => 0) (fun _ => 0) 0)) (ty := (.object "RainLetters$Fallen")) (k := 1) (ci := 3) 0 ⟨RX3, TX3, 3, tyX3, rfl, uw_3, by decide, (tb_in 168 rfl rfl), tyX3_ok, nmX3, rfl, rfl, by decide +kernel⟩ dX3_init_23 rfl rfl rfl (Nat.le_of_ble_eq_true rfl) rfl ?_
  refine n_aload_n 0 dX3_init_26 rfl rfl ?_
  refine n_new (Mc := mX1_init) (i2 := 25) ⟨RX1, TX1, 2, tyX1, rfl, uw_1, tyX1_ok, (tb_in 143 rfl rfl), (tb_in 144 rfl rfl), (tb_in 39 rfl rfl), df_X1, rfl, rfl⟩ (fun _ h => Or.inl (tb_in 145 rfl rfl)) im_X1 k_X1 ⟨(Nat.le_of_ble_eq_true rfl), (Nat.le_of_ble_eq_true rfl)⟩ ⟨(Nat.le_of_ble_eq_true rfl), (Nat.le_of_ble_eq_true rfl)⟩ (Nat.le_of_ble_eq_true rfl) dX3_init_27 dX3_init_30 dX3_init_31 (fun q w1 hw1 => ?_)
  obtain ⟨a3, rfl, rfl⟩ := hw1
  refine n_putF (w' := ((([(b, .inr (3, [.ref (a1 0), .ref (a2 0), .ref (a3 0)]))] ++ stW G a1 0 (fun _ _ => 0) (fun _ _ => 0)) ++ faW G a2 0 (fun _ => 0) (fun _ => 0) 0) ++ fiW G a3 0 (fil 6 (-1) (fun _ => 0)) (fun _ _ => 0))) (ty := (.object "RainLetters$Finds")) (k := 2) (ci := 3) 0 ⟨RX3, TX3, 3, tyX3, rfl, uw_3, by decide, (tb_in 170 rfl rfl), tyX3_ok, nmX3, rfl, rfl, by decide +kernel⟩ dX3_init_34 rfl rfl rfl (Nat.le_of_ble_eq_true rfl) rfl ?_
  exact n_ret dX3_init_37 rfl ⟨(Nat.le_of_ble_eq_true rfl), (Nat.le_of_ble_eq_true rfl)⟩ ⟨adL ([b] ++ ((List.range 15).map a1 ++ ((List.range 3).map a2 ++ ((List.range 9).map a3)))), rfl, rfl⟩
