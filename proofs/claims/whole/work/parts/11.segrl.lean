set_option maxRecDepth 20000 in
theorem sg_X6_isLetter_0 {G : GG} {ad : Nat → Nat} {x0 : Int32} {Q : Option Value → va_W → Prop} (H : (((x0 < 0) → Q (some (.int 0)) ([] : va_W)) ∧ ((¬ x0 < 0) → (((5 ≤ x0) → Q (some (.int 0)) ([] : va_W)) ∧ ((¬ 5 ≤ x0) → Q (some (.int 1)) ([] : va_W)))))) : J G mX6_isLetter 0 [(0, .int x0)] [] ([] : va_W) Q := by
  refine j_iload_n 0 dX6_isLetter_0 rfl rfl ?_
  refine j_if_lt (tgt := 13) dX6_isLetter_1 (by decide) (fun c_1 => ?_) (fun c_1 => ?_)
  · have H := H.1 c_1
    refine j_iconst (v := 0) dX6_isLetter_13 (by decide) ?_
    exact j_zret dX6_isLetter_14 rfl (by decide) H
  · have H := H.2 c_1
    refine j_iload_n 0 dX6_isLetter_4 rfl rfl ?_
    refine j_iconst (v := 5) dX6_isLetter_5 (by decide) ?_
    refine j_icmp_ge (tgt := 13) dX6_isLetter_6 (by decide) (fun c_2 => ?_) (fun c_2 => ?_)
    · have H := H.1 c_2
      refine j_iconst (v := 0) dX6_isLetter_13 (by decide) ?_
      exact j_zret dX6_isLetter_14 rfl (by decide) H
    · have H := H.2 c_2
      refine j_iconst (v := 1) dX6_isLetter_9 (by decide) ?_
      refine j_goto (tgt := 14) dX6_isLetter_10 (by decide) ?_
      exact j_zret dX6_isLetter_14 rfl (by decide) H
set_option maxRecDepth 20000 in
theorem sg_X6_hasStreet_0 {G : GG} {ad : Nat → Nat} {pf : Nat → Int32} {pn : Int32} {u : Nat → Nat → Int32} {d : Nat → Nat → Int32} {g : Nat → Int32} {l : Nat → Int32} {n : Int32} {fn : Nat → Int32} {fd : Nat → Nat → Int32} {ku : Nat → Nat → Int32} {kd : Nat → Nat → Int32} {kg : Nat → Int32} {kl : Nat → Int32} {kn : Int32} {kfn : Nat → Int32} {kfd : Nat → Nat → Int32} {tu : Nat → Nat → Int32} {td : Nat → Nat → Int32} {t : Nat → Int32} {wa : Nat → Int32} {le : Nat → Int32} {se : Nat → Int32} {v : Nat → Int32} {Q : Option Value → va_W → Prop} (H : ((((v 1) ≤ 0) → Q (some (.int 0)) (rlW G ad 0 pf pn u d g l n fn fd ku kd kg kl kn kfn kfd tu td t wa le se v)) ∧ ((¬ (v 1) ≤ 0) → Q (some (.int 1)) (rlW G ad 0 pf pn u d g l n fn fd ku kd kg kl kn kfn kfd tu td t wa le se v)))) : J G mX6_hasStreet 0 [(0, .ref (ad 0))] [] (rlW G ad 0 pf pn u d g l n fn fd ku kd kg kl kn kfn kfd tu td t wa le se v) Q := by
  refine j_aload_n 0 dX6_hasStreet_0 rfl rfl ?_
  refine j_get 0 fl_X6_102 dX6_hasStreet_1 rfl rfl ?_
  refine j_if_le (tgt := 11) dX6_hasStreet_4 (by decide) (fun c_1 => ?_) (fun c_1 => ?_)
  · have H := H.1 c_1
    refine j_iconst (v := 0) dX6_hasStreet_11 (by decide) ?_
    exact j_zret dX6_hasStreet_12 rfl (by decide) H
  · have H := H.2 c_1
    refine j_iconst (v := 1) dX6_hasStreet_7 (by decide) ?_
    refine j_goto (tgt := 12) dX6_hasStreet_8 (by decide) ?_
    exact j_zret dX6_hasStreet_12 rfl (by decide) H
set_option maxRecDepth 20000 in
theorem sg_X6_isGutter_0 {G : GG} {ad : Nat → Nat} {pf : Nat → Int32} {pn : Int32} {u : Nat → Nat → Int32} {d : Nat → Nat → Int32} {g : Nat → Int32} {l : Nat → Int32} {n : Int32} {fn : Nat → Int32} {fd : Nat → Nat → Int32} {ku : Nat → Nat → Int32} {kd : Nat → Nat → Int32} {kg : Nat → Int32} {kl : Nat → Int32} {kn : Int32} {kfn : Nat → Int32} {kfd : Nat → Nat → Int32} {tu : Nat → Nat → Int32} {td : Nat → Nat → Int32} {t : Nat → Int32} {wa : Nat → Int32} {le : Nat → Int32} {se : Nat → Int32} {v : Nat → Int32} {x1 : Int32} {Q : Option Value → va_W → Prop} (H : J G mX6_hasStreet 0 [(0, .ref (ad 0))] [] (rlW G ad 0 pf pn u d g l n fn fd ku kd kg kl kn kfn kfd tu td t wa le se v) (fun v_ w_ => ∃ (r_1 : Int32), v_ = some (.int r_1) ∧ w_ = (rlW G ad 0 pf pn u d g l n fn fd ku kd kg kl kn kfn kfd tu td t wa le se v) ∧ (((r_1 = 0) → Q (some (.int 0)) (rlW G ad 0 pf pn u d g l n fn fd ku kd kg kl kn kfn kfd tu td t wa le se v)) ∧ ((¬ r_1 = 0) → (((x1 < 0) → Q (some (.int 0)) (rlW G ad 0 pf pn u d g l n fn fd ku kd kg kl kn kfn kfd tu td t wa le se v)) ∧ ((¬ x1 < 0) → (((6 ≤ x1) → Q (some (.int 0)) (rlW G ad 0 pf pn u d g l n fn fd ku kd kg kl kn kfn kfd tu td t wa le se v)) ∧ ((¬ 6 ≤ x1) → Q (some (.int 1)) (rlW G ad 0 pf pn u d g l n fn fd ku kd kg kl kn kfn kfd tu td t wa le se v))))))))) : J G mX6_isGutter 0 [(0, .ref (ad 0)), (1, .int x1)] [] (rlW G ad 0 pf pn u d g l n fn fd ku kd kg kl kn kfn kfd tu td t wa le se v) Q := by
  refine j_aload_n 0 dX6_isGutter_0 rfl rfl ?_
  refine j_callV0 (q0 := 0) (As := []) (st := []) ml_X6_hasStreet vl_X6_148 dX6_isGutter_1 rfl rfl rfl (Nat.le_of_ble_eq_true rfl) ⟨by decide, by decide⟩ rfl rfl (Nat.le_of_ble_eq_true rfl) (J.mono (fun v_ w_ hp_ => ?_) H)
  obtain ⟨r_1, rfl, rfl, H⟩ := hp_
  refine j_if_eq (tgt := 21) dX6_isGutter_4 (by decide) (fun c_2 => ?_) (fun c_2 => ?_)
  · have H := H.1 c_2
    refine j_iconst (v := 0) dX6_isGutter_21 (by decide) ?_
    exact j_zret dX6_isGutter_22 rfl (by decide) H
  · have H := H.2 c_2
    refine j_iload_n 1 dX6_isGutter_7 rfl rfl ?_
    refine j_if_lt (tgt := 21) dX6_isGutter_8 (by decide) (fun c_3 => ?_) (fun c_3 => ?_)
    · have H := H.1 c_3
      refine j_iconst (v := 0) dX6_isGutter_21 (by decide) ?_
      exact j_zret dX6_isGutter_22 rfl (by decide) H
    · have H := H.2 c_3
      refine j_iload_n 1 dX6_isGutter_11 rfl rfl ?_
      refine j_bipush (v := 6) dX6_isGutter_12 (by decide) ?_
      refine j_icmp_ge (tgt := 21) dX6_isGutter_14 (by decide) (fun c_4 => ?_) (fun c_4 => ?_)
      · have H := H.1 c_4
        refine j_iconst (v := 0) dX6_isGutter_21 (by decide) ?_
        exact j_zret dX6_isGutter_22 rfl (by decide) H
      · have H := H.2 c_4
        refine j_iconst (v := 1) dX6_isGutter_17 (by decide) ?_
        refine j_goto (tgt := 22) dX6_isGutter_18 (by decide) ?_
        exact j_zret dX6_isGutter_22 rfl (by decide) H
set_option maxRecDepth 20000 in
theorem sg_X6_about_0 {G : GG} {ad : Nat → Nat} {pf : Nat → Int32} {pn : Int32} {u : Nat → Nat → Int32} {d : Nat → Nat → Int32} {g : Nat → Int32} {l : Nat → Int32} {n : Int32} {fn : Nat → Int32} {fd : Nat → Nat → Int32} {ku : Nat → Nat → Int32} {kd : Nat → Nat → Int32} {kg : Nat → Int32} {kl : Nat → Int32} {kn : Int32} {kfn : Nat → Int32} {kfd : Nat → Nat → Int32} {tu : Nat → Nat → Int32} {td : Nat → Nat → Int32} {t : Nat → Int32} {wa : Nat → Int32} {le : Nat → Int32} {se : Nat → Int32} {v : Nat → Int32} {x1 : Int32} {x2 : Int32} {Q : Option Value → va_W → Prop} (H : J G mX6_isGutter 0 [(0, .ref (ad 0)), (1, .int x1)] [] (rlW G ad 0 pf pn u d g l n fn fd ku kd kg kl kn kfn kfd tu td t wa le se v) (fun v_ w_ => ∃ (r_1 : Int32), v_ = some (.int r_1) ∧ w_ = (rlW G ad 0 pf pn u d g l n fn fd ku kd kg kl kn kfn kfd tu td t wa le se v) ∧ (((¬ r_1 = 0) → (((x2 = 0) → (vp_in x1 6) ∧ Q (some (.int ((u 0) (Int32.toNatClampNeg x1)))) (rlW G ad 0 pf pn u d g l n fn fd ku kd kg kl kn kfn kfd tu td t wa le se v)) ∧ ((x2 = 1) → (vp_in x1 6) ∧ Q (some (.int ((u 1) (Int32.toNatClampNeg x1)))) (rlW G ad 0 pf pn u d g l n fn fd ku kd kg kl kn kfn kfd tu td t wa le se v)) ∧ ((x2 = 2) → (vp_in x1 6) ∧ Q (some (.int ((u 4) (Int32.toNatClampNeg x1)))) (rlW G ad 0 pf pn u d g l n fn fd ku kd kg kl kn kfn kfd tu td t wa le se v)) ∧ ((x2 = 3) → (vp_in x1 6) ∧ Q (some (.int ((u 2) (Int32.toNatClampNeg x1)))) (rlW G ad 0 pf pn u d g l n fn fd ku kd kg kl kn kfn kfd tu td t wa le se v)) ∧ ((x2 = 4) → (vp_in x1 6) ∧ Q (some (.int ((u 6) (Int32.toNatClampNeg x1)))) (rlW G ad 0 pf pn u d g l n fn fd ku kd kg kl kn kfn kfd tu td t wa le se v)) ∧ ((x2 = 5) → (vp_in x1 6) ∧ Q (some (.int ((u 5) (Int32.toNatClampNeg x1)))) (rlW G ad 0 pf pn u d g l n fn fd ku kd kg kl kn kfn kfd tu td t wa le se v)) ∧ ((¬ x2 = 0 ∧ ¬ x2 = 1 ∧ ¬ x2 = 2 ∧ ¬ x2 = 3 ∧ ¬ x2 = 4 ∧ ¬ x2 = 5) → Q (some (.int (-102))) (rlW G ad 0 pf pn u d g l n fn fd ku kd kg kl kn kfn kfd tu td t wa le se v)))) ∧ ((r_1 = 0) → Q (some (.int (-101))) (rlW G ad 0 pf pn u d g l n fn fd ku kd kg kl kn kfn kfd tu td t wa le se v))))) : J G mX6_about 0 [(0, .ref (ad 0)), (1, .int x1), (2, .int x2)] [] (rlW G ad 0 pf pn u d g l n fn fd ku kd kg kl kn kfn kfd tu td t wa le se v) Q := by
  refine j_aload_n 0 dX6_about_0 rfl rfl ?_
  refine j_iload_n 1 dX6_about_1 rfl rfl ?_
  refine j_callV0 (q0 := 0) (As := [.int x1]) (st := []) ml_X6_isGutter vl_X6_109 dX6_about_2 rfl rfl rfl (Nat.le_of_ble_eq_true rfl) ⟨by decide, by decide⟩ rfl rfl (Nat.le_of_ble_eq_true rfl) (J.mono (fun v_ w_ hp_ => ?_) H)
  obtain ⟨r_1, rfl, rfl, H⟩ := hp_
  refine j_if_ne (tgt := 11) dX6_about_5 (by decide) (fun c_2 => ?_) (fun c_2 => ?_)
  · have H := H.1 c_2
    refine j_iload_n 2 dX6_about_11 rfl rfl ?_
    refine j_tsw dX6_about_12 [(0, 52), (1, 65), (2, 78), (3, 91), (4, 104), (5, 117)] 130 (by decide) (by decide) (by decide) (fun v_ t_ hm hx => ?_) (fun hn => ?_)
    · simp only [List.mem_cons, Prod.mk.injEq, List.not_mem_nil, or_false] at hm
      rcases hm with ⟨rfl, rfl⟩ | ⟨rfl, rfl⟩ | ⟨rfl, rfl⟩ | ⟨rfl, rfl⟩ | ⟨rfl, rfl⟩ | ⟨rfl, rfl⟩
      · have H := H.1 hx
        refine j_aload_n 0 dX6_about_52 rfl rfl ?_
        refine j_get 0 fl_X6_19 dX6_about_53 rfl rfl ?_
        refine j_get 3 fl_X6_65 dX6_about_56 rfl rfl ?_
        refine j_get 4 fl_X6_68 dX6_about_59 rfl rfl ?_
        refine j_iload_n 1 dX6_about_62 rfl rfl ?_
        obtain ⟨h_3, H⟩ := H
        refine j_iald 5 dX6_about_63 rfl h_3 ?_
        exact j_iret dX6_about_64 rfl H
      · have H := H.2.1 hx
        refine j_aload_n 0 dX6_about_65 rfl rfl ?_
        refine j_get 0 fl_X6_19 dX6_about_66 rfl rfl ?_
        refine j_get 3 fl_X6_65 dX6_about_69 rfl rfl ?_
        refine j_get 4 fl_X6_74 dX6_about_72 rfl rfl ?_
        refine j_iload_n 1 dX6_about_75 rfl rfl ?_
        obtain ⟨h_4, H⟩ := H
        refine j_iald 6 dX6_about_76 rfl h_4 ?_
        exact j_iret dX6_about_77 rfl H
      · have H := H.2.2.1 hx
        refine j_aload_n 0 dX6_about_78 rfl rfl ?_
        refine j_get 0 fl_X6_19 dX6_about_79 rfl rfl ?_
        refine j_get 3 fl_X6_65 dX6_about_82 rfl rfl ?_
        refine j_get 4 fl_X6_113 dX6_about_85 rfl rfl ?_
        refine j_iload_n 1 dX6_about_88 rfl rfl ?_
        obtain ⟨h_5, H⟩ := H
        refine j_iald 9 dX6_about_89 rfl h_5 ?_
        exact j_iret dX6_about_90 rfl H
      · have H := H.2.2.2.1 hx
        refine j_aload_n 0 dX6_about_91 rfl rfl ?_
        refine j_get 0 fl_X6_19 dX6_about_92 rfl rfl ?_
        refine j_get 3 fl_X6_65 dX6_about_95 rfl rfl ?_
        refine j_get 4 fl_X6_116 dX6_about_98 rfl rfl ?_
        refine j_iload_n 1 dX6_about_101 rfl rfl ?_
        obtain ⟨h_6, H⟩ := H
        refine j_iald 7 dX6_about_102 rfl h_6 ?_
        exact j_iret dX6_about_103 rfl H
      · have H := H.2.2.2.2.1 hx
        refine j_aload_n 0 dX6_about_104 rfl rfl ?_
        refine j_get 0 fl_X6_19 dX6_about_105 rfl rfl ?_
        refine j_get 3 fl_X6_65 dX6_about_108 rfl rfl ?_
        refine j_get 4 fl_X6_119 dX6_about_111 rfl rfl ?_
        refine j_iload_n 1 dX6_about_114 rfl rfl ?_
        obtain ⟨h_7, H⟩ := H
        refine j_iald 11 dX6_about_115 rfl h_7 ?_
        exact j_iret dX6_about_116 rfl H
      · have H := H.2.2.2.2.2.1 hx
        refine j_aload_n 0 dX6_about_117 rfl rfl ?_
        refine j_get 0 fl_X6_19 dX6_about_118 rfl rfl ?_
        refine j_get 3 fl_X6_65 dX6_about_121 rfl rfl ?_
        refine j_get 4 fl_X6_122 dX6_about_124 rfl rfl ?_
        refine j_iload_n 1 dX6_about_127 rfl rfl ?_
        obtain ⟨h_8, H⟩ := H
        refine j_iald 10 dX6_about_128 rfl h_8 ?_
        exact j_iret dX6_about_129 rfl H
    · have H := H.2.2.2.2.2.2 ⟨hn 0 52 (by simp), hn 1 65 (by simp), hn 2 78 (by simp), hn 3 91 (by simp), hn 4 104 (by simp), hn 5 117 (by simp)⟩
      refine j_bipush (v := (-102)) dX6_about_130 (by decide) ?_
      exact j_iret dX6_about_132 rfl H
  · have H := H.2 c_2
    refine j_bipush (v := (-101)) dX6_about_8 (by decide) ?_
    exact j_iret dX6_about_10 rfl H
set_option maxRecDepth 20000 in
theorem sg_X6_as_0 {G : GG} {ad : Nat → Nat} {pf : Nat → Int32} {pn : Int32} {u : Nat → Nat → Int32} {d : Nat → Nat → Int32} {g : Nat → Int32} {l : Nat → Int32} {n : Int32} {fn : Nat → Int32} {fd : Nat → Nat → Int32} {ku : Nat → Nat → Int32} {kd : Nat → Nat → Int32} {kg : Nat → Int32} {kl : Nat → Int32} {kn : Int32} {kfn : Nat → Int32} {kfd : Nat → Nat → Int32} {tu : Nat → Nat → Int32} {td : Nat → Nat → Int32} {t : Nat → Int32} {wa : Nat → Int32} {le : Nat → Int32} {se : Nat → Int32} {v : Nat → Int32} {x1 : Int32} {x2 : Int32} {Q : Option Value → va_W → Prop} (H : J G mX6_isGutter 0 [(0, .ref (ad 0)), (1, .int x1)] [] (rlW G ad 0 pf pn u d g l n fn fd ku kd kg kl kn kfn kfd tu td t wa le se v) (fun v_ w_ => ∃ (r_1 : Int32), v_ = some (.int r_1) ∧ w_ = (rlW G ad 0 pf pn u d g l n fn fd ku kd kg kl kn kfn kfd tu td t wa le se v) ∧ (((¬ r_1 = 0) → (((x2 < 0) → Q (some (.int (-102))) (rlW G ad 0 pf pn u d g l n fn fd ku kd kg kl kn kfn kfd tu td t wa le se v)) ∧ ((¬ x2 < 0) → (((x2 < 5) → (vp_in x1 6) ∧ (((x2 = 0) → Q (some (.int x1)) (rlW G ad 0 pf pn u d g l n fn fd ku kd kg kl kn kfn kfd tu td t wa le se v)) ∧ ((¬ x2 = 0) → (((x2 = ((u 0) (Int32.toNatClampNeg x1))) → Q (some (.int x1)) (rlW G ad 0 pf pn u d g l n fn fd ku kd kg kl kn kfn kfd tu td t wa le se v)) ∧ ((¬ x2 = ((u 0) (Int32.toNatClampNeg x1))) → (((¬ x2 = 2) → Q (some (.int (-1))) (rlW G ad 0 pf pn u d g l n fn fd ku kd kg kl kn kfn kfd tu td t wa le se v)) ∧ ((x2 = 2) → (((¬ ((u 0) (Int32.toNatClampNeg x1)) = 4) → Q (some (.int (-1))) (rlW G ad 0 pf pn u d g l n fn fd ku kd kg kl kn kfn kfd tu td t wa le se v)) ∧ ((((u 0) (Int32.toNatClampNeg x1)) = 4) → Q (some (.int x1)) (rlW G ad 0 pf pn u d g l n fn fd ku kd kg kl kn kfn kfd tu td t wa le se v)))))))))) ∧ ((¬ x2 < 5) → Q (some (.int (-102))) (rlW G ad 0 pf pn u d g l n fn fd ku kd kg kl kn kfn kfd tu td t wa le se v)))))) ∧ ((r_1 = 0) → Q (some (.int (-101))) (rlW G ad 0 pf pn u d g l n fn fd ku kd kg kl kn kfn kfd tu td t wa le se v))))) : J G mX6_as 0 [(0, .ref (ad 0)), (1, .int x1), (2, .int x2)] [] (rlW G ad 0 pf pn u d g l n fn fd ku kd kg kl kn kfn kfd tu td t wa le se v) Q := by
  refine j_aload_n 0 dX6_as_0 rfl rfl ?_
  refine j_iload_n 1 dX6_as_1 rfl rfl ?_
  refine j_callV0 (q0 := 0) (As := [.int x1]) (st := []) ml_X6_isGutter vl_X6_109 dX6_as_2 rfl rfl rfl (Nat.le_of_ble_eq_true rfl) ⟨by decide, by decide⟩ rfl rfl (Nat.le_of_ble_eq_true rfl) (J.mono (fun v_ w_ hp_ => ?_) H)
  obtain ⟨r_1, rfl, rfl, H⟩ := hp_
  refine j_if_ne (tgt := 11) dX6_as_5 (by decide) (fun c_2 => ?_) (fun c_2 => ?_)
  · have H := H.1 c_2
    refine j_iload_n 2 dX6_as_11 rfl rfl ?_
    refine j_if_lt (tgt := 20) dX6_as_12 (by decide) (fun c_3 => ?_) (fun c_3 => ?_)
    · have H := H.1 c_3
      refine j_bipush (v := (-102)) dX6_as_20 (by decide) ?_
      exact j_iret dX6_as_22 rfl H
    · have H := H.2 c_3
      refine j_iload_n 2 dX6_as_15 rfl rfl ?_
      refine j_iconst (v := 5) dX6_as_16 (by decide) ?_
      refine j_icmp_lt (tgt := 23) dX6_as_17 (by decide) (fun c_4 => ?_) (fun c_4 => ?_)
      · have H := H.1 c_4
        refine j_aload_n 0 dX6_as_23 rfl rfl ?_
        refine j_get 0 fl_X6_19 dX6_as_24 rfl rfl ?_
        refine j_get 3 fl_X6_65 dX6_as_27 rfl rfl ?_
        refine j_get 4 fl_X6_68 dX6_as_30 rfl rfl ?_
        refine j_iload_n 1 dX6_as_33 rfl rfl ?_
        obtain ⟨h_5, H⟩ := H
        refine j_iald 5 dX6_as_34 rfl h_5 ?_
        refine j_istore_n (lo' := [(3, .int ((u 0) (Int32.toNatClampNeg x1))), (0, .ref (ad 0)), (1, .int x1), (2, .int x2)]) dX6_as_35 rfl (by decide) rfl ?_
        refine j_iload_n 3 dX6_as_36 rfl rfl ?_
        refine j_if_eq (tgt := 55) dX6_as_37 (by decide) (fun c_6 => ?_) (fun c_6 => ?_)
        · have H := H.1 c_6
          refine j_iconst (v := 1) dX6_as_55 (by decide) ?_
          refine j_goto (tgt := 60) dX6_as_56 (by decide) ?_
          refine j_istore (lo' := [(4, .int 1), (3, .int ((u 0) (Int32.toNatClampNeg x1))), (0, .ref (ad 0)), (1, .int x1), (2, .int x2)]) dX6_as_60 (by decide) rfl ?_
          refine j_iload 0 dX6_as_62 rfl ?_
          refine j_if_eq (tgt := 71) dX6_as_64 (by decide) (fun c_7 => absurd c_7 (by decide)) (fun _ => ?_)
          refine j_iload_n 3 dX6_as_67 rfl rfl ?_
          refine j_goto (tgt := 72) dX6_as_68 (by decide) ?_
          exact j_iret dX6_as_72 rfl H
        · have H := H.2 c_6
          refine j_iload_n 3 dX6_as_40 rfl rfl ?_
          refine j_iload_n 0 dX6_as_41 rfl rfl ?_
          refine j_icmp_eq (tgt := 55) dX6_as_42 (by decide) (fun c_8 => ?_) (fun c_8 => ?_)
          · have H := H.1 c_8
            refine j_iconst (v := 1) dX6_as_55 (by decide) ?_
            refine j_goto (tgt := 60) dX6_as_56 (by decide) ?_
            refine j_istore (lo' := [(4, .int 1), (3, .int ((u 0) (Int32.toNatClampNeg x1))), (0, .ref (ad 0)), (1, .int x1), (2, .int x2)]) dX6_as_60 (by decide) rfl ?_
            refine j_iload 0 dX6_as_62 rfl ?_
            refine j_if_eq (tgt := 71) dX6_as_64 (by decide) (fun c_9 => absurd c_9 (by decide)) (fun _ => ?_)
            refine j_iload_n 3 dX6_as_67 rfl rfl ?_
            refine j_goto (tgt := 72) dX6_as_68 (by decide) ?_
            exact j_iret dX6_as_72 rfl H
          · have H := H.2 c_8
            refine j_iload_n 3 dX6_as_45 rfl rfl ?_
            refine j_iconst (v := 2) dX6_as_46 (by decide) ?_
            refine j_icmp_ne (tgt := 59) dX6_as_47 (by decide) (fun c_10 => ?_) (fun c_10 => ?_)
            · have H := H.1 c_10
              refine j_iconst (v := 0) dX6_as_59 (by decide) ?_
              refine j_istore (lo' := [(4, .int 0), (3, .int ((u 0) (Int32.toNatClampNeg x1))), (0, .ref (ad 0)), (1, .int x1), (2, .int x2)]) dX6_as_60 (by decide) rfl ?_
              refine j_iload 0 dX6_as_62 rfl ?_
              refine j_if_eq (tgt := 71) dX6_as_64 (by decide) (fun _ => ?_) (fun c_11 => absurd (by decide) c_11)
              refine j_iconst (v := (-1)) dX6_as_71 (by decide) ?_
              exact j_iret dX6_as_72 rfl H
            · have H := H.2 c_10
              refine j_iload_n 0 dX6_as_50 rfl rfl ?_
              refine j_iconst (v := 4) dX6_as_51 (by decide) ?_
              refine j_icmp_ne (tgt := 59) dX6_as_52 (by decide) (fun c_12 => ?_) (fun c_12 => ?_)
              · have H := H.1 c_12
                refine j_iconst (v := 0) dX6_as_59 (by decide) ?_
                refine j_istore (lo' := [(4, .int 0), (3, .int ((u 0) (Int32.toNatClampNeg x1))), (0, .ref (ad 0)), (1, .int x1), (2, .int x2)]) dX6_as_60 (by decide) rfl ?_
                refine j_iload 0 dX6_as_62 rfl ?_
                refine j_if_eq (tgt := 71) dX6_as_64 (by decide) (fun _ => ?_) (fun c_13 => absurd (by decide) c_13)
                refine j_iconst (v := (-1)) dX6_as_71 (by decide) ?_
                exact j_iret dX6_as_72 rfl H
              · have H := H.2 c_12
                refine j_iconst (v := 1) dX6_as_55 (by decide) ?_
                refine j_goto (tgt := 60) dX6_as_56 (by decide) ?_
                refine j_istore (lo' := [(4, .int 1), (3, .int ((u 0) (Int32.toNatClampNeg x1))), (0, .ref (ad 0)), (1, .int x1), (2, .int x2)]) dX6_as_60 (by decide) rfl ?_
                refine j_iload 0 dX6_as_62 rfl ?_
                refine j_if_eq (tgt := 71) dX6_as_64 (by decide) (fun c_14 => absurd c_14 (by decide)) (fun _ => ?_)
                refine j_iload_n 3 dX6_as_67 rfl rfl ?_
                refine j_goto (tgt := 72) dX6_as_68 (by decide) ?_
                exact j_iret dX6_as_72 rfl H
      · have H := H.2 c_4
        refine j_bipush (v := (-102)) dX6_as_20 (by decide) ?_
        exact j_iret dX6_as_22 rfl H
  · have H := H.2 c_2
    refine j_bipush (v := (-101)) dX6_as_8 (by decide) ?_
    exact j_iret dX6_as_10 rfl H
set_option maxRecDepth 20000 in
theorem sg_X6_bestDrop_0 {G : GG} {ad : Nat → Nat} {pf : Nat → Int32} {pn : Int32} {u : Nat → Nat → Int32} {d : Nat → Nat → Int32} {g : Nat → Int32} {l : Nat → Int32} {n : Int32} {fn : Nat → Int32} {fd : Nat → Nat → Int32} {ku : Nat → Nat → Int32} {kd : Nat → Nat → Int32} {kg : Nat → Int32} {kl : Nat → Int32} {kn : Int32} {kfn : Nat → Int32} {kfd : Nat → Nat → Int32} {tu : Nat → Nat → Int32} {td : Nat → Nat → Int32} {t : Nat → Int32} {wa : Nat → Int32} {le : Nat → Int32} {se : Nat → Int32} {v : Nat → Int32} {x1 : Int32} {Q : Option Value → va_W → Prop} (H : J G mX6_isLetter 0 [(0, .int x1)] [] ([] : va_W) (fun v_ w_ => ∃ (r_1 : Int32), v_ = some (.int r_1) ∧ w_ = ([] : va_W) ∧ (((¬ r_1 = 0) → J G mX6_hasStreet 0 [(0, .ref (ad 0))] [] (rlW G ad 0 pf pn u d g l n fn fd ku kd kg kl kn kfn kfd tu td t wa le se v) (fun v_ w_ => ∃ (r_3 : Int32), v_ = some (.int r_3) ∧ w_ = (rlW G ad 0 pf pn u d g l n fn fd ku kd kg kl kn kfn kfd tu td t wa le se v) ∧ (((¬ r_3 = 0) → (((n < 12) → J G mX6_bestDrop 45 [(0, .ref (ad 0)), (1, .int x1), (2, .int 0), (3, .int (-1)), (4, .int 0)] [] (rlW G ad 0 pf pn u d g l n fn fd ku kd kg kl kn kfn kfd tu td t wa le se v) Q) ∧ ((¬ n < 12) → Q (some (.int (-104))) (rlW G ad 0 pf pn u d g l n fn fd ku kd kg kl kn kfn kfd tu td t wa le se v)))) ∧ ((r_3 = 0) → Q (some (.int (-103))) (rlW G ad 0 pf pn u d g l n fn fd ku kd kg kl kn kfn kfd tu td t wa le se v))))) ∧ ((r_1 = 0) → Q (some (.int (-102))) (rlW G ad 0 pf pn u d g l n fn fd ku kd kg kl kn kfn kfd tu td t wa le se v))))) : J G mX6_bestDrop 0 [(0, .ref (ad 0)), (1, .int x1)] [] (rlW G ad 0 pf pn u d g l n fn fd ku kd kg kl kn kfn kfd tu td t wa le se v) Q := by
  refine j_iload_n 1 dX6_bestDrop_0 rfl rfl ?_
  refine j_callS0 (As := [.int x1]) (st := []) ml_X6_isLetter sl_X6_129 dX6_bestDrop_1 (Nat.le_of_ble_eq_true rfl) ⟨by decide, by decide⟩ rfl rfl (Nat.le_of_ble_eq_true rfl) (J.mono (fun v_ w_ hp_ => ?_) H)
  obtain ⟨r_1, rfl, rfl, H⟩ := hp_
  refine j_if_ne (tgt := 10) dX6_bestDrop_4 (by decide) (fun c_2 => ?_) (fun c_2 => ?_)
  · have H := H.1 c_2
    refine j_aload_n 0 dX6_bestDrop_10 rfl rfl ?_
    refine j_callV0 (q0 := 0) (As := []) (st := []) ml_X6_hasStreet vl_X6_148 dX6_bestDrop_11 rfl rfl rfl (Nat.le_of_ble_eq_true rfl) ⟨by decide, by decide⟩ rfl rfl (Nat.le_of_ble_eq_true rfl) (J.mono (fun v_ w_ hp_ => ?_) H)
    obtain ⟨r_3, rfl, rfl, H⟩ := hp_
    refine j_if_ne (tgt := 20) dX6_bestDrop_14 (by decide) (fun c_4 => ?_) (fun c_4 => ?_)
    · have H := H.1 c_4
      refine j_aload_n 0 dX6_bestDrop_20 rfl rfl ?_
      refine j_get 0 fl_X6_19 dX6_bestDrop_21 rfl rfl ?_
      refine j_get 3 fl_X6_84 dX6_bestDrop_24 rfl rfl ?_
      refine j_get 19 fl_X6_88 dX6_bestDrop_27 rfl rfl ?_
      refine j_bipush (v := 12) dX6_bestDrop_30 (by decide) ?_
      refine j_icmp_lt (tgt := 38) dX6_bestDrop_32 (by decide) (fun c_5 => ?_) (fun c_5 => ?_)
      · have H := H.1 c_5
        refine j_iconst (v := 0) dX6_bestDrop_38 (by decide) ?_
        refine j_istore_n (lo' := [(2, .int 0), (0, .ref (ad 0)), (1, .int x1)]) dX6_bestDrop_39 rfl (by decide) rfl ?_
        refine j_iconst (v := (-1)) dX6_bestDrop_40 (by decide) ?_
        refine j_istore_n (lo' := [(3, .int (-1)), (2, .int 0), (0, .ref (ad 0)), (1, .int x1)]) dX6_bestDrop_41 rfl (by decide) rfl ?_
        refine j_iconst (v := 0) dX6_bestDrop_42 (by decide) ?_
        refine j_istore (lo' := [(4, .int 0), (3, .int (-1)), (2, .int 0), (0, .ref (ad 0)), (1, .int x1)]) dX6_bestDrop_43 (by decide) rfl ?_
        refine j_lo [3, 4, 2, 1, 0] rfl ?_
        exact H
      · have H := H.2 c_5
        refine j_bipush (v := (-104)) dX6_bestDrop_35 (by decide) ?_
        exact j_iret dX6_bestDrop_37 rfl H
    · have H := H.2 c_4
      refine j_bipush (v := (-103)) dX6_bestDrop_17 (by decide) ?_
      exact j_iret dX6_bestDrop_19 rfl H
  · have H := H.2 c_2
    refine j_bipush (v := (-102)) dX6_bestDrop_7 (by decide) ?_
    exact j_iret dX6_bestDrop_9 rfl H
set_option maxRecDepth 20000 in
theorem sg_X6_bestDrop_45 {G : GG} {ad : Nat → Nat} {pf : Nat → Int32} {pn : Int32} {u : Nat → Nat → Int32} {d : Nat → Nat → Int32} {g : Nat → Int32} {l : Nat → Int32} {n : Int32} {fn : Nat → Int32} {fd : Nat → Nat → Int32} {ku : Nat → Nat → Int32} {kd : Nat → Nat → Int32} {kg : Nat → Int32} {kl : Nat → Int32} {kn : Int32} {kfn : Nat → Int32} {kfd : Nat → Nat → Int32} {tu : Nat → Nat → Int32} {td : Nat → Nat → Int32} {t : Nat → Int32} {wa : Nat → Int32} {le : Nat → Int32} {se : Nat → Int32} {v : Nat → Int32} {x1 : Int32} {x2 : Int32} {x3 : Int32} {x4 : Int32} {Q : Option Value → va_W → Prop} (H : (((6 ≤ x4) → Q (some (.int x2)) (rlW G ad 0 pf pn u d g l n fn fd ku kd kg kl kn kfn kfd tu td t wa le se v)) ∧ ((¬ 6 ≤ x4) → J G mX4_layLike 0 [(0, .ref ((pk ad [59, 60, 61, 62, 63, 64, 65, 66, 67, 68, 69, 70, 71, 72, 73, 4, 5, 6, 7, 8, 9, 10, 11, 12, 13, 14, 15, 16, 17, 18]) 0)), (1, .ref ((pk ad [59, 60, 61, 62, 63, 64, 65, 66, 67, 68, 69, 70, 71, 72, 73, 4, 5, 6, 7, 8, 9, 10, 11, 12, 13, 14, 15, 16, 17, 18]) 15))] [] (stW G (pk ad [59, 60, 61, 62, 63, 64, 65, 66, 67, 68, 69, 70, 71, 72, 73, 4, 5, 6, 7, 8, 9, 10, 11, 12, 13, 14, 15, 16, 17, 18]) 0 tu td ++ (stW G (pk ad [59, 60, 61, 62, 63, 64, 65, 66, 67, 68, 69, 70, 71, 72, 73, 4, 5, 6, 7, 8, 9, 10, 11, 12, 13, 14, 15, 16, 17, 18]) 15 u d)) (fun v_ w_ => ∃ (u_2 : Nat → Nat → Int32), v_ = none ∧ w_ = (stW G (pk ad [59, 60, 61, 62, 63, 64, 65, 66, 67, 68, 69, 70, 71, 72, 73, 4, 5, 6, 7, 8, 9, 10, 11, 12, 13, 14, 15, 16, 17, 18]) 0 u_2 td ++ (stW G (pk ad [59, 60, 61, 62, 63, 64, 65, 66, 67, 68, 69, 70, 71, 72, 73, 4, 5, 6, 7, 8, 9, 10, 11, 12, 13, 14, 15, 16, 17, 18]) 15 u d)) ∧ J G mX4_runAll 0 [(0, .ref ((pk ad [59, 60, 61, 62, 63, 64, 65, 66, 67, 68, 69, 70, 71, 72, 73, 19, 20, 21]) 0)), (1, .ref ((pk ad [59, 60, 61, 62, 63, 64, 65, 66, 67, 68, 69, 70, 71, 72, 73, 19, 20, 21]) 15)), (2, .int (-1)), (3, .int 0)] [] (stW G (pk ad [59, 60, 61, 62, 63, 64, 65, 66, 67, 68, 69, 70, 71, 72, 73, 19, 20, 21]) 0 u_2 td ++ (faW G (pk ad [59, 60, 61, 62, 63, 64, 65, 66, 67, 68, 69, 70, 71, 72, 73, 19, 20, 21]) 15 g l n)) (fun v_ w_ => ∃ (d_3 : Nat → Nat → Int32) (u_4 : Nat → Nat → Int32), v_ = none ∧ w_ = (stW G (pk ad [59, 60, 61, 62, 63, 64, 65, 66, 67, 68, 69, 70, 71, 72, 73, 19, 20, 21]) 0 u_4 d_3 ++ (faW G (pk ad [59, 60, 61, 62, 63, 64, 65, 66, 67, 68, 69, 70, 71, 72, 73, 19, 20, 21]) 15 g l n)) ∧ J G mX4_run 0 [(0, .ref ((pk ad [59, 60, 61, 62, 63, 64, 65, 66, 67, 68, 69, 70, 71, 72, 73]) 0)), (1, .int x4), (2, .int x1)] [] (stW G (pk ad [59, 60, 61, 62, 63, 64, 65, 66, 67, 68, 69, 70, 71, 72, 73]) 0 u_4 d_3) (fun v_ w_ => ∃ (r_7 : Int32) (d_5 : Nat → Nat → Int32) (u_6 : Nat → Nat → Int32), v_ = some (.int r_7) ∧ w_ = (stW G (pk ad [59, 60, 61, 62, 63, 64, 65, 66, 67, 68, 69, 70, 71, 72, 73]) 0 u_6 d_5) ∧ J G mX4_lettersOut 0 [(0, .ref ((pk ad [59, 60, 61, 62, 63, 64, 65, 66, 67, 68, 69, 70, 71, 72, 73]) 0))] [] (stW G (pk ad [59, 60, 61, 62, 63, 64, 65, 66, 67, 68, 69, 70, 71, 72, 73]) 0 u_6 d_5) (fun v_ w_ => ∃ (r_8 : Int32), v_ = some (.int r_8) ∧ w_ = (stW G (pk ad [59, 60, 61, 62, 63, 64, 65, 66, 67, 68, 69, 70, 71, 72, 73]) 0 u_6 d_5) ∧ (((r_8 ≤ x3) → J G mX6_bestDrop 45 [(0, .ref (ad 0)), (1, .int x1), (2, .int x2), (3, .int x3), (4, .int (x4 + 1))] [] (rlW G ad 0 pf pn u d g l n fn fd ku kd kg kl kn kfn kfd u_6 d_5 t wa le se v) Q) ∧ ((¬ r_8 ≤ x3) → J G mX6_bestDrop 45 [(0, .ref (ad 0)), (1, .int x1), (2, .int x4), (3, .int r_8), (4, .int (x4 + 1))] [] (rlW G ad 0 pf pn u d g l n fn fd ku kd kg kl kn kfn kfd u_6 d_5 t wa le se v) Q))))))))) : J G mX6_bestDrop 45 [(0, .ref (ad 0)), (1, .int x1), (2, .int x2), (3, .int x3), (4, .int x4)] [] (rlW G ad 0 pf pn u d g l n fn fd ku kd kg kl kn kfn kfd tu td t wa le se v) Q := by
  refine j_iload 4 dX6_bestDrop_45 rfl ?_
  refine j_bipush (v := 6) dX6_bestDrop_47 (by decide) ?_
  refine j_icmp_ge (tgt := 120) dX6_bestDrop_49 (by decide) (fun c_1 => ?_) (fun c_1 => ?_)
  · have H := H.1 c_1
    refine j_iload_n 2 dX6_bestDrop_120 rfl rfl ?_
    exact j_iret dX6_bestDrop_121 rfl H
  · have H := H.2 c_1
    refine j_aload_n 0 dX6_bestDrop_52 rfl rfl ?_
    refine j_get 0 fl_X6_29 dX6_bestDrop_53 rfl rfl ?_
    refine j_aload_n 0 dX6_bestDrop_56 rfl rfl ?_
    refine j_get 0 fl_X6_19 dX6_bestDrop_57 rfl rfl ?_
    refine j_get 3 fl_X6_65 dX6_bestDrop_60 rfl rfl ?_
    refine j_callV (q0 := 0) (wc := (stW G (pk ad [59, 60, 61, 62, 63, 64, 65, 66, 67, 68, 69, 70, 71, 72, 73, 4, 5, 6, 7, 8, 9, 10, 11, 12, 13, 14, 15, 16, 17, 18]) 0 tu td ++ (stW G (pk ad [59, 60, 61, 62, 63, 64, 65, 66, 67, 68, 69, 70, 71, 72, 73, 4, 5, 6, 7, 8, 9, 10, 11, 12, 13, 14, 15, 16, 17, 18]) 15 u d))) (As := [.ref ((pk ad [59, 60, 61, 62, 63, 64, 65, 66, 67, 68, 69, 70, 71, 72, 73, 4, 5, 6, 7, 8, 9, 10, 11, 12, 13, 14, 15, 16, 17, 18]) 15)]) (st := []) ml_X4_layLike vl_X6_170 dX6_bestDrop_63 [none, none, none, none, some 15, some 16, some 17, some 18, some 19, some 20, some 21, some 22, some 23, some 24, some 25, some 26, some 27, some 28, some 29, none, none, none, none, none, none, none, none, none, none, none, none, none, none, none, none, none, none, none, none, none, none, none, none, none, none, none, none, none, none, none, none, none, none, none, none, none, none, none, none, some 0, some 1, some 2, some 3, some 4, some 5, some 6, some 7, some 8, some 9, some 10, some 11, some 12, some 13, some 14] ⟨rfl, Nat.le_of_ble_eq_true rfl, rfl, rfl⟩ rfl rfl rfl (Nat.le_of_ble_eq_true rfl) ⟨by decide, by decide⟩ rfl rfl (Nat.le_of_ble_eq_true rfl) (J.mono (fun v_ w_ hp_ => ?_) H)
    obtain ⟨u_2, rfl, rfl, H⟩ := hp_
    refine j_w (w' := (rlW G ad 0 pf pn u d g l n fn fd ku kd kg kl kn kfn kfd u_2 td t wa le se v)) rfl ?_
    refine j_aload_n 0 dX6_bestDrop_66 rfl rfl ?_
    refine j_get 0 fl_X6_29 dX6_bestDrop_67 rfl rfl ?_
    refine j_aload_n 0 dX6_bestDrop_70 rfl rfl ?_
    refine j_get 0 fl_X6_19 dX6_bestDrop_71 rfl rfl ?_
    refine j_get 3 fl_X6_84 dX6_bestDrop_74 rfl rfl ?_
    refine j_iconst (v := (-1)) dX6_bestDrop_77 (by decide) ?_
    refine j_iconst (v := 0) dX6_bestDrop_78 (by decide) ?_
    refine j_callV (q0 := 0) (wc := (stW G (pk ad [59, 60, 61, 62, 63, 64, 65, 66, 67, 68, 69, 70, 71, 72, 73, 19, 20, 21]) 0 u_2 td ++ (faW G (pk ad [59, 60, 61, 62, 63, 64, 65, 66, 67, 68, 69, 70, 71, 72, 73, 19, 20, 21]) 15 g l n))) (As := [.ref ((pk ad [59, 60, 61, 62, 63, 64, 65, 66, 67, 68, 69, 70, 71, 72, 73, 19, 20, 21]) 15), .int (-1), .int 0]) (st := []) ml_X4_runAll vl_X6_174 dX6_bestDrop_79 [none, none, none, none, none, none, none, none, none, none, none, none, none, none, none, none, none, none, none, some 15, some 16, some 17, none, none, none, none, none, none, none, none, none, none, none, none, none, none, none, none, none, none, none, none, none, none, none, none, none, none, none, none, none, none, none, none, none, none, none, none, none, some 0, some 1, some 2, some 3, some 4, some 5, some 6, some 7, some 8, some 9, some 10, some 11, some 12, some 13, some 14] ⟨rfl, Nat.le_of_ble_eq_true rfl, rfl, rfl⟩ rfl rfl rfl (Nat.le_of_ble_eq_true rfl) ⟨by decide, by decide⟩ rfl rfl (Nat.le_of_ble_eq_true rfl) (J.mono (fun v_ w_ hp_ => ?_) H)
    obtain ⟨d_3, u_4, rfl, rfl, H⟩ := hp_
    refine j_w (w' := (rlW G ad 0 pf pn u d g l n fn fd ku kd kg kl kn kfn kfd u_4 d_3 t wa le se v)) rfl ?_
    refine j_aload_n 0 dX6_bestDrop_82 rfl rfl ?_
    refine j_get 0 fl_X6_29 dX6_bestDrop_83 rfl rfl ?_
    refine j_iload 4 dX6_bestDrop_86 rfl ?_
    refine j_iload_n 1 dX6_bestDrop_88 rfl rfl ?_
    refine j_callV (q0 := 0) (wc := (stW G (pk ad [59, 60, 61, 62, 63, 64, 65, 66, 67, 68, 69, 70, 71, 72, 73]) 0 u_4 d_3)) (As := [.int x4, .int x1]) (st := []) ml_X4_run vl_X6_136 dX6_bestDrop_89 [none, none, none, none, none, none, none, none, none, none, none, none, none, none, none, none, none, none, none, none, none, none, none, none, none, none, none, none, none, none, none, none, none, none, none, none, none, none, none, none, none, none, none, none, none, none, none, none, none, none, none, none, none, none, none, none, none, none, none, some 0, some 1, some 2, some 3, some 4, some 5, some 6, some 7, some 8, some 9, some 10, some 11, some 12, some 13, some 14] ⟨rfl, Nat.le_of_ble_eq_true rfl, rfl, rfl⟩ rfl rfl rfl (Nat.le_of_ble_eq_true rfl) ⟨by decide, by decide⟩ rfl rfl (Nat.le_of_ble_eq_true rfl) (J.mono (fun v_ w_ hp_ => ?_) H)
    obtain ⟨r_7, d_5, u_6, rfl, rfl, H⟩ := hp_
    refine j_w (w' := (rlW G ad 0 pf pn u d g l n fn fd ku kd kg kl kn kfn kfd u_6 d_5 t wa le se v)) rfl ?_
    refine j_pop dX6_bestDrop_92 rfl ?_
    refine j_aload_n 0 dX6_bestDrop_93 rfl rfl ?_
    refine j_get 0 fl_X6_29 dX6_bestDrop_94 rfl rfl ?_
    refine j_callV (q0 := 0) (wc := (stW G (pk ad [59, 60, 61, 62, 63, 64, 65, 66, 67, 68, 69, 70, 71, 72, 73]) 0 u_6 d_5)) (As := []) (st := []) ml_X4_lettersOut vl_X6_178 dX6_bestDrop_97 [none, none, none, none, none, none, none, none, none, none, none, none, none, none, none, none, none, none, none, none, none, none, none, none, none, none, none, none, none, none, none, none, none, none, none, none, none, none, none, none, none, none, none, none, none, none, none, none, none, none, none, none, none, none, none, none, none, none, none, some 0, some 1, some 2, some 3, some 4, some 5, some 6, some 7, some 8, some 9, some 10, some 11, some 12, some 13, some 14] ⟨rfl, Nat.le_of_ble_eq_true rfl, rfl, rfl⟩ rfl rfl rfl (Nat.le_of_ble_eq_true rfl) ⟨by decide, by decide⟩ rfl rfl (Nat.le_of_ble_eq_true rfl) (J.mono (fun v_ w_ hp_ => ?_) H)
    obtain ⟨r_8, rfl, rfl, H⟩ := hp_
    refine j_w (w' := (rlW G ad 0 pf pn u d g l n fn fd ku kd kg kl kn kfn kfd u_6 d_5 t wa le se v)) rfl ?_
    refine j_istore (lo' := [(5, .int r_8), (0, .ref (ad 0)), (1, .int x1), (2, .int x2), (3, .int x3), (4, .int x4)]) dX6_bestDrop_100 (by decide) rfl ?_
    refine j_iload 0 dX6_bestDrop_102 rfl ?_
    refine j_iload_n 4 dX6_bestDrop_104 rfl rfl ?_
    refine j_icmp_le (tgt := 114) dX6_bestDrop_105 (by decide) (fun c_9 => ?_) (fun c_9 => ?_)
    · have H := H.1 c_9
      refine j_iinc (v := (x4 + 1)) (lo' := [(4, .int (x4 + 1)), (5, .int r_8), (0, .ref (ad 0)), (1, .int x1), (2, .int x2), (3, .int x3)]) 5 dX6_bestDrop_114 rfl rfl (by decide) rfl ?_
      refine j_goto (tgt := 45) dX6_bestDrop_117 (by decide) ?_
      refine j_lo [2, 3, 4, 5, 0] rfl ?_
      exact H
    · have H := H.2 c_9
      refine j_iload 0 dX6_bestDrop_108 rfl ?_
      refine j_istore_n (lo' := [(3, .int r_8), (5, .int r_8), (0, .ref (ad 0)), (1, .int x1), (2, .int x2), (4, .int x4)]) dX6_bestDrop_110 rfl (by decide) rfl ?_
      refine j_iload 5 dX6_bestDrop_111 rfl ?_
      refine j_istore_n (lo' := [(2, .int x4), (3, .int r_8), (5, .int r_8), (0, .ref (ad 0)), (1, .int x1), (4, .int x4)]) dX6_bestDrop_113 rfl (by decide) rfl ?_
      refine j_iinc (v := (x4 + 1)) (lo' := [(4, .int (x4 + 1)), (2, .int x4), (3, .int r_8), (5, .int r_8), (0, .ref (ad 0)), (1, .int x1)]) 5 dX6_bestDrop_114 rfl rfl (by decide) rfl ?_
      refine j_goto (tgt := 45) dX6_bestDrop_117 (by decide) ?_
      refine j_lo [4, 5, 1, 2, 0] rfl ?_
      exact H
set_option maxRecDepth 20000 in
theorem sg_X6_blank_0 {G : GG} {ad : Nat → Nat} {pf : Nat → Int32} {pn : Int32} {u : Nat → Nat → Int32} {d : Nat → Nat → Int32} {g : Nat → Int32} {l : Nat → Int32} {n : Int32} {fn : Nat → Int32} {fd : Nat → Nat → Int32} {ku : Nat → Nat → Int32} {kd : Nat → Nat → Int32} {kg : Nat → Int32} {kl : Nat → Int32} {kn : Int32} {kfn : Nat → Int32} {kfd : Nat → Nat → Int32} {tu : Nat → Nat → Int32} {td : Nat → Nat → Int32} {t : Nat → Int32} {wa : Nat → Int32} {le : Nat → Int32} {se : Nat → Int32} {v : Nat → Int32} {Q : Option Value → va_W → Prop} (H : Q (some (.int pn)) (rlW G ad 0 pf 0 u d g l n fn fd ku kd kg kl kn kfn kfd tu td t wa le se v)) : J G mX6_blank 0 [(0, .ref (ad 0))] [] (rlW G ad 0 pf pn u d g l n fn fd ku kd kg kl kn kfn kfd tu td t wa le se v) Q := by
  refine j_aload_n 0 dX6_blank_0 rfl rfl ?_
  refine j_get 0 fl_X6_10 dX6_blank_1 rfl rfl ?_
  refine j_get 1 fl_X6_50 dX6_blank_4 rfl rfl ?_
  refine j_istore_n (lo' := [(1, .int pn), (0, .ref (ad 0))]) dX6_blank_7 rfl (by decide) rfl ?_
  refine j_aload_n 1 dX6_blank_8 rfl rfl ?_
  refine j_get 0 fl_X6_10 dX6_blank_9 rfl rfl ?_
  refine j_iconst (v := 0) dX6_blank_12 (by decide) ?_
  refine j_put (w' := (rlW G ad 0 pf 0 u d g l n fn fd ku kd kg kl kn kfn kfd tu td t wa le se v)) 1 fp_X6_50 dX6_blank_13 rfl rfl rfl (Nat.le_of_ble_eq_true rfl) rfl ?_
  refine j_iload_n 0 dX6_blank_16 rfl rfl ?_
  exact j_iret dX6_blank_17 rfl H
set_option maxRecDepth 20000 in
theorem sg_X6_count_0 {G : GG} {ad : Nat → Nat} {pf : Nat → Int32} {pn : Int32} {u : Nat → Nat → Int32} {d : Nat → Nat → Int32} {g : Nat → Int32} {l : Nat → Int32} {n : Int32} {fn : Nat → Int32} {fd : Nat → Nat → Int32} {ku : Nat → Nat → Int32} {kd : Nat → Nat → Int32} {kg : Nat → Int32} {kl : Nat → Int32} {kn : Int32} {kfn : Nat → Int32} {kfd : Nat → Nat → Int32} {tu : Nat → Nat → Int32} {td : Nat → Nat → Int32} {t : Nat → Int32} {wa : Nat → Int32} {le : Nat → Int32} {se : Nat → Int32} {v : Nat → Int32} {x1 : Int32} {Q : Option Value → va_W → Prop} (H : (((x1 = 0) → J G mX6_hasStreet 0 [(0, .ref (ad 0))] [] (rlW G ad 0 pf pn u d g l n fn fd ku kd kg kl kn kfn kfd tu td t wa le se v) (fun v_ w_ => ∃ (r_1 : Int32), v_ = some (.int r_1) ∧ w_ = (rlW G ad 0 pf pn u d g l n fn fd ku kd kg kl kn kfn kfd tu td t wa le se v) ∧ (((r_1 = 0) → Q (some (.int 0)) (rlW G ad 0 pf pn u d g l n fn fd ku kd kg kl kn kfn kfd tu td t wa le se v)) ∧ ((¬ r_1 = 0) → Q (some (.int 6)) (rlW G ad 0 pf pn u d g l n fn fd ku kd kg kl kn kfn kfd tu td t wa le se v))))) ∧ ((x1 = 1) → J G mX6_hasStreet 0 [(0, .ref (ad 0))] [] (rlW G ad 0 pf pn u d g l n fn fd ku kd kg kl kn kfn kfd tu td t wa le se v) (fun v_ w_ => ∃ (r_3 : Int32), v_ = some (.int r_3) ∧ w_ = (rlW G ad 0 pf pn u d g l n fn fd ku kd kg kl kn kfn kfd tu td t wa le se v) ∧ (((r_3 = 0) → Q (some (.int 0)) (rlW G ad 0 pf pn u d g l n fn fd ku kd kg kl kn kfn kfd tu td t wa le se v)) ∧ ((¬ r_3 = 0) → J G mX4_countOut 0 [(0, .ref ((pk ad [4, 5, 6, 7, 8, 9, 10, 11, 12, 13, 14, 15, 16, 17, 18]) 0))] [] (stW G (pk ad [4, 5, 6, 7, 8, 9, 10, 11, 12, 13, 14, 15, 16, 17, 18]) 0 u d) (fun v_ w_ => ∃ (r_5 : Int32), v_ = some (.int r_5) ∧ w_ = (stW G (pk ad [4, 5, 6, 7, 8, 9, 10, 11, 12, 13, 14, 15, 16, 17, 18]) 0 u d) ∧ Q (some (.int r_5)) (rlW G ad 0 pf pn u d g l n fn fd ku kd kg kl kn kfn kfd tu td t wa le se v)))))) ∧ ((x1 = 2) → Q (some (.int n)) (rlW G ad 0 pf pn u d g l n fn fd ku kd kg kl kn kfn kfd tu td t wa le se v)) ∧ ((x1 = 3) → J G mX4_lettersOut 0 [(0, .ref ((pk ad [4, 5, 6, 7, 8, 9, 10, 11, 12, 13, 14, 15, 16, 17, 18]) 0))] [] (stW G (pk ad [4, 5, 6, 7, 8, 9, 10, 11, 12, 13, 14, 15, 16, 17, 18]) 0 u d) (fun v_ w_ => ∃ (r_6 : Int32), v_ = some (.int r_6) ∧ w_ = (stW G (pk ad [4, 5, 6, 7, 8, 9, 10, 11, 12, 13, 14, 15, 16, 17, 18]) 0 u d) ∧ Q (some (.int r_6)) (rlW G ad 0 pf pn u d g l n fn fd ku kd kg kl kn kfn kfd tu td t wa le se v))) ∧ ((x1 = 4) → J G mX4_lettersLost 0 [(0, .ref ((pk ad [4, 5, 6, 7, 8, 9, 10, 11, 12, 13, 14, 15, 16, 17, 18]) 0))] [] (stW G (pk ad [4, 5, 6, 7, 8, 9, 10, 11, 12, 13, 14, 15, 16, 17, 18]) 0 u d) (fun v_ w_ => ∃ (r_7 : Int32), v_ = some (.int r_7) ∧ w_ = (stW G (pk ad [4, 5, 6, 7, 8, 9, 10, 11, 12, 13, 14, 15, 16, 17, 18]) 0 u d) ∧ Q (some (.int r_7)) (rlW G ad 0 pf pn u d g l n fn fd ku kd kg kl kn kfn kfd tu td t wa le se v))) ∧ ((x1 = 5) → J G mX4_fullBowls 0 [(0, .ref ((pk ad [4, 5, 6, 7, 8, 9, 10, 11, 12, 13, 14, 15, 16, 17, 18]) 0))] [] (stW G (pk ad [4, 5, 6, 7, 8, 9, 10, 11, 12, 13, 14, 15, 16, 17, 18]) 0 u d) (fun v_ w_ => ∃ (r_8 : Int32), v_ = some (.int r_8) ∧ w_ = (stW G (pk ad [4, 5, 6, 7, 8, 9, 10, 11, 12, 13, 14, 15, 16, 17, 18]) 0 u d) ∧ Q (some (.int r_8)) (rlW G ad 0 pf pn u d g l n fn fd ku kd kg kl kn kfn kfd tu td t wa le se v))) ∧ ((x1 = 6) → J G mX1_countFound 0 [(0, .ref ((pk ad [22, 23, 24, 25, 26, 27, 28, 29, 30]) 0))] [] (fiW G (pk ad [22, 23, 24, 25, 26, 27, 28, 29, 30]) 0 fn fd) (fun v_ w_ => ∃ (r_9 : Int32), v_ = some (.int r_9) ∧ w_ = (fiW G (pk ad [22, 23, 24, 25, 26, 27, 28, 29, 30]) 0 fn fd) ∧ Q (some (.int r_9)) (rlW G ad 0 pf pn u d g l n fn fd ku kd kg kl kn kfn kfd tu td t wa le se v))) ∧ ((x1 = 7) → Q (some (.int pn)) (rlW G ad 0 pf pn u d g l n fn fd ku kd kg kl kn kfn kfd tu td t wa le se v)) ∧ ((x1 = 8) → Q (some (.int (v 1))) (rlW G ad 0 pf pn u d g l n fn fd ku kd kg kl kn kfn kfd tu td t wa le se v)) ∧ ((x1 = 9) → Q (some (.int (v 2))) (rlW G ad 0 pf pn u d g l n fn fd ku kd kg kl kn kfn kfd tu td t wa le se v)) ∧ ((x1 = 10) → Q (some (.int (v 3))) (rlW G ad 0 pf pn u d g l n fn fd ku kd kg kl kn kfn kfd tu td t wa le se v)) ∧ ((¬ x1 = 0 ∧ ¬ x1 = 1 ∧ ¬ x1 = 2 ∧ ¬ x1 = 3 ∧ ¬ x1 = 4 ∧ ¬ x1 = 5 ∧ ¬ x1 = 6 ∧ ¬ x1 = 7 ∧ ¬ x1 = 8 ∧ ¬ x1 = 9 ∧ ¬ x1 = 10) → Q (some (.int (-102))) (rlW G ad 0 pf pn u d g l n fn fd ku kd kg kl kn kfn kfd tu td t wa le se v)))) : J G mX6_count 0 [(0, .ref (ad 0)), (1, .int x1)] [] (rlW G ad 0 pf pn u d g l n fn fd ku kd kg kl kn kfn kfd tu td t wa le se v) Q := by
  refine j_iload_n 1 dX6_count_0 rfl rfl ?_
  refine j_tsw dX6_count_1 [(0, 60), (1, 74), (2, 96), (3, 107), (4, 118), (5, 129), (6, 140), (7, 151), (8, 159), (9, 164), (10, 169)] 174 (by decide) (by decide) (by decide) (fun v_ t_ hm hx => ?_) (fun hn => ?_)
  · simp only [List.mem_cons, Prod.mk.injEq, List.not_mem_nil, or_false] at hm
    rcases hm with ⟨rfl, rfl⟩ | ⟨rfl, rfl⟩ | ⟨rfl, rfl⟩ | ⟨rfl, rfl⟩ | ⟨rfl, rfl⟩ | ⟨rfl, rfl⟩ | ⟨rfl, rfl⟩ | ⟨rfl, rfl⟩ | ⟨rfl, rfl⟩ | ⟨rfl, rfl⟩ | ⟨rfl, rfl⟩
    · have H := H.1 hx
      refine j_aload_n 0 dX6_count_60 rfl rfl ?_
      refine j_callV0 (q0 := 0) (As := []) (st := []) ml_X6_hasStreet vl_X6_148 dX6_count_61 rfl rfl rfl (Nat.le_of_ble_eq_true rfl) ⟨by decide, by decide⟩ rfl rfl (Nat.le_of_ble_eq_true rfl) (J.mono (fun v_ w_ hp_ => ?_) H)
      obtain ⟨r_1, rfl, rfl, H⟩ := hp_
      refine j_if_eq (tgt := 72) dX6_count_64 (by decide) (fun c_2 => ?_) (fun c_2 => ?_)
      · have H := H.1 c_2
        refine j_iconst (v := 0) dX6_count_72 (by decide) ?_
        exact j_iret dX6_count_73 rfl H
      · have H := H.2 c_2
        refine j_bipush (v := 6) dX6_count_67 (by decide) ?_
        refine j_goto (tgt := 73) dX6_count_69 (by decide) ?_
        exact j_iret dX6_count_73 rfl H
    · have H := H.2.1 hx
      refine j_aload_n 0 dX6_count_74 rfl rfl ?_
      refine j_callV0 (q0 := 0) (As := []) (st := []) ml_X6_hasStreet vl_X6_148 dX6_count_75 rfl rfl rfl (Nat.le_of_ble_eq_true rfl) ⟨by decide, by decide⟩ rfl rfl (Nat.le_of_ble_eq_true rfl) (J.mono (fun v_ w_ hp_ => ?_) H)
      obtain ⟨r_3, rfl, rfl, H⟩ := hp_
      refine j_if_eq (tgt := 94) dX6_count_78 (by decide) (fun c_4 => ?_) (fun c_4 => ?_)
      · have H := H.1 c_4
        refine j_iconst (v := 0) dX6_count_94 (by decide) ?_
        exact j_iret dX6_count_95 rfl H
      · have H := H.2 c_4
        refine j_aload_n 0 dX6_count_81 rfl rfl ?_
        refine j_get 0 fl_X6_19 dX6_count_82 rfl rfl ?_
        refine j_get 3 fl_X6_65 dX6_count_85 rfl rfl ?_
        refine j_callV (q0 := 0) (wc := (stW G (pk ad [4, 5, 6, 7, 8, 9, 10, 11, 12, 13, 14, 15, 16, 17, 18]) 0 u d)) (As := []) (st := []) ml_X4_countOut vl_X6_105 dX6_count_88 [none, none, none, none, some 0, some 1, some 2, some 3, some 4, some 5, some 6, some 7, some 8, some 9, some 10, some 11, some 12, some 13, some 14] ⟨rfl, Nat.le_of_ble_eq_true rfl, rfl, rfl⟩ rfl rfl rfl (Nat.le_of_ble_eq_true rfl) ⟨by decide, by decide⟩ rfl rfl (Nat.le_of_ble_eq_true rfl) (J.mono (fun v_ w_ hp_ => ?_) H)
        obtain ⟨r_5, rfl, rfl, H⟩ := hp_
        refine j_w (w' := (rlW G ad 0 pf pn u d g l n fn fd ku kd kg kl kn kfn kfd tu td t wa le se v)) rfl ?_
        refine j_goto (tgt := 95) dX6_count_91 (by decide) ?_
        exact j_iret dX6_count_95 rfl H
    · have H := H.2.2.1 hx
      refine j_aload_n 0 dX6_count_96 rfl rfl ?_
      refine j_get 0 fl_X6_19 dX6_count_97 rfl rfl ?_
      refine j_get 3 fl_X6_84 dX6_count_100 rfl rfl ?_
      refine j_get 19 fl_X6_88 dX6_count_103 rfl rfl ?_
      exact j_iret dX6_count_106 rfl H
    · have H := H.2.2.2.1 hx
      refine j_aload_n 0 dX6_count_107 rfl rfl ?_
      refine j_get 0 fl_X6_19 dX6_count_108 rfl rfl ?_
      refine j_get 3 fl_X6_65 dX6_count_111 rfl rfl ?_
      refine j_callV (q0 := 0) (wc := (stW G (pk ad [4, 5, 6, 7, 8, 9, 10, 11, 12, 13, 14, 15, 16, 17, 18]) 0 u d)) (As := []) (st := []) ml_X4_lettersOut vl_X6_178 dX6_count_114 [none, none, none, none, some 0, some 1, some 2, some 3, some 4, some 5, some 6, some 7, some 8, some 9, some 10, some 11, some 12, some 13, some 14] ⟨rfl, Nat.le_of_ble_eq_true rfl, rfl, rfl⟩ rfl rfl rfl (Nat.le_of_ble_eq_true rfl) ⟨by decide, by decide⟩ rfl rfl (Nat.le_of_ble_eq_true rfl) (J.mono (fun v_ w_ hp_ => ?_) H)
      obtain ⟨r_6, rfl, rfl, H⟩ := hp_
      refine j_w (w' := (rlW G ad 0 pf pn u d g l n fn fd ku kd kg kl kn kfn kfd tu td t wa le se v)) rfl ?_
      exact j_iret dX6_count_117 rfl H
    · have H := H.2.2.2.2.1 hx
      refine j_aload_n 0 dX6_count_118 rfl rfl ?_
      refine j_get 0 fl_X6_19 dX6_count_119 rfl rfl ?_
      refine j_get 3 fl_X6_65 dX6_count_122 rfl rfl ?_
      refine j_callV (q0 := 0) (wc := (stW G (pk ad [4, 5, 6, 7, 8, 9, 10, 11, 12, 13, 14, 15, 16, 17, 18]) 0 u d)) (As := []) (st := []) ml_X4_lettersLost vl_X6_201 dX6_count_125 [none, none, none, none, some 0, some 1, some 2, some 3, some 4, some 5, some 6, some 7, some 8, some 9, some 10, some 11, some 12, some 13, some 14] ⟨rfl, Nat.le_of_ble_eq_true rfl, rfl, rfl⟩ rfl rfl rfl (Nat.le_of_ble_eq_true rfl) ⟨by decide, by decide⟩ rfl rfl (Nat.le_of_ble_eq_true rfl) (J.mono (fun v_ w_ hp_ => ?_) H)
      obtain ⟨r_7, rfl, rfl, H⟩ := hp_
      refine j_w (w' := (rlW G ad 0 pf pn u d g l n fn fd ku kd kg kl kn kfn kfd tu td t wa le se v)) rfl ?_
      exact j_iret dX6_count_128 rfl H
    · have H := H.2.2.2.2.2.1 hx
      refine j_aload_n 0 dX6_count_129 rfl rfl ?_
      refine j_get 0 fl_X6_19 dX6_count_130 rfl rfl ?_
      refine j_get 3 fl_X6_65 dX6_count_133 rfl rfl ?_
      refine j_callV (q0 := 0) (wc := (stW G (pk ad [4, 5, 6, 7, 8, 9, 10, 11, 12, 13, 14, 15, 16, 17, 18]) 0 u d)) (As := []) (st := []) ml_X4_fullBowls vl_X6_204 dX6_count_136 [none, none, none, none, some 0, some 1, some 2, some 3, some 4, some 5, some 6, some 7, some 8, some 9, some 10, some 11, some 12, some 13, some 14] ⟨rfl, Nat.le_of_ble_eq_true rfl, rfl, rfl⟩ rfl rfl rfl (Nat.le_of_ble_eq_true rfl) ⟨by decide, by decide⟩ rfl rfl (Nat.le_of_ble_eq_true rfl) (J.mono (fun v_ w_ hp_ => ?_) H)
      obtain ⟨r_8, rfl, rfl, H⟩ := hp_
      refine j_w (w' := (rlW G ad 0 pf pn u d g l n fn fd ku kd kg kl kn kfn kfd tu td t wa le se v)) rfl ?_
      exact j_iret dX6_count_139 rfl H
    · have H := H.2.2.2.2.2.2.1 hx
      refine j_aload_n 0 dX6_count_140 rfl rfl ?_
      refine j_get 0 fl_X6_19 dX6_count_141 rfl rfl ?_
      refine j_get 3 fl_X6_91 dX6_count_144 rfl rfl ?_
      refine j_callV (q0 := 0) (wc := (fiW G (pk ad [22, 23, 24, 25, 26, 27, 28, 29, 30]) 0 fn fd)) (As := []) (st := []) ml_X1_countFound vl_X6_187 dX6_count_147 [none, none, none, none, none, none, none, none, none, none, none, none, none, none, none, none, none, none, none, none, none, none, some 0, some 1, some 2, some 3, some 4, some 5, some 6, some 7, some 8] ⟨rfl, Nat.le_of_ble_eq_true rfl, rfl, rfl⟩ rfl rfl rfl (Nat.le_of_ble_eq_true rfl) ⟨by decide, by decide⟩ rfl rfl (Nat.le_of_ble_eq_true rfl) (J.mono (fun v_ w_ hp_ => ?_) H)
      obtain ⟨r_9, rfl, rfl, H⟩ := hp_
      refine j_w (w' := (rlW G ad 0 pf pn u d g l n fn fd ku kd kg kl kn kfn kfd tu td t wa le se v)) rfl ?_
      exact j_iret dX6_count_150 rfl H
    · have H := H.2.2.2.2.2.2.2.1 hx
      refine j_aload_n 0 dX6_count_151 rfl rfl ?_
      refine j_get 0 fl_X6_10 dX6_count_152 rfl rfl ?_
      refine j_get 1 fl_X6_50 dX6_count_155 rfl rfl ?_
      exact j_iret dX6_count_158 rfl H
    · have H := H.2.2.2.2.2.2.2.2.1 hx
      refine j_aload_n 0 dX6_count_159 rfl rfl ?_
      refine j_get 0 fl_X6_102 dX6_count_160 rfl rfl ?_
      exact j_iret dX6_count_163 rfl H
    · have H := H.2.2.2.2.2.2.2.2.2.1 hx
      refine j_aload_n 0 dX6_count_164 rfl rfl ?_
      refine j_get 0 fl_X6_154 dX6_count_165 rfl rfl ?_
      exact j_iret dX6_count_168 rfl H
    · have H := H.2.2.2.2.2.2.2.2.2.2.1 hx
      refine j_aload_n 0 dX6_count_169 rfl rfl ?_
      refine j_get 0 fl_X6_164 dX6_count_170 rfl rfl ?_
      exact j_iret dX6_count_173 rfl H
  · have H := H.2.2.2.2.2.2.2.2.2.2.2 ⟨hn 0 60 (by simp), hn 1 74 (by simp), hn 2 96 (by simp), hn 3 107 (by simp), hn 4 118 (by simp), hn 5 129 (by simp), hn 6 140 (by simp), hn 7 151 (by simp), hn 8 159 (by simp), hn 9 164 (by simp), hn 10 169 (by simp)⟩
    refine j_bipush (v := (-102)) dX6_count_174 (by decide) ?_
    exact j_iret dX6_count_176 rfl H
set_option maxRecDepth 20000 in
theorem sg_X6_runMixed_0 {G : GG} {ad : Nat → Nat} {pf : Nat → Int32} {pn : Int32} {u : Nat → Nat → Int32} {d : Nat → Nat → Int32} {g : Nat → Int32} {l : Nat → Int32} {n : Int32} {fn : Nat → Int32} {fd : Nat → Nat → Int32} {ku : Nat → Nat → Int32} {kd : Nat → Nat → Int32} {kg : Nat → Int32} {kl : Nat → Int32} {kn : Int32} {kfn : Nat → Int32} {kfd : Nat → Nat → Int32} {tu : Nat → Nat → Int32} {td : Nat → Nat → Int32} {t : Nat → Int32} {wa : Nat → Int32} {le : Nat → Int32} {se : Nat → Int32} {v : Nat → Int32} {x1 : Int32} {x2 : Int32} {Q : Option Value → va_W → Prop} (H : J G mX6_runMixed 2 [(0, .ref (ad 0)), (1, .int x1), (2, .int x2), (3, .int 0)] [] (rlW G ad 0 pf pn u d g l n fn fd ku kd kg kl kn kfn kfd tu td t wa le se v) Q) : J G mX6_runMixed 0 [(0, .ref (ad 0)), (1, .int x1), (2, .int x2)] [] (rlW G ad 0 pf pn u d g l n fn fd ku kd kg kl kn kfn kfd tu td t wa le se v) Q := by
  refine j_iconst (v := 0) dX6_runMixed_0 (by decide) ?_
  refine j_istore_n (lo' := [(3, .int 0), (0, .ref (ad 0)), (1, .int x1), (2, .int x2)]) dX6_runMixed_1 rfl (by decide) rfl ?_
  refine j_lo [1, 2, 3, 0] rfl ?_
  exact H
set_option maxRecDepth 20000 in
theorem sg_X6_runMixed_2 {G : GG} {ad : Nat → Nat} {pf : Nat → Int32} {pn : Int32} {u : Nat → Nat → Int32} {d : Nat → Nat → Int32} {g : Nat → Int32} {l : Nat → Int32} {n : Int32} {fn : Nat → Int32} {fd : Nat → Nat → Int32} {ku : Nat → Nat → Int32} {kd : Nat → Nat → Int32} {kg : Nat → Int32} {kl : Nat → Int32} {kn : Int32} {kfn : Nat → Int32} {kfd : Nat → Nat → Int32} {tu : Nat → Nat → Int32} {td : Nat → Nat → Int32} {t : Nat → Int32} {wa : Nat → Int32} {le : Nat → Int32} {se : Nat → Int32} {v : Nat → Int32} {x1 : Int32} {x2 : Int32} {x3 : Int32} {Q : Option Value → va_W → Prop} (H : (((x2 ≤ x3) → J G mX6_runMixed 25 [(0, .ref (ad 0)), (1, .int x1), (2, .int x2), (3, .int x1), (4, .int x2)] [] (rlW G ad 0 pf pn u d g l n fn fd ku kd kg kl kn kfn kfd tu td t wa le se v) Q) ∧ ((¬ x2 ≤ x3) → (vp_in x3 6) ∧ J G mX6_runMixed 2 [(0, .ref (ad 0)), (1, .int x1), (2, .int x2), (3, .int (x3 + 1))] [] (rlW G ad 0 pf pn u d g l n fn fd ku kd kg kl kn kfn kfd tu td t wa (upd le (Int32.toNatClampNeg x3) x3) se v) Q))) : J G mX6_runMixed 2 [(0, .ref (ad 0)), (1, .int x1), (2, .int x2), (3, .int x3)] [] (rlW G ad 0 pf pn u d g l n fn fd ku kd kg kl kn kfn kfd tu td t wa le se v) Q := by
  refine j_iload_n 3 dX6_runMixed_2 rfl rfl ?_
  refine j_iload_n 2 dX6_runMixed_3 rfl rfl ?_
  refine j_icmp_ge (tgt := 20) dX6_runMixed_4 (by decide) (fun c_1 => ?_) (fun c_1 => ?_)
  · have H := H.1 c_1
    refine j_iload_n 1 dX6_runMixed_20 rfl rfl ?_
    refine j_istore_n (lo' := [(3, .int x1), (0, .ref (ad 0)), (1, .int x1), (2, .int x2)]) dX6_runMixed_21 rfl (by decide) rfl ?_
    refine j_iload_n 3 dX6_runMixed_22 rfl rfl ?_
    refine j_istore (lo' := [(4, .int x2), (3, .int x1), (0, .ref (ad 0)), (1, .int x1), (2, .int x2)]) dX6_runMixed_23 (by decide) rfl ?_
    refine j_lo [2, 3, 4, 1, 0] rfl ?_
    exact H
  · have H := H.2 c_1
    refine j_aload_n 0 dX6_runMixed_7 rfl rfl ?_
    refine j_get 0 fl_X6_44 dX6_runMixed_8 rfl rfl ?_
    refine j_iload_n 3 dX6_runMixed_11 rfl rfl ?_
    refine j_iload_n 3 dX6_runMixed_12 rfl rfl ?_
    obtain ⟨h_2, H⟩ := H
    refine j_iast (w' := (rlW G ad 0 pf pn u d g l n fn fd ku kd kg kl kn kfn kfd tu td t wa (upd le (Int32.toNatClampNeg x3) x3) se v)) 76 dX6_runMixed_13 rfl h_2 rfl ?_
    refine j_iinc (v := (x3 + 1)) (lo' := [(3, .int (x3 + 1)), (0, .ref (ad 0)), (1, .int x1), (2, .int x2)]) 3 dX6_runMixed_14 rfl rfl (by decide) rfl ?_
    refine j_goto (tgt := 2) dX6_runMixed_17 (by decide) ?_
    refine j_lo [1, 2, 3, 0] rfl ?_
    exact H
set_option maxRecDepth 20000 in
theorem sg_X6_runMixed_25 {G : GG} {ad : Nat → Nat} {pf : Nat → Int32} {pn : Int32} {u : Nat → Nat → Int32} {d : Nat → Nat → Int32} {g : Nat → Int32} {l : Nat → Int32} {n : Int32} {fn : Nat → Int32} {fd : Nat → Nat → Int32} {ku : Nat → Nat → Int32} {kd : Nat → Nat → Int32} {kg : Nat → Int32} {kl : Nat → Int32} {kn : Int32} {kfn : Nat → Int32} {kfd : Nat → Nat → Int32} {tu : Nat → Nat → Int32} {td : Nat → Nat → Int32} {t : Nat → Int32} {wa : Nat → Int32} {le : Nat → Int32} {se : Nat → Int32} {v : Nat → Int32} {x1 : Int32} {x2 : Int32} {x3 : Int32} {x4 : Int32} {Q : Option Value → va_W → Prop} (H : (((x4 ≤ 0) → Q none (rlW G ad 0 pf pn u d g l n fn fd ku kd kg kl kn kfn kfd tu td t wa le se v)) ∧ ((¬ x4 ≤ 0) → (¬ x4 = (0 : Int32)) ∧ (¬ x4 = (0 : Int32)) ∧ (vp_in (x3 - x3 / x4 * x4) 6) ∧ (vp_in (x4 - 1) 6) ∧ (vp_in (le (Int32.toNatClampNeg (x3 - x3 / x4 * x4))) 12) ∧ J G mX4_run 0 [(0, .ref ((pk ad [59, 60, 61, 62, 63, 64, 65, 66, 67, 68, 69, 70, 71, 72, 73]) 0)), (1, .int (g (Int32.toNatClampNeg (le (Int32.toNatClampNeg (x3 - x3 / x4 * x4)))))), (2, .int (l (Int32.toNatClampNeg (le (Int32.toNatClampNeg (x3 - x3 / x4 * x4))))))] [] (stW G (pk ad [59, 60, 61, 62, 63, 64, 65, 66, 67, 68, 69, 70, 71, 72, 73]) 0 tu td) (fun v_ w_ => ∃ (r_9 : Int32) (d_7 : Nat → Nat → Int32) (u_8 : Nat → Nat → Int32), v_ = some (.int r_9) ∧ w_ = (stW G (pk ad [59, 60, 61, 62, 63, 64, 65, 66, 67, 68, 69, 70, 71, 72, 73]) 0 u_8 d_7) ∧ J G mX6_runMixed 25 [(0, .ref (ad 0)), (1, .int x1), (2, .int x2), (3, .int (x3 / x4)), (4, .int (x4 + (-1)))] [] (rlW G ad 0 pf pn u d g l n fn fd ku kd kg kl kn kfn kfd u_8 d_7 t wa (upd le (Int32.toNatClampNeg (x3 - x3 / x4 * x4)) (le (Int32.toNatClampNeg (x4 - 1)))) se v) Q)))) : J G mX6_runMixed 25 [(0, .ref (ad 0)), (1, .int x1), (2, .int x2), (3, .int x3), (4, .int x4)] [] (rlW G ad 0 pf pn u d g l n fn fd ku kd kg kl kn kfn kfd tu td t wa le se v) Q := by
  refine j_iload 4 dX6_runMixed_25 rfl ?_
  refine j_if_le (tgt := 106) dX6_runMixed_27 (by decide) (fun c_1 => ?_) (fun c_1 => ?_)
  · have H := H.1 c_1
    exact j_vret dX6_runMixed_106 rfl H
  · have H := H.2 c_1
    refine j_iload_n 3 dX6_runMixed_30 rfl rfl ?_
    refine j_iload 4 dX6_runMixed_31 rfl ?_
    obtain ⟨h_2, H⟩ := H
    refine j_irem dX6_runMixed_33 h_2 ?_
    refine j_istore (lo' := [(5, .int (x3 - x3 / x4 * x4)), (0, .ref (ad 0)), (1, .int x1), (2, .int x2), (3, .int x3), (4, .int x4)]) dX6_runMixed_34 (by decide) rfl ?_
    refine j_iload_n 4 dX6_runMixed_36 rfl rfl ?_
    refine j_iload 5 dX6_runMixed_37 rfl ?_
    obtain ⟨h_3, H⟩ := H
    refine j_idiv dX6_runMixed_39 h_3 ?_
    refine j_istore_n (lo' := [(3, .int (x3 / x4)), (5, .int (x3 - x3 / x4 * x4)), (0, .ref (ad 0)), (1, .int x1), (2, .int x2), (4, .int x4)]) dX6_runMixed_40 rfl (by decide) rfl ?_
    refine j_aload_n 2 dX6_runMixed_41 rfl rfl ?_
    refine j_get 0 fl_X6_44 dX6_runMixed_42 rfl rfl ?_
    refine j_iload 1 dX6_runMixed_45 rfl ?_
    obtain ⟨h_4, H⟩ := H
    refine j_iald 76 dX6_runMixed_47 rfl h_4 ?_
    refine j_istore (lo' := [(6, .int (le (Int32.toNatClampNeg (x3 - x3 / x4 * x4)))), (3, .int (x3 / x4)), (5, .int (x3 - x3 / x4 * x4)), (0, .ref (ad 0)), (1, .int x1), (2, .int x2), (4, .int x4)]) dX6_runMixed_48 (by decide) rfl ?_
    refine j_aload_n 3 dX6_runMixed_50 rfl rfl ?_
    refine j_get 0 fl_X6_44 dX6_runMixed_51 rfl rfl ?_
    refine j_iload 2 dX6_runMixed_54 rfl ?_
    refine j_aload_n 3 dX6_runMixed_56 rfl rfl ?_
    refine j_get 0 fl_X6_44 dX6_runMixed_57 rfl rfl ?_
    refine j_iload 6 dX6_runMixed_60 rfl ?_
    refine j_iconst (v := 1) dX6_runMixed_62 (by decide) ?_
    refine j_isub dX6_runMixed_63 ?_
    obtain ⟨h_5, H⟩ := H
    refine j_iald 76 dX6_runMixed_64 rfl h_5 ?_
    refine j_iast (w' := (rlW G ad 0 pf pn u d g l n fn fd ku kd kg kl kn kfn kfd tu td t wa (upd le (Int32.toNatClampNeg (x3 - x3 / x4 * x4)) (le (Int32.toNatClampNeg (x4 - 1)))) se v)) 76 dX6_runMixed_65 rfl h_4 rfl ?_
    refine j_aload_n 3 dX6_runMixed_66 rfl rfl ?_
    refine j_get 0 fl_X6_29 dX6_runMixed_67 rfl rfl ?_
    refine j_aload_n 3 dX6_runMixed_70 rfl rfl ?_
    refine j_get 0 fl_X6_19 dX6_runMixed_71 rfl rfl ?_
    refine j_get 3 fl_X6_84 dX6_runMixed_74 rfl rfl ?_
    refine j_get 19 fl_X6_142 dX6_runMixed_77 rfl rfl ?_
    refine j_iload 0 dX6_runMixed_80 rfl ?_
    obtain ⟨h_6, H⟩ := H
    refine j_iald 20 dX6_runMixed_82 rfl h_6 ?_
    refine j_aload_n 3 dX6_runMixed_83 rfl rfl ?_
    refine j_get 0 fl_X6_19 dX6_runMixed_84 rfl rfl ?_
    refine j_get 3 fl_X6_84 dX6_runMixed_87 rfl rfl ?_
    refine j_get 19 fl_X6_145 dX6_runMixed_90 rfl rfl ?_
    refine j_iload 0 dX6_runMixed_93 rfl ?_
    refine j_iald 21 dX6_runMixed_95 rfl h_6 ?_
    refine j_callV (q0 := 0) (wc := (stW G (pk ad [59, 60, 61, 62, 63, 64, 65, 66, 67, 68, 69, 70, 71, 72, 73]) 0 tu td)) (As := [.int (g (Int32.toNatClampNeg (le (Int32.toNatClampNeg (x3 - x3 / x4 * x4))))), .int (l (Int32.toNatClampNeg (le (Int32.toNatClampNeg (x3 - x3 / x4 * x4)))))]) (st := []) ml_X4_run vl_X6_136 dX6_runMixed_96 [none, none, none, none, none, none, none, none, none, none, none, none, none, none, none, none, none, none, none, none, none, none, none, none, none, none, none, none, none, none, none, none, none, none, none, none, none, none, none, none, none, none, none, none, none, none, none, none, none, none, none, none, none, none, none, none, none, none, none, some 0, some 1, some 2, some 3, some 4, some 5, some 6, some 7, some 8, some 9, some 10, some 11, some 12, some 13, some 14] ⟨rfl, Nat.le_of_ble_eq_true rfl, rfl, rfl⟩ rfl rfl rfl (Nat.le_of_ble_eq_true rfl) ⟨by decide, by decide⟩ rfl rfl (Nat.le_of_ble_eq_true rfl) (J.mono (fun v_ w_ hp_ => ?_) H)
    obtain ⟨r_9, d_7, u_8, rfl, rfl, H⟩ := hp_
    refine j_w (w' := (rlW G ad 0 pf pn u d g l n fn fd ku kd kg kl kn kfn kfd u_8 d_7 t wa (upd le (Int32.toNatClampNeg (x3 - x3 / x4 * x4)) (le (Int32.toNatClampNeg (x4 - 1)))) se v)) rfl ?_
    refine j_pop dX6_runMixed_99 rfl ?_
    refine j_iinc (v := (x4 + (-1))) (lo' := [(4, .int (x4 + (-1))), (6, .int (le (Int32.toNatClampNeg (x3 - x3 / x4 * x4)))), (3, .int (x3 / x4)), (5, .int (x3 - x3 / x4 * x4)), (0, .ref (ad 0)), (1, .int x1), (2, .int x2)]) 6 dX6_runMixed_100 rfl rfl (by decide) rfl ?_
    refine j_goto (tgt := 25) dX6_runMixed_103 (by decide) ?_
    refine j_lo [4, 5, 6, 2, 0] rfl ?_
    exact H
set_option maxRecDepth 20000 in
theorem sg_X6_noteWord_0 {G : GG} {ad : Nat → Nat} {pf : Nat → Int32} {pn : Int32} {u : Nat → Nat → Int32} {d : Nat → Nat → Int32} {g : Nat → Int32} {l : Nat → Int32} {n : Int32} {fn : Nat → Int32} {fd : Nat → Nat → Int32} {ku : Nat → Nat → Int32} {kd : Nat → Nat → Int32} {kg : Nat → Int32} {kl : Nat → Int32} {kn : Int32} {kfn : Nat → Int32} {kfd : Nat → Nat → Int32} {tu : Nat → Nat → Int32} {td : Nat → Nat → Int32} {t : Nat → Int32} {wa : Nat → Int32} {le : Nat → Int32} {se : Nat → Int32} {v : Nat → Int32} {x1 : Int32} {Q : Option Value → va_W → Prop} (H : ((((((x1 >>> (5 &&& 31)) : Int32) : Int32) < (0 : Int32)) → Q (some (.int 0)) (rlW G ad 0 pf pn u d g l n fn fd ku kd kg kl kn kfn kfd tu td t wa le se v)) ∧ ((¬ (((x1 >>> (5 &&& 31)) : Int32) : Int32) < (0 : Int32)) → ((((977 : Int32) ≤ ((x1 >>> (5 &&& 31)) : Int32)) → Q (some (.int 0)) (rlW G ad 0 pf pn u d g l n fn fd ku kd kg kl kn kfn kfd tu td t wa le se v)) ∧ ((¬ (977 : Int32) ≤ ((x1 >>> (5 &&& 31)) : Int32)) → (vp_in ((x1 >>> (5 &&& 31)) : Int32) 977) ∧ ((((((se (Int32.toNatClampNeg ((x1 >>> (5 &&& 31)) : Int32))) &&& ((1 <<< ((x1 &&& 31) &&& 31)) : Int32)) : Int32) = (0 : Int32)) → Q (some (.int 1)) (rlW G ad 0 pf pn u d g l n fn fd ku kd kg kl kn kfn kfd tu td t wa le (upd se (Int32.toNatClampNeg ((x1 >>> (5 &&& 31)) : Int32)) ((se (Int32.toNatClampNeg ((x1 >>> (5 &&& 31)) : Int32))) ||| ((1 <<< ((x1 &&& 31) &&& 31)) : Int32))) v)) ∧ ((¬ (((se (Int32.toNatClampNeg ((x1 >>> (5 &&& 31)) : Int32))) &&& ((1 <<< ((x1 &&& 31) &&& 31)) : Int32)) : Int32) = (0 : Int32)) → Q (some (.int 0)) (rlW G ad 0 pf pn u d g l n fn fd ku kd kg kl kn kfn kfd tu td t wa le se v)))))))) : J G mX6_noteWord 0 [(0, .ref (ad 0)), (1, .int x1)] [] (rlW G ad 0 pf pn u d g l n fn fd ku kd kg kl kn kfn kfd tu td t wa le se v) Q := by
  refine j_iload_n 1 dX6_noteWord_0 rfl rfl ?_
  refine j_iconst (v := 5) dX6_noteWord_1 (by decide) ?_
  refine j_ishr dX6_noteWord_2 ?_
  refine j_istore_n (lo' := [(2, .int ((x1 >>> (5 &&& 31)) : Int32)), (0, .ref (ad 0)), (1, .int x1)]) dX6_noteWord_3 rfl (by decide) rfl ?_
  refine j_iconst (v := 1) dX6_noteWord_4 (by decide) ?_
  refine j_iload_n 2 dX6_noteWord_5 rfl rfl ?_
  refine j_bipush (v := 31) dX6_noteWord_6 (by decide) ?_
  refine j_iand dX6_noteWord_8 ?_
  refine j_ishl dX6_noteWord_9 ?_
  refine j_istore_n (lo' := [(3, .int ((1 <<< ((x1 &&& 31) &&& 31)) : Int32)), (2, .int ((x1 >>> (5 &&& 31)) : Int32)), (0, .ref (ad 0)), (1, .int x1)]) dX6_noteWord_10 rfl (by decide) rfl ?_
  refine j_iload_n 1 dX6_noteWord_11 rfl rfl ?_
  refine j_if_lt (tgt := 33) dX6_noteWord_12 (by decide) (fun c_1 => ?_) (fun c_1 => ?_)
  · have H := H.1 c_1
    refine j_iconst (v := 0) dX6_noteWord_33 (by decide) ?_
    exact j_zret dX6_noteWord_34 rfl (by decide) H
  · have H := H.2 c_1
    refine j_iload_n 1 dX6_noteWord_15 rfl rfl ?_
    refine j_sipush (v := 977) dX6_noteWord_16 (by decide) ?_
    refine j_icmp_ge (tgt := 33) dX6_noteWord_19 (by decide) (fun c_2 => ?_) (fun c_2 => ?_)
    · have H := H.1 c_2
      refine j_iconst (v := 0) dX6_noteWord_33 (by decide) ?_
      exact j_zret dX6_noteWord_34 rfl (by decide) H
    · have H := H.2 c_2
      refine j_aload_n 2 dX6_noteWord_22 rfl rfl ?_
      refine j_get 0 fl_X6_47 dX6_noteWord_23 rfl rfl ?_
      refine j_iload_n 1 dX6_noteWord_26 rfl rfl ?_
      obtain ⟨h_3, H⟩ := H
      refine j_iald 77 dX6_noteWord_27 rfl h_3 ?_
      refine j_iload_n 0 dX6_noteWord_28 rfl rfl ?_
      refine j_iand dX6_noteWord_29 ?_
      refine j_if_eq (tgt := 35) dX6_noteWord_30 (by decide) (fun c_4 => ?_) (fun c_4 => ?_)
      · have H := H.1 c_4
        refine j_aload_n 2 dX6_noteWord_35 rfl rfl ?_
        refine j_get 0 fl_X6_47 dX6_noteWord_36 rfl rfl ?_
        refine j_iload_n 1 dX6_noteWord_39 rfl rfl ?_
        refine j_dup2 dX6_noteWord_40 rfl rfl ?_
        refine j_iald 77 dX6_noteWord_41 rfl h_3 ?_
        refine j_iload_n 0 dX6_noteWord_42 rfl rfl ?_
        refine j_ior dX6_noteWord_43 ?_
        refine j_iast (w' := (rlW G ad 0 pf pn u d g l n fn fd ku kd kg kl kn kfn kfd tu td t wa le (upd se (Int32.toNatClampNeg ((x1 >>> (5 &&& 31)) : Int32)) ((se (Int32.toNatClampNeg ((x1 >>> (5 &&& 31)) : Int32))) ||| ((1 <<< ((x1 &&& 31) &&& 31)) : Int32))) v)) 77 dX6_noteWord_44 rfl h_3 rfl ?_
        refine j_iconst (v := 1) dX6_noteWord_45 (by decide) ?_
        exact j_zret dX6_noteWord_46 rfl (by decide) H
      · have H := H.2 c_4
        refine j_iconst (v := 0) dX6_noteWord_33 (by decide) ?_
        exact j_zret dX6_noteWord_34 rfl (by decide) H
set_option maxRecDepth 20000 in
theorem sg_X6_countWords_0 {G : GG} {ad : Nat → Nat} {pf : Nat → Int32} {pn : Int32} {u : Nat → Nat → Int32} {d : Nat → Nat → Int32} {g : Nat → Int32} {l : Nat → Int32} {n : Int32} {fn : Nat → Int32} {fd : Nat → Nat → Int32} {ku : Nat → Nat → Int32} {kd : Nat → Nat → Int32} {kg : Nat → Int32} {kl : Nat → Int32} {kn : Int32} {kfn : Nat → Int32} {kfd : Nat → Nat → Int32} {tu : Nat → Nat → Int32} {td : Nat → Nat → Int32} {t : Nat → Int32} {wa : Nat → Int32} {le : Nat → Int32} {se : Nat → Int32} {v : Nat → Int32} {x1 : Int32} {Q : Option Value → va_W → Prop} (H : J G mX6_countWords 21 [(0, .ref (ad 0)), (1, .int x1), (2, .int (if 6 < n then 6 else n)), (3, .int 1), (4, .int 2)] [] (rlW G ad 0 pf pn u d g l n fn fd ku kd kg kl kn kfn kfd tu td t wa le se v) Q) : J G mX6_countWords 0 [(0, .ref (ad 0)), (1, .int x1)] [] (rlW G ad 0 pf pn u d g l n fn fd ku kd kg kl kn kfn kfd tu td t wa le se v) Q := by
  refine j_aload_n 0 dX6_countWords_0 rfl rfl ?_
  refine j_get 0 fl_X6_19 dX6_countWords_1 rfl rfl ?_
  refine j_get 3 fl_X6_84 dX6_countWords_4 rfl rfl ?_
  refine j_get 19 fl_X6_88 dX6_countWords_7 rfl rfl ?_
  refine j_bipush (v := 6) dX6_countWords_10 (by decide) ?_
  refine j_mmin mm_X6_264 mmin_w dX6_countWords_12 (by decide) (Nat.le_of_ble_eq_true rfl) ?_
  refine j_istore_n (lo' := [(2, .int (if 6 < n then 6 else n)), (0, .ref (ad 0)), (1, .int x1)]) dX6_countWords_15 rfl (by decide) rfl ?_
  refine j_iconst (v := 1) dX6_countWords_16 (by decide) ?_
  refine j_istore_n (lo' := [(3, .int 1), (2, .int (if 6 < n then 6 else n)), (0, .ref (ad 0)), (1, .int x1)]) dX6_countWords_17 rfl (by decide) rfl ?_
  refine j_iconst (v := 2) dX6_countWords_18 (by decide) ?_
  refine j_istore (lo' := [(4, .int 2), (3, .int 1), (2, .int (if 6 < n then 6 else n)), (0, .ref (ad 0)), (1, .int x1)]) dX6_countWords_19 (by decide) rfl ?_
  refine j_lo [3, 4, 2, 1, 0] rfl ?_
  exact H
set_option maxRecDepth 20000 in
theorem sg_X6_countWords_21 {G : GG} {ad : Nat → Nat} {pf : Nat → Int32} {pn : Int32} {u : Nat → Nat → Int32} {d : Nat → Nat → Int32} {g : Nat → Int32} {l : Nat → Int32} {n : Int32} {fn : Nat → Int32} {fd : Nat → Nat → Int32} {ku : Nat → Nat → Int32} {kd : Nat → Nat → Int32} {kg : Nat → Int32} {kl : Nat → Int32} {kn : Int32} {kfn : Nat → Int32} {kfd : Nat → Nat → Int32} {tu : Nat → Nat → Int32} {td : Nat → Nat → Int32} {t : Nat → Int32} {wa : Nat → Int32} {le : Nat → Int32} {se : Nat → Int32} {v : Nat → Int32} {x1 : Int32} {x2 : Int32} {x3 : Int32} {x4 : Int32} {Q : Option Value → va_W → Prop} (H : (((x2 < x4) → J G mJ7_fill_53178 0 [(0, .ref ((pk ad [77]) 0)), (1, .int 0)] [] (arW G (pk ad [77]) 0 977 se) (fun v_ w_ => ∃ (f_2 : Nat → Int32), v_ = none ∧ w_ = (arW G (pk ad [77]) 0 977 f_2) ∧ J G mX4_layLike 0 [(0, .ref ((pk ad [59, 60, 61, 62, 63, 64, 65, 66, 67, 68, 69, 70, 71, 72, 73, 4, 5, 6, 7, 8, 9, 10, 11, 12, 13, 14, 15, 16, 17, 18]) 0)), (1, .ref ((pk ad [59, 60, 61, 62, 63, 64, 65, 66, 67, 68, 69, 70, 71, 72, 73, 4, 5, 6, 7, 8, 9, 10, 11, 12, 13, 14, 15, 16, 17, 18]) 15))] [] (stW G (pk ad [59, 60, 61, 62, 63, 64, 65, 66, 67, 68, 69, 70, 71, 72, 73, 4, 5, 6, 7, 8, 9, 10, 11, 12, 13, 14, 15, 16, 17, 18]) 0 tu td ++ (stW G (pk ad [59, 60, 61, 62, 63, 64, 65, 66, 67, 68, 69, 70, 71, 72, 73, 4, 5, 6, 7, 8, 9, 10, 11, 12, 13, 14, 15, 16, 17, 18]) 15 u d)) (fun v_ w_ => ∃ (u_3 : Nat → Nat → Int32), v_ = none ∧ w_ = (stW G (pk ad [59, 60, 61, 62, 63, 64, 65, 66, 67, 68, 69, 70, 71, 72, 73, 4, 5, 6, 7, 8, 9, 10, 11, 12, 13, 14, 15, 16, 17, 18]) 0 u_3 td ++ (stW G (pk ad [59, 60, 61, 62, 63, 64, 65, 66, 67, 68, 69, 70, 71, 72, 73, 4, 5, 6, 7, 8, 9, 10, 11, 12, 13, 14, 15, 16, 17, 18]) 15 u d)) ∧ J G mX6_countWords 66 [(0, .ref (ad 0)), (1, .int x1), (2, .int x2), (3, .int x3), (4, .int 0), (5, .int 0)] [] (rlW G ad 0 pf pn u d g l n fn fd ku kd kg kl kn kfn kfd u_3 td t wa le f_2 v) Q))) ∧ ((¬ x2 < x4) → J G mX6_countWords 21 [(0, .ref (ad 0)), (1, .int x1), (2, .int x2), (3, .int (x3 * x4)), (4, .int (x4 + 1))] [] (rlW G ad 0 pf pn u d g l n fn fd ku kd kg kl kn kfn kfd tu td t wa le se v) Q))) : J G mX6_countWords 21 [(0, .ref (ad 0)), (1, .int x1), (2, .int x2), (3, .int x3), (4, .int x4)] [] (rlW G ad 0 pf pn u d g l n fn fd ku kd kg kl kn kfn kfd tu td t wa le se v) Q := by
  refine j_iload 4 dX6_countWords_21 rfl ?_
  refine j_iload_n 2 dX6_countWords_23 rfl rfl ?_
  refine j_icmp_gt (tgt := 38) dX6_countWords_24 (by decide) (fun c_1 => ?_) (fun c_1 => ?_)
  · have H := H.1 c_1
    refine j_aload_n 0 dX6_countWords_38 rfl rfl ?_
    refine j_get 0 fl_X6_47 dX6_countWords_39 rfl rfl ?_
    refine j_iconst (v := 0) dX6_countWords_42 (by decide) ?_
    refine j_callS (wc := (arW G (pk ad [77]) 0 977 se)) (As := [.ref ((pk ad [77]) 0), .int 0]) (st := []) ml_J7_fill_53178 sl_X6_269 dX6_countWords_43 [none, none, none, none, none, none, none, none, none, none, none, none, none, none, none, none, none, none, none, none, none, none, none, none, none, none, none, none, none, none, none, none, none, none, none, none, none, none, none, none, none, none, none, none, none, none, none, none, none, none, none, none, none, none, none, none, none, none, none, none, none, none, none, none, none, none, none, none, none, none, none, none, none, none, none, none, none, some 0] ⟨rfl, Nat.le_of_ble_eq_true rfl, rfl, rfl⟩ (Nat.le_of_ble_eq_true rfl) ⟨by decide, by decide⟩ rfl rfl (Nat.le_of_ble_eq_true rfl) (J.mono (fun v_ w_ hp_ => ?_) H)
    obtain ⟨f_2, rfl, rfl, H⟩ := hp_
    refine j_w (w' := (rlW G ad 0 pf pn u d g l n fn fd ku kd kg kl kn kfn kfd tu td t wa le f_2 v)) rfl ?_
    refine j_aload_n 0 dX6_countWords_46 rfl rfl ?_
    refine j_get 0 fl_X6_29 dX6_countWords_47 rfl rfl ?_
    refine j_aload_n 0 dX6_countWords_50 rfl rfl ?_
    refine j_get 0 fl_X6_19 dX6_countWords_51 rfl rfl ?_
    refine j_get 3 fl_X6_65 dX6_countWords_54 rfl rfl ?_
    refine j_callV (q0 := 0) (wc := (stW G (pk ad [59, 60, 61, 62, 63, 64, 65, 66, 67, 68, 69, 70, 71, 72, 73, 4, 5, 6, 7, 8, 9, 10, 11, 12, 13, 14, 15, 16, 17, 18]) 0 tu td ++ (stW G (pk ad [59, 60, 61, 62, 63, 64, 65, 66, 67, 68, 69, 70, 71, 72, 73, 4, 5, 6, 7, 8, 9, 10, 11, 12, 13, 14, 15, 16, 17, 18]) 15 u d))) (As := [.ref ((pk ad [59, 60, 61, 62, 63, 64, 65, 66, 67, 68, 69, 70, 71, 72, 73, 4, 5, 6, 7, 8, 9, 10, 11, 12, 13, 14, 15, 16, 17, 18]) 15)]) (st := []) ml_X4_layLike vl_X6_170 dX6_countWords_57 [none, none, none, none, some 15, some 16, some 17, some 18, some 19, some 20, some 21, some 22, some 23, some 24, some 25, some 26, some 27, some 28, some 29, none, none, none, none, none, none, none, none, none, none, none, none, none, none, none, none, none, none, none, none, none, none, none, none, none, none, none, none, none, none, none, none, none, none, none, none, none, none, none, none, some 0, some 1, some 2, some 3, some 4, some 5, some 6, some 7, some 8, some 9, some 10, some 11, some 12, some 13, some 14] ⟨rfl, Nat.le_of_ble_eq_true rfl, rfl, rfl⟩ rfl rfl rfl (Nat.le_of_ble_eq_true rfl) ⟨by decide, by decide⟩ rfl rfl (Nat.le_of_ble_eq_true rfl) (J.mono (fun v_ w_ hp_ => ?_) H)
    obtain ⟨u_3, rfl, rfl, H⟩ := hp_
    refine j_w (w' := (rlW G ad 0 pf pn u d g l n fn fd ku kd kg kl kn kfn kfd u_3 td t wa le f_2 v)) rfl ?_
    refine j_iconst (v := 0) dX6_countWords_60 (by decide) ?_
    refine j_istore (lo' := [(4, .int 0), (0, .ref (ad 0)), (1, .int x1), (2, .int x2), (3, .int x3)]) dX6_countWords_61 (by decide) rfl ?_
    refine j_iconst (v := 0) dX6_countWords_63 (by decide) ?_
    refine j_istore (lo' := [(5, .int 0), (4, .int 0), (0, .ref (ad 0)), (1, .int x1), (2, .int x2), (3, .int x3)]) dX6_countWords_64 (by decide) rfl ?_
    refine j_lo [2, 3, 4, 5, 1, 0] rfl ?_
    exact H
  · have H := H.2 c_1
    refine j_iload_n 3 dX6_countWords_27 rfl rfl ?_
    refine j_iload 4 dX6_countWords_28 rfl ?_
    refine j_imul dX6_countWords_30 ?_
    refine j_istore_n (lo' := [(3, .int (x3 * x4)), (0, .ref (ad 0)), (1, .int x1), (2, .int x2), (4, .int x4)]) dX6_countWords_31 rfl (by decide) rfl ?_
    refine j_iinc (v := (x4 + 1)) (lo' := [(4, .int (x4 + 1)), (3, .int (x3 * x4)), (0, .ref (ad 0)), (1, .int x1), (2, .int x2)]) 4 dX6_countWords_32 rfl rfl (by decide) rfl ?_
    refine j_goto (tgt := 21) dX6_countWords_35 (by decide) ?_
    refine j_lo [2, 3, 4, 1, 0] rfl ?_
    exact H
set_option maxRecDepth 20000 in
theorem sg_X6_countWords_66 {G : GG} {ad : Nat → Nat} {pf : Nat → Int32} {pn : Int32} {u : Nat → Nat → Int32} {d : Nat → Nat → Int32} {g : Nat → Int32} {l : Nat → Int32} {n : Int32} {fn : Nat → Int32} {fd : Nat → Nat → Int32} {ku : Nat → Nat → Int32} {kd : Nat → Nat → Int32} {kg : Nat → Int32} {kl : Nat → Int32} {kn : Int32} {kfn : Nat → Int32} {kfd : Nat → Nat → Int32} {tu : Nat → Nat → Int32} {td : Nat → Nat → Int32} {t : Nat → Int32} {wa : Nat → Int32} {le : Nat → Int32} {se : Nat → Int32} {v : Nat → Int32} {x1 : Int32} {x2 : Int32} {x3 : Int32} {x4 : Int32} {x5 : Int32} {Q : Option Value → va_W → Prop} (H : (((x3 ≤ x5) → Q (some (.int x4)) (rlW G ad 0 pf pn u d g l n fn fd ku kd kg kl kn kfn kfd tu td t wa le se v)) ∧ ((¬ x3 ≤ x5) → J G mX4_clear 0 [(0, .ref ((pk ad [59, 60, 61, 62, 63, 64, 65, 66, 67, 68, 69, 70, 71, 72, 73]) 0))] [] (stW G (pk ad [59, 60, 61, 62, 63, 64, 65, 66, 67, 68, 69, 70, 71, 72, 73]) 0 tu td) (fun v_ w_ => ∃ (u_2 : Nat → Nat → Int32), v_ = none ∧ w_ = (stW G (pk ad [59, 60, 61, 62, 63, 64, 65, 66, 67, 68, 69, 70, 71, 72, 73]) 0 u_2 td) ∧ J G mX6_runMixed 0 [(0, .ref (ad 0)), (1, .int x5), (2, .int x2)] [] (rlW G ad 0 pf pn u d g l n fn fd ku kd kg kl kn kfn kfd u_2 td t wa le se v) (fun v_ w_ => ∃ (le_3 : Nat → Int32) (td_4 : Nat → Nat → Int32) (tu_5 : Nat → Nat → Int32), v_ = none ∧ w_ = (rlW G ad 0 pf pn u d g l n fn fd ku kd kg kl kn kfn kfd tu_5 td_4 t wa le_3 se v) ∧ J G mX4_wordCode 0 [(0, .ref ((pk ad [59, 60, 61, 62, 63, 64, 65, 66, 67, 68, 69, 70, 71, 72, 73]) 0)), (1, .int x1)] [] (stW G (pk ad [59, 60, 61, 62, 63, 64, 65, 66, 67, 68, 69, 70, 71, 72, 73]) 0 tu_5 td_4) (fun v_ w_ => ∃ (r_6 : Int32), v_ = some (.int r_6) ∧ w_ = (stW G (pk ad [59, 60, 61, 62, 63, 64, 65, 66, 67, 68, 69, 70, 71, 72, 73]) 0 tu_5 td_4) ∧ J G mX6_noteWord 0 [(0, .ref (ad 0)), (1, .int r_6)] [] (rlW G ad 0 pf pn u d g l n fn fd ku kd kg kl kn kfn kfd tu_5 td_4 t wa le_3 se v) (fun v_ w_ => ∃ (r_8 : Int32) (se_7 : Nat → Int32), v_ = some (.int r_8) ∧ w_ = (rlW G ad 0 pf pn u d g l n fn fd ku kd kg kl kn kfn kfd tu_5 td_4 t wa le_3 se_7 v) ∧ (((r_8 = 0) → J G mX6_countWords 66 [(0, .ref (ad 0)), (1, .int x1), (2, .int x2), (3, .int x3), (4, .int x4), (5, .int (x5 + 1))] [] (rlW G ad 0 pf pn u d g l n fn fd ku kd kg kl kn kfn kfd tu_5 td_4 t wa le_3 se_7 v) Q) ∧ ((¬ r_8 = 0) → J G mX6_countWords 66 [(0, .ref (ad 0)), (1, .int x1), (2, .int x2), (3, .int x3), (4, .int (x4 + 1)), (5, .int (x5 + 1))] [] (rlW G ad 0 pf pn u d g l n fn fd ku kd kg kl kn kfn kfd tu_5 td_4 t wa le_3 se_7 v) Q))))))))) : J G mX6_countWords 66 [(0, .ref (ad 0)), (1, .int x1), (2, .int x2), (3, .int x3), (4, .int x4), (5, .int x5)] [] (rlW G ad 0 pf pn u d g l n fn fd ku kd kg kl kn kfn kfd tu td t wa le se v) Q := by
  refine j_iload 5 dX6_countWords_66 rfl ?_
  refine j_iload_n 3 dX6_countWords_68 rfl rfl ?_
  refine j_icmp_ge (tgt := 110) dX6_countWords_69 (by decide) (fun c_1 => ?_) (fun c_1 => ?_)
  · have H := H.1 c_1
    refine j_iload 4 dX6_countWords_110 rfl ?_
    exact j_iret dX6_countWords_112 rfl H
  · have H := H.2 c_1
    refine j_aload_n 0 dX6_countWords_72 rfl rfl ?_
    refine j_get 0 fl_X6_29 dX6_countWords_73 rfl rfl ?_
    refine j_callV (q0 := 0) (wc := (stW G (pk ad [59, 60, 61, 62, 63, 64, 65, 66, 67, 68, 69, 70, 71, 72, 73]) 0 tu td)) (As := []) (st := []) ml_X4_clear vl_X6_81 dX6_countWords_76 [none, none, none, none, none, none, none, none, none, none, none, none, none, none, none, none, none, none, none, none, none, none, none, none, none, none, none, none, none, none, none, none, none, none, none, none, none, none, none, none, none, none, none, none, none, none, none, none, none, none, none, none, none, none, none, none, none, none, none, some 0, some 1, some 2, some 3, some 4, some 5, some 6, some 7, some 8, some 9, some 10, some 11, some 12, some 13, some 14] ⟨rfl, Nat.le_of_ble_eq_true rfl, rfl, rfl⟩ rfl rfl rfl (Nat.le_of_ble_eq_true rfl) ⟨by decide, by decide⟩ rfl rfl (Nat.le_of_ble_eq_true rfl) (J.mono (fun v_ w_ hp_ => ?_) H)
    obtain ⟨u_2, rfl, rfl, H⟩ := hp_
    refine j_w (w' := (rlW G ad 0 pf pn u d g l n fn fd ku kd kg kl kn kfn kfd u_2 td t wa le se v)) rfl ?_
    refine j_aload_n 0 dX6_countWords_79 rfl rfl ?_
    refine j_iload 5 dX6_countWords_80 rfl ?_
    refine j_iload_n 2 dX6_countWords_82 rfl rfl ?_
    refine j_callV0 (q0 := 0) (As := [.int x5, .int x2]) (st := []) ml_X6_runMixed vl_X6_275 dX6_countWords_83 rfl rfl rfl (Nat.le_of_ble_eq_true rfl) ⟨by decide, by decide⟩ rfl rfl (Nat.le_of_ble_eq_true rfl) (J.mono (fun v_ w_ hp_ => ?_) H)
    obtain ⟨le_3, td_4, tu_5, rfl, rfl, H⟩ := hp_
    refine j_aload_n 0 dX6_countWords_86 rfl rfl ?_
    refine j_aload_n 0 dX6_countWords_87 rfl rfl ?_
    refine j_get 0 fl_X6_29 dX6_countWords_88 rfl rfl ?_
    refine j_iload_n 1 dX6_countWords_91 rfl rfl ?_
    refine j_callV (q0 := 0) (wc := (stW G (pk ad [59, 60, 61, 62, 63, 64, 65, 66, 67, 68, 69, 70, 71, 72, 73]) 0 tu_5 td_4)) (As := [.int x1]) (st := [.ref (ad 0)]) ml_X4_wordCode vl_X6_278 dX6_countWords_92 [none, none, none, none, none, none, none, none, none, none, none, none, none, none, none, none, none, none, none, none, none, none, none, none, none, none, none, none, none, none, none, none, none, none, none, none, none, none, none, none, none, none, none, none, none, none, none, none, none, none, none, none, none, none, none, none, none, none, none, some 0, some 1, some 2, some 3, some 4, some 5, some 6, some 7, some 8, some 9, some 10, some 11, some 12, some 13, some 14] ⟨rfl, Nat.le_of_ble_eq_true rfl, rfl, rfl⟩ rfl rfl rfl (Nat.le_of_ble_eq_true rfl) ⟨by decide, by decide⟩ rfl rfl (Nat.le_of_ble_eq_true rfl) (J.mono (fun v_ w_ hp_ => ?_) H)
    obtain ⟨r_6, rfl, rfl, H⟩ := hp_
    refine j_w (w' := (rlW G ad 0 pf pn u d g l n fn fd ku kd kg kl kn kfn kfd tu_5 td_4 t wa le_3 se v)) rfl ?_
    refine j_callV0 (q0 := 0) (As := [.int r_6]) (st := []) ml_X6_noteWord vl_X6_281 dX6_countWords_95 rfl rfl rfl (Nat.le_of_ble_eq_true rfl) ⟨by decide, by decide⟩ rfl rfl (Nat.le_of_ble_eq_true rfl) (J.mono (fun v_ w_ hp_ => ?_) H)
    obtain ⟨r_8, se_7, rfl, rfl, H⟩ := hp_
    refine j_if_eq (tgt := 104) dX6_countWords_98 (by decide) (fun c_9 => ?_) (fun c_9 => ?_)
    · have H := H.1 c_9
      refine j_iinc (v := (x5 + 1)) (lo' := [(5, .int (x5 + 1)), (0, .ref (ad 0)), (1, .int x1), (2, .int x2), (3, .int x3), (4, .int x4)]) 5 dX6_countWords_104 rfl rfl (by decide) rfl ?_
      refine j_goto (tgt := 66) dX6_countWords_107 (by decide) ?_
      refine j_lo [1, 2, 3, 4, 5, 0] rfl ?_
      exact H
    · have H := H.2 c_9
      refine j_iinc (v := (x4 + 1)) (lo' := [(4, .int (x4 + 1)), (0, .ref (ad 0)), (1, .int x1), (2, .int x2), (3, .int x3), (5, .int x5)]) 4 dX6_countWords_101 rfl rfl (by decide) rfl ?_
      refine j_iinc (v := (x5 + 1)) (lo' := [(5, .int (x5 + 1)), (4, .int (x4 + 1)), (0, .ref (ad 0)), (1, .int x1), (2, .int x2), (3, .int x3)]) 5 dX6_countWords_104 rfl rfl (by decide) rfl ?_
      refine j_goto (tgt := 66) dX6_countWords_107 (by decide) ?_
      refine j_lo [2, 3, 4, 5, 1, 0] rfl ?_
      exact H
set_option maxRecDepth 20000 in
theorem sg_X6_mix_0 {G : GG} {ad : Nat → Nat} {x0 : Int64} {x2 : Int64} {Q : Option Value → va_W → Prop} (H : Q (some (.long ((31 * x0) + x2))) ([] : va_W)) : J G mX6_mix 0 [(0, .long x0), (2, .long x2)] [] ([] : va_W) Q := by
  refine j_ldc2 cl_X6_238 dX6_mix_0 ?_
  refine j_lload_n 0 dX6_mix_3 rfl rfl ?_
  refine j_lmul dX6_mix_4 ?_
  refine j_lload_n 1 dX6_mix_5 rfl rfl ?_
  refine j_ladd dX6_mix_6 ?_
  exact j_lret dX6_mix_7 rfl H
set_option maxRecDepth 20000 in
theorem sg_X6_word_0 {G : GG} {ad : Nat → Nat} {pf : Nat → Int32} {pn : Int32} {u : Nat → Nat → Int32} {d : Nat → Nat → Int32} {g : Nat → Int32} {l : Nat → Int32} {n : Int32} {fn : Nat → Int32} {fd : Nat → Nat → Int32} {ku : Nat → Nat → Int32} {kd : Nat → Nat → Int32} {kg : Nat → Int32} {kl : Nat → Int32} {kn : Int32} {kfn : Nat → Int32} {kfd : Nat → Nat → Int32} {tu : Nat → Nat → Int32} {td : Nat → Nat → Int32} {t : Nat → Int32} {wa : Nat → Int32} {le : Nat → Int32} {se : Nat → Int32} {v : Nat → Int32} {x1 : Int32} {x2 : Int32} {Q : Option Value → va_W → Prop} (H : J G mX6_isGutter 0 [(0, .ref (ad 0)), (1, .int x1)] [] (rlW G ad 0 pf pn u d g l n fn fd ku kd kg kl kn kfn kfd tu td t wa le se v) (fun v_ w_ => ∃ (r_1 : Int32), v_ = some (.int r_1) ∧ w_ = (rlW G ad 0 pf pn u d g l n fn fd ku kd kg kl kn kfn kfd tu td t wa le se v) ∧ (((r_1 = 0) → Q (some (.int (-101))) (rlW G ad 0 pf pn u d g l n fn fd ku kd kg kl kn kfn kfd tu td t wa le se v)) ∧ ((¬ r_1 = 0) → (((x2 < 0) → Q (some (.int (-101))) (rlW G ad 0 pf pn u d g l n fn fd ku kd kg kl kn kfn kfd tu td t wa le se v)) ∧ ((¬ x2 < 0) → (vp_in x1 6) ∧ (((x2 < ((u 6) (Int32.toNatClampNeg x1))) → (vp_in x2 12) ∧ Q (some (.int ((d (Int32.toNatClampNeg x1)) (Int32.toNatClampNeg x2)))) (rlW G ad 0 pf pn u d g l n fn fd ku kd kg kl kn kfn kfd tu td t wa le se v)) ∧ ((¬ x2 < ((u 6) (Int32.toNatClampNeg x1))) → Q (some (.int (-101))) (rlW G ad 0 pf pn u d g l n fn fd ku kd kg kl kn kfn kfd tu td t wa le se v))))))))) : J G mX6_word 0 [(0, .ref (ad 0)), (1, .int x1), (2, .int x2)] [] (rlW G ad 0 pf pn u d g l n fn fd ku kd kg kl kn kfn kfd tu td t wa le se v) Q := by
  refine j_aload_n 0 dX6_word_0 rfl rfl ?_
  refine j_iload_n 1 dX6_word_1 rfl rfl ?_
  refine j_callV0 (q0 := 0) (As := [.int x1]) (st := []) ml_X6_isGutter vl_X6_109 dX6_word_2 rfl rfl rfl (Nat.le_of_ble_eq_true rfl) ⟨by decide, by decide⟩ rfl rfl (Nat.le_of_ble_eq_true rfl) (J.mono (fun v_ w_ hp_ => ?_) H)
  obtain ⟨r_1, rfl, rfl, H⟩ := hp_
  refine j_if_eq (tgt := 28) dX6_word_5 (by decide) (fun c_2 => ?_) (fun c_2 => ?_)
  · have H := H.1 c_2
    refine j_bipush (v := (-101)) dX6_word_28 (by decide) ?_
    exact j_iret dX6_word_30 rfl H
  · have H := H.2 c_2
    refine j_iload_n 2 dX6_word_8 rfl rfl ?_
    refine j_if_lt (tgt := 28) dX6_word_9 (by decide) (fun c_3 => ?_) (fun c_3 => ?_)
    · have H := H.1 c_3
      refine j_bipush (v := (-101)) dX6_word_28 (by decide) ?_
      exact j_iret dX6_word_30 rfl H
    · have H := H.2 c_3
      refine j_iload_n 2 dX6_word_12 rfl rfl ?_
      refine j_aload_n 0 dX6_word_13 rfl rfl ?_
      refine j_get 0 fl_X6_19 dX6_word_14 rfl rfl ?_
      refine j_get 3 fl_X6_65 dX6_word_17 rfl rfl ?_
      refine j_get 4 fl_X6_119 dX6_word_20 rfl rfl ?_
      refine j_iload_n 1 dX6_word_23 rfl rfl ?_
      obtain ⟨h_4, H⟩ := H
      refine j_iald 11 dX6_word_24 rfl h_4 ?_
      refine j_icmp_lt (tgt := 31) dX6_word_25 (by decide) (fun c_5 => ?_) (fun c_5 => ?_)
      · have H := H.1 c_5
        refine j_aload_n 0 dX6_word_31 rfl rfl ?_
        refine j_get 0 fl_X6_19 dX6_word_32 rfl rfl ?_
        refine j_get 3 fl_X6_65 dX6_word_35 rfl rfl ?_
        refine j_get 4 fl_X6_125 dX6_word_38 rfl rfl ?_
        refine j_iload_n 1 dX6_word_41 rfl rfl ?_
        refine j_aald 12 dX6_word_42 rfl h_4 (ow_rf h_4) ?_
        refine j_iload_n 2 dX6_word_43 rfl rfl ?_
        obtain ⟨h_6, H⟩ := H
        refine j_iald (13 + (Int32.toNatClampNeg x1)) dX6_word_44 (row6 (P := fun k_ => (rlW G ad 0 pf pn u d g l n fn fd ku kd kg kl kn kfn kfd tu td t wa le se v)[13 + k_]? = some (ad (13 + k_), .inl (G.2.1.1, 12, .inl (d k_)))) rfl rfl rfl rfl rfl rfl (in_lt h_4)) h_6 ?_
        exact j_iret dX6_word_45 rfl H
      · have H := H.2 c_5
        refine j_bipush (v := (-101)) dX6_word_28 (by decide) ?_
        exact j_iret dX6_word_30 rfl H
set_option maxRecDepth 20000 in
theorem sg_X6_kindOf_0 {G : GG} {ad : Nat → Nat} {pf : Nat → Int32} {pn : Int32} {u : Nat → Nat → Int32} {d : Nat → Nat → Int32} {g : Nat → Int32} {l : Nat → Int32} {n : Int32} {fn : Nat → Int32} {fd : Nat → Nat → Int32} {ku : Nat → Nat → Int32} {kd : Nat → Nat → Int32} {kg : Nat → Int32} {kl : Nat → Int32} {kn : Int32} {kfn : Nat → Int32} {kfd : Nat → Nat → Int32} {tu : Nat → Nat → Int32} {td : Nat → Nat → Int32} {t : Nat → Int32} {wa : Nat → Int32} {le : Nat → Int32} {se : Nat → Int32} {v : Nat → Int32} {x1 : Int32} {Q : Option Value → va_W → Prop} (H : J G mX6_isGutter 0 [(0, .ref (ad 0)), (1, .int x1)] [] (rlW G ad 0 pf pn u d g l n fn fd ku kd kg kl kn kfn kfd tu td t wa le se v) (fun v_ w_ => ∃ (r_1 : Int32), v_ = some (.int r_1) ∧ w_ = (rlW G ad 0 pf pn u d g l n fn fd ku kd kg kl kn kfn kfd tu td t wa le se v) ∧ (((¬ r_1 = 0) → J G mX6_kindOf 15 [(0, .ref (ad 0)), (1, .int x1), (2, .int 0), (3, .int 0)] [] (rlW G ad 0 pf pn u d g l n fn fd ku kd kg kl kn kfn kfd tu td t wa le se v) Q) ∧ ((r_1 = 0) → Q (some (.int (-101))) (rlW G ad 0 pf pn u d g l n fn fd ku kd kg kl kn kfn kfd tu td t wa le se v))))) : J G mX6_kindOf 0 [(0, .ref (ad 0)), (1, .int x1)] [] (rlW G ad 0 pf pn u d g l n fn fd ku kd kg kl kn kfn kfd tu td t wa le se v) Q := by
  refine j_aload_n 0 dX6_kindOf_0 rfl rfl ?_
  refine j_iload_n 1 dX6_kindOf_1 rfl rfl ?_
  refine j_callV0 (q0 := 0) (As := [.int x1]) (st := []) ml_X6_isGutter vl_X6_109 dX6_kindOf_2 rfl rfl rfl (Nat.le_of_ble_eq_true rfl) ⟨by decide, by decide⟩ rfl rfl (Nat.le_of_ble_eq_true rfl) (J.mono (fun v_ w_ hp_ => ?_) H)
  obtain ⟨r_1, rfl, rfl, H⟩ := hp_
  refine j_if_ne (tgt := 11) dX6_kindOf_5 (by decide) (fun c_2 => ?_) (fun c_2 => ?_)
  · have H := H.1 c_2
    refine j_iconst (v := 0) dX6_kindOf_11 (by decide) ?_
    refine j_istore_n (lo' := [(2, .int 0), (0, .ref (ad 0)), (1, .int x1)]) dX6_kindOf_12 rfl (by decide) rfl ?_
    refine j_iconst (v := 0) dX6_kindOf_13 (by decide) ?_
    refine j_istore_n (lo' := [(3, .int 0), (2, .int 0), (0, .ref (ad 0)), (1, .int x1)]) dX6_kindOf_14 rfl (by decide) rfl ?_
    refine j_lo [2, 3, 1, 0] rfl ?_
    exact H
  · have H := H.2 c_2
    refine j_bipush (v := (-101)) dX6_kindOf_8 (by decide) ?_
    exact j_iret dX6_kindOf_10 rfl H
set_option maxRecDepth 20000 in
theorem sg_X6_kindOf_15 {G : GG} {ad : Nat → Nat} {pf : Nat → Int32} {pn : Int32} {u : Nat → Nat → Int32} {d : Nat → Nat → Int32} {g : Nat → Int32} {l : Nat → Int32} {n : Int32} {fn : Nat → Int32} {fd : Nat → Nat → Int32} {ku : Nat → Nat → Int32} {kd : Nat → Nat → Int32} {kg : Nat → Int32} {kl : Nat → Int32} {kn : Int32} {kfn : Nat → Int32} {kfd : Nat → Nat → Int32} {tu : Nat → Nat → Int32} {td : Nat → Nat → Int32} {t : Nat → Int32} {wa : Nat → Int32} {le : Nat → Int32} {se : Nat → Int32} {v : Nat → Int32} {x1 : Int32} {x2 : Int32} {x3 : Int32} {Q : Option Value → va_W → Prop} (H : (((5 ≤ x3) → Q (some (.int x2)) (rlW G ad 0 pf pn u d g l n fn fd ku kd kg kl kn kfn kfd tu td t wa le se v)) ∧ ((¬ 5 ≤ x3) → J G mX4_layLike 0 [(0, .ref ((pk ad [59, 60, 61, 62, 63, 64, 65, 66, 67, 68, 69, 70, 71, 72, 73, 4, 5, 6, 7, 8, 9, 10, 11, 12, 13, 14, 15, 16, 17, 18]) 0)), (1, .ref ((pk ad [59, 60, 61, 62, 63, 64, 65, 66, 67, 68, 69, 70, 71, 72, 73, 4, 5, 6, 7, 8, 9, 10, 11, 12, 13, 14, 15, 16, 17, 18]) 15))] [] (stW G (pk ad [59, 60, 61, 62, 63, 64, 65, 66, 67, 68, 69, 70, 71, 72, 73, 4, 5, 6, 7, 8, 9, 10, 11, 12, 13, 14, 15, 16, 17, 18]) 0 tu td ++ (stW G (pk ad [59, 60, 61, 62, 63, 64, 65, 66, 67, 68, 69, 70, 71, 72, 73, 4, 5, 6, 7, 8, 9, 10, 11, 12, 13, 14, 15, 16, 17, 18]) 15 u d)) (fun v_ w_ => ∃ (u_2 : Nat → Nat → Int32), v_ = none ∧ w_ = (stW G (pk ad [59, 60, 61, 62, 63, 64, 65, 66, 67, 68, 69, 70, 71, 72, 73, 4, 5, 6, 7, 8, 9, 10, 11, 12, 13, 14, 15, 16, 17, 18]) 0 u_2 td ++ (stW G (pk ad [59, 60, 61, 62, 63, 64, 65, 66, 67, 68, 69, 70, 71, 72, 73, 4, 5, 6, 7, 8, 9, 10, 11, 12, 13, 14, 15, 16, 17, 18]) 15 u d)) ∧ (vp_in x1 6) ∧ J G mX4_runAll 0 [(0, .ref ((pk ad [59, 60, 61, 62, 63, 64, 65, 66, 67, 68, 69, 70, 71, 72, 73, 19, 20, 21]) 0)), (1, .ref ((pk ad [59, 60, 61, 62, 63, 64, 65, 66, 67, 68, 69, 70, 71, 72, 73, 19, 20, 21]) 15)), (2, .int (-1)), (3, .int 0)] [] (stW G (pk ad [59, 60, 61, 62, 63, 64, 65, 66, 67, 68, 69, 70, 71, 72, 73, 19, 20, 21]) 0 (va_up u_2 0 (upd (u_2 0) (Int32.toNatClampNeg x1) x3)) td ++ (faW G (pk ad [59, 60, 61, 62, 63, 64, 65, 66, 67, 68, 69, 70, 71, 72, 73, 19, 20, 21]) 15 g l n)) (fun v_ w_ => ∃ (d_4 : Nat → Nat → Int32) (u_5 : Nat → Nat → Int32), v_ = none ∧ w_ = (stW G (pk ad [59, 60, 61, 62, 63, 64, 65, 66, 67, 68, 69, 70, 71, 72, 73, 19, 20, 21]) 0 u_5 d_4 ++ (faW G (pk ad [59, 60, 61, 62, 63, 64, 65, 66, 67, 68, 69, 70, 71, 72, 73, 19, 20, 21]) 15 g l n)) ∧ J G mX1_fit 0 [(0, .ref ((pk ad [22, 23, 24, 25, 26, 27, 28, 29, 30, 59, 60, 61, 62, 63, 64, 65, 66, 67, 68, 69, 70, 71, 72, 73]) 0)), (1, .ref ((pk ad [22, 23, 24, 25, 26, 27, 28, 29, 30, 59, 60, 61, 62, 63, 64, 65, 66, 67, 68, 69, 70, 71, 72, 73]) 9))] [] (fiW G (pk ad [22, 23, 24, 25, 26, 27, 28, 29, 30, 59, 60, 61, 62, 63, 64, 65, 66, 67, 68, 69, 70, 71, 72, 73]) 0 fn fd ++ (stW G (pk ad [22, 23, 24, 25, 26, 27, 28, 29, 30, 59, 60, 61, 62, 63, 64, 65, 66, 67, 68, 69, 70, 71, 72, 73]) 9 u_5 d_4)) (fun v_ w_ => ∃ (r_6 : Int32), v_ = some (.int r_6) ∧ w_ = (fiW G (pk ad [22, 23, 24, 25, 26, 27, 28, 29, 30, 59, 60, 61, 62, 63, 64, 65, 66, 67, 68, 69, 70, 71, 72, 73]) 0 fn fd ++ (stW G (pk ad [22, 23, 24, 25, 26, 27, 28, 29, 30, 59, 60, 61, 62, 63, 64, 65, 66, 67, 68, 69, 70, 71, 72, 73]) 9 u_5 d_4)) ∧ (((r_6 = 0) → J G mX6_kindOf 15 [(0, .ref (ad 0)), (1, .int x1), (2, .int x2), (3, .int (x3 + 1))] [] (rlW G ad 0 pf pn u d g l n fn fd ku kd kg kl kn kfn kfd u_5 d_4 t wa le se v) Q) ∧ ((¬ r_6 = 0) → J G mX6_kindOf 15 [(0, .ref (ad 0)), (1, .int x1), (2, .int (x2 ||| ((1 <<< (x3 &&& 31)) : Int32))), (3, .int (x3 + 1))] [] (rlW G ad 0 pf pn u d g l n fn fd ku kd kg kl kn kfn kfd u_5 d_4 t wa le se v) Q)))))))) : J G mX6_kindOf 15 [(0, .ref (ad 0)), (1, .int x1), (2, .int x2), (3, .int x3)] [] (rlW G ad 0 pf pn u d g l n fn fd ku kd kg kl kn kfn kfd tu td t wa le se v) Q := by
  refine j_iload_n 3 dX6_kindOf_15 rfl rfl ?_
  refine j_iconst (v := 5) dX6_kindOf_16 (by decide) ?_
  refine j_icmp_ge (tgt := 89) dX6_kindOf_17 (by decide) (fun c_1 => ?_) (fun c_1 => ?_)
  · have H := H.1 c_1
    refine j_iload_n 2 dX6_kindOf_89 rfl rfl ?_
    exact j_iret dX6_kindOf_90 rfl H
  · have H := H.2 c_1
    refine j_aload_n 0 dX6_kindOf_20 rfl rfl ?_
    refine j_get 0 fl_X6_29 dX6_kindOf_21 rfl rfl ?_
    refine j_aload_n 0 dX6_kindOf_24 rfl rfl ?_
    refine j_get 0 fl_X6_19 dX6_kindOf_25 rfl rfl ?_
    refine j_get 3 fl_X6_65 dX6_kindOf_28 rfl rfl ?_
    refine j_callV (q0 := 0) (wc := (stW G (pk ad [59, 60, 61, 62, 63, 64, 65, 66, 67, 68, 69, 70, 71, 72, 73, 4, 5, 6, 7, 8, 9, 10, 11, 12, 13, 14, 15, 16, 17, 18]) 0 tu td ++ (stW G (pk ad [59, 60, 61, 62, 63, 64, 65, 66, 67, 68, 69, 70, 71, 72, 73, 4, 5, 6, 7, 8, 9, 10, 11, 12, 13, 14, 15, 16, 17, 18]) 15 u d))) (As := [.ref ((pk ad [59, 60, 61, 62, 63, 64, 65, 66, 67, 68, 69, 70, 71, 72, 73, 4, 5, 6, 7, 8, 9, 10, 11, 12, 13, 14, 15, 16, 17, 18]) 15)]) (st := []) ml_X4_layLike vl_X6_170 dX6_kindOf_31 [none, none, none, none, some 15, some 16, some 17, some 18, some 19, some 20, some 21, some 22, some 23, some 24, some 25, some 26, some 27, some 28, some 29, none, none, none, none, none, none, none, none, none, none, none, none, none, none, none, none, none, none, none, none, none, none, none, none, none, none, none, none, none, none, none, none, none, none, none, none, none, none, none, none, some 0, some 1, some 2, some 3, some 4, some 5, some 6, some 7, some 8, some 9, some 10, some 11, some 12, some 13, some 14] ⟨rfl, Nat.le_of_ble_eq_true rfl, rfl, rfl⟩ rfl rfl rfl (Nat.le_of_ble_eq_true rfl) ⟨by decide, by decide⟩ rfl rfl (Nat.le_of_ble_eq_true rfl) (J.mono (fun v_ w_ hp_ => ?_) H)
    obtain ⟨u_2, rfl, rfl, H⟩ := hp_
    refine j_w (w' := (rlW G ad 0 pf pn u d g l n fn fd ku kd kg kl kn kfn kfd u_2 td t wa le se v)) rfl ?_
    refine j_aload_n 0 dX6_kindOf_34 rfl rfl ?_
    refine j_get 0 fl_X6_29 dX6_kindOf_35 rfl rfl ?_
    refine j_get 59 fl_X6_68 dX6_kindOf_38 rfl rfl ?_
    refine j_iload_n 1 dX6_kindOf_41 rfl rfl ?_
    refine j_iload_n 3 dX6_kindOf_42 rfl rfl ?_
    obtain ⟨h_3, H⟩ := H
    refine j_iast (w' := (rlW G ad 0 pf pn u d g l n fn fd ku kd kg kl kn kfn kfd (va_up u_2 0 (upd (u_2 0) (Int32.toNatClampNeg x1) x3)) td t wa le se v)) 60 dX6_kindOf_43 rfl h_3 rfl ?_
    refine j_aload_n 0 dX6_kindOf_44 rfl rfl ?_
    refine j_get 0 fl_X6_29 dX6_kindOf_45 rfl rfl ?_
    refine j_aload_n 0 dX6_kindOf_48 rfl rfl ?_
    refine j_get 0 fl_X6_19 dX6_kindOf_49 rfl rfl ?_
    refine j_get 3 fl_X6_84 dX6_kindOf_52 rfl rfl ?_
    refine j_iconst (v := (-1)) dX6_kindOf_55 (by decide) ?_
    refine j_iconst (v := 0) dX6_kindOf_56 (by decide) ?_
    refine j_callV (q0 := 0) (wc := (stW G (pk ad [59, 60, 61, 62, 63, 64, 65, 66, 67, 68, 69, 70, 71, 72, 73, 19, 20, 21]) 0 (va_up u_2 0 (upd (u_2 0) (Int32.toNatClampNeg x1) x3)) td ++ (faW G (pk ad [59, 60, 61, 62, 63, 64, 65, 66, 67, 68, 69, 70, 71, 72, 73, 19, 20, 21]) 15 g l n))) (As := [.ref ((pk ad [59, 60, 61, 62, 63, 64, 65, 66, 67, 68, 69, 70, 71, 72, 73, 19, 20, 21]) 15), .int (-1), .int 0]) (st := []) ml_X4_runAll vl_X6_174 dX6_kindOf_57 [none, none, none, none, none, none, none, none, none, none, none, none, none, none, none, none, none, none, none, some 15, some 16, some 17, none, none, none, none, none, none, none, none, none, none, none, none, none, none, none, none, none, none, none, none, none, none, none, none, none, none, none, none, none, none, none, none, none, none, none, none, none, some 0, some 1, some 2, some 3, some 4, some 5, some 6, some 7, some 8, some 9, some 10, some 11, some 12, some 13, some 14] ⟨rfl, Nat.le_of_ble_eq_true rfl, rfl, rfl⟩ rfl rfl rfl (Nat.le_of_ble_eq_true rfl) ⟨by decide, by decide⟩ rfl rfl (Nat.le_of_ble_eq_true rfl) (J.mono (fun v_ w_ hp_ => ?_) H)
    obtain ⟨d_4, u_5, rfl, rfl, H⟩ := hp_
    refine j_w (w' := (rlW G ad 0 pf pn u d g l n fn fd ku kd kg kl kn kfn kfd u_5 d_4 t wa le se v)) rfl ?_
    refine j_aload_n 0 dX6_kindOf_60 rfl rfl ?_
    refine j_get 0 fl_X6_19 dX6_kindOf_61 rfl rfl ?_
    refine j_get 3 fl_X6_91 dX6_kindOf_64 rfl rfl ?_
    refine j_aload_n 0 dX6_kindOf_67 rfl rfl ?_
    refine j_get 0 fl_X6_29 dX6_kindOf_68 rfl rfl ?_
    refine j_callV (q0 := 0) (wc := (fiW G (pk ad [22, 23, 24, 25, 26, 27, 28, 29, 30, 59, 60, 61, 62, 63, 64, 65, 66, 67, 68, 69, 70, 71, 72, 73]) 0 fn fd ++ (stW G (pk ad [22, 23, 24, 25, 26, 27, 28, 29, 30, 59, 60, 61, 62, 63, 64, 65, 66, 67, 68, 69, 70, 71, 72, 73]) 9 u_5 d_4))) (As := [.ref ((pk ad [22, 23, 24, 25, 26, 27, 28, 29, 30, 59, 60, 61, 62, 63, 64, 65, 66, 67, 68, 69, 70, 71, 72, 73]) 9)]) (st := []) ml_X1_fit vl_X6_190 dX6_kindOf_71 [none, none, none, none, none, none, none, none, none, none, none, none, none, none, none, none, none, none, none, none, none, none, some 0, some 1, some 2, some 3, some 4, some 5, some 6, some 7, some 8, none, none, none, none, none, none, none, none, none, none, none, none, none, none, none, none, none, none, none, none, none, none, none, none, none, none, none, none, some 9, some 10, some 11, some 12, some 13, some 14, some 15, some 16, some 17, some 18, some 19, some 20, some 21, some 22, some 23] ⟨rfl, Nat.le_of_ble_eq_true rfl, rfl, rfl⟩ rfl rfl rfl (Nat.le_of_ble_eq_true rfl) ⟨by decide, by decide⟩ rfl rfl (Nat.le_of_ble_eq_true rfl) (J.mono (fun v_ w_ hp_ => ?_) H)
    obtain ⟨r_6, rfl, rfl, H⟩ := hp_
    refine j_w (w' := (rlW G ad 0 pf pn u d g l n fn fd ku kd kg kl kn kfn kfd u_5 d_4 t wa le se v)) rfl ?_
    refine j_if_eq (tgt := 83) dX6_kindOf_74 (by decide) (fun c_7 => ?_) (fun c_7 => ?_)
    · have H := H.1 c_7
      refine j_iinc (v := (x3 + 1)) (lo' := [(3, .int (x3 + 1)), (0, .ref (ad 0)), (1, .int x1), (2, .int x2)]) 3 dX6_kindOf_83 rfl rfl (by decide) rfl ?_
      refine j_goto (tgt := 15) dX6_kindOf_86 (by decide) ?_
      refine j_lo [1, 2, 3, 0] rfl ?_
      exact H
    · have H := H.2 c_7
      refine j_iload_n 2 dX6_kindOf_77 rfl rfl ?_
      refine j_iconst (v := 1) dX6_kindOf_78 (by decide) ?_
      refine j_iload_n 3 dX6_kindOf_79 rfl rfl ?_
      refine j_ishl dX6_kindOf_80 ?_
      refine j_ior dX6_kindOf_81 ?_
      refine j_istore_n (lo' := [(2, .int (x2 ||| ((1 <<< (x3 &&& 31)) : Int32))), (0, .ref (ad 0)), (1, .int x1), (3, .int x3)]) dX6_kindOf_82 rfl (by decide) rfl ?_
      refine j_iinc (v := (x3 + 1)) (lo' := [(3, .int (x3 + 1)), (2, .int (x2 ||| ((1 <<< (x3 &&& 31)) : Int32))), (0, .ref (ad 0)), (1, .int x1)]) 3 dX6_kindOf_83 rfl rfl (by decide) rfl ?_
      refine j_goto (tgt := 15) dX6_kindOf_86 (by decide) ?_
      refine j_lo [2, 3, 1, 0] rfl ?_
      exact H
set_option maxRecDepth 20000 in
theorem sg_X6_mixGutters_0 {G : GG} {ad : Nat → Nat} {pf : Nat → Int32} {pn : Int32} {u : Nat → Nat → Int32} {d : Nat → Nat → Int32} {g : Nat → Int32} {l : Nat → Int32} {n : Int32} {fn : Nat → Int32} {fd : Nat → Nat → Int32} {ku : Nat → Nat → Int32} {kd : Nat → Nat → Int32} {kg : Nat → Int32} {kl : Nat → Int32} {kn : Int32} {kfn : Nat → Int32} {kfd : Nat → Nat → Int32} {tu : Nat → Nat → Int32} {td : Nat → Nat → Int32} {t : Nat → Int32} {wa : Nat → Int32} {le : Nat → Int32} {se : Nat → Int32} {v : Nat → Int32} {x1 : Int64} {Q : Option Value → va_W → Prop} (H : J G mX6_mixGutters 5 [(0, .ref (ad 0)), (1, .long x1), (3, .long x1), (5, .int 0)] [] (rlW G ad 0 pf pn u d g l n fn fd ku kd kg kl kn kfn kfd tu td t wa le se v) Q) : J G mX6_mixGutters 0 [(0, .ref (ad 0)), (1, .long x1)] [] (rlW G ad 0 pf pn u d g l n fn fd ku kd kg kl kn kfn kfd tu td t wa le se v) Q := by
  refine j_lload_n 1 dX6_mixGutters_0 rfl rfl ?_
  refine j_lstore_n (lo' := [(3, .long x1), (0, .ref (ad 0)), (1, .long x1)]) dX6_mixGutters_1 rfl (by decide) rfl ?_
  refine j_iconst (v := 0) dX6_mixGutters_2 (by decide) ?_
  refine j_istore (lo' := [(5, .int 0), (3, .long x1), (0, .ref (ad 0)), (1, .long x1)]) dX6_mixGutters_3 (by decide) rfl ?_
  refine j_lo [2, 3, 1, 0] rfl ?_
  exact H
set_option maxRecDepth 20000 in
theorem sg_X6_mixGutters_5 {G : GG} {ad : Nat → Nat} {pf : Nat → Int32} {pn : Int32} {u : Nat → Nat → Int32} {d : Nat → Nat → Int32} {g : Nat → Int32} {l : Nat → Int32} {n : Int32} {fn : Nat → Int32} {fd : Nat → Nat → Int32} {ku : Nat → Nat → Int32} {kd : Nat → Nat → Int32} {kg : Nat → Int32} {kl : Nat → Int32} {kn : Int32} {kfn : Nat → Int32} {kfd : Nat → Nat → Int32} {tu : Nat → Nat → Int32} {td : Nat → Nat → Int32} {t : Nat → Int32} {wa : Nat → Int32} {le : Nat → Int32} {se : Nat → Int32} {v : Nat → Int32} {x1 : Int64} {x3 : Int64} {x5 : Int32} {Q : Option Value → va_W → Prop} (H : (((6 ≤ x5) → Q (some (.long x3)) (rlW G ad 0 pf pn u d g l n fn fd ku kd kg kl kn kfn kfd tu td t wa le se v)) ∧ ((¬ 6 ≤ x5) → J G mX6_mixGutters 15 [(0, .ref (ad 0)), (1, .long x1), (3, .long x3), (5, .int x5), (6, .int 0)] [] (rlW G ad 0 pf pn u d g l n fn fd ku kd kg kl kn kfn kfd tu td t wa le se v) Q))) : J G mX6_mixGutters 5 [(0, .ref (ad 0)), (1, .long x1), (3, .long x3), (5, .int x5)] [] (rlW G ad 0 pf pn u d g l n fn fd ku kd kg kl kn kfn kfd tu td t wa le se v) Q := by
  refine j_iload 3 dX6_mixGutters_5 rfl ?_
  refine j_bipush (v := 6) dX6_mixGutters_7 (by decide) ?_
  refine j_icmp_ge (tgt := 101) dX6_mixGutters_9 (by decide) (fun c_1 => ?_) (fun c_1 => ?_)
  · have H := H.1 c_1
    refine j_lload_n 2 dX6_mixGutters_101 rfl rfl ?_
    exact j_lret dX6_mixGutters_102 rfl H
  · have H := H.2 c_1
    refine j_iconst (v := 0) dX6_mixGutters_12 (by decide) ?_
    refine j_istore (lo' := [(6, .int 0), (0, .ref (ad 0)), (1, .long x1), (3, .long x3), (5, .int x5)]) dX6_mixGutters_13 (by decide) rfl ?_
    refine j_lo [1, 2, 3, 4, 0] rfl ?_
    exact H
set_option maxRecDepth 20000 in
theorem sg_X6_mixGutters_15 {G : GG} {ad : Nat → Nat} {pf : Nat → Int32} {pn : Int32} {u : Nat → Nat → Int32} {d : Nat → Nat → Int32} {g : Nat → Int32} {l : Nat → Int32} {n : Int32} {fn : Nat → Int32} {fd : Nat → Nat → Int32} {ku : Nat → Nat → Int32} {kd : Nat → Nat → Int32} {kg : Nat → Int32} {kl : Nat → Int32} {kn : Int32} {kfn : Nat → Int32} {kfd : Nat → Nat → Int32} {tu : Nat → Nat → Int32} {td : Nat → Nat → Int32} {t : Nat → Int32} {wa : Nat → Int32} {le : Nat → Int32} {se : Nat → Int32} {v : Nat → Int32} {x1 : Int64} {x3 : Int64} {x5 : Int32} {x6 : Int32} {Q : Option Value → va_W → Prop} (H : (((6 ≤ x6) → J G mX6_mixGutters 45 [(0, .ref (ad 0)), (1, .long x1), (3, .long x3), (5, .int x5), (6, .int 0)] [] (rlW G ad 0 pf pn u d g l n fn fd ku kd kg kl kn kfn kfd tu td t wa le se v) Q) ∧ ((¬ 6 ≤ x6) → J G mX6_about 0 [(0, .ref (ad 0)), (1, .int x5), (2, .int x6)] [] (rlW G ad 0 pf pn u d g l n fn fd ku kd kg kl kn kfn kfd tu td t wa le se v) (fun v_ w_ => ∃ (r_2 : Int32), v_ = some (.int r_2) ∧ w_ = (rlW G ad 0 pf pn u d g l n fn fd ku kd kg kl kn kfn kfd tu td t wa le se v) ∧ J G mX6_mix 0 [(0, .long x3), (2, .long (Int32.toInt64 r_2))] [] ([] : va_W) (fun v_ w_ => ∃ (r_3 : Int64), v_ = some (.long r_3) ∧ w_ = ([] : va_W) ∧ J G mX6_mixGutters 15 [(0, .ref (ad 0)), (1, .long x1), (3, .long r_3), (5, .int x5), (6, .int (x6 + 1))] [] (rlW G ad 0 pf pn u d g l n fn fd ku kd kg kl kn kfn kfd tu td t wa le se v) Q))))) : J G mX6_mixGutters 15 [(0, .ref (ad 0)), (1, .long x1), (3, .long x3), (5, .int x5), (6, .int x6)] [] (rlW G ad 0 pf pn u d g l n fn fd ku kd kg kl kn kfn kfd tu td t wa le se v) Q := by
  refine j_iload 4 dX6_mixGutters_15 rfl ?_
  refine j_bipush (v := 6) dX6_mixGutters_17 (by decide) ?_
  refine j_icmp_ge (tgt := 42) dX6_mixGutters_19 (by decide) (fun c_1 => ?_) (fun c_1 => ?_)
  · have H := H.1 c_1
    refine j_iconst (v := 0) dX6_mixGutters_42 (by decide) ?_
    refine j_istore (lo' := [(6, .int 0), (0, .ref (ad 0)), (1, .long x1), (3, .long x3), (5, .int x5)]) dX6_mixGutters_43 (by decide) rfl ?_
    refine j_lo [1, 2, 3, 4, 0] rfl ?_
    exact H
  · have H := H.2 c_1
    refine j_lload_n 2 dX6_mixGutters_22 rfl rfl ?_
    refine j_aload_n 0 dX6_mixGutters_23 rfl rfl ?_
    refine j_iload 3 dX6_mixGutters_24 rfl ?_
    refine j_iload 4 dX6_mixGutters_26 rfl ?_
    refine j_callV0 (q0 := 0) (As := [.int x5, .int x6]) (st := [.long x3]) ml_X6_about vl_X6_223 dX6_mixGutters_28 rfl rfl rfl (Nat.le_of_ble_eq_true rfl) ⟨by decide, by decide⟩ rfl rfl (Nat.le_of_ble_eq_true rfl) (J.mono (fun v_ w_ hp_ => ?_) H)
    obtain ⟨r_2, rfl, rfl, H⟩ := hp_
    refine j_i2l dX6_mixGutters_31 ?_
    refine j_callS0 (As := [.long x3, .long (Int32.toInt64 r_2)]) (st := []) ml_X6_mix sl_X6_216 dX6_mixGutters_32 (Nat.le_of_ble_eq_true rfl) ⟨by decide, by decide⟩ rfl rfl (Nat.le_of_ble_eq_true rfl) (J.mono (fun v_ w_ hp_ => ?_) H)
    obtain ⟨r_3, rfl, rfl, H⟩ := hp_
    refine j_lstore_n (lo' := [(3, .long r_3), (0, .ref (ad 0)), (1, .long x1), (5, .int x5), (6, .int x6)]) dX6_mixGutters_35 rfl (by decide) rfl ?_
    refine j_iinc (v := (x6 + 1)) (lo' := [(6, .int (x6 + 1)), (3, .long r_3), (0, .ref (ad 0)), (1, .long x1), (5, .int x5)]) 4 dX6_mixGutters_36 rfl rfl (by decide) rfl ?_
    refine j_goto (tgt := 15) dX6_mixGutters_39 (by decide) ?_
    refine j_lo [2, 3, 1, 4, 0] rfl ?_
    exact H
set_option maxRecDepth 20000 in
theorem sg_X6_mixGutters_45 {G : GG} {ad : Nat → Nat} {pf : Nat → Int32} {pn : Int32} {u : Nat → Nat → Int32} {d : Nat → Nat → Int32} {g : Nat → Int32} {l : Nat → Int32} {n : Int32} {fn : Nat → Int32} {fd : Nat → Nat → Int32} {ku : Nat → Nat → Int32} {kd : Nat → Nat → Int32} {kg : Nat → Int32} {kl : Nat → Int32} {kn : Int32} {kfn : Nat → Int32} {kfd : Nat → Nat → Int32} {tu : Nat → Nat → Int32} {td : Nat → Nat → Int32} {t : Nat → Int32} {wa : Nat → Int32} {le : Nat → Int32} {se : Nat → Int32} {v : Nat → Int32} {x1 : Int64} {x3 : Int64} {x5 : Int32} {x6 : Int32} {Q : Option Value → va_W → Prop} (H : (vp_in x5 6) ∧ (((((u 6) (Int32.toNatClampNeg x5)) ≤ x6) → J G mX6_kindOf 0 [(0, .ref (ad 0)), (1, .int x5)] [] (rlW G ad 0 pf pn u d g l n fn fd ku kd kg kl kn kfn kfd tu td t wa le se v) (fun v_ w_ => ∃ (r_5 : Int32) (td_3 : Nat → Nat → Int32) (tu_4 : Nat → Nat → Int32), v_ = some (.int r_5) ∧ w_ = (rlW G ad 0 pf pn u d g l n fn fd ku kd kg kl kn kfn kfd tu_4 td_3 t wa le se v) ∧ J G mX6_mix 0 [(0, .long x3), (2, .long (Int32.toInt64 r_5))] [] ([] : va_W) (fun v_ w_ => ∃ (r_6 : Int64), v_ = some (.long r_6) ∧ w_ = ([] : va_W) ∧ J G mX6_mixGutters 5 [(0, .ref (ad 0)), (1, .long x1), (3, .long r_6), (5, .int (x5 + 1))] [] (rlW G ad 0 pf pn u d g l n fn fd ku kd kg kl kn kfn kfd tu_4 td_3 t wa le se v) Q))) ∧ ((¬ ((u 6) (Int32.toNatClampNeg x5)) ≤ x6) → J G mX6_word 0 [(0, .ref (ad 0)), (1, .int x5), (2, .int x6)] [] (rlW G ad 0 pf pn u d g l n fn fd ku kd kg kl kn kfn kfd tu td t wa le se v) (fun v_ w_ => ∃ (r_7 : Int32), v_ = some (.int r_7) ∧ w_ = (rlW G ad 0 pf pn u d g l n fn fd ku kd kg kl kn kfn kfd tu td t wa le se v) ∧ J G mX6_mix 0 [(0, .long x3), (2, .long (Int32.toInt64 r_7))] [] ([] : va_W) (fun v_ w_ => ∃ (r_8 : Int64), v_ = some (.long r_8) ∧ w_ = ([] : va_W) ∧ J G mX6_mixGutters 45 [(0, .ref (ad 0)), (1, .long x1), (3, .long r_8), (5, .int x5), (6, .int (x6 + 1))] [] (rlW G ad 0 pf pn u d g l n fn fd ku kd kg kl kn kfn kfd tu td t wa le se v) Q))))) : J G mX6_mixGutters 45 [(0, .ref (ad 0)), (1, .long x1), (3, .long x3), (5, .int x5), (6, .int x6)] [] (rlW G ad 0 pf pn u d g l n fn fd ku kd kg kl kn kfn kfd tu td t wa le se v) Q := by
  refine j_iload 4 dX6_mixGutters_45 rfl ?_
  refine j_aload_n 0 dX6_mixGutters_47 rfl rfl ?_
  refine j_get 0 fl_X6_19 dX6_mixGutters_48 rfl rfl ?_
  refine j_get 3 fl_X6_65 dX6_mixGutters_51 rfl rfl ?_
  refine j_get 4 fl_X6_119 dX6_mixGutters_54 rfl rfl ?_
  refine j_iload 3 dX6_mixGutters_57 rfl ?_
  obtain ⟨h_1, H⟩ := H
  refine j_iald 11 dX6_mixGutters_59 rfl h_1 ?_
  refine j_icmp_ge (tgt := 83) dX6_mixGutters_60 (by decide) (fun c_2 => ?_) (fun c_2 => ?_)
  · have H := H.1 c_2
    refine j_lload_n 2 dX6_mixGutters_83 rfl rfl ?_
    refine j_aload_n 0 dX6_mixGutters_84 rfl rfl ?_
    refine j_iload 3 dX6_mixGutters_85 rfl ?_
    refine j_callV0 (q0 := 0) (As := [.int x5]) (st := [.long x3]) ml_X6_kindOf vl_X6_229 dX6_mixGutters_87 rfl rfl rfl (Nat.le_of_ble_eq_true rfl) ⟨by decide, by decide⟩ rfl rfl (Nat.le_of_ble_eq_true rfl) (J.mono (fun v_ w_ hp_ => ?_) H)
    obtain ⟨r_5, td_3, tu_4, rfl, rfl, H⟩ := hp_
    refine j_i2l dX6_mixGutters_90 ?_
    refine j_callS0 (As := [.long x3, .long (Int32.toInt64 r_5)]) (st := []) ml_X6_mix sl_X6_216 dX6_mixGutters_91 (Nat.le_of_ble_eq_true rfl) ⟨by decide, by decide⟩ rfl rfl (Nat.le_of_ble_eq_true rfl) (J.mono (fun v_ w_ hp_ => ?_) H)
    obtain ⟨r_6, rfl, rfl, H⟩ := hp_
    refine j_lstore_n (lo' := [(3, .long r_6), (0, .ref (ad 0)), (1, .long x1), (5, .int x5), (6, .int x6)]) dX6_mixGutters_94 rfl (by decide) rfl ?_
    refine j_iinc (v := (x5 + 1)) (lo' := [(5, .int (x5 + 1)), (3, .long r_6), (0, .ref (ad 0)), (1, .long x1), (6, .int x6)]) 3 dX6_mixGutters_95 rfl rfl (by decide) rfl ?_
    refine j_goto (tgt := 5) dX6_mixGutters_98 (by decide) ?_
    refine j_lo [2, 3, 1, 0] rfl ?_
    exact H
  · have H := H.2 c_2
    refine j_lload_n 2 dX6_mixGutters_63 rfl rfl ?_
    refine j_aload_n 0 dX6_mixGutters_64 rfl rfl ?_
    refine j_iload 3 dX6_mixGutters_65 rfl ?_
    refine j_iload 4 dX6_mixGutters_67 rfl ?_
    refine j_callV0 (q0 := 0) (As := [.int x5, .int x6]) (st := [.long x3]) ml_X6_word vl_X6_226 dX6_mixGutters_69 rfl rfl rfl (Nat.le_of_ble_eq_true rfl) ⟨by decide, by decide⟩ rfl rfl (Nat.le_of_ble_eq_true rfl) (J.mono (fun v_ w_ hp_ => ?_) H)
    obtain ⟨r_7, rfl, rfl, H⟩ := hp_
    refine j_i2l dX6_mixGutters_72 ?_
    refine j_callS0 (As := [.long x3, .long (Int32.toInt64 r_7)]) (st := []) ml_X6_mix sl_X6_216 dX6_mixGutters_73 (Nat.le_of_ble_eq_true rfl) ⟨by decide, by decide⟩ rfl rfl (Nat.le_of_ble_eq_true rfl) (J.mono (fun v_ w_ hp_ => ?_) H)
    obtain ⟨r_8, rfl, rfl, H⟩ := hp_
    refine j_lstore_n (lo' := [(3, .long r_8), (0, .ref (ad 0)), (1, .long x1), (5, .int x5), (6, .int x6)]) dX6_mixGutters_76 rfl (by decide) rfl ?_
    refine j_iinc (v := (x6 + 1)) (lo' := [(6, .int (x6 + 1)), (3, .long r_8), (0, .ref (ad 0)), (1, .long x1), (5, .int x5)]) 4 dX6_mixGutters_77 rfl rfl (by decide) rfl ?_
    refine j_goto (tgt := 45) dX6_mixGutters_80 (by decide) ?_
    refine j_lo [2, 3, 1, 4, 0] rfl ?_
    exact H
set_option maxRecDepth 20000 in
theorem sg_X6_isDrop_0 {G : GG} {ad : Nat → Nat} {pf : Nat → Int32} {pn : Int32} {u : Nat → Nat → Int32} {d : Nat → Nat → Int32} {g : Nat → Int32} {l : Nat → Int32} {n : Int32} {fn : Nat → Int32} {fd : Nat → Nat → Int32} {ku : Nat → Nat → Int32} {kd : Nat → Nat → Int32} {kg : Nat → Int32} {kl : Nat → Int32} {kn : Int32} {kfn : Nat → Int32} {kfd : Nat → Nat → Int32} {tu : Nat → Nat → Int32} {td : Nat → Nat → Int32} {t : Nat → Int32} {wa : Nat → Int32} {le : Nat → Int32} {se : Nat → Int32} {v : Nat → Int32} {x1 : Int32} {Q : Option Value → va_W → Prop} (H : (((x1 < 0) → Q (some (.int 0)) (rlW G ad 0 pf pn u d g l n fn fd ku kd kg kl kn kfn kfd tu td t wa le se v)) ∧ ((¬ x1 < 0) → (((n ≤ x1) → Q (some (.int 0)) (rlW G ad 0 pf pn u d g l n fn fd ku kd kg kl kn kfn kfd tu td t wa le se v)) ∧ ((¬ n ≤ x1) → Q (some (.int 1)) (rlW G ad 0 pf pn u d g l n fn fd ku kd kg kl kn kfn kfd tu td t wa le se v)))))) : J G mX6_isDrop 0 [(0, .ref (ad 0)), (1, .int x1)] [] (rlW G ad 0 pf pn u d g l n fn fd ku kd kg kl kn kfn kfd tu td t wa le se v) Q := by
  refine j_iload_n 1 dX6_isDrop_0 rfl rfl ?_
  refine j_if_lt (tgt := 22) dX6_isDrop_1 (by decide) (fun c_1 => ?_) (fun c_1 => ?_)
  · have H := H.1 c_1
    refine j_iconst (v := 0) dX6_isDrop_22 (by decide) ?_
    exact j_zret dX6_isDrop_23 rfl (by decide) H
  · have H := H.2 c_1
    refine j_iload_n 1 dX6_isDrop_4 rfl rfl ?_
    refine j_aload_n 0 dX6_isDrop_5 rfl rfl ?_
    refine j_get 0 fl_X6_19 dX6_isDrop_6 rfl rfl ?_
    refine j_get 3 fl_X6_84 dX6_isDrop_9 rfl rfl ?_
    refine j_get 19 fl_X6_88 dX6_isDrop_12 rfl rfl ?_
    refine j_icmp_ge (tgt := 22) dX6_isDrop_15 (by decide) (fun c_2 => ?_) (fun c_2 => ?_)
    · have H := H.1 c_2
      refine j_iconst (v := 0) dX6_isDrop_22 (by decide) ?_
      exact j_zret dX6_isDrop_23 rfl (by decide) H
    · have H := H.2 c_2
      refine j_iconst (v := 1) dX6_isDrop_18 (by decide) ?_
      refine j_goto (tgt := 23) dX6_isDrop_19 (by decide) ?_
      exact j_zret dX6_isDrop_23 rfl (by decide) H
set_option maxRecDepth 20000 in
theorem sg_X6_rain_0 {G : GG} {ad : Nat → Nat} {pf : Nat → Int32} {pn : Int32} {u : Nat → Nat → Int32} {d : Nat → Nat → Int32} {g : Nat → Int32} {l : Nat → Int32} {n : Int32} {fn : Nat → Int32} {fd : Nat → Nat → Int32} {ku : Nat → Nat → Int32} {kd : Nat → Nat → Int32} {kg : Nat → Int32} {kl : Nat → Int32} {kn : Int32} {kfn : Nat → Int32} {kfd : Nat → Nat → Int32} {tu : Nat → Nat → Int32} {td : Nat → Nat → Int32} {t : Nat → Int32} {wa : Nat → Int32} {le : Nat → Int32} {se : Nat → Int32} {v : Nat → Int32} {x1 : Int32} {x2 : Int32} {Q : Option Value → va_W → Prop} (H : J G mX6_isDrop 0 [(0, .ref (ad 0)), (1, .int x1)] [] (rlW G ad 0 pf pn u d g l n fn fd ku kd kg kl kn kfn kfd tu td t wa le se v) (fun v_ w_ => ∃ (r_1 : Int32), v_ = some (.int r_1) ∧ w_ = (rlW G ad 0 pf pn u d g l n fn fd ku kd kg kl kn kfn kfd tu td t wa le se v) ∧ (((¬ r_1 = 0) → (((x2 = 0) → (vp_in x1 12) ∧ Q (some (.int (g (Int32.toNatClampNeg x1)))) (rlW G ad 0 pf pn u d g l n fn fd ku kd kg kl kn kfn kfd tu td t wa le se v)) ∧ ((¬ x2 = 0) → (((x2 = 1) → (vp_in x1 12) ∧ Q (some (.int (l (Int32.toNatClampNeg x1)))) (rlW G ad 0 pf pn u d g l n fn fd ku kd kg kl kn kfn kfd tu td t wa le se v)) ∧ ((¬ x2 = 1) → Q (some (.int (-102))) (rlW G ad 0 pf pn u d g l n fn fd ku kd kg kl kn kfn kfd tu td t wa le se v)))))) ∧ ((r_1 = 0) → Q (some (.int (-101))) (rlW G ad 0 pf pn u d g l n fn fd ku kd kg kl kn kfn kfd tu td t wa le se v))))) : J G mX6_rain 0 [(0, .ref (ad 0)), (1, .int x1), (2, .int x2)] [] (rlW G ad 0 pf pn u d g l n fn fd ku kd kg kl kn kfn kfd tu td t wa le se v) Q := by
  refine j_aload_n 0 dX6_rain_0 rfl rfl ?_
  refine j_iload_n 1 dX6_rain_1 rfl rfl ?_
  refine j_callV0 (q0 := 0) (As := [.int x1]) (st := []) ml_X6_isDrop vl_X6_139 dX6_rain_2 rfl rfl rfl (Nat.le_of_ble_eq_true rfl) ⟨by decide, by decide⟩ rfl rfl (Nat.le_of_ble_eq_true rfl) (J.mono (fun v_ w_ hp_ => ?_) H)
  obtain ⟨r_1, rfl, rfl, H⟩ := hp_
  refine j_if_ne (tgt := 11) dX6_rain_5 (by decide) (fun c_2 => ?_) (fun c_2 => ?_)
  · have H := H.1 c_2
    refine j_iload_n 2 dX6_rain_11 rfl rfl ?_
    refine j_if_eq (tgt := 23) dX6_rain_12 (by decide) (fun c_3 => ?_) (fun c_3 => ?_)
    · have H := H.1 c_3
      refine j_iload_n 2 dX6_rain_23 rfl rfl ?_
      refine j_if_ne (tgt := 42) dX6_rain_24 (by decide) (fun c_4 => absurd c_3 c_4) (fun _ => ?_)
      refine j_aload_n 0 dX6_rain_27 rfl rfl ?_
      refine j_get 0 fl_X6_19 dX6_rain_28 rfl rfl ?_
      refine j_get 3 fl_X6_84 dX6_rain_31 rfl rfl ?_
      refine j_get 19 fl_X6_142 dX6_rain_34 rfl rfl ?_
      refine j_iload_n 1 dX6_rain_37 rfl rfl ?_
      obtain ⟨h_5, H⟩ := H
      refine j_iald 20 dX6_rain_38 rfl h_5 ?_
      refine j_goto (tgt := 54) dX6_rain_39 (by decide) ?_
      exact j_iret dX6_rain_54 rfl H
    · have H := H.2 c_3
      refine j_iload_n 2 dX6_rain_15 rfl rfl ?_
      refine j_iconst (v := 1) dX6_rain_16 (by decide) ?_
      refine j_icmp_eq (tgt := 23) dX6_rain_17 (by decide) (fun c_6 => ?_) (fun c_6 => ?_)
      · have H := H.1 c_6
        refine j_iload_n 2 dX6_rain_23 rfl rfl ?_
        refine j_if_ne (tgt := 42) dX6_rain_24 (by decide) (fun _ => ?_) (fun c_7 => absurd c_7 c_3)
        refine j_aload_n 0 dX6_rain_42 rfl rfl ?_
        refine j_get 0 fl_X6_19 dX6_rain_43 rfl rfl ?_
        refine j_get 3 fl_X6_84 dX6_rain_46 rfl rfl ?_
        refine j_get 19 fl_X6_145 dX6_rain_49 rfl rfl ?_
        refine j_iload_n 1 dX6_rain_52 rfl rfl ?_
        obtain ⟨h_8, H⟩ := H
        refine j_iald 21 dX6_rain_53 rfl h_8 ?_
        exact j_iret dX6_rain_54 rfl H
      · have H := H.2 c_6
        refine j_bipush (v := (-102)) dX6_rain_20 (by decide) ?_
        exact j_iret dX6_rain_22 rfl H
  · have H := H.2 c_2
    refine j_bipush (v := (-101)) dX6_rain_8 (by decide) ?_
    exact j_iret dX6_rain_10 rfl H
set_option maxRecDepth 20000 in
theorem sg_X6_letterOf_0 {G : GG} {ad : Nat → Nat} {pf : Nat → Int32} {pn : Int32} {u : Nat → Nat → Int32} {d : Nat → Nat → Int32} {g : Nat → Int32} {l : Nat → Int32} {n : Int32} {fn : Nat → Int32} {fd : Nat → Nat → Int32} {ku : Nat → Nat → Int32} {kd : Nat → Nat → Int32} {kg : Nat → Int32} {kl : Nat → Int32} {kn : Int32} {kfn : Nat → Int32} {kfd : Nat → Nat → Int32} {tu : Nat → Nat → Int32} {td : Nat → Nat → Int32} {t : Nat → Int32} {wa : Nat → Int32} {le : Nat → Int32} {se : Nat → Int32} {v : Nat → Int32} {x1 : Int32} {Q : Option Value → va_W → Prop} (H : J G mX6_isDrop 0 [(0, .ref (ad 0)), (1, .int x1)] [] (rlW G ad 0 pf pn u d g l n fn fd ku kd kg kl kn kfn kfd tu td t wa le se v) (fun v_ w_ => ∃ (r_1 : Int32), v_ = some (.int r_1) ∧ w_ = (rlW G ad 0 pf pn u d g l n fn fd ku kd kg kl kn kfn kfd tu td t wa le se v) ∧ (((¬ r_1 = 0) → J G mX6_letterOf 15 [(0, .ref (ad 0)), (1, .int x1), (2, .int 0), (3, .int 0)] [] (rlW G ad 0 pf pn u d g l n fn fd ku kd kg kl kn kfn kfd tu td t wa le se v) Q) ∧ ((r_1 = 0) → Q (some (.int (-101))) (rlW G ad 0 pf pn u d g l n fn fd ku kd kg kl kn kfn kfd tu td t wa le se v))))) : J G mX6_letterOf 0 [(0, .ref (ad 0)), (1, .int x1)] [] (rlW G ad 0 pf pn u d g l n fn fd ku kd kg kl kn kfn kfd tu td t wa le se v) Q := by
  refine j_aload_n 0 dX6_letterOf_0 rfl rfl ?_
  refine j_iload_n 1 dX6_letterOf_1 rfl rfl ?_
  refine j_callV0 (q0 := 0) (As := [.int x1]) (st := []) ml_X6_isDrop vl_X6_139 dX6_letterOf_2 rfl rfl rfl (Nat.le_of_ble_eq_true rfl) ⟨by decide, by decide⟩ rfl rfl (Nat.le_of_ble_eq_true rfl) (J.mono (fun v_ w_ hp_ => ?_) H)
  obtain ⟨r_1, rfl, rfl, H⟩ := hp_
  refine j_if_ne (tgt := 11) dX6_letterOf_5 (by decide) (fun c_2 => ?_) (fun c_2 => ?_)
  · have H := H.1 c_2
    refine j_iconst (v := 0) dX6_letterOf_11 (by decide) ?_
    refine j_istore_n (lo' := [(2, .int 0), (0, .ref (ad 0)), (1, .int x1)]) dX6_letterOf_12 rfl (by decide) rfl ?_
    refine j_iconst (v := 0) dX6_letterOf_13 (by decide) ?_
    refine j_istore_n (lo' := [(3, .int 0), (2, .int 0), (0, .ref (ad 0)), (1, .int x1)]) dX6_letterOf_14 rfl (by decide) rfl ?_
    refine j_lo [2, 3, 1, 0] rfl ?_
    exact H
  · have H := H.2 c_2
    refine j_bipush (v := (-101)) dX6_letterOf_8 (by decide) ?_
    exact j_iret dX6_letterOf_10 rfl H
set_option maxRecDepth 20000 in
theorem sg_X6_letterOf_15 {G : GG} {ad : Nat → Nat} {pf : Nat → Int32} {pn : Int32} {u : Nat → Nat → Int32} {d : Nat → Nat → Int32} {g : Nat → Int32} {l : Nat → Int32} {n : Int32} {fn : Nat → Int32} {fd : Nat → Nat → Int32} {ku : Nat → Nat → Int32} {kd : Nat → Nat → Int32} {kg : Nat → Int32} {kl : Nat → Int32} {kn : Int32} {kfn : Nat → Int32} {kfd : Nat → Nat → Int32} {tu : Nat → Nat → Int32} {td : Nat → Nat → Int32} {t : Nat → Int32} {wa : Nat → Int32} {le : Nat → Int32} {se : Nat → Int32} {v : Nat → Int32} {x1 : Int32} {x2 : Int32} {x3 : Int32} {Q : Option Value → va_W → Prop} (H : (((5 ≤ x3) → Q (some (.int x2)) (rlW G ad 0 pf pn u d g l n fn fd ku kd kg kl kn kfn kfd tu td t wa le se v)) ∧ ((¬ 5 ≤ x3) → J G mX4_layLike 0 [(0, .ref ((pk ad [59, 60, 61, 62, 63, 64, 65, 66, 67, 68, 69, 70, 71, 72, 73, 4, 5, 6, 7, 8, 9, 10, 11, 12, 13, 14, 15, 16, 17, 18]) 0)), (1, .ref ((pk ad [59, 60, 61, 62, 63, 64, 65, 66, 67, 68, 69, 70, 71, 72, 73, 4, 5, 6, 7, 8, 9, 10, 11, 12, 13, 14, 15, 16, 17, 18]) 15))] [] (stW G (pk ad [59, 60, 61, 62, 63, 64, 65, 66, 67, 68, 69, 70, 71, 72, 73, 4, 5, 6, 7, 8, 9, 10, 11, 12, 13, 14, 15, 16, 17, 18]) 0 tu td ++ (stW G (pk ad [59, 60, 61, 62, 63, 64, 65, 66, 67, 68, 69, 70, 71, 72, 73, 4, 5, 6, 7, 8, 9, 10, 11, 12, 13, 14, 15, 16, 17, 18]) 15 u d)) (fun v_ w_ => ∃ (u_2 : Nat → Nat → Int32), v_ = none ∧ w_ = (stW G (pk ad [59, 60, 61, 62, 63, 64, 65, 66, 67, 68, 69, 70, 71, 72, 73, 4, 5, 6, 7, 8, 9, 10, 11, 12, 13, 14, 15, 16, 17, 18]) 0 u_2 td ++ (stW G (pk ad [59, 60, 61, 62, 63, 64, 65, 66, 67, 68, 69, 70, 71, 72, 73, 4, 5, 6, 7, 8, 9, 10, 11, 12, 13, 14, 15, 16, 17, 18]) 15 u d)) ∧ J G mX4_runAll 0 [(0, .ref ((pk ad [59, 60, 61, 62, 63, 64, 65, 66, 67, 68, 69, 70, 71, 72, 73, 19, 20, 21]) 0)), (1, .ref ((pk ad [59, 60, 61, 62, 63, 64, 65, 66, 67, 68, 69, 70, 71, 72, 73, 19, 20, 21]) 15)), (2, .int x1), (3, .int x3)] [] (stW G (pk ad [59, 60, 61, 62, 63, 64, 65, 66, 67, 68, 69, 70, 71, 72, 73, 19, 20, 21]) 0 u_2 td ++ (faW G (pk ad [59, 60, 61, 62, 63, 64, 65, 66, 67, 68, 69, 70, 71, 72, 73, 19, 20, 21]) 15 g l n)) (fun v_ w_ => ∃ (d_3 : Nat → Nat → Int32) (u_4 : Nat → Nat → Int32), v_ = none ∧ w_ = (stW G (pk ad [59, 60, 61, 62, 63, 64, 65, 66, 67, 68, 69, 70, 71, 72, 73, 19, 20, 21]) 0 u_4 d_3 ++ (faW G (pk ad [59, 60, 61, 62, 63, 64, 65, 66, 67, 68, 69, 70, 71, 72, 73, 19, 20, 21]) 15 g l n)) ∧ J G mX1_fit 0 [(0, .ref ((pk ad [22, 23, 24, 25, 26, 27, 28, 29, 30, 59, 60, 61, 62, 63, 64, 65, 66, 67, 68, 69, 70, 71, 72, 73]) 0)), (1, .ref ((pk ad [22, 23, 24, 25, 26, 27, 28, 29, 30, 59, 60, 61, 62, 63, 64, 65, 66, 67, 68, 69, 70, 71, 72, 73]) 9))] [] (fiW G (pk ad [22, 23, 24, 25, 26, 27, 28, 29, 30, 59, 60, 61, 62, 63, 64, 65, 66, 67, 68, 69, 70, 71, 72, 73]) 0 fn fd ++ (stW G (pk ad [22, 23, 24, 25, 26, 27, 28, 29, 30, 59, 60, 61, 62, 63, 64, 65, 66, 67, 68, 69, 70, 71, 72, 73]) 9 u_4 d_3)) (fun v_ w_ => ∃ (r_5 : Int32), v_ = some (.int r_5) ∧ w_ = (fiW G (pk ad [22, 23, 24, 25, 26, 27, 28, 29, 30, 59, 60, 61, 62, 63, 64, 65, 66, 67, 68, 69, 70, 71, 72, 73]) 0 fn fd ++ (stW G (pk ad [22, 23, 24, 25, 26, 27, 28, 29, 30, 59, 60, 61, 62, 63, 64, 65, 66, 67, 68, 69, 70, 71, 72, 73]) 9 u_4 d_3)) ∧ (((r_5 = 0) → J G mX6_letterOf 15 [(0, .ref (ad 0)), (1, .int x1), (2, .int x2), (3, .int (x3 + 1))] [] (rlW G ad 0 pf pn u d g l n fn fd ku kd kg kl kn kfn kfd u_4 d_3 t wa le se v) Q) ∧ ((¬ r_5 = 0) → J G mX6_letterOf 15 [(0, .ref (ad 0)), (1, .int x1), (2, .int (x2 ||| ((1 <<< (x3 &&& 31)) : Int32))), (3, .int (x3 + 1))] [] (rlW G ad 0 pf pn u d g l n fn fd ku kd kg kl kn kfn kfd u_4 d_3 t wa le se v) Q)))))))) : J G mX6_letterOf 15 [(0, .ref (ad 0)), (1, .int x1), (2, .int x2), (3, .int x3)] [] (rlW G ad 0 pf pn u d g l n fn fd ku kd kg kl kn kfn kfd tu td t wa le se v) Q := by
  refine j_iload_n 3 dX6_letterOf_15 rfl rfl ?_
  refine j_iconst (v := 5) dX6_letterOf_16 (by decide) ?_
  refine j_icmp_ge (tgt := 79) dX6_letterOf_17 (by decide) (fun c_1 => ?_) (fun c_1 => ?_)
  · have H := H.1 c_1
    refine j_iload_n 2 dX6_letterOf_79 rfl rfl ?_
    exact j_iret dX6_letterOf_80 rfl H
  · have H := H.2 c_1
    refine j_aload_n 0 dX6_letterOf_20 rfl rfl ?_
    refine j_get 0 fl_X6_29 dX6_letterOf_21 rfl rfl ?_
    refine j_aload_n 0 dX6_letterOf_24 rfl rfl ?_
    refine j_get 0 fl_X6_19 dX6_letterOf_25 rfl rfl ?_
    refine j_get 3 fl_X6_65 dX6_letterOf_28 rfl rfl ?_
    refine j_callV (q0 := 0) (wc := (stW G (pk ad [59, 60, 61, 62, 63, 64, 65, 66, 67, 68, 69, 70, 71, 72, 73, 4, 5, 6, 7, 8, 9, 10, 11, 12, 13, 14, 15, 16, 17, 18]) 0 tu td ++ (stW G (pk ad [59, 60, 61, 62, 63, 64, 65, 66, 67, 68, 69, 70, 71, 72, 73, 4, 5, 6, 7, 8, 9, 10, 11, 12, 13, 14, 15, 16, 17, 18]) 15 u d))) (As := [.ref ((pk ad [59, 60, 61, 62, 63, 64, 65, 66, 67, 68, 69, 70, 71, 72, 73, 4, 5, 6, 7, 8, 9, 10, 11, 12, 13, 14, 15, 16, 17, 18]) 15)]) (st := []) ml_X4_layLike vl_X6_170 dX6_letterOf_31 [none, none, none, none, some 15, some 16, some 17, some 18, some 19, some 20, some 21, some 22, some 23, some 24, some 25, some 26, some 27, some 28, some 29, none, none, none, none, none, none, none, none, none, none, none, none, none, none, none, none, none, none, none, none, none, none, none, none, none, none, none, none, none, none, none, none, none, none, none, none, none, none, none, none, some 0, some 1, some 2, some 3, some 4, some 5, some 6, some 7, some 8, some 9, some 10, some 11, some 12, some 13, some 14] ⟨rfl, Nat.le_of_ble_eq_true rfl, rfl, rfl⟩ rfl rfl rfl (Nat.le_of_ble_eq_true rfl) ⟨by decide, by decide⟩ rfl rfl (Nat.le_of_ble_eq_true rfl) (J.mono (fun v_ w_ hp_ => ?_) H)
    obtain ⟨u_2, rfl, rfl, H⟩ := hp_
    refine j_w (w' := (rlW G ad 0 pf pn u d g l n fn fd ku kd kg kl kn kfn kfd u_2 td t wa le se v)) rfl ?_
    refine j_aload_n 0 dX6_letterOf_34 rfl rfl ?_
    refine j_get 0 fl_X6_29 dX6_letterOf_35 rfl rfl ?_
    refine j_aload_n 0 dX6_letterOf_38 rfl rfl ?_
    refine j_get 0 fl_X6_19 dX6_letterOf_39 rfl rfl ?_
    refine j_get 3 fl_X6_84 dX6_letterOf_42 rfl rfl ?_
    refine j_iload_n 1 dX6_letterOf_45 rfl rfl ?_
    refine j_iload_n 3 dX6_letterOf_46 rfl rfl ?_
    refine j_callV (q0 := 0) (wc := (stW G (pk ad [59, 60, 61, 62, 63, 64, 65, 66, 67, 68, 69, 70, 71, 72, 73, 19, 20, 21]) 0 u_2 td ++ (faW G (pk ad [59, 60, 61, 62, 63, 64, 65, 66, 67, 68, 69, 70, 71, 72, 73, 19, 20, 21]) 15 g l n))) (As := [.ref ((pk ad [59, 60, 61, 62, 63, 64, 65, 66, 67, 68, 69, 70, 71, 72, 73, 19, 20, 21]) 15), .int x1, .int x3]) (st := []) ml_X4_runAll vl_X6_174 dX6_letterOf_47 [none, none, none, none, none, none, none, none, none, none, none, none, none, none, none, none, none, none, none, some 15, some 16, some 17, none, none, none, none, none, none, none, none, none, none, none, none, none, none, none, none, none, none, none, none, none, none, none, none, none, none, none, none, none, none, none, none, none, none, none, none, none, some 0, some 1, some 2, some 3, some 4, some 5, some 6, some 7, some 8, some 9, some 10, some 11, some 12, some 13, some 14] ⟨rfl, Nat.le_of_ble_eq_true rfl, rfl, rfl⟩ rfl rfl rfl (Nat.le_of_ble_eq_true rfl) ⟨by decide, by decide⟩ rfl rfl (Nat.le_of_ble_eq_true rfl) (J.mono (fun v_ w_ hp_ => ?_) H)
    obtain ⟨d_3, u_4, rfl, rfl, H⟩ := hp_
    refine j_w (w' := (rlW G ad 0 pf pn u d g l n fn fd ku kd kg kl kn kfn kfd u_4 d_3 t wa le se v)) rfl ?_
    refine j_aload_n 0 dX6_letterOf_50 rfl rfl ?_
    refine j_get 0 fl_X6_19 dX6_letterOf_51 rfl rfl ?_
    refine j_get 3 fl_X6_91 dX6_letterOf_54 rfl rfl ?_
    refine j_aload_n 0 dX6_letterOf_57 rfl rfl ?_
    refine j_get 0 fl_X6_29 dX6_letterOf_58 rfl rfl ?_
    refine j_callV (q0 := 0) (wc := (fiW G (pk ad [22, 23, 24, 25, 26, 27, 28, 29, 30, 59, 60, 61, 62, 63, 64, 65, 66, 67, 68, 69, 70, 71, 72, 73]) 0 fn fd ++ (stW G (pk ad [22, 23, 24, 25, 26, 27, 28, 29, 30, 59, 60, 61, 62, 63, 64, 65, 66, 67, 68, 69, 70, 71, 72, 73]) 9 u_4 d_3))) (As := [.ref ((pk ad [22, 23, 24, 25, 26, 27, 28, 29, 30, 59, 60, 61, 62, 63, 64, 65, 66, 67, 68, 69, 70, 71, 72, 73]) 9)]) (st := []) ml_X1_fit vl_X6_190 dX6_letterOf_61 [none, none, none, none, none, none, none, none, none, none, none, none, none, none, none, none, none, none, none, none, none, none, some 0, some 1, some 2, some 3, some 4, some 5, some 6, some 7, some 8, none, none, none, none, none, none, none, none, none, none, none, none, none, none, none, none, none, none, none, none, none, none, none, none, none, none, none, none, some 9, some 10, some 11, some 12, some 13, some 14, some 15, some 16, some 17, some 18, some 19, some 20, some 21, some 22, some 23] ⟨rfl, Nat.le_of_ble_eq_true rfl, rfl, rfl⟩ rfl rfl rfl (Nat.le_of_ble_eq_true rfl) ⟨by decide, by decide⟩ rfl rfl (Nat.le_of_ble_eq_true rfl) (J.mono (fun v_ w_ hp_ => ?_) H)
    obtain ⟨r_5, rfl, rfl, H⟩ := hp_
    refine j_w (w' := (rlW G ad 0 pf pn u d g l n fn fd ku kd kg kl kn kfn kfd u_4 d_3 t wa le se v)) rfl ?_
    refine j_if_eq (tgt := 73) dX6_letterOf_64 (by decide) (fun c_6 => ?_) (fun c_6 => ?_)
    · have H := H.1 c_6
      refine j_iinc (v := (x3 + 1)) (lo' := [(3, .int (x3 + 1)), (0, .ref (ad 0)), (1, .int x1), (2, .int x2)]) 3 dX6_letterOf_73 rfl rfl (by decide) rfl ?_
      refine j_goto (tgt := 15) dX6_letterOf_76 (by decide) ?_
      refine j_lo [1, 2, 3, 0] rfl ?_
      exact H
    · have H := H.2 c_6
      refine j_iload_n 2 dX6_letterOf_67 rfl rfl ?_
      refine j_iconst (v := 1) dX6_letterOf_68 (by decide) ?_
      refine j_iload_n 3 dX6_letterOf_69 rfl rfl ?_
      refine j_ishl dX6_letterOf_70 ?_
      refine j_ior dX6_letterOf_71 ?_
      refine j_istore_n (lo' := [(2, .int (x2 ||| ((1 <<< (x3 &&& 31)) : Int32))), (0, .ref (ad 0)), (1, .int x1), (3, .int x3)]) dX6_letterOf_72 rfl (by decide) rfl ?_
      refine j_iinc (v := (x3 + 1)) (lo' := [(3, .int (x3 + 1)), (2, .int (x2 ||| ((1 <<< (x3 &&& 31)) : Int32))), (0, .ref (ad 0)), (1, .int x1)]) 3 dX6_letterOf_73 rfl rfl (by decide) rfl ?_
      refine j_goto (tgt := 15) dX6_letterOf_76 (by decide) ?_
      refine j_lo [2, 3, 1, 0] rfl ?_
      exact H
set_option maxRecDepth 20000 in
theorem sg_X6_mixDrops_0 {G : GG} {ad : Nat → Nat} {pf : Nat → Int32} {pn : Int32} {u : Nat → Nat → Int32} {d : Nat → Nat → Int32} {g : Nat → Int32} {l : Nat → Int32} {n : Int32} {fn : Nat → Int32} {fd : Nat → Nat → Int32} {ku : Nat → Nat → Int32} {kd : Nat → Nat → Int32} {kg : Nat → Int32} {kl : Nat → Int32} {kn : Int32} {kfn : Nat → Int32} {kfd : Nat → Nat → Int32} {tu : Nat → Nat → Int32} {td : Nat → Nat → Int32} {t : Nat → Int32} {wa : Nat → Int32} {le : Nat → Int32} {se : Nat → Int32} {v : Nat → Int32} {x1 : Int64} {Q : Option Value → va_W → Prop} (H : J G mX6_mixDrops 5 [(0, .ref (ad 0)), (1, .long x1), (3, .long x1), (5, .int 0)] [] (rlW G ad 0 pf pn u d g l n fn fd ku kd kg kl kn kfn kfd tu td t wa le se v) Q) : J G mX6_mixDrops 0 [(0, .ref (ad 0)), (1, .long x1)] [] (rlW G ad 0 pf pn u d g l n fn fd ku kd kg kl kn kfn kfd tu td t wa le se v) Q := by
  refine j_lload_n 1 dX6_mixDrops_0 rfl rfl ?_
  refine j_lstore_n (lo' := [(3, .long x1), (0, .ref (ad 0)), (1, .long x1)]) dX6_mixDrops_1 rfl (by decide) rfl ?_
  refine j_iconst (v := 0) dX6_mixDrops_2 (by decide) ?_
  refine j_istore (lo' := [(5, .int 0), (3, .long x1), (0, .ref (ad 0)), (1, .long x1)]) dX6_mixDrops_3 (by decide) rfl ?_
  refine j_lo [2, 3, 1, 0] rfl ?_
  exact H
set_option maxRecDepth 20000 in
theorem sg_X6_mixDrops_5 {G : GG} {ad : Nat → Nat} {pf : Nat → Int32} {pn : Int32} {u : Nat → Nat → Int32} {d : Nat → Nat → Int32} {g : Nat → Int32} {l : Nat → Int32} {n : Int32} {fn : Nat → Int32} {fd : Nat → Nat → Int32} {ku : Nat → Nat → Int32} {kd : Nat → Nat → Int32} {kg : Nat → Int32} {kl : Nat → Int32} {kn : Int32} {kfn : Nat → Int32} {kfd : Nat → Nat → Int32} {tu : Nat → Nat → Int32} {td : Nat → Nat → Int32} {t : Nat → Int32} {wa : Nat → Int32} {le : Nat → Int32} {se : Nat → Int32} {v : Nat → Int32} {x1 : Int64} {x3 : Int64} {x5 : Int32} {Q : Option Value → va_W → Prop} (H : (((n ≤ x5) → Q (some (.long x3)) (rlW G ad 0 pf pn u d g l n fn fd ku kd kg kl kn kfn kfd tu td t wa le se v)) ∧ ((¬ n ≤ x5) → J G mX6_rain 0 [(0, .ref (ad 0)), (1, .int x5), (2, .int 0)] [] (rlW G ad 0 pf pn u d g l n fn fd ku kd kg kl kn kfn kfd tu td t wa le se v) (fun v_ w_ => ∃ (r_2 : Int32), v_ = some (.int r_2) ∧ w_ = (rlW G ad 0 pf pn u d g l n fn fd ku kd kg kl kn kfn kfd tu td t wa le se v) ∧ J G mX6_mix 0 [(0, .long x3), (2, .long (Int32.toInt64 r_2))] [] ([] : va_W) (fun v_ w_ => ∃ (r_3 : Int64), v_ = some (.long r_3) ∧ w_ = ([] : va_W) ∧ J G mX6_rain 0 [(0, .ref (ad 0)), (1, .int x5), (2, .int 1)] [] (rlW G ad 0 pf pn u d g l n fn fd ku kd kg kl kn kfn kfd tu td t wa le se v) (fun v_ w_ => ∃ (r_4 : Int32), v_ = some (.int r_4) ∧ w_ = (rlW G ad 0 pf pn u d g l n fn fd ku kd kg kl kn kfn kfd tu td t wa le se v) ∧ J G mX6_mix 0 [(0, .long r_3), (2, .long (Int32.toInt64 r_4))] [] ([] : va_W) (fun v_ w_ => ∃ (r_5 : Int64), v_ = some (.long r_5) ∧ w_ = ([] : va_W) ∧ J G mX6_letterOf 0 [(0, .ref (ad 0)), (1, .int x5)] [] (rlW G ad 0 pf pn u d g l n fn fd ku kd kg kl kn kfn kfd tu td t wa le se v) (fun v_ w_ => ∃ (r_8 : Int32) (td_6 : Nat → Nat → Int32) (tu_7 : Nat → Nat → Int32), v_ = some (.int r_8) ∧ w_ = (rlW G ad 0 pf pn u d g l n fn fd ku kd kg kl kn kfn kfd tu_7 td_6 t wa le se v) ∧ J G mX6_mix 0 [(0, .long r_5), (2, .long (Int32.toInt64 r_8))] [] ([] : va_W) (fun v_ w_ => ∃ (r_9 : Int64), v_ = some (.long r_9) ∧ w_ = ([] : va_W) ∧ J G mX6_mixDrops 5 [(0, .ref (ad 0)), (1, .long x1), (3, .long r_9), (5, .int (x5 + 1))] [] (rlW G ad 0 pf pn u d g l n fn fd ku kd kg kl kn kfn kfd tu_7 td_6 t wa le se v) Q))))))))) : J G mX6_mixDrops 5 [(0, .ref (ad 0)), (1, .long x1), (3, .long x3), (5, .int x5)] [] (rlW G ad 0 pf pn u d g l n fn fd ku kd kg kl kn kfn kfd tu td t wa le se v) Q := by
  refine j_iload 3 dX6_mixDrops_5 rfl ?_
  refine j_aload_n 0 dX6_mixDrops_7 rfl rfl ?_
  refine j_get 0 fl_X6_19 dX6_mixDrops_8 rfl rfl ?_
  refine j_get 3 fl_X6_84 dX6_mixDrops_11 rfl rfl ?_
  refine j_get 19 fl_X6_88 dX6_mixDrops_14 rfl rfl ?_
  refine j_icmp_ge (tgt := 64) dX6_mixDrops_17 (by decide) (fun c_1 => ?_) (fun c_1 => ?_)
  · have H := H.1 c_1
    refine j_lload_n 2 dX6_mixDrops_64 rfl rfl ?_
    exact j_lret dX6_mixDrops_65 rfl H
  · have H := H.2 c_1
    refine j_lload_n 2 dX6_mixDrops_20 rfl rfl ?_
    refine j_aload_n 0 dX6_mixDrops_21 rfl rfl ?_
    refine j_iload 3 dX6_mixDrops_22 rfl ?_
    refine j_iconst (v := 0) dX6_mixDrops_24 (by decide) ?_
    refine j_callV0 (q0 := 0) (As := [.int x5, .int 0]) (st := [.long x3]) ml_X6_rain vl_X6_232 dX6_mixDrops_25 rfl rfl rfl (Nat.le_of_ble_eq_true rfl) ⟨by decide, by decide⟩ rfl rfl (Nat.le_of_ble_eq_true rfl) (J.mono (fun v_ w_ hp_ => ?_) H)
    obtain ⟨r_2, rfl, rfl, H⟩ := hp_
    refine j_i2l dX6_mixDrops_28 ?_
    refine j_callS0 (As := [.long x3, .long (Int32.toInt64 r_2)]) (st := []) ml_X6_mix sl_X6_216 dX6_mixDrops_29 (Nat.le_of_ble_eq_true rfl) ⟨by decide, by decide⟩ rfl rfl (Nat.le_of_ble_eq_true rfl) (J.mono (fun v_ w_ hp_ => ?_) H)
    obtain ⟨r_3, rfl, rfl, H⟩ := hp_
    refine j_lstore_n (lo' := [(3, .long r_3), (0, .ref (ad 0)), (1, .long x1), (5, .int x5)]) dX6_mixDrops_32 rfl (by decide) rfl ?_
    refine j_lload_n 0 dX6_mixDrops_33 rfl rfl ?_
    refine j_aload_n 1 dX6_mixDrops_34 rfl rfl ?_
    refine j_iload 3 dX6_mixDrops_35 rfl ?_
    refine j_iconst (v := 1) dX6_mixDrops_37 (by decide) ?_
    refine j_callV0 (q0 := 0) (As := [.int x5, .int 1]) (st := [.long r_3]) ml_X6_rain vl_X6_232 dX6_mixDrops_38 rfl rfl rfl (Nat.le_of_ble_eq_true rfl) ⟨by decide, by decide⟩ rfl rfl (Nat.le_of_ble_eq_true rfl) (J.mono (fun v_ w_ hp_ => ?_) H)
    obtain ⟨r_4, rfl, rfl, H⟩ := hp_
    refine j_i2l dX6_mixDrops_41 ?_
    refine j_callS0 (As := [.long r_3, .long (Int32.toInt64 r_4)]) (st := []) ml_X6_mix sl_X6_216 dX6_mixDrops_42 (Nat.le_of_ble_eq_true rfl) ⟨by decide, by decide⟩ rfl rfl (Nat.le_of_ble_eq_true rfl) (J.mono (fun v_ w_ hp_ => ?_) H)
    obtain ⟨r_5, rfl, rfl, H⟩ := hp_
    refine j_lstore_n (lo' := [(3, .long r_5), (0, .ref (ad 0)), (1, .long x1), (5, .int x5)]) dX6_mixDrops_45 rfl (by decide) rfl ?_
    refine j_lload_n 0 dX6_mixDrops_46 rfl rfl ?_
    refine j_aload_n 1 dX6_mixDrops_47 rfl rfl ?_
    refine j_iload 3 dX6_mixDrops_48 rfl ?_
    refine j_callV0 (q0 := 0) (As := [.int x5]) (st := [.long r_5]) ml_X6_letterOf vl_X6_235 dX6_mixDrops_50 rfl rfl rfl (Nat.le_of_ble_eq_true rfl) ⟨by decide, by decide⟩ rfl rfl (Nat.le_of_ble_eq_true rfl) (J.mono (fun v_ w_ hp_ => ?_) H)
    obtain ⟨r_8, td_6, tu_7, rfl, rfl, H⟩ := hp_
    refine j_i2l dX6_mixDrops_53 ?_
    refine j_callS0 (As := [.long r_5, .long (Int32.toInt64 r_8)]) (st := []) ml_X6_mix sl_X6_216 dX6_mixDrops_54 (Nat.le_of_ble_eq_true rfl) ⟨by decide, by decide⟩ rfl rfl (Nat.le_of_ble_eq_true rfl) (J.mono (fun v_ w_ hp_ => ?_) H)
    obtain ⟨r_9, rfl, rfl, H⟩ := hp_
    refine j_lstore_n (lo' := [(3, .long r_9), (0, .ref (ad 0)), (1, .long x1), (5, .int x5)]) dX6_mixDrops_57 rfl (by decide) rfl ?_
    refine j_iinc (v := (x5 + 1)) (lo' := [(5, .int (x5 + 1)), (3, .long r_9), (0, .ref (ad 0)), (1, .long x1)]) 3 dX6_mixDrops_58 rfl rfl (by decide) rfl ?_
    refine j_goto (tgt := 5) dX6_mixDrops_61 (by decide) ?_
    refine j_lo [2, 3, 1, 0] rfl ?_
    exact H
set_option maxRecDepth 20000 in
theorem sg_X6_digest_0 {G : GG} {ad : Nat → Nat} {pf : Nat → Int32} {pn : Int32} {u : Nat → Nat → Int32} {d : Nat → Nat → Int32} {g : Nat → Int32} {l : Nat → Int32} {n : Int32} {fn : Nat → Int32} {fd : Nat → Nat → Int32} {ku : Nat → Nat → Int32} {kd : Nat → Nat → Int32} {kg : Nat → Int32} {kl : Nat → Int32} {kn : Int32} {kfn : Nat → Int32} {kfd : Nat → Nat → Int32} {tu : Nat → Nat → Int32} {td : Nat → Nat → Int32} {t : Nat → Int32} {wa : Nat → Int32} {le : Nat → Int32} {se : Nat → Int32} {v : Nat → Int32} {Q : Option Value → va_W → Prop} (H : J G mX6_hasStreet 0 [(0, .ref (ad 0))] [] (rlW G ad 0 pf pn u d g l n fn fd ku kd kg kl kn kfn kfd tu td t wa le se v) (fun v_ w_ => ∃ (r_1 : Int32), v_ = some (.int r_1) ∧ w_ = (rlW G ad 0 pf pn u d g l n fn fd ku kd kg kl kn kfn kfd tu td t wa le se v) ∧ (((r_1 = 0) → J G mX6_digest 25 [(0, .ref (ad 0)), (1, .long 821), (3, .int 0)] [] (rlW G ad 0 pf pn u d g l n fn fd ku kd kg kl kn kfn kfd tu td t wa le se v) Q) ∧ ((¬ r_1 = 0) → J G mX6_mixGutters 0 [(0, .ref (ad 0)), (1, .long 821)] [] (rlW G ad 0 pf pn u d g l n fn fd ku kd kg kl kn kfn kfd tu td t wa le se v) (fun v_ w_ => ∃ (r_5 : Int64) (td_3 : Nat → Nat → Int32) (tu_4 : Nat → Nat → Int32), v_ = some (.long r_5) ∧ w_ = (rlW G ad 0 pf pn u d g l n fn fd ku kd kg kl kn kfn kfd tu_4 td_3 t wa le se v) ∧ J G mX6_mixDrops 0 [(0, .ref (ad 0)), (1, .long r_5)] [] (rlW G ad 0 pf pn u d g l n fn fd ku kd kg kl kn kfn kfd tu_4 td_3 t wa le se v) (fun v_ w_ => ∃ (r_8 : Int64) (td_6 : Nat → Nat → Int32) (tu_7 : Nat → Nat → Int32), v_ = some (.long r_8) ∧ w_ = (rlW G ad 0 pf pn u d g l n fn fd ku kd kg kl kn kfn kfd tu_7 td_6 t wa le se v) ∧ J G mX6_digest 25 [(0, .ref (ad 0)), (1, .long r_8), (3, .int 0)] [] (rlW G ad 0 pf pn u d g l n fn fd ku kd kg kl kn kfn kfd tu_7 td_6 t wa le se v) Q)))))) : J G mX6_digest 0 [(0, .ref (ad 0))] [] (rlW G ad 0 pf pn u d g l n fn fd ku kd kg kl kn kfn kfd tu td t wa le se v) Q := by
  refine j_ldc2 cl_X6_207 dX6_digest_0 ?_
  refine j_lstore_n (lo' := [(1, .long 821), (0, .ref (ad 0))]) dX6_digest_3 rfl (by decide) rfl ?_
  refine j_aload_n 1 dX6_digest_4 rfl rfl ?_
  refine j_callV0 (q0 := 0) (As := []) (st := []) ml_X6_hasStreet vl_X6_148 dX6_digest_5 rfl rfl rfl (Nat.le_of_ble_eq_true rfl) ⟨by decide, by decide⟩ rfl rfl (Nat.le_of_ble_eq_true rfl) (J.mono (fun v_ w_ hp_ => ?_) H)
  obtain ⟨r_1, rfl, rfl, H⟩ := hp_
  refine j_if_eq (tgt := 23) dX6_digest_8 (by decide) (fun c_2 => ?_) (fun c_2 => ?_)
  · have H := H.1 c_2
    refine j_iconst (v := 0) dX6_digest_23 (by decide) ?_
    refine j_istore_n (lo' := [(3, .int 0), (1, .long 821), (0, .ref (ad 0))]) dX6_digest_24 rfl (by decide) rfl ?_
    refine j_lo [2, 1, 0] rfl ?_
    exact H
  · have H := H.2 c_2
    refine j_aload_n 1 dX6_digest_11 rfl rfl ?_
    refine j_lload_n 0 dX6_digest_12 rfl rfl ?_
    refine j_callV0 (q0 := 0) (As := [.long 821]) (st := []) ml_X6_mixGutters vl_X6_209 dX6_digest_13 rfl rfl rfl (Nat.le_of_ble_eq_true rfl) ⟨by decide, by decide⟩ rfl rfl (Nat.le_of_ble_eq_true rfl) (J.mono (fun v_ w_ hp_ => ?_) H)
    obtain ⟨r_5, td_3, tu_4, rfl, rfl, H⟩ := hp_
    refine j_lstore_n (lo' := [(1, .long r_5), (0, .ref (ad 0))]) dX6_digest_16 rfl (by decide) rfl ?_
    refine j_aload_n 1 dX6_digest_17 rfl rfl ?_
    refine j_lload_n 0 dX6_digest_18 rfl rfl ?_
    refine j_callV0 (q0 := 0) (As := [.long r_5]) (st := []) ml_X6_mixDrops vl_X6_213 dX6_digest_19 rfl rfl rfl (Nat.le_of_ble_eq_true rfl) ⟨by decide, by decide⟩ rfl rfl (Nat.le_of_ble_eq_true rfl) (J.mono (fun v_ w_ hp_ => ?_) H)
    obtain ⟨r_8, td_6, tu_7, rfl, rfl, H⟩ := hp_
    refine j_lstore_n (lo' := [(1, .long r_8), (0, .ref (ad 0))]) dX6_digest_22 rfl (by decide) rfl ?_
    refine j_iconst (v := 0) dX6_digest_23 (by decide) ?_
    refine j_istore_n (lo' := [(3, .int 0), (1, .long r_8), (0, .ref (ad 0))]) dX6_digest_24 rfl (by decide) rfl ?_
    refine j_lo [2, 1, 0] rfl ?_
    exact H
set_option maxRecDepth 20000 in
theorem sg_X6_digest_25 {G : GG} {ad : Nat → Nat} {pf : Nat → Int32} {pn : Int32} {u : Nat → Nat → Int32} {d : Nat → Nat → Int32} {g : Nat → Int32} {l : Nat → Int32} {n : Int32} {fn : Nat → Int32} {fd : Nat → Nat → Int32} {ku : Nat → Nat → Int32} {kd : Nat → Nat → Int32} {kg : Nat → Int32} {kl : Nat → Int32} {kn : Int32} {kfn : Nat → Int32} {kfd : Nat → Nat → Int32} {tu : Nat → Nat → Int32} {td : Nat → Nat → Int32} {t : Nat → Int32} {wa : Nat → Int32} {le : Nat → Int32} {se : Nat → Int32} {v : Nat → Int32} {x1 : Int64} {x3 : Int32} {Q : Option Value → va_W → Prop} (H : (((pn ≤ x3) → J G mX6_digest 59 [(0, .ref (ad 0)), (1, .long x1), (3, .int 0)] [] (rlW G ad 0 pf pn u d g l n fn fd ku kd kg kl kn kfn kfd tu td t wa le se v) Q) ∧ ((¬ pn ≤ x3) → (vp_in x3 20) ∧ J G mX6_mix 0 [(0, .long x1), (2, .long (Int32.toInt64 (pf (Int32.toNatClampNeg x3))))] [] ([] : va_W) (fun v_ w_ => ∃ (r_3 : Int64), v_ = some (.long r_3) ∧ w_ = ([] : va_W) ∧ J G mX6_digest 25 [(0, .ref (ad 0)), (1, .long r_3), (3, .int (x3 + 1))] [] (rlW G ad 0 pf pn u d g l n fn fd ku kd kg kl kn kfn kfd tu td t wa le se v) Q)))) : J G mX6_digest 25 [(0, .ref (ad 0)), (1, .long x1), (3, .int x3)] [] (rlW G ad 0 pf pn u d g l n fn fd ku kd kg kl kn kfn kfd tu td t wa le se v) Q := by
  refine j_iload_n 2 dX6_digest_25 rfl rfl ?_
  refine j_aload_n 0 dX6_digest_26 rfl rfl ?_
  refine j_get 0 fl_X6_10 dX6_digest_27 rfl rfl ?_
  refine j_get 1 fl_X6_50 dX6_digest_30 rfl rfl ?_
  refine j_icmp_ge (tgt := 57) dX6_digest_33 (by decide) (fun c_1 => ?_) (fun c_1 => ?_)
  · have H := H.1 c_1
    refine j_iconst (v := 0) dX6_digest_57 (by decide) ?_
    refine j_istore_n (lo' := [(3, .int 0), (0, .ref (ad 0)), (1, .long x1)]) dX6_digest_58 rfl (by decide) rfl ?_
    refine j_lo [1, 2, 0] rfl ?_
    exact H
  · have H := H.2 c_1
    refine j_lload_n 1 dX6_digest_36 rfl rfl ?_
    refine j_aload_n 0 dX6_digest_37 rfl rfl ?_
    refine j_get 0 fl_X6_10 dX6_digest_38 rfl rfl ?_
    refine j_get 1 fl_X6_54 dX6_digest_41 rfl rfl ?_
    refine j_iload_n 2 dX6_digest_44 rfl rfl ?_
    obtain ⟨h_2, H⟩ := H
    refine j_iald 2 dX6_digest_45 rfl h_2 ?_
    refine j_i2l dX6_digest_46 ?_
    refine j_callS0 (As := [.long x1, .long (Int32.toInt64 (pf (Int32.toNatClampNeg x3)))]) (st := []) ml_X6_mix sl_X6_216 dX6_digest_47 (Nat.le_of_ble_eq_true rfl) ⟨by decide, by decide⟩ rfl rfl (Nat.le_of_ble_eq_true rfl) (J.mono (fun v_ w_ hp_ => ?_) H)
    obtain ⟨r_3, rfl, rfl, H⟩ := hp_
    refine j_lstore_n (lo' := [(1, .long r_3), (0, .ref (ad 0)), (3, .int x3)]) dX6_digest_50 rfl (by decide) rfl ?_
    refine j_iinc (v := (x3 + 1)) (lo' := [(3, .int (x3 + 1)), (1, .long r_3), (0, .ref (ad 0))]) 2 dX6_digest_51 rfl rfl (by decide) rfl ?_
    refine j_goto (tgt := 25) dX6_digest_54 (by decide) ?_
    refine j_lo [2, 1, 0] rfl ?_
    exact H
set_option maxRecDepth 20000 in
theorem sg_X6_digest_59 {G : GG} {ad : Nat → Nat} {pf : Nat → Int32} {pn : Int32} {u : Nat → Nat → Int32} {d : Nat → Nat → Int32} {g : Nat → Int32} {l : Nat → Int32} {n : Int32} {fn : Nat → Int32} {fd : Nat → Nat → Int32} {ku : Nat → Nat → Int32} {kd : Nat → Nat → Int32} {kg : Nat → Int32} {kl : Nat → Int32} {kn : Int32} {kfn : Nat → Int32} {kfd : Nat → Nat → Int32} {tu : Nat → Nat → Int32} {td : Nat → Nat → Int32} {t : Nat → Int32} {wa : Nat → Int32} {le : Nat → Int32} {se : Nat → Int32} {v : Nat → Int32} {x1 : Int64} {x3 : Int32} {Q : Option Value → va_W → Prop} (H : (((11 ≤ x3) → Q (some (.long x1)) (rlW G ad 0 pf pn u d g l n fn fd ku kd kg kl kn kfn kfd tu td t wa le se v)) ∧ ((¬ 11 ≤ x3) → J G mX6_count 0 [(0, .ref (ad 0)), (1, .int x3)] [] (rlW G ad 0 pf pn u d g l n fn fd ku kd kg kl kn kfn kfd tu td t wa le se v) (fun v_ w_ => ∃ (r_2 : Int32), v_ = some (.int r_2) ∧ w_ = (rlW G ad 0 pf pn u d g l n fn fd ku kd kg kl kn kfn kfd tu td t wa le se v) ∧ J G mX6_mix 0 [(0, .long x1), (2, .long (Int32.toInt64 r_2))] [] ([] : va_W) (fun v_ w_ => ∃ (r_3 : Int64), v_ = some (.long r_3) ∧ w_ = ([] : va_W) ∧ J G mX6_digest 59 [(0, .ref (ad 0)), (1, .long r_3), (3, .int (x3 + 1))] [] (rlW G ad 0 pf pn u d g l n fn fd ku kd kg kl kn kfn kfd tu td t wa le se v) Q))))) : J G mX6_digest 59 [(0, .ref (ad 0)), (1, .long x1), (3, .int x3)] [] (rlW G ad 0 pf pn u d g l n fn fd ku kd kg kl kn kfn kfd tu td t wa le se v) Q := by
  refine j_iload_n 2 dX6_digest_59 rfl rfl ?_
  refine j_bipush (v := 11) dX6_digest_60 (by decide) ?_
  refine j_icmp_ge (tgt := 82) dX6_digest_62 (by decide) (fun c_1 => ?_) (fun c_1 => ?_)
  · have H := H.1 c_1
    refine j_lload_n 1 dX6_digest_82 rfl rfl ?_
    exact j_lret dX6_digest_83 rfl H
  · have H := H.2 c_1
    refine j_lload_n 1 dX6_digest_65 rfl rfl ?_
    refine j_aload_n 0 dX6_digest_66 rfl rfl ?_
    refine j_iload_n 2 dX6_digest_67 rfl rfl ?_
    refine j_callV0 (q0 := 0) (As := [.int x3]) (st := [.long x1]) ml_X6_count vl_X6_220 dX6_digest_68 rfl rfl rfl (Nat.le_of_ble_eq_true rfl) ⟨by decide, by decide⟩ rfl rfl (Nat.le_of_ble_eq_true rfl) (J.mono (fun v_ w_ hp_ => ?_) H)
    obtain ⟨r_2, rfl, rfl, H⟩ := hp_
    refine j_i2l dX6_digest_71 ?_
    refine j_callS0 (As := [.long x1, .long (Int32.toInt64 r_2)]) (st := []) ml_X6_mix sl_X6_216 dX6_digest_72 (Nat.le_of_ble_eq_true rfl) ⟨by decide, by decide⟩ rfl rfl (Nat.le_of_ble_eq_true rfl) (J.mono (fun v_ w_ hp_ => ?_) H)
    obtain ⟨r_3, rfl, rfl, H⟩ := hp_
    refine j_lstore_n (lo' := [(1, .long r_3), (0, .ref (ad 0)), (3, .int x3)]) dX6_digest_75 rfl (by decide) rfl ?_
    refine j_iinc (v := (x3 + 1)) (lo' := [(3, .int (x3 + 1)), (1, .long r_3), (0, .ref (ad 0))]) 2 dX6_digest_76 rfl rfl (by decide) rfl ?_
    refine j_goto (tgt := 59) dX6_digest_79 (by decide) ?_
    refine j_lo [2, 1, 0] rfl ?_
    exact H
set_option maxRecDepth 20000 in
theorem sg_X6_drop_0 {G : GG} {ad : Nat → Nat} {pf : Nat → Int32} {pn : Int32} {u : Nat → Nat → Int32} {d : Nat → Nat → Int32} {g : Nat → Int32} {l : Nat → Int32} {n : Int32} {fn : Nat → Int32} {fd : Nat → Nat → Int32} {ku : Nat → Nat → Int32} {kd : Nat → Nat → Int32} {kg : Nat → Int32} {kl : Nat → Int32} {kn : Int32} {kfn : Nat → Int32} {kfd : Nat → Nat → Int32} {tu : Nat → Nat → Int32} {td : Nat → Nat → Int32} {t : Nat → Int32} {wa : Nat → Int32} {le : Nat → Int32} {se : Nat → Int32} {v : Nat → Int32} {x1 : Int32} {x2 : Int32} {Q : Option Value → va_W → Prop} (H : J G mX6_isGutter 0 [(0, .ref (ad 0)), (1, .int x1)] [] (rlW G ad 0 pf pn u d g l n fn fd ku kd kg kl kn kfn kfd tu td t wa le se v) (fun v_ w_ => ∃ (r_1 : Int32), v_ = some (.int r_1) ∧ w_ = (rlW G ad 0 pf pn u d g l n fn fd ku kd kg kl kn kfn kfd tu td t wa le se v) ∧ (((¬ r_1 = 0) → J G mX6_isLetter 0 [(0, .int x2)] [] ([] : va_W) (fun v_ w_ => ∃ (r_3 : Int32), v_ = some (.int r_3) ∧ w_ = ([] : va_W) ∧ (((¬ r_3 = 0) → (((n < 12) → J G mX0_add 0 [(0, .ref ((pk ad [19, 20, 21]) 0)), (1, .int x1), (2, .int x2)] [] (faW G (pk ad [19, 20, 21]) 0 g l n) (fun v_ w_ => ∃ (g_6 : Nat → Int32) (l_7 : Nat → Int32) (n_8 : Int32), v_ = none ∧ w_ = (faW G (pk ad [19, 20, 21]) 0 g_6 l_7 n_8) ∧ J G mX4_run 0 [(0, .ref ((pk ad [4, 5, 6, 7, 8, 9, 10, 11, 12, 13, 14, 15, 16, 17, 18]) 0)), (1, .int x1), (2, .int x2)] [] (stW G (pk ad [4, 5, 6, 7, 8, 9, 10, 11, 12, 13, 14, 15, 16, 17, 18]) 0 u d) (fun v_ w_ => ∃ (r_11 : Int32) (d_9 : Nat → Nat → Int32) (u_10 : Nat → Nat → Int32), v_ = some (.int r_11) ∧ w_ = (stW G (pk ad [4, 5, 6, 7, 8, 9, 10, 11, 12, 13, 14, 15, 16, 17, 18]) 0 u_10 d_9) ∧ Q (some (.int r_11)) (rlW G ad 0 pf pn u_10 d_9 g_6 l_7 n_8 fn fd ku kd kg kl kn kfn kfd tu td t wa le se v)))) ∧ ((¬ n < 12) → Q (some (.int (-104))) (rlW G ad 0 pf pn u d g l n fn fd ku kd kg kl kn kfn kfd tu td t wa le se v)))) ∧ ((r_3 = 0) → Q (some (.int (-102))) (rlW G ad 0 pf pn u d g l n fn fd ku kd kg kl kn kfn kfd tu td t wa le se v))))) ∧ ((r_1 = 0) → Q (some (.int (-101))) (rlW G ad 0 pf pn u d g l n fn fd ku kd kg kl kn kfn kfd tu td t wa le se v))))) : J G mX6_drop 0 [(0, .ref (ad 0)), (1, .int x1), (2, .int x2)] [] (rlW G ad 0 pf pn u d g l n fn fd ku kd kg kl kn kfn kfd tu td t wa le se v) Q := by
  refine j_aload_n 0 dX6_drop_0 rfl rfl ?_
  refine j_iload_n 1 dX6_drop_1 rfl rfl ?_
  refine j_callV0 (q0 := 0) (As := [.int x1]) (st := []) ml_X6_isGutter vl_X6_109 dX6_drop_2 rfl rfl rfl (Nat.le_of_ble_eq_true rfl) ⟨by decide, by decide⟩ rfl rfl (Nat.le_of_ble_eq_true rfl) (J.mono (fun v_ w_ hp_ => ?_) H)
  obtain ⟨r_1, rfl, rfl, H⟩ := hp_
  refine j_if_ne (tgt := 11) dX6_drop_5 (by decide) (fun c_2 => ?_) (fun c_2 => ?_)
  · have H := H.1 c_2
    refine j_iload_n 2 dX6_drop_11 rfl rfl ?_
    refine j_callS0 (As := [.int x2]) (st := []) ml_X6_isLetter sl_X6_129 dX6_drop_12 (Nat.le_of_ble_eq_true rfl) ⟨by decide, by decide⟩ rfl rfl (Nat.le_of_ble_eq_true rfl) (J.mono (fun v_ w_ hp_ => ?_) H)
    obtain ⟨r_3, rfl, rfl, H⟩ := hp_
    refine j_if_ne (tgt := 21) dX6_drop_15 (by decide) (fun c_4 => ?_) (fun c_4 => ?_)
    · have H := H.1 c_4
      refine j_aload_n 0 dX6_drop_21 rfl rfl ?_
      refine j_get 0 fl_X6_19 dX6_drop_22 rfl rfl ?_
      refine j_get 3 fl_X6_84 dX6_drop_25 rfl rfl ?_
      refine j_get 19 fl_X6_88 dX6_drop_28 rfl rfl ?_
      refine j_bipush (v := 12) dX6_drop_31 (by decide) ?_
      refine j_icmp_lt (tgt := 39) dX6_drop_33 (by decide) (fun c_5 => ?_) (fun c_5 => ?_)
      · have H := H.1 c_5
        refine j_aload_n 0 dX6_drop_39 rfl rfl ?_
        refine j_get 0 fl_X6_19 dX6_drop_40 rfl rfl ?_
        refine j_get 3 fl_X6_84 dX6_drop_43 rfl rfl ?_
        refine j_iload_n 1 dX6_drop_46 rfl rfl ?_
        refine j_iload_n 2 dX6_drop_47 rfl rfl ?_
        refine j_callV (q0 := 0) (wc := (faW G (pk ad [19, 20, 21]) 0 g l n)) (As := [.int x1, .int x2]) (st := []) ml_X0_add vl_X6_132 dX6_drop_48 [none, none, none, none, none, none, none, none, none, none, none, none, none, none, none, none, none, none, none, some 0, some 1, some 2] ⟨rfl, Nat.le_of_ble_eq_true rfl, rfl, rfl⟩ rfl rfl rfl (Nat.le_of_ble_eq_true rfl) ⟨by decide, by decide⟩ rfl rfl (Nat.le_of_ble_eq_true rfl) (J.mono (fun v_ w_ hp_ => ?_) H)
        obtain ⟨g_6, l_7, n_8, rfl, rfl, H⟩ := hp_
        refine j_w (w' := (rlW G ad 0 pf pn u d g_6 l_7 n_8 fn fd ku kd kg kl kn kfn kfd tu td t wa le se v)) rfl ?_
        refine j_aload_n 0 dX6_drop_51 rfl rfl ?_
        refine j_get 0 fl_X6_19 dX6_drop_52 rfl rfl ?_
        refine j_get 3 fl_X6_65 dX6_drop_55 rfl rfl ?_
        refine j_iload_n 1 dX6_drop_58 rfl rfl ?_
        refine j_iload_n 2 dX6_drop_59 rfl rfl ?_
        refine j_callV (q0 := 0) (wc := (stW G (pk ad [4, 5, 6, 7, 8, 9, 10, 11, 12, 13, 14, 15, 16, 17, 18]) 0 u d)) (As := [.int x1, .int x2]) (st := []) ml_X4_run vl_X6_136 dX6_drop_60 [none, none, none, none, some 0, some 1, some 2, some 3, some 4, some 5, some 6, some 7, some 8, some 9, some 10, some 11, some 12, some 13, some 14] ⟨rfl, Nat.le_of_ble_eq_true rfl, rfl, rfl⟩ rfl rfl rfl (Nat.le_of_ble_eq_true rfl) ⟨by decide, by decide⟩ rfl rfl (Nat.le_of_ble_eq_true rfl) (J.mono (fun v_ w_ hp_ => ?_) H)
        obtain ⟨r_11, d_9, u_10, rfl, rfl, H⟩ := hp_
        refine j_w (w' := (rlW G ad 0 pf pn u_10 d_9 g_6 l_7 n_8 fn fd ku kd kg kl kn kfn kfd tu td t wa le se v)) rfl ?_
        exact j_iret dX6_drop_63 rfl H
      · have H := H.2 c_5
        refine j_bipush (v := (-104)) dX6_drop_36 (by decide) ?_
        exact j_iret dX6_drop_38 rfl H
    · have H := H.2 c_4
      refine j_bipush (v := (-102)) dX6_drop_18 (by decide) ?_
      exact j_iret dX6_drop_20 rfl H
  · have H := H.2 c_2
    refine j_bipush (v := (-101)) dX6_drop_8 (by decide) ?_
    exact j_iret dX6_drop_10 rfl H
set_option maxRecDepth 20000 in
theorem sg_X6_dry_0 {G : GG} {ad : Nat → Nat} {pf : Nat → Int32} {pn : Int32} {u : Nat → Nat → Int32} {d : Nat → Nat → Int32} {g : Nat → Int32} {l : Nat → Int32} {n : Int32} {fn : Nat → Int32} {fd : Nat → Nat → Int32} {ku : Nat → Nat → Int32} {kd : Nat → Nat → Int32} {kg : Nat → Int32} {kl : Nat → Int32} {kn : Int32} {kfn : Nat → Int32} {kfd : Nat → Nat → Int32} {tu : Nat → Nat → Int32} {td : Nat → Nat → Int32} {t : Nat → Int32} {wa : Nat → Int32} {le : Nat → Int32} {se : Nat → Int32} {v : Nat → Int32} {Q : Option Value → va_W → Prop} (H : J G mX6_hasStreet 0 [(0, .ref (ad 0))] [] (rlW G ad 0 pf pn u d g l n fn fd ku kd kg kl kn kfn kfd tu td t wa le se v) (fun v_ w_ => ∃ (r_1 : Int32), v_ = some (.int r_1) ∧ w_ = (rlW G ad 0 pf pn u d g l n fn fd ku kd kg kl kn kfn kfd tu td t wa le se v) ∧ (((¬ r_1 = 0) → J G mX4_clear 0 [(0, .ref ((pk ad [4, 5, 6, 7, 8, 9, 10, 11, 12, 13, 14, 15, 16, 17, 18]) 0))] [] (stW G (pk ad [4, 5, 6, 7, 8, 9, 10, 11, 12, 13, 14, 15, 16, 17, 18]) 0 u d) (fun v_ w_ => ∃ (u_3 : Nat → Nat → Int32), v_ = none ∧ w_ = (stW G (pk ad [4, 5, 6, 7, 8, 9, 10, 11, 12, 13, 14, 15, 16, 17, 18]) 0 u_3 d) ∧ Q (some (.int n)) (rlW G ad 0 pf pn u_3 d g l 0 fn fd ku kd kg kl kn kfn kfd tu td t wa le se v))) ∧ ((r_1 = 0) → Q (some (.int (-103))) (rlW G ad 0 pf pn u d g l n fn fd ku kd kg kl kn kfn kfd tu td t wa le se v))))) : J G mX6_dry 0 [(0, .ref (ad 0))] [] (rlW G ad 0 pf pn u d g l n fn fd ku kd kg kl kn kfn kfd tu td t wa le se v) Q := by
  refine j_aload_n 0 dX6_dry_0 rfl rfl ?_
  refine j_callV0 (q0 := 0) (As := []) (st := []) ml_X6_hasStreet vl_X6_148 dX6_dry_1 rfl rfl rfl (Nat.le_of_ble_eq_true rfl) ⟨by decide, by decide⟩ rfl rfl (Nat.le_of_ble_eq_true rfl) (J.mono (fun v_ w_ hp_ => ?_) H)
  obtain ⟨r_1, rfl, rfl, H⟩ := hp_
  refine j_if_ne (tgt := 10) dX6_dry_4 (by decide) (fun c_2 => ?_) (fun c_2 => ?_)
  · have H := H.1 c_2
    refine j_aload_n 0 dX6_dry_10 rfl rfl ?_
    refine j_get 0 fl_X6_19 dX6_dry_11 rfl rfl ?_
    refine j_get 3 fl_X6_84 dX6_dry_14 rfl rfl ?_
    refine j_get 19 fl_X6_88 dX6_dry_17 rfl rfl ?_
    refine j_istore_n (lo' := [(1, .int n), (0, .ref (ad 0))]) dX6_dry_20 rfl (by decide) rfl ?_
    refine j_aload_n 1 dX6_dry_21 rfl rfl ?_
    refine j_get 0 fl_X6_19 dX6_dry_22 rfl rfl ?_
    refine j_get 3 fl_X6_84 dX6_dry_25 rfl rfl ?_
    refine j_iconst (v := 0) dX6_dry_28 (by decide) ?_
    refine j_put (w' := (rlW G ad 0 pf pn u d g l 0 fn fd ku kd kg kl kn kfn kfd tu td t wa le se v)) 19 fp_X6_88 dX6_dry_29 rfl rfl rfl (Nat.le_of_ble_eq_true rfl) rfl ?_
    refine j_aload_n 1 dX6_dry_32 rfl rfl ?_
    refine j_get 0 fl_X6_19 dX6_dry_33 rfl rfl ?_
    refine j_get 3 fl_X6_65 dX6_dry_36 rfl rfl ?_
    refine j_callV (q0 := 0) (wc := (stW G (pk ad [4, 5, 6, 7, 8, 9, 10, 11, 12, 13, 14, 15, 16, 17, 18]) 0 u d)) (As := []) (st := []) ml_X4_clear vl_X6_81 dX6_dry_39 [none, none, none, none, some 0, some 1, some 2, some 3, some 4, some 5, some 6, some 7, some 8, some 9, some 10, some 11, some 12, some 13, some 14] ⟨rfl, Nat.le_of_ble_eq_true rfl, rfl, rfl⟩ rfl rfl rfl (Nat.le_of_ble_eq_true rfl) ⟨by decide, by decide⟩ rfl rfl (Nat.le_of_ble_eq_true rfl) (J.mono (fun v_ w_ hp_ => ?_) H)
    obtain ⟨u_3, rfl, rfl, H⟩ := hp_
    refine j_w (w' := (rlW G ad 0 pf pn u_3 d g l 0 fn fd ku kd kg kl kn kfn kfd tu td t wa le se v)) rfl ?_
    refine j_iload_n 0 dX6_dry_42 rfl rfl ?_
    exact j_iret dX6_dry_43 rfl H
  · have H := H.2 c_2
    refine j_bipush (v := (-103)) dX6_dry_7 (by decide) ?_
    exact j_iret dX6_dry_9 rfl H
set_option maxRecDepth 20000 in
theorem sg_X6_fault_0 {G : GG} {ad : Nat → Nat} {pf : Nat → Int32} {pn : Int32} {u : Nat → Nat → Int32} {d : Nat → Nat → Int32} {g : Nat → Int32} {l : Nat → Int32} {n : Int32} {fn : Nat → Int32} {fd : Nat → Nat → Int32} {ku : Nat → Nat → Int32} {kd : Nat → Nat → Int32} {kg : Nat → Int32} {kl : Nat → Int32} {kn : Int32} {kfn : Nat → Int32} {kfd : Nat → Nat → Int32} {tu : Nat → Nat → Int32} {td : Nat → Nat → Int32} {t : Nat → Int32} {wa : Nat → Int32} {le : Nat → Int32} {se : Nat → Int32} {v : Nat → Int32} {x1 : Int32} {Q : Option Value → va_W → Prop} (H : (((x1 = 0) → J G mX2_firstFault 0 [(0, .ref ((pk ad [1, 2]) 0)), (1, .int x1)] [] (pgW G (pk ad [1, 2]) 0 pf pn) (fun v_ w_ => ∃ (r_2 : Int32), v_ = some (.int r_2) ∧ w_ = (pgW G (pk ad [1, 2]) 0 pf pn) ∧ Q (some (.int r_2)) (rlW G ad 0 pf pn u d g l n fn fd ku kd kg kl kn kfn kfd tu td t wa le se v))) ∧ ((¬ x1 = 0) → (((x1 = 1) → J G mX2_firstFault 0 [(0, .ref ((pk ad [1, 2]) 0)), (1, .int x1)] [] (pgW G (pk ad [1, 2]) 0 pf pn) (fun v_ w_ => ∃ (r_4 : Int32), v_ = some (.int r_4) ∧ w_ = (pgW G (pk ad [1, 2]) 0 pf pn) ∧ Q (some (.int r_4)) (rlW G ad 0 pf pn u d g l n fn fd ku kd kg kl kn kfn kfd tu td t wa le se v))) ∧ ((¬ x1 = 1) → Q (some (.int (-102))) (rlW G ad 0 pf pn u d g l n fn fd ku kd kg kl kn kfn kfd tu td t wa le se v)))))) : J G mX6_fault 0 [(0, .ref (ad 0)), (1, .int x1)] [] (rlW G ad 0 pf pn u d g l n fn fd ku kd kg kl kn kfn kfd tu td t wa le se v) Q := by
  refine j_iload_n 1 dX6_fault_0 rfl rfl ?_
  refine j_if_eq (tgt := 12) dX6_fault_1 (by decide) (fun c_1 => ?_) (fun c_1 => ?_)
  · have H := H.1 c_1
    refine j_aload_n 0 dX6_fault_12 rfl rfl ?_
    refine j_get 0 fl_X6_10 dX6_fault_13 rfl rfl ?_
    refine j_iload_n 1 dX6_fault_16 rfl rfl ?_
    refine j_callV (q0 := 0) (wc := (pgW G (pk ad [1, 2]) 0 pf pn)) (As := [.int x1]) (st := []) ml_X2_firstFault vl_X6_57 dX6_fault_17 [none, some 0, some 1] ⟨rfl, Nat.le_of_ble_eq_true rfl, rfl, rfl⟩ rfl rfl rfl (Nat.le_of_ble_eq_true rfl) ⟨by decide, by decide⟩ rfl rfl (Nat.le_of_ble_eq_true rfl) (J.mono (fun v_ w_ hp_ => ?_) H)
    obtain ⟨r_2, rfl, rfl, H⟩ := hp_
    refine j_w (w' := (rlW G ad 0 pf pn u d g l n fn fd ku kd kg kl kn kfn kfd tu td t wa le se v)) rfl ?_
    exact j_iret dX6_fault_20 rfl H
  · have H := H.2 c_1
    refine j_iload_n 1 dX6_fault_4 rfl rfl ?_
    refine j_iconst (v := 1) dX6_fault_5 (by decide) ?_
    refine j_icmp_eq (tgt := 12) dX6_fault_6 (by decide) (fun c_3 => ?_) (fun c_3 => ?_)
    · have H := H.1 c_3
      refine j_aload_n 0 dX6_fault_12 rfl rfl ?_
      refine j_get 0 fl_X6_10 dX6_fault_13 rfl rfl ?_
      refine j_iload_n 1 dX6_fault_16 rfl rfl ?_
      refine j_callV (q0 := 0) (wc := (pgW G (pk ad [1, 2]) 0 pf pn)) (As := [.int x1]) (st := []) ml_X2_firstFault vl_X6_57 dX6_fault_17 [none, some 0, some 1] ⟨rfl, Nat.le_of_ble_eq_true rfl, rfl, rfl⟩ rfl rfl rfl (Nat.le_of_ble_eq_true rfl) ⟨by decide, by decide⟩ rfl rfl (Nat.le_of_ble_eq_true rfl) (J.mono (fun v_ w_ hp_ => ?_) H)
      obtain ⟨r_4, rfl, rfl, H⟩ := hp_
      refine j_w (w' := (rlW G ad 0 pf pn u d g l n fn fd ku kd kg kl kn kfn kfd tu td t wa le se v)) rfl ?_
      exact j_iret dX6_fault_20 rfl H
    · have H := H.2 c_3
      refine j_bipush (v := (-102)) dX6_fault_9 (by decide) ?_
      exact j_iret dX6_fault_11 rfl H
set_option maxRecDepth 20000 in
theorem sg_X6_seekTurns_0 {G : GG} {ad : Nat → Nat} {pf : Nat → Int32} {pn : Int32} {u : Nat → Nat → Int32} {d : Nat → Nat → Int32} {g : Nat → Int32} {l : Nat → Int32} {n : Int32} {fn : Nat → Int32} {fd : Nat → Nat → Int32} {ku : Nat → Nat → Int32} {kd : Nat → Nat → Int32} {kg : Nat → Int32} {kl : Nat → Int32} {kn : Int32} {kfn : Nat → Int32} {kfd : Nat → Nat → Int32} {tu : Nat → Nat → Int32} {td : Nat → Nat → Int32} {t : Nat → Int32} {wa : Nat → Int32} {le : Nat → Int32} {se : Nat → Int32} {v : Nat → Int32} {x1 : Int32} {Q : Option Value → va_W → Prop} (H : J G mX2_copyLetters 0 [(0, .ref ((pk ad [1, 2, 75]) 0)), (1, .ref ((pk ad [1, 2, 75]) 2))] [] (pgW G (pk ad [1, 2, 75]) 0 pf pn ++ (arW G (pk ad [1, 2, 75]) 2 8 wa)) (fun v_ w_ => ∃ (f_1 : Nat → Int32), v_ = none ∧ w_ = (pgW G (pk ad [1, 2, 75]) 0 pf pn ++ (arW G (pk ad [1, 2, 75]) 2 8 f_1)) ∧ J G mX5_clear 0 [(0, .ref ((pk ad [74]) 0))] [] (tuW G (pk ad [74]) 0 t) (fun v_ w_ => ∃ (t_2 : Nat → Int32), v_ = none ∧ w_ = (tuW G (pk ad [74]) 0 t_2) ∧ J G mX4_layLike 0 [(0, .ref ((pk ad [59, 60, 61, 62, 63, 64, 65, 66, 67, 68, 69, 70, 71, 72, 73, 4, 5, 6, 7, 8, 9, 10, 11, 12, 13, 14, 15, 16, 17, 18]) 0)), (1, .ref ((pk ad [59, 60, 61, 62, 63, 64, 65, 66, 67, 68, 69, 70, 71, 72, 73, 4, 5, 6, 7, 8, 9, 10, 11, 12, 13, 14, 15, 16, 17, 18]) 15))] [] (stW G (pk ad [59, 60, 61, 62, 63, 64, 65, 66, 67, 68, 69, 70, 71, 72, 73, 4, 5, 6, 7, 8, 9, 10, 11, 12, 13, 14, 15, 16, 17, 18]) 0 tu td ++ (stW G (pk ad [59, 60, 61, 62, 63, 64, 65, 66, 67, 68, 69, 70, 71, 72, 73, 4, 5, 6, 7, 8, 9, 10, 11, 12, 13, 14, 15, 16, 17, 18]) 15 u d)) (fun v_ w_ => ∃ (u_3 : Nat → Nat → Int32), v_ = none ∧ w_ = (stW G (pk ad [59, 60, 61, 62, 63, 64, 65, 66, 67, 68, 69, 70, 71, 72, 73, 4, 5, 6, 7, 8, 9, 10, 11, 12, 13, 14, 15, 16, 17, 18]) 0 u_3 td ++ (stW G (pk ad [59, 60, 61, 62, 63, 64, 65, 66, 67, 68, 69, 70, 71, 72, 73, 4, 5, 6, 7, 8, 9, 10, 11, 12, 13, 14, 15, 16, 17, 18]) 15 u d)) ∧ J G mX6_seekTurns 34 [(0, .ref (ad 0)), (1, .int x1), (2, .int 0)] [] (rlW G ad 0 pf pn u d g l n fn fd ku kd kg kl kn kfn kfd u_3 td t_2 f_1 le se v) Q)))) : J G mX6_seekTurns 0 [(0, .ref (ad 0)), (1, .int x1)] [] (rlW G ad 0 pf pn u d g l n fn fd ku kd kg kl kn kfn kfd tu td t wa le se v) Q := by
  refine j_aload_n 0 dX6_seekTurns_0 rfl rfl ?_
  refine j_get 0 fl_X6_10 dX6_seekTurns_1 rfl rfl ?_
  refine j_aload_n 0 dX6_seekTurns_4 rfl rfl ?_
  refine j_get 0 fl_X6_40 dX6_seekTurns_5 rfl rfl ?_
  refine j_callV (q0 := 0) (wc := (pgW G (pk ad [1, 2, 75]) 0 pf pn ++ (arW G (pk ad [1, 2, 75]) 2 8 wa))) (As := [.ref ((pk ad [1, 2, 75]) 2)]) (st := []) ml_X2_copyLetters vl_X6_182 dX6_seekTurns_8 [none, some 0, some 1, none, none, none, none, none, none, none, none, none, none, none, none, none, none, none, none, none, none, none, none, none, none, none, none, none, none, none, none, none, none, none, none, none, none, none, none, none, none, none, none, none, none, none, none, none, none, none, none, none, none, none, none, none, none, none, none, none, none, none, none, none, none, none, none, none, none, none, none, none, none, none, none, some 2] ⟨rfl, Nat.le_of_ble_eq_true rfl, rfl, rfl⟩ rfl rfl rfl (Nat.le_of_ble_eq_true rfl) ⟨by decide, by decide⟩ rfl rfl (Nat.le_of_ble_eq_true rfl) (J.mono (fun v_ w_ hp_ => ?_) H)
  obtain ⟨f_1, rfl, rfl, H⟩ := hp_
  refine j_w (w' := (rlW G ad 0 pf pn u d g l n fn fd ku kd kg kl kn kfn kfd tu td t f_1 le se v)) rfl ?_
  refine j_aload_n 0 dX6_seekTurns_11 rfl rfl ?_
  refine j_get 0 fl_X6_36 dX6_seekTurns_12 rfl rfl ?_
  refine j_callV (q0 := 0) (wc := (tuW G (pk ad [74]) 0 t)) (As := []) (st := []) ml_X5_clear vl_X6_242 dX6_seekTurns_15 [none, none, none, none, none, none, none, none, none, none, none, none, none, none, none, none, none, none, none, none, none, none, none, none, none, none, none, none, none, none, none, none, none, none, none, none, none, none, none, none, none, none, none, none, none, none, none, none, none, none, none, none, none, none, none, none, none, none, none, none, none, none, none, none, none, none, none, none, none, none, none, none, none, none, some 0] ⟨rfl, Nat.le_of_ble_eq_true rfl, rfl, rfl⟩ rfl rfl rfl (Nat.le_of_ble_eq_true rfl) ⟨by decide, by decide⟩ rfl rfl (Nat.le_of_ble_eq_true rfl) (J.mono (fun v_ w_ hp_ => ?_) H)
  obtain ⟨t_2, rfl, rfl, H⟩ := hp_
  refine j_w (w' := (rlW G ad 0 pf pn u d g l n fn fd ku kd kg kl kn kfn kfd tu td t_2 f_1 le se v)) rfl ?_
  refine j_aload_n 0 dX6_seekTurns_18 rfl rfl ?_
  refine j_get 0 fl_X6_29 dX6_seekTurns_19 rfl rfl ?_
  refine j_aload_n 0 dX6_seekTurns_22 rfl rfl ?_
  refine j_get 0 fl_X6_19 dX6_seekTurns_23 rfl rfl ?_
  refine j_get 3 fl_X6_65 dX6_seekTurns_26 rfl rfl ?_
  refine j_callV (q0 := 0) (wc := (stW G (pk ad [59, 60, 61, 62, 63, 64, 65, 66, 67, 68, 69, 70, 71, 72, 73, 4, 5, 6, 7, 8, 9, 10, 11, 12, 13, 14, 15, 16, 17, 18]) 0 tu td ++ (stW G (pk ad [59, 60, 61, 62, 63, 64, 65, 66, 67, 68, 69, 70, 71, 72, 73, 4, 5, 6, 7, 8, 9, 10, 11, 12, 13, 14, 15, 16, 17, 18]) 15 u d))) (As := [.ref ((pk ad [59, 60, 61, 62, 63, 64, 65, 66, 67, 68, 69, 70, 71, 72, 73, 4, 5, 6, 7, 8, 9, 10, 11, 12, 13, 14, 15, 16, 17, 18]) 15)]) (st := []) ml_X4_layLike vl_X6_170 dX6_seekTurns_29 [none, none, none, none, some 15, some 16, some 17, some 18, some 19, some 20, some 21, some 22, some 23, some 24, some 25, some 26, some 27, some 28, some 29, none, none, none, none, none, none, none, none, none, none, none, none, none, none, none, none, none, none, none, none, none, none, none, none, none, none, none, none, none, none, none, none, none, none, none, none, none, none, none, none, some 0, some 1, some 2, some 3, some 4, some 5, some 6, some 7, some 8, some 9, some 10, some 11, some 12, some 13, some 14] ⟨rfl, Nat.le_of_ble_eq_true rfl, rfl, rfl⟩ rfl rfl rfl (Nat.le_of_ble_eq_true rfl) ⟨by decide, by decide⟩ rfl rfl (Nat.le_of_ble_eq_true rfl) (J.mono (fun v_ w_ hp_ => ?_) H)
  obtain ⟨u_3, rfl, rfl, H⟩ := hp_
  refine j_w (w' := (rlW G ad 0 pf pn u d g l n fn fd ku kd kg kl kn kfn kfd u_3 td t_2 f_1 le se v)) rfl ?_
  refine j_iconst (v := 0) dX6_seekTurns_32 (by decide) ?_
  refine j_istore_n (lo' := [(2, .int 0), (0, .ref (ad 0)), (1, .int x1)]) dX6_seekTurns_33 rfl (by decide) rfl ?_
  refine j_lo [1, 2, 0] rfl ?_
  exact H
set_option maxRecDepth 20000 in
theorem sg_X6_seekTurns_34 {G : GG} {ad : Nat → Nat} {pf : Nat → Int32} {pn : Int32} {u : Nat → Nat → Int32} {d : Nat → Nat → Int32} {g : Nat → Int32} {l : Nat → Int32} {n : Int32} {fn : Nat → Int32} {fd : Nat → Nat → Int32} {ku : Nat → Nat → Int32} {kd : Nat → Nat → Int32} {kg : Nat → Int32} {kl : Nat → Int32} {kn : Int32} {kfn : Nat → Int32} {kfd : Nat → Nat → Int32} {tu : Nat → Nat → Int32} {td : Nat → Nat → Int32} {t : Nat → Int32} {wa : Nat → Int32} {le : Nat → Int32} {se : Nat → Int32} {v : Nat → Int32} {x1 : Int32} {x2 : Int32} {Q : Option Value → va_W → Prop} (H : (((720 ≤ x2) → Q none (rlW G ad 0 pf pn u d g l n fn fd ku kd kg kl kn kfn kfd tu td t wa le se v)) ∧ ((¬ 720 ≤ x2) → J G mX4_flowBy 0 [(0, .ref ((pk ad [59, 60, 61, 62, 63, 64, 65, 66, 67, 68, 69, 70, 71, 72, 73]) 0)), (1, .int x2)] [] (stW G (pk ad [59, 60, 61, 62, 63, 64, 65, 66, 67, 68, 69, 70, 71, 72, 73]) 0 tu td) (fun v_ w_ => ∃ (u_2 : Nat → Nat → Int32), v_ = none ∧ w_ = (stW G (pk ad [59, 60, 61, 62, 63, 64, 65, 66, 67, 68, 69, 70, 71, 72, 73]) 0 u_2 td) ∧ J G mX4_unlikeFlows 0 [(0, .ref ((pk ad [59, 60, 61, 62, 63, 64, 65, 66, 67, 68, 69, 70, 71, 72, 73, 4, 5, 6, 7, 8, 9, 10, 11, 12, 13, 14, 15, 16, 17, 18]) 0)), (1, .ref ((pk ad [59, 60, 61, 62, 63, 64, 65, 66, 67, 68, 69, 70, 71, 72, 73, 4, 5, 6, 7, 8, 9, 10, 11, 12, 13, 14, 15, 16, 17, 18]) 15))] [] (stW G (pk ad [59, 60, 61, 62, 63, 64, 65, 66, 67, 68, 69, 70, 71, 72, 73, 4, 5, 6, 7, 8, 9, 10, 11, 12, 13, 14, 15, 16, 17, 18]) 0 u_2 td ++ (stW G (pk ad [59, 60, 61, 62, 63, 64, 65, 66, 67, 68, 69, 70, 71, 72, 73, 4, 5, 6, 7, 8, 9, 10, 11, 12, 13, 14, 15, 16, 17, 18]) 15 u d)) (fun v_ w_ => ∃ (r_3 : Int32), v_ = some (.int r_3) ∧ w_ = (stW G (pk ad [59, 60, 61, 62, 63, 64, 65, 66, 67, 68, 69, 70, 71, 72, 73, 4, 5, 6, 7, 8, 9, 10, 11, 12, 13, 14, 15, 16, 17, 18]) 0 u_2 td ++ (stW G (pk ad [59, 60, 61, 62, 63, 64, 65, 66, 67, 68, 69, 70, 71, 72, 73, 4, 5, 6, 7, 8, 9, 10, 11, 12, 13, 14, 15, 16, 17, 18]) 15 u d)) ∧ (vp_in x1 6) ∧ (((¬ ((u_2 1) (Int32.toNatClampNeg x1)) = (-1)) → J G mX6_seekTurns 34 [(0, .ref (ad 0)), (1, .int x1), (2, .int (x2 + 1))] [] (rlW G ad 0 pf pn u d g l n fn fd ku kd kg kl kn kfn kfd u_2 td t wa le se v) Q) ∧ ((((u_2 1) (Int32.toNatClampNeg x1)) = (-1)) → J G mJ6_bitCount_0f7a4 0 [(0, .int r_3)] [] ([] : va_W) (fun v_ w_ => ∃ (r_6 : Int32), v_ = some (.int r_6) ∧ w_ = ([] : va_W) ∧ (((r_6 ≤ (t 0)) → J G mX4_clear 0 [(0, .ref ((pk ad [59, 60, 61, 62, 63, 64, 65, 66, 67, 68, 69, 70, 71, 72, 73]) 0))] [] (stW G (pk ad [59, 60, 61, 62, 63, 64, 65, 66, 67, 68, 69, 70, 71, 72, 73]) 0 u_2 td) (fun v_ w_ => ∃ (u_8 : Nat → Nat → Int32), v_ = none ∧ w_ = (stW G (pk ad [59, 60, 61, 62, 63, 64, 65, 66, 67, 68, 69, 70, 71, 72, 73]) 0 u_8 td) ∧ J G mX4_runAll 0 [(0, .ref ((pk ad [59, 60, 61, 62, 63, 64, 65, 66, 67, 68, 69, 70, 71, 72, 73, 19, 20, 21]) 0)), (1, .ref ((pk ad [59, 60, 61, 62, 63, 64, 65, 66, 67, 68, 69, 70, 71, 72, 73, 19, 20, 21]) 15)), (2, .int (-1)), (3, .int 0)] [] (stW G (pk ad [59, 60, 61, 62, 63, 64, 65, 66, 67, 68, 69, 70, 71, 72, 73, 19, 20, 21]) 0 u_8 td ++ (faW G (pk ad [59, 60, 61, 62, 63, 64, 65, 66, 67, 68, 69, 70, 71, 72, 73, 19, 20, 21]) 15 g l n)) (fun v_ w_ => ∃ (d_9 : Nat → Nat → Int32) (u_10 : Nat → Nat → Int32), v_ = none ∧ w_ = (stW G (pk ad [59, 60, 61, 62, 63, 64, 65, 66, 67, 68, 69, 70, 71, 72, 73, 19, 20, 21]) 0 u_10 d_9 ++ (faW G (pk ad [59, 60, 61, 62, 63, 64, 65, 66, 67, 68, 69, 70, 71, 72, 73, 19, 20, 21]) 15 g l n)) ∧ J G mX4_wordIs 0 [(0, .ref ((pk ad [59, 60, 61, 62, 63, 64, 65, 66, 67, 68, 69, 70, 71, 72, 73, 75]) 0)), (1, .int x1), (2, .ref ((pk ad [59, 60, 61, 62, 63, 64, 65, 66, 67, 68, 69, 70, 71, 72, 73, 75]) 15)), (3, .int pn)] [] (stW G (pk ad [59, 60, 61, 62, 63, 64, 65, 66, 67, 68, 69, 70, 71, 72, 73, 75]) 0 u_10 d_9 ++ (arW G (pk ad [59, 60, 61, 62, 63, 64, 65, 66, 67, 68, 69, 70, 71, 72, 73, 75]) 15 8 wa)) (fun v_ w_ => ∃ (r_11 : Int32), v_ = some (.int r_11) ∧ w_ = (stW G (pk ad [59, 60, 61, 62, 63, 64, 65, 66, 67, 68, 69, 70, 71, 72, 73, 75]) 0 u_10 d_9 ++ (arW G (pk ad [59, 60, 61, 62, 63, 64, 65, 66, 67, 68, 69, 70, 71, 72, 73, 75]) 15 8 wa)) ∧ (((r_11 = 0) → J G mX6_seekTurns 34 [(0, .ref (ad 0)), (1, .int x1), (2, .int (x2 + 1))] [] (rlW G ad 0 pf pn u d g l n fn fd ku kd kg kl kn kfn kfd u_10 d_9 t wa le se v) Q) ∧ ((¬ r_11 = 0) → J G mX5_add 0 [(0, .ref ((pk ad [74]) 0)), (1, .int r_3)] [] (tuW G (pk ad [74]) 0 t) (fun v_ w_ => ∃ (t_13 : Nat → Int32), v_ = none ∧ w_ = (tuW G (pk ad [74]) 0 t_13) ∧ J G mX6_seekTurns 34 [(0, .ref (ad 0)), (1, .int x1), (2, .int (x2 + 1))] [] (rlW G ad 0 pf pn u d g l n fn fd ku kd kg kl kn kfn kfd u_10 d_9 t_13 wa le se v) Q))))))) ∧ ((¬ r_6 ≤ (t 0)) → J G mX6_seekTurns 34 [(0, .ref (ad 0)), (1, .int x1), (2, .int (x2 + 1))] [] (rlW G ad 0 pf pn u d g l n fn fd ku kd kg kl kn kfn kfd u_2 td t wa le se v) Q)))))))))) : J G mX6_seekTurns 34 [(0, .ref (ad 0)), (1, .int x1), (2, .int x2)] [] (rlW G ad 0 pf pn u d g l n fn fd ku kd kg kl kn kfn kfd tu td t wa le se v) Q := by
  refine j_iload_n 2 dX6_seekTurns_34 rfl rfl ?_
  refine j_sipush (v := 720) dX6_seekTurns_35 (by decide) ?_
  refine j_icmp_ge (tgt := 153) dX6_seekTurns_38 (by decide) (fun c_1 => ?_) (fun c_1 => ?_)
  · have H := H.1 c_1
    exact j_vret dX6_seekTurns_153 rfl H
  · have H := H.2 c_1
    refine j_aload_n 0 dX6_seekTurns_41 rfl rfl ?_
    refine j_get 0 fl_X6_29 dX6_seekTurns_42 rfl rfl ?_
    refine j_iload_n 2 dX6_seekTurns_45 rfl rfl ?_
    refine j_callV (q0 := 0) (wc := (stW G (pk ad [59, 60, 61, 62, 63, 64, 65, 66, 67, 68, 69, 70, 71, 72, 73]) 0 tu td)) (As := [.int x2]) (st := []) ml_X4_flowBy vl_X6_243 dX6_seekTurns_46 [none, none, none, none, none, none, none, none, none, none, none, none, none, none, none, none, none, none, none, none, none, none, none, none, none, none, none, none, none, none, none, none, none, none, none, none, none, none, none, none, none, none, none, none, none, none, none, none, none, none, none, none, none, none, none, none, none, none, none, some 0, some 1, some 2, some 3, some 4, some 5, some 6, some 7, some 8, some 9, some 10, some 11, some 12, some 13, some 14] ⟨rfl, Nat.le_of_ble_eq_true rfl, rfl, rfl⟩ rfl rfl rfl (Nat.le_of_ble_eq_true rfl) ⟨by decide, by decide⟩ rfl rfl (Nat.le_of_ble_eq_true rfl) (J.mono (fun v_ w_ hp_ => ?_) H)
    obtain ⟨u_2, rfl, rfl, H⟩ := hp_
    refine j_w (w' := (rlW G ad 0 pf pn u d g l n fn fd ku kd kg kl kn kfn kfd u_2 td t wa le se v)) rfl ?_
    refine j_aload_n 0 dX6_seekTurns_49 rfl rfl ?_
    refine j_get 0 fl_X6_29 dX6_seekTurns_50 rfl rfl ?_
    refine j_aload_n 0 dX6_seekTurns_53 rfl rfl ?_
    refine j_get 0 fl_X6_19 dX6_seekTurns_54 rfl rfl ?_
    refine j_get 3 fl_X6_65 dX6_seekTurns_57 rfl rfl ?_
    refine j_callV (q0 := 0) (wc := (stW G (pk ad [59, 60, 61, 62, 63, 64, 65, 66, 67, 68, 69, 70, 71, 72, 73, 4, 5, 6, 7, 8, 9, 10, 11, 12, 13, 14, 15, 16, 17, 18]) 0 u_2 td ++ (stW G (pk ad [59, 60, 61, 62, 63, 64, 65, 66, 67, 68, 69, 70, 71, 72, 73, 4, 5, 6, 7, 8, 9, 10, 11, 12, 13, 14, 15, 16, 17, 18]) 15 u d))) (As := [.ref ((pk ad [59, 60, 61, 62, 63, 64, 65, 66, 67, 68, 69, 70, 71, 72, 73, 4, 5, 6, 7, 8, 9, 10, 11, 12, 13, 14, 15, 16, 17, 18]) 15)]) (st := []) ml_X4_unlikeFlows vl_X6_246 dX6_seekTurns_60 [none, none, none, none, some 15, some 16, some 17, some 18, some 19, some 20, some 21, some 22, some 23, some 24, some 25, some 26, some 27, some 28, some 29, none, none, none, none, none, none, none, none, none, none, none, none, none, none, none, none, none, none, none, none, none, none, none, none, none, none, none, none, none, none, none, none, none, none, none, none, none, none, none, none, some 0, some 1, some 2, some 3, some 4, some 5, some 6, some 7, some 8, some 9, some 10, some 11, some 12, some 13, some 14] ⟨rfl, Nat.le_of_ble_eq_true rfl, rfl, rfl⟩ rfl rfl rfl (Nat.le_of_ble_eq_true rfl) ⟨by decide, by decide⟩ rfl rfl (Nat.le_of_ble_eq_true rfl) (J.mono (fun v_ w_ hp_ => ?_) H)
    obtain ⟨r_3, rfl, rfl, H⟩ := hp_
    refine j_w (w' := (rlW G ad 0 pf pn u d g l n fn fd ku kd kg kl kn kfn kfd u_2 td t wa le se v)) rfl ?_
    refine j_istore_n (lo' := [(3, .int r_3), (0, .ref (ad 0)), (1, .int x1), (2, .int x2)]) dX6_seekTurns_63 rfl (by decide) rfl ?_
    refine j_aload_n 1 dX6_seekTurns_64 rfl rfl ?_
    refine j_get 0 fl_X6_29 dX6_seekTurns_65 rfl rfl ?_
    refine j_get 59 fl_X6_74 dX6_seekTurns_68 rfl rfl ?_
    refine j_iload_n 2 dX6_seekTurns_71 rfl rfl ?_
    obtain ⟨h_4, H⟩ := H
    refine j_iald 61 dX6_seekTurns_72 rfl h_4 ?_
    refine j_iconst (v := (-1)) dX6_seekTurns_73 (by decide) ?_
    refine j_icmp_ne (tgt := 147) dX6_seekTurns_74 (by decide) (fun c_5 => ?_) (fun c_5 => ?_)
    · have H := H.1 c_5
      refine j_iinc (v := (x2 + 1)) (lo' := [(2, .int (x2 + 1)), (3, .int r_3), (0, .ref (ad 0)), (1, .int x1)]) 3 dX6_seekTurns_147 rfl rfl (by decide) rfl ?_
      refine j_goto (tgt := 34) dX6_seekTurns_150 (by decide) ?_
      refine j_lo [2, 3, 0] rfl ?_
      exact H
    · have H := H.2 c_5
      refine j_iload_n 0 dX6_seekTurns_77 rfl rfl ?_
      refine j_callS0 (As := [.int r_3]) (st := []) ml_J6_bitCount_0f7a4 sl_X6_250 dX6_seekTurns_78 (Nat.le_of_ble_eq_true rfl) ⟨by decide, by decide⟩ rfl rfl (Nat.le_of_ble_eq_true rfl) (J.mono (fun v_ w_ hp_ => ?_) H)
      obtain ⟨r_6, rfl, rfl, H⟩ := hp_
      refine j_aload_n 1 dX6_seekTurns_81 rfl rfl ?_
      refine j_get 0 fl_X6_36 dX6_seekTurns_82 rfl rfl ?_
      refine j_get 74 fl_X6_255 dX6_seekTurns_85 rfl rfl ?_
      refine j_icmp_le (tgt := 94) dX6_seekTurns_88 (by decide) (fun c_7 => ?_) (fun c_7 => ?_)
      · have H := H.1 c_7
        refine j_aload_n 1 dX6_seekTurns_94 rfl rfl ?_
        refine j_get 0 fl_X6_29 dX6_seekTurns_95 rfl rfl ?_
        refine j_callV (q0 := 0) (wc := (stW G (pk ad [59, 60, 61, 62, 63, 64, 65, 66, 67, 68, 69, 70, 71, 72, 73]) 0 u_2 td)) (As := []) (st := []) ml_X4_clear vl_X6_81 dX6_seekTurns_98 [none, none, none, none, none, none, none, none, none, none, none, none, none, none, none, none, none, none, none, none, none, none, none, none, none, none, none, none, none, none, none, none, none, none, none, none, none, none, none, none, none, none, none, none, none, none, none, none, none, none, none, none, none, none, none, none, none, none, none, some 0, some 1, some 2, some 3, some 4, some 5, some 6, some 7, some 8, some 9, some 10, some 11, some 12, some 13, some 14] ⟨rfl, Nat.le_of_ble_eq_true rfl, rfl, rfl⟩ rfl rfl rfl (Nat.le_of_ble_eq_true rfl) ⟨by decide, by decide⟩ rfl rfl (Nat.le_of_ble_eq_true rfl) (J.mono (fun v_ w_ hp_ => ?_) H)
        obtain ⟨u_8, rfl, rfl, H⟩ := hp_
        refine j_w (w' := (rlW G ad 0 pf pn u d g l n fn fd ku kd kg kl kn kfn kfd u_8 td t wa le se v)) rfl ?_
        refine j_aload_n 1 dX6_seekTurns_101 rfl rfl ?_
        refine j_get 0 fl_X6_29 dX6_seekTurns_102 rfl rfl ?_
        refine j_aload_n 1 dX6_seekTurns_105 rfl rfl ?_
        refine j_get 0 fl_X6_19 dX6_seekTurns_106 rfl rfl ?_
        refine j_get 3 fl_X6_84 dX6_seekTurns_109 rfl rfl ?_
        refine j_iconst (v := (-1)) dX6_seekTurns_112 (by decide) ?_
        refine j_iconst (v := 0) dX6_seekTurns_113 (by decide) ?_
        refine j_callV (q0 := 0) (wc := (stW G (pk ad [59, 60, 61, 62, 63, 64, 65, 66, 67, 68, 69, 70, 71, 72, 73, 19, 20, 21]) 0 u_8 td ++ (faW G (pk ad [59, 60, 61, 62, 63, 64, 65, 66, 67, 68, 69, 70, 71, 72, 73, 19, 20, 21]) 15 g l n))) (As := [.ref ((pk ad [59, 60, 61, 62, 63, 64, 65, 66, 67, 68, 69, 70, 71, 72, 73, 19, 20, 21]) 15), .int (-1), .int 0]) (st := []) ml_X4_runAll vl_X6_174 dX6_seekTurns_114 [none, none, none, none, none, none, none, none, none, none, none, none, none, none, none, none, none, none, none, some 15, some 16, some 17, none, none, none, none, none, none, none, none, none, none, none, none, none, none, none, none, none, none, none, none, none, none, none, none, none, none, none, none, none, none, none, none, none, none, none, none, none, some 0, some 1, some 2, some 3, some 4, some 5, some 6, some 7, some 8, some 9, some 10, some 11, some 12, some 13, some 14] ⟨rfl, Nat.le_of_ble_eq_true rfl, rfl, rfl⟩ rfl rfl rfl (Nat.le_of_ble_eq_true rfl) ⟨by decide, by decide⟩ rfl rfl (Nat.le_of_ble_eq_true rfl) (J.mono (fun v_ w_ hp_ => ?_) H)
        obtain ⟨d_9, u_10, rfl, rfl, H⟩ := hp_
        refine j_w (w' := (rlW G ad 0 pf pn u d g l n fn fd ku kd kg kl kn kfn kfd u_10 d_9 t wa le se v)) rfl ?_
        refine j_aload_n 1 dX6_seekTurns_117 rfl rfl ?_
        refine j_get 0 fl_X6_29 dX6_seekTurns_118 rfl rfl ?_
        refine j_iload_n 2 dX6_seekTurns_121 rfl rfl ?_
        refine j_aload_n 1 dX6_seekTurns_122 rfl rfl ?_
        refine j_get 0 fl_X6_40 dX6_seekTurns_123 rfl rfl ?_
        refine j_aload_n 1 dX6_seekTurns_126 rfl rfl ?_
        refine j_get 0 fl_X6_10 dX6_seekTurns_127 rfl rfl ?_
        refine j_get 1 fl_X6_50 dX6_seekTurns_130 rfl rfl ?_
        refine j_callV (q0 := 0) (wc := (stW G (pk ad [59, 60, 61, 62, 63, 64, 65, 66, 67, 68, 69, 70, 71, 72, 73, 75]) 0 u_10 d_9 ++ (arW G (pk ad [59, 60, 61, 62, 63, 64, 65, 66, 67, 68, 69, 70, 71, 72, 73, 75]) 15 8 wa))) (As := [.int x1, .ref ((pk ad [59, 60, 61, 62, 63, 64, 65, 66, 67, 68, 69, 70, 71, 72, 73, 75]) 15), .int pn]) (st := []) ml_X4_wordIs vl_X6_258 dX6_seekTurns_133 [none, none, none, none, none, none, none, none, none, none, none, none, none, none, none, none, none, none, none, none, none, none, none, none, none, none, none, none, none, none, none, none, none, none, none, none, none, none, none, none, none, none, none, none, none, none, none, none, none, none, none, none, none, none, none, none, none, none, none, some 0, some 1, some 2, some 3, some 4, some 5, some 6, some 7, some 8, some 9, some 10, some 11, some 12, some 13, some 14, none, some 15] ⟨rfl, Nat.le_of_ble_eq_true rfl, rfl, rfl⟩ rfl rfl rfl (Nat.le_of_ble_eq_true rfl) ⟨by decide, by decide⟩ rfl rfl (Nat.le_of_ble_eq_true rfl) (J.mono (fun v_ w_ hp_ => ?_) H)
        obtain ⟨r_11, rfl, rfl, H⟩ := hp_
        refine j_w (w' := (rlW G ad 0 pf pn u d g l n fn fd ku kd kg kl kn kfn kfd u_10 d_9 t wa le se v)) rfl ?_
        refine j_if_eq (tgt := 147) dX6_seekTurns_136 (by decide) (fun c_12 => ?_) (fun c_12 => ?_)
        · have H := H.1 c_12
          refine j_iinc (v := (x2 + 1)) (lo' := [(2, .int (x2 + 1)), (3, .int r_3), (0, .ref (ad 0)), (1, .int x1)]) 3 dX6_seekTurns_147 rfl rfl (by decide) rfl ?_
          refine j_goto (tgt := 34) dX6_seekTurns_150 (by decide) ?_
          refine j_lo [2, 3, 0] rfl ?_
          exact H
        · have H := H.2 c_12
          refine j_aload_n 1 dX6_seekTurns_139 rfl rfl ?_
          refine j_get 0 fl_X6_36 dX6_seekTurns_140 rfl rfl ?_
          refine j_iload_n 0 dX6_seekTurns_143 rfl rfl ?_
          refine j_callV (q0 := 0) (wc := (tuW G (pk ad [74]) 0 t)) (As := [.int r_3]) (st := []) ml_X5_add vl_X6_262 dX6_seekTurns_144 [none, none, none, none, none, none, none, none, none, none, none, none, none, none, none, none, none, none, none, none, none, none, none, none, none, none, none, none, none, none, none, none, none, none, none, none, none, none, none, none, none, none, none, none, none, none, none, none, none, none, none, none, none, none, none, none, none, none, none, none, none, none, none, none, none, none, none, none, none, none, none, none, none, none, some 0] ⟨rfl, Nat.le_of_ble_eq_true rfl, rfl, rfl⟩ rfl rfl rfl (Nat.le_of_ble_eq_true rfl) ⟨by decide, by decide⟩ rfl rfl (Nat.le_of_ble_eq_true rfl) (J.mono (fun v_ w_ hp_ => ?_) H)
          obtain ⟨t_13, rfl, rfl, H⟩ := hp_
          refine j_w (w' := (rlW G ad 0 pf pn u d g l n fn fd ku kd kg kl kn kfn kfd u_10 d_9 t_13 wa le se v)) rfl ?_
          refine j_iinc (v := (x2 + 1)) (lo' := [(2, .int (x2 + 1)), (3, .int r_3), (0, .ref (ad 0)), (1, .int x1)]) 3 dX6_seekTurns_147 rfl rfl (by decide) rfl ?_
          refine j_goto (tgt := 34) dX6_seekTurns_150 (by decide) ?_
          refine j_lo [2, 3, 0] rfl ?_
          exact H
      · have H := H.2 c_7
        refine j_goto (tgt := 147) dX6_seekTurns_91 (by decide) ?_
        refine j_iinc (v := (x2 + 1)) (lo' := [(2, .int (x2 + 1)), (3, .int r_3), (0, .ref (ad 0)), (1, .int x1)]) 3 dX6_seekTurns_147 rfl rfl (by decide) rfl ?_
        refine j_goto (tgt := 34) dX6_seekTurns_150 (by decide) ?_
        refine j_lo [2, 3, 0] rfl ?_
        exact H
set_option maxRecDepth 20000 in
theorem sg_X6_fewTurns_0 {G : GG} {ad : Nat → Nat} {pf : Nat → Int32} {pn : Int32} {u : Nat → Nat → Int32} {d : Nat → Nat → Int32} {g : Nat → Int32} {l : Nat → Int32} {n : Int32} {fn : Nat → Int32} {fd : Nat → Nat → Int32} {ku : Nat → Nat → Int32} {kd : Nat → Nat → Int32} {kg : Nat → Int32} {kl : Nat → Int32} {kn : Int32} {kfn : Nat → Int32} {kfd : Nat → Nat → Int32} {tu : Nat → Nat → Int32} {td : Nat → Nat → Int32} {t : Nat → Int32} {wa : Nat → Int32} {le : Nat → Int32} {se : Nat → Int32} {v : Nat → Int32} {x1 : Int32} {x2 : Int32} {Q : Option Value → va_W → Prop} (H : J G mX6_isGutter 0 [(0, .ref (ad 0)), (1, .int x1)] [] (rlW G ad 0 pf pn u d g l n fn fd ku kd kg kl kn kfn kfd tu td t wa le se v) (fun v_ w_ => ∃ (r_1 : Int32), v_ = some (.int r_1) ∧ w_ = (rlW G ad 0 pf pn u d g l n fn fd ku kd kg kl kn kfn kfd tu td t wa le se v) ∧ (((¬ r_1 = 0) → (((x2 < 0) → Q (some (.int (-102))) (rlW G ad 0 pf pn u d g l n fn fd ku kd kg kl kn kfn kfd tu td t wa le se v)) ∧ ((¬ x2 < 0) → (((x2 ≤ 2) → J G mX2_isWord 0 [(0, .ref ((pk ad [1, 2]) 0))] [] (pgW G (pk ad [1, 2]) 0 pf pn) (fun v_ w_ => ∃ (r_5 : Int32), v_ = some (.int r_5) ∧ w_ = (pgW G (pk ad [1, 2]) 0 pf pn) ∧ (((r_5 = 0) → Q (some (.int (-103))) (rlW G ad 0 pf pn u d g l n fn fd ku kd kg kl kn kfn kfd tu td t wa le se v)) ∧ ((¬ r_5 = 0) → ((((v 2) < 20) → J G mX6_seekTurns 0 [(0, .ref (ad 0)), (1, .int x1)] [] (rlW G ad 0 pf pn u d g l n fn fd ku kd kg kl kn kfn kfd tu td t wa le se (va_up v 2 ((v 2) + 1))) (fun v_ w_ => ∃ (t_8 : Nat → Int32) (td_9 : Nat → Nat → Int32) (tu_10 : Nat → Nat → Int32) (wa_11 : Nat → Int32), v_ = none ∧ w_ = (rlW G ad 0 pf pn u d g l n fn fd ku kd kg kl kn kfn kfd tu_10 td_9 t_8 wa_11 le se (va_up v 2 ((v 2) + 1))) ∧ J G mX5_tell 0 [(0, .ref ((pk ad [74]) 0)), (1, .int x2)] [] (tuW G (pk ad [74]) 0 t_8) (fun v_ w_ => ∃ (r_12 : Int32), v_ = some (.int r_12) ∧ w_ = (tuW G (pk ad [74]) 0 t_8) ∧ Q (some (.int r_12)) (rlW G ad 0 pf pn u d g l n fn fd ku kd kg kl kn kfn kfd tu_10 td_9 t_8 wa_11 le se (va_up v 2 ((v 2) + 1)))))) ∧ ((¬ (v 2) < 20) → Q (some (.int (-103))) (rlW G ad 0 pf pn u d g l n fn fd ku kd kg kl kn kfn kfd tu td t wa le se v))))))) ∧ ((¬ x2 ≤ 2) → Q (some (.int (-102))) (rlW G ad 0 pf pn u d g l n fn fd ku kd kg kl kn kfn kfd tu td t wa le se v)))))) ∧ ((r_1 = 0) → Q (some (.int (-101))) (rlW G ad 0 pf pn u d g l n fn fd ku kd kg kl kn kfn kfd tu td t wa le se v))))) : J G mX6_fewTurns 0 [(0, .ref (ad 0)), (1, .int x1), (2, .int x2)] [] (rlW G ad 0 pf pn u d g l n fn fd ku kd kg kl kn kfn kfd tu td t wa le se v) Q := by
  refine j_aload_n 0 dX6_fewTurns_0 rfl rfl ?_
  refine j_iload_n 1 dX6_fewTurns_1 rfl rfl ?_
  refine j_callV0 (q0 := 0) (As := [.int x1]) (st := []) ml_X6_isGutter vl_X6_109 dX6_fewTurns_2 rfl rfl rfl (Nat.le_of_ble_eq_true rfl) ⟨by decide, by decide⟩ rfl rfl (Nat.le_of_ble_eq_true rfl) (J.mono (fun v_ w_ hp_ => ?_) H)
  obtain ⟨r_1, rfl, rfl, H⟩ := hp_
  refine j_if_ne (tgt := 11) dX6_fewTurns_5 (by decide) (fun c_2 => ?_) (fun c_2 => ?_)
  · have H := H.1 c_2
    refine j_iload_n 2 dX6_fewTurns_11 rfl rfl ?_
    refine j_if_lt (tgt := 20) dX6_fewTurns_12 (by decide) (fun c_3 => ?_) (fun c_3 => ?_)
    · have H := H.1 c_3
      refine j_bipush (v := (-102)) dX6_fewTurns_20 (by decide) ?_
      exact j_iret dX6_fewTurns_22 rfl H
    · have H := H.2 c_3
      refine j_iload_n 2 dX6_fewTurns_15 rfl rfl ?_
      refine j_iconst (v := 2) dX6_fewTurns_16 (by decide) ?_
      refine j_icmp_le (tgt := 23) dX6_fewTurns_17 (by decide) (fun c_4 => ?_) (fun c_4 => ?_)
      · have H := H.1 c_4
        refine j_aload_n 0 dX6_fewTurns_23 rfl rfl ?_
        refine j_get 0 fl_X6_10 dX6_fewTurns_24 rfl rfl ?_
        refine j_callV (q0 := 0) (wc := (pgW G (pk ad [1, 2]) 0 pf pn)) (As := []) (st := []) ml_X2_isWord vl_X6_151 dX6_fewTurns_27 [none, some 0, some 1] ⟨rfl, Nat.le_of_ble_eq_true rfl, rfl, rfl⟩ rfl rfl rfl (Nat.le_of_ble_eq_true rfl) ⟨by decide, by decide⟩ rfl rfl (Nat.le_of_ble_eq_true rfl) (J.mono (fun v_ w_ hp_ => ?_) H)
        obtain ⟨r_5, rfl, rfl, H⟩ := hp_
        refine j_w (w' := (rlW G ad 0 pf pn u d g l n fn fd ku kd kg kl kn kfn kfd tu td t wa le se v)) rfl ?_
        refine j_if_eq (tgt := 42) dX6_fewTurns_30 (by decide) (fun c_6 => ?_) (fun c_6 => ?_)
        · have H := H.1 c_6
          refine j_bipush (v := (-103)) dX6_fewTurns_42 (by decide) ?_
          exact j_iret dX6_fewTurns_44 rfl H
        · have H := H.2 c_6
          refine j_aload_n 0 dX6_fewTurns_33 rfl rfl ?_
          refine j_get 0 fl_X6_154 dX6_fewTurns_34 rfl rfl ?_
          refine j_bipush (v := 20) dX6_fewTurns_37 (by decide) ?_
          refine j_icmp_lt (tgt := 45) dX6_fewTurns_39 (by decide) (fun c_7 => ?_) (fun c_7 => ?_)
          · have H := H.1 c_7
            refine j_aload_n 0 dX6_fewTurns_45 rfl rfl ?_
            refine j_dup dX6_fewTurns_46 rfl ?_
            refine j_get 0 fl_X6_154 dX6_fewTurns_47 rfl rfl ?_
            refine j_iconst (v := 1) dX6_fewTurns_50 (by decide) ?_
            refine j_iadd dX6_fewTurns_51 ?_
            refine j_put (w' := (rlW G ad 0 pf pn u d g l n fn fd ku kd kg kl kn kfn kfd tu td t wa le se (va_up v 2 ((v 2) + 1)))) 0 fp_X6_154 dX6_fewTurns_52 rfl rfl rfl (Nat.le_of_ble_eq_true rfl) rfl ?_
            refine j_aload_n 0 dX6_fewTurns_55 rfl rfl ?_
            refine j_iload_n 1 dX6_fewTurns_56 rfl rfl ?_
            refine j_callV0 (q0 := 0) (As := [.int x1]) (st := []) ml_X6_seekTurns vl_X6_157 dX6_fewTurns_57 rfl rfl rfl (Nat.le_of_ble_eq_true rfl) ⟨by decide, by decide⟩ rfl rfl (Nat.le_of_ble_eq_true rfl) (J.mono (fun v_ w_ hp_ => ?_) H)
            obtain ⟨t_8, td_9, tu_10, wa_11, rfl, rfl, H⟩ := hp_
            refine j_aload_n 0 dX6_fewTurns_60 rfl rfl ?_
            refine j_get 0 fl_X6_36 dX6_fewTurns_61 rfl rfl ?_
            refine j_iload_n 2 dX6_fewTurns_64 rfl rfl ?_
            refine j_callV (q0 := 0) (wc := (tuW G (pk ad [74]) 0 t_8)) (As := [.int x2]) (st := []) ml_X5_tell vl_X6_161 dX6_fewTurns_65 [none, none, none, none, none, none, none, none, none, none, none, none, none, none, none, none, none, none, none, none, none, none, none, none, none, none, none, none, none, none, none, none, none, none, none, none, none, none, none, none, none, none, none, none, none, none, none, none, none, none, none, none, none, none, none, none, none, none, none, none, none, none, none, none, none, none, none, none, none, none, none, none, none, none, some 0] ⟨rfl, Nat.le_of_ble_eq_true rfl, rfl, rfl⟩ rfl rfl rfl (Nat.le_of_ble_eq_true rfl) ⟨by decide, by decide⟩ rfl rfl (Nat.le_of_ble_eq_true rfl) (J.mono (fun v_ w_ hp_ => ?_) H)
            obtain ⟨r_12, rfl, rfl, H⟩ := hp_
            refine j_w (w' := (rlW G ad 0 pf pn u d g l n fn fd ku kd kg kl kn kfn kfd tu_10 td_9 t_8 wa_11 le se (va_up v 2 ((v 2) + 1)))) rfl ?_
            exact j_iret dX6_fewTurns_68 rfl H
          · have H := H.2 c_7
            refine j_bipush (v := (-103)) dX6_fewTurns_42 (by decide) ?_
            exact j_iret dX6_fewTurns_44 rfl H
      · have H := H.2 c_4
        refine j_bipush (v := (-102)) dX6_fewTurns_20 (by decide) ?_
        exact j_iret dX6_fewTurns_22 rfl H
  · have H := H.2 c_2
    refine j_bipush (v := (-101)) dX6_fewTurns_8 (by decide) ?_
    exact j_iret dX6_fewTurns_10 rfl H
set_option maxRecDepth 20000 in
theorem sg_X6_forget_0 {G : GG} {ad : Nat → Nat} {pf : Nat → Int32} {pn : Int32} {u : Nat → Nat → Int32} {d : Nat → Nat → Int32} {g : Nat → Int32} {l : Nat → Int32} {n : Int32} {fn : Nat → Int32} {fd : Nat → Nat → Int32} {ku : Nat → Nat → Int32} {kd : Nat → Nat → Int32} {kg : Nat → Int32} {kl : Nat → Int32} {kn : Int32} {kfn : Nat → Int32} {kfd : Nat → Nat → Int32} {tu : Nat → Nat → Int32} {td : Nat → Nat → Int32} {t : Nat → Int32} {wa : Nat → Int32} {le : Nat → Int32} {se : Nat → Int32} {v : Nat → Int32} {Q : Option Value → va_W → Prop} (H : J G mX1_countFound 0 [(0, .ref ((pk ad [22, 23, 24, 25, 26, 27, 28, 29, 30]) 0))] [] (fiW G (pk ad [22, 23, 24, 25, 26, 27, 28, 29, 30]) 0 fn fd) (fun v_ w_ => ∃ (r_1 : Int32), v_ = some (.int r_1) ∧ w_ = (fiW G (pk ad [22, 23, 24, 25, 26, 27, 28, 29, 30]) 0 fn fd) ∧ J G mX1_clear 0 [(0, .ref ((pk ad [22, 23, 24, 25, 26, 27, 28, 29, 30]) 0))] [] (fiW G (pk ad [22, 23, 24, 25, 26, 27, 28, 29, 30]) 0 fn fd) (fun v_ w_ => ∃ (fn_2 : Nat → Int32), v_ = none ∧ w_ = (fiW G (pk ad [22, 23, 24, 25, 26, 27, 28, 29, 30]) 0 fn_2 fd) ∧ Q (some (.int r_1)) (rlW G ad 0 pf pn u d g l n fn_2 fd ku kd kg kl kn kfn kfd tu td t wa le se v)))) : J G mX6_forget 0 [(0, .ref (ad 0))] [] (rlW G ad 0 pf pn u d g l n fn fd ku kd kg kl kn kfn kfd tu td t wa le se v) Q := by
  refine j_aload_n 0 dX6_forget_0 rfl rfl ?_
  refine j_get 0 fl_X6_19 dX6_forget_1 rfl rfl ?_
  refine j_get 3 fl_X6_91 dX6_forget_4 rfl rfl ?_
  refine j_callV (q0 := 0) (wc := (fiW G (pk ad [22, 23, 24, 25, 26, 27, 28, 29, 30]) 0 fn fd)) (As := []) (st := []) ml_X1_countFound vl_X6_187 dX6_forget_7 [none, none, none, none, none, none, none, none, none, none, none, none, none, none, none, none, none, none, none, none, none, none, some 0, some 1, some 2, some 3, some 4, some 5, some 6, some 7, some 8] ⟨rfl, Nat.le_of_ble_eq_true rfl, rfl, rfl⟩ rfl rfl rfl (Nat.le_of_ble_eq_true rfl) ⟨by decide, by decide⟩ rfl rfl (Nat.le_of_ble_eq_true rfl) (J.mono (fun v_ w_ hp_ => ?_) H)
  obtain ⟨r_1, rfl, rfl, H⟩ := hp_
  refine j_w (w' := (rlW G ad 0 pf pn u d g l n fn fd ku kd kg kl kn kfn kfd tu td t wa le se v)) rfl ?_
  refine j_istore_n (lo' := [(1, .int r_1), (0, .ref (ad 0))]) dX6_forget_10 rfl (by decide) rfl ?_
  refine j_aload_n 1 dX6_forget_11 rfl rfl ?_
  refine j_get 0 fl_X6_19 dX6_forget_12 rfl rfl ?_
  refine j_get 3 fl_X6_91 dX6_forget_15 rfl rfl ?_
  refine j_callV (q0 := 0) (wc := (fiW G (pk ad [22, 23, 24, 25, 26, 27, 28, 29, 30]) 0 fn fd)) (As := []) (st := []) ml_X1_clear vl_X6_95 dX6_forget_18 [none, none, none, none, none, none, none, none, none, none, none, none, none, none, none, none, none, none, none, none, none, none, some 0, some 1, some 2, some 3, some 4, some 5, some 6, some 7, some 8] ⟨rfl, Nat.le_of_ble_eq_true rfl, rfl, rfl⟩ rfl rfl rfl (Nat.le_of_ble_eq_true rfl) ⟨by decide, by decide⟩ rfl rfl (Nat.le_of_ble_eq_true rfl) (J.mono (fun v_ w_ hp_ => ?_) H)
  obtain ⟨fn_2, rfl, rfl, H⟩ := hp_
  refine j_w (w' := (rlW G ad 0 pf pn u d g l n fn_2 fd ku kd kg kl kn kfn kfd tu td t wa le se v)) rfl ?_
  refine j_iload_n 0 dX6_forget_21 rfl rfl ?_
  exact j_iret dX6_forget_22 rfl H
set_option maxRecDepth 20000 in
theorem sg_X6_found_0 {G : GG} {ad : Nat → Nat} {pf : Nat → Int32} {pn : Int32} {u : Nat → Nat → Int32} {d : Nat → Nat → Int32} {g : Nat → Int32} {l : Nat → Int32} {n : Int32} {fn : Nat → Int32} {fd : Nat → Nat → Int32} {ku : Nat → Nat → Int32} {kd : Nat → Nat → Int32} {kg : Nat → Int32} {kl : Nat → Int32} {kn : Int32} {kfn : Nat → Int32} {kfd : Nat → Nat → Int32} {tu : Nat → Nat → Int32} {td : Nat → Nat → Int32} {t : Nat → Int32} {wa : Nat → Int32} {le : Nat → Int32} {se : Nat → Int32} {v : Nat → Int32} {x1 : Int32} {Q : Option Value → va_W → Prop} (H : J G mX6_isGutter 0 [(0, .ref (ad 0)), (1, .int x1)] [] (rlW G ad 0 pf pn u d g l n fn fd ku kd kg kl kn kfn kfd tu td t wa le se v) (fun v_ w_ => ∃ (r_1 : Int32), v_ = some (.int r_1) ∧ w_ = (rlW G ad 0 pf pn u d g l n fn fd ku kd kg kl kn kfn kfd tu td t wa le se v) ∧ (((¬ r_1 = 0) → (((pn = 0) → (vp_in x1 6) ∧ J G mX2_copyLetters 0 [(0, .ref ((pk ad [1, 2, 25 + (Int32.toNatClampNeg x1)]) 0)), (1, .ref ((pk ad [1, 2, 25 + (Int32.toNatClampNeg x1)]) 2))] [] (pgW G (pk ad [1, 2, 25 + (Int32.toNatClampNeg x1)]) 0 pf pn ++ (arW G (pk ad [1, 2, 25 + (Int32.toNatClampNeg x1)]) 2 8 (fd (Int32.toNatClampNeg x1)))) (fun v_ w_ => ∃ (f_5 : Nat → Int32), v_ = none ∧ w_ = (pgW G (pk ad [1, 2, 25 + (Int32.toNatClampNeg x1)]) 0 pf pn ++ (arW G (pk ad [1, 2, 25 + (Int32.toNatClampNeg x1)]) 2 8 f_5)) ∧ J G mX1_countFound 0 [(0, .ref ((pk ad [22, 23, 24, 25, 26, 27, 28, 29, 30]) 0))] [] (fiW G (pk ad [22, 23, 24, 25, 26, 27, 28, 29, 30]) 0 (upd fn (Int32.toNatClampNeg x1) pn) (va_up fd (Int32.toNatClampNeg x1) f_5)) (fun v_ w_ => ∃ (r_6 : Int32), v_ = some (.int r_6) ∧ w_ = (fiW G (pk ad [22, 23, 24, 25, 26, 27, 28, 29, 30]) 0 (upd fn (Int32.toNatClampNeg x1) pn) (va_up fd (Int32.toNatClampNeg x1) f_5)) ∧ Q (some (.int r_6)) (rlW G ad 0 pf 0 u d g l n (upd fn (Int32.toNatClampNeg x1) pn) (va_up fd (Int32.toNatClampNeg x1) f_5) ku kd kg kl kn kfn kfd tu td t wa le se v)))) ∧ ((¬ pn = 0) → J G mX2_isWord 0 [(0, .ref ((pk ad [1, 2]) 0))] [] (pgW G (pk ad [1, 2]) 0 pf pn) (fun v_ w_ => ∃ (r_7 : Int32), v_ = some (.int r_7) ∧ w_ = (pgW G (pk ad [1, 2]) 0 pf pn) ∧ (((¬ r_7 = 0) → (vp_in x1 6) ∧ J G mX2_copyLetters 0 [(0, .ref ((pk ad [1, 2, 25 + (Int32.toNatClampNeg x1)]) 0)), (1, .ref ((pk ad [1, 2, 25 + (Int32.toNatClampNeg x1)]) 2))] [] (pgW G (pk ad [1, 2, 25 + (Int32.toNatClampNeg x1)]) 0 pf pn ++ (arW G (pk ad [1, 2, 25 + (Int32.toNatClampNeg x1)]) 2 8 (fd (Int32.toNatClampNeg x1)))) (fun v_ w_ => ∃ (f_10 : Nat → Int32), v_ = none ∧ w_ = (pgW G (pk ad [1, 2, 25 + (Int32.toNatClampNeg x1)]) 0 pf pn ++ (arW G (pk ad [1, 2, 25 + (Int32.toNatClampNeg x1)]) 2 8 f_10)) ∧ J G mX1_countFound 0 [(0, .ref ((pk ad [22, 23, 24, 25, 26, 27, 28, 29, 30]) 0))] [] (fiW G (pk ad [22, 23, 24, 25, 26, 27, 28, 29, 30]) 0 (upd fn (Int32.toNatClampNeg x1) pn) (va_up fd (Int32.toNatClampNeg x1) f_10)) (fun v_ w_ => ∃ (r_11 : Int32), v_ = some (.int r_11) ∧ w_ = (fiW G (pk ad [22, 23, 24, 25, 26, 27, 28, 29, 30]) 0 (upd fn (Int32.toNatClampNeg x1) pn) (va_up fd (Int32.toNatClampNeg x1) f_10)) ∧ Q (some (.int r_11)) (rlW G ad 0 pf 0 u d g l n (upd fn (Int32.toNatClampNeg x1) pn) (va_up fd (Int32.toNatClampNeg x1) f_10) ku kd kg kl kn kfn kfd tu td t wa le se v)))) ∧ ((r_7 = 0) → Q (some (.int (-103))) (rlW G ad 0 pf pn u d g l n fn fd ku kd kg kl kn kfn kfd tu td t wa le se v))))))) ∧ ((r_1 = 0) → Q (some (.int (-101))) (rlW G ad 0 pf pn u d g l n fn fd ku kd kg kl kn kfn kfd tu td t wa le se v))))) : J G mX6_found 0 [(0, .ref (ad 0)), (1, .int x1)] [] (rlW G ad 0 pf pn u d g l n fn fd ku kd kg kl kn kfn kfd tu td t wa le se v) Q := by
  refine j_aload_n 0 dX6_found_0 rfl rfl ?_
  refine j_iload_n 1 dX6_found_1 rfl rfl ?_
  refine j_callV0 (q0 := 0) (As := [.int x1]) (st := []) ml_X6_isGutter vl_X6_109 dX6_found_2 rfl rfl rfl (Nat.le_of_ble_eq_true rfl) ⟨by decide, by decide⟩ rfl rfl (Nat.le_of_ble_eq_true rfl) (J.mono (fun v_ w_ hp_ => ?_) H)
  obtain ⟨r_1, rfl, rfl, H⟩ := hp_
  refine j_if_ne (tgt := 11) dX6_found_5 (by decide) (fun c_2 => ?_) (fun c_2 => ?_)
  · have H := H.1 c_2
    refine j_aload_n 0 dX6_found_11 rfl rfl ?_
    refine j_get 0 fl_X6_10 dX6_found_12 rfl rfl ?_
    refine j_get 1 fl_X6_50 dX6_found_15 rfl rfl ?_
    refine j_if_eq (tgt := 34) dX6_found_18 (by decide) (fun c_3 => ?_) (fun c_3 => ?_)
    · have H := H.1 c_3
      refine j_aload_n 0 dX6_found_34 rfl rfl ?_
      refine j_get 0 fl_X6_10 dX6_found_35 rfl rfl ?_
      refine j_aload_n 0 dX6_found_38 rfl rfl ?_
      refine j_get 0 fl_X6_19 dX6_found_39 rfl rfl ?_
      refine j_get 3 fl_X6_91 dX6_found_42 rfl rfl ?_
      refine j_get 22 fl_X6_181 dX6_found_45 rfl rfl ?_
      refine j_iload_n 1 dX6_found_48 rfl rfl ?_
      obtain ⟨h_4, H⟩ := H
      refine j_aald 23 dX6_found_49 rfl h_4 (ow_rf h_4) ?_
      refine j_callV (q0 := 0) (wc := (pgW G (pk ad [1, 2, 25 + (Int32.toNatClampNeg x1)]) 0 pf pn ++ (arW G (pk ad [1, 2, 25 + (Int32.toNatClampNeg x1)]) 2 8 (fd (Int32.toNatClampNeg x1))))) (As := [.ref ((pk ad [1, 2, 25 + (Int32.toNatClampNeg x1)]) 2)]) (st := []) ml_X2_copyLetters vl_X6_182 dX6_found_50 (List.set [none, some 0, some 1, none, none, none, none, none, none, none, none, none, none, none, none, none, none, none, none, none, none, none, none, none, none, none, none, none, none, none, none, none, none, none, none, none, none, none, none, none, none, none, none, none, none, none, none, none, none, none, none, none, none, none, none, none, none, none, none, none, none, none, none, none, none, none, none, none, none, none, none, none, none, none, none, none, none, none] (25 + (Int32.toNatClampNeg x1)) (some 2)) (row6 (P := fun k_ => Lay (rlW G ad 0 pf pn u d g l n fn fd ku kd kg kl kn kfn kfd tu td t wa le se v) (pgW G (pk ad [1, 2, 25 + k_]) 0 pf pn ++ (arW G (pk ad [1, 2, 25 + k_]) 2 8 (fd k_))) (List.set [none, some 0, some 1, none, none, none, none, none, none, none, none, none, none, none, none, none, none, none, none, none, none, none, none, none, none, none, none, none, none, none, none, none, none, none, none, none, none, none, none, none, none, none, none, none, none, none, none, none, none, none, none, none, none, none, none, none, none, none, none, none, none, none, none, none, none, none, none, none, none, none, none, none, none, none, none, none, none, none] (25 + k_) (some 2))) ⟨rfl, Nat.le_of_ble_eq_true rfl, rfl, rfl⟩ ⟨rfl, Nat.le_of_ble_eq_true rfl, rfl, rfl⟩ ⟨rfl, Nat.le_of_ble_eq_true rfl, rfl, rfl⟩ ⟨rfl, Nat.le_of_ble_eq_true rfl, rfl, rfl⟩ ⟨rfl, Nat.le_of_ble_eq_true rfl, rfl, rfl⟩ ⟨rfl, Nat.le_of_ble_eq_true rfl, rfl, rfl⟩ (in_lt h_4)) rfl rfl rfl (Nat.le_of_ble_eq_true rfl) ⟨by decide, by decide⟩ rfl rfl (Nat.le_of_ble_eq_true rfl) (J.mono (fun v_ w_ hp_ => ?_) H)
      obtain ⟨f_5, rfl, rfl, H⟩ := hp_
      refine j_w (w' := (rlW G ad 0 pf pn u d g l n fn (va_up fd (Int32.toNatClampNeg x1) f_5) ku kd kg kl kn kfn kfd tu td t wa le se v)) (row6 (P := fun k_ => mrg (rlW G ad 0 pf pn u d g l n fn fd ku kd kg kl kn kfn kfd tu td t wa le se v) (pgW G (pk ad [1, 2, 25 + k_]) 0 pf pn ++ (arW G (pk ad [1, 2, 25 + k_]) 2 8 f_5)) (List.set [none, some 0, some 1, none, none, none, none, none, none, none, none, none, none, none, none, none, none, none, none, none, none, none, none, none, none, none, none, none, none, none, none, none, none, none, none, none, none, none, none, none, none, none, none, none, none, none, none, none, none, none, none, none, none, none, none, none, none, none, none, none, none, none, none, none, none, none, none, none, none, none, none, none, none, none, none, none, none, none] (25 + k_) (some 2)) = (rlW G ad 0 pf pn u d g l n fn (va_up fd k_ f_5) ku kd kg kl kn kfn kfd tu td t wa le se v)) rfl rfl rfl rfl rfl rfl (in_lt h_4)) ?_
      refine j_aload_n 0 dX6_found_53 rfl rfl ?_
      refine j_get 0 fl_X6_19 dX6_found_54 rfl rfl ?_
      refine j_get 3 fl_X6_91 dX6_found_57 rfl rfl ?_
      refine j_get 22 fl_X6_186 dX6_found_60 rfl rfl ?_
      refine j_iload_n 1 dX6_found_63 rfl rfl ?_
      refine j_aload_n 0 dX6_found_64 rfl rfl ?_
      refine j_get 0 fl_X6_10 dX6_found_65 rfl rfl ?_
      refine j_get 1 fl_X6_50 dX6_found_68 rfl rfl ?_
      refine j_iast (w' := (rlW G ad 0 pf pn u d g l n (upd fn (Int32.toNatClampNeg x1) pn) (va_up fd (Int32.toNatClampNeg x1) f_5) ku kd kg kl kn kfn kfd tu td t wa le se v)) 24 dX6_found_71 rfl h_4 rfl ?_
      refine j_aload_n 0 dX6_found_72 rfl rfl ?_
      refine j_get 0 fl_X6_10 dX6_found_73 rfl rfl ?_
      refine j_iconst (v := 0) dX6_found_76 (by decide) ?_
      refine j_put (w' := (rlW G ad 0 pf 0 u d g l n (upd fn (Int32.toNatClampNeg x1) pn) (va_up fd (Int32.toNatClampNeg x1) f_5) ku kd kg kl kn kfn kfd tu td t wa le se v)) 1 fp_X6_50 dX6_found_77 rfl rfl rfl (Nat.le_of_ble_eq_true rfl) rfl ?_
      refine j_aload_n 0 dX6_found_80 rfl rfl ?_
      refine j_get 0 fl_X6_19 dX6_found_81 rfl rfl ?_
      refine j_get 3 fl_X6_91 dX6_found_84 rfl rfl ?_
      refine j_callV (q0 := 0) (wc := (fiW G (pk ad [22, 23, 24, 25, 26, 27, 28, 29, 30]) 0 (upd fn (Int32.toNatClampNeg x1) pn) (va_up fd (Int32.toNatClampNeg x1) f_5))) (As := []) (st := []) ml_X1_countFound vl_X6_187 dX6_found_87 [none, none, none, none, none, none, none, none, none, none, none, none, none, none, none, none, none, none, none, none, none, none, some 0, some 1, some 2, some 3, some 4, some 5, some 6, some 7, some 8] ⟨rfl, Nat.le_of_ble_eq_true rfl, rfl, rfl⟩ rfl rfl rfl (Nat.le_of_ble_eq_true rfl) ⟨by decide, by decide⟩ rfl rfl (Nat.le_of_ble_eq_true rfl) (J.mono (fun v_ w_ hp_ => ?_) H)
      obtain ⟨r_6, rfl, rfl, H⟩ := hp_
      refine j_w (w' := (rlW G ad 0 pf 0 u d g l n (upd fn (Int32.toNatClampNeg x1) pn) (va_up fd (Int32.toNatClampNeg x1) f_5) ku kd kg kl kn kfn kfd tu td t wa le se v)) rfl ?_
      exact j_iret dX6_found_90 rfl H
    · have H := H.2 c_3
      refine j_aload_n 0 dX6_found_21 rfl rfl ?_
      refine j_get 0 fl_X6_10 dX6_found_22 rfl rfl ?_
      refine j_callV (q0 := 0) (wc := (pgW G (pk ad [1, 2]) 0 pf pn)) (As := []) (st := []) ml_X2_isWord vl_X6_151 dX6_found_25 [none, some 0, some 1] ⟨rfl, Nat.le_of_ble_eq_true rfl, rfl, rfl⟩ rfl rfl rfl (Nat.le_of_ble_eq_true rfl) ⟨by decide, by decide⟩ rfl rfl (Nat.le_of_ble_eq_true rfl) (J.mono (fun v_ w_ hp_ => ?_) H)
      obtain ⟨r_7, rfl, rfl, H⟩ := hp_
      refine j_w (w' := (rlW G ad 0 pf pn u d g l n fn fd ku kd kg kl kn kfn kfd tu td t wa le se v)) rfl ?_
      refine j_if_ne (tgt := 34) dX6_found_28 (by decide) (fun c_8 => ?_) (fun c_8 => ?_)
      · have H := H.1 c_8
        refine j_aload_n 0 dX6_found_34 rfl rfl ?_
        refine j_get 0 fl_X6_10 dX6_found_35 rfl rfl ?_
        refine j_aload_n 0 dX6_found_38 rfl rfl ?_
        refine j_get 0 fl_X6_19 dX6_found_39 rfl rfl ?_
        refine j_get 3 fl_X6_91 dX6_found_42 rfl rfl ?_
        refine j_get 22 fl_X6_181 dX6_found_45 rfl rfl ?_
        refine j_iload_n 1 dX6_found_48 rfl rfl ?_
        obtain ⟨h_9, H⟩ := H
        refine j_aald 23 dX6_found_49 rfl h_9 (ow_rf h_9) ?_
        refine j_callV (q0 := 0) (wc := (pgW G (pk ad [1, 2, 25 + (Int32.toNatClampNeg x1)]) 0 pf pn ++ (arW G (pk ad [1, 2, 25 + (Int32.toNatClampNeg x1)]) 2 8 (fd (Int32.toNatClampNeg x1))))) (As := [.ref ((pk ad [1, 2, 25 + (Int32.toNatClampNeg x1)]) 2)]) (st := []) ml_X2_copyLetters vl_X6_182 dX6_found_50 (List.set [none, some 0, some 1, none, none, none, none, none, none, none, none, none, none, none, none, none, none, none, none, none, none, none, none, none, none, none, none, none, none, none, none, none, none, none, none, none, none, none, none, none, none, none, none, none, none, none, none, none, none, none, none, none, none, none, none, none, none, none, none, none, none, none, none, none, none, none, none, none, none, none, none, none, none, none, none, none, none, none] (25 + (Int32.toNatClampNeg x1)) (some 2)) (row6 (P := fun k_ => Lay (rlW G ad 0 pf pn u d g l n fn fd ku kd kg kl kn kfn kfd tu td t wa le se v) (pgW G (pk ad [1, 2, 25 + k_]) 0 pf pn ++ (arW G (pk ad [1, 2, 25 + k_]) 2 8 (fd k_))) (List.set [none, some 0, some 1, none, none, none, none, none, none, none, none, none, none, none, none, none, none, none, none, none, none, none, none, none, none, none, none, none, none, none, none, none, none, none, none, none, none, none, none, none, none, none, none, none, none, none, none, none, none, none, none, none, none, none, none, none, none, none, none, none, none, none, none, none, none, none, none, none, none, none, none, none, none, none, none, none, none, none] (25 + k_) (some 2))) ⟨rfl, Nat.le_of_ble_eq_true rfl, rfl, rfl⟩ ⟨rfl, Nat.le_of_ble_eq_true rfl, rfl, rfl⟩ ⟨rfl, Nat.le_of_ble_eq_true rfl, rfl, rfl⟩ ⟨rfl, Nat.le_of_ble_eq_true rfl, rfl, rfl⟩ ⟨rfl, Nat.le_of_ble_eq_true rfl, rfl, rfl⟩ ⟨rfl, Nat.le_of_ble_eq_true rfl, rfl, rfl⟩ (in_lt h_9)) rfl rfl rfl (Nat.le_of_ble_eq_true rfl) ⟨by decide, by decide⟩ rfl rfl (Nat.le_of_ble_eq_true rfl) (J.mono (fun v_ w_ hp_ => ?_) H)
        obtain ⟨f_10, rfl, rfl, H⟩ := hp_
        refine j_w (w' := (rlW G ad 0 pf pn u d g l n fn (va_up fd (Int32.toNatClampNeg x1) f_10) ku kd kg kl kn kfn kfd tu td t wa le se v)) (row6 (P := fun k_ => mrg (rlW G ad 0 pf pn u d g l n fn fd ku kd kg kl kn kfn kfd tu td t wa le se v) (pgW G (pk ad [1, 2, 25 + k_]) 0 pf pn ++ (arW G (pk ad [1, 2, 25 + k_]) 2 8 f_10)) (List.set [none, some 0, some 1, none, none, none, none, none, none, none, none, none, none, none, none, none, none, none, none, none, none, none, none, none, none, none, none, none, none, none, none, none, none, none, none, none, none, none, none, none, none, none, none, none, none, none, none, none, none, none, none, none, none, none, none, none, none, none, none, none, none, none, none, none, none, none, none, none, none, none, none, none, none, none, none, none, none, none] (25 + k_) (some 2)) = (rlW G ad 0 pf pn u d g l n fn (va_up fd k_ f_10) ku kd kg kl kn kfn kfd tu td t wa le se v)) rfl rfl rfl rfl rfl rfl (in_lt h_9)) ?_
        refine j_aload_n 0 dX6_found_53 rfl rfl ?_
        refine j_get 0 fl_X6_19 dX6_found_54 rfl rfl ?_
        refine j_get 3 fl_X6_91 dX6_found_57 rfl rfl ?_
        refine j_get 22 fl_X6_186 dX6_found_60 rfl rfl ?_
        refine j_iload_n 1 dX6_found_63 rfl rfl ?_
        refine j_aload_n 0 dX6_found_64 rfl rfl ?_
        refine j_get 0 fl_X6_10 dX6_found_65 rfl rfl ?_
        refine j_get 1 fl_X6_50 dX6_found_68 rfl rfl ?_
        refine j_iast (w' := (rlW G ad 0 pf pn u d g l n (upd fn (Int32.toNatClampNeg x1) pn) (va_up fd (Int32.toNatClampNeg x1) f_10) ku kd kg kl kn kfn kfd tu td t wa le se v)) 24 dX6_found_71 rfl h_9 rfl ?_
        refine j_aload_n 0 dX6_found_72 rfl rfl ?_
        refine j_get 0 fl_X6_10 dX6_found_73 rfl rfl ?_
        refine j_iconst (v := 0) dX6_found_76 (by decide) ?_
        refine j_put (w' := (rlW G ad 0 pf 0 u d g l n (upd fn (Int32.toNatClampNeg x1) pn) (va_up fd (Int32.toNatClampNeg x1) f_10) ku kd kg kl kn kfn kfd tu td t wa le se v)) 1 fp_X6_50 dX6_found_77 rfl rfl rfl (Nat.le_of_ble_eq_true rfl) rfl ?_
        refine j_aload_n 0 dX6_found_80 rfl rfl ?_
        refine j_get 0 fl_X6_19 dX6_found_81 rfl rfl ?_
        refine j_get 3 fl_X6_91 dX6_found_84 rfl rfl ?_
        refine j_callV (q0 := 0) (wc := (fiW G (pk ad [22, 23, 24, 25, 26, 27, 28, 29, 30]) 0 (upd fn (Int32.toNatClampNeg x1) pn) (va_up fd (Int32.toNatClampNeg x1) f_10))) (As := []) (st := []) ml_X1_countFound vl_X6_187 dX6_found_87 [none, none, none, none, none, none, none, none, none, none, none, none, none, none, none, none, none, none, none, none, none, none, some 0, some 1, some 2, some 3, some 4, some 5, some 6, some 7, some 8] ⟨rfl, Nat.le_of_ble_eq_true rfl, rfl, rfl⟩ rfl rfl rfl (Nat.le_of_ble_eq_true rfl) ⟨by decide, by decide⟩ rfl rfl (Nat.le_of_ble_eq_true rfl) (J.mono (fun v_ w_ hp_ => ?_) H)
        obtain ⟨r_11, rfl, rfl, H⟩ := hp_
        refine j_w (w' := (rlW G ad 0 pf 0 u d g l n (upd fn (Int32.toNatClampNeg x1) pn) (va_up fd (Int32.toNatClampNeg x1) f_10) ku kd kg kl kn kfn kfd tu td t wa le se v)) rfl ?_
        exact j_iret dX6_found_90 rfl H
      · have H := H.2 c_8
        refine j_bipush (v := (-103)) dX6_found_31 (by decide) ?_
        exact j_iret dX6_found_33 rfl H
  · have H := H.2 c_2
    refine j_bipush (v := (-101)) dX6_found_8 (by decide) ?_
    exact j_iret dX6_found_10 rfl H
set_option maxRecDepth 20000 in
theorem sg_X6_image_0 {G : GG} {ad : Nat → Nat} {pf : Nat → Int32} {pn : Int32} {u : Nat → Nat → Int32} {d : Nat → Nat → Int32} {g : Nat → Int32} {l : Nat → Int32} {n : Int32} {fn : Nat → Int32} {fd : Nat → Nat → Int32} {ku : Nat → Nat → Int32} {kd : Nat → Nat → Int32} {kg : Nat → Int32} {kl : Nat → Int32} {kn : Int32} {kfn : Nat → Int32} {kfd : Nat → Nat → Int32} {tu : Nat → Nat → Int32} {td : Nat → Nat → Int32} {t : Nat → Int32} {wa : Nat → Int32} {le : Nat → Int32} {se : Nat → Int32} {v : Nat → Int32} {Q : Option Value → va_W → Prop} (H : J G mX6_hasStreet 0 [(0, .ref (ad 0))] [] (rlW G ad 0 pf pn u d g l n fn fd ku kd kg kl kn kfn kfd tu td t wa le se v) (fun v_ w_ => ∃ (r_1 : Int32), v_ = some (.int r_1) ∧ w_ = (rlW G ad 0 pf pn u d g l n fn fd ku kd kg kl kn kfn kfd tu td t wa le se v) ∧ (((¬ r_1 = 0) → J G mX3_takeAll 0 [(0, .ref ((pk ad [31, 32, 33, 34, 35, 36, 37, 38, 39, 40, 41, 42, 43, 44, 45, 46, 47, 48, 49, 50, 51, 52, 53, 54, 55, 56, 57, 58, 3, 4, 5, 6, 7, 8, 9, 10, 11, 12, 13, 14, 15, 16, 17, 18, 19, 20, 21, 22, 23, 24, 25, 26, 27, 28, 29, 30]) 0)), (1, .ref ((pk ad [31, 32, 33, 34, 35, 36, 37, 38, 39, 40, 41, 42, 43, 44, 45, 46, 47, 48, 49, 50, 51, 52, 53, 54, 55, 56, 57, 58, 3, 4, 5, 6, 7, 8, 9, 10, 11, 12, 13, 14, 15, 16, 17, 18, 19, 20, 21, 22, 23, 24, 25, 26, 27, 28, 29, 30]) 28))] [] (scW G (pk ad [31, 32, 33, 34, 35, 36, 37, 38, 39, 40, 41, 42, 43, 44, 45, 46, 47, 48, 49, 50, 51, 52, 53, 54, 55, 56, 57, 58, 3, 4, 5, 6, 7, 8, 9, 10, 11, 12, 13, 14, 15, 16, 17, 18, 19, 20, 21, 22, 23, 24, 25, 26, 27, 28, 29, 30]) 0 ku kd kg kl kn kfn kfd ++ (scW G (pk ad [31, 32, 33, 34, 35, 36, 37, 38, 39, 40, 41, 42, 43, 44, 45, 46, 47, 48, 49, 50, 51, 52, 53, 54, 55, 56, 57, 58, 3, 4, 5, 6, 7, 8, 9, 10, 11, 12, 13, 14, 15, 16, 17, 18, 19, 20, 21, 22, 23, 24, 25, 26, 27, 28, 29, 30]) 28 u d g l n fn fd)) (fun v_ w_ => ∃ (d_3 : Nat → Nat → Int32) (fd_4 : Nat → Nat → Int32) (fn_5 : Nat → Int32) (g_6 : Nat → Int32) (l_7 : Nat → Int32) (n_8 : Int32) (u_9 : Nat → Nat → Int32), v_ = none ∧ w_ = (scW G (pk ad [31, 32, 33, 34, 35, 36, 37, 38, 39, 40, 41, 42, 43, 44, 45, 46, 47, 48, 49, 50, 51, 52, 53, 54, 55, 56, 57, 58, 3, 4, 5, 6, 7, 8, 9, 10, 11, 12, 13, 14, 15, 16, 17, 18, 19, 20, 21, 22, 23, 24, 25, 26, 27, 28, 29, 30]) 0 u_9 d_3 g_6 l_7 n_8 fn_5 fd_4 ++ (scW G (pk ad [31, 32, 33, 34, 35, 36, 37, 38, 39, 40, 41, 42, 43, 44, 45, 46, 47, 48, 49, 50, 51, 52, 53, 54, 55, 56, 57, 58, 3, 4, 5, 6, 7, 8, 9, 10, 11, 12, 13, 14, 15, 16, 17, 18, 19, 20, 21, 22, 23, 24, 25, 26, 27, 28, 29, 30]) 28 u d g l n fn fd)) ∧ Q (some (.int n)) (rlW G ad 0 pf pn u d g l n fn fd u_9 d_3 g_6 l_7 n_8 fn_5 fd_4 tu td t wa le se (va_up v 0 1)))) ∧ ((r_1 = 0) → Q (some (.int (-103))) (rlW G ad 0 pf pn u d g l n fn fd ku kd kg kl kn kfn kfd tu td t wa le se v))))) : J G mX6_image 0 [(0, .ref (ad 0))] [] (rlW G ad 0 pf pn u d g l n fn fd ku kd kg kl kn kfn kfd tu td t wa le se v) Q := by
  refine j_aload_n 0 dX6_image_0 rfl rfl ?_
  refine j_callV0 (q0 := 0) (As := []) (st := []) ml_X6_hasStreet vl_X6_148 dX6_image_1 rfl rfl rfl (Nat.le_of_ble_eq_true rfl) ⟨by decide, by decide⟩ rfl rfl (Nat.le_of_ble_eq_true rfl) (J.mono (fun v_ w_ hp_ => ?_) H)
  obtain ⟨r_1, rfl, rfl, H⟩ := hp_
  refine j_if_ne (tgt := 10) dX6_image_4 (by decide) (fun c_2 => ?_) (fun c_2 => ?_)
  · have H := H.1 c_2
    refine j_aload_n 0 dX6_image_10 rfl rfl ?_
    refine j_get 0 fl_X6_23 dX6_image_11 rfl rfl ?_
    refine j_aload_n 0 dX6_image_14 rfl rfl ?_
    refine j_get 0 fl_X6_19 dX6_image_15 rfl rfl ?_
    refine j_callV (q0 := 0) (wc := (scW G (pk ad [31, 32, 33, 34, 35, 36, 37, 38, 39, 40, 41, 42, 43, 44, 45, 46, 47, 48, 49, 50, 51, 52, 53, 54, 55, 56, 57, 58, 3, 4, 5, 6, 7, 8, 9, 10, 11, 12, 13, 14, 15, 16, 17, 18, 19, 20, 21, 22, 23, 24, 25, 26, 27, 28, 29, 30]) 0 ku kd kg kl kn kfn kfd ++ (scW G (pk ad [31, 32, 33, 34, 35, 36, 37, 38, 39, 40, 41, 42, 43, 44, 45, 46, 47, 48, 49, 50, 51, 52, 53, 54, 55, 56, 57, 58, 3, 4, 5, 6, 7, 8, 9, 10, 11, 12, 13, 14, 15, 16, 17, 18, 19, 20, 21, 22, 23, 24, 25, 26, 27, 28, 29, 30]) 28 u d g l n fn fd))) (As := [.ref ((pk ad [31, 32, 33, 34, 35, 36, 37, 38, 39, 40, 41, 42, 43, 44, 45, 46, 47, 48, 49, 50, 51, 52, 53, 54, 55, 56, 57, 58, 3, 4, 5, 6, 7, 8, 9, 10, 11, 12, 13, 14, 15, 16, 17, 18, 19, 20, 21, 22, 23, 24, 25, 26, 27, 28, 29, 30]) 28)]) (st := []) ml_X3_takeAll vl_X6_197 dX6_image_18 [none, none, none, some 28, some 29, some 30, some 31, some 32, some 33, some 34, some 35, some 36, some 37, some 38, some 39, some 40, some 41, some 42, some 43, some 44, some 45, some 46, some 47, some 48, some 49, some 50, some 51, some 52, some 53, some 54, some 55, some 0, some 1, some 2, some 3, some 4, some 5, some 6, some 7, some 8, some 9, some 10, some 11, some 12, some 13, some 14, some 15, some 16, some 17, some 18, some 19, some 20, some 21, some 22, some 23, some 24, some 25, some 26, some 27] ⟨rfl, Nat.le_of_ble_eq_true rfl, rfl, rfl⟩ rfl rfl rfl (Nat.le_of_ble_eq_true rfl) ⟨by decide, by decide⟩ rfl rfl (Nat.le_of_ble_eq_true rfl) (J.mono (fun v_ w_ hp_ => ?_) H)
    obtain ⟨d_3, fd_4, fn_5, g_6, l_7, n_8, u_9, rfl, rfl, H⟩ := hp_
    refine j_w (w' := (rlW G ad 0 pf pn u d g l n fn fd u_9 d_3 g_6 l_7 n_8 fn_5 fd_4 tu td t wa le se v)) rfl ?_
    refine j_aload_n 0 dX6_image_21 rfl rfl ?_
    refine j_iconst (v := 1) dX6_image_22 (by decide) ?_
    refine j_put (w' := (rlW G ad 0 pf pn u d g l n fn fd u_9 d_3 g_6 l_7 n_8 fn_5 fd_4 tu td t wa le se (va_up v 0 1))) 0 fp_X6_98 dX6_image_23 rfl (by decide) rfl (Nat.le_of_ble_eq_true rfl) rfl ?_
    refine j_aload_n 0 dX6_image_26 rfl rfl ?_
    refine j_get 0 fl_X6_19 dX6_image_27 rfl rfl ?_
    refine j_get 3 fl_X6_84 dX6_image_30 rfl rfl ?_
    refine j_get 19 fl_X6_88 dX6_image_33 rfl rfl ?_
    exact j_iret dX6_image_36 rfl H
  · have H := H.2 c_2
    refine j_bipush (v := (-103)) dX6_image_7 (by decide) ?_
    exact j_iret dX6_image_9 rfl H
set_option maxRecDepth 20000 in
theorem sg_X6_letter_0 {G : GG} {ad : Nat → Nat} {pf : Nat → Int32} {pn : Int32} {u : Nat → Nat → Int32} {d : Nat → Nat → Int32} {g : Nat → Int32} {l : Nat → Int32} {n : Int32} {fn : Nat → Int32} {fd : Nat → Nat → Int32} {ku : Nat → Nat → Int32} {kd : Nat → Nat → Int32} {kg : Nat → Int32} {kl : Nat → Int32} {kn : Int32} {kfn : Nat → Int32} {kfd : Nat → Nat → Int32} {tu : Nat → Nat → Int32} {td : Nat → Nat → Int32} {t : Nat → Int32} {wa : Nat → Int32} {le : Nat → Int32} {se : Nat → Int32} {v : Nat → Int32} {x1 : Int32} {Q : Option Value → va_W → Prop} (H : (((x1 < 1) → Q (some (.int (-102))) (rlW G ad 0 pf pn u d g l n fn fd ku kd kg kl kn kfn kfd tu td t wa le se v)) ∧ ((¬ x1 < 1) → (((x1 ≤ 126) → (((pn < 20) → (vp_in pn 20) ∧ Q (some (.int (pn + 1))) (rlW G ad 0 (upd pf (Int32.toNatClampNeg pn) x1) (pn + 1) u d g l n fn fd ku kd kg kl kn kfn kfd tu td t wa le se v)) ∧ ((¬ pn < 20) → Q (some (.int (-104))) (rlW G ad 0 pf pn u d g l n fn fd ku kd kg kl kn kfn kfd tu td t wa le se v)))) ∧ ((¬ x1 ≤ 126) → Q (some (.int (-102))) (rlW G ad 0 pf pn u d g l n fn fd ku kd kg kl kn kfn kfd tu td t wa le se v)))))) : J G mX6_letter 0 [(0, .ref (ad 0)), (1, .int x1)] [] (rlW G ad 0 pf pn u d g l n fn fd ku kd kg kl kn kfn kfd tu td t wa le se v) Q := by
  refine j_iload_n 1 dX6_letter_0 rfl rfl ?_
  refine j_iconst (v := 1) dX6_letter_1 (by decide) ?_
  refine j_icmp_lt (tgt := 11) dX6_letter_2 (by decide) (fun c_1 => ?_) (fun c_1 => ?_)
  · have H := H.1 c_1
    refine j_bipush (v := (-102)) dX6_letter_11 (by decide) ?_
    exact j_iret dX6_letter_13 rfl H
  · have H := H.2 c_1
    refine j_iload_n 1 dX6_letter_5 rfl rfl ?_
    refine j_bipush (v := 126) dX6_letter_6 (by decide) ?_
    refine j_icmp_le (tgt := 14) dX6_letter_8 (by decide) (fun c_2 => ?_) (fun c_2 => ?_)
    · have H := H.1 c_2
      refine j_aload_n 0 dX6_letter_14 rfl rfl ?_
      refine j_get 0 fl_X6_10 dX6_letter_15 rfl rfl ?_
      refine j_get 1 fl_X6_50 dX6_letter_18 rfl rfl ?_
      refine j_bipush (v := 20) dX6_letter_21 (by decide) ?_
      refine j_icmp_lt (tgt := 29) dX6_letter_23 (by decide) (fun c_3 => ?_) (fun c_3 => ?_)
      · have H := H.1 c_3
        refine j_aload_n 0 dX6_letter_29 rfl rfl ?_
        refine j_get 0 fl_X6_10 dX6_letter_30 rfl rfl ?_
        refine j_get 1 fl_X6_54 dX6_letter_33 rfl rfl ?_
        refine j_aload_n 0 dX6_letter_36 rfl rfl ?_
        refine j_get 0 fl_X6_10 dX6_letter_37 rfl rfl ?_
        refine j_get 1 fl_X6_50 dX6_letter_40 rfl rfl ?_
        refine j_iload_n 1 dX6_letter_43 rfl rfl ?_
        obtain ⟨h_4, H⟩ := H
        refine j_iast (w' := (rlW G ad 0 (upd pf (Int32.toNatClampNeg pn) x1) pn u d g l n fn fd ku kd kg kl kn kfn kfd tu td t wa le se v)) 2 dX6_letter_44 rfl h_4 rfl ?_
        refine j_aload_n 0 dX6_letter_45 rfl rfl ?_
        refine j_get 0 fl_X6_10 dX6_letter_46 rfl rfl ?_
        refine j_dup dX6_letter_49 rfl ?_
        refine j_get 1 fl_X6_50 dX6_letter_50 rfl rfl ?_
        refine j_iconst (v := 1) dX6_letter_53 (by decide) ?_
        refine j_iadd dX6_letter_54 ?_
        refine j_put (w' := (rlW G ad 0 (upd pf (Int32.toNatClampNeg pn) x1) (pn + 1) u d g l n fn fd ku kd kg kl kn kfn kfd tu td t wa le se v)) 1 fp_X6_50 dX6_letter_55 rfl rfl rfl (Nat.le_of_ble_eq_true rfl) rfl ?_
        refine j_aload_n 0 dX6_letter_58 rfl rfl ?_
        refine j_get 0 fl_X6_10 dX6_letter_59 rfl rfl ?_
        refine j_get 1 fl_X6_50 dX6_letter_62 rfl rfl ?_
        exact j_iret dX6_letter_65 rfl H
      · have H := H.2 c_3
        refine j_bipush (v := (-104)) dX6_letter_26 (by decide) ?_
        exact j_iret dX6_letter_28 rfl H
    · have H := H.2 c_2
      refine j_bipush (v := (-102)) dX6_letter_11 (by decide) ?_
      exact j_iret dX6_letter_13 rfl H
set_option maxRecDepth 20000 in
theorem sg_X6_nextSeed_0 {G : GG} {ad : Nat → Nat} {x0 : Int32} {Q : Option Value → va_W → Prop} (H : Q (some (.int (((1103515245 * x0) + 12345) &&& 2147483647))) ([] : va_W)) : J G mX6_nextSeed 0 [(0, .int x0)] [] ([] : va_W) Q := by
  refine j_ldc ck_X6_240 dX6_nextSeed_0 ?_
  refine j_iload_n 0 dX6_nextSeed_2 rfl rfl ?_
  refine j_imul dX6_nextSeed_3 ?_
  refine j_sipush (v := 12345) dX6_nextSeed_4 (by decide) ?_
  refine j_iadd dX6_nextSeed_7 ?_
  refine j_ldc ck_X6_241 dX6_nextSeed_8 ?_
  refine j_iand dX6_nextSeed_10 ?_
  exact j_iret dX6_nextSeed_11 rfl H
set_option maxRecDepth 20000 in
theorem sg_X6_mornings_0 {G : GG} {ad : Nat → Nat} {pf : Nat → Int32} {pn : Int32} {u : Nat → Nat → Int32} {d : Nat → Nat → Int32} {g : Nat → Int32} {l : Nat → Int32} {n : Int32} {fn : Nat → Int32} {fd : Nat → Nat → Int32} {ku : Nat → Nat → Int32} {kd : Nat → Nat → Int32} {kg : Nat → Int32} {kl : Nat → Int32} {kn : Int32} {kfn : Nat → Int32} {kfd : Nat → Nat → Int32} {tu : Nat → Nat → Int32} {td : Nat → Nat → Int32} {t : Nat → Int32} {wa : Nat → Int32} {le : Nat → Int32} {se : Nat → Int32} {v : Nat → Int32} {x1 : Int32} {x2 : Int32} {x3 : Int32} {Q : Option Value → va_W → Prop} (H : (((x1 < 1) → Q (some (.int (-102))) (rlW G ad 0 pf pn u d g l n fn fd ku kd kg kl kn kfn kfd tu td t wa le se v)) ∧ ((¬ x1 < 1) → (((40 < x1) → Q (some (.int (-102))) (rlW G ad 0 pf pn u d g l n fn fd ku kd kg kl kn kfn kfd tu td t wa le se v)) ∧ ((¬ 40 < x1) → (((x2 < 0) → Q (some (.int (-102))) (rlW G ad 0 pf pn u d g l n fn fd ku kd kg kl kn kfn kfd tu td t wa le se v)) ∧ ((¬ x2 < 0) → (((x3 = 0) → J G mX6_hasStreet 0 [(0, .ref (ad 0))] [] (rlW G ad 0 pf pn u d g l n fn fd ku kd kg kl kn kfn kfd tu td t wa le se v) (fun v_ w_ => ∃ (r_5 : Int32), v_ = some (.int r_5) ∧ w_ = (rlW G ad 0 pf pn u d g l n fn fd ku kd kg kl kn kfn kfd tu td t wa le se v) ∧ (((¬ r_5 = 0) → J G mX6_mornings 46 [(0, .ref (ad 0)), (1, .int x1), (2, .int x2), (3, .int x3), (4, .int 0), (5, .int x2), (6, .int 0)] [] (rlW G ad 0 pf pn u d g l n fn fd ku kd kg kl kn kfn kfd tu td t wa le se v) Q) ∧ ((r_5 = 0) → Q (some (.int (-103))) (rlW G ad 0 pf pn u d g l n fn fd ku kd kg kl kn kfn kfd tu td t wa le se v))))) ∧ ((¬ x3 = 0) → (((x3 = 1) → J G mX6_hasStreet 0 [(0, .ref (ad 0))] [] (rlW G ad 0 pf pn u d g l n fn fd ku kd kg kl kn kfn kfd tu td t wa le se v) (fun v_ w_ => ∃ (r_8 : Int32), v_ = some (.int r_8) ∧ w_ = (rlW G ad 0 pf pn u d g l n fn fd ku kd kg kl kn kfn kfd tu td t wa le se v) ∧ (((¬ r_8 = 0) → J G mX6_mornings 46 [(0, .ref (ad 0)), (1, .int x1), (2, .int x2), (3, .int x3), (4, .int 0), (5, .int x2), (6, .int 0)] [] (rlW G ad 0 pf pn u d g l n fn fd ku kd kg kl kn kfn kfd tu td t wa le se v) Q) ∧ ((r_8 = 0) → Q (some (.int (-103))) (rlW G ad 0 pf pn u d g l n fn fd ku kd kg kl kn kfn kfd tu td t wa le se v))))) ∧ ((¬ x3 = 1) → Q (some (.int (-102))) (rlW G ad 0 pf pn u d g l n fn fd ku kd kg kl kn kfn kfd tu td t wa le se v)))))))))))) : J G mX6_mornings 0 [(0, .ref (ad 0)), (1, .int x1), (2, .int x2), (3, .int x3)] [] (rlW G ad 0 pf pn u d g l n fn fd ku kd kg kl kn kfn kfd tu td t wa le se v) Q := by
  refine j_iload_n 1 dX6_mornings_0 rfl rfl ?_
  refine j_iconst (v := 1) dX6_mornings_1 (by decide) ?_
  refine j_icmp_lt (tgt := 24) dX6_mornings_2 (by decide) (fun c_1 => ?_) (fun c_1 => ?_)
  · have H := H.1 c_1
    refine j_bipush (v := (-102)) dX6_mornings_24 (by decide) ?_
    exact j_iret dX6_mornings_26 rfl H
  · have H := H.2 c_1
    refine j_iload_n 1 dX6_mornings_5 rfl rfl ?_
    refine j_bipush (v := 40) dX6_mornings_6 (by decide) ?_
    refine j_icmp_gt (tgt := 24) dX6_mornings_8 (by decide) (fun c_2 => ?_) (fun c_2 => ?_)
    · have H := H.1 c_2
      refine j_bipush (v := (-102)) dX6_mornings_24 (by decide) ?_
      exact j_iret dX6_mornings_26 rfl H
    · have H := H.2 c_2
      refine j_iload_n 2 dX6_mornings_11 rfl rfl ?_
      refine j_if_lt (tgt := 24) dX6_mornings_12 (by decide) (fun c_3 => ?_) (fun c_3 => ?_)
      · have H := H.1 c_3
        refine j_bipush (v := (-102)) dX6_mornings_24 (by decide) ?_
        exact j_iret dX6_mornings_26 rfl H
      · have H := H.2 c_3
        refine j_iload_n 3 dX6_mornings_15 rfl rfl ?_
        refine j_if_eq (tgt := 27) dX6_mornings_16 (by decide) (fun c_4 => ?_) (fun c_4 => ?_)
        · have H := H.1 c_4
          refine j_aload_n 0 dX6_mornings_27 rfl rfl ?_
          refine j_callV0 (q0 := 0) (As := []) (st := []) ml_X6_hasStreet vl_X6_148 dX6_mornings_28 rfl rfl rfl (Nat.le_of_ble_eq_true rfl) ⟨by decide, by decide⟩ rfl rfl (Nat.le_of_ble_eq_true rfl) (J.mono (fun v_ w_ hp_ => ?_) H)
          obtain ⟨r_5, rfl, rfl, H⟩ := hp_
          refine j_if_ne (tgt := 37) dX6_mornings_31 (by decide) (fun c_6 => ?_) (fun c_6 => ?_)
          · have H := H.1 c_6
            refine j_iconst (v := 0) dX6_mornings_37 (by decide) ?_
            refine j_istore (lo' := [(4, .int 0), (0, .ref (ad 0)), (1, .int x1), (2, .int x2), (3, .int x3)]) dX6_mornings_38 (by decide) rfl ?_
            refine j_iload_n 3 dX6_mornings_40 rfl rfl ?_
            refine j_istore (lo' := [(5, .int x2), (4, .int 0), (0, .ref (ad 0)), (1, .int x1), (2, .int x2), (3, .int x3)]) dX6_mornings_41 (by decide) rfl ?_
            refine j_iconst (v := 0) dX6_mornings_43 (by decide) ?_
            refine j_istore (lo' := [(6, .int 0), (5, .int x2), (4, .int 0), (0, .ref (ad 0)), (1, .int x1), (2, .int x2), (3, .int x3)]) dX6_mornings_44 (by decide) rfl ?_
            refine j_lo [3, 4, 5, 6, 2, 1, 0] rfl ?_
            exact H
          · have H := H.2 c_6
            refine j_bipush (v := (-103)) dX6_mornings_34 (by decide) ?_
            exact j_iret dX6_mornings_36 rfl H
        · have H := H.2 c_4
          refine j_iload_n 3 dX6_mornings_19 rfl rfl ?_
          refine j_iconst (v := 1) dX6_mornings_20 (by decide) ?_
          refine j_icmp_eq (tgt := 27) dX6_mornings_21 (by decide) (fun c_7 => ?_) (fun c_7 => ?_)
          · have H := H.1 c_7
            refine j_aload_n 0 dX6_mornings_27 rfl rfl ?_
            refine j_callV0 (q0 := 0) (As := []) (st := []) ml_X6_hasStreet vl_X6_148 dX6_mornings_28 rfl rfl rfl (Nat.le_of_ble_eq_true rfl) ⟨by decide, by decide⟩ rfl rfl (Nat.le_of_ble_eq_true rfl) (J.mono (fun v_ w_ hp_ => ?_) H)
            obtain ⟨r_8, rfl, rfl, H⟩ := hp_
            refine j_if_ne (tgt := 37) dX6_mornings_31 (by decide) (fun c_9 => ?_) (fun c_9 => ?_)
            · have H := H.1 c_9
              refine j_iconst (v := 0) dX6_mornings_37 (by decide) ?_
              refine j_istore (lo' := [(4, .int 0), (0, .ref (ad 0)), (1, .int x1), (2, .int x2), (3, .int x3)]) dX6_mornings_38 (by decide) rfl ?_
              refine j_iload_n 3 dX6_mornings_40 rfl rfl ?_
              refine j_istore (lo' := [(5, .int x2), (4, .int 0), (0, .ref (ad 0)), (1, .int x1), (2, .int x2), (3, .int x3)]) dX6_mornings_41 (by decide) rfl ?_
              refine j_iconst (v := 0) dX6_mornings_43 (by decide) ?_
              refine j_istore (lo' := [(6, .int 0), (5, .int x2), (4, .int 0), (0, .ref (ad 0)), (1, .int x1), (2, .int x2), (3, .int x3)]) dX6_mornings_44 (by decide) rfl ?_
              refine j_lo [3, 4, 5, 6, 2, 1, 0] rfl ?_
              exact H
            · have H := H.2 c_9
              refine j_bipush (v := (-103)) dX6_mornings_34 (by decide) ?_
              exact j_iret dX6_mornings_36 rfl H
          · have H := H.2 c_7
            refine j_bipush (v := (-102)) dX6_mornings_24 (by decide) ?_
            exact j_iret dX6_mornings_26 rfl H
set_option maxRecDepth 20000 in
theorem sg_X6_mornings_46 {G : GG} {ad : Nat → Nat} {pf : Nat → Int32} {pn : Int32} {u : Nat → Nat → Int32} {d : Nat → Nat → Int32} {g : Nat → Int32} {l : Nat → Int32} {n : Int32} {fn : Nat → Int32} {fd : Nat → Nat → Int32} {ku : Nat → Nat → Int32} {kd : Nat → Nat → Int32} {kg : Nat → Int32} {kl : Nat → Int32} {kn : Int32} {kfn : Nat → Int32} {kfd : Nat → Nat → Int32} {tu : Nat → Nat → Int32} {td : Nat → Nat → Int32} {t : Nat → Int32} {wa : Nat → Int32} {le : Nat → Int32} {se : Nat → Int32} {v : Nat → Int32} {x1 : Int32} {x2 : Int32} {x3 : Int32} {x4 : Int32} {x5 : Int32} {x6 : Int32} {Q : Option Value → va_W → Prop} (H : (((x1 ≤ x6) → (((¬ x3 = 0) → Q (some (.int x5)) (rlW G ad 0 pf pn u d g l n fn fd ku kd kg kl kn kfn kfd tu td t wa le se v)) ∧ ((x3 = 0) → Q (some (.int x4)) (rlW G ad 0 pf pn u d g l n fn fd ku kd kg kl kn kfn kfd tu td t wa le se v)))) ∧ ((¬ x1 ≤ x6) → J G mX4_layLike 0 [(0, .ref ((pk ad [59, 60, 61, 62, 63, 64, 65, 66, 67, 68, 69, 70, 71, 72, 73, 4, 5, 6, 7, 8, 9, 10, 11, 12, 13, 14, 15, 16, 17, 18]) 0)), (1, .ref ((pk ad [59, 60, 61, 62, 63, 64, 65, 66, 67, 68, 69, 70, 71, 72, 73, 4, 5, 6, 7, 8, 9, 10, 11, 12, 13, 14, 15, 16, 17, 18]) 15))] [] (stW G (pk ad [59, 60, 61, 62, 63, 64, 65, 66, 67, 68, 69, 70, 71, 72, 73, 4, 5, 6, 7, 8, 9, 10, 11, 12, 13, 14, 15, 16, 17, 18]) 0 tu td ++ (stW G (pk ad [59, 60, 61, 62, 63, 64, 65, 66, 67, 68, 69, 70, 71, 72, 73, 4, 5, 6, 7, 8, 9, 10, 11, 12, 13, 14, 15, 16, 17, 18]) 15 u d)) (fun v_ w_ => ∃ (u_3 : Nat → Nat → Int32), v_ = none ∧ w_ = (stW G (pk ad [59, 60, 61, 62, 63, 64, 65, 66, 67, 68, 69, 70, 71, 72, 73, 4, 5, 6, 7, 8, 9, 10, 11, 12, 13, 14, 15, 16, 17, 18]) 0 u_3 td ++ (stW G (pk ad [59, 60, 61, 62, 63, 64, 65, 66, 67, 68, 69, 70, 71, 72, 73, 4, 5, 6, 7, 8, 9, 10, 11, 12, 13, 14, 15, 16, 17, 18]) 15 u d)) ∧ J G mX6_mornings 69 [(0, .ref (ad 0)), (1, .int x1), (2, .int x2), (3, .int x3), (4, .int x4), (5, .int x5), (6, .int x6), (7, .int 0)] [] (rlW G ad 0 pf pn u d g l n fn fd ku kd kg kl kn kfn kfd u_3 td t wa le se v) Q)))) : J G mX6_mornings 46 [(0, .ref (ad 0)), (1, .int x1), (2, .int x2), (3, .int x3), (4, .int x4), (5, .int x5), (6, .int x6)] [] (rlW G ad 0 pf pn u d g l n fn fd ku kd kg kl kn kfn kfd tu td t wa le se v) Q := by
  refine j_iload 6 dX6_mornings_46 rfl ?_
  refine j_iload_n 1 dX6_mornings_48 rfl rfl ?_
  refine j_icmp_ge (tgt := 140) dX6_mornings_49 (by decide) (fun c_1 => ?_) (fun c_1 => ?_)
  · have H := H.1 c_1
    refine j_iload_n 3 dX6_mornings_140 rfl rfl ?_
    refine j_if_ne (tgt := 149) dX6_mornings_141 (by decide) (fun c_2 => ?_) (fun c_2 => ?_)
    · have H := H.1 c_2
      refine j_iload 5 dX6_mornings_149 rfl ?_
      exact j_iret dX6_mornings_151 rfl H
    · have H := H.2 c_2
      refine j_iload 4 dX6_mornings_144 rfl ?_
      refine j_goto (tgt := 151) dX6_mornings_146 (by decide) ?_
      exact j_iret dX6_mornings_151 rfl H
  · have H := H.2 c_1
    refine j_aload_n 0 dX6_mornings_52 rfl rfl ?_
    refine j_get 0 fl_X6_29 dX6_mornings_53 rfl rfl ?_
    refine j_aload_n 0 dX6_mornings_56 rfl rfl ?_
    refine j_get 0 fl_X6_19 dX6_mornings_57 rfl rfl ?_
    refine j_get 3 fl_X6_65 dX6_mornings_60 rfl rfl ?_
    refine j_callV (q0 := 0) (wc := (stW G (pk ad [59, 60, 61, 62, 63, 64, 65, 66, 67, 68, 69, 70, 71, 72, 73, 4, 5, 6, 7, 8, 9, 10, 11, 12, 13, 14, 15, 16, 17, 18]) 0 tu td ++ (stW G (pk ad [59, 60, 61, 62, 63, 64, 65, 66, 67, 68, 69, 70, 71, 72, 73, 4, 5, 6, 7, 8, 9, 10, 11, 12, 13, 14, 15, 16, 17, 18]) 15 u d))) (As := [.ref ((pk ad [59, 60, 61, 62, 63, 64, 65, 66, 67, 68, 69, 70, 71, 72, 73, 4, 5, 6, 7, 8, 9, 10, 11, 12, 13, 14, 15, 16, 17, 18]) 15)]) (st := []) ml_X4_layLike vl_X6_170 dX6_mornings_63 [none, none, none, none, some 15, some 16, some 17, some 18, some 19, some 20, some 21, some 22, some 23, some 24, some 25, some 26, some 27, some 28, some 29, none, none, none, none, none, none, none, none, none, none, none, none, none, none, none, none, none, none, none, none, none, none, none, none, none, none, none, none, none, none, none, none, none, none, none, none, none, none, none, none, some 0, some 1, some 2, some 3, some 4, some 5, some 6, some 7, some 8, some 9, some 10, some 11, some 12, some 13, some 14] ⟨rfl, Nat.le_of_ble_eq_true rfl, rfl, rfl⟩ rfl rfl rfl (Nat.le_of_ble_eq_true rfl) ⟨by decide, by decide⟩ rfl rfl (Nat.le_of_ble_eq_true rfl) (J.mono (fun v_ w_ hp_ => ?_) H)
    obtain ⟨u_3, rfl, rfl, H⟩ := hp_
    refine j_w (w' := (rlW G ad 0 pf pn u d g l n fn fd ku kd kg kl kn kfn kfd u_3 td t wa le se v)) rfl ?_
    refine j_iconst (v := 0) dX6_mornings_66 (by decide) ?_
    refine j_istore (lo' := [(7, .int 0), (0, .ref (ad 0)), (1, .int x1), (2, .int x2), (3, .int x3), (4, .int x4), (5, .int x5), (6, .int x6)]) dX6_mornings_67 (by decide) rfl ?_
    refine j_lo [1, 2, 3, 4, 5, 6, 7, 0] rfl ?_
    exact H
set_option maxRecDepth 20000 in
theorem sg_X6_mornings_69 {G : GG} {ad : Nat → Nat} {pf : Nat → Int32} {pn : Int32} {u : Nat → Nat → Int32} {d : Nat → Nat → Int32} {g : Nat → Int32} {l : Nat → Int32} {n : Int32} {fn : Nat → Int32} {fd : Nat → Nat → Int32} {ku : Nat → Nat → Int32} {kd : Nat → Nat → Int32} {kg : Nat → Int32} {kl : Nat → Int32} {kn : Int32} {kfn : Nat → Int32} {kfd : Nat → Nat → Int32} {tu : Nat → Nat → Int32} {td : Nat → Nat → Int32} {t : Nat → Int32} {wa : Nat → Int32} {le : Nat → Int32} {se : Nat → Int32} {v : Nat → Int32} {x1 : Int32} {x2 : Int32} {x3 : Int32} {x4 : Int32} {x5 : Int32} {x6 : Int32} {x7 : Int32} {Q : Option Value → va_W → Prop} (H : (((5 ≤ x7) → J G mX4_lettersOut 0 [(0, .ref ((pk ad [59, 60, 61, 62, 63, 64, 65, 66, 67, 68, 69, 70, 71, 72, 73]) 0))] [] (stW G (pk ad [59, 60, 61, 62, 63, 64, 65, 66, 67, 68, 69, 70, 71, 72, 73]) 0 tu td) (fun v_ w_ => ∃ (r_2 : Int32), v_ = some (.int r_2) ∧ w_ = (stW G (pk ad [59, 60, 61, 62, 63, 64, 65, 66, 67, 68, 69, 70, 71, 72, 73]) 0 tu td) ∧ J G mX6_mornings 46 [(0, .ref (ad 0)), (1, .int x1), (2, .int x2), (3, .int x3), (4, .int (x4 + r_2)), (5, .int x5), (6, .int (x6 + 1))] [] (rlW G ad 0 pf pn u d g l n fn fd ku kd kg kl kn kfn kfd tu td t wa le se v) Q)) ∧ ((¬ 5 ≤ x7) → J G mX6_nextSeed 0 [(0, .int x5)] [] ([] : va_W) (fun v_ w_ => ∃ (r_3 : Int32), v_ = some (.int r_3) ∧ w_ = ([] : va_W) ∧ J G mX6_nextSeed 0 [(0, .int r_3)] [] ([] : va_W) (fun v_ w_ => ∃ (r_4 : Int32), v_ = some (.int r_4) ∧ w_ = ([] : va_W) ∧ J G mX4_run 0 [(0, .ref ((pk ad [59, 60, 61, 62, 63, 64, 65, 66, 67, 68, 69, 70, 71, 72, 73]) 0)), (1, .int (((r_3 >>> (16 &&& 31)) : Int32) - ((r_3 >>> (16 &&& 31)) : Int32) / 6 * 6)), (2, .int (((r_4 >>> (16 &&& 31)) : Int32) - ((r_4 >>> (16 &&& 31)) : Int32) / 5 * 5))] [] (stW G (pk ad [59, 60, 61, 62, 63, 64, 65, 66, 67, 68, 69, 70, 71, 72, 73]) 0 tu td) (fun v_ w_ => ∃ (r_7 : Int32) (d_5 : Nat → Nat → Int32) (u_6 : Nat → Nat → Int32), v_ = some (.int r_7) ∧ w_ = (stW G (pk ad [59, 60, 61, 62, 63, 64, 65, 66, 67, 68, 69, 70, 71, 72, 73]) 0 u_6 d_5) ∧ J G mX6_mornings 69 [(0, .ref (ad 0)), (1, .int x1), (2, .int x2), (3, .int x3), (4, .int x4), (5, .int r_4), (6, .int x6), (7, .int (x7 + 1))] [] (rlW G ad 0 pf pn u d g l n fn fd ku kd kg kl kn kfn kfd u_6 d_5 t wa le se v) Q)))))) : J G mX6_mornings 69 [(0, .ref (ad 0)), (1, .int x1), (2, .int x2), (3, .int x3), (4, .int x4), (5, .int x5), (6, .int x6), (7, .int x7)] [] (rlW G ad 0 pf pn u d g l n fn fd ku kd kg kl kn kfn kfd tu td t wa le se v) Q := by
  refine j_iload 7 dX6_mornings_69 rfl ?_
  refine j_iconst (v := 5) dX6_mornings_71 (by decide) ?_
  refine j_icmp_ge (tgt := 122) dX6_mornings_72 (by decide) (fun c_1 => ?_) (fun c_1 => ?_)
  · have H := H.1 c_1
    refine j_iload 4 dX6_mornings_122 rfl ?_
    refine j_aload_n 0 dX6_mornings_124 rfl rfl ?_
    refine j_get 0 fl_X6_29 dX6_mornings_125 rfl rfl ?_
    refine j_callV (q0 := 0) (wc := (stW G (pk ad [59, 60, 61, 62, 63, 64, 65, 66, 67, 68, 69, 70, 71, 72, 73]) 0 tu td)) (As := []) (st := [.int x4]) ml_X4_lettersOut vl_X6_178 dX6_mornings_128 [none, none, none, none, none, none, none, none, none, none, none, none, none, none, none, none, none, none, none, none, none, none, none, none, none, none, none, none, none, none, none, none, none, none, none, none, none, none, none, none, none, none, none, none, none, none, none, none, none, none, none, none, none, none, none, none, none, none, none, some 0, some 1, some 2, some 3, some 4, some 5, some 6, some 7, some 8, some 9, some 10, some 11, some 12, some 13, some 14] ⟨rfl, Nat.le_of_ble_eq_true rfl, rfl, rfl⟩ rfl rfl rfl (Nat.le_of_ble_eq_true rfl) ⟨by decide, by decide⟩ rfl rfl (Nat.le_of_ble_eq_true rfl) (J.mono (fun v_ w_ hp_ => ?_) H)
    obtain ⟨r_2, rfl, rfl, H⟩ := hp_
    refine j_w (w' := (rlW G ad 0 pf pn u d g l n fn fd ku kd kg kl kn kfn kfd tu td t wa le se v)) rfl ?_
    refine j_iadd dX6_mornings_131 ?_
    refine j_istore (lo' := [(4, .int (x4 + r_2)), (0, .ref (ad 0)), (1, .int x1), (2, .int x2), (3, .int x3), (5, .int x5), (6, .int x6), (7, .int x7)]) dX6_mornings_132 (by decide) rfl ?_
    refine j_iinc (v := (x6 + 1)) (lo' := [(6, .int (x6 + 1)), (4, .int (x4 + r_2)), (0, .ref (ad 0)), (1, .int x1), (2, .int x2), (3, .int x3), (5, .int x5), (7, .int x7)]) 6 dX6_mornings_134 rfl rfl (by decide) rfl ?_
    refine j_goto (tgt := 46) dX6_mornings_137 (by decide) ?_
    refine j_lo [2, 3, 4, 5, 1, 6, 0] rfl ?_
    exact H
  · have H := H.2 c_1
    refine j_iload 5 dX6_mornings_75 rfl ?_
    refine j_callS0 (As := [.int x5]) (st := []) ml_X6_nextSeed sl_X6_194 dX6_mornings_77 (Nat.le_of_ble_eq_true rfl) ⟨by decide, by decide⟩ rfl rfl (Nat.le_of_ble_eq_true rfl) (J.mono (fun v_ w_ hp_ => ?_) H)
    obtain ⟨r_3, rfl, rfl, H⟩ := hp_
    refine j_istore (lo' := [(5, .int r_3), (0, .ref (ad 0)), (1, .int x1), (2, .int x2), (3, .int x3), (4, .int x4), (6, .int x6), (7, .int x7)]) dX6_mornings_80 (by decide) rfl ?_
    refine j_iload 0 dX6_mornings_82 rfl ?_
    refine j_bipush (v := 16) dX6_mornings_84 (by decide) ?_
    refine j_ishr dX6_mornings_86 ?_
    refine j_bipush (v := 6) dX6_mornings_87 (by decide) ?_
    refine j_irem dX6_mornings_89 (by decide) ?_
    refine j_istore (lo' := [(8, .int (((r_3 >>> (16 &&& 31)) : Int32) - ((r_3 >>> (16 &&& 31)) : Int32) / 6 * 6)), (5, .int r_3), (0, .ref (ad 0)), (1, .int x1), (2, .int x2), (3, .int x3), (4, .int x4), (6, .int x6), (7, .int x7)]) dX6_mornings_90 (by decide) rfl ?_
    refine j_iload 1 dX6_mornings_92 rfl ?_
    refine j_callS0 (As := [.int r_3]) (st := []) ml_X6_nextSeed sl_X6_194 dX6_mornings_94 (Nat.le_of_ble_eq_true rfl) ⟨by decide, by decide⟩ rfl rfl (Nat.le_of_ble_eq_true rfl) (J.mono (fun v_ w_ hp_ => ?_) H)
    obtain ⟨r_4, rfl, rfl, H⟩ := hp_
    refine j_istore (lo' := [(5, .int r_4), (8, .int (((r_3 >>> (16 &&& 31)) : Int32) - ((r_3 >>> (16 &&& 31)) : Int32) / 6 * 6)), (0, .ref (ad 0)), (1, .int x1), (2, .int x2), (3, .int x3), (4, .int x4), (6, .int x6), (7, .int x7)]) dX6_mornings_97 (by decide) rfl ?_
    refine j_aload_n 2 dX6_mornings_99 rfl rfl ?_
    refine j_get 0 fl_X6_29 dX6_mornings_100 rfl rfl ?_
    refine j_iload 1 dX6_mornings_103 rfl ?_
    refine j_iload 0 dX6_mornings_105 rfl ?_
    refine j_bipush (v := 16) dX6_mornings_107 (by decide) ?_
    refine j_ishr dX6_mornings_109 ?_
    refine j_iconst (v := 5) dX6_mornings_110 (by decide) ?_
    refine j_irem dX6_mornings_111 (by decide) ?_
    refine j_callV (q0 := 0) (wc := (stW G (pk ad [59, 60, 61, 62, 63, 64, 65, 66, 67, 68, 69, 70, 71, 72, 73]) 0 tu td)) (As := [.int (((r_3 >>> (16 &&& 31)) : Int32) - ((r_3 >>> (16 &&& 31)) : Int32) / 6 * 6), .int (((r_4 >>> (16 &&& 31)) : Int32) - ((r_4 >>> (16 &&& 31)) : Int32) / 5 * 5)]) (st := []) ml_X4_run vl_X6_136 dX6_mornings_112 [none, none, none, none, none, none, none, none, none, none, none, none, none, none, none, none, none, none, none, none, none, none, none, none, none, none, none, none, none, none, none, none, none, none, none, none, none, none, none, none, none, none, none, none, none, none, none, none, none, none, none, none, none, none, none, none, none, none, none, some 0, some 1, some 2, some 3, some 4, some 5, some 6, some 7, some 8, some 9, some 10, some 11, some 12, some 13, some 14] ⟨rfl, Nat.le_of_ble_eq_true rfl, rfl, rfl⟩ rfl rfl rfl (Nat.le_of_ble_eq_true rfl) ⟨by decide, by decide⟩ rfl rfl (Nat.le_of_ble_eq_true rfl) (J.mono (fun v_ w_ hp_ => ?_) H)
    obtain ⟨r_7, d_5, u_6, rfl, rfl, H⟩ := hp_
    refine j_w (w' := (rlW G ad 0 pf pn u d g l n fn fd ku kd kg kl kn kfn kfd u_6 d_5 t wa le se v)) rfl ?_
    refine j_pop dX6_mornings_115 rfl ?_
    refine j_iinc (v := (x7 + 1)) (lo' := [(7, .int (x7 + 1)), (5, .int r_4), (8, .int (((r_3 >>> (16 &&& 31)) : Int32) - ((r_3 >>> (16 &&& 31)) : Int32) / 6 * 6)), (0, .ref (ad 0)), (1, .int x1), (2, .int x2), (3, .int x3), (4, .int x4), (6, .int x6)]) 8 dX6_mornings_116 rfl rfl (by decide) rfl ?_
    refine j_goto (tgt := 69) dX6_mornings_119 (by decide) ?_
    refine j_lo [3, 4, 5, 6, 7, 1, 8, 0] rfl ?_
    exact H
set_option maxRecDepth 20000 in
theorem sg_X6_orders_0 {G : GG} {ad : Nat → Nat} {pf : Nat → Int32} {pn : Int32} {u : Nat → Nat → Int32} {d : Nat → Nat → Int32} {g : Nat → Int32} {l : Nat → Int32} {n : Int32} {fn : Nat → Int32} {fd : Nat → Nat → Int32} {ku : Nat → Nat → Int32} {kd : Nat → Nat → Int32} {kg : Nat → Int32} {kl : Nat → Int32} {kn : Int32} {kfn : Nat → Int32} {kfd : Nat → Nat → Int32} {tu : Nat → Nat → Int32} {td : Nat → Nat → Int32} {t : Nat → Int32} {wa : Nat → Int32} {le : Nat → Int32} {se : Nat → Int32} {v : Nat → Int32} {x1 : Int32} {Q : Option Value → va_W → Prop} (H : J G mX6_isGutter 0 [(0, .ref (ad 0)), (1, .int x1)] [] (rlW G ad 0 pf pn u d g l n fn fd ku kd kg kl kn kfn kfd tu td t wa le se v) (fun v_ w_ => ∃ (r_1 : Int32), v_ = some (.int r_1) ∧ w_ = (rlW G ad 0 pf pn u d g l n fn fd ku kd kg kl kn kfn kfd tu td t wa le se v) ∧ (((¬ r_1 = 0) → (vp_in x1 6) ∧ (((¬ ((u 1) (Int32.toNatClampNeg x1)) = (-1)) → Q (some (.int (-103))) (rlW G ad 0 pf pn u d g l n fn fd ku kd kg kl kn kfn kfd tu td t wa le se v)) ∧ ((((u 1) (Int32.toNatClampNeg x1)) = (-1)) → ((((v 3) < 20) → J G mX6_countWords 0 [(0, .ref (ad 0)), (1, .int x1)] [] (rlW G ad 0 pf pn u d g l n fn fd ku kd kg kl kn kfn kfd tu td t wa le se (va_up v 3 ((v 3) + 1))) (fun v_ w_ => ∃ (r_10 : Int32) (le_6 : Nat → Int32) (se_7 : Nat → Int32) (td_8 : Nat → Nat → Int32) (tu_9 : Nat → Nat → Int32), v_ = some (.int r_10) ∧ w_ = (rlW G ad 0 pf pn u d g l n fn fd ku kd kg kl kn kfn kfd tu_9 td_8 t wa le_6 se_7 (va_up v 3 ((v 3) + 1))) ∧ Q (some (.int r_10)) (rlW G ad 0 pf pn u d g l n fn fd ku kd kg kl kn kfn kfd tu_9 td_8 t wa le_6 se_7 (va_up v 3 ((v 3) + 1))))) ∧ ((¬ (v 3) < 20) → Q (some (.int (-103))) (rlW G ad 0 pf pn u d g l n fn fd ku kd kg kl kn kfn kfd tu td t wa le se v)))))) ∧ ((r_1 = 0) → Q (some (.int (-101))) (rlW G ad 0 pf pn u d g l n fn fd ku kd kg kl kn kfn kfd tu td t wa le se v))))) : J G mX6_orders 0 [(0, .ref (ad 0)), (1, .int x1)] [] (rlW G ad 0 pf pn u d g l n fn fd ku kd kg kl kn kfn kfd tu td t wa le se v) Q := by
  refine j_aload_n 0 dX6_orders_0 rfl rfl ?_
  refine j_iload_n 1 dX6_orders_1 rfl rfl ?_
  refine j_callV0 (q0 := 0) (As := [.int x1]) (st := []) ml_X6_isGutter vl_X6_109 dX6_orders_2 rfl rfl rfl (Nat.le_of_ble_eq_true rfl) ⟨by decide, by decide⟩ rfl rfl (Nat.le_of_ble_eq_true rfl) (J.mono (fun v_ w_ hp_ => ?_) H)
  obtain ⟨r_1, rfl, rfl, H⟩ := hp_
  refine j_if_ne (tgt := 11) dX6_orders_5 (by decide) (fun c_2 => ?_) (fun c_2 => ?_)
  · have H := H.1 c_2
    refine j_aload_n 0 dX6_orders_11 rfl rfl ?_
    refine j_get 0 fl_X6_19 dX6_orders_12 rfl rfl ?_
    refine j_get 3 fl_X6_65 dX6_orders_15 rfl rfl ?_
    refine j_get 4 fl_X6_74 dX6_orders_18 rfl rfl ?_
    refine j_iload_n 1 dX6_orders_21 rfl rfl ?_
    obtain ⟨h_3, H⟩ := H
    refine j_iald 6 dX6_orders_22 rfl h_3 ?_
    refine j_iconst (v := (-1)) dX6_orders_23 (by decide) ?_
    refine j_icmp_ne (tgt := 36) dX6_orders_24 (by decide) (fun c_4 => ?_) (fun c_4 => ?_)
    · have H := H.1 c_4
      refine j_bipush (v := (-103)) dX6_orders_36 (by decide) ?_
      exact j_iret dX6_orders_38 rfl H
    · have H := H.2 c_4
      refine j_aload_n 0 dX6_orders_27 rfl rfl ?_
      refine j_get 0 fl_X6_164 dX6_orders_28 rfl rfl ?_
      refine j_bipush (v := 20) dX6_orders_31 (by decide) ?_
      refine j_icmp_lt (tgt := 39) dX6_orders_33 (by decide) (fun c_5 => ?_) (fun c_5 => ?_)
      · have H := H.1 c_5
        refine j_aload_n 0 dX6_orders_39 rfl rfl ?_
        refine j_dup dX6_orders_40 rfl ?_
        refine j_get 0 fl_X6_164 dX6_orders_41 rfl rfl ?_
        refine j_iconst (v := 1) dX6_orders_44 (by decide) ?_
        refine j_iadd dX6_orders_45 ?_
        refine j_put (w' := (rlW G ad 0 pf pn u d g l n fn fd ku kd kg kl kn kfn kfd tu td t wa le se (va_up v 3 ((v 3) + 1)))) 0 fp_X6_164 dX6_orders_46 rfl rfl rfl (Nat.le_of_ble_eq_true rfl) rfl ?_
        refine j_aload_n 0 dX6_orders_49 rfl rfl ?_
        refine j_iload_n 1 dX6_orders_50 rfl rfl ?_
        refine j_callV0 (q0 := 0) (As := [.int x1]) (st := []) ml_X6_countWords vl_X6_167 dX6_orders_51 rfl rfl rfl (Nat.le_of_ble_eq_true rfl) ⟨by decide, by decide⟩ rfl rfl (Nat.le_of_ble_eq_true rfl) (J.mono (fun v_ w_ hp_ => ?_) H)
        obtain ⟨r_10, le_6, se_7, td_8, tu_9, rfl, rfl, H⟩ := hp_
        exact j_iret dX6_orders_54 rfl H
      · have H := H.2 c_5
        refine j_bipush (v := (-103)) dX6_orders_36 (by decide) ?_
        exact j_iret dX6_orders_38 rfl H
  · have H := H.2 c_2
    refine j_bipush (v := (-101)) dX6_orders_8 (by decide) ?_
    exact j_iret dX6_orders_10 rfl H
set_option maxRecDepth 20000 in
theorem sg_X6_restore_0 {G : GG} {ad : Nat → Nat} {pf : Nat → Int32} {pn : Int32} {u : Nat → Nat → Int32} {d : Nat → Nat → Int32} {g : Nat → Int32} {l : Nat → Int32} {n : Int32} {fn : Nat → Int32} {fd : Nat → Nat → Int32} {ku : Nat → Nat → Int32} {kd : Nat → Nat → Int32} {kg : Nat → Int32} {kl : Nat → Int32} {kn : Int32} {kfn : Nat → Int32} {kfd : Nat → Nat → Int32} {tu : Nat → Nat → Int32} {td : Nat → Nat → Int32} {t : Nat → Int32} {wa : Nat → Int32} {le : Nat → Int32} {se : Nat → Int32} {v : Nat → Int32} {Q : Option Value → va_W → Prop} (H : (((¬ (v 0) = 0) → J G mX3_takeAll 0 [(0, .ref ((pk ad [3, 4, 5, 6, 7, 8, 9, 10, 11, 12, 13, 14, 15, 16, 17, 18, 19, 20, 21, 22, 23, 24, 25, 26, 27, 28, 29, 30, 31, 32, 33, 34, 35, 36, 37, 38, 39, 40, 41, 42, 43, 44, 45, 46, 47, 48, 49, 50, 51, 52, 53, 54, 55, 56, 57, 58]) 0)), (1, .ref ((pk ad [3, 4, 5, 6, 7, 8, 9, 10, 11, 12, 13, 14, 15, 16, 17, 18, 19, 20, 21, 22, 23, 24, 25, 26, 27, 28, 29, 30, 31, 32, 33, 34, 35, 36, 37, 38, 39, 40, 41, 42, 43, 44, 45, 46, 47, 48, 49, 50, 51, 52, 53, 54, 55, 56, 57, 58]) 28))] [] (scW G (pk ad [3, 4, 5, 6, 7, 8, 9, 10, 11, 12, 13, 14, 15, 16, 17, 18, 19, 20, 21, 22, 23, 24, 25, 26, 27, 28, 29, 30, 31, 32, 33, 34, 35, 36, 37, 38, 39, 40, 41, 42, 43, 44, 45, 46, 47, 48, 49, 50, 51, 52, 53, 54, 55, 56, 57, 58]) 0 u d g l n fn fd ++ (scW G (pk ad [3, 4, 5, 6, 7, 8, 9, 10, 11, 12, 13, 14, 15, 16, 17, 18, 19, 20, 21, 22, 23, 24, 25, 26, 27, 28, 29, 30, 31, 32, 33, 34, 35, 36, 37, 38, 39, 40, 41, 42, 43, 44, 45, 46, 47, 48, 49, 50, 51, 52, 53, 54, 55, 56, 57, 58]) 28 ku kd kg kl kn kfn kfd)) (fun v_ w_ => ∃ (d_2 : Nat → Nat → Int32) (fd_3 : Nat → Nat → Int32) (fn_4 : Nat → Int32) (g_5 : Nat → Int32) (l_6 : Nat → Int32) (n_7 : Int32) (u_8 : Nat → Nat → Int32), v_ = none ∧ w_ = (scW G (pk ad [3, 4, 5, 6, 7, 8, 9, 10, 11, 12, 13, 14, 15, 16, 17, 18, 19, 20, 21, 22, 23, 24, 25, 26, 27, 28, 29, 30, 31, 32, 33, 34, 35, 36, 37, 38, 39, 40, 41, 42, 43, 44, 45, 46, 47, 48, 49, 50, 51, 52, 53, 54, 55, 56, 57, 58]) 0 u_8 d_2 g_5 l_6 n_7 fn_4 fd_3 ++ (scW G (pk ad [3, 4, 5, 6, 7, 8, 9, 10, 11, 12, 13, 14, 15, 16, 17, 18, 19, 20, 21, 22, 23, 24, 25, 26, 27, 28, 29, 30, 31, 32, 33, 34, 35, 36, 37, 38, 39, 40, 41, 42, 43, 44, 45, 46, 47, 48, 49, 50, 51, 52, 53, 54, 55, 56, 57, 58]) 28 ku kd kg kl kn kfn kfd)) ∧ Q (some (.int n_7)) (rlW G ad 0 pf pn u_8 d_2 g_5 l_6 n_7 fn_4 fd_3 ku kd kg kl kn kfn kfd tu td t wa le se v))) ∧ (((v 0) = 0) → Q (some (.int (-103))) (rlW G ad 0 pf pn u d g l n fn fd ku kd kg kl kn kfn kfd tu td t wa le se v)))) : J G mX6_restore 0 [(0, .ref (ad 0))] [] (rlW G ad 0 pf pn u d g l n fn fd ku kd kg kl kn kfn kfd tu td t wa le se v) Q := by
  refine j_aload_n 0 dX6_restore_0 rfl rfl ?_
  refine j_get 0 fl_X6_98 dX6_restore_1 rfl rfl ?_
  refine j_if_ne (tgt := 10) dX6_restore_4 (by decide) (fun c_1 => ?_) (fun c_1 => ?_)
  · have H := H.1 c_1
    refine j_aload_n 0 dX6_restore_10 rfl rfl ?_
    refine j_get 0 fl_X6_19 dX6_restore_11 rfl rfl ?_
    refine j_aload_n 0 dX6_restore_14 rfl rfl ?_
    refine j_get 0 fl_X6_23 dX6_restore_15 rfl rfl ?_
    refine j_callV (q0 := 0) (wc := (scW G (pk ad [3, 4, 5, 6, 7, 8, 9, 10, 11, 12, 13, 14, 15, 16, 17, 18, 19, 20, 21, 22, 23, 24, 25, 26, 27, 28, 29, 30, 31, 32, 33, 34, 35, 36, 37, 38, 39, 40, 41, 42, 43, 44, 45, 46, 47, 48, 49, 50, 51, 52, 53, 54, 55, 56, 57, 58]) 0 u d g l n fn fd ++ (scW G (pk ad [3, 4, 5, 6, 7, 8, 9, 10, 11, 12, 13, 14, 15, 16, 17, 18, 19, 20, 21, 22, 23, 24, 25, 26, 27, 28, 29, 30, 31, 32, 33, 34, 35, 36, 37, 38, 39, 40, 41, 42, 43, 44, 45, 46, 47, 48, 49, 50, 51, 52, 53, 54, 55, 56, 57, 58]) 28 ku kd kg kl kn kfn kfd))) (As := [.ref ((pk ad [3, 4, 5, 6, 7, 8, 9, 10, 11, 12, 13, 14, 15, 16, 17, 18, 19, 20, 21, 22, 23, 24, 25, 26, 27, 28, 29, 30, 31, 32, 33, 34, 35, 36, 37, 38, 39, 40, 41, 42, 43, 44, 45, 46, 47, 48, 49, 50, 51, 52, 53, 54, 55, 56, 57, 58]) 28)]) (st := []) ml_X3_takeAll vl_X6_197 dX6_restore_18 [none, none, none, some 0, some 1, some 2, some 3, some 4, some 5, some 6, some 7, some 8, some 9, some 10, some 11, some 12, some 13, some 14, some 15, some 16, some 17, some 18, some 19, some 20, some 21, some 22, some 23, some 24, some 25, some 26, some 27, some 28, some 29, some 30, some 31, some 32, some 33, some 34, some 35, some 36, some 37, some 38, some 39, some 40, some 41, some 42, some 43, some 44, some 45, some 46, some 47, some 48, some 49, some 50, some 51, some 52, some 53, some 54, some 55] ⟨rfl, Nat.le_of_ble_eq_true rfl, rfl, rfl⟩ rfl rfl rfl (Nat.le_of_ble_eq_true rfl) ⟨by decide, by decide⟩ rfl rfl (Nat.le_of_ble_eq_true rfl) (J.mono (fun v_ w_ hp_ => ?_) H)
    obtain ⟨d_2, fd_3, fn_4, g_5, l_6, n_7, u_8, rfl, rfl, H⟩ := hp_
    refine j_w (w' := (rlW G ad 0 pf pn u_8 d_2 g_5 l_6 n_7 fn_4 fd_3 ku kd kg kl kn kfn kfd tu td t wa le se v)) rfl ?_
    refine j_aload_n 0 dX6_restore_21 rfl rfl ?_
    refine j_get 0 fl_X6_19 dX6_restore_22 rfl rfl ?_
    refine j_get 3 fl_X6_84 dX6_restore_25 rfl rfl ?_
    refine j_get 19 fl_X6_88 dX6_restore_28 rfl rfl ?_
    exact j_iret dX6_restore_31 rfl H
  · have H := H.2 c_1
    refine j_bipush (v := (-103)) dX6_restore_7 (by decide) ?_
    exact j_iret dX6_restore_9 rfl H
set_option maxRecDepth 20000 in
theorem sg_X6_street_0 {G : GG} {ad : Nat → Nat} {pf : Nat → Int32} {pn : Int32} {u : Nat → Nat → Int32} {d : Nat → Nat → Int32} {g : Nat → Int32} {l : Nat → Int32} {n : Int32} {fn : Nat → Int32} {fd : Nat → Nat → Int32} {ku : Nat → Nat → Int32} {kd : Nat → Nat → Int32} {kg : Nat → Int32} {kl : Nat → Int32} {kn : Int32} {kfn : Nat → Int32} {kfd : Nat → Nat → Int32} {tu : Nat → Nat → Int32} {td : Nat → Nat → Int32} {t : Nat → Int32} {wa : Nat → Int32} {le : Nat → Int32} {se : Nat → Int32} {v : Nat → Int32} {Q : Option Value → va_W → Prop} (H : J G mX2_isStreet 0 [(0, .ref ((pk ad [1, 2]) 0))] [] (pgW G (pk ad [1, 2]) 0 pf pn) (fun v_ w_ => ∃ (r_1 : Int32), v_ = some (.int r_1) ∧ w_ = (pgW G (pk ad [1, 2]) 0 pf pn) ∧ (((¬ r_1 = 0) → J G mX6_street 15 [(0, .ref (ad 0)), (1, .int 0)] [] (rlW G ad 0 pf pn u d g l n fn fd ku kd kg kl kn kfn kfd tu td t wa le se v) Q) ∧ ((r_1 = 0) → Q (some (.int (-103))) (rlW G ad 0 pf pn u d g l n fn fd ku kd kg kl kn kfn kfd tu td t wa le se v))))) : J G mX6_street 0 [(0, .ref (ad 0))] [] (rlW G ad 0 pf pn u d g l n fn fd ku kd kg kl kn kfn kfd tu td t wa le se v) Q := by
  refine j_aload_n 0 dX6_street_0 rfl rfl ?_
  refine j_get 0 fl_X6_10 dX6_street_1 rfl rfl ?_
  refine j_callV (q0 := 0) (wc := (pgW G (pk ad [1, 2]) 0 pf pn)) (As := []) (st := []) ml_X2_isStreet vl_X6_61 dX6_street_4 [none, some 0, some 1] ⟨rfl, Nat.le_of_ble_eq_true rfl, rfl, rfl⟩ rfl rfl rfl (Nat.le_of_ble_eq_true rfl) ⟨by decide, by decide⟩ rfl rfl (Nat.le_of_ble_eq_true rfl) (J.mono (fun v_ w_ hp_ => ?_) H)
  obtain ⟨r_1, rfl, rfl, H⟩ := hp_
  refine j_w (w' := (rlW G ad 0 pf pn u d g l n fn fd ku kd kg kl kn kfn kfd tu td t wa le se v)) rfl ?_
  refine j_if_ne (tgt := 13) dX6_street_7 (by decide) (fun c_2 => ?_) (fun c_2 => ?_)
  · have H := H.1 c_2
    refine j_iconst (v := 0) dX6_street_13 (by decide) ?_
    refine j_istore_n (lo' := [(1, .int 0), (0, .ref (ad 0))]) dX6_street_14 rfl (by decide) rfl ?_
    refine j_lo [1, 0] rfl ?_
    exact H
  · have H := H.2 c_2
    refine j_bipush (v := (-103)) dX6_street_10 (by decide) ?_
    exact j_iret dX6_street_12 rfl H
set_option maxRecDepth 20000 in
theorem sg_X6_street_15 {G : GG} {ad : Nat → Nat} {pf : Nat → Int32} {pn : Int32} {u : Nat → Nat → Int32} {d : Nat → Nat → Int32} {g : Nat → Int32} {l : Nat → Int32} {n : Int32} {fn : Nat → Int32} {fd : Nat → Nat → Int32} {ku : Nat → Nat → Int32} {kd : Nat → Nat → Int32} {kg : Nat → Int32} {kl : Nat → Int32} {kn : Int32} {kfn : Nat → Int32} {kfd : Nat → Nat → Int32} {tu : Nat → Nat → Int32} {td : Nat → Nat → Int32} {t : Nat → Int32} {wa : Nat → Int32} {le : Nat → Int32} {se : Nat → Int32} {v : Nat → Int32} {x1 : Int32} {Q : Option Value → va_W → Prop} (H : (((6 ≤ x1) → J G mX4_clear 0 [(0, .ref ((pk ad [4, 5, 6, 7, 8, 9, 10, 11, 12, 13, 14, 15, 16, 17, 18]) 0))] [] (stW G (pk ad [4, 5, 6, 7, 8, 9, 10, 11, 12, 13, 14, 15, 16, 17, 18]) 0 u d) (fun v_ w_ => ∃ (u_2 : Nat → Nat → Int32), v_ = none ∧ w_ = (stW G (pk ad [4, 5, 6, 7, 8, 9, 10, 11, 12, 13, 14, 15, 16, 17, 18]) 0 u_2 d) ∧ J G mX1_clear 0 [(0, .ref ((pk ad [22, 23, 24, 25, 26, 27, 28, 29, 30]) 0))] [] (fiW G (pk ad [22, 23, 24, 25, 26, 27, 28, 29, 30]) 0 fn fd) (fun v_ w_ => ∃ (fn_3 : Nat → Int32), v_ = none ∧ w_ = (fiW G (pk ad [22, 23, 24, 25, 26, 27, 28, 29, 30]) 0 fn_3 fd) ∧ J G mX4_countOut 0 [(0, .ref ((pk ad [4, 5, 6, 7, 8, 9, 10, 11, 12, 13, 14, 15, 16, 17, 18]) 0))] [] (stW G (pk ad [4, 5, 6, 7, 8, 9, 10, 11, 12, 13, 14, 15, 16, 17, 18]) 0 u_2 d) (fun v_ w_ => ∃ (r_4 : Int32), v_ = some (.int r_4) ∧ w_ = (stW G (pk ad [4, 5, 6, 7, 8, 9, 10, 11, 12, 13, 14, 15, 16, 17, 18]) 0 u_2 d) ∧ Q (some (.int r_4)) (rlW G ad 0 pf 0 u_2 d g l 0 fn_3 fd ku kd kg kl kn kfn kfd tu td t wa le se (va_up (va_up v 0 0) 1 ((v 1) + 1))))))) ∧ ((¬ 6 ≤ x1) → J G mX2_kindAt 0 [(0, .ref ((pk ad [1, 2]) 0)), (1, .int (x1 * 3))] [] (pgW G (pk ad [1, 2]) 0 pf pn) (fun v_ w_ => ∃ (r_5 : Int32), v_ = some (.int r_5) ∧ w_ = (pgW G (pk ad [1, 2]) 0 pf pn) ∧ (vp_in x1 6) ∧ J G mX2_flowAt 0 [(0, .ref ((pk ad [1, 2]) 0)), (1, .int ((x1 * 3) + 1)), (2, .int x1)] [] (pgW G (pk ad [1, 2]) 0 pf pn) (fun v_ w_ => ∃ (r_7 : Int32), v_ = some (.int r_7) ∧ w_ = (pgW G (pk ad [1, 2]) 0 pf pn) ∧ J G mX6_street 15 [(0, .ref (ad 0)), (1, .int (x1 + 1))] [] (rlW G ad 0 pf pn (va_up (va_up u 0 (upd (u 0) (Int32.toNatClampNeg x1) r_5)) 1 (upd (u 1) (Int32.toNatClampNeg x1) r_7)) d g l n fn fd ku kd kg kl kn kfn kfd tu td t wa le se v) Q))))) : J G mX6_street 15 [(0, .ref (ad 0)), (1, .int x1)] [] (rlW G ad 0 pf pn u d g l n fn fd ku kd kg kl kn kfn kfd tu td t wa le se v) Q := by
  refine j_iload_n 1 dX6_street_15 rfl rfl ?_
  refine j_bipush (v := 6) dX6_street_16 (by decide) ?_
  refine j_icmp_ge (tgt := 74) dX6_street_18 (by decide) (fun c_1 => ?_) (fun c_1 => ?_)
  · have H := H.1 c_1
    refine j_aload_n 0 dX6_street_74 rfl rfl ?_
    refine j_get 0 fl_X6_19 dX6_street_75 rfl rfl ?_
    refine j_get 3 fl_X6_65 dX6_street_78 rfl rfl ?_
    refine j_callV (q0 := 0) (wc := (stW G (pk ad [4, 5, 6, 7, 8, 9, 10, 11, 12, 13, 14, 15, 16, 17, 18]) 0 u d)) (As := []) (st := []) ml_X4_clear vl_X6_81 dX6_street_81 [none, none, none, none, some 0, some 1, some 2, some 3, some 4, some 5, some 6, some 7, some 8, some 9, some 10, some 11, some 12, some 13, some 14] ⟨rfl, Nat.le_of_ble_eq_true rfl, rfl, rfl⟩ rfl rfl rfl (Nat.le_of_ble_eq_true rfl) ⟨by decide, by decide⟩ rfl rfl (Nat.le_of_ble_eq_true rfl) (J.mono (fun v_ w_ hp_ => ?_) H)
    obtain ⟨u_2, rfl, rfl, H⟩ := hp_
    refine j_w (w' := (rlW G ad 0 pf pn u_2 d g l n fn fd ku kd kg kl kn kfn kfd tu td t wa le se v)) rfl ?_
    refine j_aload_n 0 dX6_street_84 rfl rfl ?_
    refine j_get 0 fl_X6_19 dX6_street_85 rfl rfl ?_
    refine j_get 3 fl_X6_84 dX6_street_88 rfl rfl ?_
    refine j_iconst (v := 0) dX6_street_91 (by decide) ?_
    refine j_put (w' := (rlW G ad 0 pf pn u_2 d g l 0 fn fd ku kd kg kl kn kfn kfd tu td t wa le se v)) 19 fp_X6_88 dX6_street_92 rfl rfl rfl (Nat.le_of_ble_eq_true rfl) rfl ?_
    refine j_aload_n 0 dX6_street_95 rfl rfl ?_
    refine j_get 0 fl_X6_19 dX6_street_96 rfl rfl ?_
    refine j_get 3 fl_X6_91 dX6_street_99 rfl rfl ?_
    refine j_callV (q0 := 0) (wc := (fiW G (pk ad [22, 23, 24, 25, 26, 27, 28, 29, 30]) 0 fn fd)) (As := []) (st := []) ml_X1_clear vl_X6_95 dX6_street_102 [none, none, none, none, none, none, none, none, none, none, none, none, none, none, none, none, none, none, none, none, none, none, some 0, some 1, some 2, some 3, some 4, some 5, some 6, some 7, some 8] ⟨rfl, Nat.le_of_ble_eq_true rfl, rfl, rfl⟩ rfl rfl rfl (Nat.le_of_ble_eq_true rfl) ⟨by decide, by decide⟩ rfl rfl (Nat.le_of_ble_eq_true rfl) (J.mono (fun v_ w_ hp_ => ?_) H)
    obtain ⟨fn_3, rfl, rfl, H⟩ := hp_
    refine j_w (w' := (rlW G ad 0 pf pn u_2 d g l 0 fn_3 fd ku kd kg kl kn kfn kfd tu td t wa le se v)) rfl ?_
    refine j_aload_n 0 dX6_street_105 rfl rfl ?_
    refine j_iconst (v := 0) dX6_street_106 (by decide) ?_
    refine j_put (w' := (rlW G ad 0 pf pn u_2 d g l 0 fn_3 fd ku kd kg kl kn kfn kfd tu td t wa le se (va_up v 0 0))) 0 fp_X6_98 dX6_street_107 rfl (by decide) rfl (Nat.le_of_ble_eq_true rfl) rfl ?_
    refine j_aload_n 0 dX6_street_110 rfl rfl ?_
    refine j_dup dX6_street_111 rfl ?_
    refine j_get 0 fl_X6_102 dX6_street_112 rfl rfl ?_
    refine j_iconst (v := 1) dX6_street_115 (by decide) ?_
    refine j_iadd dX6_street_116 ?_
    refine j_put (w' := (rlW G ad 0 pf pn u_2 d g l 0 fn_3 fd ku kd kg kl kn kfn kfd tu td t wa le se (va_up (va_up v 0 0) 1 ((v 1) + 1)))) 0 fp_X6_102 dX6_street_117 rfl rfl rfl (Nat.le_of_ble_eq_true rfl) rfl ?_
    refine j_aload_n 0 dX6_street_120 rfl rfl ?_
    refine j_get 0 fl_X6_10 dX6_street_121 rfl rfl ?_
    refine j_iconst (v := 0) dX6_street_124 (by decide) ?_
    refine j_put (w' := (rlW G ad 0 pf 0 u_2 d g l 0 fn_3 fd ku kd kg kl kn kfn kfd tu td t wa le se (va_up (va_up v 0 0) 1 ((v 1) + 1)))) 1 fp_X6_50 dX6_street_125 rfl rfl rfl (Nat.le_of_ble_eq_true rfl) rfl ?_
    refine j_aload_n 0 dX6_street_128 rfl rfl ?_
    refine j_get 0 fl_X6_19 dX6_street_129 rfl rfl ?_
    refine j_get 3 fl_X6_65 dX6_street_132 rfl rfl ?_
    refine j_callV (q0 := 0) (wc := (stW G (pk ad [4, 5, 6, 7, 8, 9, 10, 11, 12, 13, 14, 15, 16, 17, 18]) 0 u_2 d)) (As := []) (st := []) ml_X4_countOut vl_X6_105 dX6_street_135 [none, none, none, none, some 0, some 1, some 2, some 3, some 4, some 5, some 6, some 7, some 8, some 9, some 10, some 11, some 12, some 13, some 14] ⟨rfl, Nat.le_of_ble_eq_true rfl, rfl, rfl⟩ rfl rfl rfl (Nat.le_of_ble_eq_true rfl) ⟨by decide, by decide⟩ rfl rfl (Nat.le_of_ble_eq_true rfl) (J.mono (fun v_ w_ hp_ => ?_) H)
    obtain ⟨r_4, rfl, rfl, H⟩ := hp_
    refine j_w (w' := (rlW G ad 0 pf 0 u_2 d g l 0 fn_3 fd ku kd kg kl kn kfn kfd tu td t wa le se (va_up (va_up v 0 0) 1 ((v 1) + 1)))) rfl ?_
    exact j_iret dX6_street_138 rfl H
  · have H := H.2 c_1
    refine j_aload_n 0 dX6_street_21 rfl rfl ?_
    refine j_get 0 fl_X6_19 dX6_street_22 rfl rfl ?_
    refine j_get 3 fl_X6_65 dX6_street_25 rfl rfl ?_
    refine j_get 4 fl_X6_68 dX6_street_28 rfl rfl ?_
    refine j_iload_n 1 dX6_street_31 rfl rfl ?_
    refine j_aload_n 0 dX6_street_32 rfl rfl ?_
    refine j_get 0 fl_X6_10 dX6_street_33 rfl rfl ?_
    refine j_iload_n 1 dX6_street_36 rfl rfl ?_
    refine j_iconst (v := 3) dX6_street_37 (by decide) ?_
    refine j_imul dX6_street_38 ?_
    refine j_callV (q0 := 0) (wc := (pgW G (pk ad [1, 2]) 0 pf pn)) (As := [.int (x1 * 3)]) (st := [.int x1, .ref (ad 5)]) ml_X2_kindAt vl_X6_71 dX6_street_39 [none, some 0, some 1] ⟨rfl, Nat.le_of_ble_eq_true rfl, rfl, rfl⟩ rfl rfl rfl (Nat.le_of_ble_eq_true rfl) ⟨by decide, by decide⟩ rfl rfl (Nat.le_of_ble_eq_true rfl) (J.mono (fun v_ w_ hp_ => ?_) H)
    obtain ⟨r_5, rfl, rfl, H⟩ := hp_
    refine j_w (w' := (rlW G ad 0 pf pn u d g l n fn fd ku kd kg kl kn kfn kfd tu td t wa le se v)) rfl ?_
    obtain ⟨h_6, H⟩ := H
    refine j_iast (w' := (rlW G ad 0 pf pn (va_up u 0 (upd (u 0) (Int32.toNatClampNeg x1) r_5)) d g l n fn fd ku kd kg kl kn kfn kfd tu td t wa le se v)) 5 dX6_street_42 rfl h_6 rfl ?_
    refine j_aload_n 0 dX6_street_43 rfl rfl ?_
    refine j_get 0 fl_X6_19 dX6_street_44 rfl rfl ?_
    refine j_get 3 fl_X6_65 dX6_street_47 rfl rfl ?_
    refine j_get 4 fl_X6_74 dX6_street_50 rfl rfl ?_
    refine j_iload_n 1 dX6_street_53 rfl rfl ?_
    refine j_aload_n 0 dX6_street_54 rfl rfl ?_
    refine j_get 0 fl_X6_10 dX6_street_55 rfl rfl ?_
    refine j_iload_n 1 dX6_street_58 rfl rfl ?_
    refine j_iconst (v := 3) dX6_street_59 (by decide) ?_
    refine j_imul dX6_street_60 ?_
    refine j_iconst (v := 1) dX6_street_61 (by decide) ?_
    refine j_iadd dX6_street_62 ?_
    refine j_iload_n 1 dX6_street_63 rfl rfl ?_
    refine j_callV (q0 := 0) (wc := (pgW G (pk ad [1, 2]) 0 pf pn)) (As := [.int ((x1 * 3) + 1), .int x1]) (st := [.int x1, .ref (ad 6)]) ml_X2_flowAt vl_X6_77 dX6_street_64 [none, some 0, some 1] ⟨rfl, Nat.le_of_ble_eq_true rfl, rfl, rfl⟩ rfl rfl rfl (Nat.le_of_ble_eq_true rfl) ⟨by decide, by decide⟩ rfl rfl (Nat.le_of_ble_eq_true rfl) (J.mono (fun v_ w_ hp_ => ?_) H)
    obtain ⟨r_7, rfl, rfl, H⟩ := hp_
    refine j_w (w' := (rlW G ad 0 pf pn (va_up u 0 (upd (u 0) (Int32.toNatClampNeg x1) r_5)) d g l n fn fd ku kd kg kl kn kfn kfd tu td t wa le se v)) rfl ?_
    refine j_iast (w' := (rlW G ad 0 pf pn (va_up (va_up u 0 (upd (u 0) (Int32.toNatClampNeg x1) r_5)) 1 (upd (u 1) (Int32.toNatClampNeg x1) r_7)) d g l n fn fd ku kd kg kl kn kfn kfd tu td t wa le se v)) 6 dX6_street_67 rfl h_6 rfl ?_
    refine j_iinc (v := (x1 + 1)) (lo' := [(1, .int (x1 + 1)), (0, .ref (ad 0))]) 1 dX6_street_68 rfl rfl (by decide) rfl ?_
    refine j_goto (tgt := 15) dX6_street_71 (by decide) ?_
    refine j_lo [1, 0] rfl ?_
    exact H
set_option maxRecDepth 20000 in
theorem sg_X6_turn_0 {G : GG} {ad : Nat → Nat} {pf : Nat → Int32} {pn : Int32} {u : Nat → Nat → Int32} {d : Nat → Nat → Int32} {g : Nat → Int32} {l : Nat → Int32} {n : Int32} {fn : Nat → Int32} {fd : Nat → Nat → Int32} {ku : Nat → Nat → Int32} {kd : Nat → Nat → Int32} {kg : Nat → Int32} {kl : Nat → Int32} {kn : Int32} {kfn : Nat → Int32} {kfd : Nat → Nat → Int32} {tu : Nat → Nat → Int32} {td : Nat → Nat → Int32} {t : Nat → Int32} {wa : Nat → Int32} {le : Nat → Int32} {se : Nat → Int32} {v : Nat → Int32} {x1 : Int32} {x2 : Int32} {Q : Option Value → va_W → Prop} (H : J G mX6_isGutter 0 [(0, .ref (ad 0)), (1, .int x1)] [] (rlW G ad 0 pf pn u d g l n fn fd ku kd kg kl kn kfn kfd tu td t wa le se v) (fun v_ w_ => ∃ (r_1 : Int32), v_ = some (.int r_1) ∧ w_ = (rlW G ad 0 pf pn u d g l n fn fd ku kd kg kl kn kfn kfd tu td t wa le se v) ∧ (((¬ r_1 = 0) → (((x2 = (-1)) → (vp_in x1 6) ∧ Q (some (.int ((u 1) (Int32.toNatClampNeg x1)))) (rlW G ad 0 pf pn (va_up u 1 (upd (u 1) (Int32.toNatClampNeg x1) x2)) d g l n fn fd ku kd kg kl kn kfn kfd tu td t wa le se v)) ∧ ((¬ x2 = (-1)) → (((x2 ≤ x1) → Q (some (.int (-102))) (rlW G ad 0 pf pn u d g l n fn fd ku kd kg kl kn kfn kfd tu td t wa le se v)) ∧ ((¬ x2 ≤ x1) → (((x2 < 6) → (vp_in x1 6) ∧ Q (some (.int ((u 1) (Int32.toNatClampNeg x1)))) (rlW G ad 0 pf pn (va_up u 1 (upd (u 1) (Int32.toNatClampNeg x1) x2)) d g l n fn fd ku kd kg kl kn kfn kfd tu td t wa le se v)) ∧ ((¬ x2 < 6) → Q (some (.int (-102))) (rlW G ad 0 pf pn u d g l n fn fd ku kd kg kl kn kfn kfd tu td t wa le se v)))))))) ∧ ((r_1 = 0) → Q (some (.int (-101))) (rlW G ad 0 pf pn u d g l n fn fd ku kd kg kl kn kfn kfd tu td t wa le se v))))) : J G mX6_turn 0 [(0, .ref (ad 0)), (1, .int x1), (2, .int x2)] [] (rlW G ad 0 pf pn u d g l n fn fd ku kd kg kl kn kfn kfd tu td t wa le se v) Q := by
  refine j_aload_n 0 dX6_turn_0 rfl rfl ?_
  refine j_iload_n 1 dX6_turn_1 rfl rfl ?_
  refine j_callV0 (q0 := 0) (As := [.int x1]) (st := []) ml_X6_isGutter vl_X6_109 dX6_turn_2 rfl rfl rfl (Nat.le_of_ble_eq_true rfl) ⟨by decide, by decide⟩ rfl rfl (Nat.le_of_ble_eq_true rfl) (J.mono (fun v_ w_ hp_ => ?_) H)
  obtain ⟨r_1, rfl, rfl, H⟩ := hp_
  refine j_if_ne (tgt := 11) dX6_turn_5 (by decide) (fun c_2 => ?_) (fun c_2 => ?_)
  · have H := H.1 c_2
    refine j_iload_n 2 dX6_turn_11 rfl rfl ?_
    refine j_iconst (v := (-1)) dX6_turn_12 (by decide) ?_
    refine j_icmp_eq (tgt := 30) dX6_turn_13 (by decide) (fun c_3 => ?_) (fun c_3 => ?_)
    · have H := H.1 c_3
      refine j_aload_n 0 dX6_turn_30 rfl rfl ?_
      refine j_get 0 fl_X6_19 dX6_turn_31 rfl rfl ?_
      refine j_get 3 fl_X6_65 dX6_turn_34 rfl rfl ?_
      refine j_get 4 fl_X6_74 dX6_turn_37 rfl rfl ?_
      refine j_iload_n 1 dX6_turn_40 rfl rfl ?_
      obtain ⟨h_4, H⟩ := H
      refine j_iald 6 dX6_turn_41 rfl h_4 ?_
      refine j_istore_n (lo' := [(3, .int ((u 1) (Int32.toNatClampNeg x1))), (0, .ref (ad 0)), (1, .int x1), (2, .int x2)]) dX6_turn_42 rfl (by decide) rfl ?_
      refine j_aload_n 1 dX6_turn_43 rfl rfl ?_
      refine j_get 0 fl_X6_19 dX6_turn_44 rfl rfl ?_
      refine j_get 3 fl_X6_65 dX6_turn_47 rfl rfl ?_
      refine j_get 4 fl_X6_74 dX6_turn_50 rfl rfl ?_
      refine j_iload_n 2 dX6_turn_53 rfl rfl ?_
      refine j_iload_n 3 dX6_turn_54 rfl rfl ?_
      refine j_iast (w' := (rlW G ad 0 pf pn (va_up u 1 (upd (u 1) (Int32.toNatClampNeg x1) x2)) d g l n fn fd ku kd kg kl kn kfn kfd tu td t wa le se v)) 6 dX6_turn_55 rfl h_4 rfl ?_
      refine j_iload_n 0 dX6_turn_56 rfl rfl ?_
      exact j_iret dX6_turn_57 rfl H
    · have H := H.2 c_3
      refine j_iload_n 2 dX6_turn_16 rfl rfl ?_
      refine j_iload_n 1 dX6_turn_17 rfl rfl ?_
      refine j_icmp_le (tgt := 27) dX6_turn_18 (by decide) (fun c_5 => ?_) (fun c_5 => ?_)
      · have H := H.1 c_5
        refine j_bipush (v := (-102)) dX6_turn_27 (by decide) ?_
        exact j_iret dX6_turn_29 rfl H
      · have H := H.2 c_5
        refine j_iload_n 2 dX6_turn_21 rfl rfl ?_
        refine j_bipush (v := 6) dX6_turn_22 (by decide) ?_
        refine j_icmp_lt (tgt := 30) dX6_turn_24 (by decide) (fun c_6 => ?_) (fun c_6 => ?_)
        · have H := H.1 c_6
          refine j_aload_n 0 dX6_turn_30 rfl rfl ?_
          refine j_get 0 fl_X6_19 dX6_turn_31 rfl rfl ?_
          refine j_get 3 fl_X6_65 dX6_turn_34 rfl rfl ?_
          refine j_get 4 fl_X6_74 dX6_turn_37 rfl rfl ?_
          refine j_iload_n 1 dX6_turn_40 rfl rfl ?_
          obtain ⟨h_7, H⟩ := H
          refine j_iald 6 dX6_turn_41 rfl h_7 ?_
          refine j_istore_n (lo' := [(3, .int ((u 1) (Int32.toNatClampNeg x1))), (0, .ref (ad 0)), (1, .int x1), (2, .int x2)]) dX6_turn_42 rfl (by decide) rfl ?_
          refine j_aload_n 1 dX6_turn_43 rfl rfl ?_
          refine j_get 0 fl_X6_19 dX6_turn_44 rfl rfl ?_
          refine j_get 3 fl_X6_65 dX6_turn_47 rfl rfl ?_
          refine j_get 4 fl_X6_74 dX6_turn_50 rfl rfl ?_
          refine j_iload_n 2 dX6_turn_53 rfl rfl ?_
          refine j_iload_n 3 dX6_turn_54 rfl rfl ?_
          refine j_iast (w' := (rlW G ad 0 pf pn (va_up u 1 (upd (u 1) (Int32.toNatClampNeg x1) x2)) d g l n fn fd ku kd kg kl kn kfn kfd tu td t wa le se v)) 6 dX6_turn_55 rfl h_7 rfl ?_
          refine j_iload_n 0 dX6_turn_56 rfl rfl ?_
          exact j_iret dX6_turn_57 rfl H
        · have H := H.2 c_6
          refine j_bipush (v := (-102)) dX6_turn_27 (by decide) ?_
          exact j_iret dX6_turn_29 rfl H
  · have H := H.2 c_2
    refine j_bipush (v := (-101)) dX6_turn_8 (by decide) ?_
    exact j_iret dX6_turn_10 rfl H
