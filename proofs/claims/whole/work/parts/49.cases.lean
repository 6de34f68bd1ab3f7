/-! the law's cases -/
set_option maxRecDepth 100000 in
theorem vl_L_13 : VL R_law 13 mX6_letter := ⟨tb_in 235 rfl rfl, tb_in 236 rfl rfl, tb_in 237 rfl rfl⟩
set_option maxRecDepth 100000 in
theorem vl_L_17 : VL R_law 17 mX7_letter := ⟨tb_in 728 rfl rfl, tb_in 729 rfl rfl, tb_in 730 rfl rfl⟩
set_option maxRecDepth 100000 in
theorem vl_L_18 : VL R_law 18 mX6_blank := ⟨tb_in 239 rfl rfl, tb_in 240 rfl rfl, tb_in 241 rfl rfl⟩
set_option maxRecDepth 100000 in
theorem vl_L_22 : VL R_law 22 mX7_blank := ⟨tb_in 736 rfl rfl, tb_in 737 rfl rfl, tb_in 738 rfl rfl⟩
set_option maxRecDepth 100000 in
theorem vl_L_23 : VL R_law 23 mX6_fault := ⟨tb_in 243 rfl rfl, tb_in 244 rfl rfl, tb_in 245 rfl rfl⟩
set_option maxRecDepth 100000 in
theorem vl_L_26 : VL R_law 26 mX7_fault := ⟨tb_in 740 rfl rfl, tb_in 741 rfl rfl, tb_in 742 rfl rfl⟩
set_option maxRecDepth 100000 in
theorem vl_L_27 : VL R_law 27 mX6_street := ⟨tb_in 358 rfl rfl, tb_in 359 rfl rfl, tb_in 360 rfl rfl⟩
set_option maxRecDepth 100000 in
theorem vl_L_30 : VL R_law 30 mX7_street := ⟨tb_in 757 rfl rfl, tb_in 758 rfl rfl, tb_in 759 rfl rfl⟩
set_option maxRecDepth 100000 in
theorem vl_L_31 : VL R_law 31 mX6_about := ⟨tb_in 379 rfl rfl, tb_in 380 rfl rfl, tb_in 381 rfl rfl⟩
set_option maxRecDepth 100000 in
theorem vl_L_35 : VL R_law 35 mX7_about := ⟨tb_in 768 rfl rfl, tb_in 769 rfl rfl, tb_in 770 rfl rfl⟩
set_option maxRecDepth 100000 in
theorem vl_L_36 : VL R_law 36 mX6_as := ⟨tb_in 391 rfl rfl, tb_in 392 rfl rfl, tb_in 393 rfl rfl⟩
set_option maxRecDepth 100000 in
theorem vl_L_39 : VL R_law 39 mX7_as := ⟨tb_in 780 rfl rfl, tb_in 781 rfl rfl, tb_in 782 rfl rfl⟩
set_option maxRecDepth 100000 in
theorem vl_L_40 : VL R_law 40 mX6_word := ⟨tb_in 395 rfl rfl, tb_in 396 rfl rfl, tb_in 397 rfl rfl⟩
set_option maxRecDepth 100000 in
theorem vl_L_43 : VL R_law 43 mX7_word := ⟨tb_in 785 rfl rfl, tb_in 786 rfl rfl, tb_in 787 rfl rfl⟩
set_option maxRecDepth 100000 in
theorem vl_L_44 : VL R_law 44 mX6_drop := ⟨tb_in 399 rfl rfl, tb_in 400 rfl rfl, tb_in 401 rfl rfl⟩
set_option maxRecDepth 100000 in
theorem vl_L_47 : VL R_law 47 mX7_drop := ⟨tb_in 789 rfl rfl, tb_in 790 rfl rfl, tb_in 791 rfl rfl⟩
set_option maxRecDepth 100000 in
theorem vl_L_48 : VL R_law 48 mX6_rain := ⟨tb_in 424 rfl rfl, tb_in 425 rfl rfl, tb_in 426 rfl rfl⟩
set_option maxRecDepth 100000 in
theorem vl_L_51 : VL R_law 51 mX7_rain := ⟨tb_in 799 rfl rfl, tb_in 800 rfl rfl, tb_in 801 rfl rfl⟩
set_option maxRecDepth 100000 in
theorem vl_L_52 : VL R_law 52 mX6_dry := ⟨tb_in 432 rfl rfl, tb_in 433 rfl rfl, tb_in 434 rfl rfl⟩
set_option maxRecDepth 100000 in
theorem vl_L_55 : VL R_law 55 mX7_dry := ⟨tb_in 803 rfl rfl, tb_in 804 rfl rfl, tb_in 805 rfl rfl⟩
set_option maxRecDepth 100000 in
theorem vl_L_56 : VL R_law 56 mX6_turn := ⟨tb_in 436 rfl rfl, tb_in 437 rfl rfl, tb_in 438 rfl rfl⟩
set_option maxRecDepth 100000 in
theorem vl_L_59 : VL R_law 59 mX7_turn := ⟨tb_in 807 rfl rfl, tb_in 808 rfl rfl, tb_in 809 rfl rfl⟩
set_option maxRecDepth 100000 in
theorem vl_L_60 : VL R_law 60 mX6_fewTurns := ⟨tb_in 440 rfl rfl, tb_in 441 rfl rfl, tb_in 442 rfl rfl⟩
set_option maxRecDepth 100000 in
theorem vl_L_63 : VL R_law 63 mX7_fewTurns := ⟨tb_in 811 rfl rfl, tb_in 812 rfl rfl, tb_in 813 rfl rfl⟩
set_option maxRecDepth 100000 in
theorem vl_L_64 : VL R_law 64 mX6_orders := ⟨tb_in 501 rfl rfl, tb_in 502 rfl rfl, tb_in 503 rfl rfl⟩
set_option maxRecDepth 100000 in
theorem vl_L_67 : VL R_law 67 mX7_orders := ⟨tb_in 842 rfl rfl, tb_in 843 rfl rfl, tb_in 844 rfl rfl⟩
set_option maxRecDepth 100000 in
theorem vl_L_68 : VL R_law 68 mX6_bestDrop := ⟨tb_in 523 rfl rfl, tb_in 524 rfl rfl, tb_in 525 rfl rfl⟩
set_option maxRecDepth 100000 in
theorem vl_L_71 : VL R_law 71 mX7_bestDrop := ⟨tb_in 854 rfl rfl, tb_in 855 rfl rfl, tb_in 856 rfl rfl⟩
set_option maxRecDepth 100000 in
theorem vl_L_72 : VL R_law 72 mX6_found := ⟨tb_in 534 rfl rfl, tb_in 535 rfl rfl, tb_in 536 rfl rfl⟩
set_option maxRecDepth 100000 in
theorem vl_L_75 : VL R_law 75 mX7_found := ⟨tb_in 861 rfl rfl, tb_in 862 rfl rfl, tb_in 863 rfl rfl⟩
set_option maxRecDepth 100000 in
theorem vl_L_76 : VL R_law 76 mX6_forget := ⟨tb_in 542 rfl rfl, tb_in 543 rfl rfl, tb_in 544 rfl rfl⟩
set_option maxRecDepth 100000 in
theorem vl_L_79 : VL R_law 79 mX7_forget := ⟨tb_in 869 rfl rfl, tb_in 870 rfl rfl, tb_in 871 rfl rfl⟩
set_option maxRecDepth 100000 in
theorem vl_L_80 : VL R_law 80 mX6_kindOf := ⟨tb_in 546 rfl rfl, tb_in 547 rfl rfl, tb_in 548 rfl rfl⟩
set_option maxRecDepth 100000 in
theorem vl_L_83 : VL R_law 83 mX7_kindOf := ⟨tb_in 873 rfl rfl, tb_in 874 rfl rfl, tb_in 875 rfl rfl⟩
set_option maxRecDepth 100000 in
theorem vl_L_84 : VL R_law 84 mX6_letterOf := ⟨tb_in 555 rfl rfl, tb_in 556 rfl rfl, tb_in 557 rfl rfl⟩
set_option maxRecDepth 100000 in
theorem vl_L_87 : VL R_law 87 mX7_letterOf := ⟨tb_in 885 rfl rfl, tb_in 886 rfl rfl, tb_in 887 rfl rfl⟩
set_option maxRecDepth 100000 in
theorem vl_L_88 : VL R_law 88 mX6_mornings := ⟨tb_in 559 rfl rfl, tb_in 560 rfl rfl, tb_in 561 rfl rfl⟩
set_option maxRecDepth 100000 in
theorem vl_L_92 : VL R_law 92 mX7_mornings := ⟨tb_in 893 rfl rfl, tb_in 894 rfl rfl, tb_in 895 rfl rfl⟩
set_option maxRecDepth 100000 in
theorem vl_L_93 : VL R_law 93 mX6_image := ⟨tb_in 568 rfl rfl, tb_in 569 rfl rfl, tb_in 570 rfl rfl⟩
set_option maxRecDepth 100000 in
theorem vl_L_96 : VL R_law 96 mX7_image := ⟨tb_in 906 rfl rfl, tb_in 907 rfl rfl, tb_in 908 rfl rfl⟩
set_option maxRecDepth 100000 in
theorem vl_L_97 : VL R_law 97 mX6_restore := ⟨tb_in 591 rfl rfl, tb_in 592 rfl rfl, tb_in 593 rfl rfl⟩
set_option maxRecDepth 100000 in
theorem vl_L_100 : VL R_law 100 mX7_restore := ⟨tb_in 910 rfl rfl, tb_in 911 rfl rfl, tb_in 912 rfl rfl⟩
set_option maxRecDepth 100000 in
theorem vl_L_101 : VL R_law 101 mX6_count := ⟨tb_in 595 rfl rfl, tb_in 596 rfl rfl, tb_in 597 rfl rfl⟩
set_option maxRecDepth 100000 in
theorem vl_L_104 : VL R_law 104 mX7_count := ⟨tb_in 914 rfl rfl, tb_in 915 rfl rfl, tb_in 916 rfl rfl⟩
set_option maxRecDepth 100000 in
theorem vl_L_105 : VL R_law 105 mX6_digest := ⟨tb_in 607 rfl rfl, tb_in 608 rfl rfl, tb_in 609 rfl rfl⟩
set_option maxRecDepth 100000 in
theorem vl_L_109 : VL R_law 109 mX7_digest := ⟨tb_in 922 rfl rfl, tb_in 923 rfl rfl, tb_in 924 rfl rfl⟩
theorem law_0 {p : Program} {l : Launch} {e : Env} {s : State} {m : MethodId} {below : List Frame} {meth : Method} {c : Code} {G : GG} {b L T : Nat} {xs : Nat → Int32} {a : Fm} {v : Ar} {hh : Int64} {cT : CT} {adc adm : Nat → Nat} {H : Heap} {locs : List Loc} {ls : Array Slot} (X : LX G p s m meth c b L xs) (ih : LHd p l e s m below meth c G b (T + 1)) (h : Rel T a v cT) (hi : 4 * T + 4 ≤ L) (hl : lv_has ls 4 [(0, .ref b), (1, .ref (adc 0)), (2, .ref (adm 0)), (3, .int (nI (4 * T)))]) (hW : Wo G (LA s) s (rlT G adc cT ++ mdW G adm 0 a v hh) H locs) : W p l e room_1 s m #[Value.ref b] below meth c H locs 99 58143 (lw_Z below #[Value.ref b] s) (F0 m 140 ls []) := by
  obtain ⟨hx, hb, -⟩ := X.1
  have hL := X.2.2.2.2.2
  obtain ⟨r, RC, hC, hM⟩ := two_letter (G := G) (x := xs (4 * T + 1)) h
  refine lv_aload_n hx hb dL_law_140 rfl (lv_at hl 1 rfl) ?_
  refine l_arg (j := 1) X hW hl (by omega) (by decide) dL_law_141 dL_law_142 dL_law_143 dL_law_144 dL_law_145 ?_
  refine l_callC (As := [.int (xs (4 * T + 1))]) (st := []) (r := .int r) X hW hl.1 ml_X6_letter vl_L_13 rfl (hC adc) (Nat.le_of_ble_eq_true rfl) ⟨Nat.le_of_ble_eq_true rfl, Nat.le_of_ble_eq_true rfl⟩ ⟨Nat.le_of_ble_eq_true rfl, Nat.le_of_ble_eq_true rfl⟩ rfl rfl (Nat.le_of_ble_eq_true rfl) dL_law_146 (fun c1 H locs hc1 hW => ?_)
  refine lv_aload_n hx hb dL_law_149 rfl (lv_at hl 2 rfl) ?_
  refine l_arg (j := 1) X hW hl (by omega) (by decide) dL_law_150 dL_law_151 dL_law_152 dL_law_153 dL_law_154 ?_
  refine l_callM (As := [.int (xs (4 * T + 1))]) (st := [.int r]) (r := .int r) (RC := RC) X hW hl.1 ml_X7_letter vl_L_17 rfl (hM adm hh) hc1 (Nat.le_of_ble_eq_true rfl) ⟨Nat.le_of_ble_eq_true rfl, Nat.le_of_ble_eq_true rfl⟩ ⟨Nat.le_of_ble_eq_true rfl, Nat.le_of_ble_eq_true rfl⟩ rfl rfl (Nat.le_of_ble_eq_true rfl) dL_law_155 (fun a1 v1 hh1 H locs hr hW => ?_)
  exact lv_icmp_eq (tgt := 690) hx hb dL_law_158 (by decide) (fun _ => l_next X ih hr hl hW) (fun z => absurd rfl z)
theorem law_1 {p : Program} {l : Launch} {e : Env} {s : State} {m : MethodId} {below : List Frame} {meth : Method} {c : Code} {G : GG} {b L T : Nat} {xs : Nat → Int32} {a : Fm} {v : Ar} {hh : Int64} {cT : CT} {adc adm : Nat → Nat} {H : Heap} {locs : List Loc} {ls : Array Slot} (X : LX G p s m meth c b L xs) (ih : LHd p l e s m below meth c G b (T + 1)) (h : Rel T a v cT) (hi : 4 * T + 4 ≤ L) (hl : lv_has ls 4 [(0, .ref b), (1, .ref (adc 0)), (2, .ref (adm 0)), (3, .int (nI (4 * T)))]) (hW : Wo G (LA s) s (rlT G adc cT ++ mdW G adm 0 a v hh) H locs) : W p l e room_1 s m #[Value.ref b] below meth c H locs 99 58143 (lw_Z below #[Value.ref b] s) (F0 m 163 ls []) := by
  obtain ⟨hx, hb, -⟩ := X.1
  have hL := X.2.2.2.2.2
  obtain ⟨r, RC, hC, hM⟩ := two_blank (G := G)  h
  refine lv_aload_n hx hb dL_law_163 rfl (lv_at hl 1 rfl) ?_
  refine l_callC (As := []) (st := []) (r := .int r) X hW hl.1 ml_X6_blank vl_L_18 rfl (hC adc) (Nat.le_of_ble_eq_true rfl) ⟨Nat.le_of_ble_eq_true rfl, Nat.le_of_ble_eq_true rfl⟩ ⟨Nat.le_of_ble_eq_true rfl, Nat.le_of_ble_eq_true rfl⟩ rfl rfl (Nat.le_of_ble_eq_true rfl) dL_law_164 (fun c1 H locs hc1 hW => ?_)
  refine lv_aload_n hx hb dL_law_167 rfl (lv_at hl 2 rfl) ?_
  refine l_callM (As := []) (st := [.int r]) (r := .int r) (RC := RC) X hW hl.1 ml_X7_blank vl_L_22 rfl (hM adm hh) hc1 (Nat.le_of_ble_eq_true rfl) ⟨Nat.le_of_ble_eq_true rfl, Nat.le_of_ble_eq_true rfl⟩ ⟨Nat.le_of_ble_eq_true rfl, Nat.le_of_ble_eq_true rfl⟩ rfl rfl (Nat.le_of_ble_eq_true rfl) dL_law_168 (fun a1 v1 hh1 H locs hr hW => ?_)
  exact lv_icmp_eq (tgt := 690) hx hb dL_law_171 (by decide) (fun _ => l_next X ih hr hl hW) (fun z => absurd rfl z)
theorem law_2 {p : Program} {l : Launch} {e : Env} {s : State} {m : MethodId} {below : List Frame} {meth : Method} {c : Code} {G : GG} {b L T : Nat} {xs : Nat → Int32} {a : Fm} {v : Ar} {hh : Int64} {cT : CT} {adc adm : Nat → Nat} {H : Heap} {locs : List Loc} {ls : Array Slot} (X : LX G p s m meth c b L xs) (ih : LHd p l e s m below meth c G b (T + 1)) (h : Rel T a v cT) (hi : 4 * T + 4 ≤ L) (hl : lv_has ls 4 [(0, .ref b), (1, .ref (adc 0)), (2, .ref (adm 0)), (3, .int (nI (4 * T)))]) (hW : Wo G (LA s) s (rlT G adc cT ++ mdW G adm 0 a v hh) H locs) : W p l e room_1 s m #[Value.ref b] below meth c H locs 99 58143 (lw_Z below #[Value.ref b] s) (F0 m 176 ls []) := by
  obtain ⟨hx, hb, -⟩ := X.1
  have hL := X.2.2.2.2.2
  obtain ⟨r, RC, hC, hM⟩ := two_fault (G := G) (x := xs (4 * T + 1)) h
  refine lv_aload_n hx hb dL_law_176 rfl (lv_at hl 1 rfl) ?_
  refine l_arg (j := 1) X hW hl (by omega) (by decide) dL_law_177 dL_law_178 dL_law_179 dL_law_180 dL_law_181 ?_
  refine l_callC (As := [.int (xs (4 * T + 1))]) (st := []) (r := .int r) X hW hl.1 ml_X6_fault vl_L_23 rfl (hC adc) (Nat.le_of_ble_eq_true rfl) ⟨Nat.le_of_ble_eq_true rfl, Nat.le_of_ble_eq_true rfl⟩ ⟨Nat.le_of_ble_eq_true rfl, Nat.le_of_ble_eq_true rfl⟩ rfl rfl (Nat.le_of_ble_eq_true rfl) dL_law_182 (fun c1 H locs hc1 hW => ?_)
  refine lv_aload_n hx hb dL_law_185 rfl (lv_at hl 2 rfl) ?_
  refine l_arg (j := 1) X hW hl (by omega) (by decide) dL_law_186 dL_law_187 dL_law_188 dL_law_189 dL_law_190 ?_
  refine l_callM (As := [.int (xs (4 * T + 1))]) (st := [.int r]) (r := .int r) (RC := RC) X hW hl.1 ml_X7_fault vl_L_26 rfl (hM adm hh) hc1 (Nat.le_of_ble_eq_true rfl) ⟨Nat.le_of_ble_eq_true rfl, Nat.le_of_ble_eq_true rfl⟩ ⟨Nat.le_of_ble_eq_true rfl, Nat.le_of_ble_eq_true rfl⟩ rfl rfl (Nat.le_of_ble_eq_true rfl) dL_law_191 (fun a1 v1 hh1 H locs hr hW => ?_)
  exact lv_icmp_eq (tgt := 690) hx hb dL_law_194 (by decide) (fun _ => l_next X ih hr hl hW) (fun z => absurd rfl z)
theorem law_3 {p : Program} {l : Launch} {e : Env} {s : State} {m : MethodId} {below : List Frame} {meth : Method} {c : Code} {G : GG} {b L T : Nat} {xs : Nat → Int32} {a : Fm} {v : Ar} {hh : Int64} {cT : CT} {adc adm : Nat → Nat} {H : Heap} {locs : List Loc} {ls : Array Slot} (X : LX G p s m meth c b L xs) (ih : LHd p l e s m below meth c G b (T + 1)) (h : Rel T a v cT) (hi : 4 * T + 4 ≤ L) (hl : lv_has ls 4 [(0, .ref b), (1, .ref (adc 0)), (2, .ref (adm 0)), (3, .int (nI (4 * T)))]) (hW : Wo G (LA s) s (rlT G adc cT ++ mdW G adm 0 a v hh) H locs) : W p l e room_1 s m #[Value.ref b] below meth c H locs 99 58143 (lw_Z below #[Value.ref b] s) (F0 m 199 ls []) := by
  obtain ⟨hx, hb, -⟩ := X.1
  have hL := X.2.2.2.2.2
  obtain ⟨r, RC, hC, hM⟩ := two_street (G := G)  h (by omega)
  refine lv_aload_n hx hb dL_law_199 rfl (lv_at hl 1 rfl) ?_
  refine l_callC (As := []) (st := []) (r := .int r) X hW hl.1 ml_X6_street vl_L_27 rfl (hC adc) (Nat.le_of_ble_eq_true rfl) ⟨Nat.le_of_ble_eq_true rfl, Nat.le_of_ble_eq_true rfl⟩ ⟨Nat.le_of_ble_eq_true rfl, Nat.le_of_ble_eq_true rfl⟩ rfl rfl (Nat.le_of_ble_eq_true rfl) dL_law_200 (fun c1 H locs hc1 hW => ?_)
  refine lv_aload_n hx hb dL_law_203 rfl (lv_at hl 2 rfl) ?_
  refine l_callM (As := []) (st := [.int r]) (r := .int r) (RC := RC) X hW hl.1 ml_X7_street vl_L_30 rfl (hM adm hh) hc1 (Nat.le_of_ble_eq_true rfl) ⟨Nat.le_of_ble_eq_true rfl, Nat.le_of_ble_eq_true rfl⟩ ⟨Nat.le_of_ble_eq_true rfl, Nat.le_of_ble_eq_true rfl⟩ rfl rfl (Nat.le_of_ble_eq_true rfl) dL_law_204 (fun a1 v1 hh1 H locs hr hW => ?_)
  exact lv_icmp_eq (tgt := 690) hx hb dL_law_207 (by decide) (fun _ => l_next X ih hr hl hW) (fun z => absurd rfl z)
theorem law_4 {p : Program} {l : Launch} {e : Env} {s : State} {m : MethodId} {below : List Frame} {meth : Method} {c : Code} {G : GG} {b L T : Nat} {xs : Nat → Int32} {a : Fm} {v : Ar} {hh : Int64} {cT : CT} {adc adm : Nat → Nat} {H : Heap} {locs : List Loc} {ls : Array Slot} (X : LX G p s m meth c b L xs) (ih : LHd p l e s m below meth c G b (T + 1)) (h : Rel T a v cT) (hi : 4 * T + 4 ≤ L) (hl : lv_has ls 4 [(0, .ref b), (1, .ref (adc 0)), (2, .ref (adm 0)), (3, .int (nI (4 * T)))]) (hW : Wo G (LA s) s (rlT G adc cT ++ mdW G adm 0 a v hh) H locs) : W p l e room_1 s m #[Value.ref b] below meth c H locs 99 58143 (lw_Z below #[Value.ref b] s) (F0 m 212 ls []) := by
  obtain ⟨hx, hb, -⟩ := X.1
  have hL := X.2.2.2.2.2
  obtain ⟨r, RC, hC, hM⟩ := two_about (G := G) (x1 := xs (4 * T + 1)) (x2 := xs (4 * T + 2)) h (by omega)
  refine lv_aload_n hx hb dL_law_212 rfl (lv_at hl 1 rfl) ?_
  refine l_arg (j := 1) X hW hl (by omega) (by decide) dL_law_213 dL_law_214 dL_law_215 dL_law_216 dL_law_217 ?_
  refine l_arg (j := 2) X hW hl (by omega) (by decide) dL_law_218 dL_law_219 dL_law_220 dL_law_221 dL_law_222 ?_
  refine l_callC (As := [.int (xs (4 * T + 1)), .int (xs (4 * T + 2))]) (st := []) (r := .int r) X hW hl.1 ml_X6_about vl_L_31 rfl (hC adc) (Nat.le_of_ble_eq_true rfl) ⟨Nat.le_of_ble_eq_true rfl, Nat.le_of_ble_eq_true rfl⟩ ⟨Nat.le_of_ble_eq_true rfl, Nat.le_of_ble_eq_true rfl⟩ rfl rfl (Nat.le_of_ble_eq_true rfl) dL_law_223 (fun c1 H locs hc1 hW => ?_)
  refine lv_aload_n hx hb dL_law_226 rfl (lv_at hl 2 rfl) ?_
  refine l_arg (j := 1) X hW hl (by omega) (by decide) dL_law_227 dL_law_228 dL_law_229 dL_law_230 dL_law_231 ?_
  refine l_arg (j := 2) X hW hl (by omega) (by decide) dL_law_232 dL_law_233 dL_law_234 dL_law_235 dL_law_236 ?_
  refine l_callM (As := [.int (xs (4 * T + 1)), .int (xs (4 * T + 2))]) (st := [.int r]) (r := .int r) (RC := RC) X hW hl.1 ml_X7_about vl_L_35 rfl (hM adm hh) hc1 (Nat.le_of_ble_eq_true rfl) ⟨Nat.le_of_ble_eq_true rfl, Nat.le_of_ble_eq_true rfl⟩ ⟨Nat.le_of_ble_eq_true rfl, Nat.le_of_ble_eq_true rfl⟩ rfl rfl (Nat.le_of_ble_eq_true rfl) dL_law_237 (fun a1 v1 hh1 H locs hr hW => ?_)
  exact lv_icmp_eq (tgt := 690) hx hb dL_law_240 (by decide) (fun _ => l_next X ih hr hl hW) (fun z => absurd rfl z)
theorem law_5 {p : Program} {l : Launch} {e : Env} {s : State} {m : MethodId} {below : List Frame} {meth : Method} {c : Code} {G : GG} {b L T : Nat} {xs : Nat → Int32} {a : Fm} {v : Ar} {hh : Int64} {cT : CT} {adc adm : Nat → Nat} {H : Heap} {locs : List Loc} {ls : Array Slot} (X : LX G p s m meth c b L xs) (ih : LHd p l e s m below meth c G b (T + 1)) (h : Rel T a v cT) (hi : 4 * T + 4 ≤ L) (hl : lv_has ls 4 [(0, .ref b), (1, .ref (adc 0)), (2, .ref (adm 0)), (3, .int (nI (4 * T)))]) (hW : Wo G (LA s) s (rlT G adc cT ++ mdW G adm 0 a v hh) H locs) : W p l e room_1 s m #[Value.ref b] below meth c H locs 99 58143 (lw_Z below #[Value.ref b] s) (F0 m 245 ls []) := by
  obtain ⟨hx, hb, -⟩ := X.1
  have hL := X.2.2.2.2.2
  obtain ⟨r, RC, hC, hM⟩ := two_as (G := G) (x1 := xs (4 * T + 1)) (x2 := xs (4 * T + 2)) h (by omega)
  refine lv_aload_n hx hb dL_law_245 rfl (lv_at hl 1 rfl) ?_
  refine l_arg (j := 1) X hW hl (by omega) (by decide) dL_law_246 dL_law_247 dL_law_248 dL_law_249 dL_law_250 ?_
  refine l_arg (j := 2) X hW hl (by omega) (by decide) dL_law_251 dL_law_252 dL_law_253 dL_law_254 dL_law_255 ?_
  refine l_callC (As := [.int (xs (4 * T + 1)), .int (xs (4 * T + 2))]) (st := []) (r := .int r) X hW hl.1 ml_X6_as vl_L_36 rfl (hC adc) (Nat.le_of_ble_eq_true rfl) ⟨Nat.le_of_ble_eq_true rfl, Nat.le_of_ble_eq_true rfl⟩ ⟨Nat.le_of_ble_eq_true rfl, Nat.le_of_ble_eq_true rfl⟩ rfl rfl (Nat.le_of_ble_eq_true rfl) dL_law_256 (fun c1 H locs hc1 hW => ?_)
  refine lv_aload_n hx hb dL_law_259 rfl (lv_at hl 2 rfl) ?_
  refine l_arg (j := 1) X hW hl (by omega) (by decide) dL_law_260 dL_law_261 dL_law_262 dL_law_263 dL_law_264 ?_
  refine l_arg (j := 2) X hW hl (by omega) (by decide) dL_law_265 dL_law_266 dL_law_267 dL_law_268 dL_law_269 ?_
  refine l_callM (As := [.int (xs (4 * T + 1)), .int (xs (4 * T + 2))]) (st := [.int r]) (r := .int r) (RC := RC) X hW hl.1 ml_X7_as vl_L_39 rfl (hM adm hh) hc1 (Nat.le_of_ble_eq_true rfl) ⟨Nat.le_of_ble_eq_true rfl, Nat.le_of_ble_eq_true rfl⟩ ⟨Nat.le_of_ble_eq_true rfl, Nat.le_of_ble_eq_true rfl⟩ rfl rfl (Nat.le_of_ble_eq_true rfl) dL_law_270 (fun a1 v1 hh1 H locs hr hW => ?_)
  exact lv_icmp_eq (tgt := 690) hx hb dL_law_273 (by decide) (fun _ => l_next X ih hr hl hW) (fun z => absurd rfl z)
theorem law_6 {p : Program} {l : Launch} {e : Env} {s : State} {m : MethodId} {below : List Frame} {meth : Method} {c : Code} {G : GG} {b L T : Nat} {xs : Nat → Int32} {a : Fm} {v : Ar} {hh : Int64} {cT : CT} {adc adm : Nat → Nat} {H : Heap} {locs : List Loc} {ls : Array Slot} (X : LX G p s m meth c b L xs) (ih : LHd p l e s m below meth c G b (T + 1)) (h : Rel T a v cT) (hi : 4 * T + 4 ≤ L) (hl : lv_has ls 4 [(0, .ref b), (1, .ref (adc 0)), (2, .ref (adm 0)), (3, .int (nI (4 * T)))]) (hW : Wo G (LA s) s (rlT G adc cT ++ mdW G adm 0 a v hh) H locs) : W p l e room_1 s m #[Value.ref b] below meth c H locs 99 58143 (lw_Z below #[Value.ref b] s) (F0 m 278 ls []) := by
  obtain ⟨hx, hb, -⟩ := X.1
  have hL := X.2.2.2.2.2
  obtain ⟨r, RC, hC, hM⟩ := two_word (G := G) (x1 := xs (4 * T + 1)) (x2 := xs (4 * T + 2)) h (by omega)
  refine lv_aload_n hx hb dL_law_278 rfl (lv_at hl 1 rfl) ?_
  refine l_arg (j := 1) X hW hl (by omega) (by decide) dL_law_279 dL_law_280 dL_law_281 dL_law_282 dL_law_283 ?_
  refine l_arg (j := 2) X hW hl (by omega) (by decide) dL_law_284 dL_law_285 dL_law_286 dL_law_287 dL_law_288 ?_
  refine l_callC (As := [.int (xs (4 * T + 1)), .int (xs (4 * T + 2))]) (st := []) (r := .int r) X hW hl.1 ml_X6_word vl_L_40 rfl (hC adc) (Nat.le_of_ble_eq_true rfl) ⟨Nat.le_of_ble_eq_true rfl, Nat.le_of_ble_eq_true rfl⟩ ⟨Nat.le_of_ble_eq_true rfl, Nat.le_of_ble_eq_true rfl⟩ rfl rfl (Nat.le_of_ble_eq_true rfl) dL_law_289 (fun c1 H locs hc1 hW => ?_)
  refine lv_aload_n hx hb dL_law_292 rfl (lv_at hl 2 rfl) ?_
  refine l_arg (j := 1) X hW hl (by omega) (by decide) dL_law_293 dL_law_294 dL_law_295 dL_law_296 dL_law_297 ?_
  refine l_arg (j := 2) X hW hl (by omega) (by decide) dL_law_298 dL_law_299 dL_law_300 dL_law_301 dL_law_302 ?_
  refine l_callM (As := [.int (xs (4 * T + 1)), .int (xs (4 * T + 2))]) (st := [.int r]) (r := .int r) (RC := RC) X hW hl.1 ml_X7_word vl_L_43 rfl (hM adm hh) hc1 (Nat.le_of_ble_eq_true rfl) ⟨Nat.le_of_ble_eq_true rfl, Nat.le_of_ble_eq_true rfl⟩ ⟨Nat.le_of_ble_eq_true rfl, Nat.le_of_ble_eq_true rfl⟩ rfl rfl (Nat.le_of_ble_eq_true rfl) dL_law_303 (fun a1 v1 hh1 H locs hr hW => ?_)
  exact lv_icmp_eq (tgt := 690) hx hb dL_law_306 (by decide) (fun _ => l_next X ih hr hl hW) (fun z => absurd rfl z)
theorem law_7 {p : Program} {l : Launch} {e : Env} {s : State} {m : MethodId} {below : List Frame} {meth : Method} {c : Code} {G : GG} {b L T : Nat} {xs : Nat → Int32} {a : Fm} {v : Ar} {hh : Int64} {cT : CT} {adc adm : Nat → Nat} {H : Heap} {locs : List Loc} {ls : Array Slot} (X : LX G p s m meth c b L xs) (ih : LHd p l e s m below meth c G b (T + 1)) (h : Rel T a v cT) (hi : 4 * T + 4 ≤ L) (hl : lv_has ls 4 [(0, .ref b), (1, .ref (adc 0)), (2, .ref (adm 0)), (3, .int (nI (4 * T)))]) (hW : Wo G (LA s) s (rlT G adc cT ++ mdW G adm 0 a v hh) H locs) : W p l e room_1 s m #[Value.ref b] below meth c H locs 99 58143 (lw_Z below #[Value.ref b] s) (F0 m 311 ls []) := by
  obtain ⟨hx, hb, -⟩ := X.1
  have hL := X.2.2.2.2.2
  obtain ⟨r, RC, hC, hM⟩ := two_drop (G := G) (x1 := xs (4 * T + 1)) (x2 := xs (4 * T + 2)) h (by omega)
  refine lv_aload_n hx hb dL_law_311 rfl (lv_at hl 1 rfl) ?_
  refine l_arg (j := 1) X hW hl (by omega) (by decide) dL_law_312 dL_law_313 dL_law_314 dL_law_315 dL_law_316 ?_
  refine l_arg (j := 2) X hW hl (by omega) (by decide) dL_law_317 dL_law_318 dL_law_319 dL_law_320 dL_law_321 ?_
  refine l_callC (As := [.int (xs (4 * T + 1)), .int (xs (4 * T + 2))]) (st := []) (r := .int r) X hW hl.1 ml_X6_drop vl_L_44 rfl (hC adc) (Nat.le_of_ble_eq_true rfl) ⟨Nat.le_of_ble_eq_true rfl, Nat.le_of_ble_eq_true rfl⟩ ⟨Nat.le_of_ble_eq_true rfl, Nat.le_of_ble_eq_true rfl⟩ rfl rfl (Nat.le_of_ble_eq_true rfl) dL_law_322 (fun c1 H locs hc1 hW => ?_)
  refine lv_aload_n hx hb dL_law_325 rfl (lv_at hl 2 rfl) ?_
  refine l_arg (j := 1) X hW hl (by omega) (by decide) dL_law_326 dL_law_327 dL_law_328 dL_law_329 dL_law_330 ?_
  refine l_arg (j := 2) X hW hl (by omega) (by decide) dL_law_331 dL_law_332 dL_law_333 dL_law_334 dL_law_335 ?_
  refine l_callM (As := [.int (xs (4 * T + 1)), .int (xs (4 * T + 2))]) (st := [.int r]) (r := .int r) (RC := RC) X hW hl.1 ml_X7_drop vl_L_47 rfl (hM adm hh) hc1 (Nat.le_of_ble_eq_true rfl) ⟨Nat.le_of_ble_eq_true rfl, Nat.le_of_ble_eq_true rfl⟩ ⟨Nat.le_of_ble_eq_true rfl, Nat.le_of_ble_eq_true rfl⟩ rfl rfl (Nat.le_of_ble_eq_true rfl) dL_law_336 (fun a1 v1 hh1 H locs hr hW => ?_)
  exact lv_icmp_eq (tgt := 690) hx hb dL_law_339 (by decide) (fun _ => l_next X ih hr hl hW) (fun z => absurd rfl z)
theorem law_8 {p : Program} {l : Launch} {e : Env} {s : State} {m : MethodId} {below : List Frame} {meth : Method} {c : Code} {G : GG} {b L T : Nat} {xs : Nat → Int32} {a : Fm} {v : Ar} {hh : Int64} {cT : CT} {adc adm : Nat → Nat} {H : Heap} {locs : List Loc} {ls : Array Slot} (X : LX G p s m meth c b L xs) (ih : LHd p l e s m below meth c G b (T + 1)) (h : Rel T a v cT) (hi : 4 * T + 4 ≤ L) (hl : lv_has ls 4 [(0, .ref b), (1, .ref (adc 0)), (2, .ref (adm 0)), (3, .int (nI (4 * T)))]) (hW : Wo G (LA s) s (rlT G adc cT ++ mdW G adm 0 a v hh) H locs) : W p l e room_1 s m #[Value.ref b] below meth c H locs 99 58143 (lw_Z below #[Value.ref b] s) (F0 m 344 ls []) := by
  obtain ⟨hx, hb, -⟩ := X.1
  have hL := X.2.2.2.2.2
  obtain ⟨r, RC, hC, hM⟩ := two_rain (G := G) (x1 := xs (4 * T + 1)) (x2 := xs (4 * T + 2)) h
  refine lv_aload_n hx hb dL_law_344 rfl (lv_at hl 1 rfl) ?_
  refine l_arg (j := 1) X hW hl (by omega) (by decide) dL_law_345 dL_law_346 dL_law_347 dL_law_348 dL_law_349 ?_
  refine l_arg (j := 2) X hW hl (by omega) (by decide) dL_law_350 dL_law_351 dL_law_352 dL_law_353 dL_law_354 ?_
  refine l_callC (As := [.int (xs (4 * T + 1)), .int (xs (4 * T + 2))]) (st := []) (r := .int r) X hW hl.1 ml_X6_rain vl_L_48 rfl (hC adc) (Nat.le_of_ble_eq_true rfl) ⟨Nat.le_of_ble_eq_true rfl, Nat.le_of_ble_eq_true rfl⟩ ⟨Nat.le_of_ble_eq_true rfl, Nat.le_of_ble_eq_true rfl⟩ rfl rfl (Nat.le_of_ble_eq_true rfl) dL_law_355 (fun c1 H locs hc1 hW => ?_)
  refine lv_aload_n hx hb dL_law_358 rfl (lv_at hl 2 rfl) ?_
  refine l_arg (j := 1) X hW hl (by omega) (by decide) dL_law_359 dL_law_360 dL_law_361 dL_law_362 dL_law_363 ?_
  refine l_arg (j := 2) X hW hl (by omega) (by decide) dL_law_364 dL_law_365 dL_law_366 dL_law_367 dL_law_368 ?_
  refine l_callM (As := [.int (xs (4 * T + 1)), .int (xs (4 * T + 2))]) (st := [.int r]) (r := .int r) (RC := RC) X hW hl.1 ml_X7_rain vl_L_51 rfl (hM adm hh) hc1 (Nat.le_of_ble_eq_true rfl) ⟨Nat.le_of_ble_eq_true rfl, Nat.le_of_ble_eq_true rfl⟩ ⟨Nat.le_of_ble_eq_true rfl, Nat.le_of_ble_eq_true rfl⟩ rfl rfl (Nat.le_of_ble_eq_true rfl) dL_law_369 (fun a1 v1 hh1 H locs hr hW => ?_)
  exact lv_icmp_eq (tgt := 690) hx hb dL_law_372 (by decide) (fun _ => l_next X ih hr hl hW) (fun z => absurd rfl z)
theorem law_9 {p : Program} {l : Launch} {e : Env} {s : State} {m : MethodId} {below : List Frame} {meth : Method} {c : Code} {G : GG} {b L T : Nat} {xs : Nat → Int32} {a : Fm} {v : Ar} {hh : Int64} {cT : CT} {adc adm : Nat → Nat} {H : Heap} {locs : List Loc} {ls : Array Slot} (X : LX G p s m meth c b L xs) (ih : LHd p l e s m below meth c G b (T + 1)) (h : Rel T a v cT) (hi : 4 * T + 4 ≤ L) (hl : lv_has ls 4 [(0, .ref b), (1, .ref (adc 0)), (2, .ref (adm 0)), (3, .int (nI (4 * T)))]) (hW : Wo G (LA s) s (rlT G adc cT ++ mdW G adm 0 a v hh) H locs) : W p l e room_1 s m #[Value.ref b] below meth c H locs 99 58143 (lw_Z below #[Value.ref b] s) (F0 m 377 ls []) := by
  obtain ⟨hx, hb, -⟩ := X.1
  have hL := X.2.2.2.2.2
  obtain ⟨r, RC, hC, hM⟩ := two_dry (G := G)  h (by omega)
  refine lv_aload_n hx hb dL_law_377 rfl (lv_at hl 1 rfl) ?_
  refine l_callC (As := []) (st := []) (r := .int r) X hW hl.1 ml_X6_dry vl_L_52 rfl (hC adc) (Nat.le_of_ble_eq_true rfl) ⟨Nat.le_of_ble_eq_true rfl, Nat.le_of_ble_eq_true rfl⟩ ⟨Nat.le_of_ble_eq_true rfl, Nat.le_of_ble_eq_true rfl⟩ rfl rfl (Nat.le_of_ble_eq_true rfl) dL_law_378 (fun c1 H locs hc1 hW => ?_)
  refine lv_aload_n hx hb dL_law_381 rfl (lv_at hl 2 rfl) ?_
  refine l_callM (As := []) (st := [.int r]) (r := .int r) (RC := RC) X hW hl.1 ml_X7_dry vl_L_55 rfl (hM adm hh) hc1 (Nat.le_of_ble_eq_true rfl) ⟨Nat.le_of_ble_eq_true rfl, Nat.le_of_ble_eq_true rfl⟩ ⟨Nat.le_of_ble_eq_true rfl, Nat.le_of_ble_eq_true rfl⟩ rfl rfl (Nat.le_of_ble_eq_true rfl) dL_law_382 (fun a1 v1 hh1 H locs hr hW => ?_)
  exact lv_icmp_eq (tgt := 690) hx hb dL_law_385 (by decide) (fun _ => l_next X ih hr hl hW) (fun z => absurd rfl z)
theorem law_10 {p : Program} {l : Launch} {e : Env} {s : State} {m : MethodId} {below : List Frame} {meth : Method} {c : Code} {G : GG} {b L T : Nat} {xs : Nat → Int32} {a : Fm} {v : Ar} {hh : Int64} {cT : CT} {adc adm : Nat → Nat} {H : Heap} {locs : List Loc} {ls : Array Slot} (X : LX G p s m meth c b L xs) (ih : LHd p l e s m below meth c G b (T + 1)) (h : Rel T a v cT) (hi : 4 * T + 4 ≤ L) (hl : lv_has ls 4 [(0, .ref b), (1, .ref (adc 0)), (2, .ref (adm 0)), (3, .int (nI (4 * T)))]) (hW : Wo G (LA s) s (rlT G adc cT ++ mdW G adm 0 a v hh) H locs) : W p l e room_1 s m #[Value.ref b] below meth c H locs 99 58143 (lw_Z below #[Value.ref b] s) (F0 m 390 ls []) := by
  obtain ⟨hx, hb, -⟩ := X.1
  have hL := X.2.2.2.2.2
  obtain ⟨r, RC, hC, hM⟩ := two_turn (G := G) (x1 := xs (4 * T + 1)) (x2 := xs (4 * T + 2)) h (by omega)
  refine lv_aload_n hx hb dL_law_390 rfl (lv_at hl 1 rfl) ?_
  refine l_arg (j := 1) X hW hl (by omega) (by decide) dL_law_391 dL_law_392 dL_law_393 dL_law_394 dL_law_395 ?_
  refine l_arg (j := 2) X hW hl (by omega) (by decide) dL_law_396 dL_law_397 dL_law_398 dL_law_399 dL_law_400 ?_
  refine l_callC (As := [.int (xs (4 * T + 1)), .int (xs (4 * T + 2))]) (st := []) (r := .int r) X hW hl.1 ml_X6_turn vl_L_56 rfl (hC adc) (Nat.le_of_ble_eq_true rfl) ⟨Nat.le_of_ble_eq_true rfl, Nat.le_of_ble_eq_true rfl⟩ ⟨Nat.le_of_ble_eq_true rfl, Nat.le_of_ble_eq_true rfl⟩ rfl rfl (Nat.le_of_ble_eq_true rfl) dL_law_401 (fun c1 H locs hc1 hW => ?_)
  refine lv_aload_n hx hb dL_law_404 rfl (lv_at hl 2 rfl) ?_
  refine l_arg (j := 1) X hW hl (by omega) (by decide) dL_law_405 dL_law_406 dL_law_407 dL_law_408 dL_law_409 ?_
  refine l_arg (j := 2) X hW hl (by omega) (by decide) dL_law_410 dL_law_411 dL_law_412 dL_law_413 dL_law_414 ?_
  refine l_callM (As := [.int (xs (4 * T + 1)), .int (xs (4 * T + 2))]) (st := [.int r]) (r := .int r) (RC := RC) X hW hl.1 ml_X7_turn vl_L_59 rfl (hM adm hh) hc1 (Nat.le_of_ble_eq_true rfl) ⟨Nat.le_of_ble_eq_true rfl, Nat.le_of_ble_eq_true rfl⟩ ⟨Nat.le_of_ble_eq_true rfl, Nat.le_of_ble_eq_true rfl⟩ rfl rfl (Nat.le_of_ble_eq_true rfl) dL_law_415 (fun a1 v1 hh1 H locs hr hW => ?_)
  exact lv_icmp_eq (tgt := 690) hx hb dL_law_418 (by decide) (fun _ => l_next X ih hr hl hW) (fun z => absurd rfl z)
theorem law_11 {p : Program} {l : Launch} {e : Env} {s : State} {m : MethodId} {below : List Frame} {meth : Method} {c : Code} {G : GG} {b L T : Nat} {xs : Nat → Int32} {a : Fm} {v : Ar} {hh : Int64} {cT : CT} {adc adm : Nat → Nat} {H : Heap} {locs : List Loc} {ls : Array Slot} (X : LX G p s m meth c b L xs) (ih : LHd p l e s m below meth c G b (T + 1)) (h : Rel T a v cT) (hi : 4 * T + 4 ≤ L) (hl : lv_has ls 4 [(0, .ref b), (1, .ref (adc 0)), (2, .ref (adm 0)), (3, .int (nI (4 * T)))]) (hW : Wo G (LA s) s (rlT G adc cT ++ mdW G adm 0 a v hh) H locs) : W p l e room_1 s m #[Value.ref b] below meth c H locs 99 58143 (lw_Z below #[Value.ref b] s) (F0 m 423 ls []) := by
  obtain ⟨hx, hb, -⟩ := X.1
  have hL := X.2.2.2.2.2
  obtain ⟨r, RC, hC, hM⟩ := two_fewTurns (G := G) (x1 := xs (4 * T + 1)) (x2 := xs (4 * T + 2)) h (by omega)
  refine lv_aload_n hx hb dL_law_423 rfl (lv_at hl 1 rfl) ?_
  refine l_arg (j := 1) X hW hl (by omega) (by decide) dL_law_424 dL_law_425 dL_law_426 dL_law_427 dL_law_428 ?_
  refine l_arg (j := 2) X hW hl (by omega) (by decide) dL_law_429 dL_law_430 dL_law_431 dL_law_432 dL_law_433 ?_
  refine l_callC (As := [.int (xs (4 * T + 1)), .int (xs (4 * T + 2))]) (st := []) (r := .int r) X hW hl.1 ml_X6_fewTurns vl_L_60 rfl (hC adc) (Nat.le_of_ble_eq_true rfl) ⟨Nat.le_of_ble_eq_true rfl, Nat.le_of_ble_eq_true rfl⟩ ⟨Nat.le_of_ble_eq_true rfl, Nat.le_of_ble_eq_true rfl⟩ rfl rfl (Nat.le_of_ble_eq_true rfl) dL_law_434 (fun c1 H locs hc1 hW => ?_)
  refine lv_aload_n hx hb dL_law_437 rfl (lv_at hl 2 rfl) ?_
  refine l_arg (j := 1) X hW hl (by omega) (by decide) dL_law_438 dL_law_439 dL_law_440 dL_law_441 dL_law_442 ?_
  refine l_arg (j := 2) X hW hl (by omega) (by decide) dL_law_443 dL_law_444 dL_law_445 dL_law_446 dL_law_447 ?_
  refine l_callM (As := [.int (xs (4 * T + 1)), .int (xs (4 * T + 2))]) (st := [.int r]) (r := .int r) (RC := RC) X hW hl.1 ml_X7_fewTurns vl_L_63 rfl (hM adm hh) hc1 (Nat.le_of_ble_eq_true rfl) ⟨Nat.le_of_ble_eq_true rfl, Nat.le_of_ble_eq_true rfl⟩ ⟨Nat.le_of_ble_eq_true rfl, Nat.le_of_ble_eq_true rfl⟩ rfl rfl (Nat.le_of_ble_eq_true rfl) dL_law_448 (fun a1 v1 hh1 H locs hr hW => ?_)
  exact lv_icmp_eq (tgt := 690) hx hb dL_law_451 (by decide) (fun _ => l_next X ih hr hl hW) (fun z => absurd rfl z)
theorem law_12 {p : Program} {l : Launch} {e : Env} {s : State} {m : MethodId} {below : List Frame} {meth : Method} {c : Code} {G : GG} {b L T : Nat} {xs : Nat → Int32} {a : Fm} {v : Ar} {hh : Int64} {cT : CT} {adc adm : Nat → Nat} {H : Heap} {locs : List Loc} {ls : Array Slot} (X : LX G p s m meth c b L xs) (ih : LHd p l e s m below meth c G b (T + 1)) (h : Rel T a v cT) (hi : 4 * T + 4 ≤ L) (hl : lv_has ls 4 [(0, .ref b), (1, .ref (adc 0)), (2, .ref (adm 0)), (3, .int (nI (4 * T)))]) (hW : Wo G (LA s) s (rlT G adc cT ++ mdW G adm 0 a v hh) H locs) : W p l e room_1 s m #[Value.ref b] below meth c H locs 99 58143 (lw_Z below #[Value.ref b] s) (F0 m 456 ls []) := by
  obtain ⟨hx, hb, -⟩ := X.1
  have hL := X.2.2.2.2.2
  obtain ⟨r, RC, hC, hM⟩ := two_orders (G := G) (x1 := xs (4 * T + 1)) h (by omega)
  refine lv_aload_n hx hb dL_law_456 rfl (lv_at hl 1 rfl) ?_
  refine l_arg (j := 1) X hW hl (by omega) (by decide) dL_law_457 dL_law_458 dL_law_459 dL_law_460 dL_law_461 ?_
  refine l_callC (As := [.int (xs (4 * T + 1))]) (st := []) (r := .int r) X hW hl.1 ml_X6_orders vl_L_64 rfl (hC adc) (Nat.le_of_ble_eq_true rfl) ⟨Nat.le_of_ble_eq_true rfl, Nat.le_of_ble_eq_true rfl⟩ ⟨Nat.le_of_ble_eq_true rfl, Nat.le_of_ble_eq_true rfl⟩ rfl rfl (Nat.le_of_ble_eq_true rfl) dL_law_462 (fun c1 H locs hc1 hW => ?_)
  refine lv_aload_n hx hb dL_law_465 rfl (lv_at hl 2 rfl) ?_
  refine l_arg (j := 1) X hW hl (by omega) (by decide) dL_law_466 dL_law_467 dL_law_468 dL_law_469 dL_law_470 ?_
  refine l_callM (As := [.int (xs (4 * T + 1))]) (st := [.int r]) (r := .int r) (RC := RC) X hW hl.1 ml_X7_orders vl_L_67 rfl (hM adm hh) hc1 (Nat.le_of_ble_eq_true rfl) ⟨Nat.le_of_ble_eq_true rfl, Nat.le_of_ble_eq_true rfl⟩ ⟨Nat.le_of_ble_eq_true rfl, Nat.le_of_ble_eq_true rfl⟩ rfl rfl (Nat.le_of_ble_eq_true rfl) dL_law_471 (fun a1 v1 hh1 H locs hr hW => ?_)
  exact lv_icmp_eq (tgt := 690) hx hb dL_law_474 (by decide) (fun _ => l_next X ih hr hl hW) (fun z => absurd rfl z)
theorem law_13 {p : Program} {l : Launch} {e : Env} {s : State} {m : MethodId} {below : List Frame} {meth : Method} {c : Code} {G : GG} {b L T : Nat} {xs : Nat → Int32} {a : Fm} {v : Ar} {hh : Int64} {cT : CT} {adc adm : Nat → Nat} {H : Heap} {locs : List Loc} {ls : Array Slot} (X : LX G p s m meth c b L xs) (ih : LHd p l e s m below meth c G b (T + 1)) (h : Rel T a v cT) (hi : 4 * T + 4 ≤ L) (hl : lv_has ls 4 [(0, .ref b), (1, .ref (adc 0)), (2, .ref (adm 0)), (3, .int (nI (4 * T)))]) (hW : Wo G (LA s) s (rlT G adc cT ++ mdW G adm 0 a v hh) H locs) : W p l e room_1 s m #[Value.ref b] below meth c H locs 99 58143 (lw_Z below #[Value.ref b] s) (F0 m 479 ls []) := by
  obtain ⟨hx, hb, -⟩ := X.1
  have hL := X.2.2.2.2.2
  obtain ⟨r, RC, hC, hM⟩ := two_bestDrop (G := G) (x1 := xs (4 * T + 1)) h (by omega)
  refine lv_aload_n hx hb dL_law_479 rfl (lv_at hl 1 rfl) ?_
  refine l_arg (j := 1) X hW hl (by omega) (by decide) dL_law_480 dL_law_481 dL_law_482 dL_law_483 dL_law_484 ?_
  refine l_callC (As := [.int (xs (4 * T + 1))]) (st := []) (r := .int r) X hW hl.1 ml_X6_bestDrop vl_L_68 rfl (hC adc) (Nat.le_of_ble_eq_true rfl) ⟨Nat.le_of_ble_eq_true rfl, Nat.le_of_ble_eq_true rfl⟩ ⟨Nat.le_of_ble_eq_true rfl, Nat.le_of_ble_eq_true rfl⟩ rfl rfl (Nat.le_of_ble_eq_true rfl) dL_law_485 (fun c1 H locs hc1 hW => ?_)
  refine lv_aload_n hx hb dL_law_488 rfl (lv_at hl 2 rfl) ?_
  refine l_arg (j := 1) X hW hl (by omega) (by decide) dL_law_489 dL_law_490 dL_law_491 dL_law_492 dL_law_493 ?_
  refine l_callM (As := [.int (xs (4 * T + 1))]) (st := [.int r]) (r := .int r) (RC := RC) X hW hl.1 ml_X7_bestDrop vl_L_71 rfl (hM adm hh) hc1 (Nat.le_of_ble_eq_true rfl) ⟨Nat.le_of_ble_eq_true rfl, Nat.le_of_ble_eq_true rfl⟩ ⟨Nat.le_of_ble_eq_true rfl, Nat.le_of_ble_eq_true rfl⟩ rfl rfl (Nat.le_of_ble_eq_true rfl) dL_law_494 (fun a1 v1 hh1 H locs hr hW => ?_)
  exact lv_icmp_eq (tgt := 690) hx hb dL_law_497 (by decide) (fun _ => l_next X ih hr hl hW) (fun z => absurd rfl z)
theorem law_14 {p : Program} {l : Launch} {e : Env} {s : State} {m : MethodId} {below : List Frame} {meth : Method} {c : Code} {G : GG} {b L T : Nat} {xs : Nat → Int32} {a : Fm} {v : Ar} {hh : Int64} {cT : CT} {adc adm : Nat → Nat} {H : Heap} {locs : List Loc} {ls : Array Slot} (X : LX G p s m meth c b L xs) (ih : LHd p l e s m below meth c G b (T + 1)) (h : Rel T a v cT) (hi : 4 * T + 4 ≤ L) (hl : lv_has ls 4 [(0, .ref b), (1, .ref (adc 0)), (2, .ref (adm 0)), (3, .int (nI (4 * T)))]) (hW : Wo G (LA s) s (rlT G adc cT ++ mdW G adm 0 a v hh) H locs) : W p l e room_1 s m #[Value.ref b] below meth c H locs 99 58143 (lw_Z below #[Value.ref b] s) (F0 m 502 ls []) := by
  obtain ⟨hx, hb, -⟩ := X.1
  have hL := X.2.2.2.2.2
  obtain ⟨r, RC, hC, hM⟩ := two_found (G := G) (x1 := xs (4 * T + 1)) h (by omega)
  refine lv_aload_n hx hb dL_law_502 rfl (lv_at hl 1 rfl) ?_
  refine l_arg (j := 1) X hW hl (by omega) (by decide) dL_law_503 dL_law_504 dL_law_505 dL_law_506 dL_law_507 ?_
  refine l_callC (As := [.int (xs (4 * T + 1))]) (st := []) (r := .int r) X hW hl.1 ml_X6_found vl_L_72 rfl (hC adc) (Nat.le_of_ble_eq_true rfl) ⟨Nat.le_of_ble_eq_true rfl, Nat.le_of_ble_eq_true rfl⟩ ⟨Nat.le_of_ble_eq_true rfl, Nat.le_of_ble_eq_true rfl⟩ rfl rfl (Nat.le_of_ble_eq_true rfl) dL_law_508 (fun c1 H locs hc1 hW => ?_)
  refine lv_aload_n hx hb dL_law_511 rfl (lv_at hl 2 rfl) ?_
  refine l_arg (j := 1) X hW hl (by omega) (by decide) dL_law_512 dL_law_513 dL_law_514 dL_law_515 dL_law_516 ?_
  refine l_callM (As := [.int (xs (4 * T + 1))]) (st := [.int r]) (r := .int r) (RC := RC) X hW hl.1 ml_X7_found vl_L_75 rfl (hM adm hh) hc1 (Nat.le_of_ble_eq_true rfl) ⟨Nat.le_of_ble_eq_true rfl, Nat.le_of_ble_eq_true rfl⟩ ⟨Nat.le_of_ble_eq_true rfl, Nat.le_of_ble_eq_true rfl⟩ rfl rfl (Nat.le_of_ble_eq_true rfl) dL_law_517 (fun a1 v1 hh1 H locs hr hW => ?_)
  exact lv_icmp_eq (tgt := 690) hx hb dL_law_520 (by decide) (fun _ => l_next X ih hr hl hW) (fun z => absurd rfl z)
theorem law_15 {p : Program} {l : Launch} {e : Env} {s : State} {m : MethodId} {below : List Frame} {meth : Method} {c : Code} {G : GG} {b L T : Nat} {xs : Nat → Int32} {a : Fm} {v : Ar} {hh : Int64} {cT : CT} {adc adm : Nat → Nat} {H : Heap} {locs : List Loc} {ls : Array Slot} (X : LX G p s m meth c b L xs) (ih : LHd p l e s m below meth c G b (T + 1)) (h : Rel T a v cT) (hi : 4 * T + 4 ≤ L) (hl : lv_has ls 4 [(0, .ref b), (1, .ref (adc 0)), (2, .ref (adm 0)), (3, .int (nI (4 * T)))]) (hW : Wo G (LA s) s (rlT G adc cT ++ mdW G adm 0 a v hh) H locs) : W p l e room_1 s m #[Value.ref b] below meth c H locs 99 58143 (lw_Z below #[Value.ref b] s) (F0 m 525 ls []) := by
  obtain ⟨hx, hb, -⟩ := X.1
  have hL := X.2.2.2.2.2
  obtain ⟨r, RC, hC, hM⟩ := two_forget (G := G)  h
  refine lv_aload_n hx hb dL_law_525 rfl (lv_at hl 1 rfl) ?_
  refine l_callC (As := []) (st := []) (r := .int r) X hW hl.1 ml_X6_forget vl_L_76 rfl (hC adc) (Nat.le_of_ble_eq_true rfl) ⟨Nat.le_of_ble_eq_true rfl, Nat.le_of_ble_eq_true rfl⟩ ⟨Nat.le_of_ble_eq_true rfl, Nat.le_of_ble_eq_true rfl⟩ rfl rfl (Nat.le_of_ble_eq_true rfl) dL_law_526 (fun c1 H locs hc1 hW => ?_)
  refine lv_aload_n hx hb dL_law_529 rfl (lv_at hl 2 rfl) ?_
  refine l_callM (As := []) (st := [.int r]) (r := .int r) (RC := RC) X hW hl.1 ml_X7_forget vl_L_79 rfl (hM adm hh) hc1 (Nat.le_of_ble_eq_true rfl) ⟨Nat.le_of_ble_eq_true rfl, Nat.le_of_ble_eq_true rfl⟩ ⟨Nat.le_of_ble_eq_true rfl, Nat.le_of_ble_eq_true rfl⟩ rfl rfl (Nat.le_of_ble_eq_true rfl) dL_law_530 (fun a1 v1 hh1 H locs hr hW => ?_)
  exact lv_icmp_eq (tgt := 690) hx hb dL_law_533 (by decide) (fun _ => l_next X ih hr hl hW) (fun z => absurd rfl z)
theorem law_16 {p : Program} {l : Launch} {e : Env} {s : State} {m : MethodId} {below : List Frame} {meth : Method} {c : Code} {G : GG} {b L T : Nat} {xs : Nat → Int32} {a : Fm} {v : Ar} {hh : Int64} {cT : CT} {adc adm : Nat → Nat} {H : Heap} {locs : List Loc} {ls : Array Slot} (X : LX G p s m meth c b L xs) (ih : LHd p l e s m below meth c G b (T + 1)) (h : Rel T a v cT) (hi : 4 * T + 4 ≤ L) (hl : lv_has ls 4 [(0, .ref b), (1, .ref (adc 0)), (2, .ref (adm 0)), (3, .int (nI (4 * T)))]) (hW : Wo G (LA s) s (rlT G adc cT ++ mdW G adm 0 a v hh) H locs) : W p l e room_1 s m #[Value.ref b] below meth c H locs 99 58143 (lw_Z below #[Value.ref b] s) (F0 m 538 ls []) := by
  obtain ⟨hx, hb, -⟩ := X.1
  have hL := X.2.2.2.2.2
  obtain ⟨r, RC, hC, hM⟩ := two_kindOf (G := G) (x1 := xs (4 * T + 1)) h (by omega)
  refine lv_aload_n hx hb dL_law_538 rfl (lv_at hl 1 rfl) ?_
  refine l_arg (j := 1) X hW hl (by omega) (by decide) dL_law_539 dL_law_540 dL_law_541 dL_law_542 dL_law_543 ?_
  refine l_callC (As := [.int (xs (4 * T + 1))]) (st := []) (r := .int r) X hW hl.1 ml_X6_kindOf vl_L_80 rfl (hC adc) (Nat.le_of_ble_eq_true rfl) ⟨Nat.le_of_ble_eq_true rfl, Nat.le_of_ble_eq_true rfl⟩ ⟨Nat.le_of_ble_eq_true rfl, Nat.le_of_ble_eq_true rfl⟩ rfl rfl (Nat.le_of_ble_eq_true rfl) dL_law_544 (fun c1 H locs hc1 hW => ?_)
  refine lv_aload_n hx hb dL_law_547 rfl (lv_at hl 2 rfl) ?_
  refine l_arg (j := 1) X hW hl (by omega) (by decide) dL_law_548 dL_law_549 dL_law_550 dL_law_551 dL_law_552 ?_
  refine l_callM (As := [.int (xs (4 * T + 1))]) (st := [.int r]) (r := .int r) (RC := RC) X hW hl.1 ml_X7_kindOf vl_L_83 rfl (hM adm hh) hc1 (Nat.le_of_ble_eq_true rfl) ⟨Nat.le_of_ble_eq_true rfl, Nat.le_of_ble_eq_true rfl⟩ ⟨Nat.le_of_ble_eq_true rfl, Nat.le_of_ble_eq_true rfl⟩ rfl rfl (Nat.le_of_ble_eq_true rfl) dL_law_553 (fun a1 v1 hh1 H locs hr hW => ?_)
  exact lv_icmp_eq (tgt := 690) hx hb dL_law_556 (by decide) (fun _ => l_next X ih hr hl hW) (fun z => absurd rfl z)
theorem law_17 {p : Program} {l : Launch} {e : Env} {s : State} {m : MethodId} {below : List Frame} {meth : Method} {c : Code} {G : GG} {b L T : Nat} {xs : Nat → Int32} {a : Fm} {v : Ar} {hh : Int64} {cT : CT} {adc adm : Nat → Nat} {H : Heap} {locs : List Loc} {ls : Array Slot} (X : LX G p s m meth c b L xs) (ih : LHd p l e s m below meth c G b (T + 1)) (h : Rel T a v cT) (hi : 4 * T + 4 ≤ L) (hl : lv_has ls 4 [(0, .ref b), (1, .ref (adc 0)), (2, .ref (adm 0)), (3, .int (nI (4 * T)))]) (hW : Wo G (LA s) s (rlT G adc cT ++ mdW G adm 0 a v hh) H locs) : W p l e room_1 s m #[Value.ref b] below meth c H locs 99 58143 (lw_Z below #[Value.ref b] s) (F0 m 561 ls []) := by
  obtain ⟨hx, hb, -⟩ := X.1
  have hL := X.2.2.2.2.2
  obtain ⟨r, RC, hC, hM⟩ := two_letterOf (G := G) (x1 := xs (4 * T + 1)) h
  refine lv_aload_n hx hb dL_law_561 rfl (lv_at hl 1 rfl) ?_
  refine l_arg (j := 1) X hW hl (by omega) (by decide) dL_law_562 dL_law_563 dL_law_564 dL_law_565 dL_law_566 ?_
  refine l_callC (As := [.int (xs (4 * T + 1))]) (st := []) (r := .int r) X hW hl.1 ml_X6_letterOf vl_L_84 rfl (hC adc) (Nat.le_of_ble_eq_true rfl) ⟨Nat.le_of_ble_eq_true rfl, Nat.le_of_ble_eq_true rfl⟩ ⟨Nat.le_of_ble_eq_true rfl, Nat.le_of_ble_eq_true rfl⟩ rfl rfl (Nat.le_of_ble_eq_true rfl) dL_law_567 (fun c1 H locs hc1 hW => ?_)
  refine lv_aload_n hx hb dL_law_570 rfl (lv_at hl 2 rfl) ?_
  refine l_arg (j := 1) X hW hl (by omega) (by decide) dL_law_571 dL_law_572 dL_law_573 dL_law_574 dL_law_575 ?_
  refine l_callM (As := [.int (xs (4 * T + 1))]) (st := [.int r]) (r := .int r) (RC := RC) X hW hl.1 ml_X7_letterOf vl_L_87 rfl (hM adm hh) hc1 (Nat.le_of_ble_eq_true rfl) ⟨Nat.le_of_ble_eq_true rfl, Nat.le_of_ble_eq_true rfl⟩ ⟨Nat.le_of_ble_eq_true rfl, Nat.le_of_ble_eq_true rfl⟩ rfl rfl (Nat.le_of_ble_eq_true rfl) dL_law_576 (fun a1 v1 hh1 H locs hr hW => ?_)
  exact lv_icmp_eq (tgt := 690) hx hb dL_law_579 (by decide) (fun _ => l_next X ih hr hl hW) (fun z => absurd rfl z)
theorem law_18 {p : Program} {l : Launch} {e : Env} {s : State} {m : MethodId} {below : List Frame} {meth : Method} {c : Code} {G : GG} {b L T : Nat} {xs : Nat → Int32} {a : Fm} {v : Ar} {hh : Int64} {cT : CT} {adc adm : Nat → Nat} {H : Heap} {locs : List Loc} {ls : Array Slot} (X : LX G p s m meth c b L xs) (ih : LHd p l e s m below meth c G b (T + 1)) (h : Rel T a v cT) (hi : 4 * T + 4 ≤ L) (hl : lv_has ls 4 [(0, .ref b), (1, .ref (adc 0)), (2, .ref (adm 0)), (3, .int (nI (4 * T)))]) (hW : Wo G (LA s) s (rlT G adc cT ++ mdW G adm 0 a v hh) H locs) : W p l e room_1 s m #[Value.ref b] below meth c H locs 99 58143 (lw_Z below #[Value.ref b] s) (F0 m 584 ls []) := by
  obtain ⟨hx, hb, -⟩ := X.1
  have hL := X.2.2.2.2.2
  obtain ⟨r, RC, hC, hM⟩ := two_mornings (G := G) (x1 := xs (4 * T + 1)) (x2 := xs (4 * T + 2)) (x3 := xs (4 * T + 3)) h (by omega)
  refine lv_aload_n hx hb dL_law_584 rfl (lv_at hl 1 rfl) ?_
  refine l_arg (j := 1) X hW hl (by omega) (by decide) dL_law_585 dL_law_586 dL_law_587 dL_law_588 dL_law_589 ?_
  refine l_arg (j := 2) X hW hl (by omega) (by decide) dL_law_590 dL_law_591 dL_law_592 dL_law_593 dL_law_594 ?_
  refine l_arg (j := 3) X hW hl (by omega) (by decide) dL_law_595 dL_law_596 dL_law_597 dL_law_598 dL_law_599 ?_
  refine l_callC (As := [.int (xs (4 * T + 1)), .int (xs (4 * T + 2)), .int (xs (4 * T + 3))]) (st := []) (r := .int r) X hW hl.1 ml_X6_mornings vl_L_88 rfl (hC adc) (Nat.le_of_ble_eq_true rfl) ⟨Nat.le_of_ble_eq_true rfl, Nat.le_of_ble_eq_true rfl⟩ ⟨Nat.le_of_ble_eq_true rfl, Nat.le_of_ble_eq_true rfl⟩ rfl rfl (Nat.le_of_ble_eq_true rfl) dL_law_600 (fun c1 H locs hc1 hW => ?_)
  refine lv_aload_n hx hb dL_law_603 rfl (lv_at hl 2 rfl) ?_
  refine l_arg (j := 1) X hW hl (by omega) (by decide) dL_law_604 dL_law_605 dL_law_606 dL_law_607 dL_law_608 ?_
  refine l_arg (j := 2) X hW hl (by omega) (by decide) dL_law_609 dL_law_610 dL_law_611 dL_law_612 dL_law_613 ?_
  refine l_arg (j := 3) X hW hl (by omega) (by decide) dL_law_614 dL_law_615 dL_law_616 dL_law_617 dL_law_618 ?_
  refine l_callM (As := [.int (xs (4 * T + 1)), .int (xs (4 * T + 2)), .int (xs (4 * T + 3))]) (st := [.int r]) (r := .int r) (RC := RC) X hW hl.1 ml_X7_mornings vl_L_92 rfl (hM adm hh) hc1 (Nat.le_of_ble_eq_true rfl) ⟨Nat.le_of_ble_eq_true rfl, Nat.le_of_ble_eq_true rfl⟩ ⟨Nat.le_of_ble_eq_true rfl, Nat.le_of_ble_eq_true rfl⟩ rfl rfl (Nat.le_of_ble_eq_true rfl) dL_law_619 (fun a1 v1 hh1 H locs hr hW => ?_)
  exact lv_icmp_eq (tgt := 690) hx hb dL_law_622 (by decide) (fun _ => l_next X ih hr hl hW) (fun z => absurd rfl z)
theorem law_19 {p : Program} {l : Launch} {e : Env} {s : State} {m : MethodId} {below : List Frame} {meth : Method} {c : Code} {G : GG} {b L T : Nat} {xs : Nat → Int32} {a : Fm} {v : Ar} {hh : Int64} {cT : CT} {adc adm : Nat → Nat} {H : Heap} {locs : List Loc} {ls : Array Slot} (X : LX G p s m meth c b L xs) (ih : LHd p l e s m below meth c G b (T + 1)) (h : Rel T a v cT) (hi : 4 * T + 4 ≤ L) (hl : lv_has ls 4 [(0, .ref b), (1, .ref (adc 0)), (2, .ref (adm 0)), (3, .int (nI (4 * T)))]) (hW : Wo G (LA s) s (rlT G adc cT ++ mdW G adm 0 a v hh) H locs) : W p l e room_1 s m #[Value.ref b] below meth c H locs 99 58143 (lw_Z below #[Value.ref b] s) (F0 m 627 ls []) := by
  obtain ⟨hx, hb, -⟩ := X.1
  have hL := X.2.2.2.2.2
  obtain ⟨r, RC, hC, hM⟩ := two_image (G := G)  h (by omega)
  refine lv_aload_n hx hb dL_law_627 rfl (lv_at hl 1 rfl) ?_
  refine l_callC (As := []) (st := []) (r := .int r) X hW hl.1 ml_X6_image vl_L_93 rfl (hC adc) (Nat.le_of_ble_eq_true rfl) ⟨Nat.le_of_ble_eq_true rfl, Nat.le_of_ble_eq_true rfl⟩ ⟨Nat.le_of_ble_eq_true rfl, Nat.le_of_ble_eq_true rfl⟩ rfl rfl (Nat.le_of_ble_eq_true rfl) dL_law_628 (fun c1 H locs hc1 hW => ?_)
  refine lv_aload_n hx hb dL_law_631 rfl (lv_at hl 2 rfl) ?_
  refine l_callM (As := []) (st := [.int r]) (r := .int r) (RC := RC) X hW hl.1 ml_X7_image vl_L_96 rfl (hM adm hh) hc1 (Nat.le_of_ble_eq_true rfl) ⟨Nat.le_of_ble_eq_true rfl, Nat.le_of_ble_eq_true rfl⟩ ⟨Nat.le_of_ble_eq_true rfl, Nat.le_of_ble_eq_true rfl⟩ rfl rfl (Nat.le_of_ble_eq_true rfl) dL_law_632 (fun a1 v1 hh1 H locs hr hW => ?_)
  exact lv_icmp_eq (tgt := 690) hx hb dL_law_635 (by decide) (fun _ => l_next X ih hr hl hW) (fun z => absurd rfl z)
theorem law_20 {p : Program} {l : Launch} {e : Env} {s : State} {m : MethodId} {below : List Frame} {meth : Method} {c : Code} {G : GG} {b L T : Nat} {xs : Nat → Int32} {a : Fm} {v : Ar} {hh : Int64} {cT : CT} {adc adm : Nat → Nat} {H : Heap} {locs : List Loc} {ls : Array Slot} (X : LX G p s m meth c b L xs) (ih : LHd p l e s m below meth c G b (T + 1)) (h : Rel T a v cT) (hi : 4 * T + 4 ≤ L) (hl : lv_has ls 4 [(0, .ref b), (1, .ref (adc 0)), (2, .ref (adm 0)), (3, .int (nI (4 * T)))]) (hW : Wo G (LA s) s (rlT G adc cT ++ mdW G adm 0 a v hh) H locs) : W p l e room_1 s m #[Value.ref b] below meth c H locs 99 58143 (lw_Z below #[Value.ref b] s) (F0 m 640 ls []) := by
  obtain ⟨hx, hb, -⟩ := X.1
  have hL := X.2.2.2.2.2
  obtain ⟨r, RC, hC, hM⟩ := two_restore (G := G)  h
  refine lv_aload_n hx hb dL_law_640 rfl (lv_at hl 1 rfl) ?_
  refine l_callC (As := []) (st := []) (r := .int r) X hW hl.1 ml_X6_restore vl_L_97 rfl (hC adc) (Nat.le_of_ble_eq_true rfl) ⟨Nat.le_of_ble_eq_true rfl, Nat.le_of_ble_eq_true rfl⟩ ⟨Nat.le_of_ble_eq_true rfl, Nat.le_of_ble_eq_true rfl⟩ rfl rfl (Nat.le_of_ble_eq_true rfl) dL_law_641 (fun c1 H locs hc1 hW => ?_)
  refine lv_aload_n hx hb dL_law_644 rfl (lv_at hl 2 rfl) ?_
  refine l_callM (As := []) (st := [.int r]) (r := .int r) (RC := RC) X hW hl.1 ml_X7_restore vl_L_100 rfl (hM adm hh) hc1 (Nat.le_of_ble_eq_true rfl) ⟨Nat.le_of_ble_eq_true rfl, Nat.le_of_ble_eq_true rfl⟩ ⟨Nat.le_of_ble_eq_true rfl, Nat.le_of_ble_eq_true rfl⟩ rfl rfl (Nat.le_of_ble_eq_true rfl) dL_law_645 (fun a1 v1 hh1 H locs hr hW => ?_)
  exact lv_icmp_eq (tgt := 690) hx hb dL_law_648 (by decide) (fun _ => l_next X ih hr hl hW) (fun z => absurd rfl z)
theorem law_21 {p : Program} {l : Launch} {e : Env} {s : State} {m : MethodId} {below : List Frame} {meth : Method} {c : Code} {G : GG} {b L T : Nat} {xs : Nat → Int32} {a : Fm} {v : Ar} {hh : Int64} {cT : CT} {adc adm : Nat → Nat} {H : Heap} {locs : List Loc} {ls : Array Slot} (X : LX G p s m meth c b L xs) (ih : LHd p l e s m below meth c G b (T + 1)) (h : Rel T a v cT) (hi : 4 * T + 4 ≤ L) (hl : lv_has ls 4 [(0, .ref b), (1, .ref (adc 0)), (2, .ref (adm 0)), (3, .int (nI (4 * T)))]) (hW : Wo G (LA s) s (rlT G adc cT ++ mdW G adm 0 a v hh) H locs) : W p l e room_1 s m #[Value.ref b] below meth c H locs 99 58143 (lw_Z below #[Value.ref b] s) (F0 m 653 ls []) := by
  obtain ⟨hx, hb, -⟩ := X.1
  have hL := X.2.2.2.2.2
  obtain ⟨r, RC, hC, hM⟩ := two_count (G := G) (x1 := xs (4 * T + 1)) h (by omega)
  refine lv_aload_n hx hb dL_law_653 rfl (lv_at hl 1 rfl) ?_
  refine l_arg (j := 1) X hW hl (by omega) (by decide) dL_law_654 dL_law_655 dL_law_656 dL_law_657 dL_law_658 ?_
  refine l_callC (As := [.int (xs (4 * T + 1))]) (st := []) (r := .int r) X hW hl.1 ml_X6_count vl_L_101 rfl (hC adc) (Nat.le_of_ble_eq_true rfl) ⟨Nat.le_of_ble_eq_true rfl, Nat.le_of_ble_eq_true rfl⟩ ⟨Nat.le_of_ble_eq_true rfl, Nat.le_of_ble_eq_true rfl⟩ rfl rfl (Nat.le_of_ble_eq_true rfl) dL_law_659 (fun c1 H locs hc1 hW => ?_)
  refine lv_aload_n hx hb dL_law_662 rfl (lv_at hl 2 rfl) ?_
  refine l_arg (j := 1) X hW hl (by omega) (by decide) dL_law_663 dL_law_664 dL_law_665 dL_law_666 dL_law_667 ?_
  refine l_callM (As := [.int (xs (4 * T + 1))]) (st := [.int r]) (r := .int r) (RC := RC) X hW hl.1 ml_X7_count vl_L_104 rfl (hM adm hh) hc1 (Nat.le_of_ble_eq_true rfl) ⟨Nat.le_of_ble_eq_true rfl, Nat.le_of_ble_eq_true rfl⟩ ⟨Nat.le_of_ble_eq_true rfl, Nat.le_of_ble_eq_true rfl⟩ rfl rfl (Nat.le_of_ble_eq_true rfl) dL_law_668 (fun a1 v1 hh1 H locs hr hW => ?_)
  exact lv_icmp_eq (tgt := 690) hx hb dL_law_671 (by decide) (fun _ => l_next X ih hr hl hW) (fun z => absurd rfl z)
theorem law_22 {p : Program} {l : Launch} {e : Env} {s : State} {m : MethodId} {below : List Frame} {meth : Method} {c : Code} {G : GG} {b L T : Nat} {xs : Nat → Int32} {a : Fm} {v : Ar} {hh : Int64} {cT : CT} {adc adm : Nat → Nat} {H : Heap} {locs : List Loc} {ls : Array Slot} (X : LX G p s m meth c b L xs) (ih : LHd p l e s m below meth c G b (T + 1)) (h : Rel T a v cT) (hi : 4 * T + 4 ≤ L) (hl : lv_has ls 4 [(0, .ref b), (1, .ref (adc 0)), (2, .ref (adm 0)), (3, .int (nI (4 * T)))]) (hW : Wo G (LA s) s (rlT G adc cT ++ mdW G adm 0 a v hh) H locs) : W p l e room_1 s m #[Value.ref b] below meth c H locs 99 58143 (lw_Z below #[Value.ref b] s) (F0 m 676 ls []) := by
  obtain ⟨hx, hb, -⟩ := X.1
  have hL := X.2.2.2.2.2
  obtain ⟨r, RC, hC, hM⟩ := two_digest (G := G)  h (by omega)
  refine lv_aload_n hx hb dL_law_676 rfl (lv_at hl 1 rfl) ?_
  refine l_callC (As := []) (st := []) (r := .long r) X hW hl.1 ml_X6_digest vl_L_105 rfl (hC adc) (Nat.le_of_ble_eq_true rfl) ⟨Nat.le_of_ble_eq_true rfl, Nat.le_of_ble_eq_true rfl⟩ ⟨Nat.le_of_ble_eq_true rfl, Nat.le_of_ble_eq_true rfl⟩ rfl rfl (Nat.le_of_ble_eq_true rfl) dL_law_677 (fun c1 H locs hc1 hW => ?_)
  refine lv_aload_n hx hb dL_law_680 rfl (lv_at hl 2 rfl) ?_
  refine l_callM (As := []) (st := [.long r]) (r := .long r) (RC := RC) X hW hl.1 ml_X7_digest vl_L_109 rfl (hM adm hh) hc1 (Nat.le_of_ble_eq_true rfl) ⟨Nat.le_of_ble_eq_true rfl, Nat.le_of_ble_eq_true rfl⟩ ⟨Nat.le_of_ble_eq_true rfl, Nat.le_of_ble_eq_true rfl⟩ rfl rfl (Nat.le_of_ble_eq_true rfl) dL_law_681 (fun a1 v1 hh1 H locs hr hW => ?_)
  refine W.lcmp hx hb dL_law_684 ?_
  exact lv_if_eq (tgt := 690) hx hb dL_law_685 (by decide) (fun _ => l_next X ih hr hl hW) (fun z => absurd ((lg_cmp_eq r r).mpr rfl) z)
