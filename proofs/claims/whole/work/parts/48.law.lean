/-! THE CLAIM OUT OF ONE WALK OF THE LAW'S BODY. Your part is whole_start (and what it stands on); all else here is the same for every law, but numbers. -/
def R_law : String := "RainLettersLaw"
def lw_P (b : Addr) (xs : List Int32) (args : Array Value) (s : State) : Prop := args = #[.ref b] ∧ s.IntsAt b xs ∧ xs.length ≤ 2048 ∧ (Jvm.Cond.and given_1 narrow_1).before args s = true
def lw_Q (_ : Array Value) (s : State) (o : Outcome) (t : State) : Prop := o = .returned (some (.int 1)) ∧ Framed s o t [] 600000 7302250
def lw_Z (below : List Frame) (a : Array Value) (s : State) : State → Prop := fun t => ∃ o, t.status = .running ∧ Ended t below o ∧ lw_Q a s o t
/-- the law's own end, with 1 on the stack, nothing written that was there before, its room as the claim has it -/
theorem lw_ret {p : Program} {l : Launch} {e : Env} {s : State} {m : MethodId} {below : List Frame} {meth : Method} {c : Code} {b : Nat} (hx : p.tables.exec = Jvm.exec) (hb : c.code = code) (hr : meth.sig.returnType = ret) (hlocks : meth.locks = false) {pc : Nat} {H : Heap} {ls : Array Slot} (hdg : decode code pc = .ok (.ireturn, 1)) : W p l e room_1 s m #[Value.ref b] below meth c H [] 600000 7302250 (lw_Z below #[Value.ref b] s) (F0 m pc ls [.int 1]) := by
  intro T hT X
  obtain ⟨fs, hret, hrun, hended, hW, hframe⟩ := X.leave (v := some (.int 1)) (hlocks := hlocks) (fun h => by rw [hr] at h; cases h)
  have hmeth' : T.vm.method? m = some meth := X.method'
  refine ⟨T.setFrames fs, ?_, .returned (some (.int 1)), hrun, hended, rfl, ⟨_, rfl⟩, hW, hframe⟩
  jvm_step X.here [X.here.top, hx, hb, hdg, hmeth', hr, ret, narrow_b1]
  (try refine ⟨rfl, ?_⟩); (try refine ⟨rfl, ?_⟩)
  first | (intro acts; rw [hret _ acts rfl rfl rfl]) | rw [hret _ _ rfl rfl rfl]
  exact Steps.refl _
/-- what holds at the law's entry: the machine, the code, the tables' words (any of lw_tbl by 'hts w (by decide +kernel)'), the script of L ints xs at the cell b, what the Statement gives of the start (any of its parts by flat_of_before) -/
def lw_At (p : Program) (s : State) (m : MethodId) (meth : Method) (c : Code) (b L : Nat) (xs : Nat → Int32) : Prop :=
  p.tables.exec = Jvm.exec ∧ c.code = code ∧ meth.sig.returnType = ret ∧ c.maxLocals = 4 ∧ s.vm.findClass R_law = some m.cls ∧ (∀ w ∈ lw_tbl, w.before #[Value.ref b] s = true) ∧ va_X b L xs s s.heap ∧ b < s.heap.size ∧ meth.locks = false ∧ (Jvm.Cond.and given_1 narrow_1).before #[Value.ref b] s = true

/-! THE LAW: its world is the class's object and the reference's -/
def LA (s : State) : Nat → Prop := fun q => s.heap.size ≤ q
def LX (G : GG) (p : Program) (s : State) (m : MethodId) (meth : Method) (c : Code) (b L : Nat) (xs : Nat → Int32) : Prop := lw_At p s m meth c b L xs ∧ (∀ w ∈ tb, w.before #[Value.ref b] s = true) ∧ va_K G.1 classes (gty G) s ∧ xt G (LA s) s s.heap ∧ xn s ∧ L ≤ 2048
def psC : List (Option Nat) := (List.range 78).map some
def psM : List (Option Nat) := List.replicate 78 none ++ (List.range 21).map some
theorem mrgC {G : GG} {ad am : Nat → Nat} {c c' : CT} {a : Fm} {v : Ar} {hh : Int64} : mrg (rlT G ad c ++ mdW G am 0 a v hh) (rlT G ad c') psC = rlT G ad c' ++ mdW G am 0 a v hh := by
  obtain ⟨pf, pn, u, d, g, l, n, fn, fd, ku, kd, kg, kl, kn, kfn, kfd, tu, td, t, wa, le, se, cv⟩ := c
  obtain ⟨pf', pn', u', d', g', l', n', fn', fd', ku', kd', kg', kl', kn', kfn', kfd', tu', td', t', wa', le', se', cv'⟩ := c'
  rfl
theorem mrgM {G : GG} {ad am : Nat → Nat} {c : CT} {a a' : Fm} {v v' : Ar} {hh hh' : Int64} : mrg (rlT G ad c ++ mdW G am 0 a v hh) (mdW G am 0 a' v' hh') psM = rlT G ad c ++ mdW G am 0 a' v' hh' := by
  obtain ⟨pf, pn, u, d, g, l, n, fn, fd, ku, kd, kg, kl, kn, kfn, kfd, tu, td, t, wa, le, se, cv⟩ := c
  rfl
theorem layC {G : GG} {ad am : Nat → Nat} {c : CT} {a : Fm} {v : Ar} {hh : Int64} : Lay (rlT G ad c ++ mdW G am 0 a v hh) (rlT G ad c) psC := by
  refine ⟨mrgC, ?_, ?_, ?_⟩
  all_goals
    obtain ⟨pf, pn, u, d, g, l, n, fn, fd, ku, kd, kg, kl, kn, kfn, kfd, tu, td, t, wa, le, se, cv⟩ := c
    first | rfl | exact Nat.le_of_ble_eq_true rfl
theorem layM {G : GG} {ad am : Nat → Nat} {c : CT} {a : Fm} {v : Ar} {hh : Int64} : Lay (rlT G ad c ++ mdW G am 0 a v hh) (mdW G am 0 a v hh) psM := by
  refine ⟨mrgM, ?_, ?_, ?_⟩
  all_goals
    obtain ⟨pf, pn, u, d, g, l, n, fn, fd, ku, kd, kg, kl, kn, kfn, kfd, tu, td, t, wa, le, se, cv⟩ := c
    first | rfl | exact Nat.le_of_ble_eq_true rfl
theorem rlT_0 {G : GG} {ad : Nat → Nat} {c : CT} : ∃ fs, (rlT G ad c)[0]? = some (ad 0, .inr (6, fs)) := by
  obtain ⟨pf, pn, u, d, g, l, n, fn, fd, ku, kd, kg, kl, kn, kfn, kfd, tu, td, t, wa, le, se, cv⟩ := c
  exact ⟨_, rfl⟩
section LAW
variable {p : Program} {l : Launch} {e : Env} {s : State} {m : MethodId} {below : List Frame} {meth : Method} {c : Code} {H : Heap} {locs : List Loc} {cells slots : Nat} {Qw : State → Prop} {G : GG} {b L : Nat} {xs : Nat → Int32}
theorem l_arg {w : va_W} {x1 x2 i j pc : Nat} {jv : Int} {ls : Array Slot} {st : List Value} (X : LX G p s m meth c b L xs) (hW : Wo G (LA s) s w H locs) (hl : lv_has ls 4 [(0, .ref b), (1, .ref x1), (2, .ref x2), (3, .int (nI i))]) (hj : i + j < L) (hjv : Int32.ofInt jv = nI j) (d1 : decode code pc = .ok (.aload_n 0, 1)) (d2 : decode code (pc + 1) = .ok (.iload_n 3, 1)) (d3 : decode code (pc + 2) = .ok (.iconst jv, 1)) (d4 : decode code (pc + 3) = .ok (.iadd, 1)) (d5 : decode code (pc + 4) = .ok (.iaload, 1))
    (k : W p l e room_1 s m #[Value.ref b] below meth c H locs cells slots Qw (F0 m (pc + 5) ls (.int (xs (i + j)) :: st))) : W p l e room_1 s m #[Value.ref b] below meth c H locs cells slots Qw (F0 m pc ls st) := by
  obtain ⟨⟨hx, hb, hr, hml, hown, hts, hX, hbl, hlocks, hgv⟩, htb, hK, hxt, hxn, hL⟩ := X
  refine lv_aload_n hx hb d1 rfl (lv_at hl 0 rfl) ?_
  refine lv_iload_n hx hb d2 rfl (lv_at hl 3 rfl) ?_
  refine lv_iconst (v := nI j) hx hb d3 hjv ?_
  refine lv_iadd hx hb d4 ?_
  rw [nI_add]
  refine va_sld (A := LA s) hx hb hX hbl (Nat.not_le.mpr hbl) hW.2.2 (vp_in_nI hj (by omega)) d5 ?_
  rw [nI_clamp (by omega)]
  exact k
theorem l_callC {MC : Mt} {idx n pc : Nat} {As st st0 : List Value} {adc adm : Nat → Nat} {cT : CT} {a : Fm} {v : Ar} {hh : Int64} {r : Value} {RC : CT → Prop} {ls : Array Slot} (X : LX G p s m meth c b L xs) (hW : Wo G (LA s) s (rlT G adc cT ++ mdW G adm 0 a v hh) H locs) (hls : ls.size = 4) (hM : ML MC n) (hV : VL R_law idx MC) (hcl : RX6 = MC.1.cls) (hJ : J G MC 0 (lv_args 0 (.ref (adc 0) :: As)) [] (rlT G adc cT) (fun x w => x = some r ∧ ∃ c', w = rlT G adc c' ∧ RC c')) (hlen : (lg_sl (.ref (adc 0) :: As)).length ≤ MC.2.2.1) (hR : MC.2.2.2.2.frames + 1 ≤ room_1.frames ∧ 8 + (MC.2.2.1 + 11) + MC.2.2.2.2.locals ≤ room_1.locals) (hcs : cells ≤ room_1.cells ∧ slots ≤ room_1.slots) (hn : As.length = n) (hst : st0 = As.reverse ++ .ref (adc 0) :: st) (hcat : (st.map fun v => v.category).sum ≤ 8) (hd : decode code pc = .ok (.invokevirtual idx, 3))
    (kk : ∀ (c' : CT) (H1 : Heap) (locs1 : List Loc), RC c' → Wo G (LA s) s (rlT G adc c' ++ mdW G adm 0 a v hh) H1 locs1 → W p l e room_1 s m #[Value.ref b] below meth c H1 locs1 cells slots Qw (F0 m (pc + 3) ls (r :: st))) : W p l e room_1 s m #[Value.ref b] below meth c H locs cells slots Qw (F0 m pc ls st0) := by
  obtain ⟨⟨hx, hb, hr, hml, hown, hts, hX, hbl, hlocks, hgv⟩, htb, hK, hxt, hxn, hL⟩ := X
  obtain ⟨fs, h0⟩ := rlT_0 (G := G) (ad := adc) (c := cT)
  refine w_callV (As := As) (rest := st) hx hb hml hown htb (fun q h => h) hK hxt hls hW hM hV psC layC h0 rfl hcl hJ hlen hR hcs hn hst hcat hd (fun v w1 H1 locs1 h1 _ _ h4 => ?_)
  obtain ⟨rfl, c', rfl, hc⟩ := h1
  rw [mrgC] at h4
  exact kk c' H1 locs1 hc h4
theorem l_callM {MM : Mt} {idx n pc T : Nat} {As st st0 : List Value} {adc adm : Nat → Nat} {cT : CT} {a : Fm} {v : Ar} {hh : Int64} {r : Value} {RC : CT → Prop} {ls : Array Slot} (X : LX G p s m meth c b L xs) (hW : Wo G (LA s) s (rlT G adc cT ++ mdW G adm 0 a v hh) H locs) (hls : ls.size = 4) (hM : ML MM n) (hV : VL R_law idx MM) (hcl : RX7 = MM.1.cls) (hJ : J G MM 0 (lv_args 0 (.ref (adm 0) :: As)) [] (mdW G adm 0 a v hh) (fun x w => x = some r ∧ ∃ a' v' hh', w = mdW G adm 0 a' v' hh' ∧ ∀ c', RC c' → Rel (T + 1) a' v' c')) (hc : RC cT) (hlen : (lg_sl (.ref (adm 0) :: As)).length ≤ MM.2.2.1) (hR : MM.2.2.2.2.frames + 1 ≤ room_1.frames ∧ 8 + (MM.2.2.1 + 11) + MM.2.2.2.2.locals ≤ room_1.locals) (hcs : cells ≤ room_1.cells ∧ slots ≤ room_1.slots) (hn : As.length = n) (hst : st0 = As.reverse ++ .ref (adm 0) :: st) (hcat : (st.map fun v => v.category).sum ≤ 8) (hd : decode code pc = .ok (.invokevirtual idx, 3))
    (kk : ∀ (a' : Fm) (v' : Ar) (hh' : Int64) (H1 : Heap) (locs1 : List Loc), Rel (T + 1) a' v' cT → Wo G (LA s) s (rlT G adc cT ++ mdW G adm 0 a' v' hh') H1 locs1 → W p l e room_1 s m #[Value.ref b] below meth c H1 locs1 cells slots Qw (F0 m (pc + 3) ls (r :: st))) : W p l e room_1 s m #[Value.ref b] below meth c H locs cells slots Qw (F0 m pc ls st0) := by
  obtain ⟨⟨hx, hb, hr, hml, hown, hts, hX, hbl, hlocks, hgv⟩, htb, hK, hxt, hxn, hL⟩ := X
  refine w_callV (As := As) (rest := st) (q0 := 0) (ci := 7) hx hb hml hown htb (fun q h => h) hK hxt hls hW hM hV psM layM rfl rfl hcl hJ hlen hR hcs hn hst hcat hd (fun v w1 H1 locs1 h1 _ _ h4 => ?_)
  obtain ⟨rfl, a', v', hh', rfl, hr⟩ := h1
  rw [mrgM] at h4
  exact kk a' v' hh' H1 locs1 (hr cT hc) h4
end LAW
/-- at the loop's head, after T calls -/
def LHd (p : Program) (l : Launch) (e : Env) (s : State) (m : MethodId) (below : List Frame) (meth : Method) (c : Code) (G : GG) (b T : Nat) : Prop := ∀ (a : Fm) (v : Ar) (hh : Int64) (cT : CT) (adc adm : Nat → Nat) (H : Heap) (locs : List Loc) (ls : Array Slot), Rel T a v cT → lv_has ls 4 [(0, .ref b), (1, .ref (adc 0)), (2, .ref (adm 0)), (3, .int (nI (4 * T)))] → Wo G (LA s) s (rlT G adc cT ++ mdW G adm 0 a v hh) H locs → W p l e room_1 s m #[Value.ref b] below meth c H locs 99 58143 (lw_Z below #[Value.ref b] s) (F0 m 18 ls [])
section LAW2
variable {p : Program} {l : Launch} {e : Env} {s : State} {m : MethodId} {below : List Frame} {meth : Method} {c : Code} {G : GG} {b L T : Nat} {xs : Nat → Int32}
theorem l_next {a : Fm} {v : Ar} {hh : Int64} {cT : CT} {adc adm : Nat → Nat} {H : Heap} {locs : List Loc} {ls : Array Slot} (X : LX G p s m meth c b L xs) (ih : LHd p l e s m below meth c G b (T + 1)) (h : Rel (T + 1) a v cT) (hl : lv_has ls 4 [(0, .ref b), (1, .ref (adc 0)), (2, .ref (adm 0)), (3, .int (nI (4 * T)))]) (hW : Wo G (LA s) s (rlT G adc cT ++ mdW G adm 0 a v hh) H locs) : W p l e room_1 s m #[Value.ref b] below meth c H locs 99 58143 (lw_Z below #[Value.ref b] s) (F0 m 690 ls []) := by
  obtain ⟨⟨hx, hb, -⟩, -⟩ := X
  refine lv_iinc (v := nI (4 * (T + 1))) (lv' := [(3, .int (nI (4 * (T + 1)))), (0, .ref b), (1, .ref (adc 0)), (2, .ref (adm 0))]) hx hb dL_law_690 hl (k := 3) rfl (by rw [show (Int32.ofInt 4) = nI 4 from rfl, nI_add]; rfl) (by decide) rfl (fun ls hl => ?_)
  refine lv_goto (tgt := 18) hx hb dL_law_693 (by decide) ?_
  exact ih a v hh cT adc adm H locs ls h (lv_sub hl [1, 2, 3, 0] rfl) hW
end LAW2
