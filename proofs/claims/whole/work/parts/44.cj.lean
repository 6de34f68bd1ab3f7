/-! CONSTRUCTORS: the judgement JN: the world grows, cells and slots are counted -/
def xn (U : State) : Prop := va_Nw (.methodLinkNest RX6 9 yX2_init RX6) U ∧ va_Nw (.methodLinkNest RX6 18 yX3_init RX6) U ∧ va_Nw (.methodLinkNest RX3 9 yX4_init RX6) U ∧ va_Nw (.methodLinkNest RX3 18 yX0_init RX6) U ∧ va_Nw (.methodLinkNest RX6 28 yX4_init RX6) U ∧ va_Nw (.methodLinkNest RX6 35 yX5_init RX6) U ∧ (Cond.arrayOver (.array .int)).before #[] U = true
theorem xn.warm {s U : State} (hW : s.WarmedH U.vm) (h : xn s) : xn U :=
  ⟨va_Nw.warmM hW h.1, va_Nw.warmM hW h.2.1, va_Nw.warmM hW h.2.2.1, va_Nw.warmM hW h.2.2.2.1, va_Nw.warmM hW h.2.2.2.2.1, va_Nw.warmM hW h.2.2.2.2.2.1, over_moved hW.alike h.2.2.2.2.2.2⟩
theorem xn.call {U : State} (g : JFrame) (mk : MethodId) (a : Array Value) (h : xn U) : xn (U.calling g mk a) :=
  ⟨va_Nw.same (u := U) (U := U.calling g mk a) rfl rfl h.1, va_Nw.same (u := U) (U := U.calling g mk a) rfl rfl h.2.1, va_Nw.same (u := U) (U := U.calling g mk a) rfl rfl h.2.2.1, va_Nw.same (u := U) (U := U.calling g mk a) rfl rfl h.2.2.2.1, va_Nw.same (u := U) (U := U.calling g mk a) rfl rfl h.2.2.2.2.1, va_Nw.same (u := U) (U := U.calling g mk a) rfl rfl h.2.2.2.2.2.1, over_moved (u := U) (E := U.calling g mk a) (Vm.Alike.refl U.vm) h.2.2.2.2.2.2⟩
def QN (G : GG) (Q : va_W → Prop) (A : Nat → Prop) : Array Value → State → Outcome → State → Prop := fun _ st oc t => (oc = .returned none ∧ ∃ w' : va_W, Q w' ∧ va_P G.1 classes w' t.heap ∧ va_D A w') ∧ va_F A st t
def JN (G : GG) (M : Mt) (pc : Nat) (lo : List (Nat × Value)) (st : List Value) (w : va_W) (k n : Nat) (Q : va_W → Prop) : Prop :=
  ∀ (p : Program) (l : Launch) (e : Env) (s : State) (m : MethodId) (args : Array Value) (below : List Frame) (meth : Method) (c : Code) (A : Nat → Prop), Cx G M p s m args meth c A → xn s → meth.name = "<init>" → ∀ (H : Heap) (locs : List Loc) (ls : Array Slot), lv_has ls M.2.2.1 lo → Wo G A s w H locs → W p l e M.2.2.2.2 s m args below meth c H locs k n (MQ below (QN G Q A) args s M.2.2.2.2.cells M.2.2.2.2.slots A) (F0 m pc ls st)
theorem va_D.two {A : Nat → Prop} {w0 w1 : va_W} {x : Nat × va_E} {sz : Nat} (hD : va_D A (w0 ++ [x])) (hlt : ∀ (k : Nat) (q : Nat × va_E), w0[k]? = some q → q.1 < sz) (h1 : va_D (va_A [x] sz) w1) (hB : ∀ q, va_A [x] sz q → A q) : va_D A (w0 ++ w1) := by
  have ne : ∀ (i j : Nat) (a b : Nat × va_E), w0[i]? = some a → w1[j]? = some b → a.1 ≠ b.1 := fun i j a b ha hb e => by
    have hl := hlt i a ha
    rcases h1.2 j b hb with ⟨k, z, hk⟩ | hge
    · have hk0 : k < 1 := (List.getElem?_eq_some_iff.mp hk).1
      rw [show k = 0 by omega] at hk
      have hx : x = (b.1, z) := Option.some.inj hk
      have hi := (List.getElem?_eq_some_iff.mp ha).1
      have := hD.1 i w0.length a x (by rw [List.getElem?_append_left hi]; exact ha) (by simp) (by rw [e, hx])
      omega
    · omega
  refine ⟨fun i j a b ha hb e => ?_, fun k a ha => ?_⟩
  · by_cases c1 : i < w0.length <;> by_cases c2 : j < w0.length
    · rw [List.getElem?_append_left c1] at ha
      rw [List.getElem?_append_left c2] at hb
      exact hD.1 i j a b (by rw [List.getElem?_append_left c1]; exact ha) (by rw [List.getElem?_append_left c2]; exact hb) e
    · rw [List.getElem?_append_left c1] at ha
      rw [List.getElem?_append_right (by omega)] at hb
      exact absurd e (ne _ _ _ _ ha hb)
    · rw [List.getElem?_append_right (by omega)] at ha
      rw [List.getElem?_append_left c2] at hb
      exact absurd e.symm (ne _ _ _ _ hb ha)
    · rw [List.getElem?_append_right (by omega)] at ha hb
      have := h1.1 _ _ a b ha hb e
      omega
  · by_cases c1 : k < w0.length
    · rw [List.getElem?_append_left c1] at ha
      exact hD.2 k a (by rw [List.getElem?_append_left c1]; exact ha)
    · rw [List.getElem?_append_right (by omega)] at ha
      exact hB _ (h1.2 _ a ha)
/-- a constructor's contract out of JN -/
theorem met_JN {l : Launch} {G : GG} {M : Mt} {b : Nat} {x : va_E} {Q : va_W → Prop} (hJ : JN G M 0 [(0, .ref b)] [] [(b, x)] 0 0 Q) (hl1 : M.2.2.1 = 1) (hy : plainName M.1.cls = true) (hi : M.1.name = "<init>") (sz : Nat) :
    Met l M.1 (.code M.1 M.2.1 M.2.2.1 M.2.2.2.1 :: tb) M.2.2.2.2 (va_Pc [.ref b] (fun U => U.heap.size = sz ∧ va_P G.1 classes [(b, x)] U.heap ∧ va_K G.1 classes (gty G) U ∧ va_D (fun _ => True) [(b, x)] ∧ xt G (va_A [(b, x)] sz) U U.heap ∧ xn U)) (QN G Q (va_A [(b, x)] sz)) M.2.2.2.2.cells M.2.2.2.2.slots (va_A [(b, x)] sz) := by
  refine Met.ofW (cc := M.2.1) (maxL := M.2.2.1) (ret := M.2.2.2.1) hy rfl ?_
  intro p e s m args below meth c s₁ B hml hv
  obtain ⟨rfl, hsz, hP, hK, hD0, hx, hxn⟩ := hv
  subst hsz
  rw [lg_entry_eq]
  have hts := atoms_spec (ws := Cond.code M.1 M.2.1 M.2.2.1 M.2.2.2.1 :: tb) B.pre
  have hin : meth.name = "<init>" := by rw [(name_of_methodNamed B.named B.method).1]; exact hi
  exact hJ p l e s m _ below meth c (va_A [(b, x)] s.heap.size) ⟨B.exec, B.bytes, hml, B.returns, findClass_of_methodNamed B.named, fun w hw => hts w (List.mem_cons_of_mem _ hw), B.notSynchronized, fun q h => Or.inr h, hK, hx⟩ hxn hin s.heap [] _ (lv_entry [.ref b] (by rw [hl1]; exact Nat.le_of_ble_eq_true rfl)) ⟨hP, hD0.self, va_S.rf⟩
section CN
variable {p : Program} {l : Launch} {e : Env} {R : Room} {s : State} {m : MethodId} {args : Array Value} {below : List Frame} {meth : Method} {c : Code} {H : Heap} {locs : List Loc} {cells slots : Nat} {Qw : State → Prop}
theorem va_callN {G : GG} {Q : va_W → Prop} {A0 A1 : Nat → Prop} {a : Array Value} {pc mc ms : Nat} {ls : Array Slot} {rest st0 : List Value} {H0 : Heap} (hr : va_Run p l e R s m args below meth c H locs cells slots mc ms (F0 m pc ls st0) rest (QN G Q A1 a) A1) (hS : va_S A0 H0 H locs) (hA : ∀ q, A1 q → A0 q)
    (kk : ∀ (w1 : va_W) (H1 : Heap) (locs1 : List Loc), Q w1 → va_P G.1 classes w1 H1 → va_D A1 w1 → (∀ q : Nat, q < H.size → ¬ A1 q → H1[q]? = H[q]?) → va_S A0 H0 H1 locs1 → W p l e R s m args below meth c H1 locs1 (cells + mc) (slots + ms) Qw (F0 m (pc + 3) ls rest)) : W p l e R s m args below meth c H locs cells slots Qw (F0 m pc ls st0) := by
  intro T hT X
  obtain ⟨v, st₀, t, T', L1, h0, X', hL, e1, e2, ⟨⟨hv, w1, hq, hp, hd⟩, hz, hk⟩, st⟩ := hr T hT X
  cases hv
  rw [h0] at hz hk
  obtain ⟨t2, a1, b1⟩ := kk w1 T'.heap (locs ++ L1) hq (by rw [e1]; exact hp) hd (fun q h1 h2 => by rw [e1]; exact hk q h1 h2)
    ⟨Nat.le_trans hS.1 (by rw [e1]; exact hz), fun q h1 h2 => by rw [e1, hk q (Nat.lt_of_lt_of_le h1 hS.1) (fun z => h2 (hA q z))]; exact hS.2.1 q h1 h2, fun q hq => by
      rcases List.mem_append.mp hq with h | h
      · exact hS.2.2 q h
      · exact hA _ (hL q h)⟩ T' rfl X'
  exact ⟨t2, st t2 a1, b1⟩
/-- new, dup, invokespecial <init>: in any body; nest tells how the call is linked -/
def IL (own : String) (idx : Nat) (y : MethodName) (s : State) : Prop := Cond.methodLink own idx y ∈ tb ∨ va_Nw (.methodLinkNest own idx y RX6) s
def NC (own : String) (idx ci : Nat) (y : MethodName) (fs : List Value) : Prop := ∃ (C : String) (T : u_T) (N : Nat) (ty : Nat → FieldType), classes[ci]? = some (C, T, N) ∧ (∀ x ∈ u_ws C T N, x ∈ tb) ∧ (∀ k, k < N → parseFieldDescriptor (T k).2.2.1 = some (ty k)) ∧ Cond.classLink own idx C ∈ tb ∧ Cond.instantiable C N ∈ tb ∧ Cond.initialized C ∈ tb ∧ (∀ j, j < N → defaultValue (ty j) = vp_V fs j) ∧ y.cls = C ∧ fs.length = N
theorem w_newI {G : GG} {Mc : Mt} {cc : ByteArray} {nL pc i1 i2 ci : Nat} {own : String} {A : Nat → Prop} {w : va_W} {fs : List Value} {Qc : Nat → va_W → Prop} {ls : Array Slot} {rest : List Value} (hx : p.tables.exec = Jvm.exec) (hb : c.code = cc) (hml : c.maxLocals = nL) (hown : s.vm.findClass own = some m.cls) (hts : ∀ w ∈ tb, w.before args s = true) (hA : ∀ q, s.heap.size ≤ q → A q) (hK : va_K G.1 classes (gty G) s) (hxt : xt G A s s.heap) (hxn : xn s) (hls : ls.size = nL) (hW : Wo G A s w H locs)
    (hn : NC own i1 ci Mc.1 fs) (hi : IL own i2 Mc.1 s) (hM : Cond.code Mc.1 Mc.2.1 Mc.2.2.1 Mc.2.2.2.1 ∈ tb ∧ Cond.instanceMethod Mc.1 ∈ tb ∧ (Mc.1.cls ≠ "java/lang/invoke/MethodHandle" ∧ Mc.1.cls ≠ "java/lang/invoke/VarHandle" ∧ (parseMethodDescriptor Mc.1.desc).map (fun d => d.parameters.length) = some 0) ∧ Mc.2.2.1 = 1 ∧ plainName Mc.1.cls = true ∧ Mc.1.name = "<init>" ∧ Mc.2.2.2.1 = none)
    (hJ : ∀ q, JN G Mc 0 [(0, .ref q)] [] [(q, .inr (ci, fs))] 0 0 (Qc q)) (hR : Mc.2.2.2.2.frames + 1 ≤ R.frames ∧ 8 + (Mc.2.2.1 + 11) + Mc.2.2.2.2.locals ≤ R.locals) (hcs : cells + 1 + Mc.2.2.2.2.cells ≤ R.cells ∧ slots + fs.length + Mc.2.2.2.2.slots ≤ R.slots) (hcat : ((.ref 0 :: rest).map fun v => v.category).sum ≤ 8) (hd1 : decode cc pc = .ok (.new i1, 3)) (hd2 : decode cc (pc + 3) = .ok (.dup, 1)) (hd3 : decode cc (pc + 4) = .ok (.invokespecial i2, 3))
    (kk : ∀ (q : Nat) (w1 : va_W) (H1 : Heap) (locs1 : List Loc), Qc q w1 → Wo G A s (w ++ w1) H1 locs1 → W p l e R s m args below meth c H1 locs1 (cells + 1 + Mc.2.2.2.2.cells) (slots + fs.length + Mc.2.2.2.2.slots) Qw (F0 m (pc + 7) ls (.ref q :: rest))) : W p l e R s m args below meth c H locs cells slots Qw (F0 m pc ls rest) := by
  obtain ⟨hP, hD, hS⟩ := hW
  obtain ⟨C, T, N, ty, n1, n2, n3, n4, n5, n6, n7, n8, n9⟩ := hn
  subst n9
  obtain ⟨m1, m2, m3, m4, m5, m6, m7⟩ := hM
  refine va_new (ci := ci) (fs := fs) (C := C) (T := T) (N := fs.length) hx hb hts n2 ty n3 hown (hts _ n4) (hts _ n5) (hts _ n6) hK hP hD hS hA n1 n7 (by omega) (by omega) hd1 (fun q H hP hD hS => ?_)
  refine lv_dup hx hb hd2 rfl ?_
  have hlt : ∀ (k : Nat) (x : Nat × va_E), w[k]? = some x → x.1 < H.size := fun k x hk => by
    have hkl := (List.getElem?_eq_some_iff.mp hk).1
    exact (hP k x (by rw [List.getElem?_append_left hkl]; exact hk)).lt
  have hq : (w ++ [(q, (.inr (ci, fs) : va_E))])[w.length]? = some (q, .inr (ci, fs)) := by simp
  have hPc : va_P G.1 classes [(q, .inr (ci, fs))] H := fun k x hk => by
    have hk0 : k < 1 := (List.getElem?_eq_some_iff.mp hk).1
    rw [show k = 0 by omega] at hk
    cases hk
    exact hP w.length _ hq
  have hDc : va_D (fun _ => True) [(q, (.inr (ci, fs) : va_E))] := ⟨fun i j x y hi hj _ => by
    have h1 := (List.getElem?_eq_some_iff.mp hi).1
    have h2 := (List.getElem?_eq_some_iff.mp hj).1
    simp at h1 h2
    omega, fun _ _ _ => trivial⟩
  have hF : ∀ z, va_A [(q, (.inr (ci, fs) : va_E))] H.size z → A z := fun z hz => by
    rcases hz with ⟨k, e, hk⟩ | hge
    · have hk0 : k < 1 := (List.getElem?_eq_some_iff.mp hk).1
      rw [show k = 0 by omega] at hk
      cases hk
      exact hD.2 w.length _ hq
    · exact hA z (Nat.le_trans hS.1 hge)
  have hpre : PreS s H (va_Pc [.ref q] (fun U => U.heap.size = H.size ∧ va_P G.1 classes [(q, .inr (ci, fs))] U.heap ∧ va_K G.1 classes (gty G) U ∧ va_D (fun _ => True) [(q, .inr (ci, fs))] ∧ xt G (va_A [(q, .inr (ci, fs))] H.size) U U.heap ∧ xn U)) (.ref q :: []) := by
    refine ⟨fun a U g mk z => ?_, fun U hU hW2 => ?_⟩
    · obtain ⟨z0, z1, zP, zK, zD, zX, zN⟩ := z
      exact ⟨z0, z1, zP, va_K.moved (u := U) (U := U.calling g mk a) (Vm.Alike.refl U.vm) zK, zD, xt.call g mk a zX, xn.call g mk a zN⟩
    · exact ⟨rfl, by rw [hU], by rw [hU]; exact hPc, va_K.moved hW2.alike hK, hDc, by rw [hU]; exact xt.warm hW2 ((hxt.kept hS.2.1).narrow hF), xn.warm hW2 hxn⟩
  have hini : (Cond.initialized Mc.1.cls).before args s = true := by rw [n8]; exact hts _ n6
  have fin : ∀ {mc ms : Nat}, mc = Mc.2.2.2.2.cells → ms = Mc.2.2.2.2.slots → va_Run p l e R s m args below meth c H locs (cells + 1) (slots + fs.length) mc ms (F0 m (pc + 3 + 1) ls (.ref q :: .ref q :: rest)) (.ref q :: rest) (QN G (Qc q) (va_A [(q, .inr (ci, fs))] H.size) (Value.ref q :: []).toArray) (va_A [(q, .inr (ci, fs))] H.size) → W p l e R s m args below meth c H locs (cells + 1) (slots + fs.length) Qw (F0 m (pc + 3 + 1) ls (.ref q :: .ref q :: rest)) := fun e1 e2 hrun => by
    subst e1; subst e2
    refine va_callN hrun hS hF (fun w1 H1 locs1 h1 h2 h3 h4 h5 => ?_)
    refine kk q w1 H1 locs1 h1 ⟨?_, hD.two hlt h3 hF, h5⟩
    have hP0 : va_P G.1 classes w H1 := fun k x hk => by
      have hkl := (List.getElem?_eq_some_iff.mp hk).1
      have hk2 : (w ++ [(q, (.inr (ci, fs) : va_E))])[k]? = some x := by rw [List.getElem?_append_left hkl]; exact hk
      refine (hP k x hk2).kept (h4 x.1 (hlt k x hk) (fun hz => ?_))
      rcases hz with ⟨j, e, hj⟩ | hge
      · have hj0 : j < 1 := (List.getElem?_eq_some_iff.mp hj).1
        rw [show j = 0 by omega] at hj
        cases hj
        have := hD.1 k w.length x (x.1, _) hk2 hq rfl
        omega
      · have := hlt k x hk
        omega
    exact hP0.app h2
  have hcat2 : ((.ref q :: rest : List Value).map fun v => v.category).sum ≤ 8 := hcat
  rcases hi with hl | hl
  · exact fin rfl rfl (va_runI (bytes := Mc.2.1) (maxL := Mc.2.2.1) (n := 0) (As := []) (rest := .ref q :: rest) (Ts := tb) (own := own) ⟨hx, hb, hml, hown, hts⟩ (met_JN (l := l) (hJ q) m4 m5 m6 H.size) ⟨callB_of 0 hts (ws_good m1) (by rw [m7]) rfl rfl hini (hts _ hl) m3 hR, m6, hts _ m2⟩ hpre rfl rfl hls rfl (lv_room hcat2) hd3 ⟨hcs.1, hcs.2⟩)
  · exact fin rfl rfl (va_runIN (bytes := Mc.2.1) (maxL := Mc.2.2.1) (n := 0) (As := []) (rest := .ref q :: rest) (Ts := tb) (own := own) (host := RX6) ⟨hx, hb, hml, hown, hts⟩ (met_JN (l := l) (hJ q) m4 m5 m6 H.size) ⟨va_cnB 0 hts (ws_good m1) (by rw [m7]) rfl rfl hl hini m3 hR, m6, hts _ m2⟩ hpre rfl rfl hls rfl (lv_room hcat2) hd3 ⟨hcs.1, hcs.2⟩)
end CN
