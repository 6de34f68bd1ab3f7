/-! rows of JN -/
def FF (own : String) (idx ci k : Nat) (ty : FieldType) : Prop := ∃ (C : String) (T : u_T) (N : Nat) (ty0 : Nat → FieldType), classes[ci]? = some (C, T, N) ∧ (∀ x ∈ u_ws C T N, x ∈ tb) ∧ k < N ∧ Cond.fieldLink own idx (T k).1 (T k).2.1 (T k).2.2.1 ∈ tb ∧ (∀ k, k < N → parseFieldDescriptor (T k).2.2.1 = some (ty0 k)) ∧ (∀ a, a < N → ∀ b, b < N → a ≠ b → (T a).2.1 ≠ (T b).2.1) ∧ (T k).2.2.2 = true ∧ (T k).1 = own ∧ parseFieldDescriptor (T k).2.2.1 = some ty
def rw6 (r : Nat → Nat) : Nat → Option Nat := fun i => if i < 6 then some (r i) else none
theorem rw6_ow {r ad : Nat → Nat} {b : Nat} (h : ∀ i, i < 6 → ad (b + i) = r i) : rw6 r = ow ad b := by
  funext i
  match i with
  | 0 => exact congrArg some (h 0 (by omega)).symm
  | 1 => exact congrArg some (h 1 (by omega)).symm
  | 2 => exact congrArg some (h 2 (by omega)).symm
  | 3 => exact congrArg some (h 3 (by omega)).symm
  | 4 => exact congrArg some (h 4 (by omega)).symm
  | 5 => exact congrArg some (h 5 (by omega)).symm
  | i + 6 =>
    simp only [rw6]
    rw [if_neg (by omega)]
    rfl
section NR
variable {G : GG} {M : Mt} {pc : Nat} {lo : List (Nat × Value)} {st : List Value} {w w' : va_W} {kc ns : Nat} {Q : va_W → Prop}
theorem n_aload_n (q : Nat) {k : Fin 4} {i : Nat} {x : Nat} (hd : decode M.2.1 pc = .ok (.aload_n k, 1)) (hi : (k : Nat) = i) (hq : lo[q]? = some (i, .ref x)) (k : JN G M (pc + 1) lo (.ref x :: st) w kc ns Q) : JN G M pc lo (st) w kc ns Q := fun p l e s m args below meth c A C X I H locs ls hl hW => lv_aload_n C.1 C.2.1 hd hi (lv_at hl q hq) (k p l e s m args below meth c A C X I H locs ls hl hW)
theorem n_bipush {n : Int} {v : Int32} (hd : decode M.2.1 pc = .ok (.bipush n, 2)) (hv : (Int8.ofInt n).toInt32 = v) (k : JN G M (pc + 2) lo (.int v :: st) w kc ns Q) : JN G M pc lo (st) w kc ns Q := fun p l e s m args below meth c A C X I H locs ls hl hW => lv_bipush C.1 C.2.1 hd hv (k p l e s m args below meth c A C X I H locs ls hl hW)
theorem n_sipush {n : Int} {v : Int32} (hd : decode M.2.1 pc = .ok (.sipush n, 3)) (hv : (Int16.ofInt n).toInt32 = v) (k : JN G M (pc + 3) lo (.int v :: st) w kc ns Q) : JN G M pc lo (st) w kc ns Q := fun p l e s m args below meth c A C X I H locs ls hl hW => lv_sipush C.1 C.2.1 hd hv (k p l e s m args below meth c A C X I H locs ls hl hW)
theorem n_iconst {n : Int} {v : Int32} (hd : decode M.2.1 pc = .ok (.iconst n, 1)) (hv : Int32.ofInt n = v) (k : JN G M (pc + 1) lo (.int v :: st) w kc ns Q) : JN G M pc lo (st) w kc ns Q := fun p l e s m args below meth c A C X I H locs ls hl hW => lv_iconst C.1 C.2.1 hd hv (k p l e s m args below meth c A C X I H locs ls hl hW)
theorem n_ldc {idx : Nat} {v : Int32} (h : Cond.constant M.1.cls idx v ∈ tb) (hd : decode M.2.1 pc = .ok (.ldc idx, 2)) (k : JN G M (pc + 2) lo (.int v :: st) w kc ns Q) : JN G M pc lo st w kc ns Q := fun p l e s m args below meth c A C X I H locs ls hl hW => lv_ldc C.1 C.2.1 C.2.2.2.2.1 (C.2.2.2.2.2.1 _ h) hd (k p l e s m args below meth c A C X I H locs ls hl hW)
theorem n_obj {idx a : Nat} (h1 : Cond.methodLink M.1.cls idx objectInit ∈ tb) (h2 : Cond.instanceMethod objectInit ∈ tb) (h3 : Cond.code objectInit ⟨#[0xb1]⟩ 1 none ∈ tb) (hd : decode M.2.1 pc = .ok (.invokespecial idx, 3)) (hf : 1 ≤ M.2.2.2.2.frames) (hlc : 12 ≤ M.2.2.2.2.locals) (k : JN G M (pc + 3) lo [] w kc ns Q) : JN G M pc lo [.ref a] w kc ns Q := fun p l e s m args below meth c A C X I H locs ls hl hW => W.objInit C.1 C.2.1 C.2.2.2.2.1 (C.2.2.2.2.2.1 _ h1) (C.2.2.2.2.2.1 _ h2) (C.2.2.2.2.2.1 _ h3) rfl (by rw [C.2.2.1]; exact hl.1) rfl hd hf hlc (k p l e s m args below meth c A C X I H locs ls hl hW)
theorem n_newa {x : Int32} {N : Nat} (h1 : Cond.arrayClass .int ∈ tb) (hd : decode M.2.1 pc = .ok (.newarray .int, 2)) (hx : ¬ x < 0) (hN : x.toNatClampNeg = N) (hb : N * 4 ≤ 536870912) (hc : kc + 1 ≤ M.2.2.2.2.cells) (hs : ns + N ≤ M.2.2.2.2.slots) (k : ∀ q, JN G M (pc + 2) lo (.ref q :: st) (w ++ [(q, arC G N (fun _ => 0))]) (kc + 1) (ns + N) Q) : JN G M pc lo (.int x :: st) w kc ns Q := fun p l e0 s m args below meth c A C X I H locs ls hl hW => by
  have hK := C.2.2.2.2.2.2.2.2.1
  refine va_newa (atype := .int) (a0 := (N, .inl (fun _ => 0))) C.1 C.2.1 (C.2.2.2.2.2.1 _ h1) rfl hK hW.1 hW.2.1 hW.2.2 C.2.2.2.2.2.2.2.1 (fun _ => rfl) hx hN hb hc hs hd (fun q cA H1 hK1 hP hD hS => ?_)
  have e : cA = G.2.1.1 := by
    have a1 := (hK1.2 2 (cA, .int) rfl).2
    have a2 := (hK.2 0 (G.2.1.1, .int) rfl).2
    exact Option.some.inj (a1.symm.trans a2)
  subst e
  exact k q p l e0 s m args below meth c A C X I H1 locs ls hl ⟨hP, hD, hS⟩
theorem n_putF (q : Nat) {ci k idx a : Nat} {fs : List Value} {v : Value} {ty : FieldType} (hF : FF M.1.cls idx ci k ty) (hd : decode M.2.1 pc = .ok (.putfield idx, 3)) (he : w[q]? = some (a, .inr (ci, fs))) (hn : narrow ty v = v) (hfit : fits ty v = true) (hl9 : k < fs.length) (hw : w.set q (a, .inr (ci, fs.set k v)) = w') (kk : JN G M (pc + 3) lo st w' kc ns Q) : JN G M pc lo (v :: .ref a :: st) w kc ns Q := by
  obtain ⟨Cn, T, N, ty0, h1, h2, h3, h4, h5, h6, h7, h8, h9⟩ := hF
  subst hw
  intro p l e s m args below meth c A C X I H locs ls hl hW
  exact va_putF (C := Cn) (T := T) (N := N) (ref := (T k).1) C.1 C.2.1 C.2.2.2.2.2.1 h2 ty0 h5 h6 C.2.2.2.2.1 C.2.2.2.2.2.2.2.2.1 hW.1 hW.2.1 hW.2.2 q he h1 k h3 (C.2.2.2.2.2.1 _ h4) (fun _ h => h) h7 I h8 h9 hn hfit hl9 hd (fun H1 locs1 hP hD hS => kk p l e s m args below meth c A C X I H1 locs1 ls hl ⟨hP, hD, hS⟩)
theorem n_put (q : Nat) {ci k idx a : Nat} {fs : List Value} {v : Value} {ty : FieldType} (hF : FP M.1.cls idx ci k ty) (hd : decode M.2.1 pc = .ok (.putfield idx, 3)) (he : w[q]? = some (a, .inr (ci, fs))) (hn : narrow ty v = v) (hfit : fits ty v = true) (hl9 : k < fs.length) (hw : w.set q (a, .inr (ci, fs.set k v)) = w') (kk : JN G M (pc + 3) lo st w' kc ns Q) : JN G M pc lo (v :: .ref a :: st) w kc ns Q := by
  obtain ⟨Cn, T, N, ty0, h1, h2, h3, h4, h5, h6, h7, h8⟩ := hF
  subst hw
  intro p l e s m args below meth c A C X I H locs ls hl hW
  exact va_put (C := Cn) (T := T) (N := N) (ref := (T k).1) C.1 C.2.1 C.2.2.2.2.2.1 h2 ty0 h5 h6 C.2.2.2.2.1 C.2.2.2.2.2.2.2.2.1 hW.1 hW.2.1 hW.2.2 q he h1 k h3 (C.2.2.2.2.2.1 _ h4) (fun _ h => h) h7 h8 hn hfit hl9 hd (fun H1 locs1 hP hD hS => kk p l e s m args below meth c A C X I H1 locs1 ls hl ⟨hP, hD, hS⟩)
theorem n_mna {idx K : Nat} {x y : Int32} (h1 : Cond.arrayClass .int ∈ tb) (h2 : Cond.classLink M.1.cls idx "[[I" ∈ tb) (hd : decode M.2.1 pc = .ok (.multianewarray idx 2, 4)) (hx : ¬ x < 0) (hN : x.toNatClampNeg = 6) (hy : ¬ y < 0) (hK9 : y.toNatClampNeg = K) (hb : K ≤ 1000) (hc : kc + 7 ≤ M.2.2.2.2.cells) (hs : ns + (6 + 6 * K) ≤ M.2.2.2.2.slots) (k : ∀ (q : Nat) (r : Nat → Nat), JN G M (pc + 4) lo (.ref q :: st) (w ++ [(q, .inl (G.2.1.2, 6, .inr (.inr (.inr (.inr (rw6 r)))))), (r 0, arC G K (fun _ => 0)), (r 1, arC G K (fun _ => 0)), (r 2, arC G K (fun _ => 0)), (r 3, arC G K (fun _ => 0)), (r 4, arC G K (fun _ => 0)), (r 5, arC G K (fun _ => 0))]) (kc + 7) (ns + 6 + 6 * K) Q) : JN G M pc lo (.int y :: .int x :: st) w kc ns Q := fun p l e0 s m args below meth c A C X I H locs ls hl hW => by
  have hK := C.2.2.2.2.2.2.2.2.1
  have hcI : s.vm.findClass (FieldType.array .int).toString = some G.2.1.1 := (hK.2 0 (G.2.1.1, .int) rfl).2
  have ep : w ++ va_pl [] (fun _ => (.inl (G.2.1.1, K, .inl (fun _ => 0)) : va_E)) = w := by simp [va_pl]
  refine va_mna (X := w) (L := []) (f := fun _ => (.inl (G.2.1.1, K, .inl (fun _ => 0)) : va_E)) (ty := .int) (cy := G.2.1.1) (z := (K, .inl (fun _ => 0))) (N' := 6) (K' := K) C.1 C.2.1 C.2.2.2.2.1 (C.2.2.2.2.2.1 _ h2) (over_moved (Vm.Alike.refl s.vm) X.2.2.2.2.2.2) (C.2.2.2.2.2.1 _ h1) hcI hK (by rw [ep]; exact hW.1) (by rw [ep]; exact hW.2.1) hW.2.2 C.2.2.2.2.2.2.2.1 hx hy hN hK9 (by decide) (by show K * 4 ≤ _; omega) (by omega) rfl rfl (by omega) (by omega) (fun c => ?_) hd (fun q r cA H1 hinj _ hK1 hP hD hS => ?_)
  · show ({ cls := c, slots := Array.replicate K (defaultValue .int), vm := .none } : Cell) = _
    rw [arrV_new]
    rfl
  · have e : cA = G.2.1.2 := by
      have a1 := (hK1.2 2 (cA, .array .int) rfl).2
      have a2 := (hK.2 1 (G.2.1.2, .array .int) rfl).2
      exact Option.some.inj (a1.symm.trans a2)
    subst e
    have ew : (w ++ [(q, (.inl (G.2.1.2, 6, .inr (.inr (.inr (.inr (fun i => if i < 6 then some (r i) else none))))) : va_E))]) ++ va_pl ([] ++ (List.range 6).map r) (vr_up (fun _ => (.inl (G.2.1.1, K, .inl (fun _ => 0)) : va_E)) ((List.range 6).map r) (.inl (G.2.1.1, (K, .inl (fun _ => 0))))) = w ++ [(q, .inl (G.2.1.2, 6, .inr (.inr (.inr (.inr (rw6 r)))))), (r 0, arC G K (fun _ => 0)), (r 1, arC G K (fun _ => 0)), (r 2, arC G K (fun _ => 0)), (r 3, arC G K (fun _ => 0)), (r 4, arC G K (fun _ => 0)), (r 5, arC G K (fun _ => 0))] := by
      have e2 : va_pl ([] ++ (List.range 6).map r) (vr_up (fun _ => (.inl (G.2.1.1, K, .inl (fun _ => 0)) : va_E)) ((List.range 6).map r) (.inl (G.2.1.1, (K, .inl (fun _ => 0))))) = ((List.range 6).map r).map (fun a => (a, (.inl (G.2.1.1, (K, .inl (fun _ => 0))) : va_E))) := by
        simp [va_pl, vr_up]
      rw [e2, List.append_assoc]
      rfl
    rw [ew] at hP hD
    have := k q r p l e0 s m args below meth c A C X I H1 locs ls hl ⟨hP, hD, hS⟩
    exact W.widen (by omega) (by omega) this
theorem n_new {Mc : Mt} {i1 i2 ci : Nat} {fs : List Value} {Qc : Nat → va_W → Prop} (hn : NC M.1.cls i1 ci Mc.1 fs) (hi : ∀ s, xn s → IL M.1.cls i2 Mc.1 s) (hM : Cond.code Mc.1 Mc.2.1 Mc.2.2.1 Mc.2.2.2.1 ∈ tb ∧ Cond.instanceMethod Mc.1 ∈ tb ∧ (Mc.1.cls ≠ "java/lang/invoke/MethodHandle" ∧ Mc.1.cls ≠ "java/lang/invoke/VarHandle" ∧ (parseMethodDescriptor Mc.1.desc).map (fun d => d.parameters.length) = some 0) ∧ Mc.2.2.1 = 1 ∧ plainName Mc.1.cls = true ∧ Mc.1.name = "<init>" ∧ Mc.2.2.2.1 = none)
    (hJ : ∀ q, JN G Mc 0 [(0, .ref q)] [] [(q, .inr (ci, fs))] 0 0 (Qc q)) (hR : Mc.2.2.2.2.frames + 1 ≤ M.2.2.2.2.frames ∧ 8 + (Mc.2.2.1 + 11) + Mc.2.2.2.2.locals ≤ M.2.2.2.2.locals) (hcs : kc + 1 + Mc.2.2.2.2.cells ≤ M.2.2.2.2.cells ∧ ns + fs.length + Mc.2.2.2.2.slots ≤ M.2.2.2.2.slots) (hcat : ((.ref 0 :: st).map fun v => v.category).sum ≤ 8) (hd1 : decode M.2.1 pc = .ok (.new i1, 3)) (hd2 : decode M.2.1 (pc + 3) = .ok (.dup, 1)) (hd3 : decode M.2.1 (pc + 4) = .ok (.invokespecial i2, 3))
    (kk : ∀ (q : Nat) (w1 : va_W), Qc q w1 → JN G M (pc + 7) lo (.ref q :: st) (w ++ w1) (kc + 1 + Mc.2.2.2.2.cells) (ns + fs.length + Mc.2.2.2.2.slots) Q) : JN G M pc lo st w kc ns Q := fun p l e s m args below meth c A C X I H locs ls hl hW =>
  w_newI C.1 C.2.1 C.2.2.1 C.2.2.2.2.1 C.2.2.2.2.2.1 C.2.2.2.2.2.2.2.1 C.2.2.2.2.2.2.2.2.1 C.2.2.2.2.2.2.2.2.2 X hl.1 hW hn (hi s X) hM hJ hR hcs hcat hd1 hd2 hd3 (fun q w1 H1 locs1 h1 h2 => kk q w1 h1 p l e s m args below meth c A C X I H1 locs1 ls hl h2)
theorem n_callV {Mc : Mt} {n idx b q0 ci : Nat} {fs : List Value} {q : vw_C} {wc : va_W} (hM : ML Mc n) (hV : VL M.1.cls idx Mc) (hd : decode M.2.1 pc = .ok (.invokevirtual idx, 3)) (ps : List (Option Nat)) (hC : Lay w wc ps) (hq0 : wc[q0]? = some (b, .inr (ci, fs))) (hci : classes[ci]? = some q) (hqc : q.1 = Mc.1.cls) (hlen : (lg_sl [.ref b]).length ≤ Mc.2.2.1) (hR : Mc.2.2.2.2.frames + 1 ≤ M.2.2.2.2.frames ∧ 8 + (Mc.2.2.1 + 11) + Mc.2.2.2.2.locals ≤ M.2.2.2.2.locals) (hcs : kc ≤ M.2.2.2.2.cells ∧ ns ≤ M.2.2.2.2.slots) (hn : 0 = n) (hcat : (st.map fun v => v.category).sum ≤ 8)
    (hJ : J G Mc 0 (lv_args 0 [.ref b]) [] wc (fun v w1 => v = none ∧ JN G M (pc + 3) lo st (mrg w w1 ps) kc ns Q)) : JN G M pc lo (.ref b :: st) w kc ns Q := fun p l e s m args below meth c A C X I H locs ls hl hW =>
  w_callV (As := []) C.1 C.2.1 C.2.2.1 C.2.2.2.2.1 C.2.2.2.2.2.1 C.2.2.2.2.2.2.2.1 C.2.2.2.2.2.2.2.2.1 C.2.2.2.2.2.2.2.2.2 hl.1 hW hM hV ps hC hq0 hci hqc hJ hlen hR hcs hn rfl hcat hd (fun v w1 H1 locs1 h1 _ _ h4 => by
    obtain ⟨rfl, h1⟩ := h1
    exact h1 p l e s m args below meth c A C X I H1 locs1 ls hl h4)
theorem n_ret (hd : decode M.2.1 pc = .ok (.return_, 1)) (hr : M.2.2.2.1 = none) (hc : kc ≤ M.2.2.2.2.cells ∧ ns ≤ M.2.2.2.2.slots) (h : Q w) : JN G M pc lo [] w kc ns Q := fun p l e s m args below meth c A C X I H locs ls hl hW => W.widen hc.1 hc.2 (W.vret C.1 C.2.1 (by rw [C.2.2.2.1]; exact hr) (fun t ht _ => ⟨⟨rfl, w, h, by rw [ht]; exact hW.1, hW.2.1⟩, hW.2.2.F ht⟩) (fun q hq => hW.2.2.2.2 q hq) hd C.2.2.2.2.2.2.1)
end NR
theorem n_sub {G : GG} {M : Mt} {pc : Nat} {lo : List (Nat × Value)} {st : List Value} {w w' : va_W} {kc ns : Nat} {Q : va_W → Prop} (is : List Nat) (h : is.map (fun i => w[i]?) = w'.map some) (h2 : is.filterMap (fun i => w[i]?) = w') (hn : va_nd is = true) (k : JN G M pc lo st w' kc ns Q) : JN G M pc lo st w kc ns Q := fun p l e s m args below meth c A C X I H locs ls hl hW => k p l e s m args below meth c A C X I H locs ls hl ⟨hW.1.sub is h2, hW.2.1.sub is hn h, hW.2.2⟩
