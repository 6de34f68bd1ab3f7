/-! THE JUDGEMENT J: a method's code from a pc on, in a world of cells, comes to a return with Q. All that is of the machine is inside. -/
def tb : List Cond := lw_tbl.filter goodWord
theorem tb_in {w : Cond} (i : Nat) (h : lw_tbl[i]? = some w) (g : goodWord w = true) : w ∈ tb := List.mem_filter.mpr ⟨List.mem_of_getElem? h, g⟩
theorem tb_good : GoodIn tb tb := fun w h => ⟨h, good_of_word (List.mem_filter.mp h).2⟩
abbrev Mt : Type := MethodName × ByteArray × Nat × Option FieldType × Room
abbrev GG : Type := va_G × (ClassId × ClassId) × (Nat → Nat) × (Nat → Nat)
abbrev classes : List vw_C := [(RX0, TX0, 3), (RX1, TX1, 2), (RX2, TX2, 2), (RX3, TX3, 3), (RX4, TX4, 8), (RX5, TX5, 3), (RX6, TX6, 12), (RX7, TX7, 30)]
def gty (G : GG) : List (ClassId × FieldType) := [(G.2.1.1, .int), (G.2.1.2, .array .int)]
def xt (G : GG) (A : Nat → Prop) (U : State) (H : Heap) : Prop :=
  va_Z "java/lang/String" "COMPACT_STRINGS" "Z" (.int 1) A U H ∧ vk_S 1 [5] [[103, 98, 115, 116, 100]] G.2.2.1 G.2.2.2 A U H ∧ vk_R RX2 30 "gbstd" (G.2.2.1 0) U ∧ va_Nw (.methodLinkNest RX2 44 yX6_isLetter RX6) U
theorem xt.warm {G : GG} {A : Nat → Prop} {s U : State} {H : Heap} (hW : s.WarmedH U.vm) (h : xt G A s H) : xt G A U H :=
  ⟨va_Z.moved hW.alike h.1, vk_S.moved hW.alike h.2.1, vk_R.warm hW h.2.2.1, va_Nw.warmM hW h.2.2.2⟩
theorem xt.call {G : GG} {A : Nat → Prop} {U : State} {H : Heap} (g : JFrame) (mk : MethodId) (a : Array Value) (h : xt G A U H) : xt G A (U.calling g mk a) H :=
  ⟨va_Z.moved (u := U) (U := U.calling g mk a) (Vm.Alike.refl U.vm) h.1, vk_S.moved (u := U) (U := U.calling g mk a) (Vm.Alike.refl U.vm) h.2.1, vk_R.same (u := U) (U := U.calling g mk a) rfl h.2.2.1, va_Nw.same (u := U) (U := U.calling g mk a) rfl rfl h.2.2.2⟩
theorem xt.kept {G : GG} {A : Nat → Prop} {U : State} {H H1 : Heap} (h : xt G A U H) (hq : ∀ a : Nat, a < H.size → ¬ A a → H1[a]? = H[a]?) : xt G A U H1 :=
  ⟨h.1.kept hq, h.2.1.kept hq, h.2.2.1, h.2.2.2⟩
theorem xt.narrow {G : GG} {A B : Nat → Prop} {U : State} {H : Heap} (h : xt G A U H) (hAB : ∀ q, B q → A q) : xt G B U H :=
  ⟨h.1.narrow hAB, h.2.1.narrow hAB, h.2.2.1, h.2.2.2⟩
def Cx (G : GG) (M : Mt) (p : Program) (s : State) (m : MethodId) (args : Array Value) (meth : Method) (c : Code) (A : Nat → Prop) : Prop :=
  p.tables.exec = Jvm.exec ∧ c.code = M.2.1 ∧ c.maxLocals = M.2.2.1 ∧ meth.sig.returnType = M.2.2.2.1 ∧ s.vm.findClass M.1.cls = some m.cls ∧ (∀ w ∈ tb, w.before args s = true) ∧ meth.locks = false ∧ (∀ q, s.heap.size ≤ q → A q) ∧ va_K G.1 classes (gty G) s ∧ xt G A s s.heap
def Wo (G : GG) (A : Nat → Prop) (s : State) (w : va_W) (H : Heap) (locs : List Loc) : Prop := va_P G.1 classes w H ∧ va_D A w ∧ va_S A s.heap H locs
def QJ (G : GG) (L : List Nat) (Q : Option Value → va_W → Prop) (A : Nat → Prop) : Array Value → State → Outcome → State → Prop := fun _ st oc t => (∃ (v : Option Value) (w' : va_W), oc = .returned v ∧ Q v w' ∧ w'.map Prod.fst = L ∧ va_P G.1 classes w' t.heap) ∧ va_F A st t
def J (G : GG) (M : Mt) (pc : Nat) (lo : List (Nat × Value)) (st : List Value) (w : va_W) (Q : Option Value → va_W → Prop) : Prop :=
  ∀ (p : Program) (l : Launch) (e : Env) (s : State) (m : MethodId) (args : Array Value) (below : List Frame) (meth : Method) (c : Code) (A : Nat → Prop), Cx G M p s m args meth c A → ∀ (H : Heap) (locs : List Loc) (ls : Array Slot), lv_has ls M.2.2.1 lo → Wo G A s w H locs → W p l e M.2.2.2.2 s m args below meth c H locs 0 0 (MQ below (QJ G (w.map Prod.fst) Q A) args s 0 0 A) (F0 m pc ls st)
theorem va_D.same {A : Nat → Prop} {w w' : va_W} (h : w'.map Prod.fst = w.map Prod.fst) (hD : va_D A w) : va_D A w' := by
  have key : ∀ (k : Nat) (q : Nat × va_E), w'[k]? = some q → ∃ q0, w[k]? = some q0 ∧ q0.1 = q.1 := by
    intro k q hk
    have h1 : (w'.map Prod.fst)[k]? = some q.1 := by rw [List.getElem?_map, hk]; rfl
    rw [h, List.getElem?_map] at h1
    cases hw : w[k]? with
    | none => rw [hw] at h1; cases h1
    | some q0 => rw [hw] at h1; exact ⟨q0, rfl, Option.some.inj h1⟩
  refine ⟨fun i j x y hi hj hxy => ?_, fun k q hk => ?_⟩
  · obtain ⟨x0, h1, h2⟩ := key i x hi
    obtain ⟨y0, h3, h4⟩ := key j y hj
    exact hD.1 i j x0 y0 h1 h3 (h2.trans (hxy.trans h4.symm))
  · obtain ⟨q0, h1, h2⟩ := key k q hk
    rw [← h2]
    exact hD.2 k q0 h1
theorem fst_set {w : va_W} {q a : Nat} {e0 e : va_E} (h : w[q]? = some (a, e0)) : (w.set q (a, e)).map Prod.fst = w.map Prod.fst := by
  apply List.ext_getElem?
  intro i
  rw [List.getElem?_map, List.getElem?_map]
  by_cases hi : q = i
  · subst hi
    have hl := (List.getElem?_eq_some_iff.mp h).1
    rw [List.getElem?_set_self hl, h]
    rfl
  · rw [List.getElem?_set_ne hi]
def putW : va_W → List Nat → va_W → va_W
  | w, i :: is, x :: xs => putW (w.set i x) is xs
  | w, _, _ => w
theorem putW_cases : ∀ (is : List Nat) (w xs : va_W) (k : Nat) (q : Nat × va_E), is.length = xs.length → (putW w is xs)[k]? = some q → (∃ j : Nat, is[j]? = some k ∧ xs[j]? = some q) ∨ (k ∉ is ∧ w[k]? = some q)
  | [], w, xs, k, q, hl, h => by
    cases xs with
    | nil => exact Or.inr ⟨List.not_mem_nil, h⟩
    | cons x xs => exact Or.inr ⟨List.not_mem_nil, h⟩
  | i :: is, w, [], k, q, hl, h => by simp at hl
  | i :: is, w, x :: xs, k, q, hl, h => by
    rcases putW_cases is (w.set i x) xs k q (by simpa using hl) h with ⟨j, h1, h2⟩ | ⟨h1, h2⟩
    · exact Or.inl ⟨j + 1, by simpa using h1, by simpa using h2⟩
    · by_cases hik : i = k
      · subst hik
        have hlt : i < w.length := by
          have := (List.getElem?_eq_some_iff.mp h2).1
          simpa using this
        rw [List.getElem?_set_self hlt] at h2
        exact Or.inl ⟨0, rfl, h2⟩
      · rw [List.getElem?_set_ne hik] at h2
        exact Or.inr ⟨by simp only [List.mem_cons, not_or]; exact ⟨fun e => hik e.symm, h1⟩, h2⟩
theorem putW_fst : ∀ (is : List Nat) (w xs : va_W), is.map (fun i => (w[i]?).map Prod.fst) = xs.map (fun x => some x.1) → (putW w is xs).map Prod.fst = w.map Prod.fst
  | [], w, xs, h => by cases xs <;> rfl
  | i :: is, w, [], h => by simp at h
  | i :: is, w, x :: xs, h => by
    simp only [List.map_cons, List.cons.injEq] at h
    obtain ⟨h1, h2⟩ := h
    have hs : (w.set i x).map Prod.fst = w.map Prod.fst := by
      cases hw : w[i]? with
      | none => rw [hw] at h1; cases h1
      | some y =>
        rw [hw] at h1
        have e : y.1 = x.1 := Option.some.inj h1
        obtain ⟨y1, y2⟩ := y
        obtain ⟨x1, x2⟩ := x
        dsimp only at e
        subst e
        exact fst_set hw
    show (putW (w.set i x) is xs).map Prod.fst = _
    rw [putW_fst is (w.set i x) xs ?_, hs]
    rw [← h2]
    apply List.map_congr_left
    intro j _
    rw [← List.getElem?_map, ← List.getElem?_map, hs]
/-- behind a call: the caller's world, with the callee's cells put anew -/
theorem putW_join {A0 : Nat → Prop} {D : va_G} {cl : List vw_C} {w wc w1 : va_W} {H H1 : Heap} (hP : va_P D cl w H) (hD : va_D A0 w) (isC : List Nat) (hC : isC.map (fun i => w[i]?) = wc.map some)
    (hk : ∀ q : Nat, q < H.size → ¬ va_A wc H.size q → H1[q]? = H[q]?) (hP1 : va_P D cl w1 H1) (h1 : w1.map Prod.fst = wc.map Prod.fst) : va_P D cl (putW w isC w1) H1 ∧ (putW w isC w1).map Prod.fst = w.map Prod.fst := by
  have hlen : isC.length = w1.length := by
    have e1 := congrArg List.length hC
    have e2 := congrArg List.length h1
    simp only [List.length_map] at e1 e2
    omega
  refine ⟨fun k q hq => ?_, putW_fst isC w w1 ?_⟩
  · rcases putW_cases isC w w1 k q hlen hq with ⟨j, h2, h3⟩ | ⟨h2, h3⟩
    · exact hP1 j q h3
    · have hl := (hP k q h3).lt
      refine (hP k q h3).kept (hk q.1 hl (fun ha => ?_))
      rcases ha with ⟨j, e, h⟩ | h
      · have h4 : (isC.map (fun i => w[i]?))[j]? = some (some (q.1, e)) := by rw [hC, List.getElem?_map, h]; rfl
        rw [List.getElem?_map] at h4
        cases hi : isC[j]? with
        | none => rw [hi] at h4; cases h4
        | some i =>
          rw [hi] at h4
          have h5 : w[i]? = some (q.1, e) := Option.some.inj h4
          have h6 := hD.1 k i q (q.1, e) h3 h5 rfl
          subst h6
          exact h2 (List.mem_of_getElem? hi)
      · omega
  · have h2 : w1.map (fun x => some x.1) = wc.map (fun x => some x.1) := by
      have := congrArg (List.map some) h1
      simpa [List.map_map, Function.comp_def] using this
    rw [h2]
    have h3 := congrArg (List.map (Option.map Prod.fst)) hC
    simpa [List.map_map, Function.comp_def] using h3
/-- a method's contract out of J -/
theorem met_J {l : Launch} {G : GG} {M : Mt} {av : List Value} {wc : va_W} {Q : Option Value → va_W → Prop} (hJ : J G M 0 (lv_args 0 av) [] wc Q) (hlen : (lg_sl av).length ≤ M.2.2.1) (hy : plainName M.1.cls = true) (sz : Nat) :
    Met l M.1 (.code M.1 M.2.1 M.2.2.1 M.2.2.2.1 :: tb) M.2.2.2.2 (va_Pc av (fun U => U.heap.size = sz ∧ va_P G.1 classes wc U.heap ∧ va_K G.1 classes (gty G) U ∧ va_D (fun _ => True) wc ∧ xt G (va_A wc sz) U U.heap)) (QJ G (wc.map Prod.fst) Q (va_A wc sz)) 0 0 (va_A wc sz) := by
  refine Met.ofW (cc := M.2.1) (maxL := M.2.2.1) (ret := M.2.2.2.1) hy rfl ?_
  intro p e s m args below meth c s₁ B hml hv
  obtain ⟨rfl, hsz, hP, hK, hD0, hx⟩ := hv
  subst hsz
  rw [lg_entry_eq]
  have hts := atoms_spec (ws := Cond.code M.1 M.2.1 M.2.2.1 M.2.2.2.1 :: tb) B.pre
  exact hJ p l e s m _ below meth c (va_A wc s.heap.size) ⟨B.exec, B.bytes, hml, B.returns, findClass_of_methodNamed B.named, fun w hw => hts w (List.mem_cons_of_mem _ hw), B.notSynchronized, fun q h => Or.inr h, hK, hx⟩ s.heap [] _ (lv_entry av hlen) ⟨hP, hD0.self, va_S.rf⟩
section CJ
variable {p : Program} {l : Launch} {e : Env} {R : Room} {s : State} {m : MethodId} {args : Array Value} {below : List Frame} {meth : Method} {c : Code} {H : Heap} {locs : List Loc} {cells slots : Nat} {Qw : State → Prop}
theorem va_callJ {G : GG} {L : List Nat} {Q : Option Value → va_W → Prop} {A0 A1 : Nat → Prop} {a : Array Value} {pc : Nat} {ls : Array Slot} {rest st0 : List Value} {H0 : Heap} (hr : va_Run p l e R s m args below meth c H locs cells slots 0 0 (F0 m pc ls st0) rest (QJ G L Q A1 a) A1) (hS : va_S A0 H0 H locs) (hA : ∀ q, A1 q → A0 q)
    (kk : ∀ (v : Option Value) (w1 : va_W) (H1 : Heap) (locs1 : List Loc), Q v w1 → w1.map Prod.fst = L → va_P G.1 classes w1 H1 → (∀ q : Nat, q < H.size → ¬ A1 q → H1[q]? = H[q]?) → va_S A0 H0 H1 locs1 → W p l e R s m args below meth c H1 locs1 cells slots Qw (F0 m (pc + 3) ls (v.toList ++ rest))) : W p l e R s m args below meth c H locs cells slots Qw (F0 m pc ls st0) := by
  intro T hT X
  obtain ⟨v, st₀, t, T', L1, h0, X', hL, e1, e2, ⟨⟨v2, w1, hv, hq, hf, hp⟩, hz, hk⟩, st⟩ := hr T hT X
  cases hv
  rw [h0] at hz hk
  obtain ⟨t2, a1, b1⟩ := kk v w1 T'.heap (locs ++ L1) hq hf (by rw [e1]; exact hp) (fun q h1 h2 => by rw [e1]; exact hk q h1 h2)
    ⟨Nat.le_trans hS.1 (by rw [e1]; exact hz), fun q h1 h2 => by rw [e1, hk q (Nat.lt_of_lt_of_le h1 hS.1) (fun z => h2 (hA q z))]; exact hS.2.1 q h1 h2, fun q hq => by
      rcases List.mem_append.mp hq with h | h
      · exact hS.2.2 q h
      · exact hA _ (hL q h)⟩ T' rfl X'
  exact ⟨t2, st t2 a1, b1⟩
end CJ
/-- a callee, by its words among the tables' -/
def ML (Mc : Mt) (n : Nat) : Prop := Cond.initialized Mc.1.cls ∈ tb ∧ Cond.code Mc.1 Mc.2.1 Mc.2.2.1 Mc.2.2.2.1 ∈ tb ∧ (Mc.1.cls ≠ "java/lang/invoke/MethodHandle" ∧ Mc.1.cls ≠ "java/lang/invoke/VarHandle" ∧ (parseMethodDescriptor Mc.1.desc).map (fun d => d.parameters.length) = some n) ∧ Mc.2.2.2.2.cells = 0 ∧ Mc.2.2.2.2.slots = 0 ∧ plainName Mc.1.cls = true
def VL (own : String) (idx : Nat) (Mc : Mt) : Prop := Cond.methodLink own idx Mc.1 ∈ tb ∧ Cond.instanceMethod Mc.1 ∈ tb ∧ Cond.selects Mc.1.cls Mc.1 Mc.1 ∈ tb
def SL (own : String) (idx : Nat) (Mc : Mt) : Prop := Cond.methodLink own idx Mc.1 ∈ tb ∧ Cond.static Mc.1 ∈ tb
theorem ws_good {y : MethodName} {b : ByteArray} {n : Nat} {r : Option FieldType} (h : Cond.code y b n r ∈ tb) : GoodIn tb (.code y b n r :: tb) := fun w hw => (List.mem_cons.mp hw).elim (fun e => by rw [e]; exact tb_good _ h) (fun h2 => tb_good _ h2)
section CJ2
variable {p : Program} {l : Launch} {e : Env} {R : Room} {s : State} {m : MethodId} {args : Array Value} {below : List Frame} {meth : Method} {c : Code} {H : Heap} {locs : List Loc} {cells slots : Nat} {Qw : State → Prop}
variable {G : GG} {Mc : Mt} {cc : ByteArray} {nL pc idx n : Nat} {own : String} {A : Nat → Prop} {w wc : va_W} {Qc : Option Value → va_W → Prop} {ls : Array Slot} {As rest st0 : List Value}
/-- an invokevirtual, in any body -/
theorem w_callV (hx : p.tables.exec = Jvm.exec) (hb : c.code = cc) (hml : c.maxLocals = nL) (hown : s.vm.findClass own = some m.cls) (hts : ∀ w ∈ tb, w.before args s = true) (hA : ∀ q, s.heap.size ≤ q → A q) (hK : va_K G.1 classes (gty G) s) (hxt : xt G A s s.heap) (hls : ls.size = nL) (hW : Wo G A s w H locs)
    (hM : ML Mc n) (hV : VL own idx Mc) (isC : List Nat) (hnd : va_nd isC = true) (hC : isC.map (fun i => w[i]?) = wc.map some) {b q0 ci : Nat} {fs : List Value} {q : vw_C} (hq0 : wc[q0]? = some (b, .inr (ci, fs))) (hci : classes[ci]? = some q) (hqc : q.1 = Mc.1.cls)
    (hJ : J G Mc 0 (lv_args 0 (.ref b :: As)) [] wc Qc) (hlen : (lg_sl (.ref b :: As)).length ≤ Mc.2.2.1) (hR : Mc.2.2.2.2.frames + 1 ≤ R.frames ∧ 8 + (Mc.2.2.1 + 11) + Mc.2.2.2.2.locals ≤ R.locals) (hcs : cells ≤ R.cells ∧ slots ≤ R.slots) (hn : As.length = n) (hst : st0 = As.reverse ++ .ref b :: rest) (hcat : (rest.map fun v => v.category).sum ≤ 8) (hd : decode cc pc = .ok (.invokevirtual idx, 3))
    (kk : ∀ (v : Option Value) (w1 : va_W) (H1 : Heap) (locs1 : List Loc), Qc v w1 → w1.map Prod.fst = wc.map Prod.fst → (putW w isC w1).map Prod.fst = w.map Prod.fst → Wo G A s (putW w isC w1) H1 locs1 → W p l e R s m args below meth c H1 locs1 cells slots Qw (F0 m (pc + 3) ls (v.toList ++ rest))) : W p l e R s m args below meth c H locs cells slots Qw (F0 m pc ls st0) := by
  obtain ⟨hP, hD, hS⟩ := hW
  have hPc : va_P G.1 classes wc H := by
    intro k x hk
    have h4 : (isC.map (fun i => w[i]?))[k]? = some (some x) := by rw [hC, List.getElem?_map, hk]; rfl
    rw [List.getElem?_map] at h4
    cases hi : isC[k]? with
    | none => rw [hi] at h4; cases h4
    | some i => rw [hi] at h4; exact hP i x (Option.some.inj h4)
  have hF : ∀ q, va_A wc H.size q → A q := va_free hD hS hA isC hC
  have hDc : va_D (fun _ => True) wc := (hD.sub isC hnd hC).weaken (fun _ _ _ _ => trivial)
  subst hst
  have cw : CallW R s args own Mc.1.cls idx Mc.1 Mc.2.1 Mc.2.2.1 Mc.2.2.2.1 (.code Mc.1 Mc.2.1 Mc.2.2.1 Mc.2.2.2.1 :: tb) Mc.2.2.2.2 0 0 n :=
    ⟨callB_of n hts (ws_good hM.2.1) rfl hM.2.2.2.1 hM.2.2.2.2.1 (hts _ hM.1) (hts _ hV.1) hM.2.2.1 hR, hts _ hV.2.1, hts _ hV.2.2⟩
  have hrecv := va_recv hK hPc hci hq0
  rw [hqc] at hrecv
  refine va_callJ (va_runV (As := As) (rest := rest) (Ts := tb) (own := own) ⟨hx, hb, hml, hown, hts⟩ (met_J (l := l) hJ hlen hM.2.2.2.2.2 H.size) cw ⟨fun a U g mk q => ?_, hrecv, fun U hU hW2 => ?_⟩ rfl hn hls rfl (lv_room hcat) hd ⟨hcs.1, hcs.2⟩) hS hF (fun v w1 H1 locs1 h1 h2 h3 h4 h5 => ?_)
  · obtain ⟨q0, q1, qP, qK, qD, qX⟩ := q
    exact ⟨q0, q1, qP, va_K.moved (u := U) (U := U.calling g mk a) (Vm.Alike.refl U.vm) qK, qD, xt.call g mk a qX⟩
  · exact ⟨rfl, by rw [hU], by rw [hU]; exact hPc, va_K.moved hW2.alike hK, hDc, by rw [hU]; exact xt.warm hW2 ((hxt.kept hS.2.1).narrow hF)⟩
  · obtain ⟨h6, h7⟩ := putW_join hP hD isC hC h4 h3 h2
    exact kk v w1 H1 locs1 h1 h2 h7 ⟨h6, hD.same h7, h5⟩
end CJ2
section CJ3
variable {p : Program} {l : Launch} {e : Env} {R : Room} {s : State} {m : MethodId} {args : Array Value} {below : List Frame} {meth : Method} {c : Code} {H : Heap} {locs : List Loc} {cells slots : Nat} {Qw : State → Prop}
variable {G : GG} {Mc : Mt} {cc : ByteArray} {nL pc idx n : Nat} {own : String} {A : Nat → Prop} {w wc : va_W} {Qc : Option Value → va_W → Prop} {ls : Array Slot} {As rest st0 : List Value}
theorem sub_P {isC : List Nat} (hC : isC.map (fun i => w[i]?) = wc.map some) (hP : va_P G.1 classes w H) : va_P G.1 classes wc H := by
  intro k x hk
  have h4 : (isC.map (fun i => w[i]?))[k]? = some (some x) := by rw [hC, List.getElem?_map, hk]; rfl
  rw [List.getElem?_map] at h4
  cases hi : isC[k]? with
  | none => rw [hi] at h4; cases h4
  | some i => rw [hi] at h4; exact hP i x (Option.some.inj h4)
theorem preS_J (hA : ∀ q, s.heap.size ≤ q → A q) (hK : va_K G.1 classes (gty G) s) (hxt : xt G A s s.heap) (hW : Wo G A s w H locs) (isC : List Nat) (hnd : va_nd isC = true) (hC : isC.map (fun i => w[i]?) = wc.map some) (av : List Value) :
    PreS s H (va_Pc av (fun U => U.heap.size = H.size ∧ va_P G.1 classes wc U.heap ∧ va_K G.1 classes (gty G) U ∧ va_D (fun _ => True) wc ∧ xt G (va_A wc H.size) U U.heap)) av := by
  obtain ⟨hP, hD, hS⟩ := hW
  have hF : ∀ q, va_A wc H.size q → A q := va_free hD hS hA isC hC
  refine ⟨fun a U g mk q => ?_, fun U hU hW2 => ?_⟩
  · obtain ⟨q0, q1, qP, qK, qD, qX⟩ := q
    exact ⟨q0, q1, qP, va_K.moved (u := U) (U := U.calling g mk a) (Vm.Alike.refl U.vm) qK, qD, xt.call g mk a qX⟩
  · exact ⟨rfl, by rw [hU], by rw [hU]; exact sub_P hC hP, va_K.moved hW2.alike hK, (hD.sub isC hnd hC).weaken (fun _ _ _ _ => trivial), by rw [hU]; exact xt.warm hW2 ((hxt.kept hS.2.1).narrow hF)⟩
theorem w_callS (hx : p.tables.exec = Jvm.exec) (hb : c.code = cc) (hml : c.maxLocals = nL) (hown : s.vm.findClass own = some m.cls) (hts : ∀ w ∈ tb, w.before args s = true) (hA : ∀ q, s.heap.size ≤ q → A q) (hK : va_K G.1 classes (gty G) s) (hxt : xt G A s s.heap) (hls : ls.size = nL) (hW : Wo G A s w H locs)
    (hM : ML Mc n) (hV : SL own idx Mc) (isC : List Nat) (hnd : va_nd isC = true) (hC : isC.map (fun i => w[i]?) = wc.map some)
    (hJ : J G Mc 0 (lv_args 0 As) [] wc Qc) (hlen : (lg_sl As).length ≤ Mc.2.2.1) (hR : Mc.2.2.2.2.frames + 1 ≤ R.frames ∧ 8 + (Mc.2.2.1 + 11) + Mc.2.2.2.2.locals ≤ R.locals) (hcs : cells ≤ R.cells ∧ slots ≤ R.slots) (hn : As.length = n) (hst : st0 = As.reverse ++ rest) (hcat : (rest.map fun v => v.category).sum ≤ 8) (hd : decode cc pc = .ok (.invokestatic idx, 3))
    (kk : ∀ (v : Option Value) (w1 : va_W) (H1 : Heap) (locs1 : List Loc), Qc v w1 → w1.map Prod.fst = wc.map Prod.fst → (putW w isC w1).map Prod.fst = w.map Prod.fst → Wo G A s (putW w isC w1) H1 locs1 → W p l e R s m args below meth c H1 locs1 cells slots Qw (F0 m (pc + 3) ls (v.toList ++ rest))) : W p l e R s m args below meth c H locs cells slots Qw (F0 m pc ls st0) := by
  have hW0 := hW
  obtain ⟨hP, hD, hS⟩ := hW
  have hF : ∀ q, va_A wc H.size q → A q := va_free hD hS hA isC hC
  subst hst
  have cw : CallB R s args own idx Mc.1 Mc.2.1 Mc.2.2.1 Mc.2.2.2.1 (.code Mc.1 Mc.2.1 Mc.2.2.1 Mc.2.2.2.1 :: tb) Mc.2.2.2.2 0 0 n ∧ (Cond.static Mc.1).before args s = true :=
    ⟨callB_of n hts (ws_good hM.2.1) rfl hM.2.2.2.1 hM.2.2.2.2.1 (hts _ hM.1) (hts _ hV.1) hM.2.2.1 hR, hts _ hV.2⟩
  refine va_callJ (va_runS (As := As) (rest := rest) (Ts := tb) (own := own) ⟨hx, hb, hml, hown, hts⟩ (met_J (l := l) hJ hlen hM.2.2.2.2.2 H.size) cw (preS_J hA hK hxt hW0 isC hnd hC As) rfl hn hls rfl (lv_room hcat) hd ⟨hcs.1, hcs.2⟩) hS hF (fun v w1 H1 locs1 h1 h2 h3 h4 h5 => ?_)
  obtain ⟨h6, h7⟩ := putW_join hP hD isC hC h4 h3 h2
  exact kk v w1 H1 locs1 h1 h2 h7 ⟨h6, hD.same h7, h5⟩
/-- an invokestatic of a nest mate's private method -/
theorem w_callSN {host : String} (hx : p.tables.exec = Jvm.exec) (hb : c.code = cc) (hml : c.maxLocals = nL) (hown : s.vm.findClass own = some m.cls) (hts : ∀ w ∈ tb, w.before args s = true) (hA : ∀ q, s.heap.size ≤ q → A q) (hK : va_K G.1 classes (gty G) s) (hxt : xt G A s s.heap) (hls : ls.size = nL) (hW : Wo G A s w H locs)
    (hM : ML Mc n) (hV : va_Nw (.methodLinkNest own idx Mc.1 host) s) (hV2 : Cond.static Mc.1 ∈ tb) (isC : List Nat) (hnd : va_nd isC = true) (hC : isC.map (fun i => w[i]?) = wc.map some)
    (hJ : J G Mc 0 (lv_args 0 As) [] wc Qc) (hlen : (lg_sl As).length ≤ Mc.2.2.1) (hR : Mc.2.2.2.2.frames + 1 ≤ R.frames ∧ 8 + (Mc.2.2.1 + 11) + Mc.2.2.2.2.locals ≤ R.locals) (hcs : cells ≤ R.cells ∧ slots ≤ R.slots) (hn : As.length = n) (hst : st0 = As.reverse ++ rest) (hcat : (rest.map fun v => v.category).sum ≤ 8) (hd : decode cc pc = .ok (.invokestatic idx, 3))
    (kk : ∀ (v : Option Value) (w1 : va_W) (H1 : Heap) (locs1 : List Loc), Qc v w1 → w1.map Prod.fst = wc.map Prod.fst → (putW w isC w1).map Prod.fst = w.map Prod.fst → Wo G A s (putW w isC w1) H1 locs1 → W p l e R s m args below meth c H1 locs1 cells slots Qw (F0 m (pc + 3) ls (v.toList ++ rest))) : W p l e R s m args below meth c H locs cells slots Qw (F0 m pc ls st0) := by
  have hW0 := hW
  obtain ⟨hP, hD, hS⟩ := hW
  have hF : ∀ q, va_A wc H.size q → A q := va_free hD hS hA isC hC
  subst hst
  have cw : va_CN R s args own idx Mc.1 host Mc.2.1 Mc.2.2.1 Mc.2.2.2.1 (.code Mc.1 Mc.2.1 Mc.2.2.1 Mc.2.2.2.1 :: tb) Mc.2.2.2.2 0 0 n ∧ (Cond.static Mc.1).before args s = true ∧ True :=
    ⟨va_cnB n hts (ws_good hM.2.1) rfl hM.2.2.2.1 hM.2.2.2.2.1 hV (hts _ hM.1) hM.2.2.1 hR, hts _ hV2, trivial⟩
  refine va_callJ (va_runSN (As := As) (rest := rest) (Ts := tb) (own := own) ⟨hx, hb, hml, hown, hts⟩ (met_J (l := l) hJ hlen hM.2.2.2.2.2 H.size) cw (preS_J hA hK hxt hW0 isC hnd hC As) rfl hn hls rfl (lv_room hcat) hd ⟨hcs.1, hcs.2⟩) hS hF (fun v w1 H1 locs1 h1 h2 h3 h4 h5 => ?_)
  obtain ⟨h6, h7⟩ := putW_join hP hD isC hC h4 h3 h2
  exact kk v w1 H1 locs1 h1 h2 h7 ⟨h6, hD.same h7, h5⟩
end CJ3
