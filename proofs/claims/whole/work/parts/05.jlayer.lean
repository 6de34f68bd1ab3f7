/-! THE JUDGEMENT J: a method's code from a pc on, in a world of cells, comes to a return with Q. All that is of the machine is inside. -/
def tb : List Cond := lw_tbl.filter goodWord
theorem tb_in {w : Cond} (i : Nat) (h : lw_tbl[i]? = some w) (g : goodWord w = true) : w ∈ tb := List.mem_filter.mpr ⟨List.mem_of_getElem? h, g⟩
theorem tb_good : GoodIn tb tb := fun w h => ⟨h, good_of_word (List.mem_filter.mp h).2⟩
abbrev Mt : Type := MethodName × ByteArray × Nat × Option FieldType × Room
abbrev GG : Type := va_G × (ClassId × ClassId) × (Nat → Nat) × (Nat → Nat)
abbrev classes : List vw_C := [(RX0, TX0, 3), (RX1, TX1, 2), (RX2, TX2, 2), (RX3, TX3, 3), (RX4, TX4, 8), (RX5, TX5, 3), (RX6, TX6, 12), (RX7, TX7, 30)]
def gty (G : GG) : List (ClassId × FieldType) := [(G.2.1.1, .int), (G.2.1.2, .array .int)]
def xt (G : GG) (A : Nat → Prop) (U : State) (H : Heap) : Prop :=
  va_Z "java/lang/String" "COMPACT_STRINGS" "Z" (.int 1) A U H ∧ vk_S 1 [5] [[103, 98, 115, 116, 100]] G.2.2.1 G.2.2.2 A U H ∧ vk_R RX2 30 "gbstd" (G.2.2.1 0) U ∧ va_Nw (.methodLinkNest RX2 44 yX6_isLetter RX6) U
theorem xt.warm {G : GG} {A : Nat → Prop} {s U : State} {H : Heap} (hW : s.WarmedH U.vm) (h : xt G A s H) : xt G A U H :=
  ⟨va_Z.moved hW.alike h.1, vk_S.moved hW.alike h.2.1, vk_R.warm hW h.2.2.1, va_Nw.warmM hW h.2.2.2⟩
theorem xt.call {G : GG} {A : Nat → Prop} {U : State} {H : Heap} (g : JFrame) (mk : MethodId) (a : Array Value) (h : xt G A U H) : xt G A (U.calling g mk a) H :=
  ⟨va_Z.moved (u := U) (U := U.calling g mk a) (Vm.Alike.refl U.vm) h.1, vk_S.moved (u := U) (U := U.calling g mk a) (Vm.Alike.refl U.vm) h.2.1, vk_R.same (u := U) (U := U.calling g mk a) rfl h.2.2.1, va_Nw.same (u := U) (U := U.calling g mk a) rfl rfl h.2.2.2⟩
theorem xt.kept {G : GG} {A : Nat → Prop} {U : State} {H H1 : Heap} (h : xt G A U H) (hq : ∀ a : Nat, a < H.size → ¬ A a → H1[a]? = H[a]?) : xt G A U H1 :=
  ⟨h.1.kept hq, h.2.1.kept hq, h.2.2.1, h.2.2.2⟩
theorem xt.narrow {G : GG} {A B : Nat → Prop} {U : State} {H : Heap} (h : xt G A U H) (hAB : ∀ q, B q → A q) : xt G B U H :=
  ⟨h.1.narrow hAB, h.2.1.narrow hAB, h.2.2.1, h.2.2.2⟩
def Cx (G : GG) (M : Mt) (p : Program) (s : State) (m : MethodId) (args : Array Value) (meth : Method) (c : Code) (A : Nat → Prop) : Prop :=
  p.tables.exec = Jvm.exec ∧ c.code = M.2.1 ∧ c.maxLocals = M.2.2.1 ∧ meth.sig.returnType = M.2.2.2.1 ∧ s.vm.findClass M.1.cls = some m.cls ∧ (∀ w ∈ tb, w.before args s = true) ∧ meth.locks = false ∧ (∀ q, s.heap.size ≤ q → A q) ∧ va_K G.1 classes (gty G) s ∧ xt G A s s.heap
def Wo (G : GG) (A : Nat → Prop) (s : State) (w : va_W) (H : Heap) (locs : List Loc) : Prop := va_P G.1 classes w H ∧ va_D A w ∧ va_S A s.heap H locs
def QJ (G : GG) (L : List Nat) (Q : Option Value → va_W → Prop) (A : Nat → Prop) : Array Value → State → Outcome → State → Prop := fun _ st oc t => (∃ (v : Option Value) (w' : va_W), oc = .returned v ∧ Q v w' ∧ w'.map Prod.fst = L ∧ va_P G.1 classes w' t.heap) ∧ va_F A st t
def J (G : GG) (M : Mt) (pc : Nat) (lo : List (Nat × Value)) (st : List Value) (w : va_W) (Q : Option Value → va_W → Prop) : Prop :=
  ∀ (p : Program) (l : Launch) (e : Env) (s : State) (m : MethodId) (args : Array Value) (below : List Frame) (meth : Method) (c : Code) (A : Nat → Prop), Cx G M p s m args meth c A → ∀ (H : Heap) (locs : List Loc) (ls : Array Slot), lv_has ls M.2.2.1 lo → Wo G A s w H locs → W p l e M.2.2.2.2 s m args below meth c H locs 0 0 (MQ below (QJ G (w.map Prod.fst) Q A) args s 0 0 A) (F0 m pc ls st)
theorem va_D.same {A : Nat → Prop} {w w' : va_W} (h : w'.map Prod.fst = w.map Prod.fst) (hD : va_D A w) : va_D A w' := by
  have key : ∀ (k : Nat) (q : Nat × va_E), w'[k]? = some q → ∃ q0, w[k]? = some q0 ∧ q0.1 = q.1 := by
    intro k q hk
    have h1 : (w'.map Prod.fst)[k]? = some q.1 := by rw [List.getElem?_map, hk]; rfl
    rw [h, List.getElem?_map] at h1
    cases hw : w[k]? with
    | none => rw [hw] at h1; cases h1
    | some q0 => rw [hw] at h1; exact ⟨q0, rfl, Option.some.inj h1⟩
  refine ⟨fun i j x y hi hj hxy => ?_, fun k q hk => ?_⟩
  · obtain ⟨x0, h1, h2⟩ := key i x hi
    obtain ⟨y0, h3, h4⟩ := key j y hj
    exact hD.1 i j x0 y0 h1 h3 (h2.trans (hxy.trans h4.symm))
  · obtain ⟨q0, h1, h2⟩ := key k q hk
    rw [← h2]
    exact hD.2 k q0 h1
theorem fst_set {w : va_W} {q a : Nat} {e0 e : va_E} (h : w[q]? = some (a, e0)) : (w.set q (a, e)).map Prod.fst = w.map Prod.fst := by
  apply List.ext_getElem?
  intro i
  rw [List.getElem?_map, List.getElem?_map]
  by_cases hi : q = i
  · subst hi
    have hl := (List.getElem?_eq_some_iff.mp h).1
    rw [List.getElem?_set_self hl, h]
    rfl
  · rw [List.getElem?_set_ne hi]
/-- a caller's world with a callee's cells in it: at place k the callee's cell j, where ps has (some j) there -/
def mrg : va_W → va_W → List (Option Nat) → va_W
  | x :: w, w1, some j :: ps => w1.getD j x :: mrg w w1 ps
  | x :: w, w1, none :: ps => x :: mrg w w1 ps
  | w, _, _ => w
theorem mrg_at : ∀ (w w1 : va_W) (ps : List (Option Nat)) (k : Nat), (mrg w w1 ps)[k]? = match ps[k]? with | some (some j) => (w[k]?).map (fun x => w1.getD j x) | _ => w[k]?
  | [], w1, ps, k => by
    have e : mrg [] w1 ps = [] := by cases ps <;> rfl
    rw [e]
    cases h : ps[k]? with
    | none => rfl
    | some o => cases o <;> rfl
  | x :: w, w1, [], k => by rfl
  | x :: w, w1, none :: ps, 0 => by rfl
  | x :: w, w1, some j :: ps, 0 => by rfl
  | x :: w, w1, none :: ps, k + 1 => by
    show (mrg w w1 ps)[k]? = _
    rw [mrg_at w w1 ps k]
    rfl
  | x :: w, w1, some j :: ps, k + 1 => by
    show (mrg w w1 ps)[k]? = _
    rw [mrg_at w w1 ps k]
    rfl
/-- ps lays wc into w -/
def Lay (w wc : va_W) (ps : List (Option Nat)) : Prop := mrg w wc ps = w ∧ ps.length ≤ w.length ∧ (List.range wc.length).all (fun j => ps.contains (some j)) = true ∧ ps.all (fun o => match o with | some j => decide (j < wc.length) | none => true) = true
theorem Lay.get {w wc : va_W} {ps : List (Option Nat)} (h : Lay w wc ps) {j : Nat} {x : Nat × va_E} (hx : wc[j]? = some x) : ∃ k : Nat, ps[k]? = some (some j) ∧ w[k]? = some x := by
  obtain ⟨h1, h2, h3, -⟩ := h
  have hj := (List.getElem?_eq_some_iff.mp hx).1
  have h4 := List.all_eq_true.mp h3 j (List.mem_range.mpr hj)
  have h5 : (some j) ∈ ps := by simpa using h4
  obtain ⟨k, hk⟩ := List.getElem?_of_mem h5
  have hkl := (List.getElem?_eq_some_iff.mp hk).1
  refine ⟨k, hk, ?_⟩
  have h6 := mrg_at w wc ps k
  rw [h1, hk] at h6
  have hw : k < w.length := by omega
  rw [List.getElem?_eq_getElem hw] at h6 ⊢
  have h7 := Option.some.inj h6
  dsimp only at h7
  rw [List.getD_eq_getElem?_getD, hx] at h7
  rw [h7]
  rfl
theorem Lay.P {D : va_G} {cl : List vw_C} {w wc : va_W} {ps : List (Option Nat)} {H : Heap} (h : Lay w wc ps) (hP : va_P D cl w H) : va_P D cl wc H := fun j x hx => by
  obtain ⟨k, -, h2⟩ := h.get hx
  exact hP k x h2
theorem Lay.D {A : Nat → Prop} {w wc : va_W} {ps : List (Option Nat)} (h : Lay w wc ps) (hD : va_D A w) : va_D A wc := by
  refine ⟨fun i j x y hi hj hxy => ?_, fun j x hx => ?_⟩
  · obtain ⟨a, h1, h2⟩ := h.get hi
    obtain ⟨b, h3, h4⟩ := h.get hj
    have hab := hD.1 a b x y h2 h4 hxy
    subst hab
    rw [h1] at h3
    exact Option.some.inj (Option.some.inj h3)
  · obtain ⟨k, -, h2⟩ := h.get hx
    exact hD.2 k x h2
theorem Lay.free {A0 : Nat → Prop} {w wc : va_W} {ps : List (Option Nat)} {H0 H : Heap} {locs : List Loc} (h : Lay w wc ps) (hD : va_D A0 w) (hS : va_S A0 H0 H locs) (hA : ∀ q, H0.size ≤ q → A0 q) : ∀ q, va_A wc H.size q → A0 q := by
  intro q hq
  rcases hq with ⟨k, e, hk⟩ | hq
  · exact (h.D hD).2 k (q, e) hk
  · exact hA q (Nat.le_trans hS.1 hq)
/-- behind a call: the caller's world, with the callee's cells put anew -/
theorem Lay.join {A0 : Nat → Prop} {D : va_G} {cl : List vw_C} {w wc w1 : va_W} {ps : List (Option Nat)} {H H1 : Heap} (h : Lay w wc ps) (hP : va_P D cl w H) (hD : va_D A0 w)
    (hk : ∀ q : Nat, q < H.size → ¬ va_A wc H.size q → H1[q]? = H[q]?) (hP1 : va_P D cl w1 H1) (h1 : w1.map Prod.fst = wc.map Prod.fst) : va_P D cl (mrg w w1 ps) H1 ∧ (mrg w w1 ps).map Prod.fst = w.map Prod.fst := by
  have hlen : w1.length = wc.length := by
    have := congrArg List.length h1
    simpa using this
  have hin : ∀ k j : Nat, ps[k]? = some (some j) → j < wc.length := fun k j hkj => by
    have := List.all_eq_true.mp h.2.2.2 _ (List.mem_of_getElem? hkj)
    simpa using this
  refine ⟨fun k q hq => ?_, ?_⟩
  · rw [mrg_at] at hq
    cases hp : ps[k]? with
    | none =>
      rw [hp] at hq
      refine (hP k q hq).kept (hk q.1 (hP k q hq).lt (fun ha => ?_))
      rcases ha with ⟨j, e, hj⟩ | hs
      · obtain ⟨k2, h3, h4⟩ := h.get hj
        have := hD.1 k k2 q (q.1, e) hq h4 rfl
        subst this
        rw [hp] at h3
        cases h3
      · exact absurd (hP k q hq).lt (by omega)
    | some o =>
      cases o with
      | none =>
        rw [hp] at hq
        refine (hP k q hq).kept (hk q.1 (hP k q hq).lt (fun ha => ?_))
        rcases ha with ⟨j, e, hj⟩ | hs
        · obtain ⟨k2, h3, h4⟩ := h.get hj
          have := hD.1 k k2 q (q.1, e) hq h4 rfl
          subst this
          rw [hp] at h3
          cases h3
        · exact absurd (hP k q hq).lt (by omega)
      | some j =>
        rw [hp] at hq
        have hj : j < w1.length := by rw [hlen]; exact hin k j hp
        cases hw : w[k]? with
        | none => rw [hw] at hq; cases hq
        | some x =>
          rw [hw] at hq
          have e := Option.some.inj hq
          dsimp only at e
          rw [List.getD_eq_getElem?_getD, List.getElem?_eq_getElem hj] at e
          have e2 : w1[j]? = some q := by rw [List.getElem?_eq_getElem hj]; exact congrArg some e
          exact hP1 j q e2
  · apply List.ext_getElem?
    intro k
    rw [List.getElem?_map, List.getElem?_map, mrg_at]
    cases hp : ps[k]? with
    | none => rfl
    | some o =>
      cases o with
      | none => rfl
      | some j =>
        cases hw : w[k]? with
        | none => rfl
        | some x =>
          have hj : j < wc.length := hin k j hp
          obtain ⟨y, hy⟩ : ∃ y, wc[j]? = some y := ⟨_, List.getElem?_eq_getElem hj⟩
          have h6 := mrg_at w wc ps k
          rw [h.1, hp, hw] at h6
          have h7 := Option.some.inj h6
          dsimp only at h7
          rw [List.getD_eq_getElem?_getD, hy] at h7
          have h8 : (w1.map Prod.fst)[j]? = (wc.map Prod.fst)[j]? := by rw [h1]
          rw [List.getElem?_map, List.getElem?_map, hy] at h8
          cases hz : w1[j]? with
          | none => rw [hz] at h8; cases h8
          | some z =>
            rw [hz] at h8
            have h9 : z.1 = y.1 := Option.some.inj h8
            show some ((w1.getD j x).1) = some x.1
            rw [List.getD_eq_getElem?_getD, hz]
            show some z.1 = some x.1
            rw [h9, h7]
            rfl
/-- a method's contract out of J -/
theorem met_J {l : Launch} {G : GG} {M : Mt} {av : List Value} {wc : va_W} {Q : Option Value → va_W → Prop} (hJ : J G M 0 (lv_args 0 av) [] wc Q) (hlen : (lg_sl av).length ≤ M.2.2.1) (hy : plainName M.1.cls = true) (sz : Nat) :
    Met l M.1 (.code M.1 M.2.1 M.2.2.1 M.2.2.2.1 :: tb) M.2.2.2.2 (va_Pc av (fun U => U.heap.size = sz ∧ va_P G.1 classes wc U.heap ∧ va_K G.1 classes (gty G) U ∧ va_D (fun _ => True) wc ∧ xt G (va_A wc sz) U U.heap)) (QJ G (wc.map Prod.fst) Q (va_A wc sz)) 0 0 (va_A wc sz) := by
  refine Met.ofW (cc := M.2.1) (maxL := M.2.2.1) (ret := M.2.2.2.1) hy rfl ?_
  intro p e s m args below meth c s₁ B hml hv
  obtain ⟨rfl, hsz, hP, hK, hD0, hx⟩ := hv
  subst hsz
  rw [lg_entry_eq]
  have hts := atoms_spec (ws := Cond.code M.1 M.2.1 M.2.2.1 M.2.2.2.1 :: tb) B.pre
  exact hJ p l e s m _ below meth c (va_A wc s.heap.size) ⟨B.exec, B.bytes, hml, B.returns, findClass_of_methodNamed B.named, fun w hw => hts w (List.mem_cons_of_mem _ hw), B.notSynchronized, fun q h => Or.inr h, hK, hx⟩ s.heap [] _ (lv_entry av hlen) ⟨hP, hD0.self, va_S.rf⟩
section CJ
variable {p : Program} {l : Launch} {e : Env} {R : Room} {s : State} {m : MethodId} {args : Array Value} {below : List Frame} {meth : Method} {c : Code} {H : Heap} {locs : List Loc} {cells slots : Nat} {Qw : State → Prop}
theorem va_callJ {G : GG} {L : List Nat} {Q : Option Value → va_W → Prop} {A0 A1 : Nat → Prop} {a : Array Value} {pc : Nat} {ls : Array Slot} {rest st0 : List Value} {H0 : Heap} (hr : va_Run p l e R s m args below meth c H locs cells slots 0 0 (F0 m pc ls st0) rest (QJ G L Q A1 a) A1) (hS : va_S A0 H0 H locs) (hA : ∀ q, A1 q → A0 q)
    (kk : ∀ (v : Option Value) (w1 : va_W) (H1 : Heap) (locs1 : List Loc), Q v w1 → w1.map Prod.fst = L → va_P G.1 classes w1 H1 → (∀ q : Nat, q < H.size → ¬ A1 q → H1[q]? = H[q]?) → va_S A0 H0 H1 locs1 → W p l e R s m args below meth c H1 locs1 cells slots Qw (F0 m (pc + 3) ls (v.toList ++ rest))) : W p l e R s m args below meth c H locs cells slots Qw (F0 m pc ls st0) := by
  intro T hT X
  obtain ⟨v, st₀, t, T', L1, h0, X', hL, e1, e2, ⟨⟨v2, w1, hv, hq, hf, hp⟩, hz, hk⟩, st⟩ := hr T hT X
  cases hv
  rw [h0] at hz hk
  obtain ⟨t2, a1, b1⟩ := kk v w1 T'.heap (locs ++ L1) hq hf (by rw [e1]; exact hp) (fun q h1 h2 => by rw [e1]; exact hk q h1 h2)
    ⟨Nat.le_trans hS.1 (by rw [e1]; exact hz), fun q h1 h2 => by rw [e1, hk q (Nat.lt_of_lt_of_le h1 hS.1) (fun z => h2 (hA q z))]; exact hS.2.1 q h1 h2, fun q hq => by
      rcases List.mem_append.mp hq with h | h
      · exact hS.2.2 q h
      · exact hA _ (hL q h)⟩ T' rfl X'
  exact ⟨t2, st t2 a1, b1⟩
end CJ
/-- a callee, by its words among the tables' -/
def ML (Mc : Mt) (n : Nat) : Prop := Cond.initialized Mc.1.cls ∈ tb ∧ Cond.code Mc.1 Mc.2.1 Mc.2.2.1 Mc.2.2.2.1 ∈ tb ∧ (Mc.1.cls ≠ "java/lang/invoke/MethodHandle" ∧ Mc.1.cls ≠ "java/lang/invoke/VarHandle" ∧ (parseMethodDescriptor Mc.1.desc).map (fun d => d.parameters.length) = some n) ∧ Mc.2.2.2.2.cells = 0 ∧ Mc.2.2.2.2.slots = 0 ∧ plainName Mc.1.cls = true
def VL (own : String) (idx : Nat) (Mc : Mt) : Prop := Cond.methodLink own idx Mc.1 ∈ tb ∧ Cond.instanceMethod Mc.1 ∈ tb ∧ Cond.selects Mc.1.cls Mc.1 Mc.1 ∈ tb
def SL (own : String) (idx : Nat) (Mc : Mt) : Prop := Cond.methodLink own idx Mc.1 ∈ tb ∧ Cond.static Mc.1 ∈ tb
theorem ws_good {y : MethodName} {b : ByteArray} {n : Nat} {r : Option FieldType} (h : Cond.code y b n r ∈ tb) : GoodIn tb (.code y b n r :: tb) := fun w hw => (List.mem_cons.mp hw).elim (fun e => by rw [e]; exact tb_good _ h) (fun h2 => tb_good _ h2)
section CJ2
variable {p : Program} {l : Launch} {e : Env} {R : Room} {s : State} {m : MethodId} {args : Array Value} {below : List Frame} {meth : Method} {c : Code} {H : Heap} {locs : List Loc} {cells slots : Nat} {Qw : State → Prop}
variable {G : GG} {Mc : Mt} {cc : ByteArray} {nL pc idx n : Nat} {own : String} {A : Nat → Prop} {w wc : va_W} {Qc : Option Value → va_W → Prop} {ls : Array Slot} {As rest st0 : List Value}
/-- an invokevirtual, in any body -/
theorem w_callV (hx : p.tables.exec = Jvm.exec) (hb : c.code = cc) (hml : c.maxLocals = nL) (hown : s.vm.findClass own = some m.cls) (hts : ∀ w ∈ tb, w.before args s = true) (hA : ∀ q, s.heap.size ≤ q → A q) (hK : va_K G.1 classes (gty G) s) (hxt : xt G A s s.heap) (hls : ls.size = nL) (hW : Wo G A s w H locs)
    (hM : ML Mc n) (hV : VL own idx Mc) (ps : List (Option Nat)) (hC : Lay w wc ps) {b q0 ci : Nat} {fs : List Value} {q : vw_C} (hq0 : wc[q0]? = some (b, .inr (ci, fs))) (hci : classes[ci]? = some q) (hqc : q.1 = Mc.1.cls)
    (hJ : J G Mc 0 (lv_args 0 (.ref b :: As)) [] wc Qc) (hlen : (lg_sl (.ref b :: As)).length ≤ Mc.2.2.1) (hR : Mc.2.2.2.2.frames + 1 ≤ R.frames ∧ 8 + (Mc.2.2.1 + 11) + Mc.2.2.2.2.locals ≤ R.locals) (hcs : cells ≤ R.cells ∧ slots ≤ R.slots) (hn : As.length = n) (hst : st0 = As.reverse ++ .ref b :: rest) (hcat : (rest.map fun v => v.category).sum ≤ 8) (hd : decode cc pc = .ok (.invokevirtual idx, 3))
    (kk : ∀ (v : Option Value) (w1 : va_W) (H1 : Heap) (locs1 : List Loc), Qc v w1 → w1.map Prod.fst = wc.map Prod.fst → (mrg w w1 ps).map Prod.fst = w.map Prod.fst → Wo G A s (mrg w w1 ps) H1 locs1 → W p l e R s m args below meth c H1 locs1 cells slots Qw (F0 m (pc + 3) ls (v.toList ++ rest))) : W p l e R s m args below meth c H locs cells slots Qw (F0 m pc ls st0) := by
  obtain ⟨hP, hD, hS⟩ := hW
  have hPc : va_P G.1 classes wc H := hC.P hP
  have hF : ∀ q, va_A wc H.size q → A q := hC.free hD hS hA
  have hDc : va_D (fun _ => True) wc := (hC.D hD).weaken (fun _ _ _ _ => trivial)
  subst hst
  have cw : CallW R s args own Mc.1.cls idx Mc.1 Mc.2.1 Mc.2.2.1 Mc.2.2.2.1 (.code Mc.1 Mc.2.1 Mc.2.2.1 Mc.2.2.2.1 :: tb) Mc.2.2.2.2 0 0 n :=
    ⟨callB_of n hts (ws_good hM.2.1) rfl hM.2.2.2.1 hM.2.2.2.2.1 (hts _ hM.1) (hts _ hV.1) hM.2.2.1 hR, hts _ hV.2.1, hts _ hV.2.2⟩
  have hrecv := va_recv hK hPc hci hq0
  rw [hqc] at hrecv
  refine va_callJ (va_runV (As := As) (rest := rest) (Ts := tb) (own := own) ⟨hx, hb, hml, hown, hts⟩ (met_J (l := l) hJ hlen hM.2.2.2.2.2 H.size) cw ⟨fun a U g mk q => ?_, hrecv, fun U hU hW2 => ?_⟩ rfl hn hls rfl (lv_room hcat) hd ⟨hcs.1, hcs.2⟩) hS hF (fun v w1 H1 locs1 h1 h2 h3 h4 h5 => ?_)
  · obtain ⟨q0, q1, qP, qK, qD, qX⟩ := q
    exact ⟨q0, q1, qP, va_K.moved (u := U) (U := U.calling g mk a) (Vm.Alike.refl U.vm) qK, qD, xt.call g mk a qX⟩
  · exact ⟨rfl, by rw [hU], by rw [hU]; exact hPc, va_K.moved hW2.alike hK, hDc, by rw [hU]; exact xt.warm hW2 ((hxt.kept hS.2.1).narrow hF)⟩
  · obtain ⟨h6, h7⟩ := hC.join hP hD h4 h3 h2
    exact kk v w1 H1 locs1 h1 h2 h7 ⟨h6, hD.same h7, h5⟩
end CJ2
section CJ3
variable {p : Program} {l : Launch} {e : Env} {R : Room} {s : State} {m : MethodId} {args : Array Value} {below : List Frame} {meth : Method} {c : Code} {H : Heap} {locs : List Loc} {cells slots : Nat} {Qw : State → Prop}
variable {G : GG} {Mc : Mt} {cc : ByteArray} {nL pc idx n : Nat} {own : String} {A : Nat → Prop} {w wc : va_W} {Qc : Option Value → va_W → Prop} {ls : Array Slot} {As rest st0 : List Value}
theorem preS_J (hA : ∀ q, s.heap.size ≤ q → A q) (hK : va_K G.1 classes (gty G) s) (hxt : xt G A s s.heap) (hW : Wo G A s w H locs) (ps : List (Option Nat)) (hC : Lay w wc ps) (av : List Value) :
    PreS s H (va_Pc av (fun U => U.heap.size = H.size ∧ va_P G.1 classes wc U.heap ∧ va_K G.1 classes (gty G) U ∧ va_D (fun _ => True) wc ∧ xt G (va_A wc H.size) U U.heap)) av := by
  obtain ⟨hP, hD, hS⟩ := hW
  have hF : ∀ q, va_A wc H.size q → A q := hC.free hD hS hA
  refine ⟨fun a U g mk q => ?_, fun U hU hW2 => ?_⟩
  · obtain ⟨q0, q1, qP, qK, qD, qX⟩ := q
    exact ⟨q0, q1, qP, va_K.moved (u := U) (U := U.calling g mk a) (Vm.Alike.refl U.vm) qK, qD, xt.call g mk a qX⟩
  · exact ⟨rfl, by rw [hU], by rw [hU]; exact hC.P hP, va_K.moved hW2.alike hK, (hC.D hD).weaken (fun _ _ _ _ => trivial), by rw [hU]; exact xt.warm hW2 ((hxt.kept hS.2.1).narrow hF)⟩
theorem w_callS (hx : p.tables.exec = Jvm.exec) (hb : c.code = cc) (hml : c.maxLocals = nL) (hown : s.vm.findClass own = some m.cls) (hts : ∀ w ∈ tb, w.before args s = true) (hA : ∀ q, s.heap.size ≤ q → A q) (hK : va_K G.1 classes (gty G) s) (hxt : xt G A s s.heap) (hls : ls.size = nL) (hW : Wo G A s w H locs)
    (hM : ML Mc n) (hV : SL own idx Mc) (ps : List (Option Nat)) (hC : Lay w wc ps)
    (hJ : J G Mc 0 (lv_args 0 As) [] wc Qc) (hlen : (lg_sl As).length ≤ Mc.2.2.1) (hR : Mc.2.2.2.2.frames + 1 ≤ R.frames ∧ 8 + (Mc.2.2.1 + 11) + Mc.2.2.2.2.locals ≤ R.locals) (hcs : cells ≤ R.cells ∧ slots ≤ R.slots) (hn : As.length = n) (hst : st0 = As.reverse ++ rest) (hcat : (rest.map fun v => v.category).sum ≤ 8) (hd : decode cc pc = .ok (.invokestatic idx, 3))
    (kk : ∀ (v : Option Value) (w1 : va_W) (H1 : Heap) (locs1 : List Loc), Qc v w1 → w1.map Prod.fst = wc.map Prod.fst → (mrg w w1 ps).map Prod.fst = w.map Prod.fst → Wo G A s (mrg w w1 ps) H1 locs1 → W p l e R s m args below meth c H1 locs1 cells slots Qw (F0 m (pc + 3) ls (v.toList ++ rest))) : W p l e R s m args below meth c H locs cells slots Qw (F0 m pc ls st0) := by
  have hW0 := hW
  obtain ⟨hP, hD, hS⟩ := hW
  have hF : ∀ q, va_A wc H.size q → A q := hC.free hD hS hA
  subst hst
  have cw : CallB R s args own idx Mc.1 Mc.2.1 Mc.2.2.1 Mc.2.2.2.1 (.code Mc.1 Mc.2.1 Mc.2.2.1 Mc.2.2.2.1 :: tb) Mc.2.2.2.2 0 0 n ∧ (Cond.static Mc.1).before args s = true :=
    ⟨callB_of n hts (ws_good hM.2.1) rfl hM.2.2.2.1 hM.2.2.2.2.1 (hts _ hM.1) (hts _ hV.1) hM.2.2.1 hR, hts _ hV.2⟩
  refine va_callJ (va_runS (As := As) (rest := rest) (Ts := tb) (own := own) ⟨hx, hb, hml, hown, hts⟩ (met_J (l := l) hJ hlen hM.2.2.2.2.2 H.size) cw (preS_J hA hK hxt hW0 ps hC As) rfl hn hls rfl (lv_room hcat) hd ⟨hcs.1, hcs.2⟩) hS hF (fun v w1 H1 locs1 h1 h2 h3 h4 h5 => ?_)
  obtain ⟨h6, h7⟩ := hC.join hP hD h4 h3 h2
  exact kk v w1 H1 locs1 h1 h2 h7 ⟨h6, hD.same h7, h5⟩
/-- an invokestatic of a nest mate's private method -/
theorem w_callSN {host : String} (hx : p.tables.exec = Jvm.exec) (hb : c.code = cc) (hml : c.maxLocals = nL) (hown : s.vm.findClass own = some m.cls) (hts : ∀ w ∈ tb, w.before args s = true) (hA : ∀ q, s.heap.size ≤ q → A q) (hK : va_K G.1 classes (gty G) s) (hxt : xt G A s s.heap) (hls : ls.size = nL) (hW : Wo G A s w H locs)
    (hM : ML Mc n) (hV : va_Nw (.methodLinkNest own idx Mc.1 host) s) (hV2 : Cond.static Mc.1 ∈ tb) (ps : List (Option Nat)) (hC : Lay w wc ps)
    (hJ : J G Mc 0 (lv_args 0 As) [] wc Qc) (hlen : (lg_sl As).length ≤ Mc.2.2.1) (hR : Mc.2.2.2.2.frames + 1 ≤ R.frames ∧ 8 + (Mc.2.2.1 + 11) + Mc.2.2.2.2.locals ≤ R.locals) (hcs : cells ≤ R.cells ∧ slots ≤ R.slots) (hn : As.length = n) (hst : st0 = As.reverse ++ rest) (hcat : (rest.map fun v => v.category).sum ≤ 8) (hd : decode cc pc = .ok (.invokestatic idx, 3))
    (kk : ∀ (v : Option Value) (w1 : va_W) (H1 : Heap) (locs1 : List Loc), Qc v w1 → w1.map Prod.fst = wc.map Prod.fst → (mrg w w1 ps).map Prod.fst = w.map Prod.fst → Wo G A s (mrg w w1 ps) H1 locs1 → W p l e R s m args below meth c H1 locs1 cells slots Qw (F0 m (pc + 3) ls (v.toList ++ rest))) : W p l e R s m args below meth c H locs cells slots Qw (F0 m pc ls st0) := by
  have hW0 := hW
  obtain ⟨hP, hD, hS⟩ := hW
  have hF : ∀ q, va_A wc H.size q → A q := hC.free hD hS hA
  subst hst
  have cw : va_CN R s args own idx Mc.1 host Mc.2.1 Mc.2.2.1 Mc.2.2.2.1 (.code Mc.1 Mc.2.1 Mc.2.2.1 Mc.2.2.2.1 :: tb) Mc.2.2.2.2 0 0 n ∧ (Cond.static Mc.1).before args s = true ∧ True :=
    ⟨va_cnB n hts (ws_good hM.2.1) rfl hM.2.2.2.1 hM.2.2.2.2.1 hV (hts _ hM.1) hM.2.2.1 hR, hts _ hV2, trivial⟩
  refine va_callJ (va_runSN (As := As) (rest := rest) (Ts := tb) (own := own) ⟨hx, hb, hml, hown, hts⟩ (met_J (l := l) hJ hlen hM.2.2.2.2.2 H.size) cw (preS_J hA hK hxt hW0 ps hC As) rfl hn hls rfl (lv_room hcat) hd ⟨hcs.1, hcs.2⟩) hS hF (fun v w1 H1 locs1 h1 h2 h3 h4 h5 => ?_)
  obtain ⟨h6, h7⟩ := hC.join hP hD h4 h3 h2
  exact kk v w1 H1 locs1 h1 h2 h7 ⟨h6, hD.same h7, h5⟩
end CJ3
