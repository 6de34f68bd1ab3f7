section JR
variable {G : GG} {M : Mt} {pc : Nat} {lo lo' : List (Nat × Value)} {st : List Value} {w w' : va_W} {Q Q' : Option Value → va_W → Prop}
theorem J.mono (h : ∀ v w', Q v w' → Q' v w') (k : J G M pc lo st w Q) : J G M pc lo st w Q' := by
  intro p l e s m args below meth c A C H locs ls hl hW T hT X
  obtain ⟨t, a1, o, b1, b2, ⟨⟨v, w1, c1, c2, c3⟩, c4⟩, b4⟩ := k p l e s m args below meth c A C H locs ls hl hW T hT X
  exact ⟨t, a1, o, b1, b2, ⟨⟨v, w1, c1, h v w1 c2, c3⟩, c4⟩, b4⟩
theorem J.at (k : J G M pc lo st w' Q) (hf : w'.map Prod.fst = w.map Prod.fst) {p : Program} {l : Launch} {e : Env} {s : State} {m : MethodId} {args : Array Value} {below : List Frame} {meth : Method} {c : Code} {A : Nat → Prop} (C : Cx G M p s m args meth c A) {H : Heap} {locs : List Loc} {ls : Array Slot} (hl : lv_has ls M.2.2.1 lo) (hW : Wo G A s w' H locs) :
    W p l e M.2.2.2.2 s m args below meth c H locs 0 0 (MQ below (QJ G (w.map Prod.fst) Q A) args s 0 0 A) (F0 m pc ls st) := by
  have h := k p l e s m args below meth c A C H locs ls hl hW
  rw [hf] at h
  exact h
theorem j_lo (ks : List Nat) (h : lv_pick lo ks = lo') (k : J G M pc lo' st w Q) : J G M pc lo st w Q := fun p l e s m args below meth c A C H locs ls hl hW => k p l e s m args below meth c A C H locs ls (lv_sub hl ks h) hW
theorem j_w (h : w = w') (k : J G M pc lo st w' Q) : J G M pc lo st w Q := h ▸ k
theorem j_pc {pc' : Nat} (h : pc = pc') (k : J G M pc' lo st w Q) : J G M pc lo st w Q := h ▸ k
theorem j_iconst {n : Int} {v : Int32} (hd : decode M.2.1 pc = .ok (.iconst n, 1)) (hv : Int32.ofInt n = v) (k : J G M (pc + 1) lo (.int v :: st) w Q) : J G M pc lo (st) w Q := fun p l e s m args below meth c A C H locs ls hl hW => lv_iconst C.1 C.2.1 hd hv (k p l e s m args below meth c A C H locs ls hl hW)
theorem j_bipush {n : Int} {v : Int32} (hd : decode M.2.1 pc = .ok (.bipush n, 2)) (hv : (Int8.ofInt n).toInt32 = v) (k : J G M (pc + 2) lo (.int v :: st) w Q) : J G M pc lo (st) w Q := fun p l e s m args below meth c A C H locs ls hl hW => lv_bipush C.1 C.2.1 hd hv (k p l e s m args below meth c A C H locs ls hl hW)
theorem j_sipush {n : Int} {v : Int32} (hd : decode M.2.1 pc = .ok (.sipush n, 3)) (hv : (Int16.ofInt n).toInt32 = v) (k : J G M (pc + 3) lo (.int v :: st) w Q) : J G M pc lo (st) w Q := fun p l e s m args below meth c A C H locs ls hl hW => lv_sipush C.1 C.2.1 hd hv (k p l e s m args below meth c A C H locs ls hl hW)
theorem j_lconst {n : Fin 2} {v : Int64} (hd : decode M.2.1 pc = .ok (.lconst n, 1)) (hv : Int64.ofNat (n : Nat) = v) (k : J G M (pc + 1) lo (.long v :: st) w Q) : J G M pc lo (st) w Q := fun p l e s m args below meth c A C H locs ls hl hW => lv_lconst C.1 C.2.1 hd hv (k p l e s m args below meth c A C H locs ls hl hW)
theorem j_iload_n (q : Nat) {k : Fin 4} {i : Nat} {x : Int32} (hd : decode M.2.1 pc = .ok (.iload_n k, 1)) (hi : (k : Nat) = i) (hq : lo[q]? = some (i, .int x)) (k : J G M (pc + 1) lo (.int x :: st) w Q) : J G M pc lo (st) w Q := fun p l e s m args below meth c A C H locs ls hl hW => lv_iload_n C.1 C.2.1 hd hi (lv_at hl q hq) (k p l e s m args below meth c A C H locs ls hl hW)
theorem j_iload (q : Nat) {i : Nat} {x : Int32} (hd : decode M.2.1 pc = .ok (.iload i, 2)) (hq : lo[q]? = some (i, .int x)) (k : J G M (pc + 2) lo (.int x :: st) w Q) : J G M pc lo (st) w Q := fun p l e s m args below meth c A C H locs ls hl hW => lv_iload C.1 C.2.1 hd (lv_at hl q hq) (k p l e s m args below meth c A C H locs ls hl hW)
theorem j_istore_n {k : Fin 4} {i : Nat} {x : Int32} (hd : decode M.2.1 pc = .ok (.istore_n k, 1)) (hi : (k : Nat) = i) (hn : i < M.2.2.1) (h : (i, Value.int x) :: lo.filter (fun q => !(q.1 == i) && !(q.1 + 1 == i && q.2.category == 2)) = lo') (k : J G M (pc + 1) lo' st w Q) : J G M pc lo (.int x :: st) w Q := fun p l e s m args below meth c A C H locs ls hl hW => lv_istore_n C.1 C.2.1 hd hi hl hn h (fun ls hl => k p l e s m args below meth c A C H locs ls hl hW)
theorem j_istore {i : Nat} {x : Int32} (hd : decode M.2.1 pc = .ok (.istore i, 2)) (hn : i < M.2.2.1) (h : (i, Value.int x) :: lo.filter (fun q => !(q.1 == i) && !(q.1 + 1 == i && q.2.category == 2)) = lo') (k : J G M (pc + 2) lo' st w Q) : J G M pc lo (.int x :: st) w Q := fun p l e s m args below meth c A C H locs ls hl hW => lv_istore C.1 C.2.1 hd hl hn h (fun ls hl => k p l e s m args below meth c A C H locs ls hl hW)
theorem j_lload_n (q : Nat) {k : Fin 4} {i : Nat} {x : Int64} (hd : decode M.2.1 pc = .ok (.lload_n k, 1)) (hi : (k : Nat) = i) (hq : lo[q]? = some (i, .long x)) (k : J G M (pc + 1) lo (.long x :: st) w Q) : J G M pc lo (st) w Q := fun p l e s m args below meth c A C H locs ls hl hW => lv_lload_n C.1 C.2.1 hd hi (lv_at hl q hq) (k p l e s m args below meth c A C H locs ls hl hW)
theorem j_lload (q : Nat) {i : Nat} {x : Int64} (hd : decode M.2.1 pc = .ok (.lload i, 2)) (hq : lo[q]? = some (i, .long x)) (k : J G M (pc + 2) lo (.long x :: st) w Q) : J G M pc lo (st) w Q := fun p l e s m args below meth c A C H locs ls hl hW => lv_lload C.1 C.2.1 hd (lv_at hl q hq) (k p l e s m args below meth c A C H locs ls hl hW)
theorem j_lstore_n {k : Fin 4} {i : Nat} {x : Int64} (hd : decode M.2.1 pc = .ok (.lstore_n k, 1)) (hi : (k : Nat) = i) (hn : i + 1 < M.2.2.1) (h : (i, Value.long x) :: lo.filter (fun q => !(q.1 == i) && (!(q.1 == i + 1) && !(q.1 + 1 == i && q.2.category == 2))) = lo') (k : J G M (pc + 1) lo' st w Q) : J G M pc lo (.long x :: st) w Q := fun p l e s m args below meth c A C H locs ls hl hW => lv_lstore_n C.1 C.2.1 hd hi hl hn h (fun ls hl => k p l e s m args below meth c A C H locs ls hl hW)
theorem j_lstore {i : Nat} {x : Int64} (hd : decode M.2.1 pc = .ok (.lstore i, 2)) (hn : i + 1 < M.2.2.1) (h : (i, Value.long x) :: lo.filter (fun q => !(q.1 == i) && (!(q.1 == i + 1) && !(q.1 + 1 == i && q.2.category == 2))) = lo') (k : J G M (pc + 2) lo' st w Q) : J G M pc lo (.long x :: st) w Q := fun p l e s m args below meth c A C H locs ls hl hW => lv_lstore C.1 C.2.1 hd hl hn h (fun ls hl => k p l e s m args below meth c A C H locs ls hl hW)
theorem j_aload_n (q : Nat) {k : Fin 4} {i : Nat} {x : Nat} (hd : decode M.2.1 pc = .ok (.aload_n k, 1)) (hi : (k : Nat) = i) (hq : lo[q]? = some (i, .ref x)) (k : J G M (pc + 1) lo (.ref x :: st) w Q) : J G M pc lo (st) w Q := fun p l e s m args below meth c A C H locs ls hl hW => lv_aload_n C.1 C.2.1 hd hi (lv_at hl q hq) (k p l e s m args below meth c A C H locs ls hl hW)
theorem j_aload (q : Nat) {i : Nat} {x : Nat} (hd : decode M.2.1 pc = .ok (.aload i, 2)) (hq : lo[q]? = some (i, .ref x)) (k : J G M (pc + 2) lo (.ref x :: st) w Q) : J G M pc lo (st) w Q := fun p l e s m args below meth c A C H locs ls hl hW => lv_aload C.1 C.2.1 hd (lv_at hl q hq) (k p l e s m args below meth c A C H locs ls hl hW)
theorem j_astore_n {k : Fin 4} {i : Nat} {x : Nat} (hd : decode M.2.1 pc = .ok (.astore_n k, 1)) (hi : (k : Nat) = i) (hn : i < M.2.2.1) (h : (i, Value.ref x) :: lo.filter (fun q => !(q.1 == i) && !(q.1 + 1 == i && q.2.category == 2)) = lo') (k : J G M (pc + 1) lo' st w Q) : J G M pc lo (.ref x :: st) w Q := fun p l e s m args below meth c A C H locs ls hl hW => lv_astore_n C.1 C.2.1 hd hi hl hn h (fun ls hl => k p l e s m args below meth c A C H locs ls hl hW)
theorem j_astore {i : Nat} {x : Nat} (hd : decode M.2.1 pc = .ok (.astore i, 2)) (hn : i < M.2.2.1) (h : (i, Value.ref x) :: lo.filter (fun q => !(q.1 == i) && !(q.1 + 1 == i && q.2.category == 2)) = lo') (k : J G M (pc + 2) lo' st w Q) : J G M pc lo (.ref x :: st) w Q := fun p l e s m args below meth c A C H locs ls hl hW => lv_astore C.1 C.2.1 hd hl hn h (fun ls hl => k p l e s m args below meth c A C H locs ls hl hW)
theorem j_iinc (q : Nat) {i : Nat} {n : Int} {x v : Int32} (hd : decode M.2.1 pc = .ok (.iinc i n, 3)) (hq : lo[q]? = some (i, .int x)) (hv : x + Int32.ofInt n = v) (hn : i < M.2.2.1) (h : (i, Value.int v) :: lo.filter (fun q => !(q.1 == i) && !(q.1 + 1 == i && q.2.category == 2)) = lo') (k : J G M (pc + 3) lo' st w Q) : J G M pc lo st w Q := fun p l e s m args below meth c A C H locs ls hl hW => lv_iinc C.1 C.2.1 hd hl hq hv hn h (fun ls hl => k p l e s m args below meth c A C H locs ls hl hW)
theorem j_iadd {x y : Int32} (hd : decode M.2.1 pc = .ok (.iadd, 1)) (k : J G M (pc + 1) lo (.int (x + y) :: st) w Q) : J G M pc lo (.int y :: .int x :: st) w Q := fun p l e s m args below meth c A C H locs ls hl hW => lv_iadd C.1 C.2.1 hd (k p l e s m args below meth c A C H locs ls hl hW)
theorem j_isub {x y : Int32} (hd : decode M.2.1 pc = .ok (.isub, 1)) (k : J G M (pc + 1) lo (.int (x - y) :: st) w Q) : J G M pc lo (.int y :: .int x :: st) w Q := fun p l e s m args below meth c A C H locs ls hl hW => lv_isub C.1 C.2.1 hd (k p l e s m args below meth c A C H locs ls hl hW)
theorem j_imul {x y : Int32} (hd : decode M.2.1 pc = .ok (.imul, 1)) (k : J G M (pc + 1) lo (.int (x * y) :: st) w Q) : J G M pc lo (.int y :: .int x :: st) w Q := fun p l e s m args below meth c A C H locs ls hl hW => lv_imul C.1 C.2.1 hd (k p l e s m args below meth c A C H locs ls hl hW)
theorem j_iand {x y : Int32} (hd : decode M.2.1 pc = .ok (.iand, 1)) (k : J G M (pc + 1) lo (.int (x &&& y) :: st) w Q) : J G M pc lo (.int y :: .int x :: st) w Q := fun p l e s m args below meth c A C H locs ls hl hW => lv_iand C.1 C.2.1 hd (k p l e s m args below meth c A C H locs ls hl hW)
theorem j_ior {x y : Int32} (hd : decode M.2.1 pc = .ok (.ior, 1)) (k : J G M (pc + 1) lo (.int (x ||| y) :: st) w Q) : J G M pc lo (.int y :: .int x :: st) w Q := fun p l e s m args below meth c A C H locs ls hl hW => lv_ior C.1 C.2.1 hd (k p l e s m args below meth c A C H locs ls hl hW)
theorem j_ishl {x y : Int32} (hd : decode M.2.1 pc = .ok (.ishl, 1)) (k : J G M (pc + 1) lo (.int (x <<< (y &&& 31)) :: st) w Q) : J G M pc lo (.int y :: .int x :: st) w Q := fun p l e s m args below meth c A C H locs ls hl hW => lv_ishl C.1 C.2.1 hd (k p l e s m args below meth c A C H locs ls hl hW)
theorem j_ishr {x y : Int32} (hd : decode M.2.1 pc = .ok (.ishr, 1)) (k : J G M (pc + 1) lo (.int (x >>> (y &&& 31)) :: st) w Q) : J G M pc lo (.int y :: .int x :: st) w Q := fun p l e s m args below meth c A C H locs ls hl hW => lv_ishr C.1 C.2.1 hd (k p l e s m args below meth c A C H locs ls hl hW)
theorem j_ladd {x y : Int64} (hd : decode M.2.1 pc = .ok (.ladd, 1)) (k : J G M (pc + 1) lo (.long (x + y) :: st) w Q) : J G M pc lo (.long y :: .long x :: st) w Q := fun p l e s m args below meth c A C H locs ls hl hW => lv_ladd C.1 C.2.1 hd (k p l e s m args below meth c A C H locs ls hl hW)
theorem j_lmul {x y : Int64} (hd : decode M.2.1 pc = .ok (.lmul, 1)) (k : J G M (pc + 1) lo (.long (x * y) :: st) w Q) : J G M pc lo (.long y :: .long x :: st) w Q := fun p l e s m args below meth c A C H locs ls hl hW => lv_lmul C.1 C.2.1 hd (k p l e s m args below meth c A C H locs ls hl hW)
theorem j_land {x y : Int64} (hd : decode M.2.1 pc = .ok (.land, 1)) (k : J G M (pc + 1) lo (.long (x &&& y) :: st) w Q) : J G M pc lo (.long y :: .long x :: st) w Q := fun p l e s m args below meth c A C H locs ls hl hW => lv_land C.1 C.2.1 hd (k p l e s m args below meth c A C H locs ls hl hW)
theorem j_idiv {x y : Int32} (hd : decode M.2.1 pc = .ok (.idiv, 1)) (hne : ¬ y = 0) (k : J G M (pc + 1) lo (.int (x / y) :: st) w Q) : J G M pc lo (.int y :: .int x :: st) w Q := fun p l e s m args below meth c A C H locs ls hl hW => lv_idiv C.1 C.2.1 hd hne (k p l e s m args below meth c A C H locs ls hl hW)
theorem j_irem {x y : Int32} (hd : decode M.2.1 pc = .ok (.irem, 1)) (hne : ¬ y = 0) (k : J G M (pc + 1) lo (.int (x - x / y * y) :: st) w Q) : J G M pc lo (.int y :: .int x :: st) w Q := fun p l e s m args below meth c A C H locs ls hl hW => lv_irem C.1 C.2.1 hd hne (k p l e s m args below meth c A C H locs ls hl hW)
theorem j_i2l {x : Int32} (hd : decode M.2.1 pc = .ok (.i2l, 1)) (k : J G M (pc + 1) lo (.long x.toInt64 :: st) w Q) : J G M pc lo (.int x :: st) w Q := fun p l e s m args below meth c A C H locs ls hl hW => lv_i2l C.1 C.2.1 hd rfl (k p l e s m args below meth c A C H locs ls hl hW)
theorem j_l2i {x : Int64} (hd : decode M.2.1 pc = .ok (.l2i, 1)) (k : J G M (pc + 1) lo (.int x.toInt32 :: st) w Q) : J G M pc lo (.long x :: st) w Q := fun p l e s m args below meth c A C H locs ls hl hW => lv_l2i C.1 C.2.1 hd rfl (k p l e s m args below meth c A C H locs ls hl hW)
theorem j_i2b {x : Int32} (hd : decode M.2.1 pc = .ok (.i2b, 1)) (k : J G M (pc + 1) lo (.int x.toInt8.toInt32 :: st) w Q) : J G M pc lo (.int x :: st) w Q := fun p l e s m args below meth c A C H locs ls hl hW => lv_i2b C.1 C.2.1 hd rfl (k p l e s m args below meth c A C H locs ls hl hW)
theorem j_i2c {x : Int32} (hd : decode M.2.1 pc = .ok (.i2c, 1)) (k : J G M (pc + 1) lo (.int (x.toUInt32 % 65536).toInt32 :: st) w Q) : J G M pc lo (.int x :: st) w Q := fun p l e s m args below meth c A C H locs ls hl hW => lv_i2c C.1 C.2.1 hd rfl (k p l e s m args below meth c A C H locs ls hl hW)
theorem j_iushr {x y : Int32} (hd : decode M.2.1 pc = .ok (.iushr, 1)) (k : J G M (pc + 1) lo (.int (x.toUInt32 >>> (y.toUInt32 &&& Int32.toUInt32 31)).toInt32 :: st) w Q) : J G M pc lo (.int y :: .int x :: st) w Q := fun p l e s m args below meth c A C H locs ls hl hW => lv_iushr C.1 C.2.1 hd rfl (k p l e s m args below meth c A C H locs ls hl hW)
theorem j_lcmp {x y : Int64} (hd : decode M.2.1 pc = .ok (.lcmp, 1)) (k : J G M (pc + 1) lo (.int (lg_cmp x y) :: st) w Q) : J G M pc lo (.long y :: .long x :: st) w Q := fun p l e s m args below meth c A C H locs ls hl hW => W.lcmp C.1 C.2.1 hd (k p l e s m args below meth c A C H locs ls hl hW)
theorem j_dup {va : Value} (hd : decode M.2.1 pc = .ok (.dup, 1)) (h1 : va.category = 1) (k : J G M (pc + 1) lo (va :: va :: st) w Q) : J G M pc lo (va :: st) w Q := fun p l e s m args below meth c A C H locs ls hl hW => lv_dup C.1 C.2.1 hd h1 (k p l e s m args below meth c A C H locs ls hl hW)
theorem j_pop {va : Value} (hd : decode M.2.1 pc = .ok (.pop, 1)) (h1 : va.category = 1) (k : J G M (pc + 1) lo (st) w Q) : J G M pc lo (va :: st) w Q := fun p l e s m args below meth c A C H locs ls hl hW => lv_pop C.1 C.2.1 hd h1 (k p l e s m args below meth c A C H locs ls hl hW)
theorem j_dup2 {va vb : Value} (hd : decode M.2.1 pc = .ok (.dup2, 1)) (h1 : va.category = 1) (h2 : vb.category = 1) (k : J G M (pc + 1) lo (va :: vb :: va :: vb :: st) w Q) : J G M pc lo (va :: vb :: st) w Q := fun p l e s m args below meth c A C H locs ls hl hW => lv_dup2_11 C.1 C.2.1 hd h1 h2 (k p l e s m args below meth c A C H locs ls hl hW)
theorem j_if_eq {x : Int32} {off : Int} {tgt : Nat} (hd : decode M.2.1 pc = .ok (.ifCond .eq off, 3)) (ht : (pc : Int) + off = (tgt : Int)) (kt : x = 0 → J G M tgt lo st w Q) (kf : ¬ x = 0 → J G M (pc + 3) lo st w Q) : J G M pc lo (.int x :: st) w Q := fun p l e s m args below meth c A C H locs ls hl hW => lv_if_eq C.1 C.2.1 hd ht (fun h => kt h p l e s m args below meth c A C H locs ls hl hW) (fun h => kf h p l e s m args below meth c A C H locs ls hl hW)
theorem j_icmp_eq {x y : Int32} {off : Int} {tgt : Nat} (hd : decode M.2.1 pc = .ok (.if_icmp .eq off, 3)) (ht : (pc : Int) + off = (tgt : Int)) (kt : x = y → J G M tgt lo st w Q) (kf : ¬ x = y → J G M (pc + 3) lo st w Q) : J G M pc lo (.int y :: .int x :: st) w Q := fun p l e s m args below meth c A C H locs ls hl hW => lv_icmp_eq C.1 C.2.1 hd ht (fun h => kt h p l e s m args below meth c A C H locs ls hl hW) (fun h => kf h p l e s m args below meth c A C H locs ls hl hW)
theorem j_if_ne {x : Int32} {off : Int} {tgt : Nat} (hd : decode M.2.1 pc = .ok (.ifCond .ne off, 3)) (ht : (pc : Int) + off = (tgt : Int)) (kt : ¬ x = 0 → J G M tgt lo st w Q) (kf : x = 0 → J G M (pc + 3) lo st w Q) : J G M pc lo (.int x :: st) w Q := fun p l e s m args below meth c A C H locs ls hl hW => lv_if_ne C.1 C.2.1 hd ht (fun h => kt h p l e s m args below meth c A C H locs ls hl hW) (fun h => kf h p l e s m args below meth c A C H locs ls hl hW)
theorem j_icmp_ne {x y : Int32} {off : Int} {tgt : Nat} (hd : decode M.2.1 pc = .ok (.if_icmp .ne off, 3)) (ht : (pc : Int) + off = (tgt : Int)) (kt : ¬ x = y → J G M tgt lo st w Q) (kf : x = y → J G M (pc + 3) lo st w Q) : J G M pc lo (.int y :: .int x :: st) w Q := fun p l e s m args below meth c A C H locs ls hl hW => lv_icmp_ne C.1 C.2.1 hd ht (fun h => kt h p l e s m args below meth c A C H locs ls hl hW) (fun h => kf h p l e s m args below meth c A C H locs ls hl hW)
theorem j_if_lt {x : Int32} {off : Int} {tgt : Nat} (hd : decode M.2.1 pc = .ok (.ifCond .lt off, 3)) (ht : (pc : Int) + off = (tgt : Int)) (kt : x < 0 → J G M tgt lo st w Q) (kf : ¬ x < 0 → J G M (pc + 3) lo st w Q) : J G M pc lo (.int x :: st) w Q := fun p l e s m args below meth c A C H locs ls hl hW => lv_if_lt C.1 C.2.1 hd ht (fun h => kt h p l e s m args below meth c A C H locs ls hl hW) (fun h => kf h p l e s m args below meth c A C H locs ls hl hW)
theorem j_icmp_lt {x y : Int32} {off : Int} {tgt : Nat} (hd : decode M.2.1 pc = .ok (.if_icmp .lt off, 3)) (ht : (pc : Int) + off = (tgt : Int)) (kt : x < y → J G M tgt lo st w Q) (kf : ¬ x < y → J G M (pc + 3) lo st w Q) : J G M pc lo (.int y :: .int x :: st) w Q := fun p l e s m args below meth c A C H locs ls hl hW => lv_icmp_lt C.1 C.2.1 hd ht (fun h => kt h p l e s m args below meth c A C H locs ls hl hW) (fun h => kf h p l e s m args below meth c A C H locs ls hl hW)
theorem j_if_ge {x : Int32} {off : Int} {tgt : Nat} (hd : decode M.2.1 pc = .ok (.ifCond .ge off, 3)) (ht : (pc : Int) + off = (tgt : Int)) (kt : 0 ≤ x → J G M tgt lo st w Q) (kf : ¬ 0 ≤ x → J G M (pc + 3) lo st w Q) : J G M pc lo (.int x :: st) w Q := fun p l e s m args below meth c A C H locs ls hl hW => lv_if_ge C.1 C.2.1 hd ht (fun h => kt h p l e s m args below meth c A C H locs ls hl hW) (fun h => kf h p l e s m args below meth c A C H locs ls hl hW)
theorem j_icmp_ge {x y : Int32} {off : Int} {tgt : Nat} (hd : decode M.2.1 pc = .ok (.if_icmp .ge off, 3)) (ht : (pc : Int) + off = (tgt : Int)) (kt : y ≤ x → J G M tgt lo st w Q) (kf : ¬ y ≤ x → J G M (pc + 3) lo st w Q) : J G M pc lo (.int y :: .int x :: st) w Q := fun p l e s m args below meth c A C H locs ls hl hW => lv_icmp_ge C.1 C.2.1 hd ht (fun h => kt h p l e s m args below meth c A C H locs ls hl hW) (fun h => kf h p l e s m args below meth c A C H locs ls hl hW)
theorem j_if_gt {x : Int32} {off : Int} {tgt : Nat} (hd : decode M.2.1 pc = .ok (.ifCond .gt off, 3)) (ht : (pc : Int) + off = (tgt : Int)) (kt : 0 < x → J G M tgt lo st w Q) (kf : ¬ 0 < x → J G M (pc + 3) lo st w Q) : J G M pc lo (.int x :: st) w Q := fun p l e s m args below meth c A C H locs ls hl hW => lv_if_gt C.1 C.2.1 hd ht (fun h => kt h p l e s m args below meth c A C H locs ls hl hW) (fun h => kf h p l e s m args below meth c A C H locs ls hl hW)
theorem j_icmp_gt {x y : Int32} {off : Int} {tgt : Nat} (hd : decode M.2.1 pc = .ok (.if_icmp .gt off, 3)) (ht : (pc : Int) + off = (tgt : Int)) (kt : y < x → J G M tgt lo st w Q) (kf : ¬ y < x → J G M (pc + 3) lo st w Q) : J G M pc lo (.int y :: .int x :: st) w Q := fun p l e s m args below meth c A C H locs ls hl hW => lv_icmp_gt C.1 C.2.1 hd ht (fun h => kt h p l e s m args below meth c A C H locs ls hl hW) (fun h => kf h p l e s m args below meth c A C H locs ls hl hW)
theorem j_if_le {x : Int32} {off : Int} {tgt : Nat} (hd : decode M.2.1 pc = .ok (.ifCond .le off, 3)) (ht : (pc : Int) + off = (tgt : Int)) (kt : x ≤ 0 → J G M tgt lo st w Q) (kf : ¬ x ≤ 0 → J G M (pc + 3) lo st w Q) : J G M pc lo (.int x :: st) w Q := fun p l e s m args below meth c A C H locs ls hl hW => lv_if_le C.1 C.2.1 hd ht (fun h => kt h p l e s m args below meth c A C H locs ls hl hW) (fun h => kf h p l e s m args below meth c A C H locs ls hl hW)
theorem j_icmp_le {x y : Int32} {off : Int} {tgt : Nat} (hd : decode M.2.1 pc = .ok (.if_icmp .le off, 3)) (ht : (pc : Int) + off = (tgt : Int)) (kt : x ≤ y → J G M tgt lo st w Q) (kf : ¬ x ≤ y → J G M (pc + 3) lo st w Q) : J G M pc lo (.int y :: .int x :: st) w Q := fun p l e s m args below meth c A C H locs ls hl hW => lv_icmp_le C.1 C.2.1 hd ht (fun h => kt h p l e s m args below meth c A C H locs ls hl hW) (fun h => kf h p l e s m args below meth c A C H locs ls hl hW)
theorem j_goto {off : Int} {tgt : Nat} (hd : decode M.2.1 pc = .ok (.goto off, 3)) (ht : (pc : Int) + off = (tgt : Int)) (k : J G M tgt lo st w Q) : J G M pc lo st w Q := fun p l e s m args below meth c A C H locs ls hl hW => lv_goto C.1 C.2.1 hd ht (k p l e s m args below meth c A C H locs ls hl hW)
theorem j_iret {v : Int32} (hd : decode M.2.1 pc = .ok (.ireturn, 1)) (hr : M.2.2.2.1 = some .int) (h : Q (some (.int v)) w) : J G M pc lo [.int v] w Q := fun p l e s m args below meth c A C H locs ls hl hW => W.iret C.1 C.2.1 (by rw [C.2.2.2.1]; exact hr) (fun t ht _ => ⟨⟨some (.int v), w, rfl, h, rfl, by rw [ht]; exact hW.1⟩, hW.2.2.F ht⟩) (fun q hq => hW.2.2.2.2 q hq) hd C.2.2.2.2.2.2.1
theorem j_zret {v : Int32} {ty : FieldType} (hd : decode M.2.1 pc = .ok (.ireturn, 1)) (hr : M.2.2.2.1 = some ty) (hn : narrow ty (.int v) = .int v) (h : Q (some (.int v)) w) : J G M pc lo [.int v] w Q := fun p l e s m args below meth c A C H locs ls hl hW => W.zret C.1 C.2.1 (by rw [C.2.2.2.1]; exact hr) hn (fun t ht _ => ⟨⟨some (.int v), w, rfl, h, rfl, by rw [ht]; exact hW.1⟩, hW.2.2.F ht⟩) (fun q hq => hW.2.2.2.2 q hq) hd C.2.2.2.2.2.2.1
theorem j_lret {v : Int64} (hd : decode M.2.1 pc = .ok (.lreturn, 1)) (hr : M.2.2.2.1 = some .long) (h : Q (some (.long v)) w) : J G M pc lo [.long v] w Q := fun p l e s m args below meth c A C H locs ls hl hW => W.lret C.1 C.2.1 (by rw [C.2.2.2.1]; exact hr) (fun t ht _ => ⟨⟨some (.long v), w, rfl, h, rfl, by rw [ht]; exact hW.1⟩, hW.2.2.F ht⟩) (fun q hq => hW.2.2.2.2 q hq) hd C.2.2.2.2.2.2.1
theorem j_vret (hd : decode M.2.1 pc = .ok (.return_, 1)) (hr : M.2.2.2.1 = none) (h : Q none w) : J G M pc lo [] w Q := fun p l e s m args below meth c A C H locs ls hl hW => W.vret C.1 C.2.1 (by rw [C.2.2.2.1]; exact hr) (fun t ht _ => ⟨⟨none, w, rfl, h, rfl, by rw [ht]; exact hW.1⟩, hW.2.2.F ht⟩) (fun q hq => hW.2.2.2.2 q hq) hd C.2.2.2.2.2.2.1
end JR
def FL (own : String) (idx ci k : Nat) : Prop := ∃ (C : String) (T : u_T) (N : Nat), classes[ci]? = some (C, T, N) ∧ (∀ x ∈ u_ws C T N, x ∈ tb) ∧ k < N ∧ Cond.fieldLink own idx (T k).1 (T k).2.1 (T k).2.2.1 ∈ tb
def FP (own : String) (idx ci k : Nat) (ty : FieldType) : Prop := ∃ (C : String) (T : u_T) (N : Nat) (ty0 : Nat → FieldType), classes[ci]? = some (C, T, N) ∧ (∀ x ∈ u_ws C T N, x ∈ tb) ∧ k < N ∧ Cond.fieldLink own idx (T k).1 (T k).2.1 (T k).2.2.1 ∈ tb ∧ (∀ k, k < N → parseFieldDescriptor (T k).2.2.1 = some (ty0 k)) ∧ (∀ a, a < N → ∀ b, b < N → a ≠ b → (T a).2.1 ≠ (T b).2.1) ∧ (T k).2.2.2 = false ∧ parseFieldDescriptor (T k).2.2.1 = some ty
def AC (own : String) (idx : Nat) : Prop := Cond.methodLink own idx arraycopyName ∈ tb ∧ Cond.native arraycopyName ∈ tb ∧ Cond.static arraycopyName ∈ tb ∧ Cond.initialized "java/lang/System" ∈ tb
section JM
variable {G : GG} {M : Mt} {pc : Nat} {lo lo' : List (Nat × Value)} {st st0 As : List Value} {w w' wc : va_W} {Q Q' : Option Value → va_W → Prop}
theorem j_get (q : Nat) {ci k idx a : Nat} {fs : List Value} {v : Value} (hF : FL M.1.cls idx ci k) (hd : decode M.2.1 pc = .ok (.getfield idx, 3)) (he : w[q]? = some (a, .inr (ci, fs))) (hv : fs[k]? = some v) (kk : J G M (pc + 3) lo (v :: st) w Q) : J G M pc lo (.ref a :: st) w Q := by
  obtain ⟨Cn, T, N, h1, h2, h3, h4⟩ := hF
  intro p l e s m args below meth c A C H locs ls hl hW
  exact va_get (C := Cn) (T := T) (N := N) (ref := (T k).1) C.1 C.2.1 C.2.2.2.2.2.1 h2 C.2.2.2.2.1 C.2.2.2.2.2.2.2.2.1 hW.1 q he h1 k h3 (C.2.2.2.2.2.1 _ h4) (fun _ h => h) hv hd (kk p l e s m args below meth c A C H locs ls hl hW)
theorem j_put (q : Nat) {ci k idx a : Nat} {fs : List Value} {v : Value} {ty : FieldType} (hF : FP M.1.cls idx ci k ty) (hd : decode M.2.1 pc = .ok (.putfield idx, 3)) (he : w[q]? = some (a, .inr (ci, fs))) (hn : narrow ty v = v) (hfit : fits ty v = true) (hl9 : k < fs.length) (hw : w.set q (a, .inr (ci, fs.set k v)) = w') (kk : J G M (pc + 3) lo st w' Q) : J G M pc lo (v :: .ref a :: st) w Q := by
  obtain ⟨Cn, T, N, ty0, h1, h2, h3, h4, h5, h6, h7, h8⟩ := hF
  subst hw
  intro p l e s m args below meth c A C H locs ls hl hW
  exact va_put (C := Cn) (T := T) (N := N) (ref := (T k).1) C.1 C.2.1 C.2.2.2.2.2.1 h2 ty0 h5 h6 C.2.2.2.2.1 C.2.2.2.2.2.2.2.2.1 hW.1 hW.2.1 hW.2.2 q he h1 k h3 (C.2.2.2.2.2.1 _ h4) (fun _ h => h) h7 h8 hn hfit hl9 hd (fun H1 locs1 hP hD hS => kk.at (fst_set he) C hl ⟨hP, hD, hS⟩)
theorem j_iald (q : Nat) {a n : Nat} {f : Nat → Int32} {i : Int32} (hd : decode M.2.1 pc = .ok (.iaload, 1)) (ha : w[q]? = some (a, .inl (G.2.1.1, n, .inl f))) (hin : vp_in i n) (kk : J G M (pc + 1) lo (.int (f i.toNatClampNeg) :: st) w Q) : J G M pc lo (.int i :: .ref a :: st) w Q := fun p l e s m args below meth c A C H locs ls hl hW => va_iald C.1 C.2.1 C.2.2.2.2.2.2.2.2.1 hW.1 q 0 ha rfl hin hd (kk p l e s m args below meth c A C H locs ls hl hW)
theorem j_iast (q : Nat) {a n : Nat} {f : Nat → Int32} {i x : Int32} (hd : decode M.2.1 pc = .ok (.iastore, 1)) (ha : w[q]? = some (a, .inl (G.2.1.1, n, .inl f))) (hin : vp_in i n) (hw : w.set q (a, .inl (G.2.1.1, n, .inl (upd f i.toNatClampNeg x))) = w') (kk : J G M (pc + 1) lo st w' Q) : J G M pc lo (.int x :: .int i :: .ref a :: st) w Q := by
  subst hw
  exact fun p l e s m args below meth c A C H locs ls hl hW => va_iast C.1 C.2.1 C.2.2.2.2.2.2.2.2.1 hW.1 hW.2.1 hW.2.2 q 0 ha rfl hin hd (fun H1 locs1 hP hD hS => kk.at (fst_set ha) C hl ⟨hP, hD, hS⟩)
theorem j_alen (q : Nat) {a n : Nat} {f : Nat → Int32} {v : Int32} (hd : decode M.2.1 pc = .ok (.arraylength, 1)) (ha : w[q]? = some (a, .inl (G.2.1.1, n, .inl f))) (hv : Int32.ofNat n = v) (kk : J G M (pc + 1) lo (.int v :: st) w Q) : J G M pc lo (.ref a :: st) w Q := fun p l e s m args below meth c A C H locs ls hl hW => va_alen (ty := .int) C.1 C.2.1 C.2.2.2.2.2.2.2.2.1 hW.1 q 0 ha rfl hv hd (kk p l e s m args below meth c A C H locs ls hl hW)
theorem j_aald (q : Nat) {a n : Nat} {f : Nat → Option Nat} {i : Int32} {v : Value} (hd : decode M.2.1 pc = .ok (.aaload, 1)) (ha : w[q]? = some (a, .inl (G.2.1.2, n, .inr (.inr (.inr (.inr f)))))) (hin : vp_in i n) (hv : va_rf (f i.toNatClampNeg) = v) (kk : J G M (pc + 1) lo (v :: st) w Q) : J G M pc lo (.int i :: .ref a :: st) w Q := by
  subst hv
  have hlt : i.toNatClampNeg < n := Nat.not_le.mp fun q => hin (Or.inr q)
  intro p l e s m args below meth c A C H locs ls hl hW
  exact W.aald (v := va_rf (f i.toNatClampNeg)) (ty := .array .int) C.1 C.2.1 (hW.1 q _ ha) ((C.2.2.2.2.2.2.2.2.1.2 1 _ rfl).1 n (fun j => va_rf (f j))) rfl (fun q => by cases q) (by show ¬ (i < 0 ∨ (arrV _ _ _).slots.size ≤ _); rw [arrV_size]; exact hin) (by show (arrV _ _ _).slots[_]? = _; rw [arrV_read _ _ hlt]) rfl rfl hd (kk p l e s m args below meth c A C H locs ls hl hW)
theorem j_copyi (q0 q1 : Nat) {a0 a1 n0 n1 idx : Nat} {f g : Nat → Int32} {sp dp n : Int32} (hA : AC M.1.cls idx) (hd : decode M.2.1 pc = .ok (.invokestatic idx, 3)) (ha0 : w[q0]? = some (a0, .inl (G.2.1.1, n0, .inl f))) (ha1 : w[q1]? = some (a1, .inl (G.2.1.1, n1, .inl g))) (h1 : ¬ sp < 0) (h2 : ¬ dp < 0) (h3 : ¬ n < 0) (h4 : sp.toNatClampNeg + n.toNatClampNeg ≤ n0) (h5 : dp.toNatClampNeg + n.toNatClampNeg ≤ n1) (hfr : 1 ≤ M.2.2.2.2.frames) (hlc : (st.map fun v => v.category).sum + (nativeFrameWords "java/lang/System" "arraycopy" 5 + 11) ≤ M.2.2.2.2.locals)
    (hw : w.set q1 (a1, .inl (G.2.1.1, n1, .inl (va_cpy f g sp.toNatClampNeg dp.toNatClampNeg n.toNatClampNeg))) = w') (kk : J G M (pc + 3) lo st w' Q) : J G M pc lo (.int n :: .int dp :: .ref a1 :: .int sp :: .ref a0 :: st) w Q := by
  subst hw
  intro p l e s m args below meth c A C H locs ls hl hW
  exact va_copyi (ty := .int) C.1 C.2.1 (by rw [C.2.2.1]; exact hl.1.symm) C.2.2.2.2.1 (C.2.2.2.2.2.1 _ hA.1) (C.2.2.2.2.2.1 _ hA.2.1) (C.2.2.2.2.2.1 _ hA.2.2.1) (C.2.2.2.2.2.1 _ hA.2.2.2) C.2.2.2.2.2.2.2.2.1 hW.1 hW.2.1 hW.2.2 q0 q1 0 0 ha0 ha1 rfl rfl rfl h1 h2 h3 h4 h5 (fun _ _ => rfl) hfr hlc hd (fun H1 locs1 hP hD hS => kk.at (fst_set ha1) C hl ⟨hP, hD, hS⟩)
theorem j_mmin {idx : Nat} {x y : Int32} (h1 : Cond.methodLink M.1.cls idx Lib.Math.min.name ∈ tb) (h2 : Cond.static Lib.Math.min.name ∈ tb ∧ Cond.initialized "java/lang/Math" ∈ tb ∧ Cond.code Lib.Math.min.name Lib.Math.min.code 2 (some .int) ∈ tb) (hd : decode M.2.1 pc = .ok (.invokestatic idx, 3)) (hfr : 1 ≤ M.2.2.2.2.frames) (hlc : (st.map fun v => v.category).sum + 13 ≤ M.2.2.2.2.locals) (kk : J G M (pc + 3) lo (.int (if y < x then y else x) :: st) w Q) : J G M pc lo (.int y :: .int x :: st) w Q := fun p l e s m args below meth c A C H locs ls hl hW => va_mmin C.1 C.2.1 (by rw [C.2.2.1]; exact hl.1.symm) C.2.2.2.2.1 (C.2.2.2.2.2.1 _ h1) (C.2.2.2.2.2.1 _ h2.1) (C.2.2.2.2.2.1 _ h2.2.1) (C.2.2.2.2.2.1 _ h2.2.2) hfr hlc (Nat.zero_le _) (Nat.zero_le _) hd (kk p l e s m args below meth c A C H locs ls hl hW)
theorem j_mmax {idx : Nat} {x y : Int32} (h1 : Cond.methodLink M.1.cls idx Lib.Math.max.name ∈ tb) (h2 : Cond.static Lib.Math.max.name ∈ tb ∧ Cond.initialized "java/lang/Math" ∈ tb ∧ Cond.code Lib.Math.max.name Lib.Math.max.code 2 (some .int) ∈ tb) (hd : decode M.2.1 pc = .ok (.invokestatic idx, 3)) (hfr : 1 ≤ M.2.2.2.2.frames) (hlc : (st.map fun v => v.category).sum + 13 ≤ M.2.2.2.2.locals) (kk : J G M (pc + 3) lo (.int (if x < y then y else x) :: st) w Q) : J G M pc lo (.int y :: .int x :: st) w Q := fun p l e s m args below meth c A C H locs ls hl hW => va_mmax C.1 C.2.1 (by rw [C.2.2.1]; exact hl.1.symm) C.2.2.2.2.1 (C.2.2.2.2.2.1 _ h1) (C.2.2.2.2.2.1 _ h2.1) (C.2.2.2.2.2.1 _ h2.2.1) (C.2.2.2.2.2.1 _ h2.2.2) hfr hlc (Nat.zero_le _) (Nat.zero_le _) hd (kk p l e s m args below meth c A C H locs ls hl hW)
theorem j_ldc {idx : Nat} {v : Int32} (h : Cond.constant M.1.cls idx v ∈ tb) (hd : decode M.2.1 pc = .ok (.ldc idx, 2)) (k : J G M (pc + 2) lo (.int v :: st) w Q) : J G M pc lo st w Q := fun p l e s m args below meth c A C H locs ls hl hW => lv_ldc C.1 C.2.1 C.2.2.2.2.1 (C.2.2.2.2.2.1 _ h) hd (k p l e s m args below meth c A C H locs ls hl hW)
theorem j_ldc2 {idx : Nat} {v : Int64} (h : Cond.constantLong M.1.cls idx v ∈ tb) (hd : decode M.2.1 pc = .ok (.ldc2_w idx, 3)) (k : J G M (pc + 3) lo (.long v :: st) w Q) : J G M pc lo st w Q := fun p l e s m args below meth c A C H locs ls hl hW => lv_ldc2 C.1 C.2.1 C.2.2.2.2.1 (C.2.2.2.2.2.1 _ h) hd (k p l e s m args below meth c A C H locs ls hl hW)
/-- calls: what comes behind stands in the callee's end -/
theorem j_callV {Mc : Mt} {n idx b q0 ci : Nat} {fs : List Value} {q : vw_C} (hM : ML Mc n) (hV : VL M.1.cls idx Mc) (hd : decode M.2.1 pc = .ok (.invokevirtual idx, 3)) (isC : List Nat) (hnd : va_nd isC = true) (hC : isC.map (fun i => w[i]?) = wc.map some) (hq0 : wc[q0]? = some (b, .inr (ci, fs))) (hci : classes[ci]? = some q) (hqc : q.1 = Mc.1.cls) (hlen : (lg_sl (.ref b :: As)).length ≤ Mc.2.2.1) (hR : Mc.2.2.2.2.frames + 1 ≤ M.2.2.2.2.frames ∧ 8 + (Mc.2.2.1 + 11) + Mc.2.2.2.2.locals ≤ M.2.2.2.2.locals) (hn : As.length = n) (hst : st0 = As.reverse ++ .ref b :: st) (hcat : (st.map fun v => v.category).sum ≤ 8)
    (hJ : J G Mc 0 (lv_args 0 (.ref b :: As)) [] wc (fun v w1 => J G M (pc + 3) lo (v.toList ++ st) (putW w isC w1) Q)) : J G M pc lo st0 w Q := fun p l e s m args below meth c A C H locs ls hl hW => w_callV C.1 C.2.1 C.2.2.1 C.2.2.2.2.1 C.2.2.2.2.2.1 C.2.2.2.2.2.2.2.1 C.2.2.2.2.2.2.2.2.1 C.2.2.2.2.2.2.2.2.2 hl.1 hW hM hV isC hnd hC hq0 hci hqc hJ hlen hR ⟨Nat.zero_le _, Nat.zero_le _⟩ hn hst hcat hd (fun v w1 H1 locs1 h1 h2 h3 h4 => J.at h1 h3 C hl h4)
theorem j_callS {Mc : Mt} {n idx : Nat} (hM : ML Mc n) (hV : SL M.1.cls idx Mc) (hd : decode M.2.1 pc = .ok (.invokestatic idx, 3)) (isC : List Nat) (hnd : va_nd isC = true) (hC : isC.map (fun i => w[i]?) = wc.map some) (hlen : (lg_sl As).length ≤ Mc.2.2.1) (hR : Mc.2.2.2.2.frames + 1 ≤ M.2.2.2.2.frames ∧ 8 + (Mc.2.2.1 + 11) + Mc.2.2.2.2.locals ≤ M.2.2.2.2.locals) (hn : As.length = n) (hst : st0 = As.reverse ++ st) (hcat : (st.map fun v => v.category).sum ≤ 8)
    (hJ : J G Mc 0 (lv_args 0 As) [] wc (fun v w1 => J G M (pc + 3) lo (v.toList ++ st) (putW w isC w1) Q)) : J G M pc lo st0 w Q := fun p l e s m args below meth c A C H locs ls hl hW => w_callS C.1 C.2.1 C.2.2.1 C.2.2.2.2.1 C.2.2.2.2.2.1 C.2.2.2.2.2.2.2.1 C.2.2.2.2.2.2.2.2.1 C.2.2.2.2.2.2.2.2.2 hl.1 hW hM hV isC hnd hC hJ hlen hR ⟨Nat.zero_le _, Nat.zero_le _⟩ hn hst hcat hd (fun v w1 H1 locs1 h1 h2 h3 h4 => J.at h1 h3 C hl h4)
/-- a tableswitch: the values are low, low + 1 ..; tg has the targets in their order -/
theorem j_tsw {dflt low high : Int} {offs : Array Int} {len : Nat} {x : Int32} (hd : decode M.2.1 pc = .ok (.tableswitch dflt low high offs, len)) (tg : List (Int32 × Nat)) (dt : Nat) (hdt : (pc : Int) + dflt = (dt : Int)) (hlen : low + tg.length = high + 1) (hok : (List.range tg.length).all (fun j => match tg[j]?, offs[j]? with | some (v, t), some o => decide (v.toInt = low + j) && decide ((pc : Int) + o = t) | _, _ => false) = true)
    (k : ∀ v t, (v, t) ∈ tg → x = v → J G M t lo st w Q) (kd : (∀ v t, (v, t) ∈ tg → ¬ x = v) → J G M dt lo st w Q) : J G M pc lo (.int x :: st) w Q := by
  have key : ∀ j : Nat, j < tg.length → ∃ v t o, tg[j]? = some (v, t) ∧ offs[j]? = some o ∧ v.toInt = low + j ∧ (pc : Int) + o = t := by
    intro j hj
    have h1 := List.all_eq_true.mp hok j (List.mem_range.mpr hj)
    cases ha : tg[j]? with
    | none => rw [ha] at h1; cases h1
    | some vt =>
      obtain ⟨v, t⟩ := vt
      cases hb : offs[j]? with
      | none => rw [ha, hb] at h1; cases h1
      | some o =>
        rw [ha, hb] at h1
        simp only [Bool.and_eq_true, decide_eq_true_eq] at h1
        exact ⟨v, t, o, rfl, rfl, h1.1, h1.2⟩
  by_cases hr : x.toInt < low ∨ high < x.toInt
  · have hno : ∀ v t, (v, t) ∈ tg → ¬ x = v := by
      intro v t hm hx
      obtain ⟨j, hj⟩ := List.getElem?_of_mem hm
      have hjl := (List.getElem?_eq_some_iff.mp hj).1
      obtain ⟨v2, t2, o, h1, h2, h3, h4⟩ := key j hjl
      rw [hj] at h1
      cases h1
      subst hx
      rcases hr with h | h <;> omega
    exact fun p l e s m args below meth c A C H locs ls hl hW => lv_tableOut C.1 C.2.1 hd hr hdt (kd hno p l e s m args below meth c A C H locs ls hl hW)
  · have h1 : ¬ x.toInt < low := fun h => hr (Or.inl h)
    have h2 : ¬ high < x.toInt := fun h => hr (Or.inr h)
    obtain ⟨v, t, o, g1, g2, g3, g4⟩ := key (x.toInt - low).toNat (by omega)
    have hx : x = v := Int32.toInt_inj.mp (by rw [g3]; omega)
    exact fun p l e s m args below meth c A C H locs ls hl hW => lv_tableIn C.1 C.2.1 hd h1 h2 g2 g4 (k v t (List.mem_of_getElem? g1) hx p l e s m args below meth c A C H locs ls hl hW)
end JM
section JX
variable {G : GG} {M : Mt} {pc : Nat} {lo lo' : List (Nat × Value)} {st st0 As : List Value} {w w' wc : va_W} {Q Q' : Option Value → va_W → Prop}
theorem j_cpy (q0 q1 : Nat) {a0 a1 n0 n1 idx : Nat} {f g : Nat → Int32} {sp dp n : Int32} (sp' dp' n' : Nat) (hA : AC M.1.cls idx) (hd : decode M.2.1 pc = .ok (.invokestatic idx, 3)) (ha0 : w[q0]? = some (a0, .inl (G.2.1.1, n0, .inl f))) (ha1 : w[q1]? = some (a1, .inl (G.2.1.1, n1, .inl g))) (h0 : ¬ sp < 0 ∧ ¬ dp < 0 ∧ ¬ n < 0 ∧ sp.toNatClampNeg = sp' ∧ dp.toNatClampNeg = dp' ∧ n.toNatClampNeg = n') (h4 : sp' + n' ≤ n0) (h5 : dp' + n' ≤ n1) (hfr : 1 ≤ M.2.2.2.2.frames) (hlc : (st.map fun v => v.category).sum + (nativeFrameWords "java/lang/System" "arraycopy" 5 + 11) ≤ M.2.2.2.2.locals)
    (hw : w.set q1 (a1, .inl (G.2.1.1, n1, .inl (va_cpy f g sp' dp' n'))) = w') (kk : J G M (pc + 3) lo st w' Q) : J G M pc lo (.int n :: .int dp :: .ref a1 :: .int sp :: .ref a0 :: st) w Q := by
  obtain ⟨h1, h2, h3, rfl, rfl, rfl⟩ := h0
  exact j_copyi q0 q1 hA hd ha0 ha1 h1 h2 h3 h4 h5 hfr hlc hw kk
theorem j_lsw2 {dflt o0 o1 : Int} {len : Nat} {x : Int32} {v0 v1 : Int32} {t0 t1 dt : Nat} (hd : decode M.2.1 pc = .ok (.lookupswitch dflt #[(v0.toInt, o0), (v1.toInt, o1)], len)) (hv : v0.toInt < v1.toInt) (h0 : (pc : Int) + o0 = t0) (h1 : (pc : Int) + o1 = t1) (h2 : (pc : Int) + dflt = dt)
    (k0 : x = v0 → J G M t0 lo st w Q) (k1 : x = v1 → J G M t1 lo st w Q) (kd : (¬ x = v0 ∧ ¬ x = v1) → J G M dt lo st w Q) : J G M pc lo (.int x :: st) w Q := by
  have hp : ((#[(v0.toInt, o0), (v1.toInt, o1)] : Array (Int × Int)).toList.zip ((#[(v0.toInt, o0), (v1.toInt, o1)] : Array (Int × Int)).toList.drop 1)).all (fun (a, next) => a.1 < next.1) = true := by simp [hv]
  by_cases e0 : x = v0
  · exact fun p l e s m args below meth c A C H locs ls hl hW => lv_lookup C.1 C.2.1 hd hp (by simp [Op.lookupswitch.offset, e0]) h0 (k0 e0 p l e s m args below meth c A C H locs ls hl hW)
  · have f0 : ¬ x.toInt = v0.toInt := fun h => e0 (Int32.toInt_inj.mp h)
    by_cases e1 : x = v1
    · have f1 : ¬ v1.toInt = v0.toInt := by omega
      exact fun p l e s m args below meth c A C H locs ls hl hW => lv_lookup C.1 C.2.1 hd hp (by subst e1; simp [Op.lookupswitch.offset, f1, Ne.symm f1, eq_comm]) h1 (k1 e1 p l e s m args below meth c A C H locs ls hl hW)
    · have f1 : ¬ x.toInt = v1.toInt := fun h => e1 (Int32.toInt_inj.mp h)
      exact fun p l e s m args below meth c A C H locs ls hl hW => lv_lookup C.1 C.2.1 hd hp (by simp [Op.lookupswitch.offset, f0, f1, Ne.symm f0, Ne.symm f1, eq_comm]) h2 (kd ⟨e0, e1⟩ p l e s m args below meth c A C H locs ls hl hW)
theorem sub_self {w : va_W} : (List.range w.length).map (fun i => w[i]?) = w.map some := by
  apply List.ext_getElem?
  intro i
  rw [List.getElem?_map, List.getElem?_map]
  by_cases h : i < w.length
  · rw [List.getElem?_range h]
    simp [h]
  · rw [List.getElem?_eq_none (by simpa using h), List.getElem?_eq_none (by simpa using h)]
    rfl
theorem nd_range : ∀ (w : List Nat), w.Nodup → va_nd w = true
  | [], _ => rfl
  | a :: l, h => by
    rw [List.nodup_cons] at h
    simp only [va_nd, Bool.and_eq_true, decide_eq_true_eq]
    exact ⟨h.1, nd_range l h.2⟩
theorem putW_nil (w : va_W) (is : List Nat) : putW w is [] = w := by cases is <;> rfl
theorem putW_go : ∀ (w1 pre suf : va_W), w1.length = suf.length → putW (pre ++ suf) (List.range' pre.length suf.length) w1 = pre ++ w1
  | [], pre, suf, h => by
    cases suf with
    | nil => rfl
    | cons a b => simp at h
  | x :: xs, pre, [], h => by simp at h
  | x :: xs, pre, y :: ys, h => by
    show putW ((pre ++ y :: ys).set pre.length x) (List.range' (pre.length + 1) ys.length) xs = _
    have e : (pre ++ y :: ys).set pre.length x = (pre ++ [x]) ++ ys := by simp [List.set_append]
    rw [e]
    have h2 := putW_go xs (pre ++ [x]) ys (by simpa using h)
    rw [List.length_append] at h2
    have e3 : pre.length + [x].length = pre.length + 1 := rfl
    rw [e3] at h2
    rw [h2]
    simp
theorem putW_all {w w1 : va_W} (h : w1.map Prod.fst = w.map Prod.fst) : putW w (List.range w.length) w1 = w1 := by
  have hl : w1.length = w.length := by
    have := congrArg List.length h
    simpa using this
  have := putW_go w1 [] w hl
  rw [List.range_eq_range']
  exact this
theorem j_callV0 {Mc : Mt} {n idx b q0 ci : Nat} {fs : List Value} {q : vw_C} (hM : ML Mc n) (hV : VL M.1.cls idx Mc) (hd : decode M.2.1 pc = .ok (.invokevirtual idx, 3)) (hq0 : w[q0]? = some (b, .inr (ci, fs))) (hci : classes[ci]? = some q) (hqc : q.1 = Mc.1.cls) (hlen : (lg_sl (.ref b :: As)).length ≤ Mc.2.2.1) (hR : Mc.2.2.2.2.frames + 1 ≤ M.2.2.2.2.frames ∧ 8 + (Mc.2.2.1 + 11) + Mc.2.2.2.2.locals ≤ M.2.2.2.2.locals) (hn : As.length = n) (hst : st0 = As.reverse ++ .ref b :: st) (hcat : (st.map fun v => v.category).sum ≤ 8)
    (hJ : J G Mc 0 (lv_args 0 (.ref b :: As)) [] w (fun v w1 => J G M (pc + 3) lo (v.toList ++ st) w1 Q)) : J G M pc lo st0 w Q := fun p l e s m args below meth c A C H locs ls hl hW => w_callV C.1 C.2.1 C.2.2.1 C.2.2.2.2.1 C.2.2.2.2.2.1 C.2.2.2.2.2.2.2.1 C.2.2.2.2.2.2.2.2.1 C.2.2.2.2.2.2.2.2.2 hl.1 hW hM hV (List.range w.length) (nd_range _ List.nodup_range) sub_self hq0 hci hqc hJ hlen hR ⟨Nat.zero_le _, Nat.zero_le _⟩ hn hst hcat hd (fun v w1 H1 locs1 h1 h2 h3 h4 => by
  rw [putW_all h2] at h3 h4
  exact J.at h1 h3 C hl h4)
theorem j_callS0 {Mc : Mt} {n idx : Nat} (hM : ML Mc n) (hV : SL M.1.cls idx Mc) (hd : decode M.2.1 pc = .ok (.invokestatic idx, 3)) (hlen : (lg_sl As).length ≤ Mc.2.2.1) (hR : Mc.2.2.2.2.frames + 1 ≤ M.2.2.2.2.frames ∧ 8 + (Mc.2.2.1 + 11) + Mc.2.2.2.2.locals ≤ M.2.2.2.2.locals) (hn : As.length = n) (hst : st0 = As.reverse ++ st) (hcat : (st.map fun v => v.category).sum ≤ 8)
    (hJ : J G Mc 0 (lv_args 0 As) [] [] (fun v w1 => J G M (pc + 3) lo (v.toList ++ st) w Q)) : J G M pc lo st0 w Q := fun p l e s m args below meth c A C H locs ls hl hW => w_callS C.1 C.2.1 C.2.2.1 C.2.2.2.2.1 C.2.2.2.2.2.1 C.2.2.2.2.2.2.2.1 C.2.2.2.2.2.2.2.2.1 C.2.2.2.2.2.2.2.2.2 hl.1 hW hM hV [] rfl rfl hJ hlen hR ⟨Nat.zero_le _, Nat.zero_le _⟩ hn hst hcat hd (fun v w1 H1 locs1 h1 h2 h3 h4 => by
  have e : putW w [] w1 = w := by cases w1 <;> rfl
  rw [e] at h4
  exact J.at h1 rfl C hl h4)
end JX
