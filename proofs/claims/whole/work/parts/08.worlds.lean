/-! the worlds: what cells an object of each class is, at addresses ad b, ad (b + 1) .. -/
abbrev arC (G : GG) (n : Nat) (f : Nat → Int32) : va_E := .inl (G.2.1.1, n, .inl f)
def pk (ad : Nat → Nat) (l : List Nat) : Nat → Nat := fun k => ad (l.getD k 0)
def ow (ad : Nat → Nat) (b : Nat) : Nat → Option Nat := fun i => match i with
  | 0 => some (ad b)
  | 1 => some (ad (b + 1))
  | 2 => some (ad (b + 2))
  | 3 => some (ad (b + 3))
  | 4 => some (ad (b + 4))
  | 5 => some (ad (b + 5))
  | _ => none
abbrev owC (G : GG) (ad : Nat → Nat) (b : Nat) : va_E := .inl (G.2.1.2, 6, .inr (.inr (.inr (.inr (ow ad b)))))
def faW (G : GG) (ad : Nat → Nat) (b : Nat) (g l : Nat → Int32) (n : Int32) : va_W := [(ad b, .inr (0, [.ref (ad (b + 1)), .ref (ad (b + 2)), .int n])), (ad (b + 1), arC G 12 g), (ad (b + 2), arC G 12 l)]
def fiW (G : GG) (ad : Nat → Nat) (b : Nat) (n : Nat → Int32) (d : Nat → Nat → Int32) : va_W := [(ad b, .inr (1, [.ref (ad (b + 1)), .ref (ad (b + 2))])), (ad (b + 1), owC G ad (b + 3)), (ad (b + 2), arC G 6 n), (ad (b + 3), arC G 8 (d 0)), (ad (b + 4), arC G 8 (d 1)), (ad (b + 5), arC G 8 (d 2)), (ad (b + 6), arC G 8 (d 3)), (ad (b + 7), arC G 8 (d 4)), (ad (b + 8), arC G 8 (d 5))]
def pgW (G : GG) (ad : Nat → Nat) (b : Nat) (f : Nat → Int32) (n : Int32) : va_W := [(ad b, .inr (2, [.ref (ad (b + 1)), .int n])), (ad (b + 1), arC G 20 f)]
def stW (G : GG) (ad : Nat → Nat) (b : Nat) (u d : Nat → Nat → Int32) : va_W := [(ad b, .inr (4, [.ref (ad (b + 1)), .ref (ad (b + 2)), .ref (ad (b + 3)), .ref (ad (b + 4)), .ref (ad (b + 5)), .ref (ad (b + 6)), .ref (ad (b + 7)), .ref (ad (b + 8))])), (ad (b + 1), arC G 6 (u 0)), (ad (b + 2), arC G 6 (u 1)), (ad (b + 3), arC G 6 (u 2)), (ad (b + 4), arC G 6 (u 3)), (ad (b + 5), arC G 6 (u 4)), (ad (b + 6), arC G 6 (u 5)), (ad (b + 7), arC G 6 (u 6)), (ad (b + 8), owC G ad (b + 9)), (ad (b + 9), arC G 12 (d 0)), (ad (b + 10), arC G 12 (d 1)), (ad (b + 11), arC G 12 (d 2)), (ad (b + 12), arC G 12 (d 3)), (ad (b + 13), arC G 12 (d 4)), (ad (b + 14), arC G 12 (d 5))]
def scW (G : GG) (ad : Nat → Nat) (b : Nat) (u d : Nat → Nat → Int32) (g l : Nat → Int32) (n : Int32) (fn : Nat → Int32) (fd : Nat → Nat → Int32) : va_W := (ad b, .inr (3, [.ref (ad (b + 1)), .ref (ad (b + 16)), .ref (ad (b + 19))])) :: (stW G ad (b + 1) u d ++ (faW G ad (b + 16) g l n ++ fiW G ad (b + 19) fn fd))
def tuW (_ : GG) (ad : Nat → Nat) (b : Nat) (t : Nat → Int32) : va_W := [(ad b, .inr (5, [.int (t 0), .int (t 1), .int (t 2)]))]
def arW (G : GG) (ad : Nat → Nat) (b n : Nat) (f : Nat → Int32) : va_W := [(ad b, arC G n f)]
/-- the class's object: v is imageKept, streetsRead, fewTurnsDone, ordersDone -/
def rlW (G : GG) (ad : Nat → Nat) (b : Nat) (pf : Nat → Int32) (pn : Int32) (u d : Nat → Nat → Int32) (g l : Nat → Int32) (n : Int32) (fn : Nat → Int32) (fd : Nat → Nat → Int32) (ku kd : Nat → Nat → Int32) (kg kl : Nat → Int32) (kn : Int32) (kfn : Nat → Int32) (kfd : Nat → Nat → Int32) (tu td : Nat → Nat → Int32) (t : Nat → Int32) (wa le se : Nat → Int32) (v : Nat → Int32) : va_W :=
  (ad b, .inr (6, [.ref (ad (b + 1)), .ref (ad (b + 3)), .ref (ad (b + 31)), .ref (ad (b + 59)), .ref (ad (b + 74)), .ref (ad (b + 75)), .ref (ad (b + 76)), .ref (ad (b + 77)), .int (v 0), .int (v 1), .int (v 2), .int (v 3)])) ::
    (pgW G ad (b + 1) pf pn ++ (scW G ad (b + 3) u d g l n fn fd ++ (scW G ad (b + 31) ku kd kg kl kn kfn kfd ++ (stW G ad (b + 59) tu td ++ (tuW G ad (b + 74) t ++ (arW G ad (b + 75) 8 wa ++ (arW G ad (b + 76) 6 le ++ arW G ad (b + 77) 977 se)))))))
/-- the reference's object: a its 20 arrays (page kinds ways rows rainGutter rainLetter again againKinds againWays againLetter came order foundMany foundRows keptWays keptRows keptGutter keptLetter keptFoundMany keptFound), v its ints (pageMany isThere streetsRead rainMany fewMany orderMany seedNow keptStreet keptRainMany) -/
def mdW (G : GG) (ad : Nat → Nat) (b : Nat) (a : Nat → Nat → Int32) (v : Nat → Int32) (hh : Int64) : va_W := [
  (ad b, .inr (7, [.ref (ad (b + 1)), .int (v 0), .int (v 1), .int (v 2), .ref (ad (b + 2)), .ref (ad (b + 3)), .ref (ad (b + 4)), .int (v 3), .ref (ad (b + 5)), .ref (ad (b + 6)), .ref (ad (b + 7)), .ref (ad (b + 8)), .ref (ad (b + 9)), .ref (ad (b + 10)), .int (v 4), .int (v 5), .ref (ad (b + 11)), .ref (ad (b + 12)), .ref (ad (b + 13)), .ref (ad (b + 14)), .int (v 6), .int (v 7), .int (v 8), .ref (ad (b + 15)), .ref (ad (b + 16)), .ref (ad (b + 17)), .ref (ad (b + 18)), .ref (ad (b + 19)), .ref (ad (b + 20)), .long hh])),
  (ad (b + 1), arC G 20 (a 0)), (ad (b + 2), arC G 6 (a 1)), (ad (b + 3), arC G 6 (a 2)), (ad (b + 4), arC G 102 (a 3)), (ad (b + 5), arC G 12 (a 4)), (ad (b + 6), arC G 12 (a 5)), (ad (b + 7), arC G 102 (a 6)), (ad (b + 8), arC G 6 (a 7)), (ad (b + 9), arC G 6 (a 8)), (ad (b + 10), arC G 12 (a 9)), (ad (b + 11), arC G 55987 (a 10)), (ad (b + 12), arC G 6 (a 11)), (ad (b + 13), arC G 6 (a 12)), (ad (b + 14), arC G 48 (a 13)), (ad (b + 15), arC G 6 (a 14)), (ad (b + 16), arC G 102 (a 15)), (ad (b + 17), arC G 12 (a 16)), (ad (b + 18), arC G 12 (a 17)), (ad (b + 19), arC G 6 (a 18)), (ad (b + 20), arC G 48 (a 19))]
theorem row6 {P : Nat → Prop} (h0 : P 0) (h1 : P 1) (h2 : P 2) (h3 : P 3) (h4 : P 4) (h5 : P 5) {i : Nat} (hi : i < 6) : P i := by
  match i, hi with
  | 0, _ => exact h0
  | 1, _ => exact h1
  | 2, _ => exact h2
  | 3, _ => exact h3
  | 4, _ => exact h4
  | 5, _ => exact h5
theorem ow_rf {ad : Nat → Nat} {b : Nat} {i : Int32} (h : vp_in i 6) : va_rf (ow ad b i.toNatClampNeg) = .ref (ad (b + i.toNatClampNeg)) := by
  have hlt : i.toNatClampNeg < 6 := Nat.not_le.mp fun q => h (Or.inr q)
  exact row6 (P := fun k => va_rf (ow ad b k) = .ref (ad (b + k))) rfl rfl rfl rfl rfl rfl hlt
theorem in_lt {i : Int32} {n : Nat} (h : vp_in i n) : i.toNatClampNeg < n := Nat.not_le.mp fun q => h (Or.inr q)
def NLs (own : String) (idx : Nat) (Mc : Mt) : Prop := own = RX2 ∧ idx = 44 ∧ Mc.1 = yX6_isLetter ∧ Cond.static Mc.1 ∈ tb
theorem sl_X2_44 : NLs RX2 44 mX6_isLetter := ⟨rfl, rfl, rfl, st_X6_isLetter⟩
theorem j_callSN0 {G : GG} {M : Mt} {pc : Nat} {lo : List (Nat × Value)} {st st0 As : List Value} {w : va_W} {Q : Option Value → va_W → Prop} {Mc : Mt} {n idx : Nat} (hM : ML Mc n) (hV : NLs M.1.cls idx Mc) (hd : decode M.2.1 pc = .ok (.invokestatic idx, 3)) (hlen : (lg_sl As).length ≤ Mc.2.2.1) (hR : Mc.2.2.2.2.frames + 1 ≤ M.2.2.2.2.frames ∧ 8 + (Mc.2.2.1 + 11) + Mc.2.2.2.2.locals ≤ M.2.2.2.2.locals) (hn : As.length = n) (hst : st0 = As.reverse ++ st) (hcat : (st.map fun v => v.category).sum ≤ 8)
    (hJ : J G Mc 0 (lv_args 0 As) [] [] (fun v w1 => J G M (pc + 3) lo (v.toList ++ st) w Q)) : J G M pc lo st0 w Q := fun p l e s m args below meth c A C H locs ls hl hW => by
  obtain ⟨h1, h2, h3, h4⟩ := hV
  have hx : va_Nw (.methodLinkNest M.1.cls idx Mc.1 RX6) s := by rw [h1, h2, h3]; exact C.2.2.2.2.2.2.2.2.2.2.2.2
  exact w_callSN C.1 C.2.1 C.2.2.1 C.2.2.2.2.1 C.2.2.2.2.2.1 C.2.2.2.2.2.2.2.1 C.2.2.2.2.2.2.2.2.1 C.2.2.2.2.2.2.2.2.2 hl.1 hW hM hx h4 [] ⟨by cases w <;> rfl, Nat.zero_le _, rfl, rfl⟩ hJ hlen hR ⟨Nat.zero_le _, Nat.zero_le _⟩ hn hst hcat hd (fun v w1 H1 locs1 h1 h2 h3 h4 => by
    have e : mrg w w1 [] = w := by cases w <;> rfl
    rw [e] at h4
    exact J.at h1 rfl C hl h4)
