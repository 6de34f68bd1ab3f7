section
-- ===== PART A: goes FIRST, ahead of the names: the tables' words, and 'selects' of the private methods out of them =====
/-- a private method of a class that the tables say can be made, by its rows of tables_1 -/
def lw_okq (q : MethodName × Nat) : Prop := (q.1.cls ≠ "java/lang/invoke/MethodHandle" ∧ q.1.cls ≠ "java/lang/invoke/VarHandle") ∧ Cond.instantiable q.1.cls q.2 ∈ tables_1 ∧ Cond.privateMethod q.1 ∈ tables_1 ∧ Cond.instanceMethod q.1 ∈ tables_1
theorem lw_p0 : lw_okq (⟨"RainLetters$Page", "fitsStreet", "(I)Z"⟩, 2) := ⟨⟨by decide +kernel, by decide +kernel⟩, List.mem_of_getElem? (i := 27) (by decide +kernel), List.mem_of_getElem? (i := 219) (by decide +kernel), List.mem_of_getElem? (i := 220) (by decide +kernel)⟩
theorem lw_p1 : lw_okq (⟨"RainLetters$Page", "fitsWord", "(I)Z"⟩, 2) := ⟨⟨by decide +kernel, by decide +kernel⟩, List.mem_of_getElem? (i := 27) (by decide +kernel), List.mem_of_getElem? (i := 318) (by decide +kernel), List.mem_of_getElem? (i := 319) (by decide +kernel)⟩
theorem lw_p2 : lw_okq (⟨"RainLetters", "isGutter", "(I)Z"⟩, 12) := ⟨⟨by decide +kernel, by decide +kernel⟩, List.mem_of_getElem? (i := 19) (by decide +kernel), List.mem_of_getElem? (i := 351) (by decide +kernel), List.mem_of_getElem? (i := 352) (by decide +kernel)⟩
theorem lw_p3 : lw_okq (⟨"RainLetters", "hasStreet", "()Z"⟩, 12) := ⟨⟨by decide +kernel, by decide +kernel⟩, List.mem_of_getElem? (i := 19) (by decide +kernel), List.mem_of_getElem? (i := 355) (by decide +kernel), List.mem_of_getElem? (i := 356) (by decide +kernel)⟩
theorem lw_p4 : lw_okq (⟨"RainLetters$Street", "passOn", "(II)I"⟩, 8) := ⟨⟨by decide +kernel, by decide +kernel⟩, List.mem_of_getElem? (i := 49) (by decide +kernel), List.mem_of_getElem? (i := 380) (by decide +kernel), List.mem_of_getElem? (i := 381) (by decide +kernel)⟩
theorem lw_p5 : lw_okq (⟨"RainLetters$Street", "letsThrough", "(II)Z"⟩, 8) := ⟨⟨by decide +kernel, by decide +kernel⟩, List.mem_of_getElem? (i := 49) (by decide +kernel), List.mem_of_getElem? (i := 384) (by decide +kernel), List.mem_of_getElem? (i := 385) (by decide +kernel)⟩
theorem lw_p6 : lw_okq (⟨"RainLetters$Street", "runOut", "(II)V"⟩, 8) := ⟨⟨by decide +kernel, by decide +kernel⟩, List.mem_of_getElem? (i := 49) (by decide +kernel), List.mem_of_getElem? (i := 388) (by decide +kernel), List.mem_of_getElem? (i := 389) (by decide +kernel)⟩
theorem lw_p7 : lw_okq (⟨"RainLetters", "isDrop", "(I)Z"⟩, 12) := ⟨⟨by decide +kernel, by decide +kernel⟩, List.mem_of_getElem? (i := 19) (by decide +kernel), List.mem_of_getElem? (i := 396) (by decide +kernel), List.mem_of_getElem? (i := 397) (by decide +kernel)⟩
theorem lw_p8 : lw_okq (⟨"RainLetters", "seekTurns", "(I)V"⟩, 12) := ⟨⟨by decide +kernel, by decide +kernel⟩, List.mem_of_getElem? (i := 19) (by decide +kernel), List.mem_of_getElem? (i := 416) (by decide +kernel), List.mem_of_getElem? (i := 417) (by decide +kernel)⟩
theorem lw_p9 : lw_okq (⟨"RainLetters", "countWords", "(I)I"⟩, 12) := ⟨⟨by decide +kernel, by decide +kernel⟩, List.mem_of_getElem? (i := 19) (by decide +kernel), List.mem_of_getElem? (i := 473) (by decide +kernel), List.mem_of_getElem? (i := 474) (by decide +kernel)⟩
theorem lw_p10 : lw_okq (⟨"RainLetters", "runMixed", "(II)V"⟩, 12) := ⟨⟨by decide +kernel, by decide +kernel⟩, List.mem_of_getElem? (i := 19) (by decide +kernel), List.mem_of_getElem? (i := 479) (by decide +kernel), List.mem_of_getElem? (i := 480) (by decide +kernel)⟩
theorem lw_p11 : lw_okq (⟨"RainLetters", "noteWord", "(I)Z"⟩, 12) := ⟨⟨by decide +kernel, by decide +kernel⟩, List.mem_of_getElem? (i := 19) (by decide +kernel), List.mem_of_getElem? (i := 487) (by decide +kernel), List.mem_of_getElem? (i := 488) (by decide +kernel)⟩
theorem lw_p12 : lw_okq (⟨"RainLetters", "mixGutters", "(J)J"⟩, 12) := ⟨⟨by decide +kernel, by decide +kernel⟩, List.mem_of_getElem? (i := 19) (by decide +kernel), List.mem_of_getElem? (i := 580) (by decide +kernel), List.mem_of_getElem? (i := 581) (by decide +kernel)⟩
theorem lw_p13 : lw_okq (⟨"RainLetters", "mixDrops", "(J)J"⟩, 12) := ⟨⟨by decide +kernel, by decide +kernel⟩, List.mem_of_getElem? (i := 19) (by decide +kernel), List.mem_of_getElem? (i := 591) (by decide +kernel), List.mem_of_getElem? (i := 592) (by decide +kernel)⟩
theorem lw_p14 : lw_okq (⟨"RainLettersModel", "faultOf", "(I)I"⟩, 30) := ⟨⟨by decide +kernel, by decide +kernel⟩, List.mem_of_getElem? (i := 598) (by decide +kernel), List.mem_of_getElem? (i := 712) (by decide +kernel), List.mem_of_getElem? (i := 713) (by decide +kernel)⟩
theorem lw_p15 : lw_okq (⟨"RainLettersModel", "outs", "()I"⟩, 30) := ⟨⟨by decide +kernel, by decide +kernel⟩, List.mem_of_getElem? (i := 598) (by decide +kernel), List.mem_of_getElem? (i := 732) (by decide +kernel), List.mem_of_getElem? (i := 733) (by decide +kernel)⟩
def lw_privs_1 : List (MethodName × Nat) := [(⟨"RainLetters$Page", "fitsStreet", "(I)Z"⟩, 2), (⟨"RainLetters$Page", "fitsWord", "(I)Z"⟩, 2), (⟨"RainLetters", "isGutter", "(I)Z"⟩, 12), (⟨"RainLetters", "hasStreet", "()Z"⟩, 12), (⟨"RainLetters$Street", "passOn", "(II)I"⟩, 8), (⟨"RainLetters$Street", "letsThrough", "(II)Z"⟩, 8), (⟨"RainLetters$Street", "runOut", "(II)V"⟩, 8), (⟨"RainLetters", "isDrop", "(I)Z"⟩, 12), (⟨"RainLetters", "seekTurns", "(I)V"⟩, 12), (⟨"RainLetters", "countWords", "(I)I"⟩, 12), (⟨"RainLetters", "runMixed", "(II)V"⟩, 12), (⟨"RainLetters", "noteWord", "(I)Z"⟩, 12), (⟨"RainLetters", "mixGutters", "(J)J"⟩, 12), (⟨"RainLetters", "mixDrops", "(J)J"⟩, 12), (⟨"RainLettersModel", "faultOf", "(I)I"⟩, 30), (⟨"RainLettersModel", "outs", "()I"⟩, 30)]
theorem lw_r1 : ∀ q ∈ lw_privs_1, lw_okq q := List.forall_mem_cons.mpr ⟨lw_p0, List.forall_mem_cons.mpr ⟨lw_p1, List.forall_mem_cons.mpr ⟨lw_p2, List.forall_mem_cons.mpr ⟨lw_p3, List.forall_mem_cons.mpr ⟨lw_p4, List.forall_mem_cons.mpr ⟨lw_p5, List.forall_mem_cons.mpr ⟨lw_p6, List.forall_mem_cons.mpr ⟨lw_p7, List.forall_mem_cons.mpr ⟨lw_p8, List.forall_mem_cons.mpr ⟨lw_p9, List.forall_mem_cons.mpr ⟨lw_p10, List.forall_mem_cons.mpr ⟨lw_p11, List.forall_mem_cons.mpr ⟨lw_p12, List.forall_mem_cons.mpr ⟨lw_p13, List.forall_mem_cons.mpr ⟨lw_p14, List.forall_mem_cons.mpr ⟨lw_p15, fun _ h => absurd h List.not_mem_nil⟩⟩⟩⟩⟩⟩⟩⟩⟩⟩⟩⟩⟩⟩⟩⟩
theorem lw_p16 : lw_okq (⟨"RainLettersModel", "isGutter", "(I)Z"⟩, 30) := ⟨⟨by decide +kernel, by decide +kernel⟩, List.mem_of_getElem? (i := 598) (by decide +kernel), List.mem_of_getElem? (i := 740) (by decide +kernel), List.mem_of_getElem? (i := 741) (by decide +kernel)⟩
theorem lw_p17 : lw_okq (⟨"RainLettersModel", "tell", "(II)I"⟩, 30) := ⟨⟨by decide +kernel, by decide +kernel⟩, List.mem_of_getElem? (i := 598) (by decide +kernel), List.mem_of_getElem? (i := 744) (by decide +kernel), List.mem_of_getElem? (i := 745) (by decide +kernel)⟩
theorem lw_p18 : lw_okq (⟨"RainLettersModel", "isPageWord", "()Z"⟩, 30) := ⟨⟨by decide +kernel, by decide +kernel⟩, List.mem_of_getElem? (i := 598) (by decide +kernel), List.mem_of_getElem? (i := 784) (by decide +kernel), List.mem_of_getElem? (i := 785) (by decide +kernel)⟩
theorem lw_p19 : lw_okq (⟨"RainLettersModel", "asItIs", "()V"⟩, 30) := ⟨⟨by decide +kernel, by decide +kernel⟩, List.mem_of_getElem? (i := 598) (by decide +kernel), List.mem_of_getElem? (i := 788) (by decide +kernel), List.mem_of_getElem? (i := 789) (by decide +kernel)⟩
theorem lw_p20 : lw_okq (⟨"RainLettersModel", "layWays", "(I)I"⟩, 30) := ⟨⟨by decide +kernel, by decide +kernel⟩, List.mem_of_getElem? (i := 598) (by decide +kernel), List.mem_of_getElem? (i := 795) (by decide +kernel), List.mem_of_getElem? (i := 796) (by decide +kernel)⟩
theorem lw_p21 : lw_okq (⟨"RainLettersModel", "fallsAgain", "()V"⟩, 30) := ⟨⟨by decide +kernel, by decide +kernel⟩, List.mem_of_getElem? (i := 598) (by decide +kernel), List.mem_of_getElem? (i := 802) (by decide +kernel), List.mem_of_getElem? (i := 803) (by decide +kernel)⟩
theorem lw_p22 : lw_okq (⟨"RainLettersModel", "hasPage", "(I)Z"⟩, 30) := ⟨⟨by decide +kernel, by decide +kernel⟩, List.mem_of_getElem? (i := 598) (by decide +kernel), List.mem_of_getElem? (i := 806) (by decide +kernel), List.mem_of_getElem? (i := 807) (by decide +kernel)⟩
theorem lw_p23 : lw_okq (⟨"RainLettersModel", "isOrder", "(II)Z"⟩, 30) := ⟨⟨by decide +kernel, by decide +kernel⟩, List.mem_of_getElem? (i := 598) (by decide +kernel), List.mem_of_getElem? (i := 814) (by decide +kernel), List.mem_of_getElem? (i := 815) (by decide +kernel)⟩
theorem lw_p24 : lw_okq (⟨"RainLettersModel", "wordOf", "(I)I"⟩, 30) := ⟨⟨by decide +kernel, by decide +kernel⟩, List.mem_of_getElem? (i := 598) (by decide +kernel), List.mem_of_getElem? (i := 818) (by decide +kernel), List.mem_of_getElem? (i := 819) (by decide +kernel)⟩
theorem lw_p25 : lw_okq (⟨"RainLettersModel", "founds", "()I"⟩, 30) := ⟨⟨by decide +kernel, by decide +kernel⟩, List.mem_of_getElem? (i := 598) (by decide +kernel), List.mem_of_getElem? (i := 833) (by decide +kernel), List.mem_of_getElem? (i := 834) (by decide +kernel)⟩
theorem lw_p26 : lw_okq (⟨"RainLettersModel", "kindBits", "(I)I"⟩, 30) := ⟨⟨by decide +kernel, by decide +kernel⟩, List.mem_of_getElem? (i := 598) (by decide +kernel), List.mem_of_getElem? (i := 845) (by decide +kernel), List.mem_of_getElem? (i := 846) (by decide +kernel)⟩
theorem lw_p27 : lw_okq (⟨"RainLettersModel", "isFound", "()Z"⟩, 30) := ⟨⟨by decide +kernel, by decide +kernel⟩, List.mem_of_getElem? (i := 598) (by decide +kernel), List.mem_of_getElem? (i := 849) (by decide +kernel), List.mem_of_getElem? (i := 850) (by decide +kernel)⟩
theorem lw_p28 : lw_okq (⟨"RainLettersModel", "letterBits", "(I)I"⟩, 30) := ⟨⟨by decide +kernel, by decide +kernel⟩, List.mem_of_getElem? (i := 598) (by decide +kernel), List.mem_of_getElem? (i := 857) (by decide +kernel), List.mem_of_getElem? (i := 858) (by decide +kernel)⟩
theorem lw_p29 : lw_okq (⟨"RainLettersModel", "draw", "(I)I"⟩, 30) := ⟨⟨by decide +kernel, by decide +kernel⟩, List.mem_of_getElem? (i := 598) (by decide +kernel), List.mem_of_getElem? (i := 866) (by decide +kernel), List.mem_of_getElem? (i := 867) (by decide +kernel)⟩
theorem lw_p30 : lw_okq (⟨"RainLettersModel", "countOf", "(I)I"⟩, 30) := ⟨⟨by decide +kernel, by decide +kernel⟩, List.mem_of_getElem? (i := 598) (by decide +kernel), List.mem_of_getElem? (i := 886) (by decide +kernel), List.mem_of_getElem? (i := 887) (by decide +kernel)⟩
theorem lw_p31 : lw_okq (⟨"RainLettersModel", "sayGutter", "(I)V"⟩, 30) := ⟨⟨by decide +kernel, by decide +kernel⟩, List.mem_of_getElem? (i := 598) (by decide +kernel), List.mem_of_getElem? (i := 895) (by decide +kernel), List.mem_of_getElem? (i := 896) (by decide +kernel)⟩
def lw_privs_2 : List (MethodName × Nat) := [(⟨"RainLettersModel", "isGutter", "(I)Z"⟩, 30), (⟨"RainLettersModel", "tell", "(II)I"⟩, 30), (⟨"RainLettersModel", "isPageWord", "()Z"⟩, 30), (⟨"RainLettersModel", "asItIs", "()V"⟩, 30), (⟨"RainLettersModel", "layWays", "(I)I"⟩, 30), (⟨"RainLettersModel", "fallsAgain", "()V"⟩, 30), (⟨"RainLettersModel", "hasPage", "(I)Z"⟩, 30), (⟨"RainLettersModel", "isOrder", "(II)Z"⟩, 30), (⟨"RainLettersModel", "wordOf", "(I)I"⟩, 30), (⟨"RainLettersModel", "founds", "()I"⟩, 30), (⟨"RainLettersModel", "kindBits", "(I)I"⟩, 30), (⟨"RainLettersModel", "isFound", "()Z"⟩, 30), (⟨"RainLettersModel", "letterBits", "(I)I"⟩, 30), (⟨"RainLettersModel", "draw", "(I)I"⟩, 30), (⟨"RainLettersModel", "countOf", "(I)I"⟩, 30), (⟨"RainLettersModel", "sayGutter", "(I)V"⟩, 30)]
theorem lw_r2 : ∀ q ∈ lw_privs_2, lw_okq q := List.forall_mem_cons.mpr ⟨lw_p16, List.forall_mem_cons.mpr ⟨lw_p17, List.forall_mem_cons.mpr ⟨lw_p18, List.forall_mem_cons.mpr ⟨lw_p19, List.forall_mem_cons.mpr ⟨lw_p20, List.forall_mem_cons.mpr ⟨lw_p21, List.forall_mem_cons.mpr ⟨lw_p22, List.forall_mem_cons.mpr ⟨lw_p23, List.forall_mem_cons.mpr ⟨lw_p24, List.forall_mem_cons.mpr ⟨lw_p25, List.forall_mem_cons.mpr ⟨lw_p26, List.forall_mem_cons.mpr ⟨lw_p27, List.forall_mem_cons.mpr ⟨lw_p28, List.forall_mem_cons.mpr ⟨lw_p29, List.forall_mem_cons.mpr ⟨lw_p30, List.forall_mem_cons.mpr ⟨lw_p31, fun _ h => absurd h List.not_mem_nil⟩⟩⟩⟩⟩⟩⟩⟩⟩⟩⟩⟩⟩⟩⟩⟩
theorem lw_p32 : lw_okq (⟨"RainLettersModel", "say", "(J)V"⟩, 30) := ⟨⟨by decide +kernel, by decide +kernel⟩, List.mem_of_getElem? (i := 598) (by decide +kernel), List.mem_of_getElem? (i := 899) (by decide +kernel), List.mem_of_getElem? (i := 900) (by decide +kernel)⟩
def lw_privs_3 : List (MethodName × Nat) := [(⟨"RainLettersModel", "say", "(J)V"⟩, 30)]
theorem lw_r3 : ∀ q ∈ lw_privs_3, lw_okq q := List.forall_mem_cons.mpr ⟨lw_p32, fun _ h => absurd h List.not_mem_nil⟩
def lw_privs : List (MethodName × Nat) := lw_privs_1 ++ (lw_privs_2 ++ (lw_privs_3))
def lw_tbl : List Cond := k2_sels lw_privs ++ tables_1
theorem lw_privs_ok : ∀ q ∈ lw_privs, lw_okq q := by
  show ∀ q ∈ lw_privs_1 ++ (lw_privs_2 ++ (lw_privs_3)), lw_okq q
  exact List.forall_mem_append.mpr ⟨lw_r1, List.forall_mem_append.mpr ⟨lw_r2, lw_r3⟩⟩
end
section
def RX0 : String := "RainLetters$Fallen"
def TX0 : u_T := fun k => match k with
  | 0 => ("RainLetters$Fallen", "gutters", "[I", true)
  | 1 => ("RainLetters$Fallen", "letters", "[I", true)
  | _ => ("RainLetters$Fallen", "size", "I", false)
def tyX0 : Nat → FieldType := fun k => match k with
  | 0 => .array .int
  | 1 => .array .int
  | _ => .int
abbrev wsX00 : List Cond := u_ws RX0 TX0 3
theorem nmX0 : ∀ a, a < 3 → ∀ b, b < 3 → a ≠ b → (TX0 a).2.1 ≠ (TX0 b).2.1 := by decide +kernel
theorem tyX0_ok : ∀ k, k < 3 → parseFieldDescriptor (TX0 k).2.2.1 = some (tyX0 k) := by decide +kernel
abbrev cX0_init : ByteArray := prog_2_method_1_code
def yX0_init : MethodName := ⟨RX0, "<init>", "()V"⟩
abbrev cX0_add : ByteArray := prog_2_method_2_code
def yX0_add : MethodName := ⟨RX0, "add", "(II)V"⟩
abbrev cX0_takeAll : ByteArray := prog_2_method_3_code
def yX0_takeAll : MethodName := ⟨RX0, "takeAll", "(LRainLetters$Fallen;)V"⟩
def RX1 : String := "RainLetters$Finds"
def TX1 : u_T := fun k => match k with
  | 0 => ("RainLetters$Finds", "words", "[[I", true)
  | _ => ("RainLetters$Finds", "lengths", "[I", true)
def tyX1 : Nat → FieldType := fun k => match k with
  | 0 => .array (.array .int)
  | _ => .array .int
abbrev wsX10 : List Cond := u_ws RX1 TX1 2
theorem nmX1 : ∀ a, a < 2 → ∀ b, b < 2 → a ≠ b → (TX1 a).2.1 ≠ (TX1 b).2.1 := by decide +kernel
theorem tyX1_ok : ∀ k, k < 2 → parseFieldDescriptor (TX1 k).2.2.1 = some (tyX1 k) := by decide +kernel
abbrev cX1_init : ByteArray := prog_3_method_1_code
def yX1_init : MethodName := ⟨RX1, "<init>", "()V"⟩
abbrev cX1_clear : ByteArray := prog_3_method_2_code
def yX1_clear : MethodName := ⟨RX1, "clear", "()V"⟩
abbrev cX1_countFound : ByteArray := prog_3_method_3_code
def yX1_countFound : MethodName := ⟨RX1, "countFound", "()I"⟩
abbrev cX1_fit : ByteArray := prog_3_method_4_code
def yX1_fit : MethodName := ⟨RX1, "fit", "(LRainLetters$Street;)Z"⟩
abbrev cX1_takeAll : ByteArray := prog_3_method_5_code
def yX1_takeAll : MethodName := ⟨RX1, "takeAll", "(LRainLetters$Finds;)V"⟩
def RX2 : String := "RainLetters$Page"
def TX2 : u_T := fun k => match k with
  | 0 => ("RainLetters$Page", "codes", "[I", true)
  | _ => ("RainLetters$Page", "size", "I", false)
def tyX2 : Nat → FieldType := fun k => match k with
  | 0 => .array .int
  | _ => .int
abbrev wsX20 : List Cond := u_ws RX2 TX2 2
theorem nmX2 : ∀ a, a < 2 → ∀ b, b < 2 → a ≠ b → (TX2 a).2.1 ≠ (TX2 b).2.1 := by decide +kernel
theorem tyX2_ok : ∀ k, k < 2 → parseFieldDescriptor (TX2 k).2.2.1 = some (tyX2 k) := by decide +kernel
abbrev cX2_init : ByteArray := prog_4_method_1_code
def yX2_init : MethodName := ⟨RX2, "<init>", "()V"⟩
abbrev cX2_firstFault : ByteArray := prog_4_method_2_code
def yX2_firstFault : MethodName := ⟨RX2, "firstFault", "(I)I"⟩
abbrev cX2_isStreet : ByteArray := prog_4_method_3_code
def yX2_isStreet : MethodName := ⟨RX2, "isStreet", "()Z"⟩
abbrev cX2_isWord : ByteArray := prog_4_method_4_code
def yX2_isWord : MethodName := ⟨RX2, "isWord", "()Z"⟩
abbrev cX2_kindAt : ByteArray := prog_4_method_5_code
def yX2_kindAt : MethodName := ⟨RX2, "kindAt", "(I)I"⟩
abbrev cX2_flowAt : ByteArray := prog_4_method_6_code
def yX2_flowAt : MethodName := ⟨RX2, "flowAt", "(II)I"⟩
abbrev cX2_copyLetters : ByteArray := prog_4_method_7_code
def yX2_copyLetters : MethodName := ⟨RX2, "copyLetters", "([I)V"⟩
abbrev cX2_fitsStreet : ByteArray := prog_4_method_8_code
def yX2_fitsStreet : MethodName := ⟨RX2, "fitsStreet", "(I)Z"⟩
abbrev cX2_fitsWord : ByteArray := prog_4_method_9_code
def yX2_fitsWord : MethodName := ⟨RX2, "fitsWord", "(I)Z"⟩
def RX3 : String := "RainLetters$Scene"
def TX3 : u_T := fun k => match k with
  | 0 => ("RainLetters$Scene", "street", "LRainLetters$Street;", true)
  | 1 => ("RainLetters$Scene", "fallen", "LRainLetters$Fallen;", true)
  | _ => ("RainLetters$Scene", "finds", "LRainLetters$Finds;", true)
def tyX3 : Nat → FieldType := fun k => match k with
  | 0 => .object "RainLetters$Street"
  | 1 => .object "RainLetters$Fallen"
  | _ => .object "RainLetters$Finds"
abbrev wsX30 : List Cond := u_ws RX3 TX3 3
theorem nmX3 : ∀ a, a < 3 → ∀ b, b < 3 → a ≠ b → (TX3 a).2.1 ≠ (TX3 b).2.1 := by decide +kernel
theorem tyX3_ok : ∀ k, k < 3 → parseFieldDescriptor (TX3 k).2.2.1 = some (tyX3 k) := by decide +kernel
abbrev cX3_init : ByteArray := prog_5_method_1_code
def yX3_init : MethodName := ⟨RX3, "<init>", "()V"⟩
abbrev cX3_takeAll : ByteArray := prog_5_method_2_code
def yX3_takeAll : MethodName := ⟨RX3, "takeAll", "(LRainLetters$Scene;)V"⟩
def RX4 : String := "RainLetters$Street"
def TX4 : u_T := fun k => match k with
  | 0 => ("RainLetters$Street", "kinds", "[I", true)
  | 1 => ("RainLetters$Street", "flows", "[I", true)
  | 2 => ("RainLetters$Street", "held", "[I", true)
  | 3 => ("RainLetters$Street", "sieved", "[I", true)
  | 4 => ("RainLetters$Street", "came", "[I", true)
  | 5 => ("RainLetters$Street", "lost", "[I", true)
  | 6 => ("RainLetters$Street", "lengths", "[I", true)
  | _ => ("RainLetters$Street", "words", "[[I", true)
def tyX4 : Nat → FieldType := fun k => match k with
  | 0 => .array .int
  | 1 => .array .int
  | 2 => .array .int
  | 3 => .array .int
  | 4 => .array .int
  | 5 => .array .int
  | 6 => .array .int
  | _ => .array (.array .int)
abbrev wsX40 : List Cond := u_ws RX4 TX4 8
theorem nmX4 : ∀ a, a < 8 → ∀ b, b < 8 → a ≠ b → (TX4 a).2.1 ≠ (TX4 b).2.1 := by decide +kernel
theorem tyX4_ok : ∀ k, k < 8 → parseFieldDescriptor (TX4 k).2.2.1 = some (tyX4 k) := by decide +kernel
abbrev cX4_init : ByteArray := prog_6_method_1_code
def yX4_init : MethodName := ⟨RX4, "<init>", "()V"⟩
abbrev cX4_clear : ByteArray := prog_6_method_2_code
def yX4_clear : MethodName := ⟨RX4, "clear", "()V"⟩
abbrev cX4_layLike : ByteArray := prog_6_method_3_code
def yX4_layLike : MethodName := ⟨RX4, "layLike", "(LRainLetters$Street;)V"⟩
abbrev cX4_takeAll : ByteArray := prog_6_method_4_code
def yX4_takeAll : MethodName := ⟨RX4, "takeAll", "(LRainLetters$Street;)V"⟩
abbrev cX4_flowBy : ByteArray := prog_6_method_5_code
def yX4_flowBy : MethodName := ⟨RX4, "flowBy", "(I)V"⟩
abbrev cX4_unlikeFlows : ByteArray := prog_6_method_6_code
def yX4_unlikeFlows : MethodName := ⟨RX4, "unlikeFlows", "(LRainLetters$Street;)I"⟩
abbrev cX4_runAll : ByteArray := prog_6_method_7_code
def yX4_runAll : MethodName := ⟨RX4, "runAll", "(LRainLetters$Fallen;II)V"⟩
abbrev cX4_run : ByteArray := prog_6_method_8_code
def yX4_run : MethodName := ⟨RX4, "run", "(II)I"⟩
abbrev cX4_wordIs : ByteArray := prog_6_method_9_code
def yX4_wordIs : MethodName := ⟨RX4, "wordIs", "(I[II)Z"⟩
abbrev cX4_wordCode : ByteArray := prog_6_method_10_code
def yX4_wordCode : MethodName := ⟨RX4, "wordCode", "(I)I"⟩
abbrev cX4_countOut : ByteArray := prog_6_method_11_code
def yX4_countOut : MethodName := ⟨RX4, "countOut", "()I"⟩
abbrev cX4_lettersOut : ByteArray := prog_6_method_12_code
def yX4_lettersOut : MethodName := ⟨RX4, "lettersOut", "()I"⟩
abbrev cX4_lettersLost : ByteArray := prog_6_method_13_code
def yX4_lettersLost : MethodName := ⟨RX4, "lettersLost", "()I"⟩
abbrev cX4_fullBowls : ByteArray := prog_6_method_14_code
def yX4_fullBowls : MethodName := ⟨RX4, "fullBowls", "()I"⟩
abbrev cX4_sum : ByteArray := prog_6_method_15_code
def yX4_sum : MethodName := ⟨RX4, "sum", "([I)I"⟩
abbrev cX4_runOut : ByteArray := prog_6_method_16_code
def yX4_runOut : MethodName := ⟨RX4, "runOut", "(II)V"⟩
abbrev cX4_passOn : ByteArray := prog_6_method_17_code
def yX4_passOn : MethodName := ⟨RX4, "passOn", "(II)I"⟩
abbrev cX4_letsThrough : ByteArray := prog_6_method_18_code
def yX4_letsThrough : MethodName := ⟨RX4, "letsThrough", "(II)Z"⟩
def RX5 : String := "RainLetters$Turns"
def TX5 : u_T := fun k => match k with
  | 0 => ("RainLetters$Turns", "few", "I", false)
  | 1 => ("RainLetters$Turns", "bits", "I", false)
  | _ => ("RainLetters$Turns", "ways", "I", false)
def tyX5 : Nat → FieldType := fun k => match k with
  | 0 => .int
  | 1 => .int
  | _ => .int
abbrev wsX50 : List Cond := u_ws RX5 TX5 3
theorem nmX5 : ∀ a, a < 3 → ∀ b, b < 3 → a ≠ b → (TX5 a).2.1 ≠ (TX5 b).2.1 := by decide +kernel
theorem tyX5_ok : ∀ k, k < 3 → parseFieldDescriptor (TX5 k).2.2.1 = some (tyX5 k) := by decide +kernel
abbrev cX5_init : ByteArray := prog_7_method_1_code
def yX5_init : MethodName := ⟨RX5, "<init>", "()V"⟩
abbrev cX5_clear : ByteArray := prog_7_method_2_code
def yX5_clear : MethodName := ⟨RX5, "clear", "()V"⟩
abbrev cX5_add : ByteArray := prog_7_method_3_code
def yX5_add : MethodName := ⟨RX5, "add", "(I)V"⟩
abbrev cX5_tell : ByteArray := prog_7_method_4_code
def yX5_tell : MethodName := ⟨RX5, "tell", "(I)I"⟩
def RX6 : String := "RainLetters"
def TX6 : u_T := fun k => match k with
  | 0 => ("RainLetters", "page", "LRainLetters$Page;", true)
  | 1 => ("RainLetters", "now", "LRainLetters$Scene;", true)
  | 2 => ("RainLetters", "kept", "LRainLetters$Scene;", true)
  | 3 => ("RainLetters", "trial", "LRainLetters$Street;", true)
  | 4 => ("RainLetters", "turns", "LRainLetters$Turns;", true)
  | 5 => ("RainLetters", "wanted", "[I", true)
  | 6 => ("RainLetters", "left", "[I", true)
  | 7 => ("RainLetters", "seenWords", "[I", true)
  | 8 => ("RainLetters", "imageKept", "Z", false)
  | 9 => ("RainLetters", "streetsRead", "I", false)
  | 10 => ("RainLetters", "fewTurnsDone", "I", false)
  | _ => ("RainLetters", "ordersDone", "I", false)
def tyX6 : Nat → FieldType := fun k => match k with
  | 0 => .object "RainLetters$Page"
  | 1 => .object "RainLetters$Scene"
  | 2 => .object "RainLetters$Scene"
  | 3 => .object "RainLetters$Street"
  | 4 => .object "RainLetters$Turns"
  | 5 => .array .int
  | 6 => .array .int
  | 7 => .array .int
  | 8 => .boolean
  | 9 => .int
  | 10 => .int
  | _ => .int
abbrev wsX60 : List Cond := u_ws RX6 TX6 12
theorem nmX6 : ∀ a, a < 12 → ∀ b, b < 12 → a ≠ b → (TX6 a).2.1 ≠ (TX6 b).2.1 := by decide +kernel
theorem tyX6_ok : ∀ k, k < 12 → parseFieldDescriptor (TX6 k).2.2.1 = some (tyX6 k) := by decide +kernel
abbrev cX6_init : ByteArray := prog_1_method_1_code
def yX6_init : MethodName := ⟨RX6, "<init>", "()V"⟩
abbrev cX6_letter : ByteArray := prog_1_method_2_code
def yX6_letter : MethodName := ⟨RX6, "letter", "(I)I"⟩
abbrev cX6_blank : ByteArray := prog_1_method_3_code
def yX6_blank : MethodName := ⟨RX6, "blank", "()I"⟩
abbrev cX6_fault : ByteArray := prog_1_method_4_code
def yX6_fault : MethodName := ⟨RX6, "fault", "(I)I"⟩
abbrev cX6_street : ByteArray := prog_1_method_5_code
def yX6_street : MethodName := ⟨RX6, "street", "()I"⟩
abbrev cX6_about : ByteArray := prog_1_method_6_code
def yX6_about : MethodName := ⟨RX6, "about", "(II)I"⟩
abbrev cX6_as : ByteArray := prog_1_method_7_code
def yX6_as : MethodName := ⟨RX6, "as", "(II)I"⟩
abbrev cX6_word : ByteArray := prog_1_method_8_code
def yX6_word : MethodName := ⟨RX6, "word", "(II)I"⟩
abbrev cX6_drop : ByteArray := prog_1_method_9_code
def yX6_drop : MethodName := ⟨RX6, "drop", "(II)I"⟩
abbrev cX6_rain : ByteArray := prog_1_method_10_code
def yX6_rain : MethodName := ⟨RX6, "rain", "(II)I"⟩
abbrev cX6_dry : ByteArray := prog_1_method_11_code
def yX6_dry : MethodName := ⟨RX6, "dry", "()I"⟩
abbrev cX6_turn : ByteArray := prog_1_method_12_code
def yX6_turn : MethodName := ⟨RX6, "turn", "(II)I"⟩
abbrev cX6_fewTurns : ByteArray := prog_1_method_13_code
def yX6_fewTurns : MethodName := ⟨RX6, "fewTurns", "(II)I"⟩
abbrev cX6_orders : ByteArray := prog_1_method_14_code
def yX6_orders : MethodName := ⟨RX6, "orders", "(I)I"⟩
abbrev cX6_bestDrop : ByteArray := prog_1_method_15_code
def yX6_bestDrop : MethodName := ⟨RX6, "bestDrop", "(I)I"⟩
abbrev cX6_found : ByteArray := prog_1_method_16_code
def yX6_found : MethodName := ⟨RX6, "found", "(I)I"⟩
abbrev cX6_forget : ByteArray := prog_1_method_17_code
def yX6_forget : MethodName := ⟨RX6, "forget", "()I"⟩
abbrev cX6_kindOf : ByteArray := prog_1_method_18_code
def yX6_kindOf : MethodName := ⟨RX6, "kindOf", "(I)I"⟩
abbrev cX6_letterOf : ByteArray := prog_1_method_19_code
def yX6_letterOf : MethodName := ⟨RX6, "letterOf", "(I)I"⟩
abbrev cX6_mornings : ByteArray := prog_1_method_20_code
def yX6_mornings : MethodName := ⟨RX6, "mornings", "(III)I"⟩
abbrev cX6_image : ByteArray := prog_1_method_21_code
def yX6_image : MethodName := ⟨RX6, "image", "()I"⟩
abbrev cX6_restore : ByteArray := prog_1_method_22_code
def yX6_restore : MethodName := ⟨RX6, "restore", "()I"⟩
abbrev cX6_count : ByteArray := prog_1_method_23_code
def yX6_count : MethodName := ⟨RX6, "count", "(I)I"⟩
abbrev cX6_digest : ByteArray := prog_1_method_24_code
def yX6_digest : MethodName := ⟨RX6, "digest", "()J"⟩
abbrev cX6_mixGutters : ByteArray := prog_1_method_25_code
def yX6_mixGutters : MethodName := ⟨RX6, "mixGutters", "(J)J"⟩
abbrev cX6_mixDrops : ByteArray := prog_1_method_26_code
def yX6_mixDrops : MethodName := ⟨RX6, "mixDrops", "(J)J"⟩
abbrev cX6_mix : ByteArray := prog_1_method_27_code
def yX6_mix : MethodName := ⟨RX6, "mix", "(JJ)J"⟩
abbrev cX6_hasStreet : ByteArray := prog_1_method_28_code
def yX6_hasStreet : MethodName := ⟨RX6, "hasStreet", "()Z"⟩
abbrev cX6_isGutter : ByteArray := prog_1_method_29_code
def yX6_isGutter : MethodName := ⟨RX6, "isGutter", "(I)Z"⟩
abbrev cX6_isDrop : ByteArray := prog_1_method_30_code
def yX6_isDrop : MethodName := ⟨RX6, "isDrop", "(I)Z"⟩
abbrev cX6_isLetter : ByteArray := prog_1_method_31_code
def yX6_isLetter : MethodName := ⟨RX6, "isLetter", "(I)Z"⟩
abbrev cX6_nextSeed : ByteArray := prog_1_method_32_code
def yX6_nextSeed : MethodName := ⟨RX6, "nextSeed", "(I)I"⟩
abbrev cX6_seekTurns : ByteArray := prog_1_method_33_code
def yX6_seekTurns : MethodName := ⟨RX6, "seekTurns", "(I)V"⟩
abbrev cX6_countWords : ByteArray := prog_1_method_34_code
def yX6_countWords : MethodName := ⟨RX6, "countWords", "(I)I"⟩
abbrev cX6_runMixed : ByteArray := prog_1_method_35_code
def yX6_runMixed : MethodName := ⟨RX6, "runMixed", "(II)V"⟩
abbrev cX6_noteWord : ByteArray := prog_1_method_36_code
def yX6_noteWord : MethodName := ⟨RX6, "noteWord", "(I)Z"⟩
def RX7 : String := "RainLettersModel"
def TX7 : u_T := fun k => match k with
  | 0 => ("RainLettersModel", "page", "[I", true)
  | 1 => ("RainLettersModel", "pageMany", "I", false)
  | 2 => ("RainLettersModel", "isThere", "Z", false)
  | 3 => ("RainLettersModel", "streetsRead", "I", false)
  | 4 => ("RainLettersModel", "kinds", "[I", true)
  | 5 => ("RainLettersModel", "ways", "[I", true)
  | 6 => ("RainLettersModel", "rows", "[I", true)
  | 7 => ("RainLettersModel", "rainMany", "I", false)
  | 8 => ("RainLettersModel", "rainGutter", "[I", true)
  | 9 => ("RainLettersModel", "rainLetter", "[I", true)
  | 10 => ("RainLettersModel", "again", "[I", true)
  | 11 => ("RainLettersModel", "againKinds", "[I", true)
  | 12 => ("RainLettersModel", "againWays", "[I", true)
  | 13 => ("RainLettersModel", "againLetter", "[I", true)
  | 14 => ("RainLettersModel", "fewMany", "I", false)
  | 15 => ("RainLettersModel", "orderMany", "I", false)
  | 16 => ("RainLettersModel", "came", "[I", true)
  | 17 => ("RainLettersModel", "order", "[I", true)
  | 18 => ("RainLettersModel", "foundMany", "[I", true)
  | 19 => ("RainLettersModel", "foundRows", "[I", true)
  | 20 => ("RainLettersModel", "seedNow", "I", false)
  | 21 => ("RainLettersModel", "keptStreet", "I", false)
  | 22 => ("RainLettersModel", "keptRainMany", "I", false)
  | 23 => ("RainLettersModel", "keptWays", "[I", true)
  | 24 => ("RainLettersModel", "keptRows", "[I", true)
  | 25 => ("RainLettersModel", "keptGutter", "[I", true)
  | 26 => ("RainLettersModel", "keptLetter", "[I", true)
  | 27 => ("RainLettersModel", "keptFoundMany", "[I", true)
  | 28 => ("RainLettersModel", "keptFound", "[I", true)
  | _ => ("RainLettersModel", "hash", "J", false)
def tyX7 : Nat → FieldType := fun k => match k with
  | 0 => .array .int
  | 1 => .int
  | 2 => .boolean
  | 3 => .int
  | 4 => .array .int
  | 5 => .array .int
  | 6 => .array .int
  | 7 => .int
  | 8 => .array .int
  | 9 => .array .int
  | 10 => .array .int
  | 11 => .array .int
  | 12 => .array .int
  | 13 => .array .int
  | 14 => .int
  | 15 => .int
  | 16 => .array .int
  | 17 => .array .int
  | 18 => .array .int
  | 19 => .array .int
  | 20 => .int
  | 21 => .int
  | 22 => .int
  | 23 => .array .int
  | 24 => .array .int
  | 25 => .array .int
  | 26 => .array .int
  | 27 => .array .int
  | 28 => .array .int
  | _ => .long
abbrev wsX70 : List Cond := u_ws RX7 TX7 30
theorem nmX7 : ∀ a, a < 30 → ∀ b, b < 30 → a ≠ b → (TX7 a).2.1 ≠ (TX7 b).2.1 := by decide +kernel
theorem tyX7_ok : ∀ k, k < 30 → parseFieldDescriptor (TX7 k).2.2.1 = some (tyX7 k) := by decide +kernel
abbrev cX7_init : ByteArray := prog_9_method_1_code
def yX7_init : MethodName := ⟨RX7, "<init>", "()V"⟩
abbrev cX7_in : ByteArray := prog_9_method_2_code
def yX7_in : MethodName := ⟨RX7, "in", "(JJJ)Z"⟩
abbrev cX7_copy : ByteArray := prog_9_method_3_code
def yX7_copy : MethodName := ⟨RX7, "copy", "([I[I)V"⟩
abbrev cX7_letter : ByteArray := prog_9_method_4_code
def yX7_letter : MethodName := ⟨RX7, "letter", "(I)I"⟩
abbrev cX7_blank : ByteArray := prog_9_method_5_code
def yX7_blank : MethodName := ⟨RX7, "blank", "()I"⟩
abbrev cX7_kindBy : ByteArray := prog_9_method_6_code
def yX7_kindBy : MethodName := ⟨RX7, "kindBy", "(I)I"⟩
abbrev cX7_isGood : ByteArray := prog_9_method_7_code
def yX7_isGood : MethodName := ⟨RX7, "isGood", "(II)Z"⟩
abbrev cX7_faultOf : ByteArray := prog_9_method_8_code
def yX7_faultOf : MethodName := ⟨RX7, "faultOf", "(I)I"⟩
abbrev cX7_fault : ByteArray := prog_9_method_9_code
def yX7_fault : MethodName := ⟨RX7, "fault", "(I)I"⟩
abbrev cX7_dryRows : ByteArray := prog_9_method_10_code
def yX7_dryRows : MethodName := ⟨RX7, "dryRows", "([I)V"⟩
abbrev cX7_outs : ByteArray := prog_9_method_11_code
def yX7_outs : MethodName := ⟨RX7, "outs", "()I"⟩
abbrev cX7_street : ByteArray := prog_9_method_12_code
def yX7_street : MethodName := ⟨RX7, "street", "()I"⟩
abbrev cX7_isGutter : ByteArray := prog_9_method_13_code
def yX7_isGutter : MethodName := ⟨RX7, "isGutter", "(I)Z"⟩
abbrev cX7_tell : ByteArray := prog_9_method_14_code
def yX7_tell : MethodName := ⟨RX7, "tell", "(II)I"⟩
abbrev cX7_about : ByteArray := prog_9_method_15_code
def yX7_about : MethodName := ⟨RX7, "about", "(II)I"⟩
abbrev cX7_as : ByteArray := prog_9_method_16_code
def yX7_as : MethodName := ⟨RX7, "as", "(II)I"⟩
abbrev cX7_word : ByteArray := prog_9_method_17_code
def yX7_word : MethodName := ⟨RX7, "word", "(II)I"⟩
abbrev cX7_through : ByteArray := prog_9_method_18_code
def yX7_through : MethodName := ⟨RX7, "through", "([IIII)I"⟩
abbrev cX7_runs : ByteArray := prog_9_method_19_code
def yX7_runs : MethodName := ⟨RX7, "runs", "([I[I[III)I"⟩
abbrev cX7_drop : ByteArray := prog_9_method_20_code
def yX7_drop : MethodName := ⟨RX7, "drop", "(II)I"⟩
abbrev cX7_rain : ByteArray := prog_9_method_21_code
def yX7_rain : MethodName := ⟨RX7, "rain", "(II)I"⟩
abbrev cX7_dry : ByteArray := prog_9_method_22_code
def yX7_dry : MethodName := ⟨RX7, "dry", "()I"⟩
abbrev cX7_turn : ByteArray := prog_9_method_23_code
def yX7_turn : MethodName := ⟨RX7, "turn", "(II)I"⟩
abbrev cX7_asItIs : ByteArray := prog_9_method_24_code
def yX7_asItIs : MethodName := ⟨RX7, "asItIs", "()V"⟩
abbrev cX7_fallsAgain : ByteArray := prog_9_method_25_code
def yX7_fallsAgain : MethodName := ⟨RX7, "fallsAgain", "()V"⟩
abbrev cX7_isPageWord : ByteArray := prog_9_method_26_code
def yX7_isPageWord : MethodName := ⟨RX7, "isPageWord", "()Z"⟩
abbrev cX7_hasPage : ByteArray := prog_9_method_27_code
def yX7_hasPage : MethodName := ⟨RX7, "hasPage", "(I)Z"⟩
abbrev cX7_layWays : ByteArray := prog_9_method_28_code
def yX7_layWays : MethodName := ⟨RX7, "layWays", "(I)I"⟩
abbrev cX7_ones : ByteArray := prog_9_method_29_code
def yX7_ones : MethodName := ⟨RX7, "ones", "(I)I"⟩
abbrev cX7_fewTurns : ByteArray := prog_9_method_30_code
def yX7_fewTurns : MethodName := ⟨RX7, "fewTurns", "(II)I"⟩
abbrev cX7_wordOf : ByteArray := prog_9_method_31_code
def yX7_wordOf : MethodName := ⟨RX7, "wordOf", "(I)I"⟩
abbrev cX7_isOrder : ByteArray := prog_9_method_32_code
def yX7_isOrder : MethodName := ⟨RX7, "isOrder", "(II)Z"⟩
abbrev cX7_orders : ByteArray := prog_9_method_33_code
def yX7_orders : MethodName := ⟨RX7, "orders", "(I)I"⟩
abbrev cX7_outOf : ByteArray := prog_9_method_34_code
def yX7_outOf : MethodName := ⟨RX7, "outOf", "([I)I"⟩
abbrev cX7_bestDrop : ByteArray := prog_9_method_35_code
def yX7_bestDrop : MethodName := ⟨RX7, "bestDrop", "(I)I"⟩
abbrev cX7_founds : ByteArray := prog_9_method_36_code
def yX7_founds : MethodName := ⟨RX7, "founds", "()I"⟩
abbrev cX7_found : ByteArray := prog_9_method_37_code
def yX7_found : MethodName := ⟨RX7, "found", "(I)I"⟩
abbrev cX7_forget : ByteArray := prog_9_method_38_code
def yX7_forget : MethodName := ⟨RX7, "forget", "()I"⟩
abbrev cX7_isFound : ByteArray := prog_9_method_39_code
def yX7_isFound : MethodName := ⟨RX7, "isFound", "()Z"⟩
abbrev cX7_kindBits : ByteArray := prog_9_method_40_code
def yX7_kindBits : MethodName := ⟨RX7, "kindBits", "(I)I"⟩
abbrev cX7_kindOf : ByteArray := prog_9_method_41_code
def yX7_kindOf : MethodName := ⟨RX7, "kindOf", "(I)I"⟩
abbrev cX7_letterBits : ByteArray := prog_9_method_42_code
def yX7_letterBits : MethodName := ⟨RX7, "letterBits", "(I)I"⟩
abbrev cX7_letterOf : ByteArray := prog_9_method_43_code
def yX7_letterOf : MethodName := ⟨RX7, "letterOf", "(I)I"⟩
abbrev cX7_draw : ByteArray := prog_9_method_44_code
def yX7_draw : MethodName := ⟨RX7, "draw", "(I)I"⟩
abbrev cX7_mornings : ByteArray := prog_9_method_45_code
def yX7_mornings : MethodName := ⟨RX7, "mornings", "(III)I"⟩
abbrev cX7_image : ByteArray := prog_9_method_46_code
def yX7_image : MethodName := ⟨RX7, "image", "()I"⟩
abbrev cX7_restore : ByteArray := prog_9_method_47_code
def yX7_restore : MethodName := ⟨RX7, "restore", "()I"⟩
abbrev cX7_countOf : ByteArray := prog_9_method_48_code
def yX7_countOf : MethodName := ⟨RX7, "countOf", "(I)I"⟩
abbrev cX7_count : ByteArray := prog_9_method_49_code
def yX7_count : MethodName := ⟨RX7, "count", "(I)I"⟩
abbrev cX7_say : ByteArray := prog_9_method_50_code
def yX7_say : MethodName := ⟨RX7, "say", "(J)V"⟩
abbrev cX7_sayGutter : ByteArray := prog_9_method_51_code
def yX7_sayGutter : MethodName := ⟨RX7, "sayGutter", "(I)V"⟩
abbrev cX7_digest : ByteArray := prog_9_method_52_code
def yX7_digest : MethodName := ⟨RX7, "digest", "()J"⟩
def RJx145de : String := "java/io/Serializable"
def RJx9f9b0 : String := "java/lang/CharSequence"
def RJ11 : String := "java/lang/Character"
abbrev cJ11_isValidCodePoint_9a6ad : ByteArray := prog_10_method_11_code
def yJ11_isValidCodePoint_9a6ad : MethodName := ⟨RJ11, "isValidCodePoint", "(I)Z"⟩
abbrev cJ11_highSurrogate_5068e : ByteArray := prog_10_method_28_code
def yJ11_highSurrogate_5068e : MethodName := ⟨RJ11, "highSurrogate", "(I)C"⟩
abbrev cJ11_lowSurrogate_5068e : ByteArray := prog_10_method_29_code
def yJ11_lowSurrogate_5068e : MethodName := ⟨RJ11, "lowSurrogate", "(I)C"⟩
def RJxb160c : String := "java/lang/Comparable"
def RJ6 : String := "java/lang/Integer"
abbrev cJ6_bitCount_0f7a4 : ByteArray := prog_11_method_49_code
def yJ6_bitCount_0f7a4 : MethodName := ⟨RJ6, "bitCount", "(I)I"⟩
def RJ9 : String := "java/lang/Math"
abbrev cJ9_max_7cf53 : ByteArray := prog_12_method_65_code
def yJ9_max_7cf53 : MethodName := ⟨RJ9, "max", "(II)I"⟩
abbrev cJ9_min_7cf53 : ByteArray := prog_12_method_69_code
def yJ9_min_7cf53 : MethodName := ⟨RJ9, "min", "(II)I"⟩
def RJ0 : String := "java/lang/String"
abbrev cJ0_length_8abf5 : ByteArray := prog_13_method_54_code
def yJ0_length_8abf5 : MethodName := ⟨RJ0, "length", "()I"⟩
abbrev cJ0_indexOf_0f7a4 : ByteArray := prog_13_method_79_code
def yJ0_indexOf_0f7a4 : MethodName := ⟨RJ0, "indexOf", "(I)I"⟩
abbrev cJ0_indexOf_7cf53 : ByteArray := prog_13_method_80_code
def yJ0_indexOf_7cf53 : MethodName := ⟨RJ0, "indexOf", "(II)I"⟩
abbrev cJ0_coder_7d493 : ByteArray := prog_13_method_152_code
def yJ0_coder_7d493 : MethodName := ⟨RJ0, "coder", "()B"⟩
abbrev cJ0_isLatin1_aae02 : ByteArray := prog_13_method_154_code
def yJ0_isLatin1_aae02 : MethodName := ⟨RJ0, "isLatin1", "()Z"⟩
abbrev cJ0_checkBoundsBeginEnd_23922 : ByteArray := prog_13_method_158_code
def yJ0_checkBoundsBeginEnd_23922 : MethodName := ⟨RJ0, "checkBoundsBeginEnd", "(III)V"⟩
def RJ1 : String := "java/lang/StringLatin1"
abbrev cJ1_canEncode_9a6ad : ByteArray := prog_14_method_4_code
def yJ1_canEncode_9a6ad : MethodName := ⟨RJ1, "canEncode", "(I)Z"⟩
abbrev cJ1_indexOf_4cfef : ByteArray := prog_14_method_22_code
def yJ1_indexOf_4cfef : MethodName := ⟨RJ1, "indexOf", "([BIII)I"⟩
abbrev cJ1_indexOfChar_4cfef : ByteArray := prog_14_method_23_code
def yJ1_indexOfChar_4cfef : MethodName := ⟨RJ1, "indexOfChar", "([BIII)I"⟩
def RJ2 : String := "java/lang/StringUTF16"
abbrev cJ2_getChar_3b067 : ByteArray := prog_15_method_5_code
def yJ2_getChar_3b067 : MethodName := ⟨RJ2, "getChar", "([BI)C"⟩
abbrev cJ2_length_9d52b : ByteArray := prog_15_method_6_code
def yJ2_length_9d52b : MethodName := ⟨RJ2, "length", "([B)I"⟩
abbrev cJ2_indexOf_4cfef : ByteArray := prog_15_method_40_code
def yJ2_indexOf_4cfef : MethodName := ⟨RJ2, "indexOf", "([BIII)I"⟩
abbrev cJ2_indexOfChar_4cfef : ByteArray := prog_15_method_47_code
def yJ2_indexOfChar_4cfef : MethodName := ⟨RJ2, "indexOfChar", "([BIII)I"⟩
abbrev cJ2_indexOfCharUnsafe_4cfef : ByteArray := prog_15_method_48_code
def yJ2_indexOfCharUnsafe_4cfef : MethodName := ⟨RJ2, "indexOfCharUnsafe", "([BIII)I"⟩
abbrev cJ2_indexOfSupplementary_4cfef : ByteArray := prog_15_method_49_code
def yJ2_indexOfSupplementary_4cfef : MethodName := ⟨RJ2, "indexOfSupplementary", "([BIII)I"⟩
abbrev cJ2_checkBoundsBeginEnd_d044e : ByteArray := prog_15_method_93_code
def yJ2_checkBoundsBeginEnd_d044e : MethodName := ⟨RJ2, "checkBoundsBeginEnd", "(II[B)V"⟩
def RJ10 : String := "java/lang/System"
def RJxfd54e : String := "java/lang/constant/Constable"
def RJx3cf43 : String := "java/lang/constant/ConstantDesc"
def RJ7 : String := "java/util/Arrays"
abbrev cJ7_fill_53178 : ByteArray := prog_17_method_103_code
def yJ7_fill_53178 : MethodName := ⟨RJ7, "fill", "([II)V"⟩
def RJ3 : String := "jdk/internal/util/Preconditions"
abbrev cJ3_checkFromToIndex_8c36e : ByteArray := prog_18_method_12_code
def yJ3_checkFromToIndex_8c36e : MethodName := ⟨RJ3, "checkFromToIndex", "(IIILjava/util/function/BiFunction;)I"⟩
def RL : String := "RainLettersLaw"
abbrev cL_law : ByteArray := code
def yL_law : MethodName := ⟨RL, "law", "([I)Z"⟩
end
section
theorem dX0_init_0 : decode cX0_init 0 = .ok (.aload_n 0, 1) := by decide +kernel
theorem dX0_init_1 : decode cX0_init 1 = .ok (.invokespecial 3, 3) := by decide +kernel
theorem dX0_init_4 : decode cX0_init 4 = .ok (.aload_n 0, 1) := by decide +kernel
theorem dX0_init_5 : decode cX0_init 5 = .ok (.bipush 12, 2) := by decide +kernel
theorem dX0_init_7 : decode cX0_init 7 = .ok (.newarray .int, 2) := by decide +kernel
theorem dX0_init_9 : decode cX0_init 9 = .ok (.putfield 9, 3) := by decide +kernel
theorem dX0_init_12 : decode cX0_init 12 = .ok (.aload_n 0, 1) := by decide +kernel
theorem dX0_init_13 : decode cX0_init 13 = .ok (.bipush 12, 2) := by decide +kernel
theorem dX0_init_15 : decode cX0_init 15 = .ok (.newarray .int, 2) := by decide +kernel
theorem dX0_init_17 : decode cX0_init 17 = .ok (.putfield 15, 3) := by decide +kernel
theorem dX0_init_20 : decode cX0_init 20 = .ok (.return_, 1) := by decide +kernel
theorem dX0_add_0 : decode cX0_add 0 = .ok (.aload_n 0, 1) := by decide +kernel
theorem dX0_add_1 : decode cX0_add 1 = .ok (.getfield 18, 3) := by decide +kernel
theorem dX0_add_4 : decode cX0_add 4 = .ok (.bipush 12, 2) := by decide +kernel
theorem dX0_add_6 : decode cX0_add 6 = .ok (.if_icmp .ge 33, 3) := by decide +kernel
theorem dX0_add_9 : decode cX0_add 9 = .ok (.aload_n 0, 1) := by decide +kernel
theorem dX0_add_10 : decode cX0_add 10 = .ok (.getfield 9, 3) := by decide +kernel
theorem dX0_add_13 : decode cX0_add 13 = .ok (.aload_n 0, 1) := by decide +kernel
theorem dX0_add_14 : decode cX0_add 14 = .ok (.getfield 18, 3) := by decide +kernel
theorem dX0_add_17 : decode cX0_add 17 = .ok (.iload_n 1, 1) := by decide +kernel
theorem dX0_add_18 : decode cX0_add 18 = .ok (.iastore, 1) := by decide +kernel
theorem dX0_add_19 : decode cX0_add 19 = .ok (.aload_n 0, 1) := by decide +kernel
theorem dX0_add_20 : decode cX0_add 20 = .ok (.getfield 15, 3) := by decide +kernel
theorem dX0_add_23 : decode cX0_add 23 = .ok (.aload_n 0, 1) := by decide +kernel
theorem dX0_add_24 : decode cX0_add 24 = .ok (.getfield 18, 3) := by decide +kernel
theorem dX0_add_27 : decode cX0_add 27 = .ok (.iload_n 2, 1) := by decide +kernel
theorem dX0_add_28 : decode cX0_add 28 = .ok (.iastore, 1) := by decide +kernel
theorem dX0_add_29 : decode cX0_add 29 = .ok (.aload_n 0, 1) := by decide +kernel
theorem dX0_add_30 : decode cX0_add 30 = .ok (.dup, 1) := by decide +kernel
theorem dX0_add_31 : decode cX0_add 31 = .ok (.getfield 18, 3) := by decide +kernel
theorem dX0_add_34 : decode cX0_add 34 = .ok (.iconst 1, 1) := by decide +kernel
theorem dX0_add_35 : decode cX0_add 35 = .ok (.iadd, 1) := by decide +kernel
theorem dX0_add_36 : decode cX0_add 36 = .ok (.putfield 18, 3) := by decide +kernel
theorem dX0_add_39 : decode cX0_add 39 = .ok (.return_, 1) := by decide +kernel
theorem dX0_takeAll_0 : decode cX0_takeAll 0 = .ok (.aload_n 1, 1) := by decide +kernel
theorem dX0_takeAll_1 : decode cX0_takeAll 1 = .ok (.getfield 9, 3) := by decide +kernel
theorem dX0_takeAll_4 : decode cX0_takeAll 4 = .ok (.iconst 0, 1) := by decide +kernel
theorem dX0_takeAll_5 : decode cX0_takeAll 5 = .ok (.aload_n 0, 1) := by decide +kernel
theorem dX0_takeAll_6 : decode cX0_takeAll 6 = .ok (.getfield 9, 3) := by decide +kernel
theorem dX0_takeAll_9 : decode cX0_takeAll 9 = .ok (.iconst 0, 1) := by decide +kernel
theorem dX0_takeAll_10 : decode cX0_takeAll 10 = .ok (.bipush 12, 2) := by decide +kernel
theorem dX0_takeAll_12 : decode cX0_takeAll 12 = .ok (.invokestatic 22, 3) := by decide +kernel
theorem dX0_takeAll_15 : decode cX0_takeAll 15 = .ok (.aload_n 1, 1) := by decide +kernel
theorem dX0_takeAll_16 : decode cX0_takeAll 16 = .ok (.getfield 15, 3) := by decide +kernel
theorem dX0_takeAll_19 : decode cX0_takeAll 19 = .ok (.iconst 0, 1) := by decide +kernel
theorem dX0_takeAll_20 : decode cX0_takeAll 20 = .ok (.aload_n 0, 1) := by decide +kernel
theorem dX0_takeAll_21 : decode cX0_takeAll 21 = .ok (.getfield 15, 3) := by decide +kernel
theorem dX0_takeAll_24 : decode cX0_takeAll 24 = .ok (.iconst 0, 1) := by decide +kernel
theorem dX0_takeAll_25 : decode cX0_takeAll 25 = .ok (.bipush 12, 2) := by decide +kernel
theorem dX0_takeAll_27 : decode cX0_takeAll 27 = .ok (.invokestatic 22, 3) := by decide +kernel
theorem dX0_takeAll_30 : decode cX0_takeAll 30 = .ok (.aload_n 0, 1) := by decide +kernel
theorem dX0_takeAll_31 : decode cX0_takeAll 31 = .ok (.aload_n 1, 1) := by decide +kernel
theorem dX0_takeAll_32 : decode cX0_takeAll 32 = .ok (.getfield 18, 3) := by decide +kernel
theorem dX0_takeAll_35 : decode cX0_takeAll 35 = .ok (.putfield 18, 3) := by decide +kernel
theorem dX0_takeAll_38 : decode cX0_takeAll 38 = .ok (.return_, 1) := by decide +kernel
theorem dX1_init_0 : decode cX1_init 0 = .ok (.aload_n 0, 1) := by decide +kernel
theorem dX1_init_1 : decode cX1_init 1 = .ok (.invokespecial 3, 3) := by decide +kernel
theorem dX1_init_4 : decode cX1_init 4 = .ok (.aload_n 0, 1) := by decide +kernel
theorem dX1_init_5 : decode cX1_init 5 = .ok (.bipush 6, 2) := by decide +kernel
theorem dX1_init_7 : decode cX1_init 7 = .ok (.bipush 8, 2) := by decide +kernel
theorem dX1_init_9 : decode cX1_init 9 = .ok (.multianewarray 9 2, 4) := by decide +kernel
theorem dX1_init_13 : decode cX1_init 13 = .ok (.putfield 11, 3) := by decide +kernel
theorem dX1_init_16 : decode cX1_init 16 = .ok (.aload_n 0, 1) := by decide +kernel
theorem dX1_init_17 : decode cX1_init 17 = .ok (.bipush 6, 2) := by decide +kernel
theorem dX1_init_19 : decode cX1_init 19 = .ok (.newarray .int, 2) := by decide +kernel
theorem dX1_init_21 : decode cX1_init 21 = .ok (.putfield 16, 3) := by decide +kernel
theorem dX1_init_24 : decode cX1_init 24 = .ok (.aload_n 0, 1) := by decide +kernel
theorem dX1_init_25 : decode cX1_init 25 = .ok (.invokevirtual 20, 3) := by decide +kernel
theorem dX1_init_28 : decode cX1_init 28 = .ok (.return_, 1) := by decide +kernel
theorem dX1_clear_0 : decode cX1_clear 0 = .ok (.aload_n 0, 1) := by decide +kernel
theorem dX1_clear_1 : decode cX1_clear 1 = .ok (.getfield 16, 3) := by decide +kernel
theorem dX1_clear_4 : decode cX1_clear 4 = .ok (.iconst (-1), 1) := by decide +kernel
theorem dX1_clear_5 : decode cX1_clear 5 = .ok (.invokestatic 23, 3) := by decide +kernel
theorem dX1_clear_8 : decode cX1_clear 8 = .ok (.return_, 1) := by decide +kernel
theorem dX1_countFound_0 : decode cX1_countFound 0 = .ok (.iconst 0, 1) := by decide +kernel
theorem dX1_countFound_1 : decode cX1_countFound 1 = .ok (.istore_n 1, 1) := by decide +kernel
theorem dX1_countFound_2 : decode cX1_countFound 2 = .ok (.aload_n 0, 1) := by decide +kernel
theorem dX1_countFound_3 : decode cX1_countFound 3 = .ok (.getfield 16, 3) := by decide +kernel
theorem dX1_countFound_6 : decode cX1_countFound 6 = .ok (.astore_n 2, 1) := by decide +kernel
theorem dX1_countFound_7 : decode cX1_countFound 7 = .ok (.aload_n 2, 1) := by decide +kernel
theorem dX1_countFound_8 : decode cX1_countFound 8 = .ok (.arraylength, 1) := by decide +kernel
theorem dX1_countFound_9 : decode cX1_countFound 9 = .ok (.istore_n 3, 1) := by decide +kernel
theorem dX1_countFound_10 : decode cX1_countFound 10 = .ok (.iconst 0, 1) := by decide +kernel
theorem dX1_countFound_11 : decode cX1_countFound 11 = .ok (.istore 4, 2) := by decide +kernel
theorem dX1_countFound_13 : decode cX1_countFound 13 = .ok (.iload 4, 2) := by decide +kernel
theorem dX1_countFound_15 : decode cX1_countFound 15 = .ok (.iload_n 3, 1) := by decide +kernel
theorem dX1_countFound_16 : decode cX1_countFound 16 = .ok (.if_icmp .ge 29, 3) := by decide +kernel
theorem dX1_countFound_19 : decode cX1_countFound 19 = .ok (.aload_n 2, 1) := by decide +kernel
theorem dX1_countFound_20 : decode cX1_countFound 20 = .ok (.iload 4, 2) := by decide +kernel
theorem dX1_countFound_22 : decode cX1_countFound 22 = .ok (.iaload, 1) := by decide +kernel
theorem dX1_countFound_23 : decode cX1_countFound 23 = .ok (.istore 5, 2) := by decide +kernel
theorem dX1_countFound_25 : decode cX1_countFound 25 = .ok (.iload_n 1, 1) := by decide +kernel
theorem dX1_countFound_26 : decode cX1_countFound 26 = .ok (.iload 5, 2) := by decide +kernel
theorem dX1_countFound_28 : decode cX1_countFound 28 = .ok (.iconst (-1), 1) := by decide +kernel
theorem dX1_countFound_29 : decode cX1_countFound 29 = .ok (.if_icmp .ne 7, 3) := by decide +kernel
theorem dX1_countFound_32 : decode cX1_countFound 32 = .ok (.iconst 0, 1) := by decide +kernel
theorem dX1_countFound_33 : decode cX1_countFound 33 = .ok (.goto 4, 3) := by decide +kernel
theorem dX1_countFound_36 : decode cX1_countFound 36 = .ok (.iconst 1, 1) := by decide +kernel
theorem dX1_countFound_37 : decode cX1_countFound 37 = .ok (.iadd, 1) := by decide +kernel
theorem dX1_countFound_38 : decode cX1_countFound 38 = .ok (.istore_n 1, 1) := by decide +kernel
theorem dX1_countFound_39 : decode cX1_countFound 39 = .ok (.iinc 4 1, 3) := by decide +kernel
theorem dX1_countFound_42 : decode cX1_countFound 42 = .ok (.goto (-29), 3) := by decide +kernel
theorem dX1_countFound_45 : decode cX1_countFound 45 = .ok (.iload_n 1, 1) := by decide +kernel
theorem dX1_countFound_46 : decode cX1_countFound 46 = .ok (.ireturn, 1) := by decide +kernel
theorem dX1_fit_0 : decode cX1_fit 0 = .ok (.iconst 0, 1) := by decide +kernel
theorem dX1_fit_1 : decode cX1_fit 1 = .ok (.istore_n 2, 1) := by decide +kernel
theorem dX1_fit_2 : decode cX1_fit 2 = .ok (.iload_n 2, 1) := by decide +kernel
theorem dX1_fit_3 : decode cX1_fit 3 = .ok (.bipush 6, 2) := by decide +kernel
theorem dX1_fit_5 : decode cX1_fit 5 = .ok (.if_icmp .ge 41, 3) := by decide +kernel
theorem dX1_fit_8 : decode cX1_fit 8 = .ok (.aload_n 0, 1) := by decide +kernel
theorem dX1_fit_9 : decode cX1_fit 9 = .ok (.getfield 16, 3) := by decide +kernel
theorem dX1_fit_12 : decode cX1_fit 12 = .ok (.iload_n 2, 1) := by decide +kernel
theorem dX1_fit_13 : decode cX1_fit 13 = .ok (.iaload, 1) := by decide +kernel
theorem dX1_fit_14 : decode cX1_fit 14 = .ok (.iconst (-1), 1) := by decide +kernel
theorem dX1_fit_15 : decode cX1_fit 15 = .ok (.if_icmp .eq 25, 3) := by decide +kernel
theorem dX1_fit_18 : decode cX1_fit 18 = .ok (.aload_n 1, 1) := by decide +kernel
theorem dX1_fit_19 : decode cX1_fit 19 = .ok (.iload_n 2, 1) := by decide +kernel
theorem dX1_fit_20 : decode cX1_fit 20 = .ok (.aload_n 0, 1) := by decide +kernel
theorem dX1_fit_21 : decode cX1_fit 21 = .ok (.getfield 11, 3) := by decide +kernel
theorem dX1_fit_24 : decode cX1_fit 24 = .ok (.iload_n 2, 1) := by decide +kernel
theorem dX1_fit_25 : decode cX1_fit 25 = .ok (.aaload, 1) := by decide +kernel
theorem dX1_fit_26 : decode cX1_fit 26 = .ok (.aload_n 0, 1) := by decide +kernel
theorem dX1_fit_27 : decode cX1_fit 27 = .ok (.getfield 16, 3) := by decide +kernel
theorem dX1_fit_30 : decode cX1_fit 30 = .ok (.iload_n 2, 1) := by decide +kernel
theorem dX1_fit_31 : decode cX1_fit 31 = .ok (.iaload, 1) := by decide +kernel
theorem dX1_fit_32 : decode cX1_fit 32 = .ok (.invokevirtual 29, 3) := by decide +kernel
theorem dX1_fit_35 : decode cX1_fit 35 = .ok (.ifCond .ne 5, 3) := by decide +kernel
theorem dX1_fit_38 : decode cX1_fit 38 = .ok (.iconst 0, 1) := by decide +kernel
theorem dX1_fit_39 : decode cX1_fit 39 = .ok (.ireturn, 1) := by decide +kernel
theorem dX1_fit_40 : decode cX1_fit 40 = .ok (.iinc 2 1, 3) := by decide +kernel
theorem dX1_fit_43 : decode cX1_fit 43 = .ok (.goto (-41), 3) := by decide +kernel
theorem dX1_fit_46 : decode cX1_fit 46 = .ok (.iconst 1, 1) := by decide +kernel
theorem dX1_fit_47 : decode cX1_fit 47 = .ok (.ireturn, 1) := by decide +kernel
theorem dX1_takeAll_0 : decode cX1_takeAll 0 = .ok (.aload_n 1, 1) := by decide +kernel
theorem dX1_takeAll_1 : decode cX1_takeAll 1 = .ok (.getfield 16, 3) := by decide +kernel
theorem dX1_takeAll_4 : decode cX1_takeAll 4 = .ok (.iconst 0, 1) := by decide +kernel
theorem dX1_takeAll_5 : decode cX1_takeAll 5 = .ok (.aload_n 0, 1) := by decide +kernel
theorem dX1_takeAll_6 : decode cX1_takeAll 6 = .ok (.getfield 16, 3) := by decide +kernel
theorem dX1_takeAll_9 : decode cX1_takeAll 9 = .ok (.iconst 0, 1) := by decide +kernel
theorem dX1_takeAll_10 : decode cX1_takeAll 10 = .ok (.bipush 6, 2) := by decide +kernel
theorem dX1_takeAll_12 : decode cX1_takeAll 12 = .ok (.invokestatic 35, 3) := by decide +kernel
theorem dX1_takeAll_15 : decode cX1_takeAll 15 = .ok (.iconst 0, 1) := by decide +kernel
theorem dX1_takeAll_16 : decode cX1_takeAll 16 = .ok (.istore_n 2, 1) := by decide +kernel
theorem dX1_takeAll_17 : decode cX1_takeAll 17 = .ok (.iload_n 2, 1) := by decide +kernel
theorem dX1_takeAll_18 : decode cX1_takeAll 18 = .ok (.bipush 6, 2) := by decide +kernel
theorem dX1_takeAll_20 : decode cX1_takeAll 20 = .ok (.if_icmp .ge 28, 3) := by decide +kernel
theorem dX1_takeAll_23 : decode cX1_takeAll 23 = .ok (.aload_n 1, 1) := by decide +kernel
theorem dX1_takeAll_24 : decode cX1_takeAll 24 = .ok (.getfield 11, 3) := by decide +kernel
theorem dX1_takeAll_27 : decode cX1_takeAll 27 = .ok (.iload_n 2, 1) := by decide +kernel
theorem dX1_takeAll_28 : decode cX1_takeAll 28 = .ok (.aaload, 1) := by decide +kernel
theorem dX1_takeAll_29 : decode cX1_takeAll 29 = .ok (.iconst 0, 1) := by decide +kernel
theorem dX1_takeAll_30 : decode cX1_takeAll 30 = .ok (.aload_n 0, 1) := by decide +kernel
theorem dX1_takeAll_31 : decode cX1_takeAll 31 = .ok (.getfield 11, 3) := by decide +kernel
theorem dX1_takeAll_34 : decode cX1_takeAll 34 = .ok (.iload_n 2, 1) := by decide +kernel
theorem dX1_takeAll_35 : decode cX1_takeAll 35 = .ok (.aaload, 1) := by decide +kernel
theorem dX1_takeAll_36 : decode cX1_takeAll 36 = .ok (.iconst 0, 1) := by decide +kernel
theorem dX1_takeAll_37 : decode cX1_takeAll 37 = .ok (.bipush 8, 2) := by decide +kernel
theorem dX1_takeAll_39 : decode cX1_takeAll 39 = .ok (.invokestatic 35, 3) := by decide +kernel
theorem dX1_takeAll_42 : decode cX1_takeAll 42 = .ok (.iinc 2 1, 3) := by decide +kernel
theorem dX1_takeAll_45 : decode cX1_takeAll 45 = .ok (.goto (-28), 3) := by decide +kernel
theorem dX1_takeAll_48 : decode cX1_takeAll 48 = .ok (.return_, 1) := by decide +kernel
theorem dX2_init_0 : decode cX2_init 0 = .ok (.aload_n 0, 1) := by decide +kernel
theorem dX2_init_1 : decode cX2_init 1 = .ok (.invokespecial 3, 3) := by decide +kernel
theorem dX2_init_4 : decode cX2_init 4 = .ok (.aload_n 0, 1) := by decide +kernel
theorem dX2_init_5 : decode cX2_init 5 = .ok (.bipush 20, 2) := by decide +kernel
theorem dX2_init_7 : decode cX2_init 7 = .ok (.newarray .int, 2) := by decide +kernel
theorem dX2_init_9 : decode cX2_init 9 = .ok (.putfield 9, 3) := by decide +kernel
theorem dX2_init_12 : decode cX2_init 12 = .ok (.return_, 1) := by decide +kernel
theorem dX2_firstFault_0 : decode cX2_firstFault 0 = .ok (.iconst 0, 1) := by decide +kernel
theorem dX2_firstFault_1 : decode cX2_firstFault 1 = .ok (.istore_n 2, 1) := by decide +kernel
theorem dX2_firstFault_2 : decode cX2_firstFault 2 = .ok (.iload_n 2, 1) := by decide +kernel
theorem dX2_firstFault_3 : decode cX2_firstFault 3 = .ok (.aload_n 0, 1) := by decide +kernel
theorem dX2_firstFault_4 : decode cX2_firstFault 4 = .ok (.getfield 15, 3) := by decide +kernel
theorem dX2_firstFault_7 : decode cX2_firstFault 7 = .ok (.if_icmp .ge 33, 3) := by decide +kernel
theorem dX2_firstFault_10 : decode cX2_firstFault 10 = .ok (.iload_n 1, 1) := by decide +kernel
theorem dX2_firstFault_11 : decode cX2_firstFault 11 = .ok (.ifCond .ne 11, 3) := by decide +kernel
theorem dX2_firstFault_14 : decode cX2_firstFault 14 = .ok (.aload_n 0, 1) := by decide +kernel
theorem dX2_firstFault_15 : decode cX2_firstFault 15 = .ok (.iload_n 2, 1) := by decide +kernel
theorem dX2_firstFault_16 : decode cX2_firstFault 16 = .ok (.invokevirtual 19, 3) := by decide +kernel
theorem dX2_firstFault_19 : decode cX2_firstFault 19 = .ok (.goto 8, 3) := by decide +kernel
theorem dX2_firstFault_22 : decode cX2_firstFault 22 = .ok (.aload_n 0, 1) := by decide +kernel
theorem dX2_firstFault_23 : decode cX2_firstFault 23 = .ok (.iload_n 2, 1) := by decide +kernel
theorem dX2_firstFault_24 : decode cX2_firstFault 24 = .ok (.invokevirtual 23, 3) := by decide +kernel
theorem dX2_firstFault_27 : decode cX2_firstFault 27 = .ok (.istore_n 3, 1) := by decide +kernel
theorem dX2_firstFault_28 : decode cX2_firstFault 28 = .ok (.iload_n 3, 1) := by decide +kernel
theorem dX2_firstFault_29 : decode cX2_firstFault 29 = .ok (.ifCond .ne 5, 3) := by decide +kernel
theorem dX2_firstFault_32 : decode cX2_firstFault 32 = .ok (.iload_n 2, 1) := by decide +kernel
theorem dX2_firstFault_33 : decode cX2_firstFault 33 = .ok (.ireturn, 1) := by decide +kernel
theorem dX2_firstFault_34 : decode cX2_firstFault 34 = .ok (.iinc 2 1, 3) := by decide +kernel
theorem dX2_firstFault_37 : decode cX2_firstFault 37 = .ok (.goto (-35), 3) := by decide +kernel
theorem dX2_firstFault_40 : decode cX2_firstFault 40 = .ok (.aload_n 0, 1) := by decide +kernel
theorem dX2_firstFault_41 : decode cX2_firstFault 41 = .ok (.getfield 15, 3) := by decide +kernel
theorem dX2_firstFault_44 : decode cX2_firstFault 44 = .ok (.ireturn, 1) := by decide +kernel
theorem dX2_isStreet_0 : decode cX2_isStreet 0 = .ok (.aload_n 0, 1) := by decide +kernel
theorem dX2_isStreet_1 : decode cX2_isStreet 1 = .ok (.getfield 15, 3) := by decide +kernel
theorem dX2_isStreet_4 : decode cX2_isStreet 4 = .ok (.bipush 17, 2) := by decide +kernel
theorem dX2_isStreet_6 : decode cX2_isStreet 6 = .ok (.if_icmp .ne 19, 3) := by decide +kernel
theorem dX2_isStreet_9 : decode cX2_isStreet 9 = .ok (.aload_n 0, 1) := by decide +kernel
theorem dX2_isStreet_10 : decode cX2_isStreet 10 = .ok (.iconst 0, 1) := by decide +kernel
theorem dX2_isStreet_11 : decode cX2_isStreet 11 = .ok (.invokevirtual 26, 3) := by decide +kernel
theorem dX2_isStreet_14 : decode cX2_isStreet 14 = .ok (.aload_n 0, 1) := by decide +kernel
theorem dX2_isStreet_15 : decode cX2_isStreet 15 = .ok (.getfield 15, 3) := by decide +kernel
theorem dX2_isStreet_18 : decode cX2_isStreet 18 = .ok (.if_icmp .ne 7, 3) := by decide +kernel
theorem dX2_isStreet_21 : decode cX2_isStreet 21 = .ok (.iconst 1, 1) := by decide +kernel
theorem dX2_isStreet_22 : decode cX2_isStreet 22 = .ok (.goto 4, 3) := by decide +kernel
theorem dX2_isStreet_25 : decode cX2_isStreet 25 = .ok (.iconst 0, 1) := by decide +kernel
theorem dX2_isStreet_26 : decode cX2_isStreet 26 = .ok (.ireturn, 1) := by decide +kernel
theorem dX2_isWord_0 : decode cX2_isWord 0 = .ok (.aload_n 0, 1) := by decide +kernel
theorem dX2_isWord_1 : decode cX2_isWord 1 = .ok (.getfield 15, 3) := by decide +kernel
theorem dX2_isWord_4 : decode cX2_isWord 4 = .ok (.ifCond .le 19, 3) := by decide +kernel
theorem dX2_isWord_7 : decode cX2_isWord 7 = .ok (.aload_n 0, 1) := by decide +kernel
theorem dX2_isWord_8 : decode cX2_isWord 8 = .ok (.iconst 1, 1) := by decide +kernel
theorem dX2_isWord_9 : decode cX2_isWord 9 = .ok (.invokevirtual 26, 3) := by decide +kernel
theorem dX2_isWord_12 : decode cX2_isWord 12 = .ok (.aload_n 0, 1) := by decide +kernel
theorem dX2_isWord_13 : decode cX2_isWord 13 = .ok (.getfield 15, 3) := by decide +kernel
theorem dX2_isWord_16 : decode cX2_isWord 16 = .ok (.if_icmp .ne 7, 3) := by decide +kernel
theorem dX2_isWord_19 : decode cX2_isWord 19 = .ok (.iconst 1, 1) := by decide +kernel
theorem dX2_isWord_20 : decode cX2_isWord 20 = .ok (.goto 4, 3) := by decide +kernel
theorem dX2_isWord_23 : decode cX2_isWord 23 = .ok (.iconst 0, 1) := by decide +kernel
theorem dX2_isWord_24 : decode cX2_isWord 24 = .ok (.ireturn, 1) := by decide +kernel
theorem dX2_kindAt_0 : decode cX2_kindAt 0 = .ok (.ldc 30, 2) := by decide +kernel
theorem dX2_kindAt_2 : decode cX2_kindAt 2 = .ok (.aload_n 0, 1) := by decide +kernel
theorem dX2_kindAt_3 : decode cX2_kindAt 3 = .ok (.getfield 9, 3) := by decide +kernel
theorem dX2_kindAt_6 : decode cX2_kindAt 6 = .ok (.iload_n 1, 1) := by decide +kernel
theorem dX2_kindAt_7 : decode cX2_kindAt 7 = .ok (.iaload, 1) := by decide +kernel
theorem dX2_kindAt_8 : decode cX2_kindAt 8 = .ok (.i2c, 1) := by decide +kernel
theorem dX2_kindAt_9 : decode cX2_kindAt 9 = .ok (.invokevirtual 32, 3) := by decide +kernel
theorem dX2_kindAt_12 : decode cX2_kindAt 12 = .ok (.ireturn, 1) := by decide +kernel
theorem dX2_flowAt_0 : decode cX2_flowAt 0 = .ok (.aload_n 0, 1) := by decide +kernel
theorem dX2_flowAt_1 : decode cX2_flowAt 1 = .ok (.getfield 9, 3) := by decide +kernel
theorem dX2_flowAt_4 : decode cX2_flowAt 4 = .ok (.iload_n 1, 1) := by decide +kernel
theorem dX2_flowAt_5 : decode cX2_flowAt 5 = .ok (.iaload, 1) := by decide +kernel
theorem dX2_flowAt_6 : decode cX2_flowAt 6 = .ok (.istore_n 3, 1) := by decide +kernel
theorem dX2_flowAt_7 : decode cX2_flowAt 7 = .ok (.iload_n 3, 1) := by decide +kernel
theorem dX2_flowAt_8 : decode cX2_flowAt 8 = .ok (.bipush 45, 2) := by decide +kernel
theorem dX2_flowAt_10 : decode cX2_flowAt 10 = .ok (.if_icmp .ne 5, 3) := by decide +kernel
theorem dX2_flowAt_13 : decode cX2_flowAt 13 = .ok (.iconst (-1), 1) := by decide +kernel
theorem dX2_flowAt_14 : decode cX2_flowAt 14 = .ok (.ireturn, 1) := by decide +kernel
theorem dX2_flowAt_15 : decode cX2_flowAt 15 = .ok (.iload_n 3, 1) := by decide +kernel
theorem dX2_flowAt_16 : decode cX2_flowAt 16 = .ok (.bipush 48, 2) := by decide +kernel
theorem dX2_flowAt_18 : decode cX2_flowAt 18 = .ok (.isub, 1) := by decide +kernel
theorem dX2_flowAt_19 : decode cX2_flowAt 19 = .ok (.istore 4, 2) := by decide +kernel
theorem dX2_flowAt_21 : decode cX2_flowAt 21 = .ok (.iload 4, 2) := by decide +kernel
theorem dX2_flowAt_23 : decode cX2_flowAt 23 = .ok (.iload_n 2, 1) := by decide +kernel
theorem dX2_flowAt_24 : decode cX2_flowAt 24 = .ok (.if_icmp .le 15, 3) := by decide +kernel
theorem dX2_flowAt_27 : decode cX2_flowAt 27 = .ok (.iload 4, 2) := by decide +kernel
theorem dX2_flowAt_29 : decode cX2_flowAt 29 = .ok (.bipush 6, 2) := by decide +kernel
theorem dX2_flowAt_31 : decode cX2_flowAt 31 = .ok (.if_icmp .ge 8, 3) := by decide +kernel
theorem dX2_flowAt_34 : decode cX2_flowAt 34 = .ok (.iload 4, 2) := by decide +kernel
theorem dX2_flowAt_36 : decode cX2_flowAt 36 = .ok (.goto 5, 3) := by decide +kernel
theorem dX2_flowAt_39 : decode cX2_flowAt 39 = .ok (.bipush (-101), 2) := by decide +kernel
theorem dX2_flowAt_41 : decode cX2_flowAt 41 = .ok (.ireturn, 1) := by decide +kernel
theorem dX2_copyLetters_0 : decode cX2_copyLetters 0 = .ok (.iconst 0, 1) := by decide +kernel
theorem dX2_copyLetters_1 : decode cX2_copyLetters 1 = .ok (.istore_n 2, 1) := by decide +kernel
theorem dX2_copyLetters_2 : decode cX2_copyLetters 2 = .ok (.iload_n 2, 1) := by decide +kernel
theorem dX2_copyLetters_3 : decode cX2_copyLetters 3 = .ok (.aload_n 0, 1) := by decide +kernel
theorem dX2_copyLetters_4 : decode cX2_copyLetters 4 = .ok (.getfield 15, 3) := by decide +kernel
theorem dX2_copyLetters_7 : decode cX2_copyLetters 7 = .ok (.if_icmp .ge 27, 3) := by decide +kernel
theorem dX2_copyLetters_10 : decode cX2_copyLetters 10 = .ok (.iload_n 2, 1) := by decide +kernel
theorem dX2_copyLetters_11 : decode cX2_copyLetters 11 = .ok (.aload_n 1, 1) := by decide +kernel
theorem dX2_copyLetters_12 : decode cX2_copyLetters 12 = .ok (.arraylength, 1) := by decide +kernel
theorem dX2_copyLetters_13 : decode cX2_copyLetters 13 = .ok (.if_icmp .ge 21, 3) := by decide +kernel
theorem dX2_copyLetters_16 : decode cX2_copyLetters 16 = .ok (.aload_n 1, 1) := by decide +kernel
theorem dX2_copyLetters_17 : decode cX2_copyLetters 17 = .ok (.iload_n 2, 1) := by decide +kernel
theorem dX2_copyLetters_18 : decode cX2_copyLetters 18 = .ok (.aload_n 0, 1) := by decide +kernel
theorem dX2_copyLetters_19 : decode cX2_copyLetters 19 = .ok (.getfield 9, 3) := by decide +kernel
theorem dX2_copyLetters_22 : decode cX2_copyLetters 22 = .ok (.iload_n 2, 1) := by decide +kernel
theorem dX2_copyLetters_23 : decode cX2_copyLetters 23 = .ok (.iaload, 1) := by decide +kernel
theorem dX2_copyLetters_24 : decode cX2_copyLetters 24 = .ok (.bipush 97, 2) := by decide +kernel
theorem dX2_copyLetters_26 : decode cX2_copyLetters 26 = .ok (.isub, 1) := by decide +kernel
theorem dX2_copyLetters_27 : decode cX2_copyLetters 27 = .ok (.iastore, 1) := by decide +kernel
theorem dX2_copyLetters_28 : decode cX2_copyLetters 28 = .ok (.iinc 2 1, 3) := by decide +kernel
theorem dX2_copyLetters_31 : decode cX2_copyLetters 31 = .ok (.goto (-29), 3) := by decide +kernel
theorem dX2_copyLetters_34 : decode cX2_copyLetters 34 = .ok (.return_, 1) := by decide +kernel
theorem dX2_fitsStreet_0 : decode cX2_fitsStreet 0 = .ok (.iload_n 1, 1) := by decide +kernel
theorem dX2_fitsStreet_1 : decode cX2_fitsStreet 1 = .ok (.bipush 17, 2) := by decide +kernel
theorem dX2_fitsStreet_3 : decode cX2_fitsStreet 3 = .ok (.if_icmp .lt 5, 3) := by decide +kernel
theorem dX2_fitsStreet_6 : decode cX2_fitsStreet 6 = .ok (.iconst 0, 1) := by decide +kernel
theorem dX2_fitsStreet_7 : decode cX2_fitsStreet 7 = .ok (.ireturn, 1) := by decide +kernel
theorem dX2_fitsStreet_8 : decode cX2_fitsStreet 8 = .ok (.iload_n 1, 1) := by decide +kernel
theorem dX2_fitsStreet_9 : decode cX2_fitsStreet 9 = .ok (.iconst 3, 1) := by decide +kernel
theorem dX2_fitsStreet_10 : decode cX2_fitsStreet 10 = .ok (.irem, 1) := by decide +kernel
theorem dX2_fitsStreet_11 : decode cX2_fitsStreet 11 = .ok (.lookupswitch 58 #[(0, 25), (1, 39)], 25) := by decide +kernel
theorem dX2_fitsStreet_36 : decode cX2_fitsStreet 36 = .ok (.aload_n 0, 1) := by decide +kernel
theorem dX2_fitsStreet_37 : decode cX2_fitsStreet 37 = .ok (.iload_n 1, 1) := by decide +kernel
theorem dX2_fitsStreet_38 : decode cX2_fitsStreet 38 = .ok (.invokevirtual 37, 3) := by decide +kernel
theorem dX2_fitsStreet_41 : decode cX2_fitsStreet 41 = .ok (.ifCond .lt 7, 3) := by decide +kernel
theorem dX2_fitsStreet_44 : decode cX2_fitsStreet 44 = .ok (.iconst 1, 1) := by decide +kernel
theorem dX2_fitsStreet_45 : decode cX2_fitsStreet 45 = .ok (.goto 4, 3) := by decide +kernel
theorem dX2_fitsStreet_48 : decode cX2_fitsStreet 48 = .ok (.iconst 0, 1) := by decide +kernel
theorem dX2_fitsStreet_49 : decode cX2_fitsStreet 49 = .ok (.ireturn, 1) := by decide +kernel
theorem dX2_fitsStreet_50 : decode cX2_fitsStreet 50 = .ok (.aload_n 0, 1) := by decide +kernel
theorem dX2_fitsStreet_51 : decode cX2_fitsStreet 51 = .ok (.iload_n 1, 1) := by decide +kernel
theorem dX2_fitsStreet_52 : decode cX2_fitsStreet 52 = .ok (.iload_n 1, 1) := by decide +kernel
theorem dX2_fitsStreet_53 : decode cX2_fitsStreet 53 = .ok (.iconst 3, 1) := by decide +kernel
theorem dX2_fitsStreet_54 : decode cX2_fitsStreet 54 = .ok (.idiv, 1) := by decide +kernel
theorem dX2_fitsStreet_55 : decode cX2_fitsStreet 55 = .ok (.invokevirtual 40, 3) := by decide +kernel
theorem dX2_fitsStreet_58 : decode cX2_fitsStreet 58 = .ok (.bipush (-101), 2) := by decide +kernel
theorem dX2_fitsStreet_60 : decode cX2_fitsStreet 60 = .ok (.if_icmp .eq 7, 3) := by decide +kernel
theorem dX2_fitsStreet_63 : decode cX2_fitsStreet 63 = .ok (.iconst 1, 1) := by decide +kernel
theorem dX2_fitsStreet_64 : decode cX2_fitsStreet 64 = .ok (.goto 4, 3) := by decide +kernel
theorem dX2_fitsStreet_67 : decode cX2_fitsStreet 67 = .ok (.iconst 0, 1) := by decide +kernel
theorem dX2_fitsStreet_68 : decode cX2_fitsStreet 68 = .ok (.ireturn, 1) := by decide +kernel
theorem dX2_fitsStreet_69 : decode cX2_fitsStreet 69 = .ok (.aload_n 0, 1) := by decide +kernel
theorem dX2_fitsStreet_70 : decode cX2_fitsStreet 70 = .ok (.getfield 9, 3) := by decide +kernel
theorem dX2_fitsStreet_73 : decode cX2_fitsStreet 73 = .ok (.iload_n 1, 1) := by decide +kernel
theorem dX2_fitsStreet_74 : decode cX2_fitsStreet 74 = .ok (.iaload, 1) := by decide +kernel
theorem dX2_fitsStreet_75 : decode cX2_fitsStreet 75 = .ok (.bipush 44, 2) := by decide +kernel
theorem dX2_fitsStreet_77 : decode cX2_fitsStreet 77 = .ok (.if_icmp .ne 7, 3) := by decide +kernel
theorem dX2_fitsStreet_80 : decode cX2_fitsStreet 80 = .ok (.iconst 1, 1) := by decide +kernel
theorem dX2_fitsStreet_81 : decode cX2_fitsStreet 81 = .ok (.goto 4, 3) := by decide +kernel
theorem dX2_fitsStreet_84 : decode cX2_fitsStreet 84 = .ok (.iconst 0, 1) := by decide +kernel
theorem dX2_fitsStreet_85 : decode cX2_fitsStreet 85 = .ok (.ireturn, 1) := by decide +kernel
theorem dX2_fitsWord_0 : decode cX2_fitsWord 0 = .ok (.iload_n 1, 1) := by decide +kernel
theorem dX2_fitsWord_1 : decode cX2_fitsWord 1 = .ok (.bipush 8, 2) := by decide +kernel
theorem dX2_fitsWord_3 : decode cX2_fitsWord 3 = .ok (.if_icmp .ge 22, 3) := by decide +kernel
theorem dX2_fitsWord_6 : decode cX2_fitsWord 6 = .ok (.aload_n 0, 1) := by decide +kernel
theorem dX2_fitsWord_7 : decode cX2_fitsWord 7 = .ok (.getfield 9, 3) := by decide +kernel
theorem dX2_fitsWord_10 : decode cX2_fitsWord 10 = .ok (.iload_n 1, 1) := by decide +kernel
theorem dX2_fitsWord_11 : decode cX2_fitsWord 11 = .ok (.iaload, 1) := by decide +kernel
theorem dX2_fitsWord_12 : decode cX2_fitsWord 12 = .ok (.bipush 97, 2) := by decide +kernel
theorem dX2_fitsWord_14 : decode cX2_fitsWord 14 = .ok (.isub, 1) := by decide +kernel
theorem dX2_fitsWord_15 : decode cX2_fitsWord 15 = .ok (.invokestatic 44, 3) := by decide +kernel
theorem dX2_fitsWord_18 : decode cX2_fitsWord 18 = .ok (.ifCond .eq 7, 3) := by decide +kernel
theorem dX2_fitsWord_21 : decode cX2_fitsWord 21 = .ok (.iconst 1, 1) := by decide +kernel
theorem dX2_fitsWord_22 : decode cX2_fitsWord 22 = .ok (.goto 4, 3) := by decide +kernel
theorem dX2_fitsWord_25 : decode cX2_fitsWord 25 = .ok (.iconst 0, 1) := by decide +kernel
theorem dX2_fitsWord_26 : decode cX2_fitsWord 26 = .ok (.ireturn, 1) := by decide +kernel
theorem dX3_init_0 : decode cX3_init 0 = .ok (.aload_n 0, 1) := by decide +kernel
theorem dX3_init_1 : decode cX3_init 1 = .ok (.invokespecial 1, 3) := by decide +kernel
theorem dX3_init_4 : decode cX3_init 4 = .ok (.aload_n 0, 1) := by decide +kernel
theorem dX3_init_5 : decode cX3_init 5 = .ok (.new 7, 3) := by decide +kernel
theorem dX3_init_8 : decode cX3_init 8 = .ok (.dup, 1) := by decide +kernel
theorem dX3_init_9 : decode cX3_init 9 = .ok (.invokespecial 9, 3) := by decide +kernel
theorem dX3_init_12 : decode cX3_init 12 = .ok (.putfield 10, 3) := by decide +kernel
theorem dX3_init_15 : decode cX3_init 15 = .ok (.aload_n 0, 1) := by decide +kernel
theorem dX3_init_16 : decode cX3_init 16 = .ok (.new 16, 3) := by decide +kernel
theorem dX3_init_19 : decode cX3_init 19 = .ok (.dup, 1) := by decide +kernel
theorem dX3_init_20 : decode cX3_init 20 = .ok (.invokespecial 18, 3) := by decide +kernel
theorem dX3_init_23 : decode cX3_init 23 = .ok (.putfield 19, 3) := by decide +kernel
theorem dX3_init_26 : decode cX3_init 26 = .ok (.aload_n 0, 1) := by decide +kernel
theorem dX3_init_27 : decode cX3_init 27 = .ok (.new 23, 3) := by decide +kernel
theorem dX3_init_30 : decode cX3_init 30 = .ok (.dup, 1) := by decide +kernel
theorem dX3_init_31 : decode cX3_init 31 = .ok (.invokespecial 25, 3) := by decide +kernel
theorem dX3_init_34 : decode cX3_init 34 = .ok (.putfield 26, 3) := by decide +kernel
theorem dX3_init_37 : decode cX3_init 37 = .ok (.return_, 1) := by decide +kernel
theorem dX3_takeAll_0 : decode cX3_takeAll 0 = .ok (.aload_n 0, 1) := by decide +kernel
theorem dX3_takeAll_1 : decode cX3_takeAll 1 = .ok (.getfield 10, 3) := by decide +kernel
theorem dX3_takeAll_4 : decode cX3_takeAll 4 = .ok (.aload_n 1, 1) := by decide +kernel
theorem dX3_takeAll_5 : decode cX3_takeAll 5 = .ok (.getfield 10, 3) := by decide +kernel
theorem dX3_takeAll_8 : decode cX3_takeAll 8 = .ok (.invokevirtual 30, 3) := by decide +kernel
theorem dX3_takeAll_11 : decode cX3_takeAll 11 = .ok (.aload_n 0, 1) := by decide +kernel
theorem dX3_takeAll_12 : decode cX3_takeAll 12 = .ok (.getfield 19, 3) := by decide +kernel
theorem dX3_takeAll_15 : decode cX3_takeAll 15 = .ok (.aload_n 1, 1) := by decide +kernel
theorem dX3_takeAll_16 : decode cX3_takeAll 16 = .ok (.getfield 19, 3) := by decide +kernel
theorem dX3_takeAll_19 : decode cX3_takeAll 19 = .ok (.invokevirtual 34, 3) := by decide +kernel
theorem dX3_takeAll_22 : decode cX3_takeAll 22 = .ok (.aload_n 0, 1) := by decide +kernel
theorem dX3_takeAll_23 : decode cX3_takeAll 23 = .ok (.getfield 26, 3) := by decide +kernel
theorem dX3_takeAll_26 : decode cX3_takeAll 26 = .ok (.aload_n 1, 1) := by decide +kernel
theorem dX3_takeAll_27 : decode cX3_takeAll 27 = .ok (.getfield 26, 3) := by decide +kernel
theorem dX3_takeAll_30 : decode cX3_takeAll 30 = .ok (.invokevirtual 37, 3) := by decide +kernel
theorem dX3_takeAll_33 : decode cX3_takeAll 33 = .ok (.return_, 1) := by decide +kernel
theorem dX4_init_0 : decode cX4_init 0 = .ok (.aload_n 0, 1) := by decide +kernel
theorem dX4_init_1 : decode cX4_init 1 = .ok (.invokespecial 3, 3) := by decide +kernel
theorem dX4_init_4 : decode cX4_init 4 = .ok (.aload_n 0, 1) := by decide +kernel
theorem dX4_init_5 : decode cX4_init 5 = .ok (.bipush 6, 2) := by decide +kernel
theorem dX4_init_7 : decode cX4_init 7 = .ok (.newarray .int, 2) := by decide +kernel
theorem dX4_init_9 : decode cX4_init 9 = .ok (.putfield 9, 3) := by decide +kernel
theorem dX4_init_12 : decode cX4_init 12 = .ok (.aload_n 0, 1) := by decide +kernel
theorem dX4_init_13 : decode cX4_init 13 = .ok (.bipush 6, 2) := by decide +kernel
theorem dX4_init_15 : decode cX4_init 15 = .ok (.newarray .int, 2) := by decide +kernel
theorem dX4_init_17 : decode cX4_init 17 = .ok (.putfield 15, 3) := by decide +kernel
theorem dX4_init_20 : decode cX4_init 20 = .ok (.aload_n 0, 1) := by decide +kernel
theorem dX4_init_21 : decode cX4_init 21 = .ok (.bipush 6, 2) := by decide +kernel
theorem dX4_init_23 : decode cX4_init 23 = .ok (.newarray .int, 2) := by decide +kernel
theorem dX4_init_25 : decode cX4_init 25 = .ok (.putfield 18, 3) := by decide +kernel
theorem dX4_init_28 : decode cX4_init 28 = .ok (.aload_n 0, 1) := by decide +kernel
theorem dX4_init_29 : decode cX4_init 29 = .ok (.bipush 6, 2) := by decide +kernel
theorem dX4_init_31 : decode cX4_init 31 = .ok (.newarray .int, 2) := by decide +kernel
theorem dX4_init_33 : decode cX4_init 33 = .ok (.putfield 21, 3) := by decide +kernel
theorem dX4_init_36 : decode cX4_init 36 = .ok (.aload_n 0, 1) := by decide +kernel
theorem dX4_init_37 : decode cX4_init 37 = .ok (.bipush 6, 2) := by decide +kernel
theorem dX4_init_39 : decode cX4_init 39 = .ok (.newarray .int, 2) := by decide +kernel
theorem dX4_init_41 : decode cX4_init 41 = .ok (.putfield 24, 3) := by decide +kernel
theorem dX4_init_44 : decode cX4_init 44 = .ok (.aload_n 0, 1) := by decide +kernel
theorem dX4_init_45 : decode cX4_init 45 = .ok (.bipush 6, 2) := by decide +kernel
theorem dX4_init_47 : decode cX4_init 47 = .ok (.newarray .int, 2) := by decide +kernel
theorem dX4_init_49 : decode cX4_init 49 = .ok (.putfield 27, 3) := by decide +kernel
theorem dX4_init_52 : decode cX4_init 52 = .ok (.aload_n 0, 1) := by decide +kernel
theorem dX4_init_53 : decode cX4_init 53 = .ok (.bipush 6, 2) := by decide +kernel
theorem dX4_init_55 : decode cX4_init 55 = .ok (.newarray .int, 2) := by decide +kernel
theorem dX4_init_57 : decode cX4_init 57 = .ok (.putfield 30, 3) := by decide +kernel
theorem dX4_init_60 : decode cX4_init 60 = .ok (.aload_n 0, 1) := by decide +kernel
theorem dX4_init_61 : decode cX4_init 61 = .ok (.bipush 6, 2) := by decide +kernel
theorem dX4_init_63 : decode cX4_init 63 = .ok (.bipush 12, 2) := by decide +kernel
theorem dX4_init_65 : decode cX4_init 65 = .ok (.multianewarray 33 2, 4) := by decide +kernel
theorem dX4_init_69 : decode cX4_init 69 = .ok (.putfield 35, 3) := by decide +kernel
theorem dX4_init_72 : decode cX4_init 72 = .ok (.return_, 1) := by decide +kernel
theorem dX4_clear_0 : decode cX4_clear 0 = .ok (.aload_n 0, 1) := by decide +kernel
theorem dX4_clear_1 : decode cX4_clear 1 = .ok (.getfield 18, 3) := by decide +kernel
theorem dX4_clear_4 : decode cX4_clear 4 = .ok (.iconst (-1), 1) := by decide +kernel
theorem dX4_clear_5 : decode cX4_clear 5 = .ok (.invokestatic 38, 3) := by decide +kernel
theorem dX4_clear_8 : decode cX4_clear 8 = .ok (.aload_n 0, 1) := by decide +kernel
theorem dX4_clear_9 : decode cX4_clear 9 = .ok (.getfield 21, 3) := by decide +kernel
theorem dX4_clear_12 : decode cX4_clear 12 = .ok (.iconst 0, 1) := by decide +kernel
theorem dX4_clear_13 : decode cX4_clear 13 = .ok (.invokestatic 38, 3) := by decide +kernel
theorem dX4_clear_16 : decode cX4_clear 16 = .ok (.aload_n 0, 1) := by decide +kernel
theorem dX4_clear_17 : decode cX4_clear 17 = .ok (.getfield 24, 3) := by decide +kernel
theorem dX4_clear_20 : decode cX4_clear 20 = .ok (.iconst 0, 1) := by decide +kernel
theorem dX4_clear_21 : decode cX4_clear 21 = .ok (.invokestatic 38, 3) := by decide +kernel
theorem dX4_clear_24 : decode cX4_clear 24 = .ok (.aload_n 0, 1) := by decide +kernel
theorem dX4_clear_25 : decode cX4_clear 25 = .ok (.getfield 27, 3) := by decide +kernel
theorem dX4_clear_28 : decode cX4_clear 28 = .ok (.iconst 0, 1) := by decide +kernel
theorem dX4_clear_29 : decode cX4_clear 29 = .ok (.invokestatic 38, 3) := by decide +kernel
theorem dX4_clear_32 : decode cX4_clear 32 = .ok (.aload_n 0, 1) := by decide +kernel
theorem dX4_clear_33 : decode cX4_clear 33 = .ok (.getfield 30, 3) := by decide +kernel
theorem dX4_clear_36 : decode cX4_clear 36 = .ok (.iconst 0, 1) := by decide +kernel
theorem dX4_clear_37 : decode cX4_clear 37 = .ok (.invokestatic 38, 3) := by decide +kernel
theorem dX4_clear_40 : decode cX4_clear 40 = .ok (.return_, 1) := by decide +kernel
theorem dX4_layLike_0 : decode cX4_layLike 0 = .ok (.aload_n 1, 1) := by decide +kernel
theorem dX4_layLike_1 : decode cX4_layLike 1 = .ok (.getfield 9, 3) := by decide +kernel
theorem dX4_layLike_4 : decode cX4_layLike 4 = .ok (.iconst 0, 1) := by decide +kernel
theorem dX4_layLike_5 : decode cX4_layLike 5 = .ok (.aload_n 0, 1) := by decide +kernel
theorem dX4_layLike_6 : decode cX4_layLike 6 = .ok (.getfield 9, 3) := by decide +kernel
theorem dX4_layLike_9 : decode cX4_layLike 9 = .ok (.iconst 0, 1) := by decide +kernel
theorem dX4_layLike_10 : decode cX4_layLike 10 = .ok (.bipush 6, 2) := by decide +kernel
theorem dX4_layLike_12 : decode cX4_layLike 12 = .ok (.invokestatic 44, 3) := by decide +kernel
theorem dX4_layLike_15 : decode cX4_layLike 15 = .ok (.aload_n 1, 1) := by decide +kernel
theorem dX4_layLike_16 : decode cX4_layLike 16 = .ok (.getfield 15, 3) := by decide +kernel
theorem dX4_layLike_19 : decode cX4_layLike 19 = .ok (.iconst 0, 1) := by decide +kernel
theorem dX4_layLike_20 : decode cX4_layLike 20 = .ok (.aload_n 0, 1) := by decide +kernel
theorem dX4_layLike_21 : decode cX4_layLike 21 = .ok (.getfield 15, 3) := by decide +kernel
theorem dX4_layLike_24 : decode cX4_layLike 24 = .ok (.iconst 0, 1) := by decide +kernel
theorem dX4_layLike_25 : decode cX4_layLike 25 = .ok (.bipush 6, 2) := by decide +kernel
theorem dX4_layLike_27 : decode cX4_layLike 27 = .ok (.invokestatic 44, 3) := by decide +kernel
theorem dX4_layLike_30 : decode cX4_layLike 30 = .ok (.aload_n 0, 1) := by decide +kernel
theorem dX4_layLike_31 : decode cX4_layLike 31 = .ok (.invokevirtual 50, 3) := by decide +kernel
theorem dX4_layLike_34 : decode cX4_layLike 34 = .ok (.return_, 1) := by decide +kernel
theorem dX4_takeAll_0 : decode cX4_takeAll 0 = .ok (.aload_n 0, 1) := by decide +kernel
theorem dX4_takeAll_1 : decode cX4_takeAll 1 = .ok (.aload_n 1, 1) := by decide +kernel
theorem dX4_takeAll_2 : decode cX4_takeAll 2 = .ok (.invokevirtual 53, 3) := by decide +kernel
theorem dX4_takeAll_5 : decode cX4_takeAll 5 = .ok (.aload_n 1, 1) := by decide +kernel
theorem dX4_takeAll_6 : decode cX4_takeAll 6 = .ok (.getfield 18, 3) := by decide +kernel
theorem dX4_takeAll_9 : decode cX4_takeAll 9 = .ok (.iconst 0, 1) := by decide +kernel
theorem dX4_takeAll_10 : decode cX4_takeAll 10 = .ok (.aload_n 0, 1) := by decide +kernel
theorem dX4_takeAll_11 : decode cX4_takeAll 11 = .ok (.getfield 18, 3) := by decide +kernel
theorem dX4_takeAll_14 : decode cX4_takeAll 14 = .ok (.iconst 0, 1) := by decide +kernel
theorem dX4_takeAll_15 : decode cX4_takeAll 15 = .ok (.bipush 6, 2) := by decide +kernel
theorem dX4_takeAll_17 : decode cX4_takeAll 17 = .ok (.invokestatic 44, 3) := by decide +kernel
theorem dX4_takeAll_20 : decode cX4_takeAll 20 = .ok (.aload_n 1, 1) := by decide +kernel
theorem dX4_takeAll_21 : decode cX4_takeAll 21 = .ok (.getfield 21, 3) := by decide +kernel
theorem dX4_takeAll_24 : decode cX4_takeAll 24 = .ok (.iconst 0, 1) := by decide +kernel
theorem dX4_takeAll_25 : decode cX4_takeAll 25 = .ok (.aload_n 0, 1) := by decide +kernel
theorem dX4_takeAll_26 : decode cX4_takeAll 26 = .ok (.getfield 21, 3) := by decide +kernel
theorem dX4_takeAll_29 : decode cX4_takeAll 29 = .ok (.iconst 0, 1) := by decide +kernel
theorem dX4_takeAll_30 : decode cX4_takeAll 30 = .ok (.bipush 6, 2) := by decide +kernel
theorem dX4_takeAll_32 : decode cX4_takeAll 32 = .ok (.invokestatic 44, 3) := by decide +kernel
theorem dX4_takeAll_35 : decode cX4_takeAll 35 = .ok (.aload_n 1, 1) := by decide +kernel
theorem dX4_takeAll_36 : decode cX4_takeAll 36 = .ok (.getfield 24, 3) := by decide +kernel
theorem dX4_takeAll_39 : decode cX4_takeAll 39 = .ok (.iconst 0, 1) := by decide +kernel
theorem dX4_takeAll_40 : decode cX4_takeAll 40 = .ok (.aload_n 0, 1) := by decide +kernel
theorem dX4_takeAll_41 : decode cX4_takeAll 41 = .ok (.getfield 24, 3) := by decide +kernel
theorem dX4_takeAll_44 : decode cX4_takeAll 44 = .ok (.iconst 0, 1) := by decide +kernel
theorem dX4_takeAll_45 : decode cX4_takeAll 45 = .ok (.bipush 6, 2) := by decide +kernel
theorem dX4_takeAll_47 : decode cX4_takeAll 47 = .ok (.invokestatic 44, 3) := by decide +kernel
theorem dX4_takeAll_50 : decode cX4_takeAll 50 = .ok (.aload_n 1, 1) := by decide +kernel
theorem dX4_takeAll_51 : decode cX4_takeAll 51 = .ok (.getfield 27, 3) := by decide +kernel
theorem dX4_takeAll_54 : decode cX4_takeAll 54 = .ok (.iconst 0, 1) := by decide +kernel
theorem dX4_takeAll_55 : decode cX4_takeAll 55 = .ok (.aload_n 0, 1) := by decide +kernel
theorem dX4_takeAll_56 : decode cX4_takeAll 56 = .ok (.getfield 27, 3) := by decide +kernel
theorem dX4_takeAll_59 : decode cX4_takeAll 59 = .ok (.iconst 0, 1) := by decide +kernel
theorem dX4_takeAll_60 : decode cX4_takeAll 60 = .ok (.bipush 6, 2) := by decide +kernel
theorem dX4_takeAll_62 : decode cX4_takeAll 62 = .ok (.invokestatic 44, 3) := by decide +kernel
theorem dX4_takeAll_65 : decode cX4_takeAll 65 = .ok (.aload_n 1, 1) := by decide +kernel
theorem dX4_takeAll_66 : decode cX4_takeAll 66 = .ok (.getfield 30, 3) := by decide +kernel
theorem dX4_takeAll_69 : decode cX4_takeAll 69 = .ok (.iconst 0, 1) := by decide +kernel
theorem dX4_takeAll_70 : decode cX4_takeAll 70 = .ok (.aload_n 0, 1) := by decide +kernel
theorem dX4_takeAll_71 : decode cX4_takeAll 71 = .ok (.getfield 30, 3) := by decide +kernel
theorem dX4_takeAll_74 : decode cX4_takeAll 74 = .ok (.iconst 0, 1) := by decide +kernel
theorem dX4_takeAll_75 : decode cX4_takeAll 75 = .ok (.bipush 6, 2) := by decide +kernel
theorem dX4_takeAll_77 : decode cX4_takeAll 77 = .ok (.invokestatic 44, 3) := by decide +kernel
theorem dX4_takeAll_80 : decode cX4_takeAll 80 = .ok (.iconst 0, 1) := by decide +kernel
theorem dX4_takeAll_81 : decode cX4_takeAll 81 = .ok (.istore_n 2, 1) := by decide +kernel
theorem dX4_takeAll_82 : decode cX4_takeAll 82 = .ok (.iload_n 2, 1) := by decide +kernel
theorem dX4_takeAll_83 : decode cX4_takeAll 83 = .ok (.bipush 6, 2) := by decide +kernel
theorem dX4_takeAll_85 : decode cX4_takeAll 85 = .ok (.if_icmp .ge 28, 3) := by decide +kernel
theorem dX4_takeAll_88 : decode cX4_takeAll 88 = .ok (.aload_n 1, 1) := by decide +kernel
theorem dX4_takeAll_89 : decode cX4_takeAll 89 = .ok (.getfield 35, 3) := by decide +kernel
theorem dX4_takeAll_92 : decode cX4_takeAll 92 = .ok (.iload_n 2, 1) := by decide +kernel
theorem dX4_takeAll_93 : decode cX4_takeAll 93 = .ok (.aaload, 1) := by decide +kernel
theorem dX4_takeAll_94 : decode cX4_takeAll 94 = .ok (.iconst 0, 1) := by decide +kernel
theorem dX4_takeAll_95 : decode cX4_takeAll 95 = .ok (.aload_n 0, 1) := by decide +kernel
theorem dX4_takeAll_96 : decode cX4_takeAll 96 = .ok (.getfield 35, 3) := by decide +kernel
theorem dX4_takeAll_99 : decode cX4_takeAll 99 = .ok (.iload_n 2, 1) := by decide +kernel
theorem dX4_takeAll_100 : decode cX4_takeAll 100 = .ok (.aaload, 1) := by decide +kernel
theorem dX4_takeAll_101 : decode cX4_takeAll 101 = .ok (.iconst 0, 1) := by decide +kernel
theorem dX4_takeAll_102 : decode cX4_takeAll 102 = .ok (.bipush 12, 2) := by decide +kernel
theorem dX4_takeAll_104 : decode cX4_takeAll 104 = .ok (.invokestatic 44, 3) := by decide +kernel
theorem dX4_takeAll_107 : decode cX4_takeAll 107 = .ok (.iinc 2 1, 3) := by decide +kernel
theorem dX4_takeAll_110 : decode cX4_takeAll 110 = .ok (.goto (-28), 3) := by decide +kernel
theorem dX4_takeAll_113 : decode cX4_takeAll 113 = .ok (.return_, 1) := by decide +kernel
theorem dX4_flowBy_0 : decode cX4_flowBy 0 = .ok (.iload_n 1, 1) := by decide +kernel
theorem dX4_flowBy_1 : decode cX4_flowBy 1 = .ok (.istore_n 2, 1) := by decide +kernel
theorem dX4_flowBy_2 : decode cX4_flowBy 2 = .ok (.iconst 0, 1) := by decide +kernel
theorem dX4_flowBy_3 : decode cX4_flowBy 3 = .ok (.istore_n 3, 1) := by decide +kernel
theorem dX4_flowBy_4 : decode cX4_flowBy 4 = .ok (.iload_n 3, 1) := by decide +kernel
theorem dX4_flowBy_5 : decode cX4_flowBy 5 = .ok (.bipush 6, 2) := by decide +kernel
theorem dX4_flowBy_7 : decode cX4_flowBy 7 = .ok (.if_icmp .ge 45, 3) := by decide +kernel
theorem dX4_flowBy_10 : decode cX4_flowBy 10 = .ok (.bipush 6, 2) := by decide +kernel
theorem dX4_flowBy_12 : decode cX4_flowBy 12 = .ok (.iload_n 3, 1) := by decide +kernel
theorem dX4_flowBy_13 : decode cX4_flowBy 13 = .ok (.isub, 1) := by decide +kernel
theorem dX4_flowBy_14 : decode cX4_flowBy 14 = .ok (.istore 4, 2) := by decide +kernel
theorem dX4_flowBy_16 : decode cX4_flowBy 16 = .ok (.iload_n 2, 1) := by decide +kernel
theorem dX4_flowBy_17 : decode cX4_flowBy 17 = .ok (.iload 4, 2) := by decide +kernel
theorem dX4_flowBy_19 : decode cX4_flowBy 19 = .ok (.irem, 1) := by decide +kernel
theorem dX4_flowBy_20 : decode cX4_flowBy 20 = .ok (.istore 5, 2) := by decide +kernel
theorem dX4_flowBy_22 : decode cX4_flowBy 22 = .ok (.iload_n 2, 1) := by decide +kernel
theorem dX4_flowBy_23 : decode cX4_flowBy 23 = .ok (.iload 4, 2) := by decide +kernel
theorem dX4_flowBy_25 : decode cX4_flowBy 25 = .ok (.idiv, 1) := by decide +kernel
theorem dX4_flowBy_26 : decode cX4_flowBy 26 = .ok (.istore_n 2, 1) := by decide +kernel
theorem dX4_flowBy_27 : decode cX4_flowBy 27 = .ok (.aload_n 0, 1) := by decide +kernel
theorem dX4_flowBy_28 : decode cX4_flowBy 28 = .ok (.getfield 15, 3) := by decide +kernel
theorem dX4_flowBy_31 : decode cX4_flowBy 31 = .ok (.iload_n 3, 1) := by decide +kernel
theorem dX4_flowBy_32 : decode cX4_flowBy 32 = .ok (.iload 5, 2) := by decide +kernel
theorem dX4_flowBy_34 : decode cX4_flowBy 34 = .ok (.ifCond .ne 7, 3) := by decide +kernel
theorem dX4_flowBy_37 : decode cX4_flowBy 37 = .ok (.iconst (-1), 1) := by decide +kernel
theorem dX4_flowBy_38 : decode cX4_flowBy 38 = .ok (.goto 7, 3) := by decide +kernel
theorem dX4_flowBy_41 : decode cX4_flowBy 41 = .ok (.iload_n 3, 1) := by decide +kernel
theorem dX4_flowBy_42 : decode cX4_flowBy 42 = .ok (.iload 5, 2) := by decide +kernel
theorem dX4_flowBy_44 : decode cX4_flowBy 44 = .ok (.iadd, 1) := by decide +kernel
theorem dX4_flowBy_45 : decode cX4_flowBy 45 = .ok (.iastore, 1) := by decide +kernel
theorem dX4_flowBy_46 : decode cX4_flowBy 46 = .ok (.iinc 3 1, 3) := by decide +kernel
theorem dX4_flowBy_49 : decode cX4_flowBy 49 = .ok (.goto (-45), 3) := by decide +kernel
theorem dX4_flowBy_52 : decode cX4_flowBy 52 = .ok (.return_, 1) := by decide +kernel
theorem dX4_unlikeFlows_0 : decode cX4_unlikeFlows 0 = .ok (.iconst 0, 1) := by decide +kernel
theorem dX4_unlikeFlows_1 : decode cX4_unlikeFlows 1 = .ok (.istore_n 2, 1) := by decide +kernel
theorem dX4_unlikeFlows_2 : decode cX4_unlikeFlows 2 = .ok (.iconst 0, 1) := by decide +kernel
theorem dX4_unlikeFlows_3 : decode cX4_unlikeFlows 3 = .ok (.istore_n 3, 1) := by decide +kernel
theorem dX4_unlikeFlows_4 : decode cX4_unlikeFlows 4 = .ok (.iload_n 3, 1) := by decide +kernel
theorem dX4_unlikeFlows_5 : decode cX4_unlikeFlows 5 = .ok (.bipush 6, 2) := by decide +kernel
theorem dX4_unlikeFlows_7 : decode cX4_unlikeFlows 7 = .ok (.if_icmp .ge 30, 3) := by decide +kernel
theorem dX4_unlikeFlows_10 : decode cX4_unlikeFlows 10 = .ok (.aload_n 0, 1) := by decide +kernel
theorem dX4_unlikeFlows_11 : decode cX4_unlikeFlows 11 = .ok (.getfield 15, 3) := by decide +kernel
theorem dX4_unlikeFlows_14 : decode cX4_unlikeFlows 14 = .ok (.iload_n 3, 1) := by decide +kernel
theorem dX4_unlikeFlows_15 : decode cX4_unlikeFlows 15 = .ok (.iaload, 1) := by decide +kernel
theorem dX4_unlikeFlows_16 : decode cX4_unlikeFlows 16 = .ok (.aload_n 1, 1) := by decide +kernel
theorem dX4_unlikeFlows_17 : decode cX4_unlikeFlows 17 = .ok (.getfield 15, 3) := by decide +kernel
theorem dX4_unlikeFlows_20 : decode cX4_unlikeFlows 20 = .ok (.iload_n 3, 1) := by decide +kernel
theorem dX4_unlikeFlows_21 : decode cX4_unlikeFlows 21 = .ok (.iaload, 1) := by decide +kernel
theorem dX4_unlikeFlows_22 : decode cX4_unlikeFlows 22 = .ok (.if_icmp .eq 9, 3) := by decide +kernel
theorem dX4_unlikeFlows_25 : decode cX4_unlikeFlows 25 = .ok (.iload_n 2, 1) := by decide +kernel
theorem dX4_unlikeFlows_26 : decode cX4_unlikeFlows 26 = .ok (.iconst 1, 1) := by decide +kernel
theorem dX4_unlikeFlows_27 : decode cX4_unlikeFlows 27 = .ok (.iload_n 3, 1) := by decide +kernel
theorem dX4_unlikeFlows_28 : decode cX4_unlikeFlows 28 = .ok (.ishl, 1) := by decide +kernel
theorem dX4_unlikeFlows_29 : decode cX4_unlikeFlows 29 = .ok (.ior, 1) := by decide +kernel
theorem dX4_unlikeFlows_30 : decode cX4_unlikeFlows 30 = .ok (.istore_n 2, 1) := by decide +kernel
theorem dX4_unlikeFlows_31 : decode cX4_unlikeFlows 31 = .ok (.iinc 3 1, 3) := by decide +kernel
theorem dX4_unlikeFlows_34 : decode cX4_unlikeFlows 34 = .ok (.goto (-30), 3) := by decide +kernel
theorem dX4_unlikeFlows_37 : decode cX4_unlikeFlows 37 = .ok (.iload_n 2, 1) := by decide +kernel
theorem dX4_unlikeFlows_38 : decode cX4_unlikeFlows 38 = .ok (.ireturn, 1) := by decide +kernel
theorem dX4_runAll_0 : decode cX4_runAll 0 = .ok (.iconst 0, 1) := by decide +kernel
theorem dX4_runAll_1 : decode cX4_runAll 1 = .ok (.istore 4, 2) := by decide +kernel
theorem dX4_runAll_3 : decode cX4_runAll 3 = .ok (.iload 4, 2) := by decide +kernel
theorem dX4_runAll_5 : decode cX4_runAll 5 = .ok (.aload_n 1, 1) := by decide +kernel
theorem dX4_runAll_6 : decode cX4_runAll 6 = .ok (.getfield 57, 3) := by decide +kernel
theorem dX4_runAll_9 : decode cX4_runAll 9 = .ok (.if_icmp .ge 38, 3) := by decide +kernel
theorem dX4_runAll_12 : decode cX4_runAll 12 = .ok (.aload_n 0, 1) := by decide +kernel
theorem dX4_runAll_13 : decode cX4_runAll 13 = .ok (.aload_n 1, 1) := by decide +kernel
theorem dX4_runAll_14 : decode cX4_runAll 14 = .ok (.getfield 63, 3) := by decide +kernel
theorem dX4_runAll_17 : decode cX4_runAll 17 = .ok (.iload 4, 2) := by decide +kernel
theorem dX4_runAll_19 : decode cX4_runAll 19 = .ok (.iaload, 1) := by decide +kernel
theorem dX4_runAll_20 : decode cX4_runAll 20 = .ok (.iload 4, 2) := by decide +kernel
theorem dX4_runAll_22 : decode cX4_runAll 22 = .ok (.iload_n 2, 1) := by decide +kernel
theorem dX4_runAll_23 : decode cX4_runAll 23 = .ok (.if_icmp .ne 7, 3) := by decide +kernel
theorem dX4_runAll_26 : decode cX4_runAll 26 = .ok (.iload_n 3, 1) := by decide +kernel
theorem dX4_runAll_27 : decode cX4_runAll 27 = .ok (.goto 10, 3) := by decide +kernel
theorem dX4_runAll_30 : decode cX4_runAll 30 = .ok (.aload_n 1, 1) := by decide +kernel
theorem dX4_runAll_31 : decode cX4_runAll 31 = .ok (.getfield 66, 3) := by decide +kernel
theorem dX4_runAll_34 : decode cX4_runAll 34 = .ok (.iload 4, 2) := by decide +kernel
theorem dX4_runAll_36 : decode cX4_runAll 36 = .ok (.iaload, 1) := by decide +kernel
theorem dX4_runAll_37 : decode cX4_runAll 37 = .ok (.invokevirtual 69, 3) := by decide +kernel
theorem dX4_runAll_40 : decode cX4_runAll 40 = .ok (.pop, 1) := by decide +kernel
theorem dX4_runAll_41 : decode cX4_runAll 41 = .ok (.iinc 4 1, 3) := by decide +kernel
theorem dX4_runAll_44 : decode cX4_runAll 44 = .ok (.goto (-41), 3) := by decide +kernel
theorem dX4_runAll_47 : decode cX4_runAll 47 = .ok (.return_, 1) := by decide +kernel
theorem dX4_run_0 : decode cX4_run 0 = .ok (.iload_n 1, 1) := by decide +kernel
theorem dX4_run_1 : decode cX4_run 1 = .ok (.istore_n 3, 1) := by decide +kernel
theorem dX4_run_2 : decode cX4_run 2 = .ok (.iload_n 2, 1) := by decide +kernel
theorem dX4_run_3 : decode cX4_run 3 = .ok (.istore 4, 2) := by decide +kernel
theorem dX4_run_5 : decode cX4_run 5 = .ok (.iconst 0, 1) := by decide +kernel
theorem dX4_run_6 : decode cX4_run 6 = .ok (.istore 5, 2) := by decide +kernel
theorem dX4_run_8 : decode cX4_run 8 = .ok (.iload 5, 2) := by decide +kernel
theorem dX4_run_10 : decode cX4_run 10 = .ok (.bipush 6, 2) := by decide +kernel
theorem dX4_run_12 : decode cX4_run 12 = .ok (.if_icmp .ge 62, 3) := by decide +kernel
theorem dX4_run_15 : decode cX4_run 15 = .ok (.iload_n 3, 1) := by decide +kernel
theorem dX4_run_16 : decode cX4_run 16 = .ok (.ifCond .lt 58, 3) := by decide +kernel
theorem dX4_run_19 : decode cX4_run 19 = .ok (.iload_n 3, 1) := by decide +kernel
theorem dX4_run_20 : decode cX4_run 20 = .ok (.bipush 6, 2) := by decide +kernel
theorem dX4_run_22 : decode cX4_run 22 = .ok (.if_icmp .ge 52, 3) := by decide +kernel
theorem dX4_run_25 : decode cX4_run 25 = .ok (.aload_n 0, 1) := by decide +kernel
theorem dX4_run_26 : decode cX4_run 26 = .ok (.iload_n 3, 1) := by decide +kernel
theorem dX4_run_27 : decode cX4_run 27 = .ok (.iload 4, 2) := by decide +kernel
theorem dX4_run_29 : decode cX4_run 29 = .ok (.invokevirtual 73, 3) := by decide +kernel
theorem dX4_run_32 : decode cX4_run 32 = .ok (.istore 4, 2) := by decide +kernel
theorem dX4_run_34 : decode cX4_run 34 = .ok (.iload 4, 2) := by decide +kernel
theorem dX4_run_36 : decode cX4_run 36 = .ok (.iconst (-1), 1) := by decide +kernel
theorem dX4_run_37 : decode cX4_run 37 = .ok (.if_icmp .ne 5, 3) := by decide +kernel
theorem dX4_run_40 : decode cX4_run 40 = .ok (.iconst (-1), 1) := by decide +kernel
theorem dX4_run_41 : decode cX4_run 41 = .ok (.ireturn, 1) := by decide +kernel
theorem dX4_run_42 : decode cX4_run 42 = .ok (.aload_n 0, 1) := by decide +kernel
theorem dX4_run_43 : decode cX4_run 43 = .ok (.getfield 15, 3) := by decide +kernel
theorem dX4_run_46 : decode cX4_run 46 = .ok (.iload_n 3, 1) := by decide +kernel
theorem dX4_run_47 : decode cX4_run 47 = .ok (.iaload, 1) := by decide +kernel
theorem dX4_run_48 : decode cX4_run 48 = .ok (.iconst (-1), 1) := by decide +kernel
theorem dX4_run_49 : decode cX4_run 49 = .ok (.if_icmp .ne 12, 3) := by decide +kernel
theorem dX4_run_52 : decode cX4_run 52 = .ok (.aload_n 0, 1) := by decide +kernel
theorem dX4_run_53 : decode cX4_run 53 = .ok (.iload_n 3, 1) := by decide +kernel
theorem dX4_run_54 : decode cX4_run 54 = .ok (.iload 4, 2) := by decide +kernel
theorem dX4_run_56 : decode cX4_run 56 = .ok (.invokevirtual 76, 3) := by decide +kernel
theorem dX4_run_59 : decode cX4_run 59 = .ok (.iload_n 3, 1) := by decide +kernel
theorem dX4_run_60 : decode cX4_run 60 = .ok (.ireturn, 1) := by decide +kernel
theorem dX4_run_61 : decode cX4_run 61 = .ok (.aload_n 0, 1) := by decide +kernel
theorem dX4_run_62 : decode cX4_run 62 = .ok (.getfield 15, 3) := by decide +kernel
theorem dX4_run_65 : decode cX4_run 65 = .ok (.iload_n 3, 1) := by decide +kernel
theorem dX4_run_66 : decode cX4_run 66 = .ok (.iaload, 1) := by decide +kernel
theorem dX4_run_67 : decode cX4_run 67 = .ok (.istore_n 3, 1) := by decide +kernel
theorem dX4_run_68 : decode cX4_run 68 = .ok (.iinc 5 1, 3) := by decide +kernel
theorem dX4_run_71 : decode cX4_run 71 = .ok (.goto (-63), 3) := by decide +kernel
theorem dX4_run_74 : decode cX4_run 74 = .ok (.iconst (-1), 1) := by decide +kernel
theorem dX4_run_75 : decode cX4_run 75 = .ok (.ireturn, 1) := by decide +kernel
theorem dX4_wordIs_0 : decode cX4_wordIs 0 = .ok (.aload_n 0, 1) := by decide +kernel
theorem dX4_wordIs_1 : decode cX4_wordIs 1 = .ok (.getfield 30, 3) := by decide +kernel
theorem dX4_wordIs_4 : decode cX4_wordIs 4 = .ok (.iload_n 1, 1) := by decide +kernel
theorem dX4_wordIs_5 : decode cX4_wordIs 5 = .ok (.iaload, 1) := by decide +kernel
theorem dX4_wordIs_6 : decode cX4_wordIs 6 = .ok (.iload_n 3, 1) := by decide +kernel
theorem dX4_wordIs_7 : decode cX4_wordIs 7 = .ok (.if_icmp .eq 5, 3) := by decide +kernel
theorem dX4_wordIs_10 : decode cX4_wordIs 10 = .ok (.iconst 0, 1) := by decide +kernel
theorem dX4_wordIs_11 : decode cX4_wordIs 11 = .ok (.ireturn, 1) := by decide +kernel
theorem dX4_wordIs_12 : decode cX4_wordIs 12 = .ok (.iconst 0, 1) := by decide +kernel
theorem dX4_wordIs_13 : decode cX4_wordIs 13 = .ok (.istore 4, 2) := by decide +kernel
theorem dX4_wordIs_15 : decode cX4_wordIs 15 = .ok (.iload 4, 2) := by decide +kernel
theorem dX4_wordIs_17 : decode cX4_wordIs 17 = .ok (.iload_n 3, 1) := by decide +kernel
theorem dX4_wordIs_18 : decode cX4_wordIs 18 = .ok (.if_icmp .ge 34, 3) := by decide +kernel
theorem dX4_wordIs_21 : decode cX4_wordIs 21 = .ok (.iload 4, 2) := by decide +kernel
theorem dX4_wordIs_23 : decode cX4_wordIs 23 = .ok (.aload_n 2, 1) := by decide +kernel
theorem dX4_wordIs_24 : decode cX4_wordIs 24 = .ok (.arraylength, 1) := by decide +kernel
theorem dX4_wordIs_25 : decode cX4_wordIs 25 = .ok (.if_icmp .ge 27, 3) := by decide +kernel
theorem dX4_wordIs_28 : decode cX4_wordIs 28 = .ok (.aload_n 0, 1) := by decide +kernel
theorem dX4_wordIs_29 : decode cX4_wordIs 29 = .ok (.getfield 35, 3) := by decide +kernel
theorem dX4_wordIs_32 : decode cX4_wordIs 32 = .ok (.iload_n 1, 1) := by decide +kernel
theorem dX4_wordIs_33 : decode cX4_wordIs 33 = .ok (.aaload, 1) := by decide +kernel
theorem dX4_wordIs_34 : decode cX4_wordIs 34 = .ok (.iload 4, 2) := by decide +kernel
theorem dX4_wordIs_36 : decode cX4_wordIs 36 = .ok (.iaload, 1) := by decide +kernel
theorem dX4_wordIs_37 : decode cX4_wordIs 37 = .ok (.aload_n 2, 1) := by decide +kernel
theorem dX4_wordIs_38 : decode cX4_wordIs 38 = .ok (.iload 4, 2) := by decide +kernel
theorem dX4_wordIs_40 : decode cX4_wordIs 40 = .ok (.iaload, 1) := by decide +kernel
theorem dX4_wordIs_41 : decode cX4_wordIs 41 = .ok (.if_icmp .eq 5, 3) := by decide +kernel
theorem dX4_wordIs_44 : decode cX4_wordIs 44 = .ok (.iconst 0, 1) := by decide +kernel
theorem dX4_wordIs_45 : decode cX4_wordIs 45 = .ok (.ireturn, 1) := by decide +kernel
theorem dX4_wordIs_46 : decode cX4_wordIs 46 = .ok (.iinc 4 1, 3) := by decide +kernel
theorem dX4_wordIs_49 : decode cX4_wordIs 49 = .ok (.goto (-34), 3) := by decide +kernel
theorem dX4_wordIs_52 : decode cX4_wordIs 52 = .ok (.iconst 1, 1) := by decide +kernel
theorem dX4_wordIs_53 : decode cX4_wordIs 53 = .ok (.ireturn, 1) := by decide +kernel
theorem dX4_wordCode_0 : decode cX4_wordCode 0 = .ok (.iconst 1, 1) := by decide +kernel
theorem dX4_wordCode_1 : decode cX4_wordCode 1 = .ok (.istore_n 2, 1) := by decide +kernel
theorem dX4_wordCode_2 : decode cX4_wordCode 2 = .ok (.iconst 0, 1) := by decide +kernel
theorem dX4_wordCode_3 : decode cX4_wordCode 3 = .ok (.istore_n 3, 1) := by decide +kernel
theorem dX4_wordCode_4 : decode cX4_wordCode 4 = .ok (.iload_n 3, 1) := by decide +kernel
theorem dX4_wordCode_5 : decode cX4_wordCode 5 = .ok (.aload_n 0, 1) := by decide +kernel
theorem dX4_wordCode_6 : decode cX4_wordCode 6 = .ok (.getfield 30, 3) := by decide +kernel
theorem dX4_wordCode_9 : decode cX4_wordCode 9 = .ok (.iload_n 1, 1) := by decide +kernel
theorem dX4_wordCode_10 : decode cX4_wordCode 10 = .ok (.iaload, 1) := by decide +kernel
theorem dX4_wordCode_11 : decode cX4_wordCode 11 = .ok (.if_icmp .ge 22, 3) := by decide +kernel
theorem dX4_wordCode_14 : decode cX4_wordCode 14 = .ok (.iload_n 2, 1) := by decide +kernel
theorem dX4_wordCode_15 : decode cX4_wordCode 15 = .ok (.iconst 5, 1) := by decide +kernel
theorem dX4_wordCode_16 : decode cX4_wordCode 16 = .ok (.imul, 1) := by decide +kernel
theorem dX4_wordCode_17 : decode cX4_wordCode 17 = .ok (.aload_n 0, 1) := by decide +kernel
theorem dX4_wordCode_18 : decode cX4_wordCode 18 = .ok (.getfield 35, 3) := by decide +kernel
theorem dX4_wordCode_21 : decode cX4_wordCode 21 = .ok (.iload_n 1, 1) := by decide +kernel
theorem dX4_wordCode_22 : decode cX4_wordCode 22 = .ok (.aaload, 1) := by decide +kernel
theorem dX4_wordCode_23 : decode cX4_wordCode 23 = .ok (.iload_n 3, 1) := by decide +kernel
theorem dX4_wordCode_24 : decode cX4_wordCode 24 = .ok (.iaload, 1) := by decide +kernel
theorem dX4_wordCode_25 : decode cX4_wordCode 25 = .ok (.iadd, 1) := by decide +kernel
theorem dX4_wordCode_26 : decode cX4_wordCode 26 = .ok (.istore_n 2, 1) := by decide +kernel
theorem dX4_wordCode_27 : decode cX4_wordCode 27 = .ok (.iinc 3 1, 3) := by decide +kernel
theorem dX4_wordCode_30 : decode cX4_wordCode 30 = .ok (.goto (-26), 3) := by decide +kernel
theorem dX4_wordCode_33 : decode cX4_wordCode 33 = .ok (.iload_n 2, 1) := by decide +kernel
theorem dX4_wordCode_34 : decode cX4_wordCode 34 = .ok (.ireturn, 1) := by decide +kernel
theorem dX4_countOut_0 : decode cX4_countOut 0 = .ok (.iconst 0, 1) := by decide +kernel
theorem dX4_countOut_1 : decode cX4_countOut 1 = .ok (.istore_n 1, 1) := by decide +kernel
theorem dX4_countOut_2 : decode cX4_countOut 2 = .ok (.aload_n 0, 1) := by decide +kernel
theorem dX4_countOut_3 : decode cX4_countOut 3 = .ok (.getfield 15, 3) := by decide +kernel
theorem dX4_countOut_6 : decode cX4_countOut 6 = .ok (.astore_n 2, 1) := by decide +kernel
theorem dX4_countOut_7 : decode cX4_countOut 7 = .ok (.aload_n 2, 1) := by decide +kernel
theorem dX4_countOut_8 : decode cX4_countOut 8 = .ok (.arraylength, 1) := by decide +kernel
theorem dX4_countOut_9 : decode cX4_countOut 9 = .ok (.istore_n 3, 1) := by decide +kernel
theorem dX4_countOut_10 : decode cX4_countOut 10 = .ok (.iconst 0, 1) := by decide +kernel
theorem dX4_countOut_11 : decode cX4_countOut 11 = .ok (.istore 4, 2) := by decide +kernel
theorem dX4_countOut_13 : decode cX4_countOut 13 = .ok (.iload 4, 2) := by decide +kernel
theorem dX4_countOut_15 : decode cX4_countOut 15 = .ok (.iload_n 3, 1) := by decide +kernel
theorem dX4_countOut_16 : decode cX4_countOut 16 = .ok (.if_icmp .ge 29, 3) := by decide +kernel
theorem dX4_countOut_19 : decode cX4_countOut 19 = .ok (.aload_n 2, 1) := by decide +kernel
theorem dX4_countOut_20 : decode cX4_countOut 20 = .ok (.iload 4, 2) := by decide +kernel
theorem dX4_countOut_22 : decode cX4_countOut 22 = .ok (.iaload, 1) := by decide +kernel
theorem dX4_countOut_23 : decode cX4_countOut 23 = .ok (.istore 5, 2) := by decide +kernel
theorem dX4_countOut_25 : decode cX4_countOut 25 = .ok (.iload_n 1, 1) := by decide +kernel
theorem dX4_countOut_26 : decode cX4_countOut 26 = .ok (.iload 5, 2) := by decide +kernel
theorem dX4_countOut_28 : decode cX4_countOut 28 = .ok (.iconst (-1), 1) := by decide +kernel
theorem dX4_countOut_29 : decode cX4_countOut 29 = .ok (.if_icmp .ne 7, 3) := by decide +kernel
theorem dX4_countOut_32 : decode cX4_countOut 32 = .ok (.iconst 1, 1) := by decide +kernel
theorem dX4_countOut_33 : decode cX4_countOut 33 = .ok (.goto 4, 3) := by decide +kernel
theorem dX4_countOut_36 : decode cX4_countOut 36 = .ok (.iconst 0, 1) := by decide +kernel
theorem dX4_countOut_37 : decode cX4_countOut 37 = .ok (.iadd, 1) := by decide +kernel
theorem dX4_countOut_38 : decode cX4_countOut 38 = .ok (.istore_n 1, 1) := by decide +kernel
theorem dX4_countOut_39 : decode cX4_countOut 39 = .ok (.iinc 4 1, 3) := by decide +kernel
theorem dX4_countOut_42 : decode cX4_countOut 42 = .ok (.goto (-29), 3) := by decide +kernel
theorem dX4_countOut_45 : decode cX4_countOut 45 = .ok (.iload_n 1, 1) := by decide +kernel
theorem dX4_countOut_46 : decode cX4_countOut 46 = .ok (.ireturn, 1) := by decide +kernel
theorem dX4_lettersOut_0 : decode cX4_lettersOut 0 = .ok (.aload_n 0, 1) := by decide +kernel
theorem dX4_lettersOut_1 : decode cX4_lettersOut 1 = .ok (.getfield 30, 3) := by decide +kernel
theorem dX4_lettersOut_4 : decode cX4_lettersOut 4 = .ok (.invokestatic 80, 3) := by decide +kernel
theorem dX4_lettersOut_7 : decode cX4_lettersOut 7 = .ok (.ireturn, 1) := by decide +kernel
theorem dX4_lettersLost_0 : decode cX4_lettersLost 0 = .ok (.aload_n 0, 1) := by decide +kernel
theorem dX4_lettersLost_1 : decode cX4_lettersLost 1 = .ok (.getfield 27, 3) := by decide +kernel
theorem dX4_lettersLost_4 : decode cX4_lettersLost 4 = .ok (.invokestatic 80, 3) := by decide +kernel
theorem dX4_lettersLost_7 : decode cX4_lettersLost 7 = .ok (.ireturn, 1) := by decide +kernel
theorem dX4_fullBowls_0 : decode cX4_fullBowls 0 = .ok (.iconst 0, 1) := by decide +kernel
theorem dX4_fullBowls_1 : decode cX4_fullBowls 1 = .ok (.istore_n 1, 1) := by decide +kernel
theorem dX4_fullBowls_2 : decode cX4_fullBowls 2 = .ok (.iconst 0, 1) := by decide +kernel
theorem dX4_fullBowls_3 : decode cX4_fullBowls 3 = .ok (.istore_n 2, 1) := by decide +kernel
theorem dX4_fullBowls_4 : decode cX4_fullBowls 4 = .ok (.iload_n 2, 1) := by decide +kernel
theorem dX4_fullBowls_5 : decode cX4_fullBowls 5 = .ok (.bipush 6, 2) := by decide +kernel
theorem dX4_fullBowls_7 : decode cX4_fullBowls 7 = .ok (.if_icmp .ge 37, 3) := by decide +kernel
theorem dX4_fullBowls_10 : decode cX4_fullBowls 10 = .ok (.iload_n 1, 1) := by decide +kernel
theorem dX4_fullBowls_11 : decode cX4_fullBowls 11 = .ok (.aload_n 0, 1) := by decide +kernel
theorem dX4_fullBowls_12 : decode cX4_fullBowls 12 = .ok (.getfield 9, 3) := by decide +kernel
theorem dX4_fullBowls_15 : decode cX4_fullBowls 15 = .ok (.iload_n 2, 1) := by decide +kernel
theorem dX4_fullBowls_16 : decode cX4_fullBowls 16 = .ok (.iaload, 1) := by decide +kernel
theorem dX4_fullBowls_17 : decode cX4_fullBowls 17 = .ok (.iconst 1, 1) := by decide +kernel
theorem dX4_fullBowls_18 : decode cX4_fullBowls 18 = .ok (.if_icmp .ne 17, 3) := by decide +kernel
theorem dX4_fullBowls_21 : decode cX4_fullBowls 21 = .ok (.aload_n 0, 1) := by decide +kernel
theorem dX4_fullBowls_22 : decode cX4_fullBowls 22 = .ok (.getfield 18, 3) := by decide +kernel
theorem dX4_fullBowls_25 : decode cX4_fullBowls 25 = .ok (.iload_n 2, 1) := by decide +kernel
theorem dX4_fullBowls_26 : decode cX4_fullBowls 26 = .ok (.iaload, 1) := by decide +kernel
theorem dX4_fullBowls_27 : decode cX4_fullBowls 27 = .ok (.iconst (-1), 1) := by decide +kernel
theorem dX4_fullBowls_28 : decode cX4_fullBowls 28 = .ok (.if_icmp .eq 7, 3) := by decide +kernel
theorem dX4_fullBowls_31 : decode cX4_fullBowls 31 = .ok (.iconst 1, 1) := by decide +kernel
theorem dX4_fullBowls_32 : decode cX4_fullBowls 32 = .ok (.goto 4, 3) := by decide +kernel
theorem dX4_fullBowls_35 : decode cX4_fullBowls 35 = .ok (.iconst 0, 1) := by decide +kernel
theorem dX4_fullBowls_36 : decode cX4_fullBowls 36 = .ok (.iadd, 1) := by decide +kernel
theorem dX4_fullBowls_37 : decode cX4_fullBowls 37 = .ok (.istore_n 1, 1) := by decide +kernel
theorem dX4_fullBowls_38 : decode cX4_fullBowls 38 = .ok (.iinc 2 1, 3) := by decide +kernel
theorem dX4_fullBowls_41 : decode cX4_fullBowls 41 = .ok (.goto (-37), 3) := by decide +kernel
theorem dX4_fullBowls_44 : decode cX4_fullBowls 44 = .ok (.iload_n 1, 1) := by decide +kernel
theorem dX4_fullBowls_45 : decode cX4_fullBowls 45 = .ok (.ireturn, 1) := by decide +kernel
theorem dX4_sum_0 : decode cX4_sum 0 = .ok (.iconst 0, 1) := by decide +kernel
theorem dX4_sum_1 : decode cX4_sum 1 = .ok (.istore_n 1, 1) := by decide +kernel
theorem dX4_sum_2 : decode cX4_sum 2 = .ok (.aload_n 0, 1) := by decide +kernel
theorem dX4_sum_3 : decode cX4_sum 3 = .ok (.astore_n 2, 1) := by decide +kernel
theorem dX4_sum_4 : decode cX4_sum 4 = .ok (.aload_n 2, 1) := by decide +kernel
theorem dX4_sum_5 : decode cX4_sum 5 = .ok (.arraylength, 1) := by decide +kernel
theorem dX4_sum_6 : decode cX4_sum 6 = .ok (.istore_n 3, 1) := by decide +kernel
theorem dX4_sum_7 : decode cX4_sum 7 = .ok (.iconst 0, 1) := by decide +kernel
theorem dX4_sum_8 : decode cX4_sum 8 = .ok (.istore 4, 2) := by decide +kernel
theorem dX4_sum_10 : decode cX4_sum 10 = .ok (.iload 4, 2) := by decide +kernel
theorem dX4_sum_12 : decode cX4_sum 12 = .ok (.iload_n 3, 1) := by decide +kernel
theorem dX4_sum_13 : decode cX4_sum 13 = .ok (.if_icmp .ge 20, 3) := by decide +kernel
theorem dX4_sum_16 : decode cX4_sum 16 = .ok (.aload_n 2, 1) := by decide +kernel
theorem dX4_sum_17 : decode cX4_sum 17 = .ok (.iload 4, 2) := by decide +kernel
theorem dX4_sum_19 : decode cX4_sum 19 = .ok (.iaload, 1) := by decide +kernel
theorem dX4_sum_20 : decode cX4_sum 20 = .ok (.istore 5, 2) := by decide +kernel
theorem dX4_sum_22 : decode cX4_sum 22 = .ok (.iload_n 1, 1) := by decide +kernel
theorem dX4_sum_23 : decode cX4_sum 23 = .ok (.iload 5, 2) := by decide +kernel
theorem dX4_sum_25 : decode cX4_sum 25 = .ok (.iadd, 1) := by decide +kernel
theorem dX4_sum_26 : decode cX4_sum 26 = .ok (.istore_n 1, 1) := by decide +kernel
theorem dX4_sum_27 : decode cX4_sum 27 = .ok (.iinc 4 1, 3) := by decide +kernel
theorem dX4_sum_30 : decode cX4_sum 30 = .ok (.goto (-20), 3) := by decide +kernel
theorem dX4_sum_33 : decode cX4_sum 33 = .ok (.iload_n 1, 1) := by decide +kernel
theorem dX4_sum_34 : decode cX4_sum 34 = .ok (.ireturn, 1) := by decide +kernel
theorem dX4_runOut_0 : decode cX4_runOut 0 = .ok (.aload_n 0, 1) := by decide +kernel
theorem dX4_runOut_1 : decode cX4_runOut 1 = .ok (.getfield 30, 3) := by decide +kernel
theorem dX4_runOut_4 : decode cX4_runOut 4 = .ok (.iload_n 1, 1) := by decide +kernel
theorem dX4_runOut_5 : decode cX4_runOut 5 = .ok (.iaload, 1) := by decide +kernel
theorem dX4_runOut_6 : decode cX4_runOut 6 = .ok (.bipush 12, 2) := by decide +kernel
theorem dX4_runOut_8 : decode cX4_runOut 8 = .ok (.if_icmp .ge 27, 3) := by decide +kernel
theorem dX4_runOut_11 : decode cX4_runOut 11 = .ok (.aload_n 0, 1) := by decide +kernel
theorem dX4_runOut_12 : decode cX4_runOut 12 = .ok (.getfield 35, 3) := by decide +kernel
theorem dX4_runOut_15 : decode cX4_runOut 15 = .ok (.iload_n 1, 1) := by decide +kernel
theorem dX4_runOut_16 : decode cX4_runOut 16 = .ok (.aaload, 1) := by decide +kernel
theorem dX4_runOut_17 : decode cX4_runOut 17 = .ok (.aload_n 0, 1) := by decide +kernel
theorem dX4_runOut_18 : decode cX4_runOut 18 = .ok (.getfield 30, 3) := by decide +kernel
theorem dX4_runOut_21 : decode cX4_runOut 21 = .ok (.iload_n 1, 1) := by decide +kernel
theorem dX4_runOut_22 : decode cX4_runOut 22 = .ok (.iaload, 1) := by decide +kernel
theorem dX4_runOut_23 : decode cX4_runOut 23 = .ok (.iload_n 2, 1) := by decide +kernel
theorem dX4_runOut_24 : decode cX4_runOut 24 = .ok (.iastore, 1) := by decide +kernel
theorem dX4_runOut_25 : decode cX4_runOut 25 = .ok (.aload_n 0, 1) := by decide +kernel
theorem dX4_runOut_26 : decode cX4_runOut 26 = .ok (.getfield 30, 3) := by decide +kernel
theorem dX4_runOut_29 : decode cX4_runOut 29 = .ok (.iload_n 1, 1) := by decide +kernel
theorem dX4_runOut_30 : decode cX4_runOut 30 = .ok (.dup2, 1) := by decide +kernel
theorem dX4_runOut_31 : decode cX4_runOut 31 = .ok (.iaload, 1) := by decide +kernel
theorem dX4_runOut_32 : decode cX4_runOut 32 = .ok (.iconst 1, 1) := by decide +kernel
theorem dX4_runOut_33 : decode cX4_runOut 33 = .ok (.iadd, 1) := by decide +kernel
theorem dX4_runOut_34 : decode cX4_runOut 34 = .ok (.iastore, 1) := by decide +kernel
theorem dX4_runOut_35 : decode cX4_runOut 35 = .ok (.return_, 1) := by decide +kernel
theorem dX4_passOn_0 : decode cX4_passOn 0 = .ok (.aload_n 0, 1) := by decide +kernel
theorem dX4_passOn_1 : decode cX4_passOn 1 = .ok (.getfield 24, 3) := by decide +kernel
theorem dX4_passOn_4 : decode cX4_passOn 4 = .ok (.iload_n 1, 1) := by decide +kernel
theorem dX4_passOn_5 : decode cX4_passOn 5 = .ok (.dup2, 1) := by decide +kernel
theorem dX4_passOn_6 : decode cX4_passOn 6 = .ok (.iaload, 1) := by decide +kernel
theorem dX4_passOn_7 : decode cX4_passOn 7 = .ok (.iconst 1, 1) := by decide +kernel
theorem dX4_passOn_8 : decode cX4_passOn 8 = .ok (.iadd, 1) := by decide +kernel
theorem dX4_passOn_9 : decode cX4_passOn 9 = .ok (.iastore, 1) := by decide +kernel
theorem dX4_passOn_10 : decode cX4_passOn 10 = .ok (.aload_n 0, 1) := by decide +kernel
theorem dX4_passOn_11 : decode cX4_passOn 11 = .ok (.getfield 9, 3) := by decide +kernel
theorem dX4_passOn_14 : decode cX4_passOn 14 = .ok (.iload_n 1, 1) := by decide +kernel
theorem dX4_passOn_15 : decode cX4_passOn 15 = .ok (.iaload, 1) := by decide +kernel
theorem dX4_passOn_16 : decode cX4_passOn 16 = .ok (.iconst 1, 1) := by decide +kernel
theorem dX4_passOn_17 : decode cX4_passOn 17 = .ok (.if_icmp .ne 19, 3) := by decide +kernel
theorem dX4_passOn_20 : decode cX4_passOn 20 = .ok (.aload_n 0, 1) := by decide +kernel
theorem dX4_passOn_21 : decode cX4_passOn 21 = .ok (.getfield 18, 3) := by decide +kernel
theorem dX4_passOn_24 : decode cX4_passOn 24 = .ok (.iload_n 1, 1) := by decide +kernel
theorem dX4_passOn_25 : decode cX4_passOn 25 = .ok (.iaload, 1) := by decide +kernel
theorem dX4_passOn_26 : decode cX4_passOn 26 = .ok (.istore_n 3, 1) := by decide +kernel
theorem dX4_passOn_27 : decode cX4_passOn 27 = .ok (.aload_n 0, 1) := by decide +kernel
theorem dX4_passOn_28 : decode cX4_passOn 28 = .ok (.getfield 18, 3) := by decide +kernel
theorem dX4_passOn_31 : decode cX4_passOn 31 = .ok (.iload_n 1, 1) := by decide +kernel
theorem dX4_passOn_32 : decode cX4_passOn 32 = .ok (.iload_n 2, 1) := by decide +kernel
theorem dX4_passOn_33 : decode cX4_passOn 33 = .ok (.iastore, 1) := by decide +kernel
theorem dX4_passOn_34 : decode cX4_passOn 34 = .ok (.iload_n 3, 1) := by decide +kernel
theorem dX4_passOn_35 : decode cX4_passOn 35 = .ok (.ireturn, 1) := by decide +kernel
theorem dX4_passOn_36 : decode cX4_passOn 36 = .ok (.aload_n 0, 1) := by decide +kernel
theorem dX4_passOn_37 : decode cX4_passOn 37 = .ok (.iload_n 1, 1) := by decide +kernel
theorem dX4_passOn_38 : decode cX4_passOn 38 = .ok (.iload_n 2, 1) := by decide +kernel
theorem dX4_passOn_39 : decode cX4_passOn 39 = .ok (.invokevirtual 84, 3) := by decide +kernel
theorem dX4_passOn_42 : decode cX4_passOn 42 = .ok (.ifCond .eq 5, 3) := by decide +kernel
theorem dX4_passOn_45 : decode cX4_passOn 45 = .ok (.iload_n 2, 1) := by decide +kernel
theorem dX4_passOn_46 : decode cX4_passOn 46 = .ok (.ireturn, 1) := by decide +kernel
theorem dX4_passOn_47 : decode cX4_passOn 47 = .ok (.aload_n 0, 1) := by decide +kernel
theorem dX4_passOn_48 : decode cX4_passOn 48 = .ok (.getfield 27, 3) := by decide +kernel
theorem dX4_passOn_51 : decode cX4_passOn 51 = .ok (.iload_n 1, 1) := by decide +kernel
theorem dX4_passOn_52 : decode cX4_passOn 52 = .ok (.dup2, 1) := by decide +kernel
theorem dX4_passOn_53 : decode cX4_passOn 53 = .ok (.iaload, 1) := by decide +kernel
theorem dX4_passOn_54 : decode cX4_passOn 54 = .ok (.iconst 1, 1) := by decide +kernel
theorem dX4_passOn_55 : decode cX4_passOn 55 = .ok (.iadd, 1) := by decide +kernel
theorem dX4_passOn_56 : decode cX4_passOn 56 = .ok (.iastore, 1) := by decide +kernel
theorem dX4_passOn_57 : decode cX4_passOn 57 = .ok (.iconst (-1), 1) := by decide +kernel
theorem dX4_passOn_58 : decode cX4_passOn 58 = .ok (.ireturn, 1) := by decide +kernel
theorem dX4_letsThrough_0 : decode cX4_letsThrough 0 = .ok (.aload_n 0, 1) := by decide +kernel
theorem dX4_letsThrough_1 : decode cX4_letsThrough 1 = .ok (.getfield 18, 3) := by decide +kernel
theorem dX4_letsThrough_4 : decode cX4_letsThrough 4 = .ok (.iload_n 1, 1) := by decide +kernel
theorem dX4_letsThrough_5 : decode cX4_letsThrough 5 = .ok (.iaload, 1) := by decide +kernel
theorem dX4_letsThrough_6 : decode cX4_letsThrough 6 = .ok (.iload_n 2, 1) := by decide +kernel
theorem dX4_letsThrough_7 : decode cX4_letsThrough 7 = .ok (.if_icmp .eq 7, 3) := by decide +kernel
theorem dX4_letsThrough_10 : decode cX4_letsThrough 10 = .ok (.iconst 1, 1) := by decide +kernel
theorem dX4_letsThrough_11 : decode cX4_letsThrough 11 = .ok (.goto 4, 3) := by decide +kernel
theorem dX4_letsThrough_14 : decode cX4_letsThrough 14 = .ok (.iconst 0, 1) := by decide +kernel
theorem dX4_letsThrough_15 : decode cX4_letsThrough 15 = .ok (.istore_n 3, 1) := by decide +kernel
theorem dX4_letsThrough_16 : decode cX4_letsThrough 16 = .ok (.aload_n 0, 1) := by decide +kernel
theorem dX4_letsThrough_17 : decode cX4_letsThrough 17 = .ok (.getfield 9, 3) := by decide +kernel
theorem dX4_letsThrough_20 : decode cX4_letsThrough 20 = .ok (.iload_n 1, 1) := by decide +kernel
theorem dX4_letsThrough_21 : decode cX4_letsThrough 21 = .ok (.iaload, 1) := by decide +kernel
theorem dX4_letsThrough_22 : decode cX4_letsThrough 22 = .ok (.tableswitch 97 2 4 #[26, 35, 50], 26) := by decide +kernel
theorem dX4_letsThrough_48 : decode cX4_letsThrough 48 = .ok (.aload_n 0, 1) := by decide +kernel
theorem dX4_letsThrough_49 : decode cX4_letsThrough 49 = .ok (.getfield 18, 3) := by decide +kernel
theorem dX4_letsThrough_52 : decode cX4_letsThrough 52 = .ok (.iload_n 1, 1) := by decide +kernel
theorem dX4_letsThrough_53 : decode cX4_letsThrough 53 = .ok (.iload_n 2, 1) := by decide +kernel
theorem dX4_letsThrough_54 : decode cX4_letsThrough 54 = .ok (.iastore, 1) := by decide +kernel
theorem dX4_letsThrough_55 : decode cX4_letsThrough 55 = .ok (.iload_n 3, 1) := by decide +kernel
theorem dX4_letsThrough_56 : decode cX4_letsThrough 56 = .ok (.ireturn, 1) := by decide +kernel
theorem dX4_letsThrough_57 : decode cX4_letsThrough 57 = .ok (.iload_n 2, 1) := by decide +kernel
theorem dX4_letsThrough_58 : decode cX4_letsThrough 58 = .ok (.ifCond .eq 12, 3) := by decide +kernel
theorem dX4_letsThrough_61 : decode cX4_letsThrough 61 = .ok (.iload_n 2, 1) := by decide +kernel
theorem dX4_letsThrough_62 : decode cX4_letsThrough 62 = .ok (.iconst 4, 1) := by decide +kernel
theorem dX4_letsThrough_63 : decode cX4_letsThrough 63 = .ok (.if_icmp .eq 7, 3) := by decide +kernel
theorem dX4_letsThrough_66 : decode cX4_letsThrough 66 = .ok (.iconst 1, 1) := by decide +kernel
theorem dX4_letsThrough_67 : decode cX4_letsThrough 67 = .ok (.goto 4, 3) := by decide +kernel
theorem dX4_letsThrough_70 : decode cX4_letsThrough 70 = .ok (.iconst 0, 1) := by decide +kernel
theorem dX4_letsThrough_71 : decode cX4_letsThrough 71 = .ok (.ireturn, 1) := by decide +kernel
theorem dX4_letsThrough_72 : decode cX4_letsThrough 72 = .ok (.aload_n 0, 1) := by decide +kernel
theorem dX4_letsThrough_73 : decode cX4_letsThrough 73 = .ok (.getfield 18, 3) := by decide +kernel
theorem dX4_letsThrough_76 : decode cX4_letsThrough 76 = .ok (.iload_n 1, 1) := by decide +kernel
theorem dX4_letsThrough_77 : decode cX4_letsThrough 77 = .ok (.iload_n 2, 1) := by decide +kernel
theorem dX4_letsThrough_78 : decode cX4_letsThrough 78 = .ok (.iastore, 1) := by decide +kernel
theorem dX4_letsThrough_79 : decode cX4_letsThrough 79 = .ok (.aload_n 0, 1) := by decide +kernel
theorem dX4_letsThrough_80 : decode cX4_letsThrough 80 = .ok (.getfield 21, 3) := by decide +kernel
theorem dX4_letsThrough_83 : decode cX4_letsThrough 83 = .ok (.iload_n 1, 1) := by decide +kernel
theorem dX4_letsThrough_84 : decode cX4_letsThrough 84 = .ok (.dup2, 1) := by decide +kernel
theorem dX4_letsThrough_85 : decode cX4_letsThrough 85 = .ok (.iaload, 1) := by decide +kernel
theorem dX4_letsThrough_86 : decode cX4_letsThrough 86 = .ok (.iload_n 3, 1) := by decide +kernel
theorem dX4_letsThrough_87 : decode cX4_letsThrough 87 = .ok (.ifCond .eq 7, 3) := by decide +kernel
theorem dX4_letsThrough_90 : decode cX4_letsThrough 90 = .ok (.iconst 1, 1) := by decide +kernel
theorem dX4_letsThrough_91 : decode cX4_letsThrough 91 = .ok (.goto 4, 3) := by decide +kernel
theorem dX4_letsThrough_94 : decode cX4_letsThrough 94 = .ok (.iconst 0, 1) := by decide +kernel
theorem dX4_letsThrough_95 : decode cX4_letsThrough 95 = .ok (.iadd, 1) := by decide +kernel
theorem dX4_letsThrough_96 : decode cX4_letsThrough 96 = .ok (.iastore, 1) := by decide +kernel
theorem dX4_letsThrough_97 : decode cX4_letsThrough 97 = .ok (.iload_n 3, 1) := by decide +kernel
theorem dX4_letsThrough_98 : decode cX4_letsThrough 98 = .ok (.ifCond .eq 19, 3) := by decide +kernel
theorem dX4_letsThrough_101 : decode cX4_letsThrough 101 = .ok (.aload_n 0, 1) := by decide +kernel
theorem dX4_letsThrough_102 : decode cX4_letsThrough 102 = .ok (.getfield 21, 3) := by decide +kernel
theorem dX4_letsThrough_105 : decode cX4_letsThrough 105 = .ok (.iload_n 1, 1) := by decide +kernel
theorem dX4_letsThrough_106 : decode cX4_letsThrough 106 = .ok (.iaload, 1) := by decide +kernel
theorem dX4_letsThrough_107 : decode cX4_letsThrough 107 = .ok (.iconst 2, 1) := by decide +kernel
theorem dX4_letsThrough_108 : decode cX4_letsThrough 108 = .ok (.irem, 1) := by decide +kernel
theorem dX4_letsThrough_109 : decode cX4_letsThrough 109 = .ok (.iconst 1, 1) := by decide +kernel
theorem dX4_letsThrough_110 : decode cX4_letsThrough 110 = .ok (.if_icmp .ne 7, 3) := by decide +kernel
theorem dX4_letsThrough_113 : decode cX4_letsThrough 113 = .ok (.iconst 1, 1) := by decide +kernel
theorem dX4_letsThrough_114 : decode cX4_letsThrough 114 = .ok (.goto 4, 3) := by decide +kernel
theorem dX4_letsThrough_117 : decode cX4_letsThrough 117 = .ok (.iconst 0, 1) := by decide +kernel
theorem dX4_letsThrough_118 : decode cX4_letsThrough 118 = .ok (.ireturn, 1) := by decide +kernel
theorem dX4_letsThrough_119 : decode cX4_letsThrough 119 = .ok (.iconst 1, 1) := by decide +kernel
theorem dX4_letsThrough_120 : decode cX4_letsThrough 120 = .ok (.ireturn, 1) := by decide +kernel
theorem dX5_init_0 : decode cX5_init 0 = .ok (.aload_n 0, 1) := by decide +kernel
theorem dX5_init_1 : decode cX5_init 1 = .ok (.invokespecial 3, 3) := by decide +kernel
theorem dX5_init_4 : decode cX5_init 4 = .ok (.return_, 1) := by decide +kernel
theorem dX5_clear_0 : decode cX5_clear 0 = .ok (.aload_n 0, 1) := by decide +kernel
theorem dX5_clear_1 : decode cX5_clear 1 = .ok (.bipush 6, 2) := by decide +kernel
theorem dX5_clear_3 : decode cX5_clear 3 = .ok (.putfield 9, 3) := by decide +kernel
theorem dX5_clear_6 : decode cX5_clear 6 = .ok (.aload_n 0, 1) := by decide +kernel
theorem dX5_clear_7 : decode cX5_clear 7 = .ok (.iconst 0, 1) := by decide +kernel
theorem dX5_clear_8 : decode cX5_clear 8 = .ok (.putfield 15, 3) := by decide +kernel
theorem dX5_clear_11 : decode cX5_clear 11 = .ok (.aload_n 0, 1) := by decide +kernel
theorem dX5_clear_12 : decode cX5_clear 12 = .ok (.iconst 0, 1) := by decide +kernel
theorem dX5_clear_13 : decode cX5_clear 13 = .ok (.putfield 18, 3) := by decide +kernel
theorem dX5_clear_16 : decode cX5_clear 16 = .ok (.return_, 1) := by decide +kernel
theorem dX5_add_0 : decode cX5_add 0 = .ok (.iload_n 1, 1) := by decide +kernel
theorem dX5_add_1 : decode cX5_add 1 = .ok (.invokestatic 21, 3) := by decide +kernel
theorem dX5_add_4 : decode cX5_add 4 = .ok (.istore_n 2, 1) := by decide +kernel
theorem dX5_add_5 : decode cX5_add 5 = .ok (.aload_n 0, 1) := by decide +kernel
theorem dX5_add_6 : decode cX5_add 6 = .ok (.getfield 18, 3) := by decide +kernel
theorem dX5_add_9 : decode cX5_add 9 = .ok (.ifCond .eq 11, 3) := by decide +kernel
theorem dX5_add_12 : decode cX5_add 12 = .ok (.iload_n 2, 1) := by decide +kernel
theorem dX5_add_13 : decode cX5_add 13 = .ok (.aload_n 0, 1) := by decide +kernel
theorem dX5_add_14 : decode cX5_add 14 = .ok (.getfield 9, 3) := by decide +kernel
theorem dX5_add_17 : decode cX5_add 17 = .ok (.if_icmp .ge 21, 3) := by decide +kernel
theorem dX5_add_20 : decode cX5_add 20 = .ok (.aload_n 0, 1) := by decide +kernel
theorem dX5_add_21 : decode cX5_add 21 = .ok (.iload_n 2, 1) := by decide +kernel
theorem dX5_add_22 : decode cX5_add 22 = .ok (.putfield 9, 3) := by decide +kernel
theorem dX5_add_25 : decode cX5_add 25 = .ok (.aload_n 0, 1) := by decide +kernel
theorem dX5_add_26 : decode cX5_add 26 = .ok (.iload_n 1, 1) := by decide +kernel
theorem dX5_add_27 : decode cX5_add 27 = .ok (.putfield 15, 3) := by decide +kernel
theorem dX5_add_30 : decode cX5_add 30 = .ok (.aload_n 0, 1) := by decide +kernel
theorem dX5_add_31 : decode cX5_add 31 = .ok (.iconst 1, 1) := by decide +kernel
theorem dX5_add_32 : decode cX5_add 32 = .ok (.putfield 18, 3) := by decide +kernel
theorem dX5_add_35 : decode cX5_add 35 = .ok (.goto 33, 3) := by decide +kernel
theorem dX5_add_38 : decode cX5_add 38 = .ok (.iload_n 2, 1) := by decide +kernel
theorem dX5_add_39 : decode cX5_add 39 = .ok (.aload_n 0, 1) := by decide +kernel
theorem dX5_add_40 : decode cX5_add 40 = .ok (.getfield 9, 3) := by decide +kernel
theorem dX5_add_43 : decode cX5_add 43 = .ok (.if_icmp .ne 25, 3) := by decide +kernel
theorem dX5_add_46 : decode cX5_add 46 = .ok (.aload_n 0, 1) := by decide +kernel
theorem dX5_add_47 : decode cX5_add 47 = .ok (.aload_n 0, 1) := by decide +kernel
theorem dX5_add_48 : decode cX5_add 48 = .ok (.getfield 15, 3) := by decide +kernel
theorem dX5_add_51 : decode cX5_add 51 = .ok (.iload_n 1, 1) := by decide +kernel
theorem dX5_add_52 : decode cX5_add 52 = .ok (.invokestatic 27, 3) := by decide +kernel
theorem dX5_add_55 : decode cX5_add 55 = .ok (.putfield 15, 3) := by decide +kernel
theorem dX5_add_58 : decode cX5_add 58 = .ok (.aload_n 0, 1) := by decide +kernel
theorem dX5_add_59 : decode cX5_add 59 = .ok (.dup, 1) := by decide +kernel
theorem dX5_add_60 : decode cX5_add 60 = .ok (.getfield 18, 3) := by decide +kernel
theorem dX5_add_63 : decode cX5_add 63 = .ok (.iconst 1, 1) := by decide +kernel
theorem dX5_add_64 : decode cX5_add 64 = .ok (.iadd, 1) := by decide +kernel
theorem dX5_add_65 : decode cX5_add 65 = .ok (.putfield 18, 3) := by decide +kernel
theorem dX5_add_68 : decode cX5_add 68 = .ok (.return_, 1) := by decide +kernel
theorem dX5_tell_0 : decode cX5_tell 0 = .ok (.aload_n 0, 1) := by decide +kernel
theorem dX5_tell_1 : decode cX5_tell 1 = .ok (.getfield 18, 3) := by decide +kernel
theorem dX5_tell_4 : decode cX5_tell 4 = .ok (.ifCond .ne 5, 3) := by decide +kernel
theorem dX5_tell_7 : decode cX5_tell 7 = .ok (.iconst (-1), 1) := by decide +kernel
theorem dX5_tell_8 : decode cX5_tell 8 = .ok (.ireturn, 1) := by decide +kernel
theorem dX5_tell_9 : decode cX5_tell 9 = .ok (.iload_n 1, 1) := by decide +kernel
theorem dX5_tell_10 : decode cX5_tell 10 = .ok (.lookupswitch 36 #[(0, 26), (1, 31)], 26) := by decide +kernel
theorem dX5_tell_36 : decode cX5_tell 36 = .ok (.aload_n 0, 1) := by decide +kernel
theorem dX5_tell_37 : decode cX5_tell 37 = .ok (.getfield 9, 3) := by decide +kernel
theorem dX5_tell_40 : decode cX5_tell 40 = .ok (.ireturn, 1) := by decide +kernel
theorem dX5_tell_41 : decode cX5_tell 41 = .ok (.aload_n 0, 1) := by decide +kernel
theorem dX5_tell_42 : decode cX5_tell 42 = .ok (.getfield 15, 3) := by decide +kernel
theorem dX5_tell_45 : decode cX5_tell 45 = .ok (.ireturn, 1) := by decide +kernel
theorem dX5_tell_46 : decode cX5_tell 46 = .ok (.aload_n 0, 1) := by decide +kernel
theorem dX5_tell_47 : decode cX5_tell 47 = .ok (.getfield 18, 3) := by decide +kernel
theorem dX5_tell_50 : decode cX5_tell 50 = .ok (.ireturn, 1) := by decide +kernel
theorem dX6_init_0 : decode cX6_init 0 = .ok (.aload_n 0, 1) := by decide +kernel
theorem dX6_init_1 : decode cX6_init 1 = .ok (.invokespecial 1, 3) := by decide +kernel
theorem dX6_init_4 : decode cX6_init 4 = .ok (.aload_n 0, 1) := by decide +kernel
theorem dX6_init_5 : decode cX6_init 5 = .ok (.new 7, 3) := by decide +kernel
theorem dX6_init_8 : decode cX6_init 8 = .ok (.dup, 1) := by decide +kernel
theorem dX6_init_9 : decode cX6_init 9 = .ok (.invokespecial 9, 3) := by decide +kernel
theorem dX6_init_12 : decode cX6_init 12 = .ok (.putfield 10, 3) := by decide +kernel
theorem dX6_init_15 : decode cX6_init 15 = .ok (.aload_n 0, 1) := by decide +kernel
theorem dX6_init_16 : decode cX6_init 16 = .ok (.new 16, 3) := by decide +kernel
theorem dX6_init_19 : decode cX6_init 19 = .ok (.dup, 1) := by decide +kernel
theorem dX6_init_20 : decode cX6_init 20 = .ok (.invokespecial 18, 3) := by decide +kernel
theorem dX6_init_23 : decode cX6_init 23 = .ok (.putfield 19, 3) := by decide +kernel
theorem dX6_init_26 : decode cX6_init 26 = .ok (.aload_n 0, 1) := by decide +kernel
theorem dX6_init_27 : decode cX6_init 27 = .ok (.new 16, 3) := by decide +kernel
theorem dX6_init_30 : decode cX6_init 30 = .ok (.dup, 1) := by decide +kernel
theorem dX6_init_31 : decode cX6_init 31 = .ok (.invokespecial 18, 3) := by decide +kernel
theorem dX6_init_34 : decode cX6_init 34 = .ok (.putfield 23, 3) := by decide +kernel
theorem dX6_init_37 : decode cX6_init 37 = .ok (.aload_n 0, 1) := by decide +kernel
theorem dX6_init_38 : decode cX6_init 38 = .ok (.new 26, 3) := by decide +kernel
theorem dX6_init_41 : decode cX6_init 41 = .ok (.dup, 1) := by decide +kernel
theorem dX6_init_42 : decode cX6_init 42 = .ok (.invokespecial 28, 3) := by decide +kernel
theorem dX6_init_45 : decode cX6_init 45 = .ok (.putfield 29, 3) := by decide +kernel
theorem dX6_init_48 : decode cX6_init 48 = .ok (.aload_n 0, 1) := by decide +kernel
theorem dX6_init_49 : decode cX6_init 49 = .ok (.new 33, 3) := by decide +kernel
theorem dX6_init_52 : decode cX6_init 52 = .ok (.dup, 1) := by decide +kernel
theorem dX6_init_53 : decode cX6_init 53 = .ok (.invokespecial 35, 3) := by decide +kernel
theorem dX6_init_56 : decode cX6_init 56 = .ok (.putfield 36, 3) := by decide +kernel
theorem dX6_init_59 : decode cX6_init 59 = .ok (.aload_n 0, 1) := by decide +kernel
theorem dX6_init_60 : decode cX6_init 60 = .ok (.bipush 8, 2) := by decide +kernel
theorem dX6_init_62 : decode cX6_init 62 = .ok (.newarray .int, 2) := by decide +kernel
theorem dX6_init_64 : decode cX6_init 64 = .ok (.putfield 40, 3) := by decide +kernel
theorem dX6_init_67 : decode cX6_init 67 = .ok (.aload_n 0, 1) := by decide +kernel
theorem dX6_init_68 : decode cX6_init 68 = .ok (.bipush 6, 2) := by decide +kernel
theorem dX6_init_70 : decode cX6_init 70 = .ok (.newarray .int, 2) := by decide +kernel
theorem dX6_init_72 : decode cX6_init 72 = .ok (.putfield 44, 3) := by decide +kernel
theorem dX6_init_75 : decode cX6_init 75 = .ok (.aload_n 0, 1) := by decide +kernel
theorem dX6_init_76 : decode cX6_init 76 = .ok (.sipush 977, 3) := by decide +kernel
theorem dX6_init_79 : decode cX6_init 79 = .ok (.newarray .int, 2) := by decide +kernel
theorem dX6_init_81 : decode cX6_init 81 = .ok (.putfield 47, 3) := by decide +kernel
theorem dX6_init_84 : decode cX6_init 84 = .ok (.return_, 1) := by decide +kernel
theorem dX6_letter_0 : decode cX6_letter 0 = .ok (.iload_n 1, 1) := by decide +kernel
theorem dX6_letter_1 : decode cX6_letter 1 = .ok (.iconst 1, 1) := by decide +kernel
theorem dX6_letter_2 : decode cX6_letter 2 = .ok (.if_icmp .lt 9, 3) := by decide +kernel
theorem dX6_letter_5 : decode cX6_letter 5 = .ok (.iload_n 1, 1) := by decide +kernel
theorem dX6_letter_6 : decode cX6_letter 6 = .ok (.bipush 126, 2) := by decide +kernel
theorem dX6_letter_8 : decode cX6_letter 8 = .ok (.if_icmp .le 6, 3) := by decide +kernel
theorem dX6_letter_11 : decode cX6_letter 11 = .ok (.bipush (-102), 2) := by decide +kernel
theorem dX6_letter_13 : decode cX6_letter 13 = .ok (.ireturn, 1) := by decide +kernel
theorem dX6_letter_14 : decode cX6_letter 14 = .ok (.aload_n 0, 1) := by decide +kernel
theorem dX6_letter_15 : decode cX6_letter 15 = .ok (.getfield 10, 3) := by decide +kernel
theorem dX6_letter_18 : decode cX6_letter 18 = .ok (.getfield 50, 3) := by decide +kernel
theorem dX6_letter_21 : decode cX6_letter 21 = .ok (.bipush 20, 2) := by decide +kernel
theorem dX6_letter_23 : decode cX6_letter 23 = .ok (.if_icmp .lt 6, 3) := by decide +kernel
theorem dX6_letter_26 : decode cX6_letter 26 = .ok (.bipush (-104), 2) := by decide +kernel
theorem dX6_letter_28 : decode cX6_letter 28 = .ok (.ireturn, 1) := by decide +kernel
theorem dX6_letter_29 : decode cX6_letter 29 = .ok (.aload_n 0, 1) := by decide +kernel
theorem dX6_letter_30 : decode cX6_letter 30 = .ok (.getfield 10, 3) := by decide +kernel
theorem dX6_letter_33 : decode cX6_letter 33 = .ok (.getfield 54, 3) := by decide +kernel
theorem dX6_letter_36 : decode cX6_letter 36 = .ok (.aload_n 0, 1) := by decide +kernel
theorem dX6_letter_37 : decode cX6_letter 37 = .ok (.getfield 10, 3) := by decide +kernel
theorem dX6_letter_40 : decode cX6_letter 40 = .ok (.getfield 50, 3) := by decide +kernel
theorem dX6_letter_43 : decode cX6_letter 43 = .ok (.iload_n 1, 1) := by decide +kernel
theorem dX6_letter_44 : decode cX6_letter 44 = .ok (.iastore, 1) := by decide +kernel
theorem dX6_letter_45 : decode cX6_letter 45 = .ok (.aload_n 0, 1) := by decide +kernel
theorem dX6_letter_46 : decode cX6_letter 46 = .ok (.getfield 10, 3) := by decide +kernel
theorem dX6_letter_49 : decode cX6_letter 49 = .ok (.dup, 1) := by decide +kernel
theorem dX6_letter_50 : decode cX6_letter 50 = .ok (.getfield 50, 3) := by decide +kernel
theorem dX6_letter_53 : decode cX6_letter 53 = .ok (.iconst 1, 1) := by decide +kernel
theorem dX6_letter_54 : decode cX6_letter 54 = .ok (.iadd, 1) := by decide +kernel
theorem dX6_letter_55 : decode cX6_letter 55 = .ok (.putfield 50, 3) := by decide +kernel
theorem dX6_letter_58 : decode cX6_letter 58 = .ok (.aload_n 0, 1) := by decide +kernel
theorem dX6_letter_59 : decode cX6_letter 59 = .ok (.getfield 10, 3) := by decide +kernel
theorem dX6_letter_62 : decode cX6_letter 62 = .ok (.getfield 50, 3) := by decide +kernel
theorem dX6_letter_65 : decode cX6_letter 65 = .ok (.ireturn, 1) := by decide +kernel
theorem dX6_blank_0 : decode cX6_blank 0 = .ok (.aload_n 0, 1) := by decide +kernel
theorem dX6_blank_1 : decode cX6_blank 1 = .ok (.getfield 10, 3) := by decide +kernel
theorem dX6_blank_4 : decode cX6_blank 4 = .ok (.getfield 50, 3) := by decide +kernel
theorem dX6_blank_7 : decode cX6_blank 7 = .ok (.istore_n 1, 1) := by decide +kernel
theorem dX6_blank_8 : decode cX6_blank 8 = .ok (.aload_n 0, 1) := by decide +kernel
theorem dX6_blank_9 : decode cX6_blank 9 = .ok (.getfield 10, 3) := by decide +kernel
theorem dX6_blank_12 : decode cX6_blank 12 = .ok (.iconst 0, 1) := by decide +kernel
theorem dX6_blank_13 : decode cX6_blank 13 = .ok (.putfield 50, 3) := by decide +kernel
theorem dX6_blank_16 : decode cX6_blank 16 = .ok (.iload_n 1, 1) := by decide +kernel
theorem dX6_blank_17 : decode cX6_blank 17 = .ok (.ireturn, 1) := by decide +kernel
theorem dX6_fault_0 : decode cX6_fault 0 = .ok (.iload_n 1, 1) := by decide +kernel
theorem dX6_fault_1 : decode cX6_fault 1 = .ok (.ifCond .eq 11, 3) := by decide +kernel
theorem dX6_fault_4 : decode cX6_fault 4 = .ok (.iload_n 1, 1) := by decide +kernel
theorem dX6_fault_5 : decode cX6_fault 5 = .ok (.iconst 1, 1) := by decide +kernel
theorem dX6_fault_6 : decode cX6_fault 6 = .ok (.if_icmp .eq 6, 3) := by decide +kernel
theorem dX6_fault_9 : decode cX6_fault 9 = .ok (.bipush (-102), 2) := by decide +kernel
theorem dX6_fault_11 : decode cX6_fault 11 = .ok (.ireturn, 1) := by decide +kernel
theorem dX6_fault_12 : decode cX6_fault 12 = .ok (.aload_n 0, 1) := by decide +kernel
theorem dX6_fault_13 : decode cX6_fault 13 = .ok (.getfield 10, 3) := by decide +kernel
theorem dX6_fault_16 : decode cX6_fault 16 = .ok (.iload_n 1, 1) := by decide +kernel
theorem dX6_fault_17 : decode cX6_fault 17 = .ok (.invokevirtual 57, 3) := by decide +kernel
theorem dX6_fault_20 : decode cX6_fault 20 = .ok (.ireturn, 1) := by decide +kernel
theorem dX6_street_0 : decode cX6_street 0 = .ok (.aload_n 0, 1) := by decide +kernel
theorem dX6_street_1 : decode cX6_street 1 = .ok (.getfield 10, 3) := by decide +kernel
theorem dX6_street_4 : decode cX6_street 4 = .ok (.invokevirtual 61, 3) := by decide +kernel
theorem dX6_street_7 : decode cX6_street 7 = .ok (.ifCond .ne 6, 3) := by decide +kernel
theorem dX6_street_10 : decode cX6_street 10 = .ok (.bipush (-103), 2) := by decide +kernel
theorem dX6_street_12 : decode cX6_street 12 = .ok (.ireturn, 1) := by decide +kernel
theorem dX6_street_13 : decode cX6_street 13 = .ok (.iconst 0, 1) := by decide +kernel
theorem dX6_street_14 : decode cX6_street 14 = .ok (.istore_n 1, 1) := by decide +kernel
theorem dX6_street_15 : decode cX6_street 15 = .ok (.iload_n 1, 1) := by decide +kernel
theorem dX6_street_16 : decode cX6_street 16 = .ok (.bipush 6, 2) := by decide +kernel
theorem dX6_street_18 : decode cX6_street 18 = .ok (.if_icmp .ge 56, 3) := by decide +kernel
theorem dX6_street_21 : decode cX6_street 21 = .ok (.aload_n 0, 1) := by decide +kernel
theorem dX6_street_22 : decode cX6_street 22 = .ok (.getfield 19, 3) := by decide +kernel
theorem dX6_street_25 : decode cX6_street 25 = .ok (.getfield 65, 3) := by decide +kernel
theorem dX6_street_28 : decode cX6_street 28 = .ok (.getfield 68, 3) := by decide +kernel
theorem dX6_street_31 : decode cX6_street 31 = .ok (.iload_n 1, 1) := by decide +kernel
theorem dX6_street_32 : decode cX6_street 32 = .ok (.aload_n 0, 1) := by decide +kernel
theorem dX6_street_33 : decode cX6_street 33 = .ok (.getfield 10, 3) := by decide +kernel
theorem dX6_street_36 : decode cX6_street 36 = .ok (.iload_n 1, 1) := by decide +kernel
theorem dX6_street_37 : decode cX6_street 37 = .ok (.iconst 3, 1) := by decide +kernel
theorem dX6_street_38 : decode cX6_street 38 = .ok (.imul, 1) := by decide +kernel
theorem dX6_street_39 : decode cX6_street 39 = .ok (.invokevirtual 71, 3) := by decide +kernel
theorem dX6_street_42 : decode cX6_street 42 = .ok (.iastore, 1) := by decide +kernel
theorem dX6_street_43 : decode cX6_street 43 = .ok (.aload_n 0, 1) := by decide +kernel
theorem dX6_street_44 : decode cX6_street 44 = .ok (.getfield 19, 3) := by decide +kernel
theorem dX6_street_47 : decode cX6_street 47 = .ok (.getfield 65, 3) := by decide +kernel
theorem dX6_street_50 : decode cX6_street 50 = .ok (.getfield 74, 3) := by decide +kernel
theorem dX6_street_53 : decode cX6_street 53 = .ok (.iload_n 1, 1) := by decide +kernel
theorem dX6_street_54 : decode cX6_street 54 = .ok (.aload_n 0, 1) := by decide +kernel
theorem dX6_street_55 : decode cX6_street 55 = .ok (.getfield 10, 3) := by decide +kernel
theorem dX6_street_58 : decode cX6_street 58 = .ok (.iload_n 1, 1) := by decide +kernel
theorem dX6_street_59 : decode cX6_street 59 = .ok (.iconst 3, 1) := by decide +kernel
theorem dX6_street_60 : decode cX6_street 60 = .ok (.imul, 1) := by decide +kernel
theorem dX6_street_61 : decode cX6_street 61 = .ok (.iconst 1, 1) := by decide +kernel
theorem dX6_street_62 : decode cX6_street 62 = .ok (.iadd, 1) := by decide +kernel
theorem dX6_street_63 : decode cX6_street 63 = .ok (.iload_n 1, 1) := by decide +kernel
theorem dX6_street_64 : decode cX6_street 64 = .ok (.invokevirtual 77, 3) := by decide +kernel
theorem dX6_street_67 : decode cX6_street 67 = .ok (.iastore, 1) := by decide +kernel
theorem dX6_street_68 : decode cX6_street 68 = .ok (.iinc 1 1, 3) := by decide +kernel
theorem dX6_street_71 : decode cX6_street 71 = .ok (.goto (-56), 3) := by decide +kernel
theorem dX6_street_74 : decode cX6_street 74 = .ok (.aload_n 0, 1) := by decide +kernel
theorem dX6_street_75 : decode cX6_street 75 = .ok (.getfield 19, 3) := by decide +kernel
theorem dX6_street_78 : decode cX6_street 78 = .ok (.getfield 65, 3) := by decide +kernel
theorem dX6_street_81 : decode cX6_street 81 = .ok (.invokevirtual 81, 3) := by decide +kernel
theorem dX6_street_84 : decode cX6_street 84 = .ok (.aload_n 0, 1) := by decide +kernel
theorem dX6_street_85 : decode cX6_street 85 = .ok (.getfield 19, 3) := by decide +kernel
theorem dX6_street_88 : decode cX6_street 88 = .ok (.getfield 84, 3) := by decide +kernel
theorem dX6_street_91 : decode cX6_street 91 = .ok (.iconst 0, 1) := by decide +kernel
theorem dX6_street_92 : decode cX6_street 92 = .ok (.putfield 88, 3) := by decide +kernel
theorem dX6_street_95 : decode cX6_street 95 = .ok (.aload_n 0, 1) := by decide +kernel
theorem dX6_street_96 : decode cX6_street 96 = .ok (.getfield 19, 3) := by decide +kernel
theorem dX6_street_99 : decode cX6_street 99 = .ok (.getfield 91, 3) := by decide +kernel
theorem dX6_street_102 : decode cX6_street 102 = .ok (.invokevirtual 95, 3) := by decide +kernel
theorem dX6_street_105 : decode cX6_street 105 = .ok (.aload_n 0, 1) := by decide +kernel
theorem dX6_street_106 : decode cX6_street 106 = .ok (.iconst 0, 1) := by decide +kernel
theorem dX6_street_107 : decode cX6_street 107 = .ok (.putfield 98, 3) := by decide +kernel
theorem dX6_street_110 : decode cX6_street 110 = .ok (.aload_n 0, 1) := by decide +kernel
theorem dX6_street_111 : decode cX6_street 111 = .ok (.dup, 1) := by decide +kernel
theorem dX6_street_112 : decode cX6_street 112 = .ok (.getfield 102, 3) := by decide +kernel
theorem dX6_street_115 : decode cX6_street 115 = .ok (.iconst 1, 1) := by decide +kernel
theorem dX6_street_116 : decode cX6_street 116 = .ok (.iadd, 1) := by decide +kernel
theorem dX6_street_117 : decode cX6_street 117 = .ok (.putfield 102, 3) := by decide +kernel
theorem dX6_street_120 : decode cX6_street 120 = .ok (.aload_n 0, 1) := by decide +kernel
theorem dX6_street_121 : decode cX6_street 121 = .ok (.getfield 10, 3) := by decide +kernel
theorem dX6_street_124 : decode cX6_street 124 = .ok (.iconst 0, 1) := by decide +kernel
theorem dX6_street_125 : decode cX6_street 125 = .ok (.putfield 50, 3) := by decide +kernel
theorem dX6_street_128 : decode cX6_street 128 = .ok (.aload_n 0, 1) := by decide +kernel
theorem dX6_street_129 : decode cX6_street 129 = .ok (.getfield 19, 3) := by decide +kernel
theorem dX6_street_132 : decode cX6_street 132 = .ok (.getfield 65, 3) := by decide +kernel
theorem dX6_street_135 : decode cX6_street 135 = .ok (.invokevirtual 105, 3) := by decide +kernel
theorem dX6_street_138 : decode cX6_street 138 = .ok (.ireturn, 1) := by decide +kernel
theorem dX6_about_0 : decode cX6_about 0 = .ok (.aload_n 0, 1) := by decide +kernel
theorem dX6_about_1 : decode cX6_about 1 = .ok (.iload_n 1, 1) := by decide +kernel
theorem dX6_about_2 : decode cX6_about 2 = .ok (.invokevirtual 109, 3) := by decide +kernel
theorem dX6_about_5 : decode cX6_about 5 = .ok (.ifCond .ne 6, 3) := by decide +kernel
theorem dX6_about_8 : decode cX6_about 8 = .ok (.bipush (-101), 2) := by decide +kernel
theorem dX6_about_10 : decode cX6_about 10 = .ok (.ireturn, 1) := by decide +kernel
theorem dX6_about_11 : decode cX6_about 11 = .ok (.iload_n 2, 1) := by decide +kernel
theorem dX6_about_12 : decode cX6_about 12 = .ok (.tableswitch 118 0 5 #[40, 53, 66, 79, 92, 105], 40) := by decide +kernel
theorem dX6_about_52 : decode cX6_about 52 = .ok (.aload_n 0, 1) := by decide +kernel
theorem dX6_about_53 : decode cX6_about 53 = .ok (.getfield 19, 3) := by decide +kernel
theorem dX6_about_56 : decode cX6_about 56 = .ok (.getfield 65, 3) := by decide +kernel
theorem dX6_about_59 : decode cX6_about 59 = .ok (.getfield 68, 3) := by decide +kernel
theorem dX6_about_62 : decode cX6_about 62 = .ok (.iload_n 1, 1) := by decide +kernel
theorem dX6_about_63 : decode cX6_about 63 = .ok (.iaload, 1) := by decide +kernel
theorem dX6_about_64 : decode cX6_about 64 = .ok (.ireturn, 1) := by decide +kernel
theorem dX6_about_65 : decode cX6_about 65 = .ok (.aload_n 0, 1) := by decide +kernel
theorem dX6_about_66 : decode cX6_about 66 = .ok (.getfield 19, 3) := by decide +kernel
theorem dX6_about_69 : decode cX6_about 69 = .ok (.getfield 65, 3) := by decide +kernel
theorem dX6_about_72 : decode cX6_about 72 = .ok (.getfield 74, 3) := by decide +kernel
theorem dX6_about_75 : decode cX6_about 75 = .ok (.iload_n 1, 1) := by decide +kernel
theorem dX6_about_76 : decode cX6_about 76 = .ok (.iaload, 1) := by decide +kernel
theorem dX6_about_77 : decode cX6_about 77 = .ok (.ireturn, 1) := by decide +kernel
theorem dX6_about_78 : decode cX6_about 78 = .ok (.aload_n 0, 1) := by decide +kernel
theorem dX6_about_79 : decode cX6_about 79 = .ok (.getfield 19, 3) := by decide +kernel
theorem dX6_about_82 : decode cX6_about 82 = .ok (.getfield 65, 3) := by decide +kernel
theorem dX6_about_85 : decode cX6_about 85 = .ok (.getfield 113, 3) := by decide +kernel
theorem dX6_about_88 : decode cX6_about 88 = .ok (.iload_n 1, 1) := by decide +kernel
theorem dX6_about_89 : decode cX6_about 89 = .ok (.iaload, 1) := by decide +kernel
theorem dX6_about_90 : decode cX6_about 90 = .ok (.ireturn, 1) := by decide +kernel
theorem dX6_about_91 : decode cX6_about 91 = .ok (.aload_n 0, 1) := by decide +kernel
theorem dX6_about_92 : decode cX6_about 92 = .ok (.getfield 19, 3) := by decide +kernel
theorem dX6_about_95 : decode cX6_about 95 = .ok (.getfield 65, 3) := by decide +kernel
theorem dX6_about_98 : decode cX6_about 98 = .ok (.getfield 116, 3) := by decide +kernel
theorem dX6_about_101 : decode cX6_about 101 = .ok (.iload_n 1, 1) := by decide +kernel
theorem dX6_about_102 : decode cX6_about 102 = .ok (.iaload, 1) := by decide +kernel
theorem dX6_about_103 : decode cX6_about 103 = .ok (.ireturn, 1) := by decide +kernel
theorem dX6_about_104 : decode cX6_about 104 = .ok (.aload_n 0, 1) := by decide +kernel
theorem dX6_about_105 : decode cX6_about 105 = .ok (.getfield 19, 3) := by decide +kernel
theorem dX6_about_108 : decode cX6_about 108 = .ok (.getfield 65, 3) := by decide +kernel
theorem dX6_about_111 : decode cX6_about 111 = .ok (.getfield 119, 3) := by decide +kernel
theorem dX6_about_114 : decode cX6_about 114 = .ok (.iload_n 1, 1) := by decide +kernel
theorem dX6_about_115 : decode cX6_about 115 = .ok (.iaload, 1) := by decide +kernel
theorem dX6_about_116 : decode cX6_about 116 = .ok (.ireturn, 1) := by decide +kernel
theorem dX6_about_117 : decode cX6_about 117 = .ok (.aload_n 0, 1) := by decide +kernel
theorem dX6_about_118 : decode cX6_about 118 = .ok (.getfield 19, 3) := by decide +kernel
theorem dX6_about_121 : decode cX6_about 121 = .ok (.getfield 65, 3) := by decide +kernel
theorem dX6_about_124 : decode cX6_about 124 = .ok (.getfield 122, 3) := by decide +kernel
theorem dX6_about_127 : decode cX6_about 127 = .ok (.iload_n 1, 1) := by decide +kernel
theorem dX6_about_128 : decode cX6_about 128 = .ok (.iaload, 1) := by decide +kernel
theorem dX6_about_129 : decode cX6_about 129 = .ok (.ireturn, 1) := by decide +kernel
theorem dX6_about_130 : decode cX6_about 130 = .ok (.bipush (-102), 2) := by decide +kernel
theorem dX6_about_132 : decode cX6_about 132 = .ok (.ireturn, 1) := by decide +kernel
theorem dX6_as_0 : decode cX6_as 0 = .ok (.aload_n 0, 1) := by decide +kernel
theorem dX6_as_1 : decode cX6_as 1 = .ok (.iload_n 1, 1) := by decide +kernel
theorem dX6_as_2 : decode cX6_as 2 = .ok (.invokevirtual 109, 3) := by decide +kernel
theorem dX6_as_5 : decode cX6_as 5 = .ok (.ifCond .ne 6, 3) := by decide +kernel
theorem dX6_as_8 : decode cX6_as 8 = .ok (.bipush (-101), 2) := by decide +kernel
theorem dX6_as_10 : decode cX6_as 10 = .ok (.ireturn, 1) := by decide +kernel
theorem dX6_as_11 : decode cX6_as 11 = .ok (.iload_n 2, 1) := by decide +kernel
theorem dX6_as_12 : decode cX6_as 12 = .ok (.ifCond .lt 8, 3) := by decide +kernel
theorem dX6_as_15 : decode cX6_as 15 = .ok (.iload_n 2, 1) := by decide +kernel
theorem dX6_as_16 : decode cX6_as 16 = .ok (.iconst 5, 1) := by decide +kernel
theorem dX6_as_17 : decode cX6_as 17 = .ok (.if_icmp .lt 6, 3) := by decide +kernel
theorem dX6_as_20 : decode cX6_as 20 = .ok (.bipush (-102), 2) := by decide +kernel
theorem dX6_as_22 : decode cX6_as 22 = .ok (.ireturn, 1) := by decide +kernel
theorem dX6_as_23 : decode cX6_as 23 = .ok (.aload_n 0, 1) := by decide +kernel
theorem dX6_as_24 : decode cX6_as 24 = .ok (.getfield 19, 3) := by decide +kernel
theorem dX6_as_27 : decode cX6_as 27 = .ok (.getfield 65, 3) := by decide +kernel
theorem dX6_as_30 : decode cX6_as 30 = .ok (.getfield 68, 3) := by decide +kernel
theorem dX6_as_33 : decode cX6_as 33 = .ok (.iload_n 1, 1) := by decide +kernel
theorem dX6_as_34 : decode cX6_as 34 = .ok (.iaload, 1) := by decide +kernel
theorem dX6_as_35 : decode cX6_as 35 = .ok (.istore_n 3, 1) := by decide +kernel
theorem dX6_as_36 : decode cX6_as 36 = .ok (.iload_n 2, 1) := by decide +kernel
theorem dX6_as_37 : decode cX6_as 37 = .ok (.ifCond .eq 18, 3) := by decide +kernel
theorem dX6_as_40 : decode cX6_as 40 = .ok (.iload_n 2, 1) := by decide +kernel
theorem dX6_as_41 : decode cX6_as 41 = .ok (.iload_n 3, 1) := by decide +kernel
theorem dX6_as_42 : decode cX6_as 42 = .ok (.if_icmp .eq 13, 3) := by decide +kernel
theorem dX6_as_45 : decode cX6_as 45 = .ok (.iload_n 2, 1) := by decide +kernel
theorem dX6_as_46 : decode cX6_as 46 = .ok (.iconst 2, 1) := by decide +kernel
theorem dX6_as_47 : decode cX6_as 47 = .ok (.if_icmp .ne 12, 3) := by decide +kernel
theorem dX6_as_50 : decode cX6_as 50 = .ok (.iload_n 3, 1) := by decide +kernel
theorem dX6_as_51 : decode cX6_as 51 = .ok (.iconst 4, 1) := by decide +kernel
theorem dX6_as_52 : decode cX6_as 52 = .ok (.if_icmp .ne 7, 3) := by decide +kernel
theorem dX6_as_55 : decode cX6_as 55 = .ok (.iconst 1, 1) := by decide +kernel
theorem dX6_as_56 : decode cX6_as 56 = .ok (.goto 4, 3) := by decide +kernel
theorem dX6_as_59 : decode cX6_as 59 = .ok (.iconst 0, 1) := by decide +kernel
theorem dX6_as_60 : decode cX6_as 60 = .ok (.istore 4, 2) := by decide +kernel
theorem dX6_as_62 : decode cX6_as 62 = .ok (.iload 4, 2) := by decide +kernel
theorem dX6_as_64 : decode cX6_as 64 = .ok (.ifCond .eq 7, 3) := by decide +kernel
theorem dX6_as_67 : decode cX6_as 67 = .ok (.iload_n 1, 1) := by decide +kernel
theorem dX6_as_68 : decode cX6_as 68 = .ok (.goto 4, 3) := by decide +kernel
theorem dX6_as_71 : decode cX6_as 71 = .ok (.iconst (-1), 1) := by decide +kernel
theorem dX6_as_72 : decode cX6_as 72 = .ok (.ireturn, 1) := by decide +kernel
theorem dX6_word_0 : decode cX6_word 0 = .ok (.aload_n 0, 1) := by decide +kernel
theorem dX6_word_1 : decode cX6_word 1 = .ok (.iload_n 1, 1) := by decide +kernel
theorem dX6_word_2 : decode cX6_word 2 = .ok (.invokevirtual 109, 3) := by decide +kernel
theorem dX6_word_5 : decode cX6_word 5 = .ok (.ifCond .eq 23, 3) := by decide +kernel
theorem dX6_word_8 : decode cX6_word 8 = .ok (.iload_n 2, 1) := by decide +kernel
theorem dX6_word_9 : decode cX6_word 9 = .ok (.ifCond .lt 19, 3) := by decide +kernel
theorem dX6_word_12 : decode cX6_word 12 = .ok (.iload_n 2, 1) := by decide +kernel
theorem dX6_word_13 : decode cX6_word 13 = .ok (.aload_n 0, 1) := by decide +kernel
theorem dX6_word_14 : decode cX6_word 14 = .ok (.getfield 19, 3) := by decide +kernel
theorem dX6_word_17 : decode cX6_word 17 = .ok (.getfield 65, 3) := by decide +kernel
theorem dX6_word_20 : decode cX6_word 20 = .ok (.getfield 119, 3) := by decide +kernel
theorem dX6_word_23 : decode cX6_word 23 = .ok (.iload_n 1, 1) := by decide +kernel
theorem dX6_word_24 : decode cX6_word 24 = .ok (.iaload, 1) := by decide +kernel
theorem dX6_word_25 : decode cX6_word 25 = .ok (.if_icmp .lt 6, 3) := by decide +kernel
theorem dX6_word_28 : decode cX6_word 28 = .ok (.bipush (-101), 2) := by decide +kernel
theorem dX6_word_30 : decode cX6_word 30 = .ok (.ireturn, 1) := by decide +kernel
theorem dX6_word_31 : decode cX6_word 31 = .ok (.aload_n 0, 1) := by decide +kernel
theorem dX6_word_32 : decode cX6_word 32 = .ok (.getfield 19, 3) := by decide +kernel
theorem dX6_word_35 : decode cX6_word 35 = .ok (.getfield 65, 3) := by decide +kernel
theorem dX6_word_38 : decode cX6_word 38 = .ok (.getfield 125, 3) := by decide +kernel
theorem dX6_word_41 : decode cX6_word 41 = .ok (.iload_n 1, 1) := by decide +kernel
theorem dX6_word_42 : decode cX6_word 42 = .ok (.aaload, 1) := by decide +kernel
theorem dX6_word_43 : decode cX6_word 43 = .ok (.iload_n 2, 1) := by decide +kernel
theorem dX6_word_44 : decode cX6_word 44 = .ok (.iaload, 1) := by decide +kernel
theorem dX6_word_45 : decode cX6_word 45 = .ok (.ireturn, 1) := by decide +kernel
theorem dX6_drop_0 : decode cX6_drop 0 = .ok (.aload_n 0, 1) := by decide +kernel
theorem dX6_drop_1 : decode cX6_drop 1 = .ok (.iload_n 1, 1) := by decide +kernel
theorem dX6_drop_2 : decode cX6_drop 2 = .ok (.invokevirtual 109, 3) := by decide +kernel
theorem dX6_drop_5 : decode cX6_drop 5 = .ok (.ifCond .ne 6, 3) := by decide +kernel
theorem dX6_drop_8 : decode cX6_drop 8 = .ok (.bipush (-101), 2) := by decide +kernel
theorem dX6_drop_10 : decode cX6_drop 10 = .ok (.ireturn, 1) := by decide +kernel
theorem dX6_drop_11 : decode cX6_drop 11 = .ok (.iload_n 2, 1) := by decide +kernel
theorem dX6_drop_12 : decode cX6_drop 12 = .ok (.invokestatic 129, 3) := by decide +kernel
theorem dX6_drop_15 : decode cX6_drop 15 = .ok (.ifCond .ne 6, 3) := by decide +kernel
theorem dX6_drop_18 : decode cX6_drop 18 = .ok (.bipush (-102), 2) := by decide +kernel
theorem dX6_drop_20 : decode cX6_drop 20 = .ok (.ireturn, 1) := by decide +kernel
theorem dX6_drop_21 : decode cX6_drop 21 = .ok (.aload_n 0, 1) := by decide +kernel
theorem dX6_drop_22 : decode cX6_drop 22 = .ok (.getfield 19, 3) := by decide +kernel
theorem dX6_drop_25 : decode cX6_drop 25 = .ok (.getfield 84, 3) := by decide +kernel
theorem dX6_drop_28 : decode cX6_drop 28 = .ok (.getfield 88, 3) := by decide +kernel
theorem dX6_drop_31 : decode cX6_drop 31 = .ok (.bipush 12, 2) := by decide +kernel
theorem dX6_drop_33 : decode cX6_drop 33 = .ok (.if_icmp .lt 6, 3) := by decide +kernel
theorem dX6_drop_36 : decode cX6_drop 36 = .ok (.bipush (-104), 2) := by decide +kernel
theorem dX6_drop_38 : decode cX6_drop 38 = .ok (.ireturn, 1) := by decide +kernel
theorem dX6_drop_39 : decode cX6_drop 39 = .ok (.aload_n 0, 1) := by decide +kernel
theorem dX6_drop_40 : decode cX6_drop 40 = .ok (.getfield 19, 3) := by decide +kernel
theorem dX6_drop_43 : decode cX6_drop 43 = .ok (.getfield 84, 3) := by decide +kernel
theorem dX6_drop_46 : decode cX6_drop 46 = .ok (.iload_n 1, 1) := by decide +kernel
theorem dX6_drop_47 : decode cX6_drop 47 = .ok (.iload_n 2, 1) := by decide +kernel
theorem dX6_drop_48 : decode cX6_drop 48 = .ok (.invokevirtual 132, 3) := by decide +kernel
theorem dX6_drop_51 : decode cX6_drop 51 = .ok (.aload_n 0, 1) := by decide +kernel
theorem dX6_drop_52 : decode cX6_drop 52 = .ok (.getfield 19, 3) := by decide +kernel
theorem dX6_drop_55 : decode cX6_drop 55 = .ok (.getfield 65, 3) := by decide +kernel
theorem dX6_drop_58 : decode cX6_drop 58 = .ok (.iload_n 1, 1) := by decide +kernel
theorem dX6_drop_59 : decode cX6_drop 59 = .ok (.iload_n 2, 1) := by decide +kernel
theorem dX6_drop_60 : decode cX6_drop 60 = .ok (.invokevirtual 136, 3) := by decide +kernel
theorem dX6_drop_63 : decode cX6_drop 63 = .ok (.ireturn, 1) := by decide +kernel
theorem dX6_rain_0 : decode cX6_rain 0 = .ok (.aload_n 0, 1) := by decide +kernel
theorem dX6_rain_1 : decode cX6_rain 1 = .ok (.iload_n 1, 1) := by decide +kernel
theorem dX6_rain_2 : decode cX6_rain 2 = .ok (.invokevirtual 139, 3) := by decide +kernel
theorem dX6_rain_5 : decode cX6_rain 5 = .ok (.ifCond .ne 6, 3) := by decide +kernel
theorem dX6_rain_8 : decode cX6_rain 8 = .ok (.bipush (-101), 2) := by decide +kernel
theorem dX6_rain_10 : decode cX6_rain 10 = .ok (.ireturn, 1) := by decide +kernel
theorem dX6_rain_11 : decode cX6_rain 11 = .ok (.iload_n 2, 1) := by decide +kernel
theorem dX6_rain_12 : decode cX6_rain 12 = .ok (.ifCond .eq 11, 3) := by decide +kernel
theorem dX6_rain_15 : decode cX6_rain 15 = .ok (.iload_n 2, 1) := by decide +kernel
theorem dX6_rain_16 : decode cX6_rain 16 = .ok (.iconst 1, 1) := by decide +kernel
theorem dX6_rain_17 : decode cX6_rain 17 = .ok (.if_icmp .eq 6, 3) := by decide +kernel
theorem dX6_rain_20 : decode cX6_rain 20 = .ok (.bipush (-102), 2) := by decide +kernel
theorem dX6_rain_22 : decode cX6_rain 22 = .ok (.ireturn, 1) := by decide +kernel
theorem dX6_rain_23 : decode cX6_rain 23 = .ok (.iload_n 2, 1) := by decide +kernel
theorem dX6_rain_24 : decode cX6_rain 24 = .ok (.ifCond .ne 18, 3) := by decide +kernel
theorem dX6_rain_27 : decode cX6_rain 27 = .ok (.aload_n 0, 1) := by decide +kernel
theorem dX6_rain_28 : decode cX6_rain 28 = .ok (.getfield 19, 3) := by decide +kernel
theorem dX6_rain_31 : decode cX6_rain 31 = .ok (.getfield 84, 3) := by decide +kernel
theorem dX6_rain_34 : decode cX6_rain 34 = .ok (.getfield 142, 3) := by decide +kernel
theorem dX6_rain_37 : decode cX6_rain 37 = .ok (.iload_n 1, 1) := by decide +kernel
theorem dX6_rain_38 : decode cX6_rain 38 = .ok (.iaload, 1) := by decide +kernel
theorem dX6_rain_39 : decode cX6_rain 39 = .ok (.goto 15, 3) := by decide +kernel
theorem dX6_rain_42 : decode cX6_rain 42 = .ok (.aload_n 0, 1) := by decide +kernel
theorem dX6_rain_43 : decode cX6_rain 43 = .ok (.getfield 19, 3) := by decide +kernel
theorem dX6_rain_46 : decode cX6_rain 46 = .ok (.getfield 84, 3) := by decide +kernel
theorem dX6_rain_49 : decode cX6_rain 49 = .ok (.getfield 145, 3) := by decide +kernel
theorem dX6_rain_52 : decode cX6_rain 52 = .ok (.iload_n 1, 1) := by decide +kernel
theorem dX6_rain_53 : decode cX6_rain 53 = .ok (.iaload, 1) := by decide +kernel
theorem dX6_rain_54 : decode cX6_rain 54 = .ok (.ireturn, 1) := by decide +kernel
theorem dX6_dry_0 : decode cX6_dry 0 = .ok (.aload_n 0, 1) := by decide +kernel
theorem dX6_dry_1 : decode cX6_dry 1 = .ok (.invokevirtual 148, 3) := by decide +kernel
theorem dX6_dry_4 : decode cX6_dry 4 = .ok (.ifCond .ne 6, 3) := by decide +kernel
theorem dX6_dry_7 : decode cX6_dry 7 = .ok (.bipush (-103), 2) := by decide +kernel
theorem dX6_dry_9 : decode cX6_dry 9 = .ok (.ireturn, 1) := by decide +kernel
theorem dX6_dry_10 : decode cX6_dry 10 = .ok (.aload_n 0, 1) := by decide +kernel
theorem dX6_dry_11 : decode cX6_dry 11 = .ok (.getfield 19, 3) := by decide +kernel
theorem dX6_dry_14 : decode cX6_dry 14 = .ok (.getfield 84, 3) := by decide +kernel
theorem dX6_dry_17 : decode cX6_dry 17 = .ok (.getfield 88, 3) := by decide +kernel
theorem dX6_dry_20 : decode cX6_dry 20 = .ok (.istore_n 1, 1) := by decide +kernel
theorem dX6_dry_21 : decode cX6_dry 21 = .ok (.aload_n 0, 1) := by decide +kernel
theorem dX6_dry_22 : decode cX6_dry 22 = .ok (.getfield 19, 3) := by decide +kernel
theorem dX6_dry_25 : decode cX6_dry 25 = .ok (.getfield 84, 3) := by decide +kernel
theorem dX6_dry_28 : decode cX6_dry 28 = .ok (.iconst 0, 1) := by decide +kernel
theorem dX6_dry_29 : decode cX6_dry 29 = .ok (.putfield 88, 3) := by decide +kernel
theorem dX6_dry_32 : decode cX6_dry 32 = .ok (.aload_n 0, 1) := by decide +kernel
theorem dX6_dry_33 : decode cX6_dry 33 = .ok (.getfield 19, 3) := by decide +kernel
theorem dX6_dry_36 : decode cX6_dry 36 = .ok (.getfield 65, 3) := by decide +kernel
theorem dX6_dry_39 : decode cX6_dry 39 = .ok (.invokevirtual 81, 3) := by decide +kernel
theorem dX6_dry_42 : decode cX6_dry 42 = .ok (.iload_n 1, 1) := by decide +kernel
theorem dX6_dry_43 : decode cX6_dry 43 = .ok (.ireturn, 1) := by decide +kernel
theorem dX6_turn_0 : decode cX6_turn 0 = .ok (.aload_n 0, 1) := by decide +kernel
theorem dX6_turn_1 : decode cX6_turn 1 = .ok (.iload_n 1, 1) := by decide +kernel
theorem dX6_turn_2 : decode cX6_turn 2 = .ok (.invokevirtual 109, 3) := by decide +kernel
theorem dX6_turn_5 : decode cX6_turn 5 = .ok (.ifCond .ne 6, 3) := by decide +kernel
theorem dX6_turn_8 : decode cX6_turn 8 = .ok (.bipush (-101), 2) := by decide +kernel
theorem dX6_turn_10 : decode cX6_turn 10 = .ok (.ireturn, 1) := by decide +kernel
theorem dX6_turn_11 : decode cX6_turn 11 = .ok (.iload_n 2, 1) := by decide +kernel
theorem dX6_turn_12 : decode cX6_turn 12 = .ok (.iconst (-1), 1) := by decide +kernel
theorem dX6_turn_13 : decode cX6_turn 13 = .ok (.if_icmp .eq 17, 3) := by decide +kernel
theorem dX6_turn_16 : decode cX6_turn 16 = .ok (.iload_n 2, 1) := by decide +kernel
theorem dX6_turn_17 : decode cX6_turn 17 = .ok (.iload_n 1, 1) := by decide +kernel
theorem dX6_turn_18 : decode cX6_turn 18 = .ok (.if_icmp .le 9, 3) := by decide +kernel
theorem dX6_turn_21 : decode cX6_turn 21 = .ok (.iload_n 2, 1) := by decide +kernel
theorem dX6_turn_22 : decode cX6_turn 22 = .ok (.bipush 6, 2) := by decide +kernel
theorem dX6_turn_24 : decode cX6_turn 24 = .ok (.if_icmp .lt 6, 3) := by decide +kernel
theorem dX6_turn_27 : decode cX6_turn 27 = .ok (.bipush (-102), 2) := by decide +kernel
theorem dX6_turn_29 : decode cX6_turn 29 = .ok (.ireturn, 1) := by decide +kernel
theorem dX6_turn_30 : decode cX6_turn 30 = .ok (.aload_n 0, 1) := by decide +kernel
theorem dX6_turn_31 : decode cX6_turn 31 = .ok (.getfield 19, 3) := by decide +kernel
theorem dX6_turn_34 : decode cX6_turn 34 = .ok (.getfield 65, 3) := by decide +kernel
theorem dX6_turn_37 : decode cX6_turn 37 = .ok (.getfield 74, 3) := by decide +kernel
theorem dX6_turn_40 : decode cX6_turn 40 = .ok (.iload_n 1, 1) := by decide +kernel
theorem dX6_turn_41 : decode cX6_turn 41 = .ok (.iaload, 1) := by decide +kernel
theorem dX6_turn_42 : decode cX6_turn 42 = .ok (.istore_n 3, 1) := by decide +kernel
theorem dX6_turn_43 : decode cX6_turn 43 = .ok (.aload_n 0, 1) := by decide +kernel
theorem dX6_turn_44 : decode cX6_turn 44 = .ok (.getfield 19, 3) := by decide +kernel
theorem dX6_turn_47 : decode cX6_turn 47 = .ok (.getfield 65, 3) := by decide +kernel
theorem dX6_turn_50 : decode cX6_turn 50 = .ok (.getfield 74, 3) := by decide +kernel
theorem dX6_turn_53 : decode cX6_turn 53 = .ok (.iload_n 1, 1) := by decide +kernel
theorem dX6_turn_54 : decode cX6_turn 54 = .ok (.iload_n 2, 1) := by decide +kernel
theorem dX6_turn_55 : decode cX6_turn 55 = .ok (.iastore, 1) := by decide +kernel
theorem dX6_turn_56 : decode cX6_turn 56 = .ok (.iload_n 3, 1) := by decide +kernel
theorem dX6_turn_57 : decode cX6_turn 57 = .ok (.ireturn, 1) := by decide +kernel
theorem dX6_fewTurns_0 : decode cX6_fewTurns 0 = .ok (.aload_n 0, 1) := by decide +kernel
theorem dX6_fewTurns_1 : decode cX6_fewTurns 1 = .ok (.iload_n 1, 1) := by decide +kernel
theorem dX6_fewTurns_2 : decode cX6_fewTurns 2 = .ok (.invokevirtual 109, 3) := by decide +kernel
theorem dX6_fewTurns_5 : decode cX6_fewTurns 5 = .ok (.ifCond .ne 6, 3) := by decide +kernel
theorem dX6_fewTurns_8 : decode cX6_fewTurns 8 = .ok (.bipush (-101), 2) := by decide +kernel
theorem dX6_fewTurns_10 : decode cX6_fewTurns 10 = .ok (.ireturn, 1) := by decide +kernel
theorem dX6_fewTurns_11 : decode cX6_fewTurns 11 = .ok (.iload_n 2, 1) := by decide +kernel
theorem dX6_fewTurns_12 : decode cX6_fewTurns 12 = .ok (.ifCond .lt 8, 3) := by decide +kernel
theorem dX6_fewTurns_15 : decode cX6_fewTurns 15 = .ok (.iload_n 2, 1) := by decide +kernel
theorem dX6_fewTurns_16 : decode cX6_fewTurns 16 = .ok (.iconst 2, 1) := by decide +kernel
theorem dX6_fewTurns_17 : decode cX6_fewTurns 17 = .ok (.if_icmp .le 6, 3) := by decide +kernel
theorem dX6_fewTurns_20 : decode cX6_fewTurns 20 = .ok (.bipush (-102), 2) := by decide +kernel
theorem dX6_fewTurns_22 : decode cX6_fewTurns 22 = .ok (.ireturn, 1) := by decide +kernel
theorem dX6_fewTurns_23 : decode cX6_fewTurns 23 = .ok (.aload_n 0, 1) := by decide +kernel
theorem dX6_fewTurns_24 : decode cX6_fewTurns 24 = .ok (.getfield 10, 3) := by decide +kernel
theorem dX6_fewTurns_27 : decode cX6_fewTurns 27 = .ok (.invokevirtual 151, 3) := by decide +kernel
theorem dX6_fewTurns_30 : decode cX6_fewTurns 30 = .ok (.ifCond .eq 12, 3) := by decide +kernel
theorem dX6_fewTurns_33 : decode cX6_fewTurns 33 = .ok (.aload_n 0, 1) := by decide +kernel
theorem dX6_fewTurns_34 : decode cX6_fewTurns 34 = .ok (.getfield 154, 3) := by decide +kernel
theorem dX6_fewTurns_37 : decode cX6_fewTurns 37 = .ok (.bipush 20, 2) := by decide +kernel
theorem dX6_fewTurns_39 : decode cX6_fewTurns 39 = .ok (.if_icmp .lt 6, 3) := by decide +kernel
theorem dX6_fewTurns_42 : decode cX6_fewTurns 42 = .ok (.bipush (-103), 2) := by decide +kernel
theorem dX6_fewTurns_44 : decode cX6_fewTurns 44 = .ok (.ireturn, 1) := by decide +kernel
theorem dX6_fewTurns_45 : decode cX6_fewTurns 45 = .ok (.aload_n 0, 1) := by decide +kernel
theorem dX6_fewTurns_46 : decode cX6_fewTurns 46 = .ok (.dup, 1) := by decide +kernel
theorem dX6_fewTurns_47 : decode cX6_fewTurns 47 = .ok (.getfield 154, 3) := by decide +kernel
theorem dX6_fewTurns_50 : decode cX6_fewTurns 50 = .ok (.iconst 1, 1) := by decide +kernel
theorem dX6_fewTurns_51 : decode cX6_fewTurns 51 = .ok (.iadd, 1) := by decide +kernel
theorem dX6_fewTurns_52 : decode cX6_fewTurns 52 = .ok (.putfield 154, 3) := by decide +kernel
theorem dX6_fewTurns_55 : decode cX6_fewTurns 55 = .ok (.aload_n 0, 1) := by decide +kernel
theorem dX6_fewTurns_56 : decode cX6_fewTurns 56 = .ok (.iload_n 1, 1) := by decide +kernel
theorem dX6_fewTurns_57 : decode cX6_fewTurns 57 = .ok (.invokevirtual 157, 3) := by decide +kernel
theorem dX6_fewTurns_60 : decode cX6_fewTurns 60 = .ok (.aload_n 0, 1) := by decide +kernel
theorem dX6_fewTurns_61 : decode cX6_fewTurns 61 = .ok (.getfield 36, 3) := by decide +kernel
theorem dX6_fewTurns_64 : decode cX6_fewTurns 64 = .ok (.iload_n 2, 1) := by decide +kernel
theorem dX6_fewTurns_65 : decode cX6_fewTurns 65 = .ok (.invokevirtual 161, 3) := by decide +kernel
theorem dX6_fewTurns_68 : decode cX6_fewTurns 68 = .ok (.ireturn, 1) := by decide +kernel
theorem dX6_orders_0 : decode cX6_orders 0 = .ok (.aload_n 0, 1) := by decide +kernel
theorem dX6_orders_1 : decode cX6_orders 1 = .ok (.iload_n 1, 1) := by decide +kernel
theorem dX6_orders_2 : decode cX6_orders 2 = .ok (.invokevirtual 109, 3) := by decide +kernel
theorem dX6_orders_5 : decode cX6_orders 5 = .ok (.ifCond .ne 6, 3) := by decide +kernel
theorem dX6_orders_8 : decode cX6_orders 8 = .ok (.bipush (-101), 2) := by decide +kernel
theorem dX6_orders_10 : decode cX6_orders 10 = .ok (.ireturn, 1) := by decide +kernel
theorem dX6_orders_11 : decode cX6_orders 11 = .ok (.aload_n 0, 1) := by decide +kernel
theorem dX6_orders_12 : decode cX6_orders 12 = .ok (.getfield 19, 3) := by decide +kernel
theorem dX6_orders_15 : decode cX6_orders 15 = .ok (.getfield 65, 3) := by decide +kernel
theorem dX6_orders_18 : decode cX6_orders 18 = .ok (.getfield 74, 3) := by decide +kernel
theorem dX6_orders_21 : decode cX6_orders 21 = .ok (.iload_n 1, 1) := by decide +kernel
theorem dX6_orders_22 : decode cX6_orders 22 = .ok (.iaload, 1) := by decide +kernel
theorem dX6_orders_23 : decode cX6_orders 23 = .ok (.iconst (-1), 1) := by decide +kernel
theorem dX6_orders_24 : decode cX6_orders 24 = .ok (.if_icmp .ne 12, 3) := by decide +kernel
theorem dX6_orders_27 : decode cX6_orders 27 = .ok (.aload_n 0, 1) := by decide +kernel
theorem dX6_orders_28 : decode cX6_orders 28 = .ok (.getfield 164, 3) := by decide +kernel
theorem dX6_orders_31 : decode cX6_orders 31 = .ok (.bipush 20, 2) := by decide +kernel
theorem dX6_orders_33 : decode cX6_orders 33 = .ok (.if_icmp .lt 6, 3) := by decide +kernel
theorem dX6_orders_36 : decode cX6_orders 36 = .ok (.bipush (-103), 2) := by decide +kernel
theorem dX6_orders_38 : decode cX6_orders 38 = .ok (.ireturn, 1) := by decide +kernel
theorem dX6_orders_39 : decode cX6_orders 39 = .ok (.aload_n 0, 1) := by decide +kernel
theorem dX6_orders_40 : decode cX6_orders 40 = .ok (.dup, 1) := by decide +kernel
theorem dX6_orders_41 : decode cX6_orders 41 = .ok (.getfield 164, 3) := by decide +kernel
theorem dX6_orders_44 : decode cX6_orders 44 = .ok (.iconst 1, 1) := by decide +kernel
theorem dX6_orders_45 : decode cX6_orders 45 = .ok (.iadd, 1) := by decide +kernel
theorem dX6_orders_46 : decode cX6_orders 46 = .ok (.putfield 164, 3) := by decide +kernel
theorem dX6_orders_49 : decode cX6_orders 49 = .ok (.aload_n 0, 1) := by decide +kernel
theorem dX6_orders_50 : decode cX6_orders 50 = .ok (.iload_n 1, 1) := by decide +kernel
theorem dX6_orders_51 : decode cX6_orders 51 = .ok (.invokevirtual 167, 3) := by decide +kernel
theorem dX6_orders_54 : decode cX6_orders 54 = .ok (.ireturn, 1) := by decide +kernel
theorem dX6_bestDrop_0 : decode cX6_bestDrop 0 = .ok (.iload_n 1, 1) := by decide +kernel
theorem dX6_bestDrop_1 : decode cX6_bestDrop 1 = .ok (.invokestatic 129, 3) := by decide +kernel
theorem dX6_bestDrop_4 : decode cX6_bestDrop 4 = .ok (.ifCond .ne 6, 3) := by decide +kernel
theorem dX6_bestDrop_7 : decode cX6_bestDrop 7 = .ok (.bipush (-102), 2) := by decide +kernel
theorem dX6_bestDrop_9 : decode cX6_bestDrop 9 = .ok (.ireturn, 1) := by decide +kernel
theorem dX6_bestDrop_10 : decode cX6_bestDrop 10 = .ok (.aload_n 0, 1) := by decide +kernel
theorem dX6_bestDrop_11 : decode cX6_bestDrop 11 = .ok (.invokevirtual 148, 3) := by decide +kernel
theorem dX6_bestDrop_14 : decode cX6_bestDrop 14 = .ok (.ifCond .ne 6, 3) := by decide +kernel
theorem dX6_bestDrop_17 : decode cX6_bestDrop 17 = .ok (.bipush (-103), 2) := by decide +kernel
theorem dX6_bestDrop_19 : decode cX6_bestDrop 19 = .ok (.ireturn, 1) := by decide +kernel
theorem dX6_bestDrop_20 : decode cX6_bestDrop 20 = .ok (.aload_n 0, 1) := by decide +kernel
theorem dX6_bestDrop_21 : decode cX6_bestDrop 21 = .ok (.getfield 19, 3) := by decide +kernel
theorem dX6_bestDrop_24 : decode cX6_bestDrop 24 = .ok (.getfield 84, 3) := by decide +kernel
theorem dX6_bestDrop_27 : decode cX6_bestDrop 27 = .ok (.getfield 88, 3) := by decide +kernel
theorem dX6_bestDrop_30 : decode cX6_bestDrop 30 = .ok (.bipush 12, 2) := by decide +kernel
theorem dX6_bestDrop_32 : decode cX6_bestDrop 32 = .ok (.if_icmp .lt 6, 3) := by decide +kernel
theorem dX6_bestDrop_35 : decode cX6_bestDrop 35 = .ok (.bipush (-104), 2) := by decide +kernel
theorem dX6_bestDrop_37 : decode cX6_bestDrop 37 = .ok (.ireturn, 1) := by decide +kernel
theorem dX6_bestDrop_38 : decode cX6_bestDrop 38 = .ok (.iconst 0, 1) := by decide +kernel
theorem dX6_bestDrop_39 : decode cX6_bestDrop 39 = .ok (.istore_n 2, 1) := by decide +kernel
theorem dX6_bestDrop_40 : decode cX6_bestDrop 40 = .ok (.iconst (-1), 1) := by decide +kernel
theorem dX6_bestDrop_41 : decode cX6_bestDrop 41 = .ok (.istore_n 3, 1) := by decide +kernel
theorem dX6_bestDrop_42 : decode cX6_bestDrop 42 = .ok (.iconst 0, 1) := by decide +kernel
theorem dX6_bestDrop_43 : decode cX6_bestDrop 43 = .ok (.istore 4, 2) := by decide +kernel
theorem dX6_bestDrop_45 : decode cX6_bestDrop 45 = .ok (.iload 4, 2) := by decide +kernel
theorem dX6_bestDrop_47 : decode cX6_bestDrop 47 = .ok (.bipush 6, 2) := by decide +kernel
theorem dX6_bestDrop_49 : decode cX6_bestDrop 49 = .ok (.if_icmp .ge 71, 3) := by decide +kernel
theorem dX6_bestDrop_52 : decode cX6_bestDrop 52 = .ok (.aload_n 0, 1) := by decide +kernel
theorem dX6_bestDrop_53 : decode cX6_bestDrop 53 = .ok (.getfield 29, 3) := by decide +kernel
theorem dX6_bestDrop_56 : decode cX6_bestDrop 56 = .ok (.aload_n 0, 1) := by decide +kernel
theorem dX6_bestDrop_57 : decode cX6_bestDrop 57 = .ok (.getfield 19, 3) := by decide +kernel
theorem dX6_bestDrop_60 : decode cX6_bestDrop 60 = .ok (.getfield 65, 3) := by decide +kernel
theorem dX6_bestDrop_63 : decode cX6_bestDrop 63 = .ok (.invokevirtual 170, 3) := by decide +kernel
theorem dX6_bestDrop_66 : decode cX6_bestDrop 66 = .ok (.aload_n 0, 1) := by decide +kernel
theorem dX6_bestDrop_67 : decode cX6_bestDrop 67 = .ok (.getfield 29, 3) := by decide +kernel
theorem dX6_bestDrop_70 : decode cX6_bestDrop 70 = .ok (.aload_n 0, 1) := by decide +kernel
theorem dX6_bestDrop_71 : decode cX6_bestDrop 71 = .ok (.getfield 19, 3) := by decide +kernel
theorem dX6_bestDrop_74 : decode cX6_bestDrop 74 = .ok (.getfield 84, 3) := by decide +kernel
theorem dX6_bestDrop_77 : decode cX6_bestDrop 77 = .ok (.iconst (-1), 1) := by decide +kernel
theorem dX6_bestDrop_78 : decode cX6_bestDrop 78 = .ok (.iconst 0, 1) := by decide +kernel
theorem dX6_bestDrop_79 : decode cX6_bestDrop 79 = .ok (.invokevirtual 174, 3) := by decide +kernel
theorem dX6_bestDrop_82 : decode cX6_bestDrop 82 = .ok (.aload_n 0, 1) := by decide +kernel
theorem dX6_bestDrop_83 : decode cX6_bestDrop 83 = .ok (.getfield 29, 3) := by decide +kernel
theorem dX6_bestDrop_86 : decode cX6_bestDrop 86 = .ok (.iload 4, 2) := by decide +kernel
theorem dX6_bestDrop_88 : decode cX6_bestDrop 88 = .ok (.iload_n 1, 1) := by decide +kernel
theorem dX6_bestDrop_89 : decode cX6_bestDrop 89 = .ok (.invokevirtual 136, 3) := by decide +kernel
theorem dX6_bestDrop_92 : decode cX6_bestDrop 92 = .ok (.pop, 1) := by decide +kernel
theorem dX6_bestDrop_93 : decode cX6_bestDrop 93 = .ok (.aload_n 0, 1) := by decide +kernel
theorem dX6_bestDrop_94 : decode cX6_bestDrop 94 = .ok (.getfield 29, 3) := by decide +kernel
theorem dX6_bestDrop_97 : decode cX6_bestDrop 97 = .ok (.invokevirtual 178, 3) := by decide +kernel
theorem dX6_bestDrop_100 : decode cX6_bestDrop 100 = .ok (.istore 5, 2) := by decide +kernel
theorem dX6_bestDrop_102 : decode cX6_bestDrop 102 = .ok (.iload 5, 2) := by decide +kernel
theorem dX6_bestDrop_104 : decode cX6_bestDrop 104 = .ok (.iload_n 3, 1) := by decide +kernel
theorem dX6_bestDrop_105 : decode cX6_bestDrop 105 = .ok (.if_icmp .le 9, 3) := by decide +kernel
theorem dX6_bestDrop_108 : decode cX6_bestDrop 108 = .ok (.iload 5, 2) := by decide +kernel
theorem dX6_bestDrop_110 : decode cX6_bestDrop 110 = .ok (.istore_n 3, 1) := by decide +kernel
theorem dX6_bestDrop_111 : decode cX6_bestDrop 111 = .ok (.iload 4, 2) := by decide +kernel
theorem dX6_bestDrop_113 : decode cX6_bestDrop 113 = .ok (.istore_n 2, 1) := by decide +kernel
theorem dX6_bestDrop_114 : decode cX6_bestDrop 114 = .ok (.iinc 4 1, 3) := by decide +kernel
theorem dX6_bestDrop_117 : decode cX6_bestDrop 117 = .ok (.goto (-72), 3) := by decide +kernel
theorem dX6_bestDrop_120 : decode cX6_bestDrop 120 = .ok (.iload_n 2, 1) := by decide +kernel
theorem dX6_bestDrop_121 : decode cX6_bestDrop 121 = .ok (.ireturn, 1) := by decide +kernel
theorem dX6_found_0 : decode cX6_found 0 = .ok (.aload_n 0, 1) := by decide +kernel
theorem dX6_found_1 : decode cX6_found 1 = .ok (.iload_n 1, 1) := by decide +kernel
theorem dX6_found_2 : decode cX6_found 2 = .ok (.invokevirtual 109, 3) := by decide +kernel
theorem dX6_found_5 : decode cX6_found 5 = .ok (.ifCond .ne 6, 3) := by decide +kernel
theorem dX6_found_8 : decode cX6_found 8 = .ok (.bipush (-101), 2) := by decide +kernel
theorem dX6_found_10 : decode cX6_found 10 = .ok (.ireturn, 1) := by decide +kernel
theorem dX6_found_11 : decode cX6_found 11 = .ok (.aload_n 0, 1) := by decide +kernel
theorem dX6_found_12 : decode cX6_found 12 = .ok (.getfield 10, 3) := by decide +kernel
theorem dX6_found_15 : decode cX6_found 15 = .ok (.getfield 50, 3) := by decide +kernel
theorem dX6_found_18 : decode cX6_found 18 = .ok (.ifCond .eq 16, 3) := by decide +kernel
theorem dX6_found_21 : decode cX6_found 21 = .ok (.aload_n 0, 1) := by decide +kernel
theorem dX6_found_22 : decode cX6_found 22 = .ok (.getfield 10, 3) := by decide +kernel
theorem dX6_found_25 : decode cX6_found 25 = .ok (.invokevirtual 151, 3) := by decide +kernel
theorem dX6_found_28 : decode cX6_found 28 = .ok (.ifCond .ne 6, 3) := by decide +kernel
theorem dX6_found_31 : decode cX6_found 31 = .ok (.bipush (-103), 2) := by decide +kernel
theorem dX6_found_33 : decode cX6_found 33 = .ok (.ireturn, 1) := by decide +kernel
theorem dX6_found_34 : decode cX6_found 34 = .ok (.aload_n 0, 1) := by decide +kernel
theorem dX6_found_35 : decode cX6_found 35 = .ok (.getfield 10, 3) := by decide +kernel
theorem dX6_found_38 : decode cX6_found 38 = .ok (.aload_n 0, 1) := by decide +kernel
theorem dX6_found_39 : decode cX6_found 39 = .ok (.getfield 19, 3) := by decide +kernel
theorem dX6_found_42 : decode cX6_found 42 = .ok (.getfield 91, 3) := by decide +kernel
theorem dX6_found_45 : decode cX6_found 45 = .ok (.getfield 181, 3) := by decide +kernel
theorem dX6_found_48 : decode cX6_found 48 = .ok (.iload_n 1, 1) := by decide +kernel
theorem dX6_found_49 : decode cX6_found 49 = .ok (.aaload, 1) := by decide +kernel
theorem dX6_found_50 : decode cX6_found 50 = .ok (.invokevirtual 182, 3) := by decide +kernel
theorem dX6_found_53 : decode cX6_found 53 = .ok (.aload_n 0, 1) := by decide +kernel
theorem dX6_found_54 : decode cX6_found 54 = .ok (.getfield 19, 3) := by decide +kernel
theorem dX6_found_57 : decode cX6_found 57 = .ok (.getfield 91, 3) := by decide +kernel
theorem dX6_found_60 : decode cX6_found 60 = .ok (.getfield 186, 3) := by decide +kernel
theorem dX6_found_63 : decode cX6_found 63 = .ok (.iload_n 1, 1) := by decide +kernel
theorem dX6_found_64 : decode cX6_found 64 = .ok (.aload_n 0, 1) := by decide +kernel
theorem dX6_found_65 : decode cX6_found 65 = .ok (.getfield 10, 3) := by decide +kernel
theorem dX6_found_68 : decode cX6_found 68 = .ok (.getfield 50, 3) := by decide +kernel
theorem dX6_found_71 : decode cX6_found 71 = .ok (.iastore, 1) := by decide +kernel
theorem dX6_found_72 : decode cX6_found 72 = .ok (.aload_n 0, 1) := by decide +kernel
theorem dX6_found_73 : decode cX6_found 73 = .ok (.getfield 10, 3) := by decide +kernel
theorem dX6_found_76 : decode cX6_found 76 = .ok (.iconst 0, 1) := by decide +kernel
theorem dX6_found_77 : decode cX6_found 77 = .ok (.putfield 50, 3) := by decide +kernel
theorem dX6_found_80 : decode cX6_found 80 = .ok (.aload_n 0, 1) := by decide +kernel
theorem dX6_found_81 : decode cX6_found 81 = .ok (.getfield 19, 3) := by decide +kernel
theorem dX6_found_84 : decode cX6_found 84 = .ok (.getfield 91, 3) := by decide +kernel
theorem dX6_found_87 : decode cX6_found 87 = .ok (.invokevirtual 187, 3) := by decide +kernel
theorem dX6_found_90 : decode cX6_found 90 = .ok (.ireturn, 1) := by decide +kernel
theorem dX6_forget_0 : decode cX6_forget 0 = .ok (.aload_n 0, 1) := by decide +kernel
theorem dX6_forget_1 : decode cX6_forget 1 = .ok (.getfield 19, 3) := by decide +kernel
theorem dX6_forget_4 : decode cX6_forget 4 = .ok (.getfield 91, 3) := by decide +kernel
theorem dX6_forget_7 : decode cX6_forget 7 = .ok (.invokevirtual 187, 3) := by decide +kernel
theorem dX6_forget_10 : decode cX6_forget 10 = .ok (.istore_n 1, 1) := by decide +kernel
theorem dX6_forget_11 : decode cX6_forget 11 = .ok (.aload_n 0, 1) := by decide +kernel
theorem dX6_forget_12 : decode cX6_forget 12 = .ok (.getfield 19, 3) := by decide +kernel
theorem dX6_forget_15 : decode cX6_forget 15 = .ok (.getfield 91, 3) := by decide +kernel
theorem dX6_forget_18 : decode cX6_forget 18 = .ok (.invokevirtual 95, 3) := by decide +kernel
theorem dX6_forget_21 : decode cX6_forget 21 = .ok (.iload_n 1, 1) := by decide +kernel
theorem dX6_forget_22 : decode cX6_forget 22 = .ok (.ireturn, 1) := by decide +kernel
theorem dX6_kindOf_0 : decode cX6_kindOf 0 = .ok (.aload_n 0, 1) := by decide +kernel
theorem dX6_kindOf_1 : decode cX6_kindOf 1 = .ok (.iload_n 1, 1) := by decide +kernel
theorem dX6_kindOf_2 : decode cX6_kindOf 2 = .ok (.invokevirtual 109, 3) := by decide +kernel
theorem dX6_kindOf_5 : decode cX6_kindOf 5 = .ok (.ifCond .ne 6, 3) := by decide +kernel
theorem dX6_kindOf_8 : decode cX6_kindOf 8 = .ok (.bipush (-101), 2) := by decide +kernel
theorem dX6_kindOf_10 : decode cX6_kindOf 10 = .ok (.ireturn, 1) := by decide +kernel
theorem dX6_kindOf_11 : decode cX6_kindOf 11 = .ok (.iconst 0, 1) := by decide +kernel
theorem dX6_kindOf_12 : decode cX6_kindOf 12 = .ok (.istore_n 2, 1) := by decide +kernel
theorem dX6_kindOf_13 : decode cX6_kindOf 13 = .ok (.iconst 0, 1) := by decide +kernel
theorem dX6_kindOf_14 : decode cX6_kindOf 14 = .ok (.istore_n 3, 1) := by decide +kernel
theorem dX6_kindOf_15 : decode cX6_kindOf 15 = .ok (.iload_n 3, 1) := by decide +kernel
theorem dX6_kindOf_16 : decode cX6_kindOf 16 = .ok (.iconst 5, 1) := by decide +kernel
theorem dX6_kindOf_17 : decode cX6_kindOf 17 = .ok (.if_icmp .ge 72, 3) := by decide +kernel
theorem dX6_kindOf_20 : decode cX6_kindOf 20 = .ok (.aload_n 0, 1) := by decide +kernel
theorem dX6_kindOf_21 : decode cX6_kindOf 21 = .ok (.getfield 29, 3) := by decide +kernel
theorem dX6_kindOf_24 : decode cX6_kindOf 24 = .ok (.aload_n 0, 1) := by decide +kernel
theorem dX6_kindOf_25 : decode cX6_kindOf 25 = .ok (.getfield 19, 3) := by decide +kernel
theorem dX6_kindOf_28 : decode cX6_kindOf 28 = .ok (.getfield 65, 3) := by decide +kernel
theorem dX6_kindOf_31 : decode cX6_kindOf 31 = .ok (.invokevirtual 170, 3) := by decide +kernel
theorem dX6_kindOf_34 : decode cX6_kindOf 34 = .ok (.aload_n 0, 1) := by decide +kernel
theorem dX6_kindOf_35 : decode cX6_kindOf 35 = .ok (.getfield 29, 3) := by decide +kernel
theorem dX6_kindOf_38 : decode cX6_kindOf 38 = .ok (.getfield 68, 3) := by decide +kernel
theorem dX6_kindOf_41 : decode cX6_kindOf 41 = .ok (.iload_n 1, 1) := by decide +kernel
theorem dX6_kindOf_42 : decode cX6_kindOf 42 = .ok (.iload_n 3, 1) := by decide +kernel
theorem dX6_kindOf_43 : decode cX6_kindOf 43 = .ok (.iastore, 1) := by decide +kernel
theorem dX6_kindOf_44 : decode cX6_kindOf 44 = .ok (.aload_n 0, 1) := by decide +kernel
theorem dX6_kindOf_45 : decode cX6_kindOf 45 = .ok (.getfield 29, 3) := by decide +kernel
theorem dX6_kindOf_48 : decode cX6_kindOf 48 = .ok (.aload_n 0, 1) := by decide +kernel
theorem dX6_kindOf_49 : decode cX6_kindOf 49 = .ok (.getfield 19, 3) := by decide +kernel
theorem dX6_kindOf_52 : decode cX6_kindOf 52 = .ok (.getfield 84, 3) := by decide +kernel
theorem dX6_kindOf_55 : decode cX6_kindOf 55 = .ok (.iconst (-1), 1) := by decide +kernel
theorem dX6_kindOf_56 : decode cX6_kindOf 56 = .ok (.iconst 0, 1) := by decide +kernel
theorem dX6_kindOf_57 : decode cX6_kindOf 57 = .ok (.invokevirtual 174, 3) := by decide +kernel
theorem dX6_kindOf_60 : decode cX6_kindOf 60 = .ok (.aload_n 0, 1) := by decide +kernel
theorem dX6_kindOf_61 : decode cX6_kindOf 61 = .ok (.getfield 19, 3) := by decide +kernel
theorem dX6_kindOf_64 : decode cX6_kindOf 64 = .ok (.getfield 91, 3) := by decide +kernel
theorem dX6_kindOf_67 : decode cX6_kindOf 67 = .ok (.aload_n 0, 1) := by decide +kernel
theorem dX6_kindOf_68 : decode cX6_kindOf 68 = .ok (.getfield 29, 3) := by decide +kernel
theorem dX6_kindOf_71 : decode cX6_kindOf 71 = .ok (.invokevirtual 190, 3) := by decide +kernel
theorem dX6_kindOf_74 : decode cX6_kindOf 74 = .ok (.ifCond .eq 9, 3) := by decide +kernel
theorem dX6_kindOf_77 : decode cX6_kindOf 77 = .ok (.iload_n 2, 1) := by decide +kernel
theorem dX6_kindOf_78 : decode cX6_kindOf 78 = .ok (.iconst 1, 1) := by decide +kernel
theorem dX6_kindOf_79 : decode cX6_kindOf 79 = .ok (.iload_n 3, 1) := by decide +kernel
theorem dX6_kindOf_80 : decode cX6_kindOf 80 = .ok (.ishl, 1) := by decide +kernel
theorem dX6_kindOf_81 : decode cX6_kindOf 81 = .ok (.ior, 1) := by decide +kernel
theorem dX6_kindOf_82 : decode cX6_kindOf 82 = .ok (.istore_n 2, 1) := by decide +kernel
theorem dX6_kindOf_83 : decode cX6_kindOf 83 = .ok (.iinc 3 1, 3) := by decide +kernel
theorem dX6_kindOf_86 : decode cX6_kindOf 86 = .ok (.goto (-71), 3) := by decide +kernel
theorem dX6_kindOf_89 : decode cX6_kindOf 89 = .ok (.iload_n 2, 1) := by decide +kernel
theorem dX6_kindOf_90 : decode cX6_kindOf 90 = .ok (.ireturn, 1) := by decide +kernel
theorem dX6_letterOf_0 : decode cX6_letterOf 0 = .ok (.aload_n 0, 1) := by decide +kernel
theorem dX6_letterOf_1 : decode cX6_letterOf 1 = .ok (.iload_n 1, 1) := by decide +kernel
theorem dX6_letterOf_2 : decode cX6_letterOf 2 = .ok (.invokevirtual 139, 3) := by decide +kernel
theorem dX6_letterOf_5 : decode cX6_letterOf 5 = .ok (.ifCond .ne 6, 3) := by decide +kernel
theorem dX6_letterOf_8 : decode cX6_letterOf 8 = .ok (.bipush (-101), 2) := by decide +kernel
theorem dX6_letterOf_10 : decode cX6_letterOf 10 = .ok (.ireturn, 1) := by decide +kernel
theorem dX6_letterOf_11 : decode cX6_letterOf 11 = .ok (.iconst 0, 1) := by decide +kernel
theorem dX6_letterOf_12 : decode cX6_letterOf 12 = .ok (.istore_n 2, 1) := by decide +kernel
theorem dX6_letterOf_13 : decode cX6_letterOf 13 = .ok (.iconst 0, 1) := by decide +kernel
theorem dX6_letterOf_14 : decode cX6_letterOf 14 = .ok (.istore_n 3, 1) := by decide +kernel
theorem dX6_letterOf_15 : decode cX6_letterOf 15 = .ok (.iload_n 3, 1) := by decide +kernel
theorem dX6_letterOf_16 : decode cX6_letterOf 16 = .ok (.iconst 5, 1) := by decide +kernel
theorem dX6_letterOf_17 : decode cX6_letterOf 17 = .ok (.if_icmp .ge 62, 3) := by decide +kernel
theorem dX6_letterOf_20 : decode cX6_letterOf 20 = .ok (.aload_n 0, 1) := by decide +kernel
theorem dX6_letterOf_21 : decode cX6_letterOf 21 = .ok (.getfield 29, 3) := by decide +kernel
theorem dX6_letterOf_24 : decode cX6_letterOf 24 = .ok (.aload_n 0, 1) := by decide +kernel
theorem dX6_letterOf_25 : decode cX6_letterOf 25 = .ok (.getfield 19, 3) := by decide +kernel
theorem dX6_letterOf_28 : decode cX6_letterOf 28 = .ok (.getfield 65, 3) := by decide +kernel
theorem dX6_letterOf_31 : decode cX6_letterOf 31 = .ok (.invokevirtual 170, 3) := by decide +kernel
theorem dX6_letterOf_34 : decode cX6_letterOf 34 = .ok (.aload_n 0, 1) := by decide +kernel
theorem dX6_letterOf_35 : decode cX6_letterOf 35 = .ok (.getfield 29, 3) := by decide +kernel
theorem dX6_letterOf_38 : decode cX6_letterOf 38 = .ok (.aload_n 0, 1) := by decide +kernel
theorem dX6_letterOf_39 : decode cX6_letterOf 39 = .ok (.getfield 19, 3) := by decide +kernel
theorem dX6_letterOf_42 : decode cX6_letterOf 42 = .ok (.getfield 84, 3) := by decide +kernel
theorem dX6_letterOf_45 : decode cX6_letterOf 45 = .ok (.iload_n 1, 1) := by decide +kernel
theorem dX6_letterOf_46 : decode cX6_letterOf 46 = .ok (.iload_n 3, 1) := by decide +kernel
theorem dX6_letterOf_47 : decode cX6_letterOf 47 = .ok (.invokevirtual 174, 3) := by decide +kernel
theorem dX6_letterOf_50 : decode cX6_letterOf 50 = .ok (.aload_n 0, 1) := by decide +kernel
theorem dX6_letterOf_51 : decode cX6_letterOf 51 = .ok (.getfield 19, 3) := by decide +kernel
theorem dX6_letterOf_54 : decode cX6_letterOf 54 = .ok (.getfield 91, 3) := by decide +kernel
theorem dX6_letterOf_57 : decode cX6_letterOf 57 = .ok (.aload_n 0, 1) := by decide +kernel
theorem dX6_letterOf_58 : decode cX6_letterOf 58 = .ok (.getfield 29, 3) := by decide +kernel
theorem dX6_letterOf_61 : decode cX6_letterOf 61 = .ok (.invokevirtual 190, 3) := by decide +kernel
theorem dX6_letterOf_64 : decode cX6_letterOf 64 = .ok (.ifCond .eq 9, 3) := by decide +kernel
theorem dX6_letterOf_67 : decode cX6_letterOf 67 = .ok (.iload_n 2, 1) := by decide +kernel
theorem dX6_letterOf_68 : decode cX6_letterOf 68 = .ok (.iconst 1, 1) := by decide +kernel
theorem dX6_letterOf_69 : decode cX6_letterOf 69 = .ok (.iload_n 3, 1) := by decide +kernel
theorem dX6_letterOf_70 : decode cX6_letterOf 70 = .ok (.ishl, 1) := by decide +kernel
theorem dX6_letterOf_71 : decode cX6_letterOf 71 = .ok (.ior, 1) := by decide +kernel
theorem dX6_letterOf_72 : decode cX6_letterOf 72 = .ok (.istore_n 2, 1) := by decide +kernel
theorem dX6_letterOf_73 : decode cX6_letterOf 73 = .ok (.iinc 3 1, 3) := by decide +kernel
theorem dX6_letterOf_76 : decode cX6_letterOf 76 = .ok (.goto (-61), 3) := by decide +kernel
theorem dX6_letterOf_79 : decode cX6_letterOf 79 = .ok (.iload_n 2, 1) := by decide +kernel
theorem dX6_letterOf_80 : decode cX6_letterOf 80 = .ok (.ireturn, 1) := by decide +kernel
theorem dX6_mornings_0 : decode cX6_mornings 0 = .ok (.iload_n 1, 1) := by decide +kernel
theorem dX6_mornings_1 : decode cX6_mornings 1 = .ok (.iconst 1, 1) := by decide +kernel
theorem dX6_mornings_2 : decode cX6_mornings 2 = .ok (.if_icmp .lt 22, 3) := by decide +kernel
theorem dX6_mornings_5 : decode cX6_mornings 5 = .ok (.iload_n 1, 1) := by decide +kernel
theorem dX6_mornings_6 : decode cX6_mornings 6 = .ok (.bipush 40, 2) := by decide +kernel
theorem dX6_mornings_8 : decode cX6_mornings 8 = .ok (.if_icmp .gt 16, 3) := by decide +kernel
theorem dX6_mornings_11 : decode cX6_mornings 11 = .ok (.iload_n 2, 1) := by decide +kernel
theorem dX6_mornings_12 : decode cX6_mornings 12 = .ok (.ifCond .lt 12, 3) := by decide +kernel
theorem dX6_mornings_15 : decode cX6_mornings 15 = .ok (.iload_n 3, 1) := by decide +kernel
theorem dX6_mornings_16 : decode cX6_mornings 16 = .ok (.ifCond .eq 11, 3) := by decide +kernel
theorem dX6_mornings_19 : decode cX6_mornings 19 = .ok (.iload_n 3, 1) := by decide +kernel
theorem dX6_mornings_20 : decode cX6_mornings 20 = .ok (.iconst 1, 1) := by decide +kernel
theorem dX6_mornings_21 : decode cX6_mornings 21 = .ok (.if_icmp .eq 6, 3) := by decide +kernel
theorem dX6_mornings_24 : decode cX6_mornings 24 = .ok (.bipush (-102), 2) := by decide +kernel
theorem dX6_mornings_26 : decode cX6_mornings 26 = .ok (.ireturn, 1) := by decide +kernel
theorem dX6_mornings_27 : decode cX6_mornings 27 = .ok (.aload_n 0, 1) := by decide +kernel
theorem dX6_mornings_28 : decode cX6_mornings 28 = .ok (.invokevirtual 148, 3) := by decide +kernel
theorem dX6_mornings_31 : decode cX6_mornings 31 = .ok (.ifCond .ne 6, 3) := by decide +kernel
theorem dX6_mornings_34 : decode cX6_mornings 34 = .ok (.bipush (-103), 2) := by decide +kernel
theorem dX6_mornings_36 : decode cX6_mornings 36 = .ok (.ireturn, 1) := by decide +kernel
theorem dX6_mornings_37 : decode cX6_mornings 37 = .ok (.iconst 0, 1) := by decide +kernel
theorem dX6_mornings_38 : decode cX6_mornings 38 = .ok (.istore 4, 2) := by decide +kernel
theorem dX6_mornings_40 : decode cX6_mornings 40 = .ok (.iload_n 2, 1) := by decide +kernel
theorem dX6_mornings_41 : decode cX6_mornings 41 = .ok (.istore 5, 2) := by decide +kernel
theorem dX6_mornings_43 : decode cX6_mornings 43 = .ok (.iconst 0, 1) := by decide +kernel
theorem dX6_mornings_44 : decode cX6_mornings 44 = .ok (.istore 6, 2) := by decide +kernel
theorem dX6_mornings_46 : decode cX6_mornings 46 = .ok (.iload 6, 2) := by decide +kernel
theorem dX6_mornings_48 : decode cX6_mornings 48 = .ok (.iload_n 1, 1) := by decide +kernel
theorem dX6_mornings_49 : decode cX6_mornings 49 = .ok (.if_icmp .ge 91, 3) := by decide +kernel
theorem dX6_mornings_52 : decode cX6_mornings 52 = .ok (.aload_n 0, 1) := by decide +kernel
theorem dX6_mornings_53 : decode cX6_mornings 53 = .ok (.getfield 29, 3) := by decide +kernel
theorem dX6_mornings_56 : decode cX6_mornings 56 = .ok (.aload_n 0, 1) := by decide +kernel
theorem dX6_mornings_57 : decode cX6_mornings 57 = .ok (.getfield 19, 3) := by decide +kernel
theorem dX6_mornings_60 : decode cX6_mornings 60 = .ok (.getfield 65, 3) := by decide +kernel
theorem dX6_mornings_63 : decode cX6_mornings 63 = .ok (.invokevirtual 170, 3) := by decide +kernel
theorem dX6_mornings_66 : decode cX6_mornings 66 = .ok (.iconst 0, 1) := by decide +kernel
theorem dX6_mornings_67 : decode cX6_mornings 67 = .ok (.istore 7, 2) := by decide +kernel
theorem dX6_mornings_69 : decode cX6_mornings 69 = .ok (.iload 7, 2) := by decide +kernel
theorem dX6_mornings_71 : decode cX6_mornings 71 = .ok (.iconst 5, 1) := by decide +kernel
theorem dX6_mornings_72 : decode cX6_mornings 72 = .ok (.if_icmp .ge 50, 3) := by decide +kernel
theorem dX6_mornings_75 : decode cX6_mornings 75 = .ok (.iload 5, 2) := by decide +kernel
theorem dX6_mornings_77 : decode cX6_mornings 77 = .ok (.invokestatic 194, 3) := by decide +kernel
theorem dX6_mornings_80 : decode cX6_mornings 80 = .ok (.istore 5, 2) := by decide +kernel
theorem dX6_mornings_82 : decode cX6_mornings 82 = .ok (.iload 5, 2) := by decide +kernel
theorem dX6_mornings_84 : decode cX6_mornings 84 = .ok (.bipush 16, 2) := by decide +kernel
theorem dX6_mornings_86 : decode cX6_mornings 86 = .ok (.ishr, 1) := by decide +kernel
theorem dX6_mornings_87 : decode cX6_mornings 87 = .ok (.bipush 6, 2) := by decide +kernel
theorem dX6_mornings_89 : decode cX6_mornings 89 = .ok (.irem, 1) := by decide +kernel
theorem dX6_mornings_90 : decode cX6_mornings 90 = .ok (.istore 8, 2) := by decide +kernel
theorem dX6_mornings_92 : decode cX6_mornings 92 = .ok (.iload 5, 2) := by decide +kernel
theorem dX6_mornings_94 : decode cX6_mornings 94 = .ok (.invokestatic 194, 3) := by decide +kernel
theorem dX6_mornings_97 : decode cX6_mornings 97 = .ok (.istore 5, 2) := by decide +kernel
theorem dX6_mornings_99 : decode cX6_mornings 99 = .ok (.aload_n 0, 1) := by decide +kernel
theorem dX6_mornings_100 : decode cX6_mornings 100 = .ok (.getfield 29, 3) := by decide +kernel
theorem dX6_mornings_103 : decode cX6_mornings 103 = .ok (.iload 8, 2) := by decide +kernel
theorem dX6_mornings_105 : decode cX6_mornings 105 = .ok (.iload 5, 2) := by decide +kernel
theorem dX6_mornings_107 : decode cX6_mornings 107 = .ok (.bipush 16, 2) := by decide +kernel
theorem dX6_mornings_109 : decode cX6_mornings 109 = .ok (.ishr, 1) := by decide +kernel
theorem dX6_mornings_110 : decode cX6_mornings 110 = .ok (.iconst 5, 1) := by decide +kernel
theorem dX6_mornings_111 : decode cX6_mornings 111 = .ok (.irem, 1) := by decide +kernel
theorem dX6_mornings_112 : decode cX6_mornings 112 = .ok (.invokevirtual 136, 3) := by decide +kernel
theorem dX6_mornings_115 : decode cX6_mornings 115 = .ok (.pop, 1) := by decide +kernel
theorem dX6_mornings_116 : decode cX6_mornings 116 = .ok (.iinc 7 1, 3) := by decide +kernel
theorem dX6_mornings_119 : decode cX6_mornings 119 = .ok (.goto (-50), 3) := by decide +kernel
theorem dX6_mornings_122 : decode cX6_mornings 122 = .ok (.iload 4, 2) := by decide +kernel
theorem dX6_mornings_124 : decode cX6_mornings 124 = .ok (.aload_n 0, 1) := by decide +kernel
theorem dX6_mornings_125 : decode cX6_mornings 125 = .ok (.getfield 29, 3) := by decide +kernel
theorem dX6_mornings_128 : decode cX6_mornings 128 = .ok (.invokevirtual 178, 3) := by decide +kernel
theorem dX6_mornings_131 : decode cX6_mornings 131 = .ok (.iadd, 1) := by decide +kernel
theorem dX6_mornings_132 : decode cX6_mornings 132 = .ok (.istore 4, 2) := by decide +kernel
theorem dX6_mornings_134 : decode cX6_mornings 134 = .ok (.iinc 6 1, 3) := by decide +kernel
theorem dX6_mornings_137 : decode cX6_mornings 137 = .ok (.goto (-91), 3) := by decide +kernel
theorem dX6_mornings_140 : decode cX6_mornings 140 = .ok (.iload_n 3, 1) := by decide +kernel
theorem dX6_mornings_141 : decode cX6_mornings 141 = .ok (.ifCond .ne 8, 3) := by decide +kernel
theorem dX6_mornings_144 : decode cX6_mornings 144 = .ok (.iload 4, 2) := by decide +kernel
theorem dX6_mornings_146 : decode cX6_mornings 146 = .ok (.goto 5, 3) := by decide +kernel
theorem dX6_mornings_149 : decode cX6_mornings 149 = .ok (.iload 5, 2) := by decide +kernel
theorem dX6_mornings_151 : decode cX6_mornings 151 = .ok (.ireturn, 1) := by decide +kernel
theorem dX6_image_0 : decode cX6_image 0 = .ok (.aload_n 0, 1) := by decide +kernel
theorem dX6_image_1 : decode cX6_image 1 = .ok (.invokevirtual 148, 3) := by decide +kernel
theorem dX6_image_4 : decode cX6_image 4 = .ok (.ifCond .ne 6, 3) := by decide +kernel
theorem dX6_image_7 : decode cX6_image 7 = .ok (.bipush (-103), 2) := by decide +kernel
theorem dX6_image_9 : decode cX6_image 9 = .ok (.ireturn, 1) := by decide +kernel
theorem dX6_image_10 : decode cX6_image 10 = .ok (.aload_n 0, 1) := by decide +kernel
theorem dX6_image_11 : decode cX6_image 11 = .ok (.getfield 23, 3) := by decide +kernel
theorem dX6_image_14 : decode cX6_image 14 = .ok (.aload_n 0, 1) := by decide +kernel
theorem dX6_image_15 : decode cX6_image 15 = .ok (.getfield 19, 3) := by decide +kernel
theorem dX6_image_18 : decode cX6_image 18 = .ok (.invokevirtual 197, 3) := by decide +kernel
theorem dX6_image_21 : decode cX6_image 21 = .ok (.aload_n 0, 1) := by decide +kernel
theorem dX6_image_22 : decode cX6_image 22 = .ok (.iconst 1, 1) := by decide +kernel
theorem dX6_image_23 : decode cX6_image 23 = .ok (.putfield 98, 3) := by decide +kernel
theorem dX6_image_26 : decode cX6_image 26 = .ok (.aload_n 0, 1) := by decide +kernel
theorem dX6_image_27 : decode cX6_image 27 = .ok (.getfield 19, 3) := by decide +kernel
theorem dX6_image_30 : decode cX6_image 30 = .ok (.getfield 84, 3) := by decide +kernel
theorem dX6_image_33 : decode cX6_image 33 = .ok (.getfield 88, 3) := by decide +kernel
theorem dX6_image_36 : decode cX6_image 36 = .ok (.ireturn, 1) := by decide +kernel
theorem dX6_restore_0 : decode cX6_restore 0 = .ok (.aload_n 0, 1) := by decide +kernel
theorem dX6_restore_1 : decode cX6_restore 1 = .ok (.getfield 98, 3) := by decide +kernel
theorem dX6_restore_4 : decode cX6_restore 4 = .ok (.ifCond .ne 6, 3) := by decide +kernel
theorem dX6_restore_7 : decode cX6_restore 7 = .ok (.bipush (-103), 2) := by decide +kernel
theorem dX6_restore_9 : decode cX6_restore 9 = .ok (.ireturn, 1) := by decide +kernel
theorem dX6_restore_10 : decode cX6_restore 10 = .ok (.aload_n 0, 1) := by decide +kernel
theorem dX6_restore_11 : decode cX6_restore 11 = .ok (.getfield 19, 3) := by decide +kernel
theorem dX6_restore_14 : decode cX6_restore 14 = .ok (.aload_n 0, 1) := by decide +kernel
theorem dX6_restore_15 : decode cX6_restore 15 = .ok (.getfield 23, 3) := by decide +kernel
theorem dX6_restore_18 : decode cX6_restore 18 = .ok (.invokevirtual 197, 3) := by decide +kernel
theorem dX6_restore_21 : decode cX6_restore 21 = .ok (.aload_n 0, 1) := by decide +kernel
theorem dX6_restore_22 : decode cX6_restore 22 = .ok (.getfield 19, 3) := by decide +kernel
theorem dX6_restore_25 : decode cX6_restore 25 = .ok (.getfield 84, 3) := by decide +kernel
theorem dX6_restore_28 : decode cX6_restore 28 = .ok (.getfield 88, 3) := by decide +kernel
theorem dX6_restore_31 : decode cX6_restore 31 = .ok (.ireturn, 1) := by decide +kernel
theorem dX6_count_0 : decode cX6_count 0 = .ok (.iload_n 1, 1) := by decide +kernel
theorem dX6_count_1 : decode cX6_count 1 = .ok (.tableswitch 173 0 10 #[59, 73, 95, 106, 117, 128, 139, 150, 158, 163, 168], 59) := by decide +kernel
theorem dX6_count_60 : decode cX6_count 60 = .ok (.aload_n 0, 1) := by decide +kernel
theorem dX6_count_61 : decode cX6_count 61 = .ok (.invokevirtual 148, 3) := by decide +kernel
theorem dX6_count_64 : decode cX6_count 64 = .ok (.ifCond .eq 8, 3) := by decide +kernel
theorem dX6_count_67 : decode cX6_count 67 = .ok (.bipush 6, 2) := by decide +kernel
theorem dX6_count_69 : decode cX6_count 69 = .ok (.goto 4, 3) := by decide +kernel
theorem dX6_count_72 : decode cX6_count 72 = .ok (.iconst 0, 1) := by decide +kernel
theorem dX6_count_73 : decode cX6_count 73 = .ok (.ireturn, 1) := by decide +kernel
theorem dX6_count_74 : decode cX6_count 74 = .ok (.aload_n 0, 1) := by decide +kernel
theorem dX6_count_75 : decode cX6_count 75 = .ok (.invokevirtual 148, 3) := by decide +kernel
theorem dX6_count_78 : decode cX6_count 78 = .ok (.ifCond .eq 16, 3) := by decide +kernel
theorem dX6_count_81 : decode cX6_count 81 = .ok (.aload_n 0, 1) := by decide +kernel
theorem dX6_count_82 : decode cX6_count 82 = .ok (.getfield 19, 3) := by decide +kernel
theorem dX6_count_85 : decode cX6_count 85 = .ok (.getfield 65, 3) := by decide +kernel
theorem dX6_count_88 : decode cX6_count 88 = .ok (.invokevirtual 105, 3) := by decide +kernel
theorem dX6_count_91 : decode cX6_count 91 = .ok (.goto 4, 3) := by decide +kernel
theorem dX6_count_94 : decode cX6_count 94 = .ok (.iconst 0, 1) := by decide +kernel
theorem dX6_count_95 : decode cX6_count 95 = .ok (.ireturn, 1) := by decide +kernel
theorem dX6_count_96 : decode cX6_count 96 = .ok (.aload_n 0, 1) := by decide +kernel
theorem dX6_count_97 : decode cX6_count 97 = .ok (.getfield 19, 3) := by decide +kernel
theorem dX6_count_100 : decode cX6_count 100 = .ok (.getfield 84, 3) := by decide +kernel
theorem dX6_count_103 : decode cX6_count 103 = .ok (.getfield 88, 3) := by decide +kernel
theorem dX6_count_106 : decode cX6_count 106 = .ok (.ireturn, 1) := by decide +kernel
theorem dX6_count_107 : decode cX6_count 107 = .ok (.aload_n 0, 1) := by decide +kernel
theorem dX6_count_108 : decode cX6_count 108 = .ok (.getfield 19, 3) := by decide +kernel
theorem dX6_count_111 : decode cX6_count 111 = .ok (.getfield 65, 3) := by decide +kernel
theorem dX6_count_114 : decode cX6_count 114 = .ok (.invokevirtual 178, 3) := by decide +kernel
theorem dX6_count_117 : decode cX6_count 117 = .ok (.ireturn, 1) := by decide +kernel
theorem dX6_count_118 : decode cX6_count 118 = .ok (.aload_n 0, 1) := by decide +kernel
theorem dX6_count_119 : decode cX6_count 119 = .ok (.getfield 19, 3) := by decide +kernel
theorem dX6_count_122 : decode cX6_count 122 = .ok (.getfield 65, 3) := by decide +kernel
theorem dX6_count_125 : decode cX6_count 125 = .ok (.invokevirtual 201, 3) := by decide +kernel
theorem dX6_count_128 : decode cX6_count 128 = .ok (.ireturn, 1) := by decide +kernel
theorem dX6_count_129 : decode cX6_count 129 = .ok (.aload_n 0, 1) := by decide +kernel
theorem dX6_count_130 : decode cX6_count 130 = .ok (.getfield 19, 3) := by decide +kernel
theorem dX6_count_133 : decode cX6_count 133 = .ok (.getfield 65, 3) := by decide +kernel
theorem dX6_count_136 : decode cX6_count 136 = .ok (.invokevirtual 204, 3) := by decide +kernel
theorem dX6_count_139 : decode cX6_count 139 = .ok (.ireturn, 1) := by decide +kernel
theorem dX6_count_140 : decode cX6_count 140 = .ok (.aload_n 0, 1) := by decide +kernel
theorem dX6_count_141 : decode cX6_count 141 = .ok (.getfield 19, 3) := by decide +kernel
theorem dX6_count_144 : decode cX6_count 144 = .ok (.getfield 91, 3) := by decide +kernel
theorem dX6_count_147 : decode cX6_count 147 = .ok (.invokevirtual 187, 3) := by decide +kernel
theorem dX6_count_150 : decode cX6_count 150 = .ok (.ireturn, 1) := by decide +kernel
theorem dX6_count_151 : decode cX6_count 151 = .ok (.aload_n 0, 1) := by decide +kernel
theorem dX6_count_152 : decode cX6_count 152 = .ok (.getfield 10, 3) := by decide +kernel
theorem dX6_count_155 : decode cX6_count 155 = .ok (.getfield 50, 3) := by decide +kernel
theorem dX6_count_158 : decode cX6_count 158 = .ok (.ireturn, 1) := by decide +kernel
theorem dX6_count_159 : decode cX6_count 159 = .ok (.aload_n 0, 1) := by decide +kernel
theorem dX6_count_160 : decode cX6_count 160 = .ok (.getfield 102, 3) := by decide +kernel
theorem dX6_count_163 : decode cX6_count 163 = .ok (.ireturn, 1) := by decide +kernel
theorem dX6_count_164 : decode cX6_count 164 = .ok (.aload_n 0, 1) := by decide +kernel
theorem dX6_count_165 : decode cX6_count 165 = .ok (.getfield 154, 3) := by decide +kernel
theorem dX6_count_168 : decode cX6_count 168 = .ok (.ireturn, 1) := by decide +kernel
theorem dX6_count_169 : decode cX6_count 169 = .ok (.aload_n 0, 1) := by decide +kernel
theorem dX6_count_170 : decode cX6_count 170 = .ok (.getfield 164, 3) := by decide +kernel
theorem dX6_count_173 : decode cX6_count 173 = .ok (.ireturn, 1) := by decide +kernel
theorem dX6_count_174 : decode cX6_count 174 = .ok (.bipush (-102), 2) := by decide +kernel
theorem dX6_count_176 : decode cX6_count 176 = .ok (.ireturn, 1) := by decide +kernel
theorem dX6_digest_0 : decode cX6_digest 0 = .ok (.ldc2_w 207, 3) := by decide +kernel
theorem dX6_digest_3 : decode cX6_digest 3 = .ok (.lstore_n 1, 1) := by decide +kernel
theorem dX6_digest_4 : decode cX6_digest 4 = .ok (.aload_n 0, 1) := by decide +kernel
theorem dX6_digest_5 : decode cX6_digest 5 = .ok (.invokevirtual 148, 3) := by decide +kernel
theorem dX6_digest_8 : decode cX6_digest 8 = .ok (.ifCond .eq 15, 3) := by decide +kernel
theorem dX6_digest_11 : decode cX6_digest 11 = .ok (.aload_n 0, 1) := by decide +kernel
theorem dX6_digest_12 : decode cX6_digest 12 = .ok (.lload_n 1, 1) := by decide +kernel
theorem dX6_digest_13 : decode cX6_digest 13 = .ok (.invokevirtual 209, 3) := by decide +kernel
theorem dX6_digest_16 : decode cX6_digest 16 = .ok (.lstore_n 1, 1) := by decide +kernel
theorem dX6_digest_17 : decode cX6_digest 17 = .ok (.aload_n 0, 1) := by decide +kernel
theorem dX6_digest_18 : decode cX6_digest 18 = .ok (.lload_n 1, 1) := by decide +kernel
theorem dX6_digest_19 : decode cX6_digest 19 = .ok (.invokevirtual 213, 3) := by decide +kernel
theorem dX6_digest_22 : decode cX6_digest 22 = .ok (.lstore_n 1, 1) := by decide +kernel
theorem dX6_digest_23 : decode cX6_digest 23 = .ok (.iconst 0, 1) := by decide +kernel
theorem dX6_digest_24 : decode cX6_digest 24 = .ok (.istore_n 3, 1) := by decide +kernel
theorem dX6_digest_25 : decode cX6_digest 25 = .ok (.iload_n 3, 1) := by decide +kernel
theorem dX6_digest_26 : decode cX6_digest 26 = .ok (.aload_n 0, 1) := by decide +kernel
theorem dX6_digest_27 : decode cX6_digest 27 = .ok (.getfield 10, 3) := by decide +kernel
theorem dX6_digest_30 : decode cX6_digest 30 = .ok (.getfield 50, 3) := by decide +kernel
theorem dX6_digest_33 : decode cX6_digest 33 = .ok (.if_icmp .ge 24, 3) := by decide +kernel
theorem dX6_digest_36 : decode cX6_digest 36 = .ok (.lload_n 1, 1) := by decide +kernel
theorem dX6_digest_37 : decode cX6_digest 37 = .ok (.aload_n 0, 1) := by decide +kernel
theorem dX6_digest_38 : decode cX6_digest 38 = .ok (.getfield 10, 3) := by decide +kernel
theorem dX6_digest_41 : decode cX6_digest 41 = .ok (.getfield 54, 3) := by decide +kernel
theorem dX6_digest_44 : decode cX6_digest 44 = .ok (.iload_n 3, 1) := by decide +kernel
theorem dX6_digest_45 : decode cX6_digest 45 = .ok (.iaload, 1) := by decide +kernel
theorem dX6_digest_46 : decode cX6_digest 46 = .ok (.i2l, 1) := by decide +kernel
theorem dX6_digest_47 : decode cX6_digest 47 = .ok (.invokestatic 216, 3) := by decide +kernel
theorem dX6_digest_50 : decode cX6_digest 50 = .ok (.lstore_n 1, 1) := by decide +kernel
theorem dX6_digest_51 : decode cX6_digest 51 = .ok (.iinc 3 1, 3) := by decide +kernel
theorem dX6_digest_54 : decode cX6_digest 54 = .ok (.goto (-29), 3) := by decide +kernel
theorem dX6_digest_57 : decode cX6_digest 57 = .ok (.iconst 0, 1) := by decide +kernel
theorem dX6_digest_58 : decode cX6_digest 58 = .ok (.istore_n 3, 1) := by decide +kernel
theorem dX6_digest_59 : decode cX6_digest 59 = .ok (.iload_n 3, 1) := by decide +kernel
theorem dX6_digest_60 : decode cX6_digest 60 = .ok (.bipush 11, 2) := by decide +kernel
theorem dX6_digest_62 : decode cX6_digest 62 = .ok (.if_icmp .ge 20, 3) := by decide +kernel
theorem dX6_digest_65 : decode cX6_digest 65 = .ok (.lload_n 1, 1) := by decide +kernel
theorem dX6_digest_66 : decode cX6_digest 66 = .ok (.aload_n 0, 1) := by decide +kernel
theorem dX6_digest_67 : decode cX6_digest 67 = .ok (.iload_n 3, 1) := by decide +kernel
theorem dX6_digest_68 : decode cX6_digest 68 = .ok (.invokevirtual 220, 3) := by decide +kernel
theorem dX6_digest_71 : decode cX6_digest 71 = .ok (.i2l, 1) := by decide +kernel
theorem dX6_digest_72 : decode cX6_digest 72 = .ok (.invokestatic 216, 3) := by decide +kernel
theorem dX6_digest_75 : decode cX6_digest 75 = .ok (.lstore_n 1, 1) := by decide +kernel
theorem dX6_digest_76 : decode cX6_digest 76 = .ok (.iinc 3 1, 3) := by decide +kernel
theorem dX6_digest_79 : decode cX6_digest 79 = .ok (.goto (-20), 3) := by decide +kernel
theorem dX6_digest_82 : decode cX6_digest 82 = .ok (.lload_n 1, 1) := by decide +kernel
theorem dX6_digest_83 : decode cX6_digest 83 = .ok (.lreturn, 1) := by decide +kernel
theorem dX6_mixGutters_0 : decode cX6_mixGutters 0 = .ok (.lload_n 1, 1) := by decide +kernel
theorem dX6_mixGutters_1 : decode cX6_mixGutters 1 = .ok (.lstore_n 3, 1) := by decide +kernel
theorem dX6_mixGutters_2 : decode cX6_mixGutters 2 = .ok (.iconst 0, 1) := by decide +kernel
theorem dX6_mixGutters_3 : decode cX6_mixGutters 3 = .ok (.istore 5, 2) := by decide +kernel
theorem dX6_mixGutters_5 : decode cX6_mixGutters 5 = .ok (.iload 5, 2) := by decide +kernel
theorem dX6_mixGutters_7 : decode cX6_mixGutters 7 = .ok (.bipush 6, 2) := by decide +kernel
theorem dX6_mixGutters_9 : decode cX6_mixGutters 9 = .ok (.if_icmp .ge 92, 3) := by decide +kernel
theorem dX6_mixGutters_12 : decode cX6_mixGutters 12 = .ok (.iconst 0, 1) := by decide +kernel
theorem dX6_mixGutters_13 : decode cX6_mixGutters 13 = .ok (.istore 6, 2) := by decide +kernel
theorem dX6_mixGutters_15 : decode cX6_mixGutters 15 = .ok (.iload 6, 2) := by decide +kernel
theorem dX6_mixGutters_17 : decode cX6_mixGutters 17 = .ok (.bipush 6, 2) := by decide +kernel
theorem dX6_mixGutters_19 : decode cX6_mixGutters 19 = .ok (.if_icmp .ge 23, 3) := by decide +kernel
theorem dX6_mixGutters_22 : decode cX6_mixGutters 22 = .ok (.lload_n 3, 1) := by decide +kernel
theorem dX6_mixGutters_23 : decode cX6_mixGutters 23 = .ok (.aload_n 0, 1) := by decide +kernel
theorem dX6_mixGutters_24 : decode cX6_mixGutters 24 = .ok (.iload 5, 2) := by decide +kernel
theorem dX6_mixGutters_26 : decode cX6_mixGutters 26 = .ok (.iload 6, 2) := by decide +kernel
theorem dX6_mixGutters_28 : decode cX6_mixGutters 28 = .ok (.invokevirtual 223, 3) := by decide +kernel
theorem dX6_mixGutters_31 : decode cX6_mixGutters 31 = .ok (.i2l, 1) := by decide +kernel
theorem dX6_mixGutters_32 : decode cX6_mixGutters 32 = .ok (.invokestatic 216, 3) := by decide +kernel
theorem dX6_mixGutters_35 : decode cX6_mixGutters 35 = .ok (.lstore_n 3, 1) := by decide +kernel
theorem dX6_mixGutters_36 : decode cX6_mixGutters 36 = .ok (.iinc 6 1, 3) := by decide +kernel
theorem dX6_mixGutters_39 : decode cX6_mixGutters 39 = .ok (.goto (-24), 3) := by decide +kernel
theorem dX6_mixGutters_42 : decode cX6_mixGutters 42 = .ok (.iconst 0, 1) := by decide +kernel
theorem dX6_mixGutters_43 : decode cX6_mixGutters 43 = .ok (.istore 6, 2) := by decide +kernel
theorem dX6_mixGutters_45 : decode cX6_mixGutters 45 = .ok (.iload 6, 2) := by decide +kernel
theorem dX6_mixGutters_47 : decode cX6_mixGutters 47 = .ok (.aload_n 0, 1) := by decide +kernel
theorem dX6_mixGutters_48 : decode cX6_mixGutters 48 = .ok (.getfield 19, 3) := by decide +kernel
theorem dX6_mixGutters_51 : decode cX6_mixGutters 51 = .ok (.getfield 65, 3) := by decide +kernel
theorem dX6_mixGutters_54 : decode cX6_mixGutters 54 = .ok (.getfield 119, 3) := by decide +kernel
theorem dX6_mixGutters_57 : decode cX6_mixGutters 57 = .ok (.iload 5, 2) := by decide +kernel
theorem dX6_mixGutters_59 : decode cX6_mixGutters 59 = .ok (.iaload, 1) := by decide +kernel
theorem dX6_mixGutters_60 : decode cX6_mixGutters 60 = .ok (.if_icmp .ge 23, 3) := by decide +kernel
theorem dX6_mixGutters_63 : decode cX6_mixGutters 63 = .ok (.lload_n 3, 1) := by decide +kernel
theorem dX6_mixGutters_64 : decode cX6_mixGutters 64 = .ok (.aload_n 0, 1) := by decide +kernel
theorem dX6_mixGutters_65 : decode cX6_mixGutters 65 = .ok (.iload 5, 2) := by decide +kernel
theorem dX6_mixGutters_67 : decode cX6_mixGutters 67 = .ok (.iload 6, 2) := by decide +kernel
theorem dX6_mixGutters_69 : decode cX6_mixGutters 69 = .ok (.invokevirtual 226, 3) := by decide +kernel
theorem dX6_mixGutters_72 : decode cX6_mixGutters 72 = .ok (.i2l, 1) := by decide +kernel
theorem dX6_mixGutters_73 : decode cX6_mixGutters 73 = .ok (.invokestatic 216, 3) := by decide +kernel
theorem dX6_mixGutters_76 : decode cX6_mixGutters 76 = .ok (.lstore_n 3, 1) := by decide +kernel
theorem dX6_mixGutters_77 : decode cX6_mixGutters 77 = .ok (.iinc 6 1, 3) := by decide +kernel
theorem dX6_mixGutters_80 : decode cX6_mixGutters 80 = .ok (.goto (-35), 3) := by decide +kernel
theorem dX6_mixGutters_83 : decode cX6_mixGutters 83 = .ok (.lload_n 3, 1) := by decide +kernel
theorem dX6_mixGutters_84 : decode cX6_mixGutters 84 = .ok (.aload_n 0, 1) := by decide +kernel
theorem dX6_mixGutters_85 : decode cX6_mixGutters 85 = .ok (.iload 5, 2) := by decide +kernel
theorem dX6_mixGutters_87 : decode cX6_mixGutters 87 = .ok (.invokevirtual 229, 3) := by decide +kernel
theorem dX6_mixGutters_90 : decode cX6_mixGutters 90 = .ok (.i2l, 1) := by decide +kernel
theorem dX6_mixGutters_91 : decode cX6_mixGutters 91 = .ok (.invokestatic 216, 3) := by decide +kernel
theorem dX6_mixGutters_94 : decode cX6_mixGutters 94 = .ok (.lstore_n 3, 1) := by decide +kernel
theorem dX6_mixGutters_95 : decode cX6_mixGutters 95 = .ok (.iinc 5 1, 3) := by decide +kernel
theorem dX6_mixGutters_98 : decode cX6_mixGutters 98 = .ok (.goto (-93), 3) := by decide +kernel
theorem dX6_mixGutters_101 : decode cX6_mixGutters 101 = .ok (.lload_n 3, 1) := by decide +kernel
theorem dX6_mixGutters_102 : decode cX6_mixGutters 102 = .ok (.lreturn, 1) := by decide +kernel
theorem dX6_mixDrops_0 : decode cX6_mixDrops 0 = .ok (.lload_n 1, 1) := by decide +kernel
theorem dX6_mixDrops_1 : decode cX6_mixDrops 1 = .ok (.lstore_n 3, 1) := by decide +kernel
theorem dX6_mixDrops_2 : decode cX6_mixDrops 2 = .ok (.iconst 0, 1) := by decide +kernel
theorem dX6_mixDrops_3 : decode cX6_mixDrops 3 = .ok (.istore 5, 2) := by decide +kernel
theorem dX6_mixDrops_5 : decode cX6_mixDrops 5 = .ok (.iload 5, 2) := by decide +kernel
theorem dX6_mixDrops_7 : decode cX6_mixDrops 7 = .ok (.aload_n 0, 1) := by decide +kernel
theorem dX6_mixDrops_8 : decode cX6_mixDrops 8 = .ok (.getfield 19, 3) := by decide +kernel
theorem dX6_mixDrops_11 : decode cX6_mixDrops 11 = .ok (.getfield 84, 3) := by decide +kernel
theorem dX6_mixDrops_14 : decode cX6_mixDrops 14 = .ok (.getfield 88, 3) := by decide +kernel
theorem dX6_mixDrops_17 : decode cX6_mixDrops 17 = .ok (.if_icmp .ge 47, 3) := by decide +kernel
theorem dX6_mixDrops_20 : decode cX6_mixDrops 20 = .ok (.lload_n 3, 1) := by decide +kernel
theorem dX6_mixDrops_21 : decode cX6_mixDrops 21 = .ok (.aload_n 0, 1) := by decide +kernel
theorem dX6_mixDrops_22 : decode cX6_mixDrops 22 = .ok (.iload 5, 2) := by decide +kernel
theorem dX6_mixDrops_24 : decode cX6_mixDrops 24 = .ok (.iconst 0, 1) := by decide +kernel
theorem dX6_mixDrops_25 : decode cX6_mixDrops 25 = .ok (.invokevirtual 232, 3) := by decide +kernel
theorem dX6_mixDrops_28 : decode cX6_mixDrops 28 = .ok (.i2l, 1) := by decide +kernel
theorem dX6_mixDrops_29 : decode cX6_mixDrops 29 = .ok (.invokestatic 216, 3) := by decide +kernel
theorem dX6_mixDrops_32 : decode cX6_mixDrops 32 = .ok (.lstore_n 3, 1) := by decide +kernel
theorem dX6_mixDrops_33 : decode cX6_mixDrops 33 = .ok (.lload_n 3, 1) := by decide +kernel
theorem dX6_mixDrops_34 : decode cX6_mixDrops 34 = .ok (.aload_n 0, 1) := by decide +kernel
theorem dX6_mixDrops_35 : decode cX6_mixDrops 35 = .ok (.iload 5, 2) := by decide +kernel
theorem dX6_mixDrops_37 : decode cX6_mixDrops 37 = .ok (.iconst 1, 1) := by decide +kernel
theorem dX6_mixDrops_38 : decode cX6_mixDrops 38 = .ok (.invokevirtual 232, 3) := by decide +kernel
theorem dX6_mixDrops_41 : decode cX6_mixDrops 41 = .ok (.i2l, 1) := by decide +kernel
theorem dX6_mixDrops_42 : decode cX6_mixDrops 42 = .ok (.invokestatic 216, 3) := by decide +kernel
theorem dX6_mixDrops_45 : decode cX6_mixDrops 45 = .ok (.lstore_n 3, 1) := by decide +kernel
theorem dX6_mixDrops_46 : decode cX6_mixDrops 46 = .ok (.lload_n 3, 1) := by decide +kernel
theorem dX6_mixDrops_47 : decode cX6_mixDrops 47 = .ok (.aload_n 0, 1) := by decide +kernel
theorem dX6_mixDrops_48 : decode cX6_mixDrops 48 = .ok (.iload 5, 2) := by decide +kernel
theorem dX6_mixDrops_50 : decode cX6_mixDrops 50 = .ok (.invokevirtual 235, 3) := by decide +kernel
theorem dX6_mixDrops_53 : decode cX6_mixDrops 53 = .ok (.i2l, 1) := by decide +kernel
theorem dX6_mixDrops_54 : decode cX6_mixDrops 54 = .ok (.invokestatic 216, 3) := by decide +kernel
theorem dX6_mixDrops_57 : decode cX6_mixDrops 57 = .ok (.lstore_n 3, 1) := by decide +kernel
theorem dX6_mixDrops_58 : decode cX6_mixDrops 58 = .ok (.iinc 5 1, 3) := by decide +kernel
theorem dX6_mixDrops_61 : decode cX6_mixDrops 61 = .ok (.goto (-56), 3) := by decide +kernel
theorem dX6_mixDrops_64 : decode cX6_mixDrops 64 = .ok (.lload_n 3, 1) := by decide +kernel
theorem dX6_mixDrops_65 : decode cX6_mixDrops 65 = .ok (.lreturn, 1) := by decide +kernel
theorem dX6_mix_0 : decode cX6_mix 0 = .ok (.ldc2_w 238, 3) := by decide +kernel
theorem dX6_mix_3 : decode cX6_mix 3 = .ok (.lload_n 0, 1) := by decide +kernel
theorem dX6_mix_4 : decode cX6_mix 4 = .ok (.lmul, 1) := by decide +kernel
theorem dX6_mix_5 : decode cX6_mix 5 = .ok (.lload_n 2, 1) := by decide +kernel
theorem dX6_mix_6 : decode cX6_mix 6 = .ok (.ladd, 1) := by decide +kernel
theorem dX6_mix_7 : decode cX6_mix 7 = .ok (.lreturn, 1) := by decide +kernel
theorem dX6_hasStreet_0 : decode cX6_hasStreet 0 = .ok (.aload_n 0, 1) := by decide +kernel
theorem dX6_hasStreet_1 : decode cX6_hasStreet 1 = .ok (.getfield 102, 3) := by decide +kernel
theorem dX6_hasStreet_4 : decode cX6_hasStreet 4 = .ok (.ifCond .le 7, 3) := by decide +kernel
theorem dX6_hasStreet_7 : decode cX6_hasStreet 7 = .ok (.iconst 1, 1) := by decide +kernel
theorem dX6_hasStreet_8 : decode cX6_hasStreet 8 = .ok (.goto 4, 3) := by decide +kernel
theorem dX6_hasStreet_11 : decode cX6_hasStreet 11 = .ok (.iconst 0, 1) := by decide +kernel
theorem dX6_hasStreet_12 : decode cX6_hasStreet 12 = .ok (.ireturn, 1) := by decide +kernel
theorem dX6_isGutter_0 : decode cX6_isGutter 0 = .ok (.aload_n 0, 1) := by decide +kernel
theorem dX6_isGutter_1 : decode cX6_isGutter 1 = .ok (.invokevirtual 148, 3) := by decide +kernel
theorem dX6_isGutter_4 : decode cX6_isGutter 4 = .ok (.ifCond .eq 17, 3) := by decide +kernel
theorem dX6_isGutter_7 : decode cX6_isGutter 7 = .ok (.iload_n 1, 1) := by decide +kernel
theorem dX6_isGutter_8 : decode cX6_isGutter 8 = .ok (.ifCond .lt 13, 3) := by decide +kernel
theorem dX6_isGutter_11 : decode cX6_isGutter 11 = .ok (.iload_n 1, 1) := by decide +kernel
theorem dX6_isGutter_12 : decode cX6_isGutter 12 = .ok (.bipush 6, 2) := by decide +kernel
theorem dX6_isGutter_14 : decode cX6_isGutter 14 = .ok (.if_icmp .ge 7, 3) := by decide +kernel
theorem dX6_isGutter_17 : decode cX6_isGutter 17 = .ok (.iconst 1, 1) := by decide +kernel
theorem dX6_isGutter_18 : decode cX6_isGutter 18 = .ok (.goto 4, 3) := by decide +kernel
theorem dX6_isGutter_21 : decode cX6_isGutter 21 = .ok (.iconst 0, 1) := by decide +kernel
theorem dX6_isGutter_22 : decode cX6_isGutter 22 = .ok (.ireturn, 1) := by decide +kernel
theorem dX6_isDrop_0 : decode cX6_isDrop 0 = .ok (.iload_n 1, 1) := by decide +kernel
theorem dX6_isDrop_1 : decode cX6_isDrop 1 = .ok (.ifCond .lt 21, 3) := by decide +kernel
theorem dX6_isDrop_4 : decode cX6_isDrop 4 = .ok (.iload_n 1, 1) := by decide +kernel
theorem dX6_isDrop_5 : decode cX6_isDrop 5 = .ok (.aload_n 0, 1) := by decide +kernel
theorem dX6_isDrop_6 : decode cX6_isDrop 6 = .ok (.getfield 19, 3) := by decide +kernel
theorem dX6_isDrop_9 : decode cX6_isDrop 9 = .ok (.getfield 84, 3) := by decide +kernel
theorem dX6_isDrop_12 : decode cX6_isDrop 12 = .ok (.getfield 88, 3) := by decide +kernel
theorem dX6_isDrop_15 : decode cX6_isDrop 15 = .ok (.if_icmp .ge 7, 3) := by decide +kernel
theorem dX6_isDrop_18 : decode cX6_isDrop 18 = .ok (.iconst 1, 1) := by decide +kernel
theorem dX6_isDrop_19 : decode cX6_isDrop 19 = .ok (.goto 4, 3) := by decide +kernel
theorem dX6_isDrop_22 : decode cX6_isDrop 22 = .ok (.iconst 0, 1) := by decide +kernel
theorem dX6_isDrop_23 : decode cX6_isDrop 23 = .ok (.ireturn, 1) := by decide +kernel
theorem dX6_isLetter_0 : decode cX6_isLetter 0 = .ok (.iload_n 0, 1) := by decide +kernel
theorem dX6_isLetter_1 : decode cX6_isLetter 1 = .ok (.ifCond .lt 12, 3) := by decide +kernel
theorem dX6_isLetter_4 : decode cX6_isLetter 4 = .ok (.iload_n 0, 1) := by decide +kernel
theorem dX6_isLetter_5 : decode cX6_isLetter 5 = .ok (.iconst 5, 1) := by decide +kernel
theorem dX6_isLetter_6 : decode cX6_isLetter 6 = .ok (.if_icmp .ge 7, 3) := by decide +kernel
theorem dX6_isLetter_9 : decode cX6_isLetter 9 = .ok (.iconst 1, 1) := by decide +kernel
theorem dX6_isLetter_10 : decode cX6_isLetter 10 = .ok (.goto 4, 3) := by decide +kernel
theorem dX6_isLetter_13 : decode cX6_isLetter 13 = .ok (.iconst 0, 1) := by decide +kernel
theorem dX6_isLetter_14 : decode cX6_isLetter 14 = .ok (.ireturn, 1) := by decide +kernel
theorem dX6_nextSeed_0 : decode cX6_nextSeed 0 = .ok (.ldc 240, 2) := by decide +kernel
theorem dX6_nextSeed_2 : decode cX6_nextSeed 2 = .ok (.iload_n 0, 1) := by decide +kernel
theorem dX6_nextSeed_3 : decode cX6_nextSeed 3 = .ok (.imul, 1) := by decide +kernel
theorem dX6_nextSeed_4 : decode cX6_nextSeed 4 = .ok (.sipush 12345, 3) := by decide +kernel
theorem dX6_nextSeed_7 : decode cX6_nextSeed 7 = .ok (.iadd, 1) := by decide +kernel
theorem dX6_nextSeed_8 : decode cX6_nextSeed 8 = .ok (.ldc 243, 2) := by decide +kernel
theorem dX6_nextSeed_10 : decode cX6_nextSeed 10 = .ok (.iand, 1) := by decide +kernel
theorem dX6_nextSeed_11 : decode cX6_nextSeed 11 = .ok (.ireturn, 1) := by decide +kernel
theorem dX6_seekTurns_0 : decode cX6_seekTurns 0 = .ok (.aload_n 0, 1) := by decide +kernel
theorem dX6_seekTurns_1 : decode cX6_seekTurns 1 = .ok (.getfield 10, 3) := by decide +kernel
theorem dX6_seekTurns_4 : decode cX6_seekTurns 4 = .ok (.aload_n 0, 1) := by decide +kernel
theorem dX6_seekTurns_5 : decode cX6_seekTurns 5 = .ok (.getfield 40, 3) := by decide +kernel
theorem dX6_seekTurns_8 : decode cX6_seekTurns 8 = .ok (.invokevirtual 182, 3) := by decide +kernel
theorem dX6_seekTurns_11 : decode cX6_seekTurns 11 = .ok (.aload_n 0, 1) := by decide +kernel
theorem dX6_seekTurns_12 : decode cX6_seekTurns 12 = .ok (.getfield 36, 3) := by decide +kernel
theorem dX6_seekTurns_15 : decode cX6_seekTurns 15 = .ok (.invokevirtual 244, 3) := by decide +kernel
theorem dX6_seekTurns_18 : decode cX6_seekTurns 18 = .ok (.aload_n 0, 1) := by decide +kernel
theorem dX6_seekTurns_19 : decode cX6_seekTurns 19 = .ok (.getfield 29, 3) := by decide +kernel
theorem dX6_seekTurns_22 : decode cX6_seekTurns 22 = .ok (.aload_n 0, 1) := by decide +kernel
theorem dX6_seekTurns_23 : decode cX6_seekTurns 23 = .ok (.getfield 19, 3) := by decide +kernel
theorem dX6_seekTurns_26 : decode cX6_seekTurns 26 = .ok (.getfield 65, 3) := by decide +kernel
theorem dX6_seekTurns_29 : decode cX6_seekTurns 29 = .ok (.invokevirtual 170, 3) := by decide +kernel
theorem dX6_seekTurns_32 : decode cX6_seekTurns 32 = .ok (.iconst 0, 1) := by decide +kernel
theorem dX6_seekTurns_33 : decode cX6_seekTurns 33 = .ok (.istore_n 2, 1) := by decide +kernel
theorem dX6_seekTurns_34 : decode cX6_seekTurns 34 = .ok (.iload_n 2, 1) := by decide +kernel
theorem dX6_seekTurns_35 : decode cX6_seekTurns 35 = .ok (.sipush 720, 3) := by decide +kernel
theorem dX6_seekTurns_38 : decode cX6_seekTurns 38 = .ok (.if_icmp .ge 115, 3) := by decide +kernel
theorem dX6_seekTurns_41 : decode cX6_seekTurns 41 = .ok (.aload_n 0, 1) := by decide +kernel
theorem dX6_seekTurns_42 : decode cX6_seekTurns 42 = .ok (.getfield 29, 3) := by decide +kernel
theorem dX6_seekTurns_45 : decode cX6_seekTurns 45 = .ok (.iload_n 2, 1) := by decide +kernel
theorem dX6_seekTurns_46 : decode cX6_seekTurns 46 = .ok (.invokevirtual 245, 3) := by decide +kernel
theorem dX6_seekTurns_49 : decode cX6_seekTurns 49 = .ok (.aload_n 0, 1) := by decide +kernel
theorem dX6_seekTurns_50 : decode cX6_seekTurns 50 = .ok (.getfield 29, 3) := by decide +kernel
theorem dX6_seekTurns_53 : decode cX6_seekTurns 53 = .ok (.aload_n 0, 1) := by decide +kernel
theorem dX6_seekTurns_54 : decode cX6_seekTurns 54 = .ok (.getfield 19, 3) := by decide +kernel
theorem dX6_seekTurns_57 : decode cX6_seekTurns 57 = .ok (.getfield 65, 3) := by decide +kernel
theorem dX6_seekTurns_60 : decode cX6_seekTurns 60 = .ok (.invokevirtual 248, 3) := by decide +kernel
theorem dX6_seekTurns_63 : decode cX6_seekTurns 63 = .ok (.istore_n 3, 1) := by decide +kernel
theorem dX6_seekTurns_64 : decode cX6_seekTurns 64 = .ok (.aload_n 0, 1) := by decide +kernel
theorem dX6_seekTurns_65 : decode cX6_seekTurns 65 = .ok (.getfield 29, 3) := by decide +kernel
theorem dX6_seekTurns_68 : decode cX6_seekTurns 68 = .ok (.getfield 74, 3) := by decide +kernel
theorem dX6_seekTurns_71 : decode cX6_seekTurns 71 = .ok (.iload_n 1, 1) := by decide +kernel
theorem dX6_seekTurns_72 : decode cX6_seekTurns 72 = .ok (.iaload, 1) := by decide +kernel
theorem dX6_seekTurns_73 : decode cX6_seekTurns 73 = .ok (.iconst (-1), 1) := by decide +kernel
theorem dX6_seekTurns_74 : decode cX6_seekTurns 74 = .ok (.if_icmp .ne 73, 3) := by decide +kernel
theorem dX6_seekTurns_77 : decode cX6_seekTurns 77 = .ok (.iload_n 3, 1) := by decide +kernel
theorem dX6_seekTurns_78 : decode cX6_seekTurns 78 = .ok (.invokestatic 252, 3) := by decide +kernel
theorem dX6_seekTurns_81 : decode cX6_seekTurns 81 = .ok (.aload_n 0, 1) := by decide +kernel
theorem dX6_seekTurns_82 : decode cX6_seekTurns 82 = .ok (.getfield 36, 3) := by decide +kernel
theorem dX6_seekTurns_85 : decode cX6_seekTurns 85 = .ok (.getfield 255, 3) := by decide +kernel
theorem dX6_seekTurns_88 : decode cX6_seekTurns 88 = .ok (.if_icmp .le 6, 3) := by decide +kernel
theorem dX6_seekTurns_91 : decode cX6_seekTurns 91 = .ok (.goto 56, 3) := by decide +kernel
theorem dX6_seekTurns_94 : decode cX6_seekTurns 94 = .ok (.aload_n 0, 1) := by decide +kernel
theorem dX6_seekTurns_95 : decode cX6_seekTurns 95 = .ok (.getfield 29, 3) := by decide +kernel
theorem dX6_seekTurns_98 : decode cX6_seekTurns 98 = .ok (.invokevirtual 81, 3) := by decide +kernel
theorem dX6_seekTurns_101 : decode cX6_seekTurns 101 = .ok (.aload_n 0, 1) := by decide +kernel
theorem dX6_seekTurns_102 : decode cX6_seekTurns 102 = .ok (.getfield 29, 3) := by decide +kernel
theorem dX6_seekTurns_105 : decode cX6_seekTurns 105 = .ok (.aload_n 0, 1) := by decide +kernel
theorem dX6_seekTurns_106 : decode cX6_seekTurns 106 = .ok (.getfield 19, 3) := by decide +kernel
theorem dX6_seekTurns_109 : decode cX6_seekTurns 109 = .ok (.getfield 84, 3) := by decide +kernel
theorem dX6_seekTurns_112 : decode cX6_seekTurns 112 = .ok (.iconst (-1), 1) := by decide +kernel
theorem dX6_seekTurns_113 : decode cX6_seekTurns 113 = .ok (.iconst 0, 1) := by decide +kernel
theorem dX6_seekTurns_114 : decode cX6_seekTurns 114 = .ok (.invokevirtual 174, 3) := by decide +kernel
theorem dX6_seekTurns_117 : decode cX6_seekTurns 117 = .ok (.aload_n 0, 1) := by decide +kernel
theorem dX6_seekTurns_118 : decode cX6_seekTurns 118 = .ok (.getfield 29, 3) := by decide +kernel
theorem dX6_seekTurns_121 : decode cX6_seekTurns 121 = .ok (.iload_n 1, 1) := by decide +kernel
theorem dX6_seekTurns_122 : decode cX6_seekTurns 122 = .ok (.aload_n 0, 1) := by decide +kernel
theorem dX6_seekTurns_123 : decode cX6_seekTurns 123 = .ok (.getfield 40, 3) := by decide +kernel
theorem dX6_seekTurns_126 : decode cX6_seekTurns 126 = .ok (.aload_n 0, 1) := by decide +kernel
theorem dX6_seekTurns_127 : decode cX6_seekTurns 127 = .ok (.getfield 10, 3) := by decide +kernel
theorem dX6_seekTurns_130 : decode cX6_seekTurns 130 = .ok (.getfield 50, 3) := by decide +kernel
theorem dX6_seekTurns_133 : decode cX6_seekTurns 133 = .ok (.invokevirtual 258, 3) := by decide +kernel
theorem dX6_seekTurns_136 : decode cX6_seekTurns 136 = .ok (.ifCond .eq 11, 3) := by decide +kernel
theorem dX6_seekTurns_139 : decode cX6_seekTurns 139 = .ok (.aload_n 0, 1) := by decide +kernel
theorem dX6_seekTurns_140 : decode cX6_seekTurns 140 = .ok (.getfield 36, 3) := by decide +kernel
theorem dX6_seekTurns_143 : decode cX6_seekTurns 143 = .ok (.iload_n 3, 1) := by decide +kernel
theorem dX6_seekTurns_144 : decode cX6_seekTurns 144 = .ok (.invokevirtual 262, 3) := by decide +kernel
theorem dX6_seekTurns_147 : decode cX6_seekTurns 147 = .ok (.iinc 2 1, 3) := by decide +kernel
theorem dX6_seekTurns_150 : decode cX6_seekTurns 150 = .ok (.goto (-116), 3) := by decide +kernel
theorem dX6_seekTurns_153 : decode cX6_seekTurns 153 = .ok (.return_, 1) := by decide +kernel
theorem dX6_countWords_0 : decode cX6_countWords 0 = .ok (.aload_n 0, 1) := by decide +kernel
theorem dX6_countWords_1 : decode cX6_countWords 1 = .ok (.getfield 19, 3) := by decide +kernel
theorem dX6_countWords_4 : decode cX6_countWords 4 = .ok (.getfield 84, 3) := by decide +kernel
theorem dX6_countWords_7 : decode cX6_countWords 7 = .ok (.getfield 88, 3) := by decide +kernel
theorem dX6_countWords_10 : decode cX6_countWords 10 = .ok (.bipush 6, 2) := by decide +kernel
theorem dX6_countWords_12 : decode cX6_countWords 12 = .ok (.invokestatic 264, 3) := by decide +kernel
theorem dX6_countWords_15 : decode cX6_countWords 15 = .ok (.istore_n 2, 1) := by decide +kernel
theorem dX6_countWords_16 : decode cX6_countWords 16 = .ok (.iconst 1, 1) := by decide +kernel
theorem dX6_countWords_17 : decode cX6_countWords 17 = .ok (.istore_n 3, 1) := by decide +kernel
theorem dX6_countWords_18 : decode cX6_countWords 18 = .ok (.iconst 2, 1) := by decide +kernel
theorem dX6_countWords_19 : decode cX6_countWords 19 = .ok (.istore 4, 2) := by decide +kernel
theorem dX6_countWords_21 : decode cX6_countWords 21 = .ok (.iload 4, 2) := by decide +kernel
theorem dX6_countWords_23 : decode cX6_countWords 23 = .ok (.iload_n 2, 1) := by decide +kernel
theorem dX6_countWords_24 : decode cX6_countWords 24 = .ok (.if_icmp .gt 14, 3) := by decide +kernel
theorem dX6_countWords_27 : decode cX6_countWords 27 = .ok (.iload_n 3, 1) := by decide +kernel
theorem dX6_countWords_28 : decode cX6_countWords 28 = .ok (.iload 4, 2) := by decide +kernel
theorem dX6_countWords_30 : decode cX6_countWords 30 = .ok (.imul, 1) := by decide +kernel
theorem dX6_countWords_31 : decode cX6_countWords 31 = .ok (.istore_n 3, 1) := by decide +kernel
theorem dX6_countWords_32 : decode cX6_countWords 32 = .ok (.iinc 4 1, 3) := by decide +kernel
theorem dX6_countWords_35 : decode cX6_countWords 35 = .ok (.goto (-14), 3) := by decide +kernel
theorem dX6_countWords_38 : decode cX6_countWords 38 = .ok (.aload_n 0, 1) := by decide +kernel
theorem dX6_countWords_39 : decode cX6_countWords 39 = .ok (.getfield 47, 3) := by decide +kernel
theorem dX6_countWords_42 : decode cX6_countWords 42 = .ok (.iconst 0, 1) := by decide +kernel
theorem dX6_countWords_43 : decode cX6_countWords 43 = .ok (.invokestatic 269, 3) := by decide +kernel
theorem dX6_countWords_46 : decode cX6_countWords 46 = .ok (.aload_n 0, 1) := by decide +kernel
theorem dX6_countWords_47 : decode cX6_countWords 47 = .ok (.getfield 29, 3) := by decide +kernel
theorem dX6_countWords_50 : decode cX6_countWords 50 = .ok (.aload_n 0, 1) := by decide +kernel
theorem dX6_countWords_51 : decode cX6_countWords 51 = .ok (.getfield 19, 3) := by decide +kernel
theorem dX6_countWords_54 : decode cX6_countWords 54 = .ok (.getfield 65, 3) := by decide +kernel
theorem dX6_countWords_57 : decode cX6_countWords 57 = .ok (.invokevirtual 170, 3) := by decide +kernel
theorem dX6_countWords_60 : decode cX6_countWords 60 = .ok (.iconst 0, 1) := by decide +kernel
theorem dX6_countWords_61 : decode cX6_countWords 61 = .ok (.istore 4, 2) := by decide +kernel
theorem dX6_countWords_63 : decode cX6_countWords 63 = .ok (.iconst 0, 1) := by decide +kernel
theorem dX6_countWords_64 : decode cX6_countWords 64 = .ok (.istore 5, 2) := by decide +kernel
theorem dX6_countWords_66 : decode cX6_countWords 66 = .ok (.iload 5, 2) := by decide +kernel
theorem dX6_countWords_68 : decode cX6_countWords 68 = .ok (.iload_n 3, 1) := by decide +kernel
theorem dX6_countWords_69 : decode cX6_countWords 69 = .ok (.if_icmp .ge 41, 3) := by decide +kernel
theorem dX6_countWords_72 : decode cX6_countWords 72 = .ok (.aload_n 0, 1) := by decide +kernel
theorem dX6_countWords_73 : decode cX6_countWords 73 = .ok (.getfield 29, 3) := by decide +kernel
theorem dX6_countWords_76 : decode cX6_countWords 76 = .ok (.invokevirtual 81, 3) := by decide +kernel
theorem dX6_countWords_79 : decode cX6_countWords 79 = .ok (.aload_n 0, 1) := by decide +kernel
theorem dX6_countWords_80 : decode cX6_countWords 80 = .ok (.iload 5, 2) := by decide +kernel
theorem dX6_countWords_82 : decode cX6_countWords 82 = .ok (.iload_n 2, 1) := by decide +kernel
theorem dX6_countWords_83 : decode cX6_countWords 83 = .ok (.invokevirtual 275, 3) := by decide +kernel
theorem dX6_countWords_86 : decode cX6_countWords 86 = .ok (.aload_n 0, 1) := by decide +kernel
theorem dX6_countWords_87 : decode cX6_countWords 87 = .ok (.aload_n 0, 1) := by decide +kernel
theorem dX6_countWords_88 : decode cX6_countWords 88 = .ok (.getfield 29, 3) := by decide +kernel
theorem dX6_countWords_91 : decode cX6_countWords 91 = .ok (.iload_n 1, 1) := by decide +kernel
theorem dX6_countWords_92 : decode cX6_countWords 92 = .ok (.invokevirtual 278, 3) := by decide +kernel
theorem dX6_countWords_95 : decode cX6_countWords 95 = .ok (.invokevirtual 281, 3) := by decide +kernel
theorem dX6_countWords_98 : decode cX6_countWords 98 = .ok (.ifCond .eq 6, 3) := by decide +kernel
theorem dX6_countWords_101 : decode cX6_countWords 101 = .ok (.iinc 4 1, 3) := by decide +kernel
theorem dX6_countWords_104 : decode cX6_countWords 104 = .ok (.iinc 5 1, 3) := by decide +kernel
theorem dX6_countWords_107 : decode cX6_countWords 107 = .ok (.goto (-41), 3) := by decide +kernel
theorem dX6_countWords_110 : decode cX6_countWords 110 = .ok (.iload 4, 2) := by decide +kernel
theorem dX6_countWords_112 : decode cX6_countWords 112 = .ok (.ireturn, 1) := by decide +kernel
theorem dX6_runMixed_0 : decode cX6_runMixed 0 = .ok (.iconst 0, 1) := by decide +kernel
theorem dX6_runMixed_1 : decode cX6_runMixed 1 = .ok (.istore_n 3, 1) := by decide +kernel
theorem dX6_runMixed_2 : decode cX6_runMixed 2 = .ok (.iload_n 3, 1) := by decide +kernel
theorem dX6_runMixed_3 : decode cX6_runMixed 3 = .ok (.iload_n 2, 1) := by decide +kernel
theorem dX6_runMixed_4 : decode cX6_runMixed 4 = .ok (.if_icmp .ge 16, 3) := by decide +kernel
theorem dX6_runMixed_7 : decode cX6_runMixed 7 = .ok (.aload_n 0, 1) := by decide +kernel
theorem dX6_runMixed_8 : decode cX6_runMixed 8 = .ok (.getfield 44, 3) := by decide +kernel
theorem dX6_runMixed_11 : decode cX6_runMixed 11 = .ok (.iload_n 3, 1) := by decide +kernel
theorem dX6_runMixed_12 : decode cX6_runMixed 12 = .ok (.iload_n 3, 1) := by decide +kernel
theorem dX6_runMixed_13 : decode cX6_runMixed 13 = .ok (.iastore, 1) := by decide +kernel
theorem dX6_runMixed_14 : decode cX6_runMixed 14 = .ok (.iinc 3 1, 3) := by decide +kernel
theorem dX6_runMixed_17 : decode cX6_runMixed 17 = .ok (.goto (-15), 3) := by decide +kernel
theorem dX6_runMixed_20 : decode cX6_runMixed 20 = .ok (.iload_n 1, 1) := by decide +kernel
theorem dX6_runMixed_21 : decode cX6_runMixed 21 = .ok (.istore_n 3, 1) := by decide +kernel
theorem dX6_runMixed_22 : decode cX6_runMixed 22 = .ok (.iload_n 2, 1) := by decide +kernel
theorem dX6_runMixed_23 : decode cX6_runMixed 23 = .ok (.istore 4, 2) := by decide +kernel
theorem dX6_runMixed_25 : decode cX6_runMixed 25 = .ok (.iload 4, 2) := by decide +kernel
theorem dX6_runMixed_27 : decode cX6_runMixed 27 = .ok (.ifCond .le 79, 3) := by decide +kernel
theorem dX6_runMixed_30 : decode cX6_runMixed 30 = .ok (.iload_n 3, 1) := by decide +kernel
theorem dX6_runMixed_31 : decode cX6_runMixed 31 = .ok (.iload 4, 2) := by decide +kernel
theorem dX6_runMixed_33 : decode cX6_runMixed 33 = .ok (.irem, 1) := by decide +kernel
theorem dX6_runMixed_34 : decode cX6_runMixed 34 = .ok (.istore 5, 2) := by decide +kernel
theorem dX6_runMixed_36 : decode cX6_runMixed 36 = .ok (.iload_n 3, 1) := by decide +kernel
theorem dX6_runMixed_37 : decode cX6_runMixed 37 = .ok (.iload 4, 2) := by decide +kernel
theorem dX6_runMixed_39 : decode cX6_runMixed 39 = .ok (.idiv, 1) := by decide +kernel
theorem dX6_runMixed_40 : decode cX6_runMixed 40 = .ok (.istore_n 3, 1) := by decide +kernel
theorem dX6_runMixed_41 : decode cX6_runMixed 41 = .ok (.aload_n 0, 1) := by decide +kernel
theorem dX6_runMixed_42 : decode cX6_runMixed 42 = .ok (.getfield 44, 3) := by decide +kernel
theorem dX6_runMixed_45 : decode cX6_runMixed 45 = .ok (.iload 5, 2) := by decide +kernel
theorem dX6_runMixed_47 : decode cX6_runMixed 47 = .ok (.iaload, 1) := by decide +kernel
theorem dX6_runMixed_48 : decode cX6_runMixed 48 = .ok (.istore 6, 2) := by decide +kernel
theorem dX6_runMixed_50 : decode cX6_runMixed 50 = .ok (.aload_n 0, 1) := by decide +kernel
theorem dX6_runMixed_51 : decode cX6_runMixed 51 = .ok (.getfield 44, 3) := by decide +kernel
theorem dX6_runMixed_54 : decode cX6_runMixed 54 = .ok (.iload 5, 2) := by decide +kernel
theorem dX6_runMixed_56 : decode cX6_runMixed 56 = .ok (.aload_n 0, 1) := by decide +kernel
theorem dX6_runMixed_57 : decode cX6_runMixed 57 = .ok (.getfield 44, 3) := by decide +kernel
theorem dX6_runMixed_60 : decode cX6_runMixed 60 = .ok (.iload 4, 2) := by decide +kernel
theorem dX6_runMixed_62 : decode cX6_runMixed 62 = .ok (.iconst 1, 1) := by decide +kernel
theorem dX6_runMixed_63 : decode cX6_runMixed 63 = .ok (.isub, 1) := by decide +kernel
theorem dX6_runMixed_64 : decode cX6_runMixed 64 = .ok (.iaload, 1) := by decide +kernel
theorem dX6_runMixed_65 : decode cX6_runMixed 65 = .ok (.iastore, 1) := by decide +kernel
theorem dX6_runMixed_66 : decode cX6_runMixed 66 = .ok (.aload_n 0, 1) := by decide +kernel
theorem dX6_runMixed_67 : decode cX6_runMixed 67 = .ok (.getfield 29, 3) := by decide +kernel
theorem dX6_runMixed_70 : decode cX6_runMixed 70 = .ok (.aload_n 0, 1) := by decide +kernel
theorem dX6_runMixed_71 : decode cX6_runMixed 71 = .ok (.getfield 19, 3) := by decide +kernel
theorem dX6_runMixed_74 : decode cX6_runMixed 74 = .ok (.getfield 84, 3) := by decide +kernel
theorem dX6_runMixed_77 : decode cX6_runMixed 77 = .ok (.getfield 142, 3) := by decide +kernel
theorem dX6_runMixed_80 : decode cX6_runMixed 80 = .ok (.iload 6, 2) := by decide +kernel
theorem dX6_runMixed_82 : decode cX6_runMixed 82 = .ok (.iaload, 1) := by decide +kernel
theorem dX6_runMixed_83 : decode cX6_runMixed 83 = .ok (.aload_n 0, 1) := by decide +kernel
theorem dX6_runMixed_84 : decode cX6_runMixed 84 = .ok (.getfield 19, 3) := by decide +kernel
theorem dX6_runMixed_87 : decode cX6_runMixed 87 = .ok (.getfield 84, 3) := by decide +kernel
theorem dX6_runMixed_90 : decode cX6_runMixed 90 = .ok (.getfield 145, 3) := by decide +kernel
theorem dX6_runMixed_93 : decode cX6_runMixed 93 = .ok (.iload 6, 2) := by decide +kernel
theorem dX6_runMixed_95 : decode cX6_runMixed 95 = .ok (.iaload, 1) := by decide +kernel
theorem dX6_runMixed_96 : decode cX6_runMixed 96 = .ok (.invokevirtual 136, 3) := by decide +kernel
theorem dX6_runMixed_99 : decode cX6_runMixed 99 = .ok (.pop, 1) := by decide +kernel
theorem dX6_runMixed_100 : decode cX6_runMixed 100 = .ok (.iinc 4 (-1), 3) := by decide +kernel
theorem dX6_runMixed_103 : decode cX6_runMixed 103 = .ok (.goto (-78), 3) := by decide +kernel
theorem dX6_runMixed_106 : decode cX6_runMixed 106 = .ok (.return_, 1) := by decide +kernel
theorem dX6_noteWord_0 : decode cX6_noteWord 0 = .ok (.iload_n 1, 1) := by decide +kernel
theorem dX6_noteWord_1 : decode cX6_noteWord 1 = .ok (.iconst 5, 1) := by decide +kernel
theorem dX6_noteWord_2 : decode cX6_noteWord 2 = .ok (.ishr, 1) := by decide +kernel
theorem dX6_noteWord_3 : decode cX6_noteWord 3 = .ok (.istore_n 2, 1) := by decide +kernel
theorem dX6_noteWord_4 : decode cX6_noteWord 4 = .ok (.iconst 1, 1) := by decide +kernel
theorem dX6_noteWord_5 : decode cX6_noteWord 5 = .ok (.iload_n 1, 1) := by decide +kernel
theorem dX6_noteWord_6 : decode cX6_noteWord 6 = .ok (.bipush 31, 2) := by decide +kernel
theorem dX6_noteWord_8 : decode cX6_noteWord 8 = .ok (.iand, 1) := by decide +kernel
theorem dX6_noteWord_9 : decode cX6_noteWord 9 = .ok (.ishl, 1) := by decide +kernel
theorem dX6_noteWord_10 : decode cX6_noteWord 10 = .ok (.istore_n 3, 1) := by decide +kernel
theorem dX6_noteWord_11 : decode cX6_noteWord 11 = .ok (.iload_n 2, 1) := by decide +kernel
theorem dX6_noteWord_12 : decode cX6_noteWord 12 = .ok (.ifCond .lt 21, 3) := by decide +kernel
theorem dX6_noteWord_15 : decode cX6_noteWord 15 = .ok (.iload_n 2, 1) := by decide +kernel
theorem dX6_noteWord_16 : decode cX6_noteWord 16 = .ok (.sipush 977, 3) := by decide +kernel
theorem dX6_noteWord_19 : decode cX6_noteWord 19 = .ok (.if_icmp .ge 14, 3) := by decide +kernel
theorem dX6_noteWord_22 : decode cX6_noteWord 22 = .ok (.aload_n 0, 1) := by decide +kernel
theorem dX6_noteWord_23 : decode cX6_noteWord 23 = .ok (.getfield 47, 3) := by decide +kernel
theorem dX6_noteWord_26 : decode cX6_noteWord 26 = .ok (.iload_n 2, 1) := by decide +kernel
theorem dX6_noteWord_27 : decode cX6_noteWord 27 = .ok (.iaload, 1) := by decide +kernel
theorem dX6_noteWord_28 : decode cX6_noteWord 28 = .ok (.iload_n 3, 1) := by decide +kernel
theorem dX6_noteWord_29 : decode cX6_noteWord 29 = .ok (.iand, 1) := by decide +kernel
theorem dX6_noteWord_30 : decode cX6_noteWord 30 = .ok (.ifCond .eq 5, 3) := by decide +kernel
theorem dX6_noteWord_33 : decode cX6_noteWord 33 = .ok (.iconst 0, 1) := by decide +kernel
theorem dX6_noteWord_34 : decode cX6_noteWord 34 = .ok (.ireturn, 1) := by decide +kernel
theorem dX6_noteWord_35 : decode cX6_noteWord 35 = .ok (.aload_n 0, 1) := by decide +kernel
theorem dX6_noteWord_36 : decode cX6_noteWord 36 = .ok (.getfield 47, 3) := by decide +kernel
theorem dX6_noteWord_39 : decode cX6_noteWord 39 = .ok (.iload_n 2, 1) := by decide +kernel
theorem dX6_noteWord_40 : decode cX6_noteWord 40 = .ok (.dup2, 1) := by decide +kernel
theorem dX6_noteWord_41 : decode cX6_noteWord 41 = .ok (.iaload, 1) := by decide +kernel
theorem dX6_noteWord_42 : decode cX6_noteWord 42 = .ok (.iload_n 3, 1) := by decide +kernel
theorem dX6_noteWord_43 : decode cX6_noteWord 43 = .ok (.ior, 1) := by decide +kernel
theorem dX6_noteWord_44 : decode cX6_noteWord 44 = .ok (.iastore, 1) := by decide +kernel
theorem dX6_noteWord_45 : decode cX6_noteWord 45 = .ok (.iconst 1, 1) := by decide +kernel
theorem dX6_noteWord_46 : decode cX6_noteWord 46 = .ok (.ireturn, 1) := by decide +kernel
theorem dX7_init_0 : decode cX7_init 0 = .ok (.aload_n 0, 1) := by decide +kernel
theorem dX7_init_1 : decode cX7_init 1 = .ok (.invokespecial 1, 3) := by decide +kernel
theorem dX7_init_4 : decode cX7_init 4 = .ok (.aload_n 0, 1) := by decide +kernel
theorem dX7_init_5 : decode cX7_init 5 = .ok (.bipush 20, 2) := by decide +kernel
theorem dX7_init_7 : decode cX7_init 7 = .ok (.newarray .int, 2) := by decide +kernel
theorem dX7_init_9 : decode cX7_init 9 = .ok (.putfield 7, 3) := by decide +kernel
theorem dX7_init_12 : decode cX7_init 12 = .ok (.aload_n 0, 1) := by decide +kernel
theorem dX7_init_13 : decode cX7_init 13 = .ok (.bipush 6, 2) := by decide +kernel
theorem dX7_init_15 : decode cX7_init 15 = .ok (.newarray .int, 2) := by decide +kernel
theorem dX7_init_17 : decode cX7_init 17 = .ok (.putfield 13, 3) := by decide +kernel
theorem dX7_init_20 : decode cX7_init 20 = .ok (.aload_n 0, 1) := by decide +kernel
theorem dX7_init_21 : decode cX7_init 21 = .ok (.bipush 6, 2) := by decide +kernel
theorem dX7_init_23 : decode cX7_init 23 = .ok (.newarray .int, 2) := by decide +kernel
theorem dX7_init_25 : decode cX7_init 25 = .ok (.putfield 16, 3) := by decide +kernel
theorem dX7_init_28 : decode cX7_init 28 = .ok (.aload_n 0, 1) := by decide +kernel
theorem dX7_init_29 : decode cX7_init 29 = .ok (.bipush 102, 2) := by decide +kernel
theorem dX7_init_31 : decode cX7_init 31 = .ok (.newarray .int, 2) := by decide +kernel
theorem dX7_init_33 : decode cX7_init 33 = .ok (.putfield 19, 3) := by decide +kernel
theorem dX7_init_36 : decode cX7_init 36 = .ok (.aload_n 0, 1) := by decide +kernel
theorem dX7_init_37 : decode cX7_init 37 = .ok (.bipush 12, 2) := by decide +kernel
theorem dX7_init_39 : decode cX7_init 39 = .ok (.newarray .int, 2) := by decide +kernel
theorem dX7_init_41 : decode cX7_init 41 = .ok (.putfield 22, 3) := by decide +kernel
theorem dX7_init_44 : decode cX7_init 44 = .ok (.aload_n 0, 1) := by decide +kernel
theorem dX7_init_45 : decode cX7_init 45 = .ok (.bipush 12, 2) := by decide +kernel
theorem dX7_init_47 : decode cX7_init 47 = .ok (.newarray .int, 2) := by decide +kernel
theorem dX7_init_49 : decode cX7_init 49 = .ok (.putfield 25, 3) := by decide +kernel
theorem dX7_init_52 : decode cX7_init 52 = .ok (.aload_n 0, 1) := by decide +kernel
theorem dX7_init_53 : decode cX7_init 53 = .ok (.bipush 102, 2) := by decide +kernel
theorem dX7_init_55 : decode cX7_init 55 = .ok (.newarray .int, 2) := by decide +kernel
theorem dX7_init_57 : decode cX7_init 57 = .ok (.putfield 28, 3) := by decide +kernel
theorem dX7_init_60 : decode cX7_init 60 = .ok (.aload_n 0, 1) := by decide +kernel
theorem dX7_init_61 : decode cX7_init 61 = .ok (.bipush 6, 2) := by decide +kernel
theorem dX7_init_63 : decode cX7_init 63 = .ok (.newarray .int, 2) := by decide +kernel
theorem dX7_init_65 : decode cX7_init 65 = .ok (.putfield 31, 3) := by decide +kernel
theorem dX7_init_68 : decode cX7_init 68 = .ok (.aload_n 0, 1) := by decide +kernel
theorem dX7_init_69 : decode cX7_init 69 = .ok (.bipush 6, 2) := by decide +kernel
theorem dX7_init_71 : decode cX7_init 71 = .ok (.newarray .int, 2) := by decide +kernel
theorem dX7_init_73 : decode cX7_init 73 = .ok (.putfield 34, 3) := by decide +kernel
theorem dX7_init_76 : decode cX7_init 76 = .ok (.aload_n 0, 1) := by decide +kernel
theorem dX7_init_77 : decode cX7_init 77 = .ok (.bipush 12, 2) := by decide +kernel
theorem dX7_init_79 : decode cX7_init 79 = .ok (.newarray .int, 2) := by decide +kernel
theorem dX7_init_81 : decode cX7_init 81 = .ok (.putfield 37, 3) := by decide +kernel
theorem dX7_init_84 : decode cX7_init 84 = .ok (.aload_n 0, 1) := by decide +kernel
theorem dX7_init_85 : decode cX7_init 85 = .ok (.ldc 40, 2) := by decide +kernel
theorem dX7_init_87 : decode cX7_init 87 = .ok (.newarray .int, 2) := by decide +kernel
theorem dX7_init_89 : decode cX7_init 89 = .ok (.putfield 41, 3) := by decide +kernel
theorem dX7_init_92 : decode cX7_init 92 = .ok (.aload_n 0, 1) := by decide +kernel
theorem dX7_init_93 : decode cX7_init 93 = .ok (.bipush 6, 2) := by decide +kernel
theorem dX7_init_95 : decode cX7_init 95 = .ok (.newarray .int, 2) := by decide +kernel
theorem dX7_init_97 : decode cX7_init 97 = .ok (.putfield 44, 3) := by decide +kernel
theorem dX7_init_100 : decode cX7_init 100 = .ok (.aload_n 0, 1) := by decide +kernel
theorem dX7_init_101 : decode cX7_init 101 = .ok (.bipush 6, 2) := by decide +kernel
theorem dX7_init_103 : decode cX7_init 103 = .ok (.newarray .int, 2) := by decide +kernel
theorem dX7_init_105 : decode cX7_init 105 = .ok (.putfield 47, 3) := by decide +kernel
theorem dX7_init_108 : decode cX7_init 108 = .ok (.aload_n 0, 1) := by decide +kernel
theorem dX7_init_109 : decode cX7_init 109 = .ok (.bipush 48, 2) := by decide +kernel
theorem dX7_init_111 : decode cX7_init 111 = .ok (.newarray .int, 2) := by decide +kernel
theorem dX7_init_113 : decode cX7_init 113 = .ok (.putfield 50, 3) := by decide +kernel
theorem dX7_init_116 : decode cX7_init 116 = .ok (.aload_n 0, 1) := by decide +kernel
theorem dX7_init_117 : decode cX7_init 117 = .ok (.bipush 6, 2) := by decide +kernel
theorem dX7_init_119 : decode cX7_init 119 = .ok (.newarray .int, 2) := by decide +kernel
theorem dX7_init_121 : decode cX7_init 121 = .ok (.putfield 53, 3) := by decide +kernel
theorem dX7_init_124 : decode cX7_init 124 = .ok (.aload_n 0, 1) := by decide +kernel
theorem dX7_init_125 : decode cX7_init 125 = .ok (.bipush 102, 2) := by decide +kernel
theorem dX7_init_127 : decode cX7_init 127 = .ok (.newarray .int, 2) := by decide +kernel
theorem dX7_init_129 : decode cX7_init 129 = .ok (.putfield 56, 3) := by decide +kernel
theorem dX7_init_132 : decode cX7_init 132 = .ok (.aload_n 0, 1) := by decide +kernel
theorem dX7_init_133 : decode cX7_init 133 = .ok (.bipush 12, 2) := by decide +kernel
theorem dX7_init_135 : decode cX7_init 135 = .ok (.newarray .int, 2) := by decide +kernel
theorem dX7_init_137 : decode cX7_init 137 = .ok (.putfield 59, 3) := by decide +kernel
theorem dX7_init_140 : decode cX7_init 140 = .ok (.aload_n 0, 1) := by decide +kernel
theorem dX7_init_141 : decode cX7_init 141 = .ok (.bipush 12, 2) := by decide +kernel
theorem dX7_init_143 : decode cX7_init 143 = .ok (.newarray .int, 2) := by decide +kernel
theorem dX7_init_145 : decode cX7_init 145 = .ok (.putfield 62, 3) := by decide +kernel
theorem dX7_init_148 : decode cX7_init 148 = .ok (.aload_n 0, 1) := by decide +kernel
theorem dX7_init_149 : decode cX7_init 149 = .ok (.bipush 6, 2) := by decide +kernel
theorem dX7_init_151 : decode cX7_init 151 = .ok (.newarray .int, 2) := by decide +kernel
theorem dX7_init_153 : decode cX7_init 153 = .ok (.putfield 65, 3) := by decide +kernel
theorem dX7_init_156 : decode cX7_init 156 = .ok (.aload_n 0, 1) := by decide +kernel
theorem dX7_init_157 : decode cX7_init 157 = .ok (.bipush 48, 2) := by decide +kernel
theorem dX7_init_159 : decode cX7_init 159 = .ok (.newarray .int, 2) := by decide +kernel
theorem dX7_init_161 : decode cX7_init 161 = .ok (.putfield 68, 3) := by decide +kernel
theorem dX7_init_164 : decode cX7_init 164 = .ok (.aload_n 0, 1) := by decide +kernel
theorem dX7_init_165 : decode cX7_init 165 = .ok (.iconst (-1), 1) := by decide +kernel
theorem dX7_init_166 : decode cX7_init 166 = .ok (.putfield 71, 3) := by decide +kernel
theorem dX7_init_169 : decode cX7_init 169 = .ok (.return_, 1) := by decide +kernel
theorem dX7_in_0 : decode cX7_in 0 = .ok (.lload_n 0, 1) := by decide +kernel
theorem dX7_in_1 : decode cX7_in 1 = .ok (.lload_n 2, 1) := by decide +kernel
theorem dX7_in_2 : decode cX7_in 2 = .ok (.lcmp, 1) := by decide +kernel
theorem dX7_in_3 : decode cX7_in 3 = .ok (.ifCond .lt 14, 3) := by decide +kernel
theorem dX7_in_6 : decode cX7_in 6 = .ok (.lload_n 0, 1) := by decide +kernel
theorem dX7_in_7 : decode cX7_in 7 = .ok (.lload 4, 2) := by decide +kernel
theorem dX7_in_9 : decode cX7_in 9 = .ok (.lcmp, 1) := by decide +kernel
theorem dX7_in_10 : decode cX7_in 10 = .ok (.ifCond .gt 7, 3) := by decide +kernel
theorem dX7_in_13 : decode cX7_in 13 = .ok (.iconst 1, 1) := by decide +kernel
theorem dX7_in_14 : decode cX7_in 14 = .ok (.goto 4, 3) := by decide +kernel
theorem dX7_in_17 : decode cX7_in 17 = .ok (.iconst 0, 1) := by decide +kernel
theorem dX7_in_18 : decode cX7_in 18 = .ok (.ireturn, 1) := by decide +kernel
theorem dX7_copy_0 : decode cX7_copy 0 = .ok (.iconst 0, 1) := by decide +kernel
theorem dX7_copy_1 : decode cX7_copy 1 = .ok (.istore_n 2, 1) := by decide +kernel
theorem dX7_copy_2 : decode cX7_copy 2 = .ok (.iload_n 2, 1) := by decide +kernel
theorem dX7_copy_3 : decode cX7_copy 3 = .ok (.aload_n 0, 1) := by decide +kernel
theorem dX7_copy_4 : decode cX7_copy 4 = .ok (.arraylength, 1) := by decide +kernel
theorem dX7_copy_5 : decode cX7_copy 5 = .ok (.if_icmp .ge 15, 3) := by decide +kernel
theorem dX7_copy_8 : decode cX7_copy 8 = .ok (.aload_n 1, 1) := by decide +kernel
theorem dX7_copy_9 : decode cX7_copy 9 = .ok (.iload_n 2, 1) := by decide +kernel
theorem dX7_copy_10 : decode cX7_copy 10 = .ok (.aload_n 0, 1) := by decide +kernel
theorem dX7_copy_11 : decode cX7_copy 11 = .ok (.iload_n 2, 1) := by decide +kernel
theorem dX7_copy_12 : decode cX7_copy 12 = .ok (.iaload, 1) := by decide +kernel
theorem dX7_copy_13 : decode cX7_copy 13 = .ok (.iastore, 1) := by decide +kernel
theorem dX7_copy_14 : decode cX7_copy 14 = .ok (.iinc 2 1, 3) := by decide +kernel
theorem dX7_copy_17 : decode cX7_copy 17 = .ok (.goto (-15), 3) := by decide +kernel
theorem dX7_copy_20 : decode cX7_copy 20 = .ok (.return_, 1) := by decide +kernel
theorem dX7_letter_0 : decode cX7_letter 0 = .ok (.iload_n 1, 1) := by decide +kernel
theorem dX7_letter_1 : decode cX7_letter 1 = .ok (.i2l, 1) := by decide +kernel
theorem dX7_letter_2 : decode cX7_letter 2 = .ok (.lconst 1, 1) := by decide +kernel
theorem dX7_letter_3 : decode cX7_letter 3 = .ok (.ldc2_w 75, 3) := by decide +kernel
theorem dX7_letter_6 : decode cX7_letter 6 = .ok (.invokestatic 77, 3) := by decide +kernel
theorem dX7_letter_9 : decode cX7_letter 9 = .ok (.ifCond .ne 6, 3) := by decide +kernel
theorem dX7_letter_12 : decode cX7_letter 12 = .ok (.bipush (-102), 2) := by decide +kernel
theorem dX7_letter_14 : decode cX7_letter 14 = .ok (.ireturn, 1) := by decide +kernel
theorem dX7_letter_15 : decode cX7_letter 15 = .ok (.aload_n 0, 1) := by decide +kernel
theorem dX7_letter_16 : decode cX7_letter 16 = .ok (.getfield 81, 3) := by decide +kernel
theorem dX7_letter_19 : decode cX7_letter 19 = .ok (.bipush 20, 2) := by decide +kernel
theorem dX7_letter_21 : decode cX7_letter 21 = .ok (.if_icmp .ne 6, 3) := by decide +kernel
theorem dX7_letter_24 : decode cX7_letter 24 = .ok (.bipush (-104), 2) := by decide +kernel
theorem dX7_letter_26 : decode cX7_letter 26 = .ok (.ireturn, 1) := by decide +kernel
theorem dX7_letter_27 : decode cX7_letter 27 = .ok (.aload_n 0, 1) := by decide +kernel
theorem dX7_letter_28 : decode cX7_letter 28 = .ok (.getfield 7, 3) := by decide +kernel
theorem dX7_letter_31 : decode cX7_letter 31 = .ok (.aload_n 0, 1) := by decide +kernel
theorem dX7_letter_32 : decode cX7_letter 32 = .ok (.getfield 81, 3) := by decide +kernel
theorem dX7_letter_35 : decode cX7_letter 35 = .ok (.iload_n 1, 1) := by decide +kernel
theorem dX7_letter_36 : decode cX7_letter 36 = .ok (.iastore, 1) := by decide +kernel
theorem dX7_letter_37 : decode cX7_letter 37 = .ok (.aload_n 0, 1) := by decide +kernel
theorem dX7_letter_38 : decode cX7_letter 38 = .ok (.dup, 1) := by decide +kernel
theorem dX7_letter_39 : decode cX7_letter 39 = .ok (.getfield 81, 3) := by decide +kernel
theorem dX7_letter_42 : decode cX7_letter 42 = .ok (.iconst 1, 1) := by decide +kernel
theorem dX7_letter_43 : decode cX7_letter 43 = .ok (.iadd, 1) := by decide +kernel
theorem dX7_letter_44 : decode cX7_letter 44 = .ok (.putfield 81, 3) := by decide +kernel
theorem dX7_letter_47 : decode cX7_letter 47 = .ok (.aload_n 0, 1) := by decide +kernel
theorem dX7_letter_48 : decode cX7_letter 48 = .ok (.getfield 81, 3) := by decide +kernel
theorem dX7_letter_51 : decode cX7_letter 51 = .ok (.ireturn, 1) := by decide +kernel
theorem dX7_blank_0 : decode cX7_blank 0 = .ok (.aload_n 0, 1) := by decide +kernel
theorem dX7_blank_1 : decode cX7_blank 1 = .ok (.getfield 81, 3) := by decide +kernel
theorem dX7_blank_4 : decode cX7_blank 4 = .ok (.istore_n 1, 1) := by decide +kernel
theorem dX7_blank_5 : decode cX7_blank 5 = .ok (.aload_n 0, 1) := by decide +kernel
theorem dX7_blank_6 : decode cX7_blank 6 = .ok (.iconst 0, 1) := by decide +kernel
theorem dX7_blank_7 : decode cX7_blank 7 = .ok (.putfield 81, 3) := by decide +kernel
theorem dX7_blank_10 : decode cX7_blank 10 = .ok (.iload_n 1, 1) := by decide +kernel
theorem dX7_blank_11 : decode cX7_blank 11 = .ok (.ireturn, 1) := by decide +kernel
theorem dX7_kindBy_0 : decode cX7_kindBy 0 = .ok (.iload_n 0, 1) := by decide +kernel
theorem dX7_kindBy_1 : decode cX7_kindBy 1 = .ok (.bipush 103, 2) := by decide +kernel
theorem dX7_kindBy_3 : decode cX7_kindBy 3 = .ok (.if_icmp .ne 7, 3) := by decide +kernel
theorem dX7_kindBy_6 : decode cX7_kindBy 6 = .ok (.iconst 0, 1) := by decide +kernel
theorem dX7_kindBy_7 : decode cX7_kindBy 7 = .ok (.goto 44, 3) := by decide +kernel
theorem dX7_kindBy_10 : decode cX7_kindBy 10 = .ok (.iload_n 0, 1) := by decide +kernel
theorem dX7_kindBy_11 : decode cX7_kindBy 11 = .ok (.bipush 98, 2) := by decide +kernel
theorem dX7_kindBy_13 : decode cX7_kindBy 13 = .ok (.if_icmp .ne 7, 3) := by decide +kernel
theorem dX7_kindBy_16 : decode cX7_kindBy 16 = .ok (.iconst 1, 1) := by decide +kernel
theorem dX7_kindBy_17 : decode cX7_kindBy 17 = .ok (.goto 34, 3) := by decide +kernel
theorem dX7_kindBy_20 : decode cX7_kindBy 20 = .ok (.iload_n 0, 1) := by decide +kernel
theorem dX7_kindBy_21 : decode cX7_kindBy 21 = .ok (.bipush 115, 2) := by decide +kernel
theorem dX7_kindBy_23 : decode cX7_kindBy 23 = .ok (.if_icmp .ne 7, 3) := by decide +kernel
theorem dX7_kindBy_26 : decode cX7_kindBy 26 = .ok (.iconst 2, 1) := by decide +kernel
theorem dX7_kindBy_27 : decode cX7_kindBy 27 = .ok (.goto 24, 3) := by decide +kernel
theorem dX7_kindBy_30 : decode cX7_kindBy 30 = .ok (.iload_n 0, 1) := by decide +kernel
theorem dX7_kindBy_31 : decode cX7_kindBy 31 = .ok (.bipush 116, 2) := by decide +kernel
theorem dX7_kindBy_33 : decode cX7_kindBy 33 = .ok (.if_icmp .ne 7, 3) := by decide +kernel
theorem dX7_kindBy_36 : decode cX7_kindBy 36 = .ok (.iconst 3, 1) := by decide +kernel
theorem dX7_kindBy_37 : decode cX7_kindBy 37 = .ok (.goto 14, 3) := by decide +kernel
theorem dX7_kindBy_40 : decode cX7_kindBy 40 = .ok (.iload_n 0, 1) := by decide +kernel
theorem dX7_kindBy_41 : decode cX7_kindBy 41 = .ok (.bipush 100, 2) := by decide +kernel
theorem dX7_kindBy_43 : decode cX7_kindBy 43 = .ok (.if_icmp .ne 7, 3) := by decide +kernel
theorem dX7_kindBy_46 : decode cX7_kindBy 46 = .ok (.iconst 4, 1) := by decide +kernel
theorem dX7_kindBy_47 : decode cX7_kindBy 47 = .ok (.goto 4, 3) := by decide +kernel
theorem dX7_kindBy_50 : decode cX7_kindBy 50 = .ok (.iconst (-1), 1) := by decide +kernel
theorem dX7_kindBy_51 : decode cX7_kindBy 51 = .ok (.ireturn, 1) := by decide +kernel
theorem dX7_isGood_0 : decode cX7_isGood 0 = .ok (.iload_n 0, 1) := by decide +kernel
theorem dX7_isGood_1 : decode cX7_isGood 1 = .ok (.iconst 3, 1) := by decide +kernel
theorem dX7_isGood_2 : decode cX7_isGood 2 = .ok (.irem, 1) := by decide +kernel
theorem dX7_isGood_3 : decode cX7_isGood 3 = .ok (.istore_n 2, 1) := by decide +kernel
theorem dX7_isGood_4 : decode cX7_isGood 4 = .ok (.iload_n 0, 1) := by decide +kernel
theorem dX7_isGood_5 : decode cX7_isGood 5 = .ok (.bipush 16, 2) := by decide +kernel
theorem dX7_isGood_7 : decode cX7_isGood 7 = .ok (.if_icmp .le 5, 3) := by decide +kernel
theorem dX7_isGood_10 : decode cX7_isGood 10 = .ok (.iconst 0, 1) := by decide +kernel
theorem dX7_isGood_11 : decode cX7_isGood 11 = .ok (.ireturn, 1) := by decide +kernel
theorem dX7_isGood_12 : decode cX7_isGood 12 = .ok (.iload_n 2, 1) := by decide +kernel
theorem dX7_isGood_13 : decode cX7_isGood 13 = .ok (.ifCond .ne 19, 3) := by decide +kernel
theorem dX7_isGood_16 : decode cX7_isGood 16 = .ok (.iload_n 1, 1) := by decide +kernel
theorem dX7_isGood_17 : decode cX7_isGood 17 = .ok (.invokestatic 84, 3) := by decide +kernel
theorem dX7_isGood_20 : decode cX7_isGood 20 = .ok (.iconst (-1), 1) := by decide +kernel
theorem dX7_isGood_21 : decode cX7_isGood 21 = .ok (.if_icmp .eq 7, 3) := by decide +kernel
theorem dX7_isGood_24 : decode cX7_isGood 24 = .ok (.iconst 1, 1) := by decide +kernel
theorem dX7_isGood_25 : decode cX7_isGood 25 = .ok (.goto 57, 3) := by decide +kernel
theorem dX7_isGood_28 : decode cX7_isGood 28 = .ok (.iconst 0, 1) := by decide +kernel
theorem dX7_isGood_29 : decode cX7_isGood 29 = .ok (.goto 53, 3) := by decide +kernel
theorem dX7_isGood_32 : decode cX7_isGood 32 = .ok (.iload_n 2, 1) := by decide +kernel
theorem dX7_isGood_33 : decode cX7_isGood 33 = .ok (.iconst 1, 1) := by decide +kernel
theorem dX7_isGood_34 : decode cX7_isGood 34 = .ok (.if_icmp .ne 37, 3) := by decide +kernel
theorem dX7_isGood_37 : decode cX7_isGood 37 = .ok (.iload_n 1, 1) := by decide +kernel
theorem dX7_isGood_38 : decode cX7_isGood 38 = .ok (.bipush 45, 2) := by decide +kernel
theorem dX7_isGood_40 : decode cX7_isGood 40 = .ok (.if_icmp .eq 23, 3) := by decide +kernel
theorem dX7_isGood_43 : decode cX7_isGood 43 = .ok (.iload_n 1, 1) := by decide +kernel
theorem dX7_isGood_44 : decode cX7_isGood 44 = .ok (.bipush 48, 2) := by decide +kernel
theorem dX7_isGood_46 : decode cX7_isGood 46 = .ok (.isub, 1) := by decide +kernel
theorem dX7_isGood_47 : decode cX7_isGood 47 = .ok (.i2l, 1) := by decide +kernel
theorem dX7_isGood_48 : decode cX7_isGood 48 = .ok (.iload_n 0, 1) := by decide +kernel
theorem dX7_isGood_49 : decode cX7_isGood 49 = .ok (.iconst 3, 1) := by decide +kernel
theorem dX7_isGood_50 : decode cX7_isGood 50 = .ok (.idiv, 1) := by decide +kernel
theorem dX7_isGood_51 : decode cX7_isGood 51 = .ok (.iconst 1, 1) := by decide +kernel
theorem dX7_isGood_52 : decode cX7_isGood 52 = .ok (.iadd, 1) := by decide +kernel
theorem dX7_isGood_53 : decode cX7_isGood 53 = .ok (.i2l, 1) := by decide +kernel
theorem dX7_isGood_54 : decode cX7_isGood 54 = .ok (.ldc2_w 88, 3) := by decide +kernel
theorem dX7_isGood_57 : decode cX7_isGood 57 = .ok (.invokestatic 77, 3) := by decide +kernel
theorem dX7_isGood_60 : decode cX7_isGood 60 = .ok (.ifCond .eq 7, 3) := by decide +kernel
theorem dX7_isGood_63 : decode cX7_isGood 63 = .ok (.iconst 1, 1) := by decide +kernel
theorem dX7_isGood_64 : decode cX7_isGood 64 = .ok (.goto 18, 3) := by decide +kernel
theorem dX7_isGood_67 : decode cX7_isGood 67 = .ok (.iconst 0, 1) := by decide +kernel
theorem dX7_isGood_68 : decode cX7_isGood 68 = .ok (.goto 14, 3) := by decide +kernel
theorem dX7_isGood_71 : decode cX7_isGood 71 = .ok (.iload_n 1, 1) := by decide +kernel
theorem dX7_isGood_72 : decode cX7_isGood 72 = .ok (.bipush 44, 2) := by decide +kernel
theorem dX7_isGood_74 : decode cX7_isGood 74 = .ok (.if_icmp .ne 7, 3) := by decide +kernel
theorem dX7_isGood_77 : decode cX7_isGood 77 = .ok (.iconst 1, 1) := by decide +kernel
theorem dX7_isGood_78 : decode cX7_isGood 78 = .ok (.goto 4, 3) := by decide +kernel
theorem dX7_isGood_81 : decode cX7_isGood 81 = .ok (.iconst 0, 1) := by decide +kernel
theorem dX7_isGood_82 : decode cX7_isGood 82 = .ok (.ireturn, 1) := by decide +kernel
theorem dX7_faultOf_0 : decode cX7_faultOf 0 = .ok (.iconst 0, 1) := by decide +kernel
theorem dX7_faultOf_1 : decode cX7_faultOf 1 = .ok (.istore_n 2, 1) := by decide +kernel
theorem dX7_faultOf_2 : decode cX7_faultOf 2 = .ok (.iload_n 2, 1) := by decide +kernel
theorem dX7_faultOf_3 : decode cX7_faultOf 3 = .ok (.aload_n 0, 1) := by decide +kernel
theorem dX7_faultOf_4 : decode cX7_faultOf 4 = .ok (.getfield 81, 3) := by decide +kernel
theorem dX7_faultOf_7 : decode cX7_faultOf 7 = .ok (.if_icmp .ge 54, 3) := by decide +kernel
theorem dX7_faultOf_10 : decode cX7_faultOf 10 = .ok (.iload_n 1, 1) := by decide +kernel
theorem dX7_faultOf_11 : decode cX7_faultOf 11 = .ok (.ifCond .ne 19, 3) := by decide +kernel
theorem dX7_faultOf_14 : decode cX7_faultOf 14 = .ok (.iload_n 2, 1) := by decide +kernel
theorem dX7_faultOf_15 : decode cX7_faultOf 15 = .ok (.aload_n 0, 1) := by decide +kernel
theorem dX7_faultOf_16 : decode cX7_faultOf 16 = .ok (.getfield 7, 3) := by decide +kernel
theorem dX7_faultOf_19 : decode cX7_faultOf 19 = .ok (.iload_n 2, 1) := by decide +kernel
theorem dX7_faultOf_20 : decode cX7_faultOf 20 = .ok (.iaload, 1) := by decide +kernel
theorem dX7_faultOf_21 : decode cX7_faultOf 21 = .ok (.invokestatic 90, 3) := by decide +kernel
theorem dX7_faultOf_24 : decode cX7_faultOf 24 = .ok (.ifCond .eq 37, 3) := by decide +kernel
theorem dX7_faultOf_27 : decode cX7_faultOf 27 = .ok (.goto 28, 3) := by decide +kernel
theorem dX7_faultOf_30 : decode cX7_faultOf 30 = .ok (.iload_n 2, 1) := by decide +kernel
theorem dX7_faultOf_31 : decode cX7_faultOf 31 = .ok (.bipush 8, 2) := by decide +kernel
theorem dX7_faultOf_33 : decode cX7_faultOf 33 = .ok (.if_icmp .ge 28, 3) := by decide +kernel
theorem dX7_faultOf_36 : decode cX7_faultOf 36 = .ok (.aload_n 0, 1) := by decide +kernel
theorem dX7_faultOf_37 : decode cX7_faultOf 37 = .ok (.getfield 7, 3) := by decide +kernel
theorem dX7_faultOf_40 : decode cX7_faultOf 40 = .ok (.iload_n 2, 1) := by decide +kernel
theorem dX7_faultOf_41 : decode cX7_faultOf 41 = .ok (.iaload, 1) := by decide +kernel
theorem dX7_faultOf_42 : decode cX7_faultOf 42 = .ok (.i2l, 1) := by decide +kernel
theorem dX7_faultOf_43 : decode cX7_faultOf 43 = .ok (.ldc2_w 94, 3) := by decide +kernel
theorem dX7_faultOf_46 : decode cX7_faultOf 46 = .ok (.ldc2_w 96, 3) := by decide +kernel
theorem dX7_faultOf_49 : decode cX7_faultOf 49 = .ok (.invokestatic 77, 3) := by decide +kernel
theorem dX7_faultOf_52 : decode cX7_faultOf 52 = .ok (.ifCond .eq 9, 3) := by decide +kernel
theorem dX7_faultOf_55 : decode cX7_faultOf 55 = .ok (.iinc 2 1, 3) := by decide +kernel
theorem dX7_faultOf_58 : decode cX7_faultOf 58 = .ok (.goto (-56), 3) := by decide +kernel
theorem dX7_faultOf_61 : decode cX7_faultOf 61 = .ok (.iload_n 2, 1) := by decide +kernel
theorem dX7_faultOf_62 : decode cX7_faultOf 62 = .ok (.ireturn, 1) := by decide +kernel
theorem dX7_fault_0 : decode cX7_fault 0 = .ok (.iload_n 1, 1) := by decide +kernel
theorem dX7_fault_1 : decode cX7_fault 1 = .ok (.i2l, 1) := by decide +kernel
theorem dX7_fault_2 : decode cX7_fault 2 = .ok (.lconst 0, 1) := by decide +kernel
theorem dX7_fault_3 : decode cX7_fault 3 = .ok (.lconst 1, 1) := by decide +kernel
theorem dX7_fault_4 : decode cX7_fault 4 = .ok (.invokestatic 77, 3) := by decide +kernel
theorem dX7_fault_7 : decode cX7_fault 7 = .ok (.ifCond .eq 11, 3) := by decide +kernel
theorem dX7_fault_10 : decode cX7_fault 10 = .ok (.aload_n 0, 1) := by decide +kernel
theorem dX7_fault_11 : decode cX7_fault 11 = .ok (.iload_n 1, 1) := by decide +kernel
theorem dX7_fault_12 : decode cX7_fault 12 = .ok (.invokevirtual 98, 3) := by decide +kernel
theorem dX7_fault_15 : decode cX7_fault 15 = .ok (.goto 5, 3) := by decide +kernel
theorem dX7_fault_18 : decode cX7_fault 18 = .ok (.bipush (-102), 2) := by decide +kernel
theorem dX7_fault_20 : decode cX7_fault 20 = .ok (.ireturn, 1) := by decide +kernel
theorem dX7_dryRows_0 : decode cX7_dryRows 0 = .ok (.iconst 0, 1) := by decide +kernel
theorem dX7_dryRows_1 : decode cX7_dryRows 1 = .ok (.istore_n 1, 1) := by decide +kernel
theorem dX7_dryRows_2 : decode cX7_dryRows 2 = .ok (.iload_n 1, 1) := by decide +kernel
theorem dX7_dryRows_3 : decode cX7_dryRows 3 = .ok (.bipush 6, 2) := by decide +kernel
theorem dX7_dryRows_5 : decode cX7_dryRows 5 = .ok (.if_icmp .ge 41, 3) := by decide +kernel
theorem dX7_dryRows_8 : decode cX7_dryRows 8 = .ok (.iconst 0, 1) := by decide +kernel
theorem dX7_dryRows_9 : decode cX7_dryRows 9 = .ok (.istore_n 2, 1) := by decide +kernel
theorem dX7_dryRows_10 : decode cX7_dryRows 10 = .ok (.iload_n 2, 1) := by decide +kernel
theorem dX7_dryRows_11 : decode cX7_dryRows 11 = .ok (.bipush 17, 2) := by decide +kernel
theorem dX7_dryRows_13 : decode cX7_dryRows 13 = .ok (.if_icmp .ge 27, 3) := by decide +kernel
theorem dX7_dryRows_16 : decode cX7_dryRows 16 = .ok (.aload_n 0, 1) := by decide +kernel
theorem dX7_dryRows_17 : decode cX7_dryRows 17 = .ok (.bipush 17, 2) := by decide +kernel
theorem dX7_dryRows_19 : decode cX7_dryRows 19 = .ok (.iload_n 1, 1) := by decide +kernel
theorem dX7_dryRows_20 : decode cX7_dryRows 20 = .ok (.imul, 1) := by decide +kernel
theorem dX7_dryRows_21 : decode cX7_dryRows 21 = .ok (.iload_n 2, 1) := by decide +kernel
theorem dX7_dryRows_22 : decode cX7_dryRows 22 = .ok (.iadd, 1) := by decide +kernel
theorem dX7_dryRows_23 : decode cX7_dryRows 23 = .ok (.iload_n 2, 1) := by decide +kernel
theorem dX7_dryRows_24 : decode cX7_dryRows 24 = .ok (.iconst 1, 1) := by decide +kernel
theorem dX7_dryRows_25 : decode cX7_dryRows 25 = .ok (.if_icmp .ne 7, 3) := by decide +kernel
theorem dX7_dryRows_28 : decode cX7_dryRows 28 = .ok (.iconst (-1), 1) := by decide +kernel
theorem dX7_dryRows_29 : decode cX7_dryRows 29 = .ok (.goto 4, 3) := by decide +kernel
theorem dX7_dryRows_32 : decode cX7_dryRows 32 = .ok (.iconst 0, 1) := by decide +kernel
theorem dX7_dryRows_33 : decode cX7_dryRows 33 = .ok (.iastore, 1) := by decide +kernel
theorem dX7_dryRows_34 : decode cX7_dryRows 34 = .ok (.iinc 2 1, 3) := by decide +kernel
theorem dX7_dryRows_37 : decode cX7_dryRows 37 = .ok (.goto (-27), 3) := by decide +kernel
theorem dX7_dryRows_40 : decode cX7_dryRows 40 = .ok (.iinc 1 1, 3) := by decide +kernel
theorem dX7_dryRows_43 : decode cX7_dryRows 43 = .ok (.goto (-41), 3) := by decide +kernel
theorem dX7_dryRows_46 : decode cX7_dryRows 46 = .ok (.return_, 1) := by decide +kernel
theorem dX7_outs_0 : decode cX7_outs 0 = .ok (.iconst 0, 1) := by decide +kernel
theorem dX7_outs_1 : decode cX7_outs 1 = .ok (.istore_n 1, 1) := by decide +kernel
theorem dX7_outs_2 : decode cX7_outs 2 = .ok (.iconst 0, 1) := by decide +kernel
theorem dX7_outs_3 : decode cX7_outs 3 = .ok (.istore_n 2, 1) := by decide +kernel
theorem dX7_outs_4 : decode cX7_outs 4 = .ok (.iload_n 2, 1) := by decide +kernel
theorem dX7_outs_5 : decode cX7_outs 5 = .ok (.bipush 6, 2) := by decide +kernel
theorem dX7_outs_7 : decode cX7_outs 7 = .ok (.if_icmp .ge 34, 3) := by decide +kernel
theorem dX7_outs_10 : decode cX7_outs 10 = .ok (.aload_n 0, 1) := by decide +kernel
theorem dX7_outs_11 : decode cX7_outs 11 = .ok (.getfield 101, 3) := by decide +kernel
theorem dX7_outs_14 : decode cX7_outs 14 = .ok (.ifCond .eq 27, 3) := by decide +kernel
theorem dX7_outs_17 : decode cX7_outs 17 = .ok (.iload_n 1, 1) := by decide +kernel
theorem dX7_outs_18 : decode cX7_outs 18 = .ok (.aload_n 0, 1) := by decide +kernel
theorem dX7_outs_19 : decode cX7_outs 19 = .ok (.getfield 16, 3) := by decide +kernel
theorem dX7_outs_22 : decode cX7_outs 22 = .ok (.iload_n 2, 1) := by decide +kernel
theorem dX7_outs_23 : decode cX7_outs 23 = .ok (.iaload, 1) := by decide +kernel
theorem dX7_outs_24 : decode cX7_outs 24 = .ok (.iconst (-1), 1) := by decide +kernel
theorem dX7_outs_25 : decode cX7_outs 25 = .ok (.if_icmp .ne 7, 3) := by decide +kernel
theorem dX7_outs_28 : decode cX7_outs 28 = .ok (.iconst 1, 1) := by decide +kernel
theorem dX7_outs_29 : decode cX7_outs 29 = .ok (.goto 4, 3) := by decide +kernel
theorem dX7_outs_32 : decode cX7_outs 32 = .ok (.iconst 0, 1) := by decide +kernel
theorem dX7_outs_33 : decode cX7_outs 33 = .ok (.iadd, 1) := by decide +kernel
theorem dX7_outs_34 : decode cX7_outs 34 = .ok (.istore_n 1, 1) := by decide +kernel
theorem dX7_outs_35 : decode cX7_outs 35 = .ok (.iinc 2 1, 3) := by decide +kernel
theorem dX7_outs_38 : decode cX7_outs 38 = .ok (.goto (-34), 3) := by decide +kernel
theorem dX7_outs_41 : decode cX7_outs 41 = .ok (.iload_n 1, 1) := by decide +kernel
theorem dX7_outs_42 : decode cX7_outs 42 = .ok (.ireturn, 1) := by decide +kernel
theorem dX7_street_0 : decode cX7_street 0 = .ok (.aload_n 0, 1) := by decide +kernel
theorem dX7_street_1 : decode cX7_street 1 = .ok (.getfield 81, 3) := by decide +kernel
theorem dX7_street_4 : decode cX7_street 4 = .ok (.bipush 17, 2) := by decide +kernel
theorem dX7_street_6 : decode cX7_street 6 = .ok (.if_icmp .ne 13, 3) := by decide +kernel
theorem dX7_street_9 : decode cX7_street 9 = .ok (.aload_n 0, 1) := by decide +kernel
theorem dX7_street_10 : decode cX7_street 10 = .ok (.iconst 0, 1) := by decide +kernel
theorem dX7_street_11 : decode cX7_street 11 = .ok (.invokevirtual 98, 3) := by decide +kernel
theorem dX7_street_14 : decode cX7_street 14 = .ok (.bipush 17, 2) := by decide +kernel
theorem dX7_street_16 : decode cX7_street 16 = .ok (.if_icmp .ge 6, 3) := by decide +kernel
theorem dX7_street_19 : decode cX7_street 19 = .ok (.bipush (-103), 2) := by decide +kernel
theorem dX7_street_21 : decode cX7_street 21 = .ok (.ireturn, 1) := by decide +kernel
theorem dX7_street_22 : decode cX7_street 22 = .ok (.iconst 0, 1) := by decide +kernel
theorem dX7_street_23 : decode cX7_street 23 = .ok (.istore_n 1, 1) := by decide +kernel
theorem dX7_street_24 : decode cX7_street 24 = .ok (.iload_n 1, 1) := by decide +kernel
theorem dX7_street_25 : decode cX7_street 25 = .ok (.bipush 6, 2) := by decide +kernel
theorem dX7_street_27 : decode cX7_street 27 = .ok (.if_icmp .ge 71, 3) := by decide +kernel
theorem dX7_street_30 : decode cX7_street 30 = .ok (.aload_n 0, 1) := by decide +kernel
theorem dX7_street_31 : decode cX7_street 31 = .ok (.getfield 13, 3) := by decide +kernel
theorem dX7_street_34 : decode cX7_street 34 = .ok (.iload_n 1, 1) := by decide +kernel
theorem dX7_street_35 : decode cX7_street 35 = .ok (.aload_n 0, 1) := by decide +kernel
theorem dX7_street_36 : decode cX7_street 36 = .ok (.getfield 7, 3) := by decide +kernel
theorem dX7_street_39 : decode cX7_street 39 = .ok (.iconst 3, 1) := by decide +kernel
theorem dX7_street_40 : decode cX7_street 40 = .ok (.iload_n 1, 1) := by decide +kernel
theorem dX7_street_41 : decode cX7_street 41 = .ok (.imul, 1) := by decide +kernel
theorem dX7_street_42 : decode cX7_street 42 = .ok (.iaload, 1) := by decide +kernel
theorem dX7_street_43 : decode cX7_street 43 = .ok (.invokestatic 84, 3) := by decide +kernel
theorem dX7_street_46 : decode cX7_street 46 = .ok (.iastore, 1) := by decide +kernel
theorem dX7_street_47 : decode cX7_street 47 = .ok (.aload_n 0, 1) := by decide +kernel
theorem dX7_street_48 : decode cX7_street 48 = .ok (.getfield 16, 3) := by decide +kernel
theorem dX7_street_51 : decode cX7_street 51 = .ok (.iload_n 1, 1) := by decide +kernel
theorem dX7_street_52 : decode cX7_street 52 = .ok (.aload_n 0, 1) := by decide +kernel
theorem dX7_street_53 : decode cX7_street 53 = .ok (.getfield 7, 3) := by decide +kernel
theorem dX7_street_56 : decode cX7_street 56 = .ok (.iconst 3, 1) := by decide +kernel
theorem dX7_street_57 : decode cX7_street 57 = .ok (.iload_n 1, 1) := by decide +kernel
theorem dX7_street_58 : decode cX7_street 58 = .ok (.imul, 1) := by decide +kernel
theorem dX7_street_59 : decode cX7_street 59 = .ok (.iconst 1, 1) := by decide +kernel
theorem dX7_street_60 : decode cX7_street 60 = .ok (.iadd, 1) := by decide +kernel
theorem dX7_street_61 : decode cX7_street 61 = .ok (.iaload, 1) := by decide +kernel
theorem dX7_street_62 : decode cX7_street 62 = .ok (.bipush 45, 2) := by decide +kernel
theorem dX7_street_64 : decode cX7_street 64 = .ok (.if_icmp .ne 7, 3) := by decide +kernel
theorem dX7_street_67 : decode cX7_street 67 = .ok (.iconst (-1), 1) := by decide +kernel
theorem dX7_street_68 : decode cX7_street 68 = .ok (.goto 16, 3) := by decide +kernel
theorem dX7_street_71 : decode cX7_street 71 = .ok (.aload_n 0, 1) := by decide +kernel
theorem dX7_street_72 : decode cX7_street 72 = .ok (.getfield 7, 3) := by decide +kernel
theorem dX7_street_75 : decode cX7_street 75 = .ok (.iconst 3, 1) := by decide +kernel
theorem dX7_street_76 : decode cX7_street 76 = .ok (.iload_n 1, 1) := by decide +kernel
theorem dX7_street_77 : decode cX7_street 77 = .ok (.imul, 1) := by decide +kernel
theorem dX7_street_78 : decode cX7_street 78 = .ok (.iconst 1, 1) := by decide +kernel
theorem dX7_street_79 : decode cX7_street 79 = .ok (.iadd, 1) := by decide +kernel
theorem dX7_street_80 : decode cX7_street 80 = .ok (.iaload, 1) := by decide +kernel
theorem dX7_street_81 : decode cX7_street 81 = .ok (.bipush 48, 2) := by decide +kernel
theorem dX7_street_83 : decode cX7_street 83 = .ok (.isub, 1) := by decide +kernel
theorem dX7_street_84 : decode cX7_street 84 = .ok (.iastore, 1) := by decide +kernel
theorem dX7_street_85 : decode cX7_street 85 = .ok (.aload_n 0, 1) := by decide +kernel
theorem dX7_street_86 : decode cX7_street 86 = .ok (.getfield 47, 3) := by decide +kernel
theorem dX7_street_89 : decode cX7_street 89 = .ok (.iload_n 1, 1) := by decide +kernel
theorem dX7_street_90 : decode cX7_street 90 = .ok (.iconst (-1), 1) := by decide +kernel
theorem dX7_street_91 : decode cX7_street 91 = .ok (.iastore, 1) := by decide +kernel
theorem dX7_street_92 : decode cX7_street 92 = .ok (.iinc 1 1, 3) := by decide +kernel
theorem dX7_street_95 : decode cX7_street 95 = .ok (.goto (-71), 3) := by decide +kernel
theorem dX7_street_98 : decode cX7_street 98 = .ok (.aload_n 0, 1) := by decide +kernel
theorem dX7_street_99 : decode cX7_street 99 = .ok (.getfield 19, 3) := by decide +kernel
theorem dX7_street_102 : decode cX7_street 102 = .ok (.invokestatic 105, 3) := by decide +kernel
theorem dX7_street_105 : decode cX7_street 105 = .ok (.aload_n 0, 1) := by decide +kernel
theorem dX7_street_106 : decode cX7_street 106 = .ok (.iconst 0, 1) := by decide +kernel
theorem dX7_street_107 : decode cX7_street 107 = .ok (.putfield 109, 3) := by decide +kernel
theorem dX7_street_110 : decode cX7_street 110 = .ok (.aload_n 0, 1) := by decide +kernel
theorem dX7_street_111 : decode cX7_street 111 = .ok (.iconst 1, 1) := by decide +kernel
theorem dX7_street_112 : decode cX7_street 112 = .ok (.putfield 101, 3) := by decide +kernel
theorem dX7_street_115 : decode cX7_street 115 = .ok (.aload_n 0, 1) := by decide +kernel
theorem dX7_street_116 : decode cX7_street 116 = .ok (.dup, 1) := by decide +kernel
theorem dX7_street_117 : decode cX7_street 117 = .ok (.getfield 112, 3) := by decide +kernel
theorem dX7_street_120 : decode cX7_street 120 = .ok (.iconst 1, 1) := by decide +kernel
theorem dX7_street_121 : decode cX7_street 121 = .ok (.iadd, 1) := by decide +kernel
theorem dX7_street_122 : decode cX7_street 122 = .ok (.putfield 112, 3) := by decide +kernel
theorem dX7_street_125 : decode cX7_street 125 = .ok (.aload_n 0, 1) := by decide +kernel
theorem dX7_street_126 : decode cX7_street 126 = .ok (.iconst 0, 1) := by decide +kernel
theorem dX7_street_127 : decode cX7_street 127 = .ok (.putfield 81, 3) := by decide +kernel
theorem dX7_street_130 : decode cX7_street 130 = .ok (.aload_n 0, 1) := by decide +kernel
theorem dX7_street_131 : decode cX7_street 131 = .ok (.invokevirtual 115, 3) := by decide +kernel
theorem dX7_street_134 : decode cX7_street 134 = .ok (.ireturn, 1) := by decide +kernel
theorem dX7_isGutter_0 : decode cX7_isGutter 0 = .ok (.aload_n 0, 1) := by decide +kernel
theorem dX7_isGutter_1 : decode cX7_isGutter 1 = .ok (.getfield 101, 3) := by decide +kernel
theorem dX7_isGutter_4 : decode cX7_isGutter 4 = .ok (.ifCond .eq 19, 3) := by decide +kernel
theorem dX7_isGutter_7 : decode cX7_isGutter 7 = .ok (.iload_n 1, 1) := by decide +kernel
theorem dX7_isGutter_8 : decode cX7_isGutter 8 = .ok (.i2l, 1) := by decide +kernel
theorem dX7_isGutter_9 : decode cX7_isGutter 9 = .ok (.lconst 0, 1) := by decide +kernel
theorem dX7_isGutter_10 : decode cX7_isGutter 10 = .ok (.ldc2_w 88, 3) := by decide +kernel
theorem dX7_isGutter_13 : decode cX7_isGutter 13 = .ok (.invokestatic 77, 3) := by decide +kernel
theorem dX7_isGutter_16 : decode cX7_isGutter 16 = .ok (.ifCond .eq 7, 3) := by decide +kernel
theorem dX7_isGutter_19 : decode cX7_isGutter 19 = .ok (.iconst 1, 1) := by decide +kernel
theorem dX7_isGutter_20 : decode cX7_isGutter 20 = .ok (.goto 4, 3) := by decide +kernel
theorem dX7_isGutter_23 : decode cX7_isGutter 23 = .ok (.iconst 0, 1) := by decide +kernel
theorem dX7_isGutter_24 : decode cX7_isGutter 24 = .ok (.ireturn, 1) := by decide +kernel
theorem dX7_tell_0 : decode cX7_tell 0 = .ok (.iload_n 2, 1) := by decide +kernel
theorem dX7_tell_1 : decode cX7_tell 1 = .ok (.tableswitch 99 0 5 #[39, 46, 53, 63, 75, 87], 39) := by decide +kernel
theorem dX7_tell_40 : decode cX7_tell 40 = .ok (.aload_n 0, 1) := by decide +kernel
theorem dX7_tell_41 : decode cX7_tell 41 = .ok (.getfield 13, 3) := by decide +kernel
theorem dX7_tell_44 : decode cX7_tell 44 = .ok (.iload_n 1, 1) := by decide +kernel
theorem dX7_tell_45 : decode cX7_tell 45 = .ok (.iaload, 1) := by decide +kernel
theorem dX7_tell_46 : decode cX7_tell 46 = .ok (.ireturn, 1) := by decide +kernel
theorem dX7_tell_47 : decode cX7_tell 47 = .ok (.aload_n 0, 1) := by decide +kernel
theorem dX7_tell_48 : decode cX7_tell 48 = .ok (.getfield 16, 3) := by decide +kernel
theorem dX7_tell_51 : decode cX7_tell 51 = .ok (.iload_n 1, 1) := by decide +kernel
theorem dX7_tell_52 : decode cX7_tell 52 = .ok (.iaload, 1) := by decide +kernel
theorem dX7_tell_53 : decode cX7_tell 53 = .ok (.ireturn, 1) := by decide +kernel
theorem dX7_tell_54 : decode cX7_tell 54 = .ok (.aload_n 0, 1) := by decide +kernel
theorem dX7_tell_55 : decode cX7_tell 55 = .ok (.getfield 19, 3) := by decide +kernel
theorem dX7_tell_58 : decode cX7_tell 58 = .ok (.bipush 17, 2) := by decide +kernel
theorem dX7_tell_60 : decode cX7_tell 60 = .ok (.iload_n 1, 1) := by decide +kernel
theorem dX7_tell_61 : decode cX7_tell 61 = .ok (.imul, 1) := by decide +kernel
theorem dX7_tell_62 : decode cX7_tell 62 = .ok (.iaload, 1) := by decide +kernel
theorem dX7_tell_63 : decode cX7_tell 63 = .ok (.ireturn, 1) := by decide +kernel
theorem dX7_tell_64 : decode cX7_tell 64 = .ok (.aload_n 0, 1) := by decide +kernel
theorem dX7_tell_65 : decode cX7_tell 65 = .ok (.getfield 19, 3) := by decide +kernel
theorem dX7_tell_68 : decode cX7_tell 68 = .ok (.bipush 17, 2) := by decide +kernel
theorem dX7_tell_70 : decode cX7_tell 70 = .ok (.iload_n 1, 1) := by decide +kernel
theorem dX7_tell_71 : decode cX7_tell 71 = .ok (.imul, 1) := by decide +kernel
theorem dX7_tell_72 : decode cX7_tell 72 = .ok (.iconst 1, 1) := by decide +kernel
theorem dX7_tell_73 : decode cX7_tell 73 = .ok (.iadd, 1) := by decide +kernel
theorem dX7_tell_74 : decode cX7_tell 74 = .ok (.iaload, 1) := by decide +kernel
theorem dX7_tell_75 : decode cX7_tell 75 = .ok (.ireturn, 1) := by decide +kernel
theorem dX7_tell_76 : decode cX7_tell 76 = .ok (.aload_n 0, 1) := by decide +kernel
theorem dX7_tell_77 : decode cX7_tell 77 = .ok (.getfield 19, 3) := by decide +kernel
theorem dX7_tell_80 : decode cX7_tell 80 = .ok (.bipush 17, 2) := by decide +kernel
theorem dX7_tell_82 : decode cX7_tell 82 = .ok (.iload_n 1, 1) := by decide +kernel
theorem dX7_tell_83 : decode cX7_tell 83 = .ok (.imul, 1) := by decide +kernel
theorem dX7_tell_84 : decode cX7_tell 84 = .ok (.iconst 4, 1) := by decide +kernel
theorem dX7_tell_85 : decode cX7_tell 85 = .ok (.iadd, 1) := by decide +kernel
theorem dX7_tell_86 : decode cX7_tell 86 = .ok (.iaload, 1) := by decide +kernel
theorem dX7_tell_87 : decode cX7_tell 87 = .ok (.ireturn, 1) := by decide +kernel
theorem dX7_tell_88 : decode cX7_tell 88 = .ok (.aload_n 0, 1) := by decide +kernel
theorem dX7_tell_89 : decode cX7_tell 89 = .ok (.getfield 19, 3) := by decide +kernel
theorem dX7_tell_92 : decode cX7_tell 92 = .ok (.bipush 17, 2) := by decide +kernel
theorem dX7_tell_94 : decode cX7_tell 94 = .ok (.iload_n 1, 1) := by decide +kernel
theorem dX7_tell_95 : decode cX7_tell 95 = .ok (.imul, 1) := by decide +kernel
theorem dX7_tell_96 : decode cX7_tell 96 = .ok (.iconst 3, 1) := by decide +kernel
theorem dX7_tell_97 : decode cX7_tell 97 = .ok (.iadd, 1) := by decide +kernel
theorem dX7_tell_98 : decode cX7_tell 98 = .ok (.iaload, 1) := by decide +kernel
theorem dX7_tell_99 : decode cX7_tell 99 = .ok (.ireturn, 1) := by decide +kernel
theorem dX7_tell_100 : decode cX7_tell 100 = .ok (.bipush (-102), 2) := by decide +kernel
theorem dX7_tell_102 : decode cX7_tell 102 = .ok (.ireturn, 1) := by decide +kernel
theorem dX7_about_0 : decode cX7_about 0 = .ok (.aload_n 0, 1) := by decide +kernel
theorem dX7_about_1 : decode cX7_about 1 = .ok (.iload_n 1, 1) := by decide +kernel
theorem dX7_about_2 : decode cX7_about 2 = .ok (.invokevirtual 119, 3) := by decide +kernel
theorem dX7_about_5 : decode cX7_about 5 = .ok (.ifCond .eq 12, 3) := by decide +kernel
theorem dX7_about_8 : decode cX7_about 8 = .ok (.aload_n 0, 1) := by decide +kernel
theorem dX7_about_9 : decode cX7_about 9 = .ok (.iload_n 1, 1) := by decide +kernel
theorem dX7_about_10 : decode cX7_about 10 = .ok (.iload_n 2, 1) := by decide +kernel
theorem dX7_about_11 : decode cX7_about 11 = .ok (.invokevirtual 123, 3) := by decide +kernel
theorem dX7_about_14 : decode cX7_about 14 = .ok (.goto 5, 3) := by decide +kernel
theorem dX7_about_17 : decode cX7_about 17 = .ok (.bipush (-101), 2) := by decide +kernel
theorem dX7_about_19 : decode cX7_about 19 = .ok (.ireturn, 1) := by decide +kernel
theorem dX7_as_0 : decode cX7_as 0 = .ok (.aload_n 0, 1) := by decide +kernel
theorem dX7_as_1 : decode cX7_as 1 = .ok (.iload_n 1, 1) := by decide +kernel
theorem dX7_as_2 : decode cX7_as 2 = .ok (.invokevirtual 119, 3) := by decide +kernel
theorem dX7_as_5 : decode cX7_as 5 = .ok (.ifCond .ne 6, 3) := by decide +kernel
theorem dX7_as_8 : decode cX7_as 8 = .ok (.bipush (-101), 2) := by decide +kernel
theorem dX7_as_10 : decode cX7_as 10 = .ok (.ireturn, 1) := by decide +kernel
theorem dX7_as_11 : decode cX7_as 11 = .ok (.iload_n 2, 1) := by decide +kernel
theorem dX7_as_12 : decode cX7_as 12 = .ok (.i2l, 1) := by decide +kernel
theorem dX7_as_13 : decode cX7_as 13 = .ok (.lconst 0, 1) := by decide +kernel
theorem dX7_as_14 : decode cX7_as 14 = .ok (.ldc2_w 127, 3) := by decide +kernel
theorem dX7_as_17 : decode cX7_as 17 = .ok (.invokestatic 77, 3) := by decide +kernel
theorem dX7_as_20 : decode cX7_as 20 = .ok (.ifCond .ne 6, 3) := by decide +kernel
theorem dX7_as_23 : decode cX7_as 23 = .ok (.bipush (-102), 2) := by decide +kernel
theorem dX7_as_25 : decode cX7_as 25 = .ok (.ireturn, 1) := by decide +kernel
theorem dX7_as_26 : decode cX7_as 26 = .ok (.iload_n 2, 1) := by decide +kernel
theorem dX7_as_27 : decode cX7_as 27 = .ok (.ifCond .eq 28, 3) := by decide +kernel
theorem dX7_as_30 : decode cX7_as 30 = .ok (.iload_n 2, 1) := by decide +kernel
theorem dX7_as_31 : decode cX7_as 31 = .ok (.aload_n 0, 1) := by decide +kernel
theorem dX7_as_32 : decode cX7_as 32 = .ok (.getfield 13, 3) := by decide +kernel
theorem dX7_as_35 : decode cX7_as 35 = .ok (.iload_n 1, 1) := by decide +kernel
theorem dX7_as_36 : decode cX7_as 36 = .ok (.iaload, 1) := by decide +kernel
theorem dX7_as_37 : decode cX7_as 37 = .ok (.if_icmp .eq 18, 3) := by decide +kernel
theorem dX7_as_40 : decode cX7_as 40 = .ok (.iload_n 2, 1) := by decide +kernel
theorem dX7_as_41 : decode cX7_as 41 = .ok (.iconst 2, 1) := by decide +kernel
theorem dX7_as_42 : decode cX7_as 42 = .ok (.if_icmp .ne 17, 3) := by decide +kernel
theorem dX7_as_45 : decode cX7_as 45 = .ok (.aload_n 0, 1) := by decide +kernel
theorem dX7_as_46 : decode cX7_as 46 = .ok (.getfield 13, 3) := by decide +kernel
theorem dX7_as_49 : decode cX7_as 49 = .ok (.iload_n 1, 1) := by decide +kernel
theorem dX7_as_50 : decode cX7_as 50 = .ok (.iaload, 1) := by decide +kernel
theorem dX7_as_51 : decode cX7_as 51 = .ok (.iconst 4, 1) := by decide +kernel
theorem dX7_as_52 : decode cX7_as 52 = .ok (.if_icmp .ne 7, 3) := by decide +kernel
theorem dX7_as_55 : decode cX7_as 55 = .ok (.iconst 1, 1) := by decide +kernel
theorem dX7_as_56 : decode cX7_as 56 = .ok (.goto 4, 3) := by decide +kernel
theorem dX7_as_59 : decode cX7_as 59 = .ok (.iconst 0, 1) := by decide +kernel
theorem dX7_as_60 : decode cX7_as 60 = .ok (.istore_n 3, 1) := by decide +kernel
theorem dX7_as_61 : decode cX7_as 61 = .ok (.iload_n 3, 1) := by decide +kernel
theorem dX7_as_62 : decode cX7_as 62 = .ok (.ifCond .eq 7, 3) := by decide +kernel
theorem dX7_as_65 : decode cX7_as 65 = .ok (.iload_n 1, 1) := by decide +kernel
theorem dX7_as_66 : decode cX7_as 66 = .ok (.goto 4, 3) := by decide +kernel
theorem dX7_as_69 : decode cX7_as 69 = .ok (.iconst (-1), 1) := by decide +kernel
theorem dX7_as_70 : decode cX7_as 70 = .ok (.ireturn, 1) := by decide +kernel
theorem dX7_word_0 : decode cX7_word 0 = .ok (.aload_n 0, 1) := by decide +kernel
theorem dX7_word_1 : decode cX7_word 1 = .ok (.iload_n 1, 1) := by decide +kernel
theorem dX7_word_2 : decode cX7_word 2 = .ok (.invokevirtual 119, 3) := by decide +kernel
theorem dX7_word_5 : decode cX7_word 5 = .ok (.ifCond .eq 42, 3) := by decide +kernel
theorem dX7_word_8 : decode cX7_word 8 = .ok (.iload_n 2, 1) := by decide +kernel
theorem dX7_word_9 : decode cX7_word 9 = .ok (.i2l, 1) := by decide +kernel
theorem dX7_word_10 : decode cX7_word 10 = .ok (.lconst 0, 1) := by decide +kernel
theorem dX7_word_11 : decode cX7_word 11 = .ok (.aload_n 0, 1) := by decide +kernel
theorem dX7_word_12 : decode cX7_word 12 = .ok (.getfield 19, 3) := by decide +kernel
theorem dX7_word_15 : decode cX7_word 15 = .ok (.bipush 17, 2) := by decide +kernel
theorem dX7_word_17 : decode cX7_word 17 = .ok (.iload_n 1, 1) := by decide +kernel
theorem dX7_word_18 : decode cX7_word 18 = .ok (.imul, 1) := by decide +kernel
theorem dX7_word_19 : decode cX7_word 19 = .ok (.iconst 4, 1) := by decide +kernel
theorem dX7_word_20 : decode cX7_word 20 = .ok (.iadd, 1) := by decide +kernel
theorem dX7_word_21 : decode cX7_word 21 = .ok (.iaload, 1) := by decide +kernel
theorem dX7_word_22 : decode cX7_word 22 = .ok (.iconst 1, 1) := by decide +kernel
theorem dX7_word_23 : decode cX7_word 23 = .ok (.isub, 1) := by decide +kernel
theorem dX7_word_24 : decode cX7_word 24 = .ok (.i2l, 1) := by decide +kernel
theorem dX7_word_25 : decode cX7_word 25 = .ok (.invokestatic 77, 3) := by decide +kernel
theorem dX7_word_28 : decode cX7_word 28 = .ok (.ifCond .eq 19, 3) := by decide +kernel
theorem dX7_word_31 : decode cX7_word 31 = .ok (.aload_n 0, 1) := by decide +kernel
theorem dX7_word_32 : decode cX7_word 32 = .ok (.getfield 19, 3) := by decide +kernel
theorem dX7_word_35 : decode cX7_word 35 = .ok (.bipush 17, 2) := by decide +kernel
theorem dX7_word_37 : decode cX7_word 37 = .ok (.iload_n 1, 1) := by decide +kernel
theorem dX7_word_38 : decode cX7_word 38 = .ok (.imul, 1) := by decide +kernel
theorem dX7_word_39 : decode cX7_word 39 = .ok (.iconst 5, 1) := by decide +kernel
theorem dX7_word_40 : decode cX7_word 40 = .ok (.iadd, 1) := by decide +kernel
theorem dX7_word_41 : decode cX7_word 41 = .ok (.iload_n 2, 1) := by decide +kernel
theorem dX7_word_42 : decode cX7_word 42 = .ok (.iadd, 1) := by decide +kernel
theorem dX7_word_43 : decode cX7_word 43 = .ok (.iaload, 1) := by decide +kernel
theorem dX7_word_44 : decode cX7_word 44 = .ok (.goto 5, 3) := by decide +kernel
theorem dX7_word_47 : decode cX7_word 47 = .ok (.bipush (-101), 2) := by decide +kernel
theorem dX7_word_49 : decode cX7_word 49 = .ok (.ireturn, 1) := by decide +kernel
theorem dX7_through_0 : decode cX7_through 0 = .ok (.bipush 17, 2) := by decide +kernel
theorem dX7_through_2 : decode cX7_through 2 = .ok (.iload_n 1, 1) := by decide +kernel
theorem dX7_through_3 : decode cX7_through 3 = .ok (.imul, 1) := by decide +kernel
theorem dX7_through_4 : decode cX7_through 4 = .ok (.istore 4, 2) := by decide +kernel
theorem dX7_through_6 : decode cX7_through 6 = .ok (.aload_n 0, 1) := by decide +kernel
theorem dX7_through_7 : decode cX7_through 7 = .ok (.iload 4, 2) := by decide +kernel
theorem dX7_through_9 : decode cX7_through 9 = .ok (.iconst 1, 1) := by decide +kernel
theorem dX7_through_10 : decode cX7_through 10 = .ok (.iadd, 1) := by decide +kernel
theorem dX7_through_11 : decode cX7_through 11 = .ok (.iaload, 1) := by decide +kernel
theorem dX7_through_12 : decode cX7_through 12 = .ok (.istore 5, 2) := by decide +kernel
theorem dX7_through_14 : decode cX7_through 14 = .ok (.aload_n 0, 1) := by decide +kernel
theorem dX7_through_15 : decode cX7_through 15 = .ok (.iload 4, 2) := by decide +kernel
theorem dX7_through_17 : decode cX7_through 17 = .ok (.dup2, 1) := by decide +kernel
theorem dX7_through_18 : decode cX7_through 18 = .ok (.iaload, 1) := by decide +kernel
theorem dX7_through_19 : decode cX7_through 19 = .ok (.iconst 1, 1) := by decide +kernel
theorem dX7_through_20 : decode cX7_through 20 = .ok (.iadd, 1) := by decide +kernel
theorem dX7_through_21 : decode cX7_through 21 = .ok (.iastore, 1) := by decide +kernel
theorem dX7_through_22 : decode cX7_through 22 = .ok (.iload_n 2, 1) := by decide +kernel
theorem dX7_through_23 : decode cX7_through 23 = .ok (.iconst 1, 1) := by decide +kernel
theorem dX7_through_24 : decode cX7_through 24 = .ok (.if_icmp .ne 13, 3) := by decide +kernel
theorem dX7_through_27 : decode cX7_through 27 = .ok (.aload_n 0, 1) := by decide +kernel
theorem dX7_through_28 : decode cX7_through 28 = .ok (.iload 4, 2) := by decide +kernel
theorem dX7_through_30 : decode cX7_through 30 = .ok (.iconst 1, 1) := by decide +kernel
theorem dX7_through_31 : decode cX7_through 31 = .ok (.iadd, 1) := by decide +kernel
theorem dX7_through_32 : decode cX7_through 32 = .ok (.iload_n 3, 1) := by decide +kernel
theorem dX7_through_33 : decode cX7_through 33 = .ok (.iastore, 1) := by decide +kernel
theorem dX7_through_34 : decode cX7_through 34 = .ok (.iload 5, 2) := by decide +kernel
theorem dX7_through_36 : decode cX7_through 36 = .ok (.ireturn, 1) := by decide +kernel
theorem dX7_through_37 : decode cX7_through 37 = .ok (.iconst 1, 1) := by decide +kernel
theorem dX7_through_38 : decode cX7_through 38 = .ok (.istore 6, 2) := by decide +kernel
theorem dX7_through_40 : decode cX7_through 40 = .ok (.iload_n 2, 1) := by decide +kernel
theorem dX7_through_41 : decode cX7_through 41 = .ok (.iconst 3, 1) := by decide +kernel
theorem dX7_through_42 : decode cX7_through 42 = .ok (.if_icmp .ne 19, 3) := by decide +kernel
theorem dX7_through_45 : decode cX7_through 45 = .ok (.iload_n 3, 1) := by decide +kernel
theorem dX7_through_46 : decode cX7_through 46 = .ok (.ifCond .eq 12, 3) := by decide +kernel
theorem dX7_through_49 : decode cX7_through 49 = .ok (.iload_n 3, 1) := by decide +kernel
theorem dX7_through_50 : decode cX7_through 50 = .ok (.iconst 4, 1) := by decide +kernel
theorem dX7_through_51 : decode cX7_through 51 = .ok (.if_icmp .eq 7, 3) := by decide +kernel
theorem dX7_through_54 : decode cX7_through 54 = .ok (.iconst 1, 1) := by decide +kernel
theorem dX7_through_55 : decode cX7_through 55 = .ok (.goto 4, 3) := by decide +kernel
theorem dX7_through_58 : decode cX7_through 58 = .ok (.iconst 0, 1) := by decide +kernel
theorem dX7_through_59 : decode cX7_through 59 = .ok (.istore 6, 2) := by decide +kernel
theorem dX7_through_61 : decode cX7_through 61 = .ok (.iload_n 2, 1) := by decide +kernel
theorem dX7_through_62 : decode cX7_through 62 = .ok (.iconst 2, 1) := by decide +kernel
theorem dX7_through_63 : decode cX7_through 63 = .ok (.if_icmp .eq 8, 3) := by decide +kernel
theorem dX7_through_66 : decode cX7_through 66 = .ok (.iload_n 2, 1) := by decide +kernel
theorem dX7_through_67 : decode cX7_through 67 = .ok (.iconst 4, 1) := by decide +kernel
theorem dX7_through_68 : decode cX7_through 68 = .ok (.if_icmp .ne 71, 3) := by decide +kernel
theorem dX7_through_71 : decode cX7_through 71 = .ok (.aload_n 0, 1) := by decide +kernel
theorem dX7_through_72 : decode cX7_through 72 = .ok (.iload 4, 2) := by decide +kernel
theorem dX7_through_74 : decode cX7_through 74 = .ok (.iconst 1, 1) := by decide +kernel
theorem dX7_through_75 : decode cX7_through 75 = .ok (.iadd, 1) := by decide +kernel
theorem dX7_through_76 : decode cX7_through 76 = .ok (.iload_n 3, 1) := by decide +kernel
theorem dX7_through_77 : decode cX7_through 77 = .ok (.iastore, 1) := by decide +kernel
theorem dX7_through_78 : decode cX7_through 78 = .ok (.iload_n 3, 1) := by decide +kernel
theorem dX7_through_79 : decode cX7_through 79 = .ok (.iload 5, 2) := by decide +kernel
theorem dX7_through_81 : decode cX7_through 81 = .ok (.if_icmp .eq 7, 3) := by decide +kernel
theorem dX7_through_84 : decode cX7_through 84 = .ok (.iconst 1, 1) := by decide +kernel
theorem dX7_through_85 : decode cX7_through 85 = .ok (.goto 4, 3) := by decide +kernel
theorem dX7_through_88 : decode cX7_through 88 = .ok (.iconst 0, 1) := by decide +kernel
theorem dX7_through_89 : decode cX7_through 89 = .ok (.istore 6, 2) := by decide +kernel
theorem dX7_through_91 : decode cX7_through 91 = .ok (.aload_n 0, 1) := by decide +kernel
theorem dX7_through_92 : decode cX7_through 92 = .ok (.iload 4, 2) := by decide +kernel
theorem dX7_through_94 : decode cX7_through 94 = .ok (.iconst 2, 1) := by decide +kernel
theorem dX7_through_95 : decode cX7_through 95 = .ok (.iadd, 1) := by decide +kernel
theorem dX7_through_96 : decode cX7_through 96 = .ok (.dup2, 1) := by decide +kernel
theorem dX7_through_97 : decode cX7_through 97 = .ok (.iaload, 1) := by decide +kernel
theorem dX7_through_98 : decode cX7_through 98 = .ok (.iload 6, 2) := by decide +kernel
theorem dX7_through_100 : decode cX7_through 100 = .ok (.ifCond .eq 7, 3) := by decide +kernel
theorem dX7_through_103 : decode cX7_through 103 = .ok (.iconst 1, 1) := by decide +kernel
theorem dX7_through_104 : decode cX7_through 104 = .ok (.goto 4, 3) := by decide +kernel
theorem dX7_through_107 : decode cX7_through 107 = .ok (.iconst 0, 1) := by decide +kernel
theorem dX7_through_108 : decode cX7_through 108 = .ok (.iadd, 1) := by decide +kernel
theorem dX7_through_109 : decode cX7_through 109 = .ok (.iastore, 1) := by decide +kernel
theorem dX7_through_110 : decode cX7_through 110 = .ok (.iload 6, 2) := by decide +kernel
theorem dX7_through_112 : decode cX7_through 112 = .ok (.ifCond .eq 24, 3) := by decide +kernel
theorem dX7_through_115 : decode cX7_through 115 = .ok (.iload_n 2, 1) := by decide +kernel
theorem dX7_through_116 : decode cX7_through 116 = .ok (.iconst 2, 1) := by decide +kernel
theorem dX7_through_117 : decode cX7_through 117 = .ok (.if_icmp .eq 15, 3) := by decide +kernel
theorem dX7_through_120 : decode cX7_through 120 = .ok (.aload_n 0, 1) := by decide +kernel
theorem dX7_through_121 : decode cX7_through 121 = .ok (.iload 4, 2) := by decide +kernel
theorem dX7_through_123 : decode cX7_through 123 = .ok (.iconst 2, 1) := by decide +kernel
theorem dX7_through_124 : decode cX7_through 124 = .ok (.iadd, 1) := by decide +kernel
theorem dX7_through_125 : decode cX7_through 125 = .ok (.iaload, 1) := by decide +kernel
theorem dX7_through_126 : decode cX7_through 126 = .ok (.iconst 2, 1) := by decide +kernel
theorem dX7_through_127 : decode cX7_through 127 = .ok (.irem, 1) := by decide +kernel
theorem dX7_through_128 : decode cX7_through 128 = .ok (.iconst 1, 1) := by decide +kernel
theorem dX7_through_129 : decode cX7_through 129 = .ok (.if_icmp .ne 7, 3) := by decide +kernel
theorem dX7_through_132 : decode cX7_through 132 = .ok (.iconst 1, 1) := by decide +kernel
theorem dX7_through_133 : decode cX7_through 133 = .ok (.goto 4, 3) := by decide +kernel
theorem dX7_through_136 : decode cX7_through 136 = .ok (.iconst 0, 1) := by decide +kernel
theorem dX7_through_137 : decode cX7_through 137 = .ok (.istore 6, 2) := by decide +kernel
theorem dX7_through_139 : decode cX7_through 139 = .ok (.aload_n 0, 1) := by decide +kernel
theorem dX7_through_140 : decode cX7_through 140 = .ok (.iload 4, 2) := by decide +kernel
theorem dX7_through_142 : decode cX7_through 142 = .ok (.iconst 3, 1) := by decide +kernel
theorem dX7_through_143 : decode cX7_through 143 = .ok (.iadd, 1) := by decide +kernel
theorem dX7_through_144 : decode cX7_through 144 = .ok (.dup2, 1) := by decide +kernel
theorem dX7_through_145 : decode cX7_through 145 = .ok (.iaload, 1) := by decide +kernel
theorem dX7_through_146 : decode cX7_through 146 = .ok (.iload 6, 2) := by decide +kernel
theorem dX7_through_148 : decode cX7_through 148 = .ok (.ifCond .eq 7, 3) := by decide +kernel
theorem dX7_through_151 : decode cX7_through 151 = .ok (.iconst 0, 1) := by decide +kernel
theorem dX7_through_152 : decode cX7_through 152 = .ok (.goto 4, 3) := by decide +kernel
theorem dX7_through_155 : decode cX7_through 155 = .ok (.iconst 1, 1) := by decide +kernel
theorem dX7_through_156 : decode cX7_through 156 = .ok (.iadd, 1) := by decide +kernel
theorem dX7_through_157 : decode cX7_through 157 = .ok (.iastore, 1) := by decide +kernel
theorem dX7_through_158 : decode cX7_through 158 = .ok (.iload 6, 2) := by decide +kernel
theorem dX7_through_160 : decode cX7_through 160 = .ok (.ifCond .eq 7, 3) := by decide +kernel
theorem dX7_through_163 : decode cX7_through 163 = .ok (.iload_n 3, 1) := by decide +kernel
theorem dX7_through_164 : decode cX7_through 164 = .ok (.goto 4, 3) := by decide +kernel
theorem dX7_through_167 : decode cX7_through 167 = .ok (.iconst (-1), 1) := by decide +kernel
theorem dX7_through_168 : decode cX7_through 168 = .ok (.ireturn, 1) := by decide +kernel
theorem dX7_runs_0 : decode cX7_runs 0 = .ok (.iload_n 3, 1) := by decide +kernel
theorem dX7_runs_1 : decode cX7_runs 1 = .ok (.istore 5, 2) := by decide +kernel
theorem dX7_runs_3 : decode cX7_runs 3 = .ok (.iload 4, 2) := by decide +kernel
theorem dX7_runs_5 : decode cX7_runs 5 = .ok (.istore 6, 2) := by decide +kernel
theorem dX7_runs_7 : decode cX7_runs 7 = .ok (.aload_n 0, 1) := by decide +kernel
theorem dX7_runs_8 : decode cX7_runs 8 = .ok (.iload 5, 2) := by decide +kernel
theorem dX7_runs_10 : decode cX7_runs 10 = .ok (.aload_n 1, 1) := by decide +kernel
theorem dX7_runs_11 : decode cX7_runs 11 = .ok (.iload 5, 2) := by decide +kernel
theorem dX7_runs_13 : decode cX7_runs 13 = .ok (.iaload, 1) := by decide +kernel
theorem dX7_runs_14 : decode cX7_runs 14 = .ok (.iload 6, 2) := by decide +kernel
theorem dX7_runs_16 : decode cX7_runs 16 = .ok (.invokestatic 129, 3) := by decide +kernel
theorem dX7_runs_19 : decode cX7_runs 19 = .ok (.istore 6, 2) := by decide +kernel
theorem dX7_runs_21 : decode cX7_runs 21 = .ok (.iload 6, 2) := by decide +kernel
theorem dX7_runs_23 : decode cX7_runs 23 = .ok (.iconst (-1), 1) := by decide +kernel
theorem dX7_runs_24 : decode cX7_runs 24 = .ok (.if_icmp .ne 5, 3) := by decide +kernel
theorem dX7_runs_27 : decode cX7_runs 27 = .ok (.iconst (-1), 1) := by decide +kernel
theorem dX7_runs_28 : decode cX7_runs 28 = .ok (.ireturn, 1) := by decide +kernel
theorem dX7_runs_29 : decode cX7_runs 29 = .ok (.aload_n 2, 1) := by decide +kernel
theorem dX7_runs_30 : decode cX7_runs 30 = .ok (.iload 5, 2) := by decide +kernel
theorem dX7_runs_32 : decode cX7_runs 32 = .ok (.iaload, 1) := by decide +kernel
theorem dX7_runs_33 : decode cX7_runs 33 = .ok (.iconst (-1), 1) := by decide +kernel
theorem dX7_runs_34 : decode cX7_runs 34 = .ok (.if_icmp .ne 44, 3) := by decide +kernel
theorem dX7_runs_37 : decode cX7_runs 37 = .ok (.aload_n 0, 1) := by decide +kernel
theorem dX7_runs_38 : decode cX7_runs 38 = .ok (.bipush 17, 2) := by decide +kernel
theorem dX7_runs_40 : decode cX7_runs 40 = .ok (.iload 5, 2) := by decide +kernel
theorem dX7_runs_42 : decode cX7_runs 42 = .ok (.imul, 1) := by decide +kernel
theorem dX7_runs_43 : decode cX7_runs 43 = .ok (.iconst 4, 1) := by decide +kernel
theorem dX7_runs_44 : decode cX7_runs 44 = .ok (.iadd, 1) := by decide +kernel
theorem dX7_runs_45 : decode cX7_runs 45 = .ok (.iaload, 1) := by decide +kernel
theorem dX7_runs_46 : decode cX7_runs 46 = .ok (.istore 7, 2) := by decide +kernel
theorem dX7_runs_48 : decode cX7_runs 48 = .ok (.aload_n 0, 1) := by decide +kernel
theorem dX7_runs_49 : decode cX7_runs 49 = .ok (.bipush 17, 2) := by decide +kernel
theorem dX7_runs_51 : decode cX7_runs 51 = .ok (.iload 5, 2) := by decide +kernel
theorem dX7_runs_53 : decode cX7_runs 53 = .ok (.imul, 1) := by decide +kernel
theorem dX7_runs_54 : decode cX7_runs 54 = .ok (.iconst 5, 1) := by decide +kernel
theorem dX7_runs_55 : decode cX7_runs 55 = .ok (.iadd, 1) := by decide +kernel
theorem dX7_runs_56 : decode cX7_runs 56 = .ok (.iload 7, 2) := by decide +kernel
theorem dX7_runs_58 : decode cX7_runs 58 = .ok (.iadd, 1) := by decide +kernel
theorem dX7_runs_59 : decode cX7_runs 59 = .ok (.iload 6, 2) := by decide +kernel
theorem dX7_runs_61 : decode cX7_runs 61 = .ok (.iastore, 1) := by decide +kernel
theorem dX7_runs_62 : decode cX7_runs 62 = .ok (.aload_n 0, 1) := by decide +kernel
theorem dX7_runs_63 : decode cX7_runs 63 = .ok (.bipush 17, 2) := by decide +kernel
theorem dX7_runs_65 : decode cX7_runs 65 = .ok (.iload 5, 2) := by decide +kernel
theorem dX7_runs_67 : decode cX7_runs 67 = .ok (.imul, 1) := by decide +kernel
theorem dX7_runs_68 : decode cX7_runs 68 = .ok (.iconst 4, 1) := by decide +kernel
theorem dX7_runs_69 : decode cX7_runs 69 = .ok (.iadd, 1) := by decide +kernel
theorem dX7_runs_70 : decode cX7_runs 70 = .ok (.dup2, 1) := by decide +kernel
theorem dX7_runs_71 : decode cX7_runs 71 = .ok (.iaload, 1) := by decide +kernel
theorem dX7_runs_72 : decode cX7_runs 72 = .ok (.iconst 1, 1) := by decide +kernel
theorem dX7_runs_73 : decode cX7_runs 73 = .ok (.iadd, 1) := by decide +kernel
theorem dX7_runs_74 : decode cX7_runs 74 = .ok (.iastore, 1) := by decide +kernel
theorem dX7_runs_75 : decode cX7_runs 75 = .ok (.iload 5, 2) := by decide +kernel
theorem dX7_runs_77 : decode cX7_runs 77 = .ok (.ireturn, 1) := by decide +kernel
theorem dX7_runs_78 : decode cX7_runs 78 = .ok (.aload_n 2, 1) := by decide +kernel
theorem dX7_runs_79 : decode cX7_runs 79 = .ok (.iload 5, 2) := by decide +kernel
theorem dX7_runs_81 : decode cX7_runs 81 = .ok (.iaload, 1) := by decide +kernel
theorem dX7_runs_82 : decode cX7_runs 82 = .ok (.istore 5, 2) := by decide +kernel
theorem dX7_runs_84 : decode cX7_runs 84 = .ok (.goto (-77), 3) := by decide +kernel
theorem dX7_drop_0 : decode cX7_drop 0 = .ok (.aload_n 0, 1) := by decide +kernel
theorem dX7_drop_1 : decode cX7_drop 1 = .ok (.iload_n 1, 1) := by decide +kernel
theorem dX7_drop_2 : decode cX7_drop 2 = .ok (.invokevirtual 119, 3) := by decide +kernel
theorem dX7_drop_5 : decode cX7_drop 5 = .ok (.ifCond .ne 6, 3) := by decide +kernel
theorem dX7_drop_8 : decode cX7_drop 8 = .ok (.bipush (-101), 2) := by decide +kernel
theorem dX7_drop_10 : decode cX7_drop 10 = .ok (.ireturn, 1) := by decide +kernel
theorem dX7_drop_11 : decode cX7_drop 11 = .ok (.iload_n 2, 1) := by decide +kernel
theorem dX7_drop_12 : decode cX7_drop 12 = .ok (.i2l, 1) := by decide +kernel
theorem dX7_drop_13 : decode cX7_drop 13 = .ok (.lconst 0, 1) := by decide +kernel
theorem dX7_drop_14 : decode cX7_drop 14 = .ok (.ldc2_w 127, 3) := by decide +kernel
theorem dX7_drop_17 : decode cX7_drop 17 = .ok (.invokestatic 77, 3) := by decide +kernel
theorem dX7_drop_20 : decode cX7_drop 20 = .ok (.ifCond .ne 6, 3) := by decide +kernel
theorem dX7_drop_23 : decode cX7_drop 23 = .ok (.bipush (-102), 2) := by decide +kernel
theorem dX7_drop_25 : decode cX7_drop 25 = .ok (.ireturn, 1) := by decide +kernel
theorem dX7_drop_26 : decode cX7_drop 26 = .ok (.aload_n 0, 1) := by decide +kernel
theorem dX7_drop_27 : decode cX7_drop 27 = .ok (.getfield 109, 3) := by decide +kernel
theorem dX7_drop_30 : decode cX7_drop 30 = .ok (.bipush 12, 2) := by decide +kernel
theorem dX7_drop_32 : decode cX7_drop 32 = .ok (.if_icmp .ne 6, 3) := by decide +kernel
theorem dX7_drop_35 : decode cX7_drop 35 = .ok (.bipush (-104), 2) := by decide +kernel
theorem dX7_drop_37 : decode cX7_drop 37 = .ok (.ireturn, 1) := by decide +kernel
theorem dX7_drop_38 : decode cX7_drop 38 = .ok (.aload_n 0, 1) := by decide +kernel
theorem dX7_drop_39 : decode cX7_drop 39 = .ok (.getfield 22, 3) := by decide +kernel
theorem dX7_drop_42 : decode cX7_drop 42 = .ok (.aload_n 0, 1) := by decide +kernel
theorem dX7_drop_43 : decode cX7_drop 43 = .ok (.getfield 109, 3) := by decide +kernel
theorem dX7_drop_46 : decode cX7_drop 46 = .ok (.iload_n 1, 1) := by decide +kernel
theorem dX7_drop_47 : decode cX7_drop 47 = .ok (.iastore, 1) := by decide +kernel
theorem dX7_drop_48 : decode cX7_drop 48 = .ok (.aload_n 0, 1) := by decide +kernel
theorem dX7_drop_49 : decode cX7_drop 49 = .ok (.getfield 25, 3) := by decide +kernel
theorem dX7_drop_52 : decode cX7_drop 52 = .ok (.aload_n 0, 1) := by decide +kernel
theorem dX7_drop_53 : decode cX7_drop 53 = .ok (.getfield 109, 3) := by decide +kernel
theorem dX7_drop_56 : decode cX7_drop 56 = .ok (.iload_n 2, 1) := by decide +kernel
theorem dX7_drop_57 : decode cX7_drop 57 = .ok (.iastore, 1) := by decide +kernel
theorem dX7_drop_58 : decode cX7_drop 58 = .ok (.aload_n 0, 1) := by decide +kernel
theorem dX7_drop_59 : decode cX7_drop 59 = .ok (.dup, 1) := by decide +kernel
theorem dX7_drop_60 : decode cX7_drop 60 = .ok (.getfield 109, 3) := by decide +kernel
theorem dX7_drop_63 : decode cX7_drop 63 = .ok (.iconst 1, 1) := by decide +kernel
theorem dX7_drop_64 : decode cX7_drop 64 = .ok (.iadd, 1) := by decide +kernel
theorem dX7_drop_65 : decode cX7_drop 65 = .ok (.putfield 109, 3) := by decide +kernel
theorem dX7_drop_68 : decode cX7_drop 68 = .ok (.aload_n 0, 1) := by decide +kernel
theorem dX7_drop_69 : decode cX7_drop 69 = .ok (.getfield 19, 3) := by decide +kernel
theorem dX7_drop_72 : decode cX7_drop 72 = .ok (.aload_n 0, 1) := by decide +kernel
theorem dX7_drop_73 : decode cX7_drop 73 = .ok (.getfield 13, 3) := by decide +kernel
theorem dX7_drop_76 : decode cX7_drop 76 = .ok (.aload_n 0, 1) := by decide +kernel
theorem dX7_drop_77 : decode cX7_drop 77 = .ok (.getfield 16, 3) := by decide +kernel
theorem dX7_drop_80 : decode cX7_drop 80 = .ok (.iload_n 1, 1) := by decide +kernel
theorem dX7_drop_81 : decode cX7_drop 81 = .ok (.iload_n 2, 1) := by decide +kernel
theorem dX7_drop_82 : decode cX7_drop 82 = .ok (.invokestatic 133, 3) := by decide +kernel
theorem dX7_drop_85 : decode cX7_drop 85 = .ok (.ireturn, 1) := by decide +kernel
theorem dX7_rain_0 : decode cX7_rain 0 = .ok (.iload_n 1, 1) := by decide +kernel
theorem dX7_rain_1 : decode cX7_rain 1 = .ok (.i2l, 1) := by decide +kernel
theorem dX7_rain_2 : decode cX7_rain 2 = .ok (.lconst 0, 1) := by decide +kernel
theorem dX7_rain_3 : decode cX7_rain 3 = .ok (.aload_n 0, 1) := by decide +kernel
theorem dX7_rain_4 : decode cX7_rain 4 = .ok (.getfield 109, 3) := by decide +kernel
theorem dX7_rain_7 : decode cX7_rain 7 = .ok (.iconst 1, 1) := by decide +kernel
theorem dX7_rain_8 : decode cX7_rain 8 = .ok (.isub, 1) := by decide +kernel
theorem dX7_rain_9 : decode cX7_rain 9 = .ok (.i2l, 1) := by decide +kernel
theorem dX7_rain_10 : decode cX7_rain 10 = .ok (.invokestatic 77, 3) := by decide +kernel
theorem dX7_rain_13 : decode cX7_rain 13 = .ok (.ifCond .ne 6, 3) := by decide +kernel
theorem dX7_rain_16 : decode cX7_rain 16 = .ok (.bipush (-101), 2) := by decide +kernel
theorem dX7_rain_18 : decode cX7_rain 18 = .ok (.ireturn, 1) := by decide +kernel
theorem dX7_rain_19 : decode cX7_rain 19 = .ok (.iload_n 2, 1) := by decide +kernel
theorem dX7_rain_20 : decode cX7_rain 20 = .ok (.ifCond .ne 12, 3) := by decide +kernel
theorem dX7_rain_23 : decode cX7_rain 23 = .ok (.aload_n 0, 1) := by decide +kernel
theorem dX7_rain_24 : decode cX7_rain 24 = .ok (.getfield 22, 3) := by decide +kernel
theorem dX7_rain_27 : decode cX7_rain 27 = .ok (.iload_n 1, 1) := by decide +kernel
theorem dX7_rain_28 : decode cX7_rain 28 = .ok (.iaload, 1) := by decide +kernel
theorem dX7_rain_29 : decode cX7_rain 29 = .ok (.goto 19, 3) := by decide +kernel
theorem dX7_rain_32 : decode cX7_rain 32 = .ok (.iload_n 2, 1) := by decide +kernel
theorem dX7_rain_33 : decode cX7_rain 33 = .ok (.iconst 1, 1) := by decide +kernel
theorem dX7_rain_34 : decode cX7_rain 34 = .ok (.if_icmp .ne 12, 3) := by decide +kernel
theorem dX7_rain_37 : decode cX7_rain 37 = .ok (.aload_n 0, 1) := by decide +kernel
theorem dX7_rain_38 : decode cX7_rain 38 = .ok (.getfield 25, 3) := by decide +kernel
theorem dX7_rain_41 : decode cX7_rain 41 = .ok (.iload_n 1, 1) := by decide +kernel
theorem dX7_rain_42 : decode cX7_rain 42 = .ok (.iaload, 1) := by decide +kernel
theorem dX7_rain_43 : decode cX7_rain 43 = .ok (.goto 5, 3) := by decide +kernel
theorem dX7_rain_46 : decode cX7_rain 46 = .ok (.bipush (-102), 2) := by decide +kernel
theorem dX7_rain_48 : decode cX7_rain 48 = .ok (.ireturn, 1) := by decide +kernel
theorem dX7_dry_0 : decode cX7_dry 0 = .ok (.aload_n 0, 1) := by decide +kernel
theorem dX7_dry_1 : decode cX7_dry 1 = .ok (.getfield 101, 3) := by decide +kernel
theorem dX7_dry_4 : decode cX7_dry 4 = .ok (.ifCond .ne 6, 3) := by decide +kernel
theorem dX7_dry_7 : decode cX7_dry 7 = .ok (.bipush (-103), 2) := by decide +kernel
theorem dX7_dry_9 : decode cX7_dry 9 = .ok (.ireturn, 1) := by decide +kernel
theorem dX7_dry_10 : decode cX7_dry 10 = .ok (.aload_n 0, 1) := by decide +kernel
theorem dX7_dry_11 : decode cX7_dry 11 = .ok (.getfield 109, 3) := by decide +kernel
theorem dX7_dry_14 : decode cX7_dry 14 = .ok (.istore_n 1, 1) := by decide +kernel
theorem dX7_dry_15 : decode cX7_dry 15 = .ok (.aload_n 0, 1) := by decide +kernel
theorem dX7_dry_16 : decode cX7_dry 16 = .ok (.getfield 19, 3) := by decide +kernel
theorem dX7_dry_19 : decode cX7_dry 19 = .ok (.invokestatic 105, 3) := by decide +kernel
theorem dX7_dry_22 : decode cX7_dry 22 = .ok (.aload_n 0, 1) := by decide +kernel
theorem dX7_dry_23 : decode cX7_dry 23 = .ok (.iconst 0, 1) := by decide +kernel
theorem dX7_dry_24 : decode cX7_dry 24 = .ok (.putfield 109, 3) := by decide +kernel
theorem dX7_dry_27 : decode cX7_dry 27 = .ok (.iload_n 1, 1) := by decide +kernel
theorem dX7_dry_28 : decode cX7_dry 28 = .ok (.ireturn, 1) := by decide +kernel
theorem dX7_turn_0 : decode cX7_turn 0 = .ok (.aload_n 0, 1) := by decide +kernel
theorem dX7_turn_1 : decode cX7_turn 1 = .ok (.iload_n 1, 1) := by decide +kernel
theorem dX7_turn_2 : decode cX7_turn 2 = .ok (.invokevirtual 119, 3) := by decide +kernel
theorem dX7_turn_5 : decode cX7_turn 5 = .ok (.ifCond .ne 6, 3) := by decide +kernel
theorem dX7_turn_8 : decode cX7_turn 8 = .ok (.bipush (-101), 2) := by decide +kernel
theorem dX7_turn_10 : decode cX7_turn 10 = .ok (.ireturn, 1) := by decide +kernel
theorem dX7_turn_11 : decode cX7_turn 11 = .ok (.iload_n 2, 1) := by decide +kernel
theorem dX7_turn_12 : decode cX7_turn 12 = .ok (.iconst (-1), 1) := by decide +kernel
theorem dX7_turn_13 : decode cX7_turn 13 = .ok (.if_icmp .eq 21, 3) := by decide +kernel
theorem dX7_turn_16 : decode cX7_turn 16 = .ok (.iload_n 2, 1) := by decide +kernel
theorem dX7_turn_17 : decode cX7_turn 17 = .ok (.i2l, 1) := by decide +kernel
theorem dX7_turn_18 : decode cX7_turn 18 = .ok (.iload_n 1, 1) := by decide +kernel
theorem dX7_turn_19 : decode cX7_turn 19 = .ok (.iconst 1, 1) := by decide +kernel
theorem dX7_turn_20 : decode cX7_turn 20 = .ok (.iadd, 1) := by decide +kernel
theorem dX7_turn_21 : decode cX7_turn 21 = .ok (.i2l, 1) := by decide +kernel
theorem dX7_turn_22 : decode cX7_turn 22 = .ok (.ldc2_w 88, 3) := by decide +kernel
theorem dX7_turn_25 : decode cX7_turn 25 = .ok (.invokestatic 77, 3) := by decide +kernel
theorem dX7_turn_28 : decode cX7_turn 28 = .ok (.ifCond .ne 6, 3) := by decide +kernel
theorem dX7_turn_31 : decode cX7_turn 31 = .ok (.bipush (-102), 2) := by decide +kernel
theorem dX7_turn_33 : decode cX7_turn 33 = .ok (.ireturn, 1) := by decide +kernel
theorem dX7_turn_34 : decode cX7_turn 34 = .ok (.aload_n 0, 1) := by decide +kernel
theorem dX7_turn_35 : decode cX7_turn 35 = .ok (.getfield 16, 3) := by decide +kernel
theorem dX7_turn_38 : decode cX7_turn 38 = .ok (.iload_n 1, 1) := by decide +kernel
theorem dX7_turn_39 : decode cX7_turn 39 = .ok (.iaload, 1) := by decide +kernel
theorem dX7_turn_40 : decode cX7_turn 40 = .ok (.istore_n 3, 1) := by decide +kernel
theorem dX7_turn_41 : decode cX7_turn 41 = .ok (.aload_n 0, 1) := by decide +kernel
theorem dX7_turn_42 : decode cX7_turn 42 = .ok (.getfield 16, 3) := by decide +kernel
theorem dX7_turn_45 : decode cX7_turn 45 = .ok (.iload_n 1, 1) := by decide +kernel
theorem dX7_turn_46 : decode cX7_turn 46 = .ok (.iload_n 2, 1) := by decide +kernel
theorem dX7_turn_47 : decode cX7_turn 47 = .ok (.iastore, 1) := by decide +kernel
theorem dX7_turn_48 : decode cX7_turn 48 = .ok (.iload_n 3, 1) := by decide +kernel
theorem dX7_turn_49 : decode cX7_turn 49 = .ok (.ireturn, 1) := by decide +kernel
theorem dX7_asItIs_0 : decode cX7_asItIs 0 = .ok (.aload_n 0, 1) := by decide +kernel
theorem dX7_asItIs_1 : decode cX7_asItIs 1 = .ok (.getfield 13, 3) := by decide +kernel
theorem dX7_asItIs_4 : decode cX7_asItIs 4 = .ok (.aload_n 0, 1) := by decide +kernel
theorem dX7_asItIs_5 : decode cX7_asItIs 5 = .ok (.getfield 31, 3) := by decide +kernel
theorem dX7_asItIs_8 : decode cX7_asItIs 8 = .ok (.invokestatic 137, 3) := by decide +kernel
theorem dX7_asItIs_11 : decode cX7_asItIs 11 = .ok (.aload_n 0, 1) := by decide +kernel
theorem dX7_asItIs_12 : decode cX7_asItIs 12 = .ok (.getfield 16, 3) := by decide +kernel
theorem dX7_asItIs_15 : decode cX7_asItIs 15 = .ok (.aload_n 0, 1) := by decide +kernel
theorem dX7_asItIs_16 : decode cX7_asItIs 16 = .ok (.getfield 34, 3) := by decide +kernel
theorem dX7_asItIs_19 : decode cX7_asItIs 19 = .ok (.invokestatic 137, 3) := by decide +kernel
theorem dX7_asItIs_22 : decode cX7_asItIs 22 = .ok (.aload_n 0, 1) := by decide +kernel
theorem dX7_asItIs_23 : decode cX7_asItIs 23 = .ok (.getfield 25, 3) := by decide +kernel
theorem dX7_asItIs_26 : decode cX7_asItIs 26 = .ok (.aload_n 0, 1) := by decide +kernel
theorem dX7_asItIs_27 : decode cX7_asItIs 27 = .ok (.getfield 37, 3) := by decide +kernel
theorem dX7_asItIs_30 : decode cX7_asItIs 30 = .ok (.invokestatic 137, 3) := by decide +kernel
theorem dX7_asItIs_33 : decode cX7_asItIs 33 = .ok (.return_, 1) := by decide +kernel
theorem dX7_fallsAgain_0 : decode cX7_fallsAgain 0 = .ok (.aload_n 0, 1) := by decide +kernel
theorem dX7_fallsAgain_1 : decode cX7_fallsAgain 1 = .ok (.getfield 28, 3) := by decide +kernel
theorem dX7_fallsAgain_4 : decode cX7_fallsAgain 4 = .ok (.invokestatic 105, 3) := by decide +kernel
theorem dX7_fallsAgain_7 : decode cX7_fallsAgain 7 = .ok (.iconst 0, 1) := by decide +kernel
theorem dX7_fallsAgain_8 : decode cX7_fallsAgain 8 = .ok (.istore_n 1, 1) := by decide +kernel
theorem dX7_fallsAgain_9 : decode cX7_fallsAgain 9 = .ok (.iload_n 1, 1) := by decide +kernel
theorem dX7_fallsAgain_10 : decode cX7_fallsAgain 10 = .ok (.aload_n 0, 1) := by decide +kernel
theorem dX7_fallsAgain_11 : decode cX7_fallsAgain 11 = .ok (.getfield 109, 3) := by decide +kernel
theorem dX7_fallsAgain_14 : decode cX7_fallsAgain 14 = .ok (.if_icmp .ge 37, 3) := by decide +kernel
theorem dX7_fallsAgain_17 : decode cX7_fallsAgain 17 = .ok (.aload_n 0, 1) := by decide +kernel
theorem dX7_fallsAgain_18 : decode cX7_fallsAgain 18 = .ok (.getfield 28, 3) := by decide +kernel
theorem dX7_fallsAgain_21 : decode cX7_fallsAgain 21 = .ok (.aload_n 0, 1) := by decide +kernel
theorem dX7_fallsAgain_22 : decode cX7_fallsAgain 22 = .ok (.getfield 31, 3) := by decide +kernel
theorem dX7_fallsAgain_25 : decode cX7_fallsAgain 25 = .ok (.aload_n 0, 1) := by decide +kernel
theorem dX7_fallsAgain_26 : decode cX7_fallsAgain 26 = .ok (.getfield 34, 3) := by decide +kernel
theorem dX7_fallsAgain_29 : decode cX7_fallsAgain 29 = .ok (.aload_n 0, 1) := by decide +kernel
theorem dX7_fallsAgain_30 : decode cX7_fallsAgain 30 = .ok (.getfield 22, 3) := by decide +kernel
theorem dX7_fallsAgain_33 : decode cX7_fallsAgain 33 = .ok (.iload_n 1, 1) := by decide +kernel
theorem dX7_fallsAgain_34 : decode cX7_fallsAgain 34 = .ok (.iaload, 1) := by decide +kernel
theorem dX7_fallsAgain_35 : decode cX7_fallsAgain 35 = .ok (.aload_n 0, 1) := by decide +kernel
theorem dX7_fallsAgain_36 : decode cX7_fallsAgain 36 = .ok (.getfield 37, 3) := by decide +kernel
theorem dX7_fallsAgain_39 : decode cX7_fallsAgain 39 = .ok (.iload_n 1, 1) := by decide +kernel
theorem dX7_fallsAgain_40 : decode cX7_fallsAgain 40 = .ok (.iaload, 1) := by decide +kernel
theorem dX7_fallsAgain_41 : decode cX7_fallsAgain 41 = .ok (.invokestatic 133, 3) := by decide +kernel
theorem dX7_fallsAgain_44 : decode cX7_fallsAgain 44 = .ok (.istore_n 2, 1) := by decide +kernel
theorem dX7_fallsAgain_45 : decode cX7_fallsAgain 45 = .ok (.iinc 1 1, 3) := by decide +kernel
theorem dX7_fallsAgain_48 : decode cX7_fallsAgain 48 = .ok (.goto (-39), 3) := by decide +kernel
theorem dX7_fallsAgain_51 : decode cX7_fallsAgain 51 = .ok (.return_, 1) := by decide +kernel
theorem dX7_isPageWord_0 : decode cX7_isPageWord 0 = .ok (.aload_n 0, 1) := by decide +kernel
theorem dX7_isPageWord_1 : decode cX7_isPageWord 1 = .ok (.getfield 81, 3) := by decide +kernel
theorem dX7_isPageWord_4 : decode cX7_isPageWord 4 = .ok (.ifCond .le 19, 3) := by decide +kernel
theorem dX7_isPageWord_7 : decode cX7_isPageWord 7 = .ok (.aload_n 0, 1) := by decide +kernel
theorem dX7_isPageWord_8 : decode cX7_isPageWord 8 = .ok (.iconst 1, 1) := by decide +kernel
theorem dX7_isPageWord_9 : decode cX7_isPageWord 9 = .ok (.invokevirtual 98, 3) := by decide +kernel
theorem dX7_isPageWord_12 : decode cX7_isPageWord 12 = .ok (.aload_n 0, 1) := by decide +kernel
theorem dX7_isPageWord_13 : decode cX7_isPageWord 13 = .ok (.getfield 81, 3) := by decide +kernel
theorem dX7_isPageWord_16 : decode cX7_isPageWord 16 = .ok (.if_icmp .ne 7, 3) := by decide +kernel
theorem dX7_isPageWord_19 : decode cX7_isPageWord 19 = .ok (.iconst 1, 1) := by decide +kernel
theorem dX7_isPageWord_20 : decode cX7_isPageWord 20 = .ok (.goto 4, 3) := by decide +kernel
theorem dX7_isPageWord_23 : decode cX7_isPageWord 23 = .ok (.iconst 0, 1) := by decide +kernel
theorem dX7_isPageWord_24 : decode cX7_isPageWord 24 = .ok (.ireturn, 1) := by decide +kernel
theorem dX7_hasPage_0 : decode cX7_hasPage 0 = .ok (.aload_n 0, 1) := by decide +kernel
theorem dX7_hasPage_1 : decode cX7_hasPage 1 = .ok (.getfield 28, 3) := by decide +kernel
theorem dX7_hasPage_4 : decode cX7_hasPage 4 = .ok (.bipush 17, 2) := by decide +kernel
theorem dX7_hasPage_6 : decode cX7_hasPage 6 = .ok (.iload_n 1, 1) := by decide +kernel
theorem dX7_hasPage_7 : decode cX7_hasPage 7 = .ok (.imul, 1) := by decide +kernel
theorem dX7_hasPage_8 : decode cX7_hasPage 8 = .ok (.iconst 4, 1) := by decide +kernel
theorem dX7_hasPage_9 : decode cX7_hasPage 9 = .ok (.iadd, 1) := by decide +kernel
theorem dX7_hasPage_10 : decode cX7_hasPage 10 = .ok (.iaload, 1) := by decide +kernel
theorem dX7_hasPage_11 : decode cX7_hasPage 11 = .ok (.aload_n 0, 1) := by decide +kernel
theorem dX7_hasPage_12 : decode cX7_hasPage 12 = .ok (.getfield 81, 3) := by decide +kernel
theorem dX7_hasPage_15 : decode cX7_hasPage 15 = .ok (.if_icmp .ne 7, 3) := by decide +kernel
theorem dX7_hasPage_18 : decode cX7_hasPage 18 = .ok (.iconst 1, 1) := by decide +kernel
theorem dX7_hasPage_19 : decode cX7_hasPage 19 = .ok (.goto 4, 3) := by decide +kernel
theorem dX7_hasPage_22 : decode cX7_hasPage 22 = .ok (.iconst 0, 1) := by decide +kernel
theorem dX7_hasPage_23 : decode cX7_hasPage 23 = .ok (.istore_n 2, 1) := by decide +kernel
theorem dX7_hasPage_24 : decode cX7_hasPage 24 = .ok (.iconst 0, 1) := by decide +kernel
theorem dX7_hasPage_25 : decode cX7_hasPage 25 = .ok (.istore_n 3, 1) := by decide +kernel
theorem dX7_hasPage_26 : decode cX7_hasPage 26 = .ok (.iload_n 3, 1) := by decide +kernel
theorem dX7_hasPage_27 : decode cX7_hasPage 27 = .ok (.aload_n 0, 1) := by decide +kernel
theorem dX7_hasPage_28 : decode cX7_hasPage 28 = .ok (.getfield 81, 3) := by decide +kernel
theorem dX7_hasPage_31 : decode cX7_hasPage 31 = .ok (.if_icmp .ge 44, 3) := by decide +kernel
theorem dX7_hasPage_34 : decode cX7_hasPage 34 = .ok (.iload_n 2, 1) := by decide +kernel
theorem dX7_hasPage_35 : decode cX7_hasPage 35 = .ok (.ifCond .eq 40, 3) := by decide +kernel
theorem dX7_hasPage_38 : decode cX7_hasPage 38 = .ok (.aload_n 0, 1) := by decide +kernel
theorem dX7_hasPage_39 : decode cX7_hasPage 39 = .ok (.getfield 28, 3) := by decide +kernel
theorem dX7_hasPage_42 : decode cX7_hasPage 42 = .ok (.bipush 17, 2) := by decide +kernel
theorem dX7_hasPage_44 : decode cX7_hasPage 44 = .ok (.iload_n 1, 1) := by decide +kernel
theorem dX7_hasPage_45 : decode cX7_hasPage 45 = .ok (.imul, 1) := by decide +kernel
theorem dX7_hasPage_46 : decode cX7_hasPage 46 = .ok (.iconst 5, 1) := by decide +kernel
theorem dX7_hasPage_47 : decode cX7_hasPage 47 = .ok (.iadd, 1) := by decide +kernel
theorem dX7_hasPage_48 : decode cX7_hasPage 48 = .ok (.iload_n 3, 1) := by decide +kernel
theorem dX7_hasPage_49 : decode cX7_hasPage 49 = .ok (.iadd, 1) := by decide +kernel
theorem dX7_hasPage_50 : decode cX7_hasPage 50 = .ok (.iaload, 1) := by decide +kernel
theorem dX7_hasPage_51 : decode cX7_hasPage 51 = .ok (.aload_n 0, 1) := by decide +kernel
theorem dX7_hasPage_52 : decode cX7_hasPage 52 = .ok (.getfield 7, 3) := by decide +kernel
theorem dX7_hasPage_55 : decode cX7_hasPage 55 = .ok (.iload_n 3, 1) := by decide +kernel
theorem dX7_hasPage_56 : decode cX7_hasPage 56 = .ok (.iaload, 1) := by decide +kernel
theorem dX7_hasPage_57 : decode cX7_hasPage 57 = .ok (.bipush 97, 2) := by decide +kernel
theorem dX7_hasPage_59 : decode cX7_hasPage 59 = .ok (.isub, 1) := by decide +kernel
theorem dX7_hasPage_60 : decode cX7_hasPage 60 = .ok (.if_icmp .ne 7, 3) := by decide +kernel
theorem dX7_hasPage_63 : decode cX7_hasPage 63 = .ok (.iconst 1, 1) := by decide +kernel
theorem dX7_hasPage_64 : decode cX7_hasPage 64 = .ok (.goto 4, 3) := by decide +kernel
theorem dX7_hasPage_67 : decode cX7_hasPage 67 = .ok (.iconst 0, 1) := by decide +kernel
theorem dX7_hasPage_68 : decode cX7_hasPage 68 = .ok (.istore_n 2, 1) := by decide +kernel
theorem dX7_hasPage_69 : decode cX7_hasPage 69 = .ok (.iinc 3 1, 3) := by decide +kernel
theorem dX7_hasPage_72 : decode cX7_hasPage 72 = .ok (.goto (-46), 3) := by decide +kernel
theorem dX7_hasPage_75 : decode cX7_hasPage 75 = .ok (.iload_n 2, 1) := by decide +kernel
theorem dX7_hasPage_76 : decode cX7_hasPage 76 = .ok (.ireturn, 1) := by decide +kernel
theorem dX7_layWays_0 : decode cX7_layWays 0 = .ok (.iload_n 1, 1) := by decide +kernel
theorem dX7_layWays_1 : decode cX7_layWays 1 = .ok (.istore_n 2, 1) := by decide +kernel
theorem dX7_layWays_2 : decode cX7_layWays 2 = .ok (.iconst 0, 1) := by decide +kernel
theorem dX7_layWays_3 : decode cX7_layWays 3 = .ok (.istore_n 3, 1) := by decide +kernel
theorem dX7_layWays_4 : decode cX7_layWays 4 = .ok (.iconst 0, 1) := by decide +kernel
theorem dX7_layWays_5 : decode cX7_layWays 5 = .ok (.istore 4, 2) := by decide +kernel
theorem dX7_layWays_7 : decode cX7_layWays 7 = .ok (.iload 4, 2) := by decide +kernel
theorem dX7_layWays_9 : decode cX7_layWays 9 = .ok (.bipush 6, 2) := by decide +kernel
theorem dX7_layWays_11 : decode cX7_layWays 11 = .ok (.if_icmp .ge 76, 3) := by decide +kernel
theorem dX7_layWays_14 : decode cX7_layWays 14 = .ok (.bipush 6, 2) := by decide +kernel
theorem dX7_layWays_16 : decode cX7_layWays 16 = .ok (.iload 4, 2) := by decide +kernel
theorem dX7_layWays_18 : decode cX7_layWays 18 = .ok (.isub, 1) := by decide +kernel
theorem dX7_layWays_19 : decode cX7_layWays 19 = .ok (.istore 5, 2) := by decide +kernel
theorem dX7_layWays_21 : decode cX7_layWays 21 = .ok (.iload_n 2, 1) := by decide +kernel
theorem dX7_layWays_22 : decode cX7_layWays 22 = .ok (.iload 5, 2) := by decide +kernel
theorem dX7_layWays_24 : decode cX7_layWays 24 = .ok (.irem, 1) := by decide +kernel
theorem dX7_layWays_25 : decode cX7_layWays 25 = .ok (.istore 6, 2) := by decide +kernel
theorem dX7_layWays_27 : decode cX7_layWays 27 = .ok (.iload_n 2, 1) := by decide +kernel
theorem dX7_layWays_28 : decode cX7_layWays 28 = .ok (.iload 5, 2) := by decide +kernel
theorem dX7_layWays_30 : decode cX7_layWays 30 = .ok (.idiv, 1) := by decide +kernel
theorem dX7_layWays_31 : decode cX7_layWays 31 = .ok (.istore_n 2, 1) := by decide +kernel
theorem dX7_layWays_32 : decode cX7_layWays 32 = .ok (.aload_n 0, 1) := by decide +kernel
theorem dX7_layWays_33 : decode cX7_layWays 33 = .ok (.getfield 34, 3) := by decide +kernel
theorem dX7_layWays_36 : decode cX7_layWays 36 = .ok (.iload 4, 2) := by decide +kernel
theorem dX7_layWays_38 : decode cX7_layWays 38 = .ok (.iload 6, 2) := by decide +kernel
theorem dX7_layWays_40 : decode cX7_layWays 40 = .ok (.ifCond .ne 7, 3) := by decide +kernel
theorem dX7_layWays_43 : decode cX7_layWays 43 = .ok (.iconst (-1), 1) := by decide +kernel
theorem dX7_layWays_44 : decode cX7_layWays 44 = .ok (.goto 8, 3) := by decide +kernel
theorem dX7_layWays_47 : decode cX7_layWays 47 = .ok (.iload 4, 2) := by decide +kernel
theorem dX7_layWays_49 : decode cX7_layWays 49 = .ok (.iload 6, 2) := by decide +kernel
theorem dX7_layWays_51 : decode cX7_layWays 51 = .ok (.iadd, 1) := by decide +kernel
theorem dX7_layWays_52 : decode cX7_layWays 52 = .ok (.iastore, 1) := by decide +kernel
theorem dX7_layWays_53 : decode cX7_layWays 53 = .ok (.iload_n 3, 1) := by decide +kernel
theorem dX7_layWays_54 : decode cX7_layWays 54 = .ok (.aload_n 0, 1) := by decide +kernel
theorem dX7_layWays_55 : decode cX7_layWays 55 = .ok (.getfield 34, 3) := by decide +kernel
theorem dX7_layWays_58 : decode cX7_layWays 58 = .ok (.iload 4, 2) := by decide +kernel
theorem dX7_layWays_60 : decode cX7_layWays 60 = .ok (.iaload, 1) := by decide +kernel
theorem dX7_layWays_61 : decode cX7_layWays 61 = .ok (.aload_n 0, 1) := by decide +kernel
theorem dX7_layWays_62 : decode cX7_layWays 62 = .ok (.getfield 16, 3) := by decide +kernel
theorem dX7_layWays_65 : decode cX7_layWays 65 = .ok (.iload 4, 2) := by decide +kernel
theorem dX7_layWays_67 : decode cX7_layWays 67 = .ok (.iaload, 1) := by decide +kernel
theorem dX7_layWays_68 : decode cX7_layWays 68 = .ok (.if_icmp .ne 7, 3) := by decide +kernel
theorem dX7_layWays_71 : decode cX7_layWays 71 = .ok (.iconst 0, 1) := by decide +kernel
theorem dX7_layWays_72 : decode cX7_layWays 72 = .ok (.goto 7, 3) := by decide +kernel
theorem dX7_layWays_75 : decode cX7_layWays 75 = .ok (.iconst 1, 1) := by decide +kernel
theorem dX7_layWays_76 : decode cX7_layWays 76 = .ok (.iload 4, 2) := by decide +kernel
theorem dX7_layWays_78 : decode cX7_layWays 78 = .ok (.ishl, 1) := by decide +kernel
theorem dX7_layWays_79 : decode cX7_layWays 79 = .ok (.ior, 1) := by decide +kernel
theorem dX7_layWays_80 : decode cX7_layWays 80 = .ok (.istore_n 3, 1) := by decide +kernel
theorem dX7_layWays_81 : decode cX7_layWays 81 = .ok (.iinc 4 1, 3) := by decide +kernel
theorem dX7_layWays_84 : decode cX7_layWays 84 = .ok (.goto (-77), 3) := by decide +kernel
theorem dX7_layWays_87 : decode cX7_layWays 87 = .ok (.iload_n 3, 1) := by decide +kernel
theorem dX7_layWays_88 : decode cX7_layWays 88 = .ok (.ireturn, 1) := by decide +kernel
theorem dX7_ones_0 : decode cX7_ones 0 = .ok (.iconst 0, 1) := by decide +kernel
theorem dX7_ones_1 : decode cX7_ones 1 = .ok (.istore_n 1, 1) := by decide +kernel
theorem dX7_ones_2 : decode cX7_ones 2 = .ok (.iconst 0, 1) := by decide +kernel
theorem dX7_ones_3 : decode cX7_ones 3 = .ok (.istore_n 2, 1) := by decide +kernel
theorem dX7_ones_4 : decode cX7_ones 4 = .ok (.iload_n 2, 1) := by decide +kernel
theorem dX7_ones_5 : decode cX7_ones 5 = .ok (.bipush 6, 2) := by decide +kernel
theorem dX7_ones_7 : decode cX7_ones 7 = .ok (.if_icmp .ge 17, 3) := by decide +kernel
theorem dX7_ones_10 : decode cX7_ones 10 = .ok (.iload_n 1, 1) := by decide +kernel
theorem dX7_ones_11 : decode cX7_ones 11 = .ok (.iload_n 0, 1) := by decide +kernel
theorem dX7_ones_12 : decode cX7_ones 12 = .ok (.iload_n 2, 1) := by decide +kernel
theorem dX7_ones_13 : decode cX7_ones 13 = .ok (.ishr, 1) := by decide +kernel
theorem dX7_ones_14 : decode cX7_ones 14 = .ok (.iconst 1, 1) := by decide +kernel
theorem dX7_ones_15 : decode cX7_ones 15 = .ok (.iand, 1) := by decide +kernel
theorem dX7_ones_16 : decode cX7_ones 16 = .ok (.iadd, 1) := by decide +kernel
theorem dX7_ones_17 : decode cX7_ones 17 = .ok (.istore_n 1, 1) := by decide +kernel
theorem dX7_ones_18 : decode cX7_ones 18 = .ok (.iinc 2 1, 3) := by decide +kernel
theorem dX7_ones_21 : decode cX7_ones 21 = .ok (.goto (-17), 3) := by decide +kernel
theorem dX7_ones_24 : decode cX7_ones 24 = .ok (.iload_n 1, 1) := by decide +kernel
theorem dX7_ones_25 : decode cX7_ones 25 = .ok (.ireturn, 1) := by decide +kernel
theorem dX7_fewTurns_0 : decode cX7_fewTurns 0 = .ok (.aload_n 0, 1) := by decide +kernel
theorem dX7_fewTurns_1 : decode cX7_fewTurns 1 = .ok (.iload_n 1, 1) := by decide +kernel
theorem dX7_fewTurns_2 : decode cX7_fewTurns 2 = .ok (.invokevirtual 119, 3) := by decide +kernel
theorem dX7_fewTurns_5 : decode cX7_fewTurns 5 = .ok (.ifCond .ne 6, 3) := by decide +kernel
theorem dX7_fewTurns_8 : decode cX7_fewTurns 8 = .ok (.bipush (-101), 2) := by decide +kernel
theorem dX7_fewTurns_10 : decode cX7_fewTurns 10 = .ok (.ireturn, 1) := by decide +kernel
theorem dX7_fewTurns_11 : decode cX7_fewTurns 11 = .ok (.iload_n 2, 1) := by decide +kernel
theorem dX7_fewTurns_12 : decode cX7_fewTurns 12 = .ok (.i2l, 1) := by decide +kernel
theorem dX7_fewTurns_13 : decode cX7_fewTurns 13 = .ok (.lconst 0, 1) := by decide +kernel
theorem dX7_fewTurns_14 : decode cX7_fewTurns 14 = .ok (.ldc2_w 141, 3) := by decide +kernel
theorem dX7_fewTurns_17 : decode cX7_fewTurns 17 = .ok (.invokestatic 77, 3) := by decide +kernel
theorem dX7_fewTurns_20 : decode cX7_fewTurns 20 = .ok (.ifCond .ne 6, 3) := by decide +kernel
theorem dX7_fewTurns_23 : decode cX7_fewTurns 23 = .ok (.bipush (-102), 2) := by decide +kernel
theorem dX7_fewTurns_25 : decode cX7_fewTurns 25 = .ok (.ireturn, 1) := by decide +kernel
theorem dX7_fewTurns_26 : decode cX7_fewTurns 26 = .ok (.aload_n 0, 1) := by decide +kernel
theorem dX7_fewTurns_27 : decode cX7_fewTurns 27 = .ok (.invokevirtual 143, 3) := by decide +kernel
theorem dX7_fewTurns_30 : decode cX7_fewTurns 30 = .ok (.ifCond .eq 12, 3) := by decide +kernel
theorem dX7_fewTurns_33 : decode cX7_fewTurns 33 = .ok (.aload_n 0, 1) := by decide +kernel
theorem dX7_fewTurns_34 : decode cX7_fewTurns 34 = .ok (.getfield 147, 3) := by decide +kernel
theorem dX7_fewTurns_37 : decode cX7_fewTurns 37 = .ok (.bipush 20, 2) := by decide +kernel
theorem dX7_fewTurns_39 : decode cX7_fewTurns 39 = .ok (.if_icmp .ne 6, 3) := by decide +kernel
theorem dX7_fewTurns_42 : decode cX7_fewTurns 42 = .ok (.bipush (-103), 2) := by decide +kernel
theorem dX7_fewTurns_44 : decode cX7_fewTurns 44 = .ok (.ireturn, 1) := by decide +kernel
theorem dX7_fewTurns_45 : decode cX7_fewTurns 45 = .ok (.aload_n 0, 1) := by decide +kernel
theorem dX7_fewTurns_46 : decode cX7_fewTurns 46 = .ok (.dup, 1) := by decide +kernel
theorem dX7_fewTurns_47 : decode cX7_fewTurns 47 = .ok (.getfield 147, 3) := by decide +kernel
theorem dX7_fewTurns_50 : decode cX7_fewTurns 50 = .ok (.iconst 1, 1) := by decide +kernel
theorem dX7_fewTurns_51 : decode cX7_fewTurns 51 = .ok (.iadd, 1) := by decide +kernel
theorem dX7_fewTurns_52 : decode cX7_fewTurns 52 = .ok (.putfield 147, 3) := by decide +kernel
theorem dX7_fewTurns_55 : decode cX7_fewTurns 55 = .ok (.aload_n 0, 1) := by decide +kernel
theorem dX7_fewTurns_56 : decode cX7_fewTurns 56 = .ok (.invokevirtual 150, 3) := by decide +kernel
theorem dX7_fewTurns_59 : decode cX7_fewTurns 59 = .ok (.iconst (-1), 1) := by decide +kernel
theorem dX7_fewTurns_60 : decode cX7_fewTurns 60 = .ok (.istore_n 3, 1) := by decide +kernel
theorem dX7_fewTurns_61 : decode cX7_fewTurns 61 = .ok (.iconst (-1), 1) := by decide +kernel
theorem dX7_fewTurns_62 : decode cX7_fewTurns 62 = .ok (.istore 4, 2) := by decide +kernel
theorem dX7_fewTurns_64 : decode cX7_fewTurns 64 = .ok (.iconst 0, 1) := by decide +kernel
theorem dX7_fewTurns_65 : decode cX7_fewTurns 65 = .ok (.istore 5, 2) := by decide +kernel
theorem dX7_fewTurns_67 : decode cX7_fewTurns 67 = .ok (.iload 5, 2) := by decide +kernel
theorem dX7_fewTurns_69 : decode cX7_fewTurns 69 = .ok (.sipush 720, 3) := by decide +kernel
theorem dX7_fewTurns_72 : decode cX7_fewTurns 72 = .ok (.if_icmp .ge 125, 3) := by decide +kernel
theorem dX7_fewTurns_75 : decode cX7_fewTurns 75 = .ok (.aload_n 0, 1) := by decide +kernel
theorem dX7_fewTurns_76 : decode cX7_fewTurns 76 = .ok (.iload 5, 2) := by decide +kernel
theorem dX7_fewTurns_78 : decode cX7_fewTurns 78 = .ok (.invokevirtual 153, 3) := by decide +kernel
theorem dX7_fewTurns_81 : decode cX7_fewTurns 81 = .ok (.istore 6, 2) := by decide +kernel
theorem dX7_fewTurns_83 : decode cX7_fewTurns 83 = .ok (.aload_n 0, 1) := by decide +kernel
theorem dX7_fewTurns_84 : decode cX7_fewTurns 84 = .ok (.getfield 34, 3) := by decide +kernel
theorem dX7_fewTurns_87 : decode cX7_fewTurns 87 = .ok (.iload_n 1, 1) := by decide +kernel
theorem dX7_fewTurns_88 : decode cX7_fewTurns 88 = .ok (.iaload, 1) := by decide +kernel
theorem dX7_fewTurns_89 : decode cX7_fewTurns 89 = .ok (.iconst (-1), 1) := by decide +kernel
theorem dX7_fewTurns_90 : decode cX7_fewTurns 90 = .ok (.if_icmp .ne 24, 3) := by decide +kernel
theorem dX7_fewTurns_93 : decode cX7_fewTurns 93 = .ok (.iload_n 3, 1) := by decide +kernel
theorem dX7_fewTurns_94 : decode cX7_fewTurns 94 = .ok (.iconst (-1), 1) := by decide +kernel
theorem dX7_fewTurns_95 : decode cX7_fewTurns 95 = .ok (.if_icmp .eq 15, 3) := by decide +kernel
theorem dX7_fewTurns_98 : decode cX7_fewTurns 98 = .ok (.iload 6, 2) := by decide +kernel
theorem dX7_fewTurns_100 : decode cX7_fewTurns 100 = .ok (.invokestatic 156, 3) := by decide +kernel
theorem dX7_fewTurns_103 : decode cX7_fewTurns 103 = .ok (.iload_n 3, 1) := by decide +kernel
theorem dX7_fewTurns_104 : decode cX7_fewTurns 104 = .ok (.invokestatic 156, 3) := by decide +kernel
theorem dX7_fewTurns_107 : decode cX7_fewTurns 107 = .ok (.if_icmp .gt 7, 3) := by decide +kernel
theorem dX7_fewTurns_110 : decode cX7_fewTurns 110 = .ok (.iconst 1, 1) := by decide +kernel
theorem dX7_fewTurns_111 : decode cX7_fewTurns 111 = .ok (.goto 4, 3) := by decide +kernel
theorem dX7_fewTurns_114 : decode cX7_fewTurns 114 = .ok (.iconst 0, 1) := by decide +kernel
theorem dX7_fewTurns_115 : decode cX7_fewTurns 115 = .ok (.istore 7, 2) := by decide +kernel
theorem dX7_fewTurns_117 : decode cX7_fewTurns 117 = .ok (.iload 7, 2) := by decide +kernel
theorem dX7_fewTurns_119 : decode cX7_fewTurns 119 = .ok (.ifCond .eq 72, 3) := by decide +kernel
theorem dX7_fewTurns_122 : decode cX7_fewTurns 122 = .ok (.aload_n 0, 1) := by decide +kernel
theorem dX7_fewTurns_123 : decode cX7_fewTurns 123 = .ok (.invokevirtual 159, 3) := by decide +kernel
theorem dX7_fewTurns_126 : decode cX7_fewTurns 126 = .ok (.aload_n 0, 1) := by decide +kernel
theorem dX7_fewTurns_127 : decode cX7_fewTurns 127 = .ok (.iload_n 1, 1) := by decide +kernel
theorem dX7_fewTurns_128 : decode cX7_fewTurns 128 = .ok (.invokevirtual 162, 3) := by decide +kernel
theorem dX7_fewTurns_131 : decode cX7_fewTurns 131 = .ok (.ifCond .eq 60, 3) := by decide +kernel
theorem dX7_fewTurns_134 : decode cX7_fewTurns 134 = .ok (.iload_n 3, 1) := by decide +kernel
theorem dX7_fewTurns_135 : decode cX7_fewTurns 135 = .ok (.iconst (-1), 1) := by decide +kernel
theorem dX7_fewTurns_136 : decode cX7_fewTurns 136 = .ok (.if_icmp .eq 15, 3) := by decide +kernel
theorem dX7_fewTurns_139 : decode cX7_fewTurns 139 = .ok (.iload 6, 2) := by decide +kernel
theorem dX7_fewTurns_141 : decode cX7_fewTurns 141 = .ok (.invokestatic 156, 3) := by decide +kernel
theorem dX7_fewTurns_144 : decode cX7_fewTurns 144 = .ok (.iload_n 3, 1) := by decide +kernel
theorem dX7_fewTurns_145 : decode cX7_fewTurns 145 = .ok (.invokestatic 156, 3) := by decide +kernel
theorem dX7_fewTurns_148 : decode cX7_fewTurns 148 = .ok (.if_icmp .ge 7, 3) := by decide +kernel
theorem dX7_fewTurns_151 : decode cX7_fewTurns 151 = .ok (.iconst 1, 1) := by decide +kernel
theorem dX7_fewTurns_152 : decode cX7_fewTurns 152 = .ok (.goto 4, 3) := by decide +kernel
theorem dX7_fewTurns_155 : decode cX7_fewTurns 155 = .ok (.iconst 0, 1) := by decide +kernel
theorem dX7_fewTurns_156 : decode cX7_fewTurns 156 = .ok (.istore 8, 2) := by decide +kernel
theorem dX7_fewTurns_158 : decode cX7_fewTurns 158 = .ok (.iload 8, 2) := by decide +kernel
theorem dX7_fewTurns_160 : decode cX7_fewTurns 160 = .ok (.ifCond .eq 7, 3) := by decide +kernel
theorem dX7_fewTurns_163 : decode cX7_fewTurns 163 = .ok (.iconst 1, 1) := by decide +kernel
theorem dX7_fewTurns_164 : decode cX7_fewTurns 164 = .ok (.goto 7, 3) := by decide +kernel
theorem dX7_fewTurns_167 : decode cX7_fewTurns 167 = .ok (.iload 4, 2) := by decide +kernel
theorem dX7_fewTurns_169 : decode cX7_fewTurns 169 = .ok (.iconst 1, 1) := by decide +kernel
theorem dX7_fewTurns_170 : decode cX7_fewTurns 170 = .ok (.iadd, 1) := by decide +kernel
theorem dX7_fewTurns_171 : decode cX7_fewTurns 171 = .ok (.istore 4, 2) := by decide +kernel
theorem dX7_fewTurns_173 : decode cX7_fewTurns 173 = .ok (.iload 8, 2) := by decide +kernel
theorem dX7_fewTurns_175 : decode cX7_fewTurns 175 = .ok (.ifCond .ne 9, 3) := by decide +kernel
theorem dX7_fewTurns_178 : decode cX7_fewTurns 178 = .ok (.iload 6, 2) := by decide +kernel
theorem dX7_fewTurns_180 : decode cX7_fewTurns 180 = .ok (.iload_n 3, 1) := by decide +kernel
theorem dX7_fewTurns_181 : decode cX7_fewTurns 181 = .ok (.if_icmp .ge 8, 3) := by decide +kernel
theorem dX7_fewTurns_184 : decode cX7_fewTurns 184 = .ok (.iload 6, 2) := by decide +kernel
theorem dX7_fewTurns_186 : decode cX7_fewTurns 186 = .ok (.goto 4, 3) := by decide +kernel
theorem dX7_fewTurns_189 : decode cX7_fewTurns 189 = .ok (.iload_n 3, 1) := by decide +kernel
theorem dX7_fewTurns_190 : decode cX7_fewTurns 190 = .ok (.istore_n 3, 1) := by decide +kernel
theorem dX7_fewTurns_191 : decode cX7_fewTurns 191 = .ok (.iinc 5 1, 3) := by decide +kernel
theorem dX7_fewTurns_194 : decode cX7_fewTurns 194 = .ok (.goto (-127), 3) := by decide +kernel
theorem dX7_fewTurns_197 : decode cX7_fewTurns 197 = .ok (.iload_n 3, 1) := by decide +kernel
theorem dX7_fewTurns_198 : decode cX7_fewTurns 198 = .ok (.iconst (-1), 1) := by decide +kernel
theorem dX7_fewTurns_199 : decode cX7_fewTurns 199 = .ok (.if_icmp .eq 8, 3) := by decide +kernel
theorem dX7_fewTurns_202 : decode cX7_fewTurns 202 = .ok (.iload_n 2, 1) := by decide +kernel
theorem dX7_fewTurns_203 : decode cX7_fewTurns 203 = .ok (.iconst 1, 1) := by decide +kernel
theorem dX7_fewTurns_204 : decode cX7_fewTurns 204 = .ok (.if_icmp .ne 7, 3) := by decide +kernel
theorem dX7_fewTurns_207 : decode cX7_fewTurns 207 = .ok (.iload_n 3, 1) := by decide +kernel
theorem dX7_fewTurns_208 : decode cX7_fewTurns 208 = .ok (.goto 16, 3) := by decide +kernel
theorem dX7_fewTurns_211 : decode cX7_fewTurns 211 = .ok (.iload_n 2, 1) := by decide +kernel
theorem dX7_fewTurns_212 : decode cX7_fewTurns 212 = .ok (.ifCond .ne 10, 3) := by decide +kernel
theorem dX7_fewTurns_215 : decode cX7_fewTurns 215 = .ok (.iload_n 3, 1) := by decide +kernel
theorem dX7_fewTurns_216 : decode cX7_fewTurns 216 = .ok (.invokestatic 156, 3) := by decide +kernel
theorem dX7_fewTurns_219 : decode cX7_fewTurns 219 = .ok (.goto 5, 3) := by decide +kernel
theorem dX7_fewTurns_222 : decode cX7_fewTurns 222 = .ok (.iload 4, 2) := by decide +kernel
theorem dX7_fewTurns_224 : decode cX7_fewTurns 224 = .ok (.ireturn, 1) := by decide +kernel
theorem dX7_wordOf_0 : decode cX7_wordOf 0 = .ok (.iconst 0, 1) := by decide +kernel
theorem dX7_wordOf_1 : decode cX7_wordOf 1 = .ok (.istore_n 2, 1) := by decide +kernel
theorem dX7_wordOf_2 : decode cX7_wordOf 2 = .ok (.iconst 0, 1) := by decide +kernel
theorem dX7_wordOf_3 : decode cX7_wordOf 3 = .ok (.istore_n 3, 1) := by decide +kernel
theorem dX7_wordOf_4 : decode cX7_wordOf 4 = .ok (.iload_n 3, 1) := by decide +kernel
theorem dX7_wordOf_5 : decode cX7_wordOf 5 = .ok (.aload_n 0, 1) := by decide +kernel
theorem dX7_wordOf_6 : decode cX7_wordOf 6 = .ok (.getfield 28, 3) := by decide +kernel
theorem dX7_wordOf_9 : decode cX7_wordOf 9 = .ok (.bipush 17, 2) := by decide +kernel
theorem dX7_wordOf_11 : decode cX7_wordOf 11 = .ok (.iload_n 1, 1) := by decide +kernel
theorem dX7_wordOf_12 : decode cX7_wordOf 12 = .ok (.imul, 1) := by decide +kernel
theorem dX7_wordOf_13 : decode cX7_wordOf 13 = .ok (.iconst 4, 1) := by decide +kernel
theorem dX7_wordOf_14 : decode cX7_wordOf 14 = .ok (.iadd, 1) := by decide +kernel
theorem dX7_wordOf_15 : decode cX7_wordOf 15 = .ok (.iaload, 1) := by decide +kernel
theorem dX7_wordOf_16 : decode cX7_wordOf 16 = .ok (.if_icmp .ge 30, 3) := by decide +kernel
theorem dX7_wordOf_19 : decode cX7_wordOf 19 = .ok (.bipush 6, 2) := by decide +kernel
theorem dX7_wordOf_21 : decode cX7_wordOf 21 = .ok (.iload_n 2, 1) := by decide +kernel
theorem dX7_wordOf_22 : decode cX7_wordOf 22 = .ok (.imul, 1) := by decide +kernel
theorem dX7_wordOf_23 : decode cX7_wordOf 23 = .ok (.aload_n 0, 1) := by decide +kernel
theorem dX7_wordOf_24 : decode cX7_wordOf 24 = .ok (.getfield 28, 3) := by decide +kernel
theorem dX7_wordOf_27 : decode cX7_wordOf 27 = .ok (.bipush 17, 2) := by decide +kernel
theorem dX7_wordOf_29 : decode cX7_wordOf 29 = .ok (.iload_n 1, 1) := by decide +kernel
theorem dX7_wordOf_30 : decode cX7_wordOf 30 = .ok (.imul, 1) := by decide +kernel
theorem dX7_wordOf_31 : decode cX7_wordOf 31 = .ok (.iconst 5, 1) := by decide +kernel
theorem dX7_wordOf_32 : decode cX7_wordOf 32 = .ok (.iadd, 1) := by decide +kernel
theorem dX7_wordOf_33 : decode cX7_wordOf 33 = .ok (.iload_n 3, 1) := by decide +kernel
theorem dX7_wordOf_34 : decode cX7_wordOf 34 = .ok (.iadd, 1) := by decide +kernel
theorem dX7_wordOf_35 : decode cX7_wordOf 35 = .ok (.iaload, 1) := by decide +kernel
theorem dX7_wordOf_36 : decode cX7_wordOf 36 = .ok (.iadd, 1) := by decide +kernel
theorem dX7_wordOf_37 : decode cX7_wordOf 37 = .ok (.iconst 1, 1) := by decide +kernel
theorem dX7_wordOf_38 : decode cX7_wordOf 38 = .ok (.iadd, 1) := by decide +kernel
theorem dX7_wordOf_39 : decode cX7_wordOf 39 = .ok (.istore_n 2, 1) := by decide +kernel
theorem dX7_wordOf_40 : decode cX7_wordOf 40 = .ok (.iinc 3 1, 3) := by decide +kernel
theorem dX7_wordOf_43 : decode cX7_wordOf 43 = .ok (.goto (-39), 3) := by decide +kernel
theorem dX7_wordOf_46 : decode cX7_wordOf 46 = .ok (.iload_n 2, 1) := by decide +kernel
theorem dX7_wordOf_47 : decode cX7_wordOf 47 = .ok (.ireturn, 1) := by decide +kernel
theorem dX7_isOrder_0 : decode cX7_isOrder 0 = .ok (.iload_n 1, 1) := by decide +kernel
theorem dX7_isOrder_1 : decode cX7_isOrder 1 = .ok (.istore_n 3, 1) := by decide +kernel
theorem dX7_isOrder_2 : decode cX7_isOrder 2 = .ok (.iconst 0, 1) := by decide +kernel
theorem dX7_isOrder_3 : decode cX7_isOrder 3 = .ok (.istore 4, 2) := by decide +kernel
theorem dX7_isOrder_5 : decode cX7_isOrder 5 = .ok (.iconst 0, 1) := by decide +kernel
theorem dX7_isOrder_6 : decode cX7_isOrder 6 = .ok (.istore 5, 2) := by decide +kernel
theorem dX7_isOrder_8 : decode cX7_isOrder 8 = .ok (.iload 5, 2) := by decide +kernel
theorem dX7_isOrder_10 : decode cX7_isOrder 10 = .ok (.iload_n 2, 1) := by decide +kernel
theorem dX7_isOrder_11 : decode cX7_isOrder 11 = .ok (.if_icmp .ge 37, 3) := by decide +kernel
theorem dX7_isOrder_14 : decode cX7_isOrder 14 = .ok (.aload_n 0, 1) := by decide +kernel
theorem dX7_isOrder_15 : decode cX7_isOrder 15 = .ok (.getfield 44, 3) := by decide +kernel
theorem dX7_isOrder_18 : decode cX7_isOrder 18 = .ok (.iload 5, 2) := by decide +kernel
theorem dX7_isOrder_20 : decode cX7_isOrder 20 = .ok (.iload_n 3, 1) := by decide +kernel
theorem dX7_isOrder_21 : decode cX7_isOrder 21 = .ok (.iload_n 2, 1) := by decide +kernel
theorem dX7_isOrder_22 : decode cX7_isOrder 22 = .ok (.irem, 1) := by decide +kernel
theorem dX7_isOrder_23 : decode cX7_isOrder 23 = .ok (.iastore, 1) := by decide +kernel
theorem dX7_isOrder_24 : decode cX7_isOrder 24 = .ok (.iload 4, 2) := by decide +kernel
theorem dX7_isOrder_26 : decode cX7_isOrder 26 = .ok (.iconst 1, 1) := by decide +kernel
theorem dX7_isOrder_27 : decode cX7_isOrder 27 = .ok (.aload_n 0, 1) := by decide +kernel
theorem dX7_isOrder_28 : decode cX7_isOrder 28 = .ok (.getfield 44, 3) := by decide +kernel
theorem dX7_isOrder_31 : decode cX7_isOrder 31 = .ok (.iload 5, 2) := by decide +kernel
theorem dX7_isOrder_33 : decode cX7_isOrder 33 = .ok (.iaload, 1) := by decide +kernel
theorem dX7_isOrder_34 : decode cX7_isOrder 34 = .ok (.ishl, 1) := by decide +kernel
theorem dX7_isOrder_35 : decode cX7_isOrder 35 = .ok (.ior, 1) := by decide +kernel
theorem dX7_isOrder_36 : decode cX7_isOrder 36 = .ok (.istore 4, 2) := by decide +kernel
theorem dX7_isOrder_38 : decode cX7_isOrder 38 = .ok (.iload_n 3, 1) := by decide +kernel
theorem dX7_isOrder_39 : decode cX7_isOrder 39 = .ok (.iload_n 2, 1) := by decide +kernel
theorem dX7_isOrder_40 : decode cX7_isOrder 40 = .ok (.idiv, 1) := by decide +kernel
theorem dX7_isOrder_41 : decode cX7_isOrder 41 = .ok (.istore_n 3, 1) := by decide +kernel
theorem dX7_isOrder_42 : decode cX7_isOrder 42 = .ok (.iinc 5 1, 3) := by decide +kernel
theorem dX7_isOrder_45 : decode cX7_isOrder 45 = .ok (.goto (-37), 3) := by decide +kernel
theorem dX7_isOrder_48 : decode cX7_isOrder 48 = .ok (.iload 4, 2) := by decide +kernel
theorem dX7_isOrder_50 : decode cX7_isOrder 50 = .ok (.iconst 1, 1) := by decide +kernel
theorem dX7_isOrder_51 : decode cX7_isOrder 51 = .ok (.iload_n 2, 1) := by decide +kernel
theorem dX7_isOrder_52 : decode cX7_isOrder 52 = .ok (.ishl, 1) := by decide +kernel
theorem dX7_isOrder_53 : decode cX7_isOrder 53 = .ok (.iconst 1, 1) := by decide +kernel
theorem dX7_isOrder_54 : decode cX7_isOrder 54 = .ok (.isub, 1) := by decide +kernel
theorem dX7_isOrder_55 : decode cX7_isOrder 55 = .ok (.if_icmp .ne 7, 3) := by decide +kernel
theorem dX7_isOrder_58 : decode cX7_isOrder 58 = .ok (.iconst 1, 1) := by decide +kernel
theorem dX7_isOrder_59 : decode cX7_isOrder 59 = .ok (.goto 4, 3) := by decide +kernel
theorem dX7_isOrder_62 : decode cX7_isOrder 62 = .ok (.iconst 0, 1) := by decide +kernel
theorem dX7_isOrder_63 : decode cX7_isOrder 63 = .ok (.ireturn, 1) := by decide +kernel
theorem dX7_orders_0 : decode cX7_orders 0 = .ok (.aload_n 0, 1) := by decide +kernel
theorem dX7_orders_1 : decode cX7_orders 1 = .ok (.iload_n 1, 1) := by decide +kernel
theorem dX7_orders_2 : decode cX7_orders 2 = .ok (.invokevirtual 119, 3) := by decide +kernel
theorem dX7_orders_5 : decode cX7_orders 5 = .ok (.ifCond .ne 6, 3) := by decide +kernel
theorem dX7_orders_8 : decode cX7_orders 8 = .ok (.bipush (-101), 2) := by decide +kernel
theorem dX7_orders_10 : decode cX7_orders 10 = .ok (.ireturn, 1) := by decide +kernel
theorem dX7_orders_11 : decode cX7_orders 11 = .ok (.aload_n 0, 1) := by decide +kernel
theorem dX7_orders_12 : decode cX7_orders 12 = .ok (.getfield 16, 3) := by decide +kernel
theorem dX7_orders_15 : decode cX7_orders 15 = .ok (.iload_n 1, 1) := by decide +kernel
theorem dX7_orders_16 : decode cX7_orders 16 = .ok (.iaload, 1) := by decide +kernel
theorem dX7_orders_17 : decode cX7_orders 17 = .ok (.iconst (-1), 1) := by decide +kernel
theorem dX7_orders_18 : decode cX7_orders 18 = .ok (.if_icmp .ne 12, 3) := by decide +kernel
theorem dX7_orders_21 : decode cX7_orders 21 = .ok (.aload_n 0, 1) := by decide +kernel
theorem dX7_orders_22 : decode cX7_orders 22 = .ok (.getfield 165, 3) := by decide +kernel
theorem dX7_orders_25 : decode cX7_orders 25 = .ok (.bipush 20, 2) := by decide +kernel
theorem dX7_orders_27 : decode cX7_orders 27 = .ok (.if_icmp .ne 6, 3) := by decide +kernel
theorem dX7_orders_30 : decode cX7_orders 30 = .ok (.bipush (-103), 2) := by decide +kernel
theorem dX7_orders_32 : decode cX7_orders 32 = .ok (.ireturn, 1) := by decide +kernel
theorem dX7_orders_33 : decode cX7_orders 33 = .ok (.aload_n 0, 1) := by decide +kernel
theorem dX7_orders_34 : decode cX7_orders 34 = .ok (.dup, 1) := by decide +kernel
theorem dX7_orders_35 : decode cX7_orders 35 = .ok (.getfield 165, 3) := by decide +kernel
theorem dX7_orders_38 : decode cX7_orders 38 = .ok (.iconst 1, 1) := by decide +kernel
theorem dX7_orders_39 : decode cX7_orders 39 = .ok (.iadd, 1) := by decide +kernel
theorem dX7_orders_40 : decode cX7_orders 40 = .ok (.putfield 165, 3) := by decide +kernel
theorem dX7_orders_43 : decode cX7_orders 43 = .ok (.aload_n 0, 1) := by decide +kernel
theorem dX7_orders_44 : decode cX7_orders 44 = .ok (.invokevirtual 150, 3) := by decide +kernel
theorem dX7_orders_47 : decode cX7_orders 47 = .ok (.iconst 0, 1) := by decide +kernel
theorem dX7_orders_48 : decode cX7_orders 48 = .ok (.istore_n 2, 1) := by decide +kernel
theorem dX7_orders_49 : decode cX7_orders 49 = .ok (.iload_n 2, 1) := by decide +kernel
theorem dX7_orders_50 : decode cX7_orders 50 = .ok (.ldc 40, 2) := by decide +kernel
theorem dX7_orders_52 : decode cX7_orders 52 = .ok (.if_icmp .ge 16, 3) := by decide +kernel
theorem dX7_orders_55 : decode cX7_orders 55 = .ok (.aload_n 0, 1) := by decide +kernel
theorem dX7_orders_56 : decode cX7_orders 56 = .ok (.getfield 41, 3) := by decide +kernel
theorem dX7_orders_59 : decode cX7_orders 59 = .ok (.iload_n 2, 1) := by decide +kernel
theorem dX7_orders_60 : decode cX7_orders 60 = .ok (.iconst 0, 1) := by decide +kernel
theorem dX7_orders_61 : decode cX7_orders 61 = .ok (.iastore, 1) := by decide +kernel
theorem dX7_orders_62 : decode cX7_orders 62 = .ok (.iinc 2 1, 3) := by decide +kernel
theorem dX7_orders_65 : decode cX7_orders 65 = .ok (.goto (-16), 3) := by decide +kernel
theorem dX7_orders_68 : decode cX7_orders 68 = .ok (.aload_n 0, 1) := by decide +kernel
theorem dX7_orders_69 : decode cX7_orders 69 = .ok (.getfield 109, 3) := by decide +kernel
theorem dX7_orders_72 : decode cX7_orders 72 = .ok (.bipush 6, 2) := by decide +kernel
theorem dX7_orders_74 : decode cX7_orders 74 = .ok (.if_icmp .ge 10, 3) := by decide +kernel
theorem dX7_orders_77 : decode cX7_orders 77 = .ok (.aload_n 0, 1) := by decide +kernel
theorem dX7_orders_78 : decode cX7_orders 78 = .ok (.getfield 109, 3) := by decide +kernel
theorem dX7_orders_81 : decode cX7_orders 81 = .ok (.goto 5, 3) := by decide +kernel
theorem dX7_orders_84 : decode cX7_orders 84 = .ok (.bipush 6, 2) := by decide +kernel
theorem dX7_orders_86 : decode cX7_orders 86 = .ok (.istore_n 2, 1) := by decide +kernel
theorem dX7_orders_87 : decode cX7_orders 87 = .ok (.iconst 1, 1) := by decide +kernel
theorem dX7_orders_88 : decode cX7_orders 88 = .ok (.istore_n 3, 1) := by decide +kernel
theorem dX7_orders_89 : decode cX7_orders 89 = .ok (.iconst 0, 1) := by decide +kernel
theorem dX7_orders_90 : decode cX7_orders 90 = .ok (.istore 4, 2) := by decide +kernel
theorem dX7_orders_92 : decode cX7_orders 92 = .ok (.iload 4, 2) := by decide +kernel
theorem dX7_orders_94 : decode cX7_orders 94 = .ok (.iload_n 2, 1) := by decide +kernel
theorem dX7_orders_95 : decode cX7_orders 95 = .ok (.if_icmp .ge 13, 3) := by decide +kernel
theorem dX7_orders_98 : decode cX7_orders 98 = .ok (.iload_n 3, 1) := by decide +kernel
theorem dX7_orders_99 : decode cX7_orders 99 = .ok (.iload_n 2, 1) := by decide +kernel
theorem dX7_orders_100 : decode cX7_orders 100 = .ok (.imul, 1) := by decide +kernel
theorem dX7_orders_101 : decode cX7_orders 101 = .ok (.istore_n 3, 1) := by decide +kernel
theorem dX7_orders_102 : decode cX7_orders 102 = .ok (.iinc 4 1, 3) := by decide +kernel
theorem dX7_orders_105 : decode cX7_orders 105 = .ok (.goto (-13), 3) := by decide +kernel
theorem dX7_orders_108 : decode cX7_orders 108 = .ok (.iconst 0, 1) := by decide +kernel
theorem dX7_orders_109 : decode cX7_orders 109 = .ok (.istore 4, 2) := by decide +kernel
theorem dX7_orders_111 : decode cX7_orders 111 = .ok (.iconst 0, 1) := by decide +kernel
theorem dX7_orders_112 : decode cX7_orders 112 = .ok (.istore 5, 2) := by decide +kernel
theorem dX7_orders_114 : decode cX7_orders 114 = .ok (.iload 5, 2) := by decide +kernel
theorem dX7_orders_116 : decode cX7_orders 116 = .ok (.iload_n 3, 1) := by decide +kernel
theorem dX7_orders_117 : decode cX7_orders 117 = .ok (.if_icmp .ge 117, 3) := by decide +kernel
theorem dX7_orders_120 : decode cX7_orders 120 = .ok (.aload_n 0, 1) := by decide +kernel
theorem dX7_orders_121 : decode cX7_orders 121 = .ok (.iload 5, 2) := by decide +kernel
theorem dX7_orders_123 : decode cX7_orders 123 = .ok (.iload_n 2, 1) := by decide +kernel
theorem dX7_orders_124 : decode cX7_orders 124 = .ok (.invokevirtual 168, 3) := by decide +kernel
theorem dX7_orders_127 : decode cX7_orders 127 = .ok (.ifCond .eq 101, 3) := by decide +kernel
theorem dX7_orders_130 : decode cX7_orders 130 = .ok (.aload_n 0, 1) := by decide +kernel
theorem dX7_orders_131 : decode cX7_orders 131 = .ok (.getfield 28, 3) := by decide +kernel
theorem dX7_orders_134 : decode cX7_orders 134 = .ok (.invokestatic 105, 3) := by decide +kernel
theorem dX7_orders_137 : decode cX7_orders 137 = .ok (.iconst 0, 1) := by decide +kernel
theorem dX7_orders_138 : decode cX7_orders 138 = .ok (.istore 6, 2) := by decide +kernel
theorem dX7_orders_140 : decode cX7_orders 140 = .ok (.iload 6, 2) := by decide +kernel
theorem dX7_orders_142 : decode cX7_orders 142 = .ok (.iload_n 2, 1) := by decide +kernel
theorem dX7_orders_143 : decode cX7_orders 143 = .ok (.if_icmp .ge 50, 3) := by decide +kernel
theorem dX7_orders_146 : decode cX7_orders 146 = .ok (.aload_n 0, 1) := by decide +kernel
theorem dX7_orders_147 : decode cX7_orders 147 = .ok (.getfield 28, 3) := by decide +kernel
theorem dX7_orders_150 : decode cX7_orders 150 = .ok (.aload_n 0, 1) := by decide +kernel
theorem dX7_orders_151 : decode cX7_orders 151 = .ok (.getfield 31, 3) := by decide +kernel
theorem dX7_orders_154 : decode cX7_orders 154 = .ok (.aload_n 0, 1) := by decide +kernel
theorem dX7_orders_155 : decode cX7_orders 155 = .ok (.getfield 34, 3) := by decide +kernel
theorem dX7_orders_158 : decode cX7_orders 158 = .ok (.aload_n 0, 1) := by decide +kernel
theorem dX7_orders_159 : decode cX7_orders 159 = .ok (.getfield 22, 3) := by decide +kernel
theorem dX7_orders_162 : decode cX7_orders 162 = .ok (.aload_n 0, 1) := by decide +kernel
theorem dX7_orders_163 : decode cX7_orders 163 = .ok (.getfield 44, 3) := by decide +kernel
theorem dX7_orders_166 : decode cX7_orders 166 = .ok (.iload 6, 2) := by decide +kernel
theorem dX7_orders_168 : decode cX7_orders 168 = .ok (.iaload, 1) := by decide +kernel
theorem dX7_orders_169 : decode cX7_orders 169 = .ok (.iaload, 1) := by decide +kernel
theorem dX7_orders_170 : decode cX7_orders 170 = .ok (.aload_n 0, 1) := by decide +kernel
theorem dX7_orders_171 : decode cX7_orders 171 = .ok (.getfield 25, 3) := by decide +kernel
theorem dX7_orders_174 : decode cX7_orders 174 = .ok (.aload_n 0, 1) := by decide +kernel
theorem dX7_orders_175 : decode cX7_orders 175 = .ok (.getfield 44, 3) := by decide +kernel
theorem dX7_orders_178 : decode cX7_orders 178 = .ok (.iload 6, 2) := by decide +kernel
theorem dX7_orders_180 : decode cX7_orders 180 = .ok (.iaload, 1) := by decide +kernel
theorem dX7_orders_181 : decode cX7_orders 181 = .ok (.iaload, 1) := by decide +kernel
theorem dX7_orders_182 : decode cX7_orders 182 = .ok (.invokestatic 133, 3) := by decide +kernel
theorem dX7_orders_185 : decode cX7_orders 185 = .ok (.istore 7, 2) := by decide +kernel
theorem dX7_orders_187 : decode cX7_orders 187 = .ok (.iinc 6 1, 3) := by decide +kernel
theorem dX7_orders_190 : decode cX7_orders 190 = .ok (.goto (-50), 3) := by decide +kernel
theorem dX7_orders_193 : decode cX7_orders 193 = .ok (.aload_n 0, 1) := by decide +kernel
theorem dX7_orders_194 : decode cX7_orders 194 = .ok (.iload_n 1, 1) := by decide +kernel
theorem dX7_orders_195 : decode cX7_orders 195 = .ok (.invokevirtual 171, 3) := by decide +kernel
theorem dX7_orders_198 : decode cX7_orders 198 = .ok (.istore 6, 2) := by decide +kernel
theorem dX7_orders_200 : decode cX7_orders 200 = .ok (.iload 4, 2) := by decide +kernel
theorem dX7_orders_202 : decode cX7_orders 202 = .ok (.aload_n 0, 1) := by decide +kernel
theorem dX7_orders_203 : decode cX7_orders 203 = .ok (.getfield 41, 3) := by decide +kernel
theorem dX7_orders_206 : decode cX7_orders 206 = .ok (.iload 6, 2) := by decide +kernel
theorem dX7_orders_208 : decode cX7_orders 208 = .ok (.iaload, 1) := by decide +kernel
theorem dX7_orders_209 : decode cX7_orders 209 = .ok (.ifCond .ne 7, 3) := by decide +kernel
theorem dX7_orders_212 : decode cX7_orders 212 = .ok (.iconst 1, 1) := by decide +kernel
theorem dX7_orders_213 : decode cX7_orders 213 = .ok (.goto 4, 3) := by decide +kernel
theorem dX7_orders_216 : decode cX7_orders 216 = .ok (.iconst 0, 1) := by decide +kernel
theorem dX7_orders_217 : decode cX7_orders 217 = .ok (.iadd, 1) := by decide +kernel
theorem dX7_orders_218 : decode cX7_orders 218 = .ok (.istore 4, 2) := by decide +kernel
theorem dX7_orders_220 : decode cX7_orders 220 = .ok (.aload_n 0, 1) := by decide +kernel
theorem dX7_orders_221 : decode cX7_orders 221 = .ok (.getfield 41, 3) := by decide +kernel
theorem dX7_orders_224 : decode cX7_orders 224 = .ok (.iload 6, 2) := by decide +kernel
theorem dX7_orders_226 : decode cX7_orders 226 = .ok (.iconst 1, 1) := by decide +kernel
theorem dX7_orders_227 : decode cX7_orders 227 = .ok (.iastore, 1) := by decide +kernel
theorem dX7_orders_228 : decode cX7_orders 228 = .ok (.iinc 5 1, 3) := by decide +kernel
theorem dX7_orders_231 : decode cX7_orders 231 = .ok (.goto (-117), 3) := by decide +kernel
theorem dX7_orders_234 : decode cX7_orders 234 = .ok (.iload 4, 2) := by decide +kernel
theorem dX7_orders_236 : decode cX7_orders 236 = .ok (.ireturn, 1) := by decide +kernel
theorem dX7_outOf_0 : decode cX7_outOf 0 = .ok (.iconst 0, 1) := by decide +kernel
theorem dX7_outOf_1 : decode cX7_outOf 1 = .ok (.istore_n 1, 1) := by decide +kernel
theorem dX7_outOf_2 : decode cX7_outOf 2 = .ok (.iconst 0, 1) := by decide +kernel
theorem dX7_outOf_3 : decode cX7_outOf 3 = .ok (.istore_n 2, 1) := by decide +kernel
theorem dX7_outOf_4 : decode cX7_outOf 4 = .ok (.iload_n 2, 1) := by decide +kernel
theorem dX7_outOf_5 : decode cX7_outOf 5 = .ok (.bipush 6, 2) := by decide +kernel
theorem dX7_outOf_7 : decode cX7_outOf 7 = .ok (.if_icmp .ge 20, 3) := by decide +kernel
theorem dX7_outOf_10 : decode cX7_outOf 10 = .ok (.iload_n 1, 1) := by decide +kernel
theorem dX7_outOf_11 : decode cX7_outOf 11 = .ok (.aload_n 0, 1) := by decide +kernel
theorem dX7_outOf_12 : decode cX7_outOf 12 = .ok (.bipush 17, 2) := by decide +kernel
theorem dX7_outOf_14 : decode cX7_outOf 14 = .ok (.iload_n 2, 1) := by decide +kernel
theorem dX7_outOf_15 : decode cX7_outOf 15 = .ok (.imul, 1) := by decide +kernel
theorem dX7_outOf_16 : decode cX7_outOf 16 = .ok (.iconst 4, 1) := by decide +kernel
theorem dX7_outOf_17 : decode cX7_outOf 17 = .ok (.iadd, 1) := by decide +kernel
theorem dX7_outOf_18 : decode cX7_outOf 18 = .ok (.iaload, 1) := by decide +kernel
theorem dX7_outOf_19 : decode cX7_outOf 19 = .ok (.iadd, 1) := by decide +kernel
theorem dX7_outOf_20 : decode cX7_outOf 20 = .ok (.istore_n 1, 1) := by decide +kernel
theorem dX7_outOf_21 : decode cX7_outOf 21 = .ok (.iinc 2 1, 3) := by decide +kernel
theorem dX7_outOf_24 : decode cX7_outOf 24 = .ok (.goto (-20), 3) := by decide +kernel
theorem dX7_outOf_27 : decode cX7_outOf 27 = .ok (.iload_n 1, 1) := by decide +kernel
theorem dX7_outOf_28 : decode cX7_outOf 28 = .ok (.ireturn, 1) := by decide +kernel
theorem dX7_bestDrop_0 : decode cX7_bestDrop 0 = .ok (.iload_n 1, 1) := by decide +kernel
theorem dX7_bestDrop_1 : decode cX7_bestDrop 1 = .ok (.i2l, 1) := by decide +kernel
theorem dX7_bestDrop_2 : decode cX7_bestDrop 2 = .ok (.lconst 0, 1) := by decide +kernel
theorem dX7_bestDrop_3 : decode cX7_bestDrop 3 = .ok (.ldc2_w 127, 3) := by decide +kernel
theorem dX7_bestDrop_6 : decode cX7_bestDrop 6 = .ok (.invokestatic 77, 3) := by decide +kernel
theorem dX7_bestDrop_9 : decode cX7_bestDrop 9 = .ok (.ifCond .ne 6, 3) := by decide +kernel
theorem dX7_bestDrop_12 : decode cX7_bestDrop 12 = .ok (.bipush (-102), 2) := by decide +kernel
theorem dX7_bestDrop_14 : decode cX7_bestDrop 14 = .ok (.ireturn, 1) := by decide +kernel
theorem dX7_bestDrop_15 : decode cX7_bestDrop 15 = .ok (.aload_n 0, 1) := by decide +kernel
theorem dX7_bestDrop_16 : decode cX7_bestDrop 16 = .ok (.getfield 101, 3) := by decide +kernel
theorem dX7_bestDrop_19 : decode cX7_bestDrop 19 = .ok (.ifCond .ne 6, 3) := by decide +kernel
theorem dX7_bestDrop_22 : decode cX7_bestDrop 22 = .ok (.bipush (-103), 2) := by decide +kernel
theorem dX7_bestDrop_24 : decode cX7_bestDrop 24 = .ok (.ireturn, 1) := by decide +kernel
theorem dX7_bestDrop_25 : decode cX7_bestDrop 25 = .ok (.aload_n 0, 1) := by decide +kernel
theorem dX7_bestDrop_26 : decode cX7_bestDrop 26 = .ok (.getfield 109, 3) := by decide +kernel
theorem dX7_bestDrop_29 : decode cX7_bestDrop 29 = .ok (.bipush 12, 2) := by decide +kernel
theorem dX7_bestDrop_31 : decode cX7_bestDrop 31 = .ok (.if_icmp .ne 6, 3) := by decide +kernel
theorem dX7_bestDrop_34 : decode cX7_bestDrop 34 = .ok (.bipush (-104), 2) := by decide +kernel
theorem dX7_bestDrop_36 : decode cX7_bestDrop 36 = .ok (.ireturn, 1) := by decide +kernel
theorem dX7_bestDrop_37 : decode cX7_bestDrop 37 = .ok (.aload_n 0, 1) := by decide +kernel
theorem dX7_bestDrop_38 : decode cX7_bestDrop 38 = .ok (.invokevirtual 150, 3) := by decide +kernel
theorem dX7_bestDrop_41 : decode cX7_bestDrop 41 = .ok (.iconst (-1), 1) := by decide +kernel
theorem dX7_bestDrop_42 : decode cX7_bestDrop 42 = .ok (.istore_n 2, 1) := by decide +kernel
theorem dX7_bestDrop_43 : decode cX7_bestDrop 43 = .ok (.iconst (-1), 1) := by decide +kernel
theorem dX7_bestDrop_44 : decode cX7_bestDrop 44 = .ok (.istore_n 3, 1) := by decide +kernel
theorem dX7_bestDrop_45 : decode cX7_bestDrop 45 = .ok (.iconst 0, 1) := by decide +kernel
theorem dX7_bestDrop_46 : decode cX7_bestDrop 46 = .ok (.istore 4, 2) := by decide +kernel
theorem dX7_bestDrop_48 : decode cX7_bestDrop 48 = .ok (.iload 4, 2) := by decide +kernel
theorem dX7_bestDrop_50 : decode cX7_bestDrop 50 = .ok (.bipush 6, 2) := by decide +kernel
theorem dX7_bestDrop_52 : decode cX7_bestDrop 52 = .ok (.if_icmp .ge 74, 3) := by decide +kernel
theorem dX7_bestDrop_55 : decode cX7_bestDrop 55 = .ok (.aload_n 0, 1) := by decide +kernel
theorem dX7_bestDrop_56 : decode cX7_bestDrop 56 = .ok (.invokevirtual 159, 3) := by decide +kernel
theorem dX7_bestDrop_59 : decode cX7_bestDrop 59 = .ok (.aload_n 0, 1) := by decide +kernel
theorem dX7_bestDrop_60 : decode cX7_bestDrop 60 = .ok (.getfield 28, 3) := by decide +kernel
theorem dX7_bestDrop_63 : decode cX7_bestDrop 63 = .ok (.aload_n 0, 1) := by decide +kernel
theorem dX7_bestDrop_64 : decode cX7_bestDrop 64 = .ok (.getfield 31, 3) := by decide +kernel
theorem dX7_bestDrop_67 : decode cX7_bestDrop 67 = .ok (.aload_n 0, 1) := by decide +kernel
theorem dX7_bestDrop_68 : decode cX7_bestDrop 68 = .ok (.getfield 34, 3) := by decide +kernel
theorem dX7_bestDrop_71 : decode cX7_bestDrop 71 = .ok (.iload 4, 2) := by decide +kernel
theorem dX7_bestDrop_73 : decode cX7_bestDrop 73 = .ok (.iload_n 1, 1) := by decide +kernel
theorem dX7_bestDrop_74 : decode cX7_bestDrop 74 = .ok (.invokestatic 133, 3) := by decide +kernel
theorem dX7_bestDrop_77 : decode cX7_bestDrop 77 = .ok (.istore 5, 2) := by decide +kernel
theorem dX7_bestDrop_79 : decode cX7_bestDrop 79 = .ok (.aload_n 0, 1) := by decide +kernel
theorem dX7_bestDrop_80 : decode cX7_bestDrop 80 = .ok (.getfield 28, 3) := by decide +kernel
theorem dX7_bestDrop_83 : decode cX7_bestDrop 83 = .ok (.invokestatic 174, 3) := by decide +kernel
theorem dX7_bestDrop_86 : decode cX7_bestDrop 86 = .ok (.iload_n 3, 1) := by decide +kernel
theorem dX7_bestDrop_87 : decode cX7_bestDrop 87 = .ok (.if_icmp .le 8, 3) := by decide +kernel
theorem dX7_bestDrop_90 : decode cX7_bestDrop 90 = .ok (.iload 4, 2) := by decide +kernel
theorem dX7_bestDrop_92 : decode cX7_bestDrop 92 = .ok (.goto 4, 3) := by decide +kernel
theorem dX7_bestDrop_95 : decode cX7_bestDrop 95 = .ok (.iload_n 2, 1) := by decide +kernel
theorem dX7_bestDrop_96 : decode cX7_bestDrop 96 = .ok (.istore_n 2, 1) := by decide +kernel
theorem dX7_bestDrop_97 : decode cX7_bestDrop 97 = .ok (.aload_n 0, 1) := by decide +kernel
theorem dX7_bestDrop_98 : decode cX7_bestDrop 98 = .ok (.getfield 28, 3) := by decide +kernel
theorem dX7_bestDrop_101 : decode cX7_bestDrop 101 = .ok (.invokestatic 174, 3) := by decide +kernel
theorem dX7_bestDrop_104 : decode cX7_bestDrop 104 = .ok (.iload_n 3, 1) := by decide +kernel
theorem dX7_bestDrop_105 : decode cX7_bestDrop 105 = .ok (.if_icmp .le 13, 3) := by decide +kernel
theorem dX7_bestDrop_108 : decode cX7_bestDrop 108 = .ok (.aload_n 0, 1) := by decide +kernel
theorem dX7_bestDrop_109 : decode cX7_bestDrop 109 = .ok (.getfield 28, 3) := by decide +kernel
theorem dX7_bestDrop_112 : decode cX7_bestDrop 112 = .ok (.invokestatic 174, 3) := by decide +kernel
theorem dX7_bestDrop_115 : decode cX7_bestDrop 115 = .ok (.goto 4, 3) := by decide +kernel
theorem dX7_bestDrop_118 : decode cX7_bestDrop 118 = .ok (.iload_n 3, 1) := by decide +kernel
theorem dX7_bestDrop_119 : decode cX7_bestDrop 119 = .ok (.istore_n 3, 1) := by decide +kernel
theorem dX7_bestDrop_120 : decode cX7_bestDrop 120 = .ok (.iinc 4 1, 3) := by decide +kernel
theorem dX7_bestDrop_123 : decode cX7_bestDrop 123 = .ok (.goto (-75), 3) := by decide +kernel
theorem dX7_bestDrop_126 : decode cX7_bestDrop 126 = .ok (.iload_n 2, 1) := by decide +kernel
theorem dX7_bestDrop_127 : decode cX7_bestDrop 127 = .ok (.ireturn, 1) := by decide +kernel
theorem dX7_founds_0 : decode cX7_founds 0 = .ok (.iconst 0, 1) := by decide +kernel
theorem dX7_founds_1 : decode cX7_founds 1 = .ok (.istore_n 1, 1) := by decide +kernel
theorem dX7_founds_2 : decode cX7_founds 2 = .ok (.iconst 0, 1) := by decide +kernel
theorem dX7_founds_3 : decode cX7_founds 3 = .ok (.istore_n 2, 1) := by decide +kernel
theorem dX7_founds_4 : decode cX7_founds 4 = .ok (.iload_n 2, 1) := by decide +kernel
theorem dX7_founds_5 : decode cX7_founds 5 = .ok (.bipush 6, 2) := by decide +kernel
theorem dX7_founds_7 : decode cX7_founds 7 = .ok (.if_icmp .ge 34, 3) := by decide +kernel
theorem dX7_founds_10 : decode cX7_founds 10 = .ok (.aload_n 0, 1) := by decide +kernel
theorem dX7_founds_11 : decode cX7_founds 11 = .ok (.getfield 101, 3) := by decide +kernel
theorem dX7_founds_14 : decode cX7_founds 14 = .ok (.ifCond .eq 27, 3) := by decide +kernel
theorem dX7_founds_17 : decode cX7_founds 17 = .ok (.iload_n 1, 1) := by decide +kernel
theorem dX7_founds_18 : decode cX7_founds 18 = .ok (.aload_n 0, 1) := by decide +kernel
theorem dX7_founds_19 : decode cX7_founds 19 = .ok (.getfield 47, 3) := by decide +kernel
theorem dX7_founds_22 : decode cX7_founds 22 = .ok (.iload_n 2, 1) := by decide +kernel
theorem dX7_founds_23 : decode cX7_founds 23 = .ok (.iaload, 1) := by decide +kernel
theorem dX7_founds_24 : decode cX7_founds 24 = .ok (.iconst (-1), 1) := by decide +kernel
theorem dX7_founds_25 : decode cX7_founds 25 = .ok (.if_icmp .ne 7, 3) := by decide +kernel
theorem dX7_founds_28 : decode cX7_founds 28 = .ok (.iconst 0, 1) := by decide +kernel
theorem dX7_founds_29 : decode cX7_founds 29 = .ok (.goto 4, 3) := by decide +kernel
theorem dX7_founds_32 : decode cX7_founds 32 = .ok (.iconst 1, 1) := by decide +kernel
theorem dX7_founds_33 : decode cX7_founds 33 = .ok (.iadd, 1) := by decide +kernel
theorem dX7_founds_34 : decode cX7_founds 34 = .ok (.istore_n 1, 1) := by decide +kernel
theorem dX7_founds_35 : decode cX7_founds 35 = .ok (.iinc 2 1, 3) := by decide +kernel
theorem dX7_founds_38 : decode cX7_founds 38 = .ok (.goto (-34), 3) := by decide +kernel
theorem dX7_founds_41 : decode cX7_founds 41 = .ok (.iload_n 1, 1) := by decide +kernel
theorem dX7_founds_42 : decode cX7_founds 42 = .ok (.ireturn, 1) := by decide +kernel
theorem dX7_found_0 : decode cX7_found 0 = .ok (.aload_n 0, 1) := by decide +kernel
theorem dX7_found_1 : decode cX7_found 1 = .ok (.iload_n 1, 1) := by decide +kernel
theorem dX7_found_2 : decode cX7_found 2 = .ok (.invokevirtual 119, 3) := by decide +kernel
theorem dX7_found_5 : decode cX7_found 5 = .ok (.ifCond .ne 6, 3) := by decide +kernel
theorem dX7_found_8 : decode cX7_found 8 = .ok (.bipush (-101), 2) := by decide +kernel
theorem dX7_found_10 : decode cX7_found 10 = .ok (.ireturn, 1) := by decide +kernel
theorem dX7_found_11 : decode cX7_found 11 = .ok (.aload_n 0, 1) := by decide +kernel
theorem dX7_found_12 : decode cX7_found 12 = .ok (.getfield 81, 3) := by decide +kernel
theorem dX7_found_15 : decode cX7_found 15 = .ok (.ifCond .le 13, 3) := by decide +kernel
theorem dX7_found_18 : decode cX7_found 18 = .ok (.aload_n 0, 1) := by decide +kernel
theorem dX7_found_19 : decode cX7_found 19 = .ok (.invokevirtual 143, 3) := by decide +kernel
theorem dX7_found_22 : decode cX7_found 22 = .ok (.ifCond .ne 6, 3) := by decide +kernel
theorem dX7_found_25 : decode cX7_found 25 = .ok (.bipush (-103), 2) := by decide +kernel
theorem dX7_found_27 : decode cX7_found 27 = .ok (.ireturn, 1) := by decide +kernel
theorem dX7_found_28 : decode cX7_found 28 = .ok (.iconst 0, 1) := by decide +kernel
theorem dX7_found_29 : decode cX7_found 29 = .ok (.istore_n 2, 1) := by decide +kernel
theorem dX7_found_30 : decode cX7_found 30 = .ok (.iload_n 2, 1) := by decide +kernel
theorem dX7_found_31 : decode cX7_found 31 = .ok (.aload_n 0, 1) := by decide +kernel
theorem dX7_found_32 : decode cX7_found 32 = .ok (.getfield 81, 3) := by decide +kernel
theorem dX7_found_35 : decode cX7_found 35 = .ok (.if_icmp .ge 29, 3) := by decide +kernel
theorem dX7_found_38 : decode cX7_found 38 = .ok (.aload_n 0, 1) := by decide +kernel
theorem dX7_found_39 : decode cX7_found 39 = .ok (.getfield 50, 3) := by decide +kernel
theorem dX7_found_42 : decode cX7_found 42 = .ok (.bipush 8, 2) := by decide +kernel
theorem dX7_found_44 : decode cX7_found 44 = .ok (.iload_n 1, 1) := by decide +kernel
theorem dX7_found_45 : decode cX7_found 45 = .ok (.imul, 1) := by decide +kernel
theorem dX7_found_46 : decode cX7_found 46 = .ok (.iload_n 2, 1) := by decide +kernel
theorem dX7_found_47 : decode cX7_found 47 = .ok (.iadd, 1) := by decide +kernel
theorem dX7_found_48 : decode cX7_found 48 = .ok (.aload_n 0, 1) := by decide +kernel
theorem dX7_found_49 : decode cX7_found 49 = .ok (.getfield 7, 3) := by decide +kernel
theorem dX7_found_52 : decode cX7_found 52 = .ok (.iload_n 2, 1) := by decide +kernel
theorem dX7_found_53 : decode cX7_found 53 = .ok (.iaload, 1) := by decide +kernel
theorem dX7_found_54 : decode cX7_found 54 = .ok (.bipush 97, 2) := by decide +kernel
theorem dX7_found_56 : decode cX7_found 56 = .ok (.isub, 1) := by decide +kernel
theorem dX7_found_57 : decode cX7_found 57 = .ok (.iastore, 1) := by decide +kernel
theorem dX7_found_58 : decode cX7_found 58 = .ok (.iinc 2 1, 3) := by decide +kernel
theorem dX7_found_61 : decode cX7_found 61 = .ok (.goto (-31), 3) := by decide +kernel
theorem dX7_found_64 : decode cX7_found 64 = .ok (.aload_n 0, 1) := by decide +kernel
theorem dX7_found_65 : decode cX7_found 65 = .ok (.getfield 47, 3) := by decide +kernel
theorem dX7_found_68 : decode cX7_found 68 = .ok (.iload_n 1, 1) := by decide +kernel
theorem dX7_found_69 : decode cX7_found 69 = .ok (.aload_n 0, 1) := by decide +kernel
theorem dX7_found_70 : decode cX7_found 70 = .ok (.getfield 81, 3) := by decide +kernel
theorem dX7_found_73 : decode cX7_found 73 = .ok (.iastore, 1) := by decide +kernel
theorem dX7_found_74 : decode cX7_found 74 = .ok (.aload_n 0, 1) := by decide +kernel
theorem dX7_found_75 : decode cX7_found 75 = .ok (.iconst 0, 1) := by decide +kernel
theorem dX7_found_76 : decode cX7_found 76 = .ok (.putfield 81, 3) := by decide +kernel
theorem dX7_found_79 : decode cX7_found 79 = .ok (.aload_n 0, 1) := by decide +kernel
theorem dX7_found_80 : decode cX7_found 80 = .ok (.invokevirtual 178, 3) := by decide +kernel
theorem dX7_found_83 : decode cX7_found 83 = .ok (.ireturn, 1) := by decide +kernel
theorem dX7_forget_0 : decode cX7_forget 0 = .ok (.aload_n 0, 1) := by decide +kernel
theorem dX7_forget_1 : decode cX7_forget 1 = .ok (.invokevirtual 178, 3) := by decide +kernel
theorem dX7_forget_4 : decode cX7_forget 4 = .ok (.istore_n 1, 1) := by decide +kernel
theorem dX7_forget_5 : decode cX7_forget 5 = .ok (.iconst 0, 1) := by decide +kernel
theorem dX7_forget_6 : decode cX7_forget 6 = .ok (.istore_n 2, 1) := by decide +kernel
theorem dX7_forget_7 : decode cX7_forget 7 = .ok (.iload_n 2, 1) := by decide +kernel
theorem dX7_forget_8 : decode cX7_forget 8 = .ok (.bipush 6, 2) := by decide +kernel
theorem dX7_forget_10 : decode cX7_forget 10 = .ok (.if_icmp .ge 16, 3) := by decide +kernel
theorem dX7_forget_13 : decode cX7_forget 13 = .ok (.aload_n 0, 1) := by decide +kernel
theorem dX7_forget_14 : decode cX7_forget 14 = .ok (.getfield 47, 3) := by decide +kernel
theorem dX7_forget_17 : decode cX7_forget 17 = .ok (.iload_n 2, 1) := by decide +kernel
theorem dX7_forget_18 : decode cX7_forget 18 = .ok (.iconst (-1), 1) := by decide +kernel
theorem dX7_forget_19 : decode cX7_forget 19 = .ok (.iastore, 1) := by decide +kernel
theorem dX7_forget_20 : decode cX7_forget 20 = .ok (.iinc 2 1, 3) := by decide +kernel
theorem dX7_forget_23 : decode cX7_forget 23 = .ok (.goto (-16), 3) := by decide +kernel
theorem dX7_forget_26 : decode cX7_forget 26 = .ok (.iload_n 1, 1) := by decide +kernel
theorem dX7_forget_27 : decode cX7_forget 27 = .ok (.ireturn, 1) := by decide +kernel
theorem dX7_isFound_0 : decode cX7_isFound 0 = .ok (.aload_n 0, 1) := by decide +kernel
theorem dX7_isFound_1 : decode cX7_isFound 1 = .ok (.invokevirtual 159, 3) := by decide +kernel
theorem dX7_isFound_4 : decode cX7_isFound 4 = .ok (.iconst 1, 1) := by decide +kernel
theorem dX7_isFound_5 : decode cX7_isFound 5 = .ok (.istore_n 1, 1) := by decide +kernel
theorem dX7_isFound_6 : decode cX7_isFound 6 = .ok (.iconst 0, 1) := by decide +kernel
theorem dX7_isFound_7 : decode cX7_isFound 7 = .ok (.istore_n 2, 1) := by decide +kernel
theorem dX7_isFound_8 : decode cX7_isFound 8 = .ok (.iload_n 2, 1) := by decide +kernel
theorem dX7_isFound_9 : decode cX7_isFound 9 = .ok (.bipush 6, 2) := by decide +kernel
theorem dX7_isFound_11 : decode cX7_isFound 11 = .ok (.if_icmp .ge 104, 3) := by decide +kernel
theorem dX7_isFound_14 : decode cX7_isFound 14 = .ok (.aload_n 0, 1) := by decide +kernel
theorem dX7_isFound_15 : decode cX7_isFound 15 = .ok (.getfield 47, 3) := by decide +kernel
theorem dX7_isFound_18 : decode cX7_isFound 18 = .ok (.iload_n 2, 1) := by decide +kernel
theorem dX7_isFound_19 : decode cX7_isFound 19 = .ok (.iaload, 1) := by decide +kernel
theorem dX7_isFound_20 : decode cX7_isFound 20 = .ok (.iconst (-1), 1) := by decide +kernel
theorem dX7_isFound_21 : decode cX7_isFound 21 = .ok (.if_icmp .eq 88, 3) := by decide +kernel
theorem dX7_isFound_24 : decode cX7_isFound 24 = .ok (.iload_n 1, 1) := by decide +kernel
theorem dX7_isFound_25 : decode cX7_isFound 25 = .ok (.ifCond .eq 27, 3) := by decide +kernel
theorem dX7_isFound_28 : decode cX7_isFound 28 = .ok (.aload_n 0, 1) := by decide +kernel
theorem dX7_isFound_29 : decode cX7_isFound 29 = .ok (.getfield 28, 3) := by decide +kernel
theorem dX7_isFound_32 : decode cX7_isFound 32 = .ok (.bipush 17, 2) := by decide +kernel
theorem dX7_isFound_34 : decode cX7_isFound 34 = .ok (.iload_n 2, 1) := by decide +kernel
theorem dX7_isFound_35 : decode cX7_isFound 35 = .ok (.imul, 1) := by decide +kernel
theorem dX7_isFound_36 : decode cX7_isFound 36 = .ok (.iconst 4, 1) := by decide +kernel
theorem dX7_isFound_37 : decode cX7_isFound 37 = .ok (.iadd, 1) := by decide +kernel
theorem dX7_isFound_38 : decode cX7_isFound 38 = .ok (.iaload, 1) := by decide +kernel
theorem dX7_isFound_39 : decode cX7_isFound 39 = .ok (.aload_n 0, 1) := by decide +kernel
theorem dX7_isFound_40 : decode cX7_isFound 40 = .ok (.getfield 47, 3) := by decide +kernel
theorem dX7_isFound_43 : decode cX7_isFound 43 = .ok (.iload_n 2, 1) := by decide +kernel
theorem dX7_isFound_44 : decode cX7_isFound 44 = .ok (.iaload, 1) := by decide +kernel
theorem dX7_isFound_45 : decode cX7_isFound 45 = .ok (.if_icmp .ne 7, 3) := by decide +kernel
theorem dX7_isFound_48 : decode cX7_isFound 48 = .ok (.iconst 1, 1) := by decide +kernel
theorem dX7_isFound_49 : decode cX7_isFound 49 = .ok (.goto 4, 3) := by decide +kernel
theorem dX7_isFound_52 : decode cX7_isFound 52 = .ok (.iconst 0, 1) := by decide +kernel
theorem dX7_isFound_53 : decode cX7_isFound 53 = .ok (.istore_n 1, 1) := by decide +kernel
theorem dX7_isFound_54 : decode cX7_isFound 54 = .ok (.iconst 0, 1) := by decide +kernel
theorem dX7_isFound_55 : decode cX7_isFound 55 = .ok (.istore_n 3, 1) := by decide +kernel
theorem dX7_isFound_56 : decode cX7_isFound 56 = .ok (.iload_n 3, 1) := by decide +kernel
theorem dX7_isFound_57 : decode cX7_isFound 57 = .ok (.aload_n 0, 1) := by decide +kernel
theorem dX7_isFound_58 : decode cX7_isFound 58 = .ok (.getfield 47, 3) := by decide +kernel
theorem dX7_isFound_61 : decode cX7_isFound 61 = .ok (.iload_n 2, 1) := by decide +kernel
theorem dX7_isFound_62 : decode cX7_isFound 62 = .ok (.iaload, 1) := by decide +kernel
theorem dX7_isFound_63 : decode cX7_isFound 63 = .ok (.if_icmp .ge 46, 3) := by decide +kernel
theorem dX7_isFound_66 : decode cX7_isFound 66 = .ok (.iload_n 1, 1) := by decide +kernel
theorem dX7_isFound_67 : decode cX7_isFound 67 = .ok (.ifCond .eq 34, 3) := by decide +kernel
theorem dX7_isFound_70 : decode cX7_isFound 70 = .ok (.aload_n 0, 1) := by decide +kernel
theorem dX7_isFound_71 : decode cX7_isFound 71 = .ok (.getfield 28, 3) := by decide +kernel
theorem dX7_isFound_74 : decode cX7_isFound 74 = .ok (.bipush 17, 2) := by decide +kernel
theorem dX7_isFound_76 : decode cX7_isFound 76 = .ok (.iload_n 2, 1) := by decide +kernel
theorem dX7_isFound_77 : decode cX7_isFound 77 = .ok (.imul, 1) := by decide +kernel
theorem dX7_isFound_78 : decode cX7_isFound 78 = .ok (.iconst 5, 1) := by decide +kernel
theorem dX7_isFound_79 : decode cX7_isFound 79 = .ok (.iadd, 1) := by decide +kernel
theorem dX7_isFound_80 : decode cX7_isFound 80 = .ok (.iload_n 3, 1) := by decide +kernel
theorem dX7_isFound_81 : decode cX7_isFound 81 = .ok (.iadd, 1) := by decide +kernel
theorem dX7_isFound_82 : decode cX7_isFound 82 = .ok (.iaload, 1) := by decide +kernel
theorem dX7_isFound_83 : decode cX7_isFound 83 = .ok (.aload_n 0, 1) := by decide +kernel
theorem dX7_isFound_84 : decode cX7_isFound 84 = .ok (.getfield 50, 3) := by decide +kernel
theorem dX7_isFound_87 : decode cX7_isFound 87 = .ok (.bipush 8, 2) := by decide +kernel
theorem dX7_isFound_89 : decode cX7_isFound 89 = .ok (.iload_n 2, 1) := by decide +kernel
theorem dX7_isFound_90 : decode cX7_isFound 90 = .ok (.imul, 1) := by decide +kernel
theorem dX7_isFound_91 : decode cX7_isFound 91 = .ok (.iload_n 3, 1) := by decide +kernel
theorem dX7_isFound_92 : decode cX7_isFound 92 = .ok (.iadd, 1) := by decide +kernel
theorem dX7_isFound_93 : decode cX7_isFound 93 = .ok (.iaload, 1) := by decide +kernel
theorem dX7_isFound_94 : decode cX7_isFound 94 = .ok (.if_icmp .ne 7, 3) := by decide +kernel
theorem dX7_isFound_97 : decode cX7_isFound 97 = .ok (.iconst 1, 1) := by decide +kernel
theorem dX7_isFound_98 : decode cX7_isFound 98 = .ok (.goto 4, 3) := by decide +kernel
theorem dX7_isFound_101 : decode cX7_isFound 101 = .ok (.iconst 0, 1) := by decide +kernel
theorem dX7_isFound_102 : decode cX7_isFound 102 = .ok (.istore_n 1, 1) := by decide +kernel
theorem dX7_isFound_103 : decode cX7_isFound 103 = .ok (.iinc 3 1, 3) := by decide +kernel
theorem dX7_isFound_106 : decode cX7_isFound 106 = .ok (.goto (-50), 3) := by decide +kernel
theorem dX7_isFound_109 : decode cX7_isFound 109 = .ok (.iinc 2 1, 3) := by decide +kernel
theorem dX7_isFound_112 : decode cX7_isFound 112 = .ok (.goto (-104), 3) := by decide +kernel
theorem dX7_isFound_115 : decode cX7_isFound 115 = .ok (.iload_n 1, 1) := by decide +kernel
theorem dX7_isFound_116 : decode cX7_isFound 116 = .ok (.ireturn, 1) := by decide +kernel
theorem dX7_kindBits_0 : decode cX7_kindBits 0 = .ok (.aload_n 0, 1) := by decide +kernel
theorem dX7_kindBits_1 : decode cX7_kindBits 1 = .ok (.invokevirtual 150, 3) := by decide +kernel
theorem dX7_kindBits_4 : decode cX7_kindBits 4 = .ok (.iconst 0, 1) := by decide +kernel
theorem dX7_kindBits_5 : decode cX7_kindBits 5 = .ok (.istore_n 2, 1) := by decide +kernel
theorem dX7_kindBits_6 : decode cX7_kindBits 6 = .ok (.iconst 0, 1) := by decide +kernel
theorem dX7_kindBits_7 : decode cX7_kindBits 7 = .ok (.istore_n 3, 1) := by decide +kernel
theorem dX7_kindBits_8 : decode cX7_kindBits 8 = .ok (.iload_n 3, 1) := by decide +kernel
theorem dX7_kindBits_9 : decode cX7_kindBits 9 = .ok (.iconst 5, 1) := by decide +kernel
theorem dX7_kindBits_10 : decode cX7_kindBits 10 = .ok (.if_icmp .ge 33, 3) := by decide +kernel
theorem dX7_kindBits_13 : decode cX7_kindBits 13 = .ok (.aload_n 0, 1) := by decide +kernel
theorem dX7_kindBits_14 : decode cX7_kindBits 14 = .ok (.getfield 31, 3) := by decide +kernel
theorem dX7_kindBits_17 : decode cX7_kindBits 17 = .ok (.iload_n 1, 1) := by decide +kernel
theorem dX7_kindBits_18 : decode cX7_kindBits 18 = .ok (.iload_n 3, 1) := by decide +kernel
theorem dX7_kindBits_19 : decode cX7_kindBits 19 = .ok (.iastore, 1) := by decide +kernel
theorem dX7_kindBits_20 : decode cX7_kindBits 20 = .ok (.iload_n 2, 1) := by decide +kernel
theorem dX7_kindBits_21 : decode cX7_kindBits 21 = .ok (.aload_n 0, 1) := by decide +kernel
theorem dX7_kindBits_22 : decode cX7_kindBits 22 = .ok (.invokevirtual 181, 3) := by decide +kernel
theorem dX7_kindBits_25 : decode cX7_kindBits 25 = .ok (.ifCond .eq 9, 3) := by decide +kernel
theorem dX7_kindBits_28 : decode cX7_kindBits 28 = .ok (.iconst 1, 1) := by decide +kernel
theorem dX7_kindBits_29 : decode cX7_kindBits 29 = .ok (.iload_n 3, 1) := by decide +kernel
theorem dX7_kindBits_30 : decode cX7_kindBits 30 = .ok (.ishl, 1) := by decide +kernel
theorem dX7_kindBits_31 : decode cX7_kindBits 31 = .ok (.goto 4, 3) := by decide +kernel
theorem dX7_kindBits_34 : decode cX7_kindBits 34 = .ok (.iconst 0, 1) := by decide +kernel
theorem dX7_kindBits_35 : decode cX7_kindBits 35 = .ok (.ior, 1) := by decide +kernel
theorem dX7_kindBits_36 : decode cX7_kindBits 36 = .ok (.istore_n 2, 1) := by decide +kernel
theorem dX7_kindBits_37 : decode cX7_kindBits 37 = .ok (.iinc 3 1, 3) := by decide +kernel
theorem dX7_kindBits_40 : decode cX7_kindBits 40 = .ok (.goto (-32), 3) := by decide +kernel
theorem dX7_kindBits_43 : decode cX7_kindBits 43 = .ok (.iload_n 2, 1) := by decide +kernel
theorem dX7_kindBits_44 : decode cX7_kindBits 44 = .ok (.ireturn, 1) := by decide +kernel
theorem dX7_kindOf_0 : decode cX7_kindOf 0 = .ok (.aload_n 0, 1) := by decide +kernel
theorem dX7_kindOf_1 : decode cX7_kindOf 1 = .ok (.iload_n 1, 1) := by decide +kernel
theorem dX7_kindOf_2 : decode cX7_kindOf 2 = .ok (.invokevirtual 119, 3) := by decide +kernel
theorem dX7_kindOf_5 : decode cX7_kindOf 5 = .ok (.ifCond .eq 11, 3) := by decide +kernel
theorem dX7_kindOf_8 : decode cX7_kindOf 8 = .ok (.aload_n 0, 1) := by decide +kernel
theorem dX7_kindOf_9 : decode cX7_kindOf 9 = .ok (.iload_n 1, 1) := by decide +kernel
theorem dX7_kindOf_10 : decode cX7_kindOf 10 = .ok (.invokevirtual 184, 3) := by decide +kernel
theorem dX7_kindOf_13 : decode cX7_kindOf 13 = .ok (.goto 5, 3) := by decide +kernel
theorem dX7_kindOf_16 : decode cX7_kindOf 16 = .ok (.bipush (-101), 2) := by decide +kernel
theorem dX7_kindOf_18 : decode cX7_kindOf 18 = .ok (.ireturn, 1) := by decide +kernel
theorem dX7_letterBits_0 : decode cX7_letterBits 0 = .ok (.aload_n 0, 1) := by decide +kernel
theorem dX7_letterBits_1 : decode cX7_letterBits 1 = .ok (.invokevirtual 150, 3) := by decide +kernel
theorem dX7_letterBits_4 : decode cX7_letterBits 4 = .ok (.iconst 0, 1) := by decide +kernel
theorem dX7_letterBits_5 : decode cX7_letterBits 5 = .ok (.istore_n 2, 1) := by decide +kernel
theorem dX7_letterBits_6 : decode cX7_letterBits 6 = .ok (.iconst 0, 1) := by decide +kernel
theorem dX7_letterBits_7 : decode cX7_letterBits 7 = .ok (.istore_n 3, 1) := by decide +kernel
theorem dX7_letterBits_8 : decode cX7_letterBits 8 = .ok (.iload_n 3, 1) := by decide +kernel
theorem dX7_letterBits_9 : decode cX7_letterBits 9 = .ok (.iconst 5, 1) := by decide +kernel
theorem dX7_letterBits_10 : decode cX7_letterBits 10 = .ok (.if_icmp .ge 33, 3) := by decide +kernel
theorem dX7_letterBits_13 : decode cX7_letterBits 13 = .ok (.aload_n 0, 1) := by decide +kernel
theorem dX7_letterBits_14 : decode cX7_letterBits 14 = .ok (.getfield 37, 3) := by decide +kernel
theorem dX7_letterBits_17 : decode cX7_letterBits 17 = .ok (.iload_n 1, 1) := by decide +kernel
theorem dX7_letterBits_18 : decode cX7_letterBits 18 = .ok (.iload_n 3, 1) := by decide +kernel
theorem dX7_letterBits_19 : decode cX7_letterBits 19 = .ok (.iastore, 1) := by decide +kernel
theorem dX7_letterBits_20 : decode cX7_letterBits 20 = .ok (.iload_n 2, 1) := by decide +kernel
theorem dX7_letterBits_21 : decode cX7_letterBits 21 = .ok (.aload_n 0, 1) := by decide +kernel
theorem dX7_letterBits_22 : decode cX7_letterBits 22 = .ok (.invokevirtual 181, 3) := by decide +kernel
theorem dX7_letterBits_25 : decode cX7_letterBits 25 = .ok (.ifCond .eq 9, 3) := by decide +kernel
theorem dX7_letterBits_28 : decode cX7_letterBits 28 = .ok (.iconst 1, 1) := by decide +kernel
theorem dX7_letterBits_29 : decode cX7_letterBits 29 = .ok (.iload_n 3, 1) := by decide +kernel
theorem dX7_letterBits_30 : decode cX7_letterBits 30 = .ok (.ishl, 1) := by decide +kernel
theorem dX7_letterBits_31 : decode cX7_letterBits 31 = .ok (.goto 4, 3) := by decide +kernel
theorem dX7_letterBits_34 : decode cX7_letterBits 34 = .ok (.iconst 0, 1) := by decide +kernel
theorem dX7_letterBits_35 : decode cX7_letterBits 35 = .ok (.ior, 1) := by decide +kernel
theorem dX7_letterBits_36 : decode cX7_letterBits 36 = .ok (.istore_n 2, 1) := by decide +kernel
theorem dX7_letterBits_37 : decode cX7_letterBits 37 = .ok (.iinc 3 1, 3) := by decide +kernel
theorem dX7_letterBits_40 : decode cX7_letterBits 40 = .ok (.goto (-32), 3) := by decide +kernel
theorem dX7_letterBits_43 : decode cX7_letterBits 43 = .ok (.iload_n 2, 1) := by decide +kernel
theorem dX7_letterBits_44 : decode cX7_letterBits 44 = .ok (.ireturn, 1) := by decide +kernel
theorem dX7_letterOf_0 : decode cX7_letterOf 0 = .ok (.iload_n 1, 1) := by decide +kernel
theorem dX7_letterOf_1 : decode cX7_letterOf 1 = .ok (.i2l, 1) := by decide +kernel
theorem dX7_letterOf_2 : decode cX7_letterOf 2 = .ok (.lconst 0, 1) := by decide +kernel
theorem dX7_letterOf_3 : decode cX7_letterOf 3 = .ok (.aload_n 0, 1) := by decide +kernel
theorem dX7_letterOf_4 : decode cX7_letterOf 4 = .ok (.getfield 109, 3) := by decide +kernel
theorem dX7_letterOf_7 : decode cX7_letterOf 7 = .ok (.iconst 1, 1) := by decide +kernel
theorem dX7_letterOf_8 : decode cX7_letterOf 8 = .ok (.isub, 1) := by decide +kernel
theorem dX7_letterOf_9 : decode cX7_letterOf 9 = .ok (.i2l, 1) := by decide +kernel
theorem dX7_letterOf_10 : decode cX7_letterOf 10 = .ok (.invokestatic 77, 3) := by decide +kernel
theorem dX7_letterOf_13 : decode cX7_letterOf 13 = .ok (.ifCond .eq 11, 3) := by decide +kernel
theorem dX7_letterOf_16 : decode cX7_letterOf 16 = .ok (.aload_n 0, 1) := by decide +kernel
theorem dX7_letterOf_17 : decode cX7_letterOf 17 = .ok (.iload_n 1, 1) := by decide +kernel
theorem dX7_letterOf_18 : decode cX7_letterOf 18 = .ok (.invokevirtual 187, 3) := by decide +kernel
theorem dX7_letterOf_21 : decode cX7_letterOf 21 = .ok (.goto 5, 3) := by decide +kernel
theorem dX7_letterOf_24 : decode cX7_letterOf 24 = .ok (.bipush (-101), 2) := by decide +kernel
theorem dX7_letterOf_26 : decode cX7_letterOf 26 = .ok (.ireturn, 1) := by decide +kernel
theorem dX7_draw_0 : decode cX7_draw 0 = .ok (.aload_n 0, 1) := by decide +kernel
theorem dX7_draw_1 : decode cX7_draw 1 = .ok (.ldc2_w 190, 3) := by decide +kernel
theorem dX7_draw_4 : decode cX7_draw 4 = .ok (.aload_n 0, 1) := by decide +kernel
theorem dX7_draw_5 : decode cX7_draw 5 = .ok (.getfield 192, 3) := by decide +kernel
theorem dX7_draw_8 : decode cX7_draw 8 = .ok (.i2l, 1) := by decide +kernel
theorem dX7_draw_9 : decode cX7_draw 9 = .ok (.lmul, 1) := by decide +kernel
theorem dX7_draw_10 : decode cX7_draw 10 = .ok (.ldc2_w 195, 3) := by decide +kernel
theorem dX7_draw_13 : decode cX7_draw 13 = .ok (.ladd, 1) := by decide +kernel
theorem dX7_draw_14 : decode cX7_draw 14 = .ok (.ldc2_w 197, 3) := by decide +kernel
theorem dX7_draw_17 : decode cX7_draw 17 = .ok (.land, 1) := by decide +kernel
theorem dX7_draw_18 : decode cX7_draw 18 = .ok (.l2i, 1) := by decide +kernel
theorem dX7_draw_19 : decode cX7_draw 19 = .ok (.putfield 192, 3) := by decide +kernel
theorem dX7_draw_22 : decode cX7_draw 22 = .ok (.aload_n 0, 1) := by decide +kernel
theorem dX7_draw_23 : decode cX7_draw 23 = .ok (.getfield 192, 3) := by decide +kernel
theorem dX7_draw_26 : decode cX7_draw 26 = .ok (.ldc 199, 2) := by decide +kernel
theorem dX7_draw_28 : decode cX7_draw 28 = .ok (.idiv, 1) := by decide +kernel
theorem dX7_draw_29 : decode cX7_draw 29 = .ok (.iload_n 1, 1) := by decide +kernel
theorem dX7_draw_30 : decode cX7_draw 30 = .ok (.irem, 1) := by decide +kernel
theorem dX7_draw_31 : decode cX7_draw 31 = .ok (.ireturn, 1) := by decide +kernel
theorem dX7_mornings_0 : decode cX7_mornings 0 = .ok (.iload_n 1, 1) := by decide +kernel
theorem dX7_mornings_1 : decode cX7_mornings 1 = .ok (.i2l, 1) := by decide +kernel
theorem dX7_mornings_2 : decode cX7_mornings 2 = .ok (.lconst 1, 1) := by decide +kernel
theorem dX7_mornings_3 : decode cX7_mornings 3 = .ok (.ldc2_w 200, 3) := by decide +kernel
theorem dX7_mornings_6 : decode cX7_mornings 6 = .ok (.invokestatic 77, 3) := by decide +kernel
theorem dX7_mornings_9 : decode cX7_mornings 9 = .ok (.ifCond .eq 17, 3) := by decide +kernel
theorem dX7_mornings_12 : decode cX7_mornings 12 = .ok (.iload_n 2, 1) := by decide +kernel
theorem dX7_mornings_13 : decode cX7_mornings 13 = .ok (.ifCond .lt 13, 3) := by decide +kernel
theorem dX7_mornings_16 : decode cX7_mornings 16 = .ok (.iload_n 3, 1) := by decide +kernel
theorem dX7_mornings_17 : decode cX7_mornings 17 = .ok (.i2l, 1) := by decide +kernel
theorem dX7_mornings_18 : decode cX7_mornings 18 = .ok (.lconst 0, 1) := by decide +kernel
theorem dX7_mornings_19 : decode cX7_mornings 19 = .ok (.lconst 1, 1) := by decide +kernel
theorem dX7_mornings_20 : decode cX7_mornings 20 = .ok (.invokestatic 77, 3) := by decide +kernel
theorem dX7_mornings_23 : decode cX7_mornings 23 = .ok (.ifCond .ne 6, 3) := by decide +kernel
theorem dX7_mornings_26 : decode cX7_mornings 26 = .ok (.bipush (-102), 2) := by decide +kernel
theorem dX7_mornings_28 : decode cX7_mornings 28 = .ok (.ireturn, 1) := by decide +kernel
theorem dX7_mornings_29 : decode cX7_mornings 29 = .ok (.aload_n 0, 1) := by decide +kernel
theorem dX7_mornings_30 : decode cX7_mornings 30 = .ok (.getfield 101, 3) := by decide +kernel
theorem dX7_mornings_33 : decode cX7_mornings 33 = .ok (.ifCond .ne 6, 3) := by decide +kernel
theorem dX7_mornings_36 : decode cX7_mornings 36 = .ok (.bipush (-103), 2) := by decide +kernel
theorem dX7_mornings_38 : decode cX7_mornings 38 = .ok (.ireturn, 1) := by decide +kernel
theorem dX7_mornings_39 : decode cX7_mornings 39 = .ok (.aload_n 0, 1) := by decide +kernel
theorem dX7_mornings_40 : decode cX7_mornings 40 = .ok (.iload_n 2, 1) := by decide +kernel
theorem dX7_mornings_41 : decode cX7_mornings 41 = .ok (.putfield 192, 3) := by decide +kernel
theorem dX7_mornings_44 : decode cX7_mornings 44 = .ok (.iconst 0, 1) := by decide +kernel
theorem dX7_mornings_45 : decode cX7_mornings 45 = .ok (.istore 4, 2) := by decide +kernel
theorem dX7_mornings_47 : decode cX7_mornings 47 = .ok (.iconst 0, 1) := by decide +kernel
theorem dX7_mornings_48 : decode cX7_mornings 48 = .ok (.istore 5, 2) := by decide +kernel
theorem dX7_mornings_50 : decode cX7_mornings 50 = .ok (.iload 5, 2) := by decide +kernel
theorem dX7_mornings_52 : decode cX7_mornings 52 = .ok (.iload_n 1, 1) := by decide +kernel
theorem dX7_mornings_53 : decode cX7_mornings 53 = .ok (.if_icmp .ge 79, 3) := by decide +kernel
theorem dX7_mornings_56 : decode cX7_mornings 56 = .ok (.aload_n 0, 1) := by decide +kernel
theorem dX7_mornings_57 : decode cX7_mornings 57 = .ok (.getfield 28, 3) := by decide +kernel
theorem dX7_mornings_60 : decode cX7_mornings 60 = .ok (.invokestatic 105, 3) := by decide +kernel
theorem dX7_mornings_63 : decode cX7_mornings 63 = .ok (.iconst 0, 1) := by decide +kernel
theorem dX7_mornings_64 : decode cX7_mornings 64 = .ok (.istore 6, 2) := by decide +kernel
theorem dX7_mornings_66 : decode cX7_mornings 66 = .ok (.iload 6, 2) := by decide +kernel
theorem dX7_mornings_68 : decode cX7_mornings 68 = .ok (.iconst 5, 1) := by decide +kernel
theorem dX7_mornings_69 : decode cX7_mornings 69 = .ok (.if_icmp .ge 45, 3) := by decide +kernel
theorem dX7_mornings_72 : decode cX7_mornings 72 = .ok (.aload_n 0, 1) := by decide +kernel
theorem dX7_mornings_73 : decode cX7_mornings 73 = .ok (.bipush 6, 2) := by decide +kernel
theorem dX7_mornings_75 : decode cX7_mornings 75 = .ok (.invokevirtual 202, 3) := by decide +kernel
theorem dX7_mornings_78 : decode cX7_mornings 78 = .ok (.istore 7, 2) := by decide +kernel
theorem dX7_mornings_80 : decode cX7_mornings 80 = .ok (.aload_n 0, 1) := by decide +kernel
theorem dX7_mornings_81 : decode cX7_mornings 81 = .ok (.iconst 5, 1) := by decide +kernel
theorem dX7_mornings_82 : decode cX7_mornings 82 = .ok (.invokevirtual 202, 3) := by decide +kernel
theorem dX7_mornings_85 : decode cX7_mornings 85 = .ok (.istore 8, 2) := by decide +kernel
theorem dX7_mornings_87 : decode cX7_mornings 87 = .ok (.aload_n 0, 1) := by decide +kernel
theorem dX7_mornings_88 : decode cX7_mornings 88 = .ok (.getfield 28, 3) := by decide +kernel
theorem dX7_mornings_91 : decode cX7_mornings 91 = .ok (.aload_n 0, 1) := by decide +kernel
theorem dX7_mornings_92 : decode cX7_mornings 92 = .ok (.getfield 13, 3) := by decide +kernel
theorem dX7_mornings_95 : decode cX7_mornings 95 = .ok (.aload_n 0, 1) := by decide +kernel
theorem dX7_mornings_96 : decode cX7_mornings 96 = .ok (.getfield 16, 3) := by decide +kernel
theorem dX7_mornings_99 : decode cX7_mornings 99 = .ok (.iload 7, 2) := by decide +kernel
theorem dX7_mornings_101 : decode cX7_mornings 101 = .ok (.iload 8, 2) := by decide +kernel
theorem dX7_mornings_103 : decode cX7_mornings 103 = .ok (.invokestatic 133, 3) := by decide +kernel
theorem dX7_mornings_106 : decode cX7_mornings 106 = .ok (.istore 9, 2) := by decide +kernel
theorem dX7_mornings_108 : decode cX7_mornings 108 = .ok (.iinc 6 1, 3) := by decide +kernel
theorem dX7_mornings_111 : decode cX7_mornings 111 = .ok (.goto (-45), 3) := by decide +kernel
theorem dX7_mornings_114 : decode cX7_mornings 114 = .ok (.iload 4, 2) := by decide +kernel
theorem dX7_mornings_116 : decode cX7_mornings 116 = .ok (.aload_n 0, 1) := by decide +kernel
theorem dX7_mornings_117 : decode cX7_mornings 117 = .ok (.getfield 28, 3) := by decide +kernel
theorem dX7_mornings_120 : decode cX7_mornings 120 = .ok (.invokestatic 174, 3) := by decide +kernel
theorem dX7_mornings_123 : decode cX7_mornings 123 = .ok (.iadd, 1) := by decide +kernel
theorem dX7_mornings_124 : decode cX7_mornings 124 = .ok (.istore 4, 2) := by decide +kernel
theorem dX7_mornings_126 : decode cX7_mornings 126 = .ok (.iinc 5 1, 3) := by decide +kernel
theorem dX7_mornings_129 : decode cX7_mornings 129 = .ok (.goto (-79), 3) := by decide +kernel
theorem dX7_mornings_132 : decode cX7_mornings 132 = .ok (.iload_n 3, 1) := by decide +kernel
theorem dX7_mornings_133 : decode cX7_mornings 133 = .ok (.ifCond .ne 8, 3) := by decide +kernel
theorem dX7_mornings_136 : decode cX7_mornings 136 = .ok (.iload 4, 2) := by decide +kernel
theorem dX7_mornings_138 : decode cX7_mornings 138 = .ok (.goto 7, 3) := by decide +kernel
theorem dX7_mornings_141 : decode cX7_mornings 141 = .ok (.aload_n 0, 1) := by decide +kernel
theorem dX7_mornings_142 : decode cX7_mornings 142 = .ok (.getfield 192, 3) := by decide +kernel
theorem dX7_mornings_145 : decode cX7_mornings 145 = .ok (.ireturn, 1) := by decide +kernel
theorem dX7_image_0 : decode cX7_image 0 = .ok (.aload_n 0, 1) := by decide +kernel
theorem dX7_image_1 : decode cX7_image 1 = .ok (.getfield 101, 3) := by decide +kernel
theorem dX7_image_4 : decode cX7_image 4 = .ok (.ifCond .ne 6, 3) := by decide +kernel
theorem dX7_image_7 : decode cX7_image 7 = .ok (.bipush (-103), 2) := by decide +kernel
theorem dX7_image_9 : decode cX7_image 9 = .ok (.ireturn, 1) := by decide +kernel
theorem dX7_image_10 : decode cX7_image 10 = .ok (.aload_n 0, 1) := by decide +kernel
theorem dX7_image_11 : decode cX7_image 11 = .ok (.getfield 16, 3) := by decide +kernel
theorem dX7_image_14 : decode cX7_image 14 = .ok (.aload_n 0, 1) := by decide +kernel
theorem dX7_image_15 : decode cX7_image 15 = .ok (.getfield 53, 3) := by decide +kernel
theorem dX7_image_18 : decode cX7_image 18 = .ok (.invokestatic 137, 3) := by decide +kernel
theorem dX7_image_21 : decode cX7_image 21 = .ok (.aload_n 0, 1) := by decide +kernel
theorem dX7_image_22 : decode cX7_image 22 = .ok (.getfield 19, 3) := by decide +kernel
theorem dX7_image_25 : decode cX7_image 25 = .ok (.aload_n 0, 1) := by decide +kernel
theorem dX7_image_26 : decode cX7_image 26 = .ok (.getfield 56, 3) := by decide +kernel
theorem dX7_image_29 : decode cX7_image 29 = .ok (.invokestatic 137, 3) := by decide +kernel
theorem dX7_image_32 : decode cX7_image 32 = .ok (.aload_n 0, 1) := by decide +kernel
theorem dX7_image_33 : decode cX7_image 33 = .ok (.getfield 22, 3) := by decide +kernel
theorem dX7_image_36 : decode cX7_image 36 = .ok (.aload_n 0, 1) := by decide +kernel
theorem dX7_image_37 : decode cX7_image 37 = .ok (.getfield 59, 3) := by decide +kernel
theorem dX7_image_40 : decode cX7_image 40 = .ok (.invokestatic 137, 3) := by decide +kernel
theorem dX7_image_43 : decode cX7_image 43 = .ok (.aload_n 0, 1) := by decide +kernel
theorem dX7_image_44 : decode cX7_image 44 = .ok (.getfield 25, 3) := by decide +kernel
theorem dX7_image_47 : decode cX7_image 47 = .ok (.aload_n 0, 1) := by decide +kernel
theorem dX7_image_48 : decode cX7_image 48 = .ok (.getfield 62, 3) := by decide +kernel
theorem dX7_image_51 : decode cX7_image 51 = .ok (.invokestatic 137, 3) := by decide +kernel
theorem dX7_image_54 : decode cX7_image 54 = .ok (.aload_n 0, 1) := by decide +kernel
theorem dX7_image_55 : decode cX7_image 55 = .ok (.getfield 47, 3) := by decide +kernel
theorem dX7_image_58 : decode cX7_image 58 = .ok (.aload_n 0, 1) := by decide +kernel
theorem dX7_image_59 : decode cX7_image 59 = .ok (.getfield 65, 3) := by decide +kernel
theorem dX7_image_62 : decode cX7_image 62 = .ok (.invokestatic 137, 3) := by decide +kernel
theorem dX7_image_65 : decode cX7_image 65 = .ok (.aload_n 0, 1) := by decide +kernel
theorem dX7_image_66 : decode cX7_image 66 = .ok (.getfield 50, 3) := by decide +kernel
theorem dX7_image_69 : decode cX7_image 69 = .ok (.aload_n 0, 1) := by decide +kernel
theorem dX7_image_70 : decode cX7_image 70 = .ok (.getfield 68, 3) := by decide +kernel
theorem dX7_image_73 : decode cX7_image 73 = .ok (.invokestatic 137, 3) := by decide +kernel
theorem dX7_image_76 : decode cX7_image 76 = .ok (.aload_n 0, 1) := by decide +kernel
theorem dX7_image_77 : decode cX7_image 77 = .ok (.aload_n 0, 1) := by decide +kernel
theorem dX7_image_78 : decode cX7_image 78 = .ok (.getfield 109, 3) := by decide +kernel
theorem dX7_image_81 : decode cX7_image 81 = .ok (.putfield 205, 3) := by decide +kernel
theorem dX7_image_84 : decode cX7_image 84 = .ok (.aload_n 0, 1) := by decide +kernel
theorem dX7_image_85 : decode cX7_image 85 = .ok (.aload_n 0, 1) := by decide +kernel
theorem dX7_image_86 : decode cX7_image 86 = .ok (.getfield 112, 3) := by decide +kernel
theorem dX7_image_89 : decode cX7_image 89 = .ok (.putfield 71, 3) := by decide +kernel
theorem dX7_image_92 : decode cX7_image 92 = .ok (.aload_n 0, 1) := by decide +kernel
theorem dX7_image_93 : decode cX7_image 93 = .ok (.getfield 109, 3) := by decide +kernel
theorem dX7_image_96 : decode cX7_image 96 = .ok (.ireturn, 1) := by decide +kernel
theorem dX7_restore_0 : decode cX7_restore 0 = .ok (.aload_n 0, 1) := by decide +kernel
theorem dX7_restore_1 : decode cX7_restore 1 = .ok (.getfield 71, 3) := by decide +kernel
theorem dX7_restore_4 : decode cX7_restore 4 = .ok (.aload_n 0, 1) := by decide +kernel
theorem dX7_restore_5 : decode cX7_restore 5 = .ok (.getfield 112, 3) := by decide +kernel
theorem dX7_restore_8 : decode cX7_restore 8 = .ok (.if_icmp .eq 6, 3) := by decide +kernel
theorem dX7_restore_11 : decode cX7_restore 11 = .ok (.bipush (-103), 2) := by decide +kernel
theorem dX7_restore_13 : decode cX7_restore 13 = .ok (.ireturn, 1) := by decide +kernel
theorem dX7_restore_14 : decode cX7_restore 14 = .ok (.aload_n 0, 1) := by decide +kernel
theorem dX7_restore_15 : decode cX7_restore 15 = .ok (.getfield 53, 3) := by decide +kernel
theorem dX7_restore_18 : decode cX7_restore 18 = .ok (.aload_n 0, 1) := by decide +kernel
theorem dX7_restore_19 : decode cX7_restore 19 = .ok (.getfield 16, 3) := by decide +kernel
theorem dX7_restore_22 : decode cX7_restore 22 = .ok (.invokestatic 137, 3) := by decide +kernel
theorem dX7_restore_25 : decode cX7_restore 25 = .ok (.aload_n 0, 1) := by decide +kernel
theorem dX7_restore_26 : decode cX7_restore 26 = .ok (.getfield 56, 3) := by decide +kernel
theorem dX7_restore_29 : decode cX7_restore 29 = .ok (.aload_n 0, 1) := by decide +kernel
theorem dX7_restore_30 : decode cX7_restore 30 = .ok (.getfield 19, 3) := by decide +kernel
theorem dX7_restore_33 : decode cX7_restore 33 = .ok (.invokestatic 137, 3) := by decide +kernel
theorem dX7_restore_36 : decode cX7_restore 36 = .ok (.aload_n 0, 1) := by decide +kernel
theorem dX7_restore_37 : decode cX7_restore 37 = .ok (.getfield 59, 3) := by decide +kernel
theorem dX7_restore_40 : decode cX7_restore 40 = .ok (.aload_n 0, 1) := by decide +kernel
theorem dX7_restore_41 : decode cX7_restore 41 = .ok (.getfield 22, 3) := by decide +kernel
theorem dX7_restore_44 : decode cX7_restore 44 = .ok (.invokestatic 137, 3) := by decide +kernel
theorem dX7_restore_47 : decode cX7_restore 47 = .ok (.aload_n 0, 1) := by decide +kernel
theorem dX7_restore_48 : decode cX7_restore 48 = .ok (.getfield 62, 3) := by decide +kernel
theorem dX7_restore_51 : decode cX7_restore 51 = .ok (.aload_n 0, 1) := by decide +kernel
theorem dX7_restore_52 : decode cX7_restore 52 = .ok (.getfield 25, 3) := by decide +kernel
theorem dX7_restore_55 : decode cX7_restore 55 = .ok (.invokestatic 137, 3) := by decide +kernel
theorem dX7_restore_58 : decode cX7_restore 58 = .ok (.aload_n 0, 1) := by decide +kernel
theorem dX7_restore_59 : decode cX7_restore 59 = .ok (.getfield 65, 3) := by decide +kernel
theorem dX7_restore_62 : decode cX7_restore 62 = .ok (.aload_n 0, 1) := by decide +kernel
theorem dX7_restore_63 : decode cX7_restore 63 = .ok (.getfield 47, 3) := by decide +kernel
theorem dX7_restore_66 : decode cX7_restore 66 = .ok (.invokestatic 137, 3) := by decide +kernel
theorem dX7_restore_69 : decode cX7_restore 69 = .ok (.aload_n 0, 1) := by decide +kernel
theorem dX7_restore_70 : decode cX7_restore 70 = .ok (.getfield 68, 3) := by decide +kernel
theorem dX7_restore_73 : decode cX7_restore 73 = .ok (.aload_n 0, 1) := by decide +kernel
theorem dX7_restore_74 : decode cX7_restore 74 = .ok (.getfield 50, 3) := by decide +kernel
theorem dX7_restore_77 : decode cX7_restore 77 = .ok (.invokestatic 137, 3) := by decide +kernel
theorem dX7_restore_80 : decode cX7_restore 80 = .ok (.aload_n 0, 1) := by decide +kernel
theorem dX7_restore_81 : decode cX7_restore 81 = .ok (.aload_n 0, 1) := by decide +kernel
theorem dX7_restore_82 : decode cX7_restore 82 = .ok (.getfield 205, 3) := by decide +kernel
theorem dX7_restore_85 : decode cX7_restore 85 = .ok (.putfield 109, 3) := by decide +kernel
theorem dX7_restore_88 : decode cX7_restore 88 = .ok (.aload_n 0, 1) := by decide +kernel
theorem dX7_restore_89 : decode cX7_restore 89 = .ok (.getfield 109, 3) := by decide +kernel
theorem dX7_restore_92 : decode cX7_restore 92 = .ok (.ireturn, 1) := by decide +kernel
theorem dX7_countOf_0 : decode cX7_countOf 0 = .ok (.iconst 0, 1) := by decide +kernel
theorem dX7_countOf_1 : decode cX7_countOf 1 = .ok (.istore_n 2, 1) := by decide +kernel
theorem dX7_countOf_2 : decode cX7_countOf 2 = .ok (.iconst 0, 1) := by decide +kernel
theorem dX7_countOf_3 : decode cX7_countOf 3 = .ok (.istore_n 3, 1) := by decide +kernel
theorem dX7_countOf_4 : decode cX7_countOf 4 = .ok (.iconst 0, 1) := by decide +kernel
theorem dX7_countOf_5 : decode cX7_countOf 5 = .ok (.istore 4, 2) := by decide +kernel
theorem dX7_countOf_7 : decode cX7_countOf 7 = .ok (.iload 4, 2) := by decide +kernel
theorem dX7_countOf_9 : decode cX7_countOf 9 = .ok (.bipush 6, 2) := by decide +kernel
theorem dX7_countOf_11 : decode cX7_countOf 11 = .ok (.if_icmp .ge 59, 3) := by decide +kernel
theorem dX7_countOf_14 : decode cX7_countOf 14 = .ok (.iload_n 2, 1) := by decide +kernel
theorem dX7_countOf_15 : decode cX7_countOf 15 = .ok (.aload_n 0, 1) := by decide +kernel
theorem dX7_countOf_16 : decode cX7_countOf 16 = .ok (.getfield 19, 3) := by decide +kernel
theorem dX7_countOf_19 : decode cX7_countOf 19 = .ok (.bipush 17, 2) := by decide +kernel
theorem dX7_countOf_21 : decode cX7_countOf 21 = .ok (.iload 4, 2) := by decide +kernel
theorem dX7_countOf_23 : decode cX7_countOf 23 = .ok (.imul, 1) := by decide +kernel
theorem dX7_countOf_24 : decode cX7_countOf 24 = .ok (.iconst 3, 1) := by decide +kernel
theorem dX7_countOf_25 : decode cX7_countOf 25 = .ok (.iadd, 1) := by decide +kernel
theorem dX7_countOf_26 : decode cX7_countOf 26 = .ok (.iaload, 1) := by decide +kernel
theorem dX7_countOf_27 : decode cX7_countOf 27 = .ok (.iadd, 1) := by decide +kernel
theorem dX7_countOf_28 : decode cX7_countOf 28 = .ok (.istore_n 2, 1) := by decide +kernel
theorem dX7_countOf_29 : decode cX7_countOf 29 = .ok (.iload_n 3, 1) := by decide +kernel
theorem dX7_countOf_30 : decode cX7_countOf 30 = .ok (.aload_n 0, 1) := by decide +kernel
theorem dX7_countOf_31 : decode cX7_countOf 31 = .ok (.getfield 13, 3) := by decide +kernel
theorem dX7_countOf_34 : decode cX7_countOf 34 = .ok (.iload 4, 2) := by decide +kernel
theorem dX7_countOf_36 : decode cX7_countOf 36 = .ok (.iaload, 1) := by decide +kernel
theorem dX7_countOf_37 : decode cX7_countOf 37 = .ok (.iconst 1, 1) := by decide +kernel
theorem dX7_countOf_38 : decode cX7_countOf 38 = .ok (.if_icmp .ne 23, 3) := by decide +kernel
theorem dX7_countOf_41 : decode cX7_countOf 41 = .ok (.aload_n 0, 1) := by decide +kernel
theorem dX7_countOf_42 : decode cX7_countOf 42 = .ok (.getfield 19, 3) := by decide +kernel
theorem dX7_countOf_45 : decode cX7_countOf 45 = .ok (.bipush 17, 2) := by decide +kernel
theorem dX7_countOf_47 : decode cX7_countOf 47 = .ok (.iload 4, 2) := by decide +kernel
theorem dX7_countOf_49 : decode cX7_countOf 49 = .ok (.imul, 1) := by decide +kernel
theorem dX7_countOf_50 : decode cX7_countOf 50 = .ok (.iconst 1, 1) := by decide +kernel
theorem dX7_countOf_51 : decode cX7_countOf 51 = .ok (.iadd, 1) := by decide +kernel
theorem dX7_countOf_52 : decode cX7_countOf 52 = .ok (.iaload, 1) := by decide +kernel
theorem dX7_countOf_53 : decode cX7_countOf 53 = .ok (.iconst (-1), 1) := by decide +kernel
theorem dX7_countOf_54 : decode cX7_countOf 54 = .ok (.if_icmp .eq 7, 3) := by decide +kernel
theorem dX7_countOf_57 : decode cX7_countOf 57 = .ok (.iconst 1, 1) := by decide +kernel
theorem dX7_countOf_58 : decode cX7_countOf 58 = .ok (.goto 4, 3) := by decide +kernel
theorem dX7_countOf_61 : decode cX7_countOf 61 = .ok (.iconst 0, 1) := by decide +kernel
theorem dX7_countOf_62 : decode cX7_countOf 62 = .ok (.iadd, 1) := by decide +kernel
theorem dX7_countOf_63 : decode cX7_countOf 63 = .ok (.istore_n 3, 1) := by decide +kernel
theorem dX7_countOf_64 : decode cX7_countOf 64 = .ok (.iinc 4 1, 3) := by decide +kernel
theorem dX7_countOf_67 : decode cX7_countOf 67 = .ok (.goto (-60), 3) := by decide +kernel
theorem dX7_countOf_70 : decode cX7_countOf 70 = .ok (.iload_n 1, 1) := by decide +kernel
theorem dX7_countOf_71 : decode cX7_countOf 71 = .ok (.tableswitch 118 0 10 #[57, 71, 76, 81, 89, 91, 93, 98, 103, 108, 113], 57) := by decide +kernel
theorem dX7_countOf_128 : decode cX7_countOf 128 = .ok (.aload_n 0, 1) := by decide +kernel
theorem dX7_countOf_129 : decode cX7_countOf 129 = .ok (.getfield 101, 3) := by decide +kernel
theorem dX7_countOf_132 : decode cX7_countOf 132 = .ok (.ifCond .eq 8, 3) := by decide +kernel
theorem dX7_countOf_135 : decode cX7_countOf 135 = .ok (.bipush 6, 2) := by decide +kernel
theorem dX7_countOf_137 : decode cX7_countOf 137 = .ok (.goto 4, 3) := by decide +kernel
theorem dX7_countOf_140 : decode cX7_countOf 140 = .ok (.iconst 0, 1) := by decide +kernel
theorem dX7_countOf_141 : decode cX7_countOf 141 = .ok (.ireturn, 1) := by decide +kernel
theorem dX7_countOf_142 : decode cX7_countOf 142 = .ok (.aload_n 0, 1) := by decide +kernel
theorem dX7_countOf_143 : decode cX7_countOf 143 = .ok (.invokevirtual 115, 3) := by decide +kernel
theorem dX7_countOf_146 : decode cX7_countOf 146 = .ok (.ireturn, 1) := by decide +kernel
theorem dX7_countOf_147 : decode cX7_countOf 147 = .ok (.aload_n 0, 1) := by decide +kernel
theorem dX7_countOf_148 : decode cX7_countOf 148 = .ok (.getfield 109, 3) := by decide +kernel
theorem dX7_countOf_151 : decode cX7_countOf 151 = .ok (.ireturn, 1) := by decide +kernel
theorem dX7_countOf_152 : decode cX7_countOf 152 = .ok (.aload_n 0, 1) := by decide +kernel
theorem dX7_countOf_153 : decode cX7_countOf 153 = .ok (.getfield 19, 3) := by decide +kernel
theorem dX7_countOf_156 : decode cX7_countOf 156 = .ok (.invokestatic 174, 3) := by decide +kernel
theorem dX7_countOf_159 : decode cX7_countOf 159 = .ok (.ireturn, 1) := by decide +kernel
theorem dX7_countOf_160 : decode cX7_countOf 160 = .ok (.iload_n 2, 1) := by decide +kernel
theorem dX7_countOf_161 : decode cX7_countOf 161 = .ok (.ireturn, 1) := by decide +kernel
theorem dX7_countOf_162 : decode cX7_countOf 162 = .ok (.iload_n 3, 1) := by decide +kernel
theorem dX7_countOf_163 : decode cX7_countOf 163 = .ok (.ireturn, 1) := by decide +kernel
theorem dX7_countOf_164 : decode cX7_countOf 164 = .ok (.aload_n 0, 1) := by decide +kernel
theorem dX7_countOf_165 : decode cX7_countOf 165 = .ok (.invokevirtual 178, 3) := by decide +kernel
theorem dX7_countOf_168 : decode cX7_countOf 168 = .ok (.ireturn, 1) := by decide +kernel
theorem dX7_countOf_169 : decode cX7_countOf 169 = .ok (.aload_n 0, 1) := by decide +kernel
theorem dX7_countOf_170 : decode cX7_countOf 170 = .ok (.getfield 81, 3) := by decide +kernel
theorem dX7_countOf_173 : decode cX7_countOf 173 = .ok (.ireturn, 1) := by decide +kernel
theorem dX7_countOf_174 : decode cX7_countOf 174 = .ok (.aload_n 0, 1) := by decide +kernel
theorem dX7_countOf_175 : decode cX7_countOf 175 = .ok (.getfield 112, 3) := by decide +kernel
theorem dX7_countOf_178 : decode cX7_countOf 178 = .ok (.ireturn, 1) := by decide +kernel
theorem dX7_countOf_179 : decode cX7_countOf 179 = .ok (.aload_n 0, 1) := by decide +kernel
theorem dX7_countOf_180 : decode cX7_countOf 180 = .ok (.getfield 147, 3) := by decide +kernel
theorem dX7_countOf_183 : decode cX7_countOf 183 = .ok (.ireturn, 1) := by decide +kernel
theorem dX7_countOf_184 : decode cX7_countOf 184 = .ok (.aload_n 0, 1) := by decide +kernel
theorem dX7_countOf_185 : decode cX7_countOf 185 = .ok (.getfield 165, 3) := by decide +kernel
theorem dX7_countOf_188 : decode cX7_countOf 188 = .ok (.ireturn, 1) := by decide +kernel
theorem dX7_countOf_189 : decode cX7_countOf 189 = .ok (.bipush (-102), 2) := by decide +kernel
theorem dX7_countOf_191 : decode cX7_countOf 191 = .ok (.ireturn, 1) := by decide +kernel
theorem dX7_count_0 : decode cX7_count 0 = .ok (.aload_n 0, 1) := by decide +kernel
theorem dX7_count_1 : decode cX7_count 1 = .ok (.iload_n 1, 1) := by decide +kernel
theorem dX7_count_2 : decode cX7_count 2 = .ok (.invokevirtual 208, 3) := by decide +kernel
theorem dX7_count_5 : decode cX7_count 5 = .ok (.ireturn, 1) := by decide +kernel
theorem dX7_say_0 : decode cX7_say 0 = .ok (.aload_n 0, 1) := by decide +kernel
theorem dX7_say_1 : decode cX7_say 1 = .ok (.ldc2_w 211, 3) := by decide +kernel
theorem dX7_say_4 : decode cX7_say 4 = .ok (.aload_n 0, 1) := by decide +kernel
theorem dX7_say_5 : decode cX7_say 5 = .ok (.getfield 213, 3) := by decide +kernel
theorem dX7_say_8 : decode cX7_say 8 = .ok (.lmul, 1) := by decide +kernel
theorem dX7_say_9 : decode cX7_say 9 = .ok (.lload_n 1, 1) := by decide +kernel
theorem dX7_say_10 : decode cX7_say 10 = .ok (.ladd, 1) := by decide +kernel
theorem dX7_say_11 : decode cX7_say 11 = .ok (.putfield 213, 3) := by decide +kernel
theorem dX7_say_14 : decode cX7_say 14 = .ok (.return_, 1) := by decide +kernel
theorem dX7_sayGutter_0 : decode cX7_sayGutter 0 = .ok (.iconst 0, 1) := by decide +kernel
theorem dX7_sayGutter_1 : decode cX7_sayGutter 1 = .ok (.istore_n 2, 1) := by decide +kernel
theorem dX7_sayGutter_2 : decode cX7_sayGutter 2 = .ok (.iload_n 2, 1) := by decide +kernel
theorem dX7_sayGutter_3 : decode cX7_sayGutter 3 = .ok (.bipush 6, 2) := by decide +kernel
theorem dX7_sayGutter_5 : decode cX7_sayGutter 5 = .ok (.if_icmp .ge 20, 3) := by decide +kernel
theorem dX7_sayGutter_8 : decode cX7_sayGutter 8 = .ok (.aload_n 0, 1) := by decide +kernel
theorem dX7_sayGutter_9 : decode cX7_sayGutter 9 = .ok (.aload_n 0, 1) := by decide +kernel
theorem dX7_sayGutter_10 : decode cX7_sayGutter 10 = .ok (.iload_n 1, 1) := by decide +kernel
theorem dX7_sayGutter_11 : decode cX7_sayGutter 11 = .ok (.iload_n 2, 1) := by decide +kernel
theorem dX7_sayGutter_12 : decode cX7_sayGutter 12 = .ok (.invokevirtual 123, 3) := by decide +kernel
theorem dX7_sayGutter_15 : decode cX7_sayGutter 15 = .ok (.i2l, 1) := by decide +kernel
theorem dX7_sayGutter_16 : decode cX7_sayGutter 16 = .ok (.invokevirtual 217, 3) := by decide +kernel
theorem dX7_sayGutter_19 : decode cX7_sayGutter 19 = .ok (.iinc 2 1, 3) := by decide +kernel
theorem dX7_sayGutter_22 : decode cX7_sayGutter 22 = .ok (.goto (-20), 3) := by decide +kernel
theorem dX7_sayGutter_25 : decode cX7_sayGutter 25 = .ok (.iconst 0, 1) := by decide +kernel
theorem dX7_sayGutter_26 : decode cX7_sayGutter 26 = .ok (.istore_n 2, 1) := by decide +kernel
theorem dX7_sayGutter_27 : decode cX7_sayGutter 27 = .ok (.iload_n 2, 1) := by decide +kernel
theorem dX7_sayGutter_28 : decode cX7_sayGutter 28 = .ok (.aload_n 0, 1) := by decide +kernel
theorem dX7_sayGutter_29 : decode cX7_sayGutter 29 = .ok (.getfield 19, 3) := by decide +kernel
theorem dX7_sayGutter_32 : decode cX7_sayGutter 32 = .ok (.bipush 17, 2) := by decide +kernel
theorem dX7_sayGutter_34 : decode cX7_sayGutter 34 = .ok (.iload_n 1, 1) := by decide +kernel
theorem dX7_sayGutter_35 : decode cX7_sayGutter 35 = .ok (.imul, 1) := by decide +kernel
theorem dX7_sayGutter_36 : decode cX7_sayGutter 36 = .ok (.iconst 4, 1) := by decide +kernel
theorem dX7_sayGutter_37 : decode cX7_sayGutter 37 = .ok (.iadd, 1) := by decide +kernel
theorem dX7_sayGutter_38 : decode cX7_sayGutter 38 = .ok (.iaload, 1) := by decide +kernel
theorem dX7_sayGutter_39 : decode cX7_sayGutter 39 = .ok (.if_icmp .ge 27, 3) := by decide +kernel
theorem dX7_sayGutter_42 : decode cX7_sayGutter 42 = .ok (.aload_n 0, 1) := by decide +kernel
theorem dX7_sayGutter_43 : decode cX7_sayGutter 43 = .ok (.aload_n 0, 1) := by decide +kernel
theorem dX7_sayGutter_44 : decode cX7_sayGutter 44 = .ok (.getfield 19, 3) := by decide +kernel
theorem dX7_sayGutter_47 : decode cX7_sayGutter 47 = .ok (.bipush 17, 2) := by decide +kernel
theorem dX7_sayGutter_49 : decode cX7_sayGutter 49 = .ok (.iload_n 1, 1) := by decide +kernel
theorem dX7_sayGutter_50 : decode cX7_sayGutter 50 = .ok (.imul, 1) := by decide +kernel
theorem dX7_sayGutter_51 : decode cX7_sayGutter 51 = .ok (.iconst 5, 1) := by decide +kernel
theorem dX7_sayGutter_52 : decode cX7_sayGutter 52 = .ok (.iadd, 1) := by decide +kernel
theorem dX7_sayGutter_53 : decode cX7_sayGutter 53 = .ok (.iload_n 2, 1) := by decide +kernel
theorem dX7_sayGutter_54 : decode cX7_sayGutter 54 = .ok (.iadd, 1) := by decide +kernel
theorem dX7_sayGutter_55 : decode cX7_sayGutter 55 = .ok (.iaload, 1) := by decide +kernel
theorem dX7_sayGutter_56 : decode cX7_sayGutter 56 = .ok (.i2l, 1) := by decide +kernel
theorem dX7_sayGutter_57 : decode cX7_sayGutter 57 = .ok (.invokevirtual 217, 3) := by decide +kernel
theorem dX7_sayGutter_60 : decode cX7_sayGutter 60 = .ok (.iinc 2 1, 3) := by decide +kernel
theorem dX7_sayGutter_63 : decode cX7_sayGutter 63 = .ok (.goto (-36), 3) := by decide +kernel
theorem dX7_sayGutter_66 : decode cX7_sayGutter 66 = .ok (.aload_n 0, 1) := by decide +kernel
theorem dX7_sayGutter_67 : decode cX7_sayGutter 67 = .ok (.aload_n 0, 1) := by decide +kernel
theorem dX7_sayGutter_68 : decode cX7_sayGutter 68 = .ok (.iload_n 1, 1) := by decide +kernel
theorem dX7_sayGutter_69 : decode cX7_sayGutter 69 = .ok (.invokevirtual 184, 3) := by decide +kernel
theorem dX7_sayGutter_72 : decode cX7_sayGutter 72 = .ok (.i2l, 1) := by decide +kernel
theorem dX7_sayGutter_73 : decode cX7_sayGutter 73 = .ok (.invokevirtual 217, 3) := by decide +kernel
theorem dX7_sayGutter_76 : decode cX7_sayGutter 76 = .ok (.return_, 1) := by decide +kernel
theorem dX7_digest_0 : decode cX7_digest 0 = .ok (.aload_n 0, 1) := by decide +kernel
theorem dX7_digest_1 : decode cX7_digest 1 = .ok (.ldc2_w 221, 3) := by decide +kernel
theorem dX7_digest_4 : decode cX7_digest 4 = .ok (.putfield 213, 3) := by decide +kernel
theorem dX7_digest_7 : decode cX7_digest 7 = .ok (.iconst 0, 1) := by decide +kernel
theorem dX7_digest_8 : decode cX7_digest 8 = .ok (.istore_n 1, 1) := by decide +kernel
theorem dX7_digest_9 : decode cX7_digest 9 = .ok (.iload_n 1, 1) := by decide +kernel
theorem dX7_digest_10 : decode cX7_digest 10 = .ok (.bipush 6, 2) := by decide +kernel
theorem dX7_digest_12 : decode cX7_digest 12 = .ok (.if_icmp .ge 21, 3) := by decide +kernel
theorem dX7_digest_15 : decode cX7_digest 15 = .ok (.aload_n 0, 1) := by decide +kernel
theorem dX7_digest_16 : decode cX7_digest 16 = .ok (.getfield 101, 3) := by decide +kernel
theorem dX7_digest_19 : decode cX7_digest 19 = .ok (.ifCond .eq 14, 3) := by decide +kernel
theorem dX7_digest_22 : decode cX7_digest 22 = .ok (.aload_n 0, 1) := by decide +kernel
theorem dX7_digest_23 : decode cX7_digest 23 = .ok (.iload_n 1, 1) := by decide +kernel
theorem dX7_digest_24 : decode cX7_digest 24 = .ok (.invokevirtual 223, 3) := by decide +kernel
theorem dX7_digest_27 : decode cX7_digest 27 = .ok (.iinc 1 1, 3) := by decide +kernel
theorem dX7_digest_30 : decode cX7_digest 30 = .ok (.goto (-21), 3) := by decide +kernel
theorem dX7_digest_33 : decode cX7_digest 33 = .ok (.iconst 0, 1) := by decide +kernel
theorem dX7_digest_34 : decode cX7_digest 34 = .ok (.istore_n 1, 1) := by decide +kernel
theorem dX7_digest_35 : decode cX7_digest 35 = .ok (.iload_n 1, 1) := by decide +kernel
theorem dX7_digest_36 : decode cX7_digest 36 = .ok (.aload_n 0, 1) := by decide +kernel
theorem dX7_digest_37 : decode cX7_digest 37 = .ok (.getfield 109, 3) := by decide +kernel
theorem dX7_digest_40 : decode cX7_digest 40 = .ok (.if_icmp .ge 41, 3) := by decide +kernel
theorem dX7_digest_43 : decode cX7_digest 43 = .ok (.aload_n 0, 1) := by decide +kernel
theorem dX7_digest_44 : decode cX7_digest 44 = .ok (.aload_n 0, 1) := by decide +kernel
theorem dX7_digest_45 : decode cX7_digest 45 = .ok (.getfield 22, 3) := by decide +kernel
theorem dX7_digest_48 : decode cX7_digest 48 = .ok (.iload_n 1, 1) := by decide +kernel
theorem dX7_digest_49 : decode cX7_digest 49 = .ok (.iaload, 1) := by decide +kernel
theorem dX7_digest_50 : decode cX7_digest 50 = .ok (.i2l, 1) := by decide +kernel
theorem dX7_digest_51 : decode cX7_digest 51 = .ok (.invokevirtual 217, 3) := by decide +kernel
theorem dX7_digest_54 : decode cX7_digest 54 = .ok (.aload_n 0, 1) := by decide +kernel
theorem dX7_digest_55 : decode cX7_digest 55 = .ok (.aload_n 0, 1) := by decide +kernel
theorem dX7_digest_56 : decode cX7_digest 56 = .ok (.getfield 25, 3) := by decide +kernel
theorem dX7_digest_59 : decode cX7_digest 59 = .ok (.iload_n 1, 1) := by decide +kernel
theorem dX7_digest_60 : decode cX7_digest 60 = .ok (.iaload, 1) := by decide +kernel
theorem dX7_digest_61 : decode cX7_digest 61 = .ok (.i2l, 1) := by decide +kernel
theorem dX7_digest_62 : decode cX7_digest 62 = .ok (.invokevirtual 217, 3) := by decide +kernel
theorem dX7_digest_65 : decode cX7_digest 65 = .ok (.aload_n 0, 1) := by decide +kernel
theorem dX7_digest_66 : decode cX7_digest 66 = .ok (.aload_n 0, 1) := by decide +kernel
theorem dX7_digest_67 : decode cX7_digest 67 = .ok (.iload_n 1, 1) := by decide +kernel
theorem dX7_digest_68 : decode cX7_digest 68 = .ok (.invokevirtual 187, 3) := by decide +kernel
theorem dX7_digest_71 : decode cX7_digest 71 = .ok (.i2l, 1) := by decide +kernel
theorem dX7_digest_72 : decode cX7_digest 72 = .ok (.invokevirtual 217, 3) := by decide +kernel
theorem dX7_digest_75 : decode cX7_digest 75 = .ok (.iinc 1 1, 3) := by decide +kernel
theorem dX7_digest_78 : decode cX7_digest 78 = .ok (.goto (-43), 3) := by decide +kernel
theorem dX7_digest_81 : decode cX7_digest 81 = .ok (.iconst 0, 1) := by decide +kernel
theorem dX7_digest_82 : decode cX7_digest 82 = .ok (.istore_n 1, 1) := by decide +kernel
theorem dX7_digest_83 : decode cX7_digest 83 = .ok (.iload_n 1, 1) := by decide +kernel
theorem dX7_digest_84 : decode cX7_digest 84 = .ok (.aload_n 0, 1) := by decide +kernel
theorem dX7_digest_85 : decode cX7_digest 85 = .ok (.getfield 81, 3) := by decide +kernel
theorem dX7_digest_88 : decode cX7_digest 88 = .ok (.if_icmp .ge 20, 3) := by decide +kernel
theorem dX7_digest_91 : decode cX7_digest 91 = .ok (.aload_n 0, 1) := by decide +kernel
theorem dX7_digest_92 : decode cX7_digest 92 = .ok (.aload_n 0, 1) := by decide +kernel
theorem dX7_digest_93 : decode cX7_digest 93 = .ok (.getfield 7, 3) := by decide +kernel
theorem dX7_digest_96 : decode cX7_digest 96 = .ok (.iload_n 1, 1) := by decide +kernel
theorem dX7_digest_97 : decode cX7_digest 97 = .ok (.iaload, 1) := by decide +kernel
theorem dX7_digest_98 : decode cX7_digest 98 = .ok (.i2l, 1) := by decide +kernel
theorem dX7_digest_99 : decode cX7_digest 99 = .ok (.invokevirtual 217, 3) := by decide +kernel
theorem dX7_digest_102 : decode cX7_digest 102 = .ok (.iinc 1 1, 3) := by decide +kernel
theorem dX7_digest_105 : decode cX7_digest 105 = .ok (.goto (-22), 3) := by decide +kernel
theorem dX7_digest_108 : decode cX7_digest 108 = .ok (.iconst 0, 1) := by decide +kernel
theorem dX7_digest_109 : decode cX7_digest 109 = .ok (.istore_n 1, 1) := by decide +kernel
theorem dX7_digest_110 : decode cX7_digest 110 = .ok (.iload_n 1, 1) := by decide +kernel
theorem dX7_digest_111 : decode cX7_digest 111 = .ok (.bipush 11, 2) := by decide +kernel
theorem dX7_digest_113 : decode cX7_digest 113 = .ok (.if_icmp .ge 19, 3) := by decide +kernel
theorem dX7_digest_116 : decode cX7_digest 116 = .ok (.aload_n 0, 1) := by decide +kernel
theorem dX7_digest_117 : decode cX7_digest 117 = .ok (.aload_n 0, 1) := by decide +kernel
theorem dX7_digest_118 : decode cX7_digest 118 = .ok (.iload_n 1, 1) := by decide +kernel
theorem dX7_digest_119 : decode cX7_digest 119 = .ok (.invokevirtual 208, 3) := by decide +kernel
theorem dX7_digest_122 : decode cX7_digest 122 = .ok (.i2l, 1) := by decide +kernel
theorem dX7_digest_123 : decode cX7_digest 123 = .ok (.invokevirtual 217, 3) := by decide +kernel
theorem dX7_digest_126 : decode cX7_digest 126 = .ok (.iinc 1 1, 3) := by decide +kernel
theorem dX7_digest_129 : decode cX7_digest 129 = .ok (.goto (-19), 3) := by decide +kernel
theorem dX7_digest_132 : decode cX7_digest 132 = .ok (.aload_n 0, 1) := by decide +kernel
theorem dX7_digest_133 : decode cX7_digest 133 = .ok (.getfield 213, 3) := by decide +kernel
theorem dX7_digest_136 : decode cX7_digest 136 = .ok (.lreturn, 1) := by decide +kernel
theorem dJ6_bitCount_0f7a4_0 : decode cJ6_bitCount_0f7a4 0 = .ok (.iload_n 0, 1) := by decide +kernel
theorem dJ6_bitCount_0f7a4_1 : decode cJ6_bitCount_0f7a4 1 = .ok (.iload_n 0, 1) := by decide +kernel
theorem dJ6_bitCount_0f7a4_2 : decode cJ6_bitCount_0f7a4 2 = .ok (.iconst 1, 1) := by decide +kernel
theorem dJ6_bitCount_0f7a4_3 : decode cJ6_bitCount_0f7a4 3 = .ok (.iushr, 1) := by decide +kernel
theorem dJ6_bitCount_0f7a4_4 : decode cJ6_bitCount_0f7a4 4 = .ok (.ldc_w 265, 3) := by decide +kernel
theorem dJ6_bitCount_0f7a4_7 : decode cJ6_bitCount_0f7a4 7 = .ok (.iand, 1) := by decide +kernel
theorem dJ6_bitCount_0f7a4_8 : decode cJ6_bitCount_0f7a4 8 = .ok (.isub, 1) := by decide +kernel
theorem dJ6_bitCount_0f7a4_9 : decode cJ6_bitCount_0f7a4 9 = .ok (.istore_n 0, 1) := by decide +kernel
theorem dJ6_bitCount_0f7a4_10 : decode cJ6_bitCount_0f7a4 10 = .ok (.iload_n 0, 1) := by decide +kernel
theorem dJ6_bitCount_0f7a4_11 : decode cJ6_bitCount_0f7a4 11 = .ok (.ldc_w 266, 3) := by decide +kernel
theorem dJ6_bitCount_0f7a4_14 : decode cJ6_bitCount_0f7a4 14 = .ok (.iand, 1) := by decide +kernel
theorem dJ6_bitCount_0f7a4_15 : decode cJ6_bitCount_0f7a4 15 = .ok (.iload_n 0, 1) := by decide +kernel
theorem dJ6_bitCount_0f7a4_16 : decode cJ6_bitCount_0f7a4 16 = .ok (.iconst 2, 1) := by decide +kernel
theorem dJ6_bitCount_0f7a4_17 : decode cJ6_bitCount_0f7a4 17 = .ok (.iushr, 1) := by decide +kernel
theorem dJ6_bitCount_0f7a4_18 : decode cJ6_bitCount_0f7a4 18 = .ok (.ldc_w 266, 3) := by decide +kernel
theorem dJ6_bitCount_0f7a4_21 : decode cJ6_bitCount_0f7a4 21 = .ok (.iand, 1) := by decide +kernel
theorem dJ6_bitCount_0f7a4_22 : decode cJ6_bitCount_0f7a4 22 = .ok (.iadd, 1) := by decide +kernel
theorem dJ6_bitCount_0f7a4_23 : decode cJ6_bitCount_0f7a4 23 = .ok (.istore_n 0, 1) := by decide +kernel
theorem dJ6_bitCount_0f7a4_24 : decode cJ6_bitCount_0f7a4 24 = .ok (.iload_n 0, 1) := by decide +kernel
theorem dJ6_bitCount_0f7a4_25 : decode cJ6_bitCount_0f7a4 25 = .ok (.iload_n 0, 1) := by decide +kernel
theorem dJ6_bitCount_0f7a4_26 : decode cJ6_bitCount_0f7a4 26 = .ok (.iconst 4, 1) := by decide +kernel
theorem dJ6_bitCount_0f7a4_27 : decode cJ6_bitCount_0f7a4 27 = .ok (.iushr, 1) := by decide +kernel
theorem dJ6_bitCount_0f7a4_28 : decode cJ6_bitCount_0f7a4 28 = .ok (.iadd, 1) := by decide +kernel
theorem dJ6_bitCount_0f7a4_29 : decode cJ6_bitCount_0f7a4 29 = .ok (.ldc_w 267, 3) := by decide +kernel
theorem dJ6_bitCount_0f7a4_32 : decode cJ6_bitCount_0f7a4 32 = .ok (.iand, 1) := by decide +kernel
theorem dJ6_bitCount_0f7a4_33 : decode cJ6_bitCount_0f7a4 33 = .ok (.istore_n 0, 1) := by decide +kernel
theorem dJ6_bitCount_0f7a4_34 : decode cJ6_bitCount_0f7a4 34 = .ok (.iload_n 0, 1) := by decide +kernel
theorem dJ6_bitCount_0f7a4_35 : decode cJ6_bitCount_0f7a4 35 = .ok (.iload_n 0, 1) := by decide +kernel
theorem dJ6_bitCount_0f7a4_36 : decode cJ6_bitCount_0f7a4 36 = .ok (.bipush 8, 2) := by decide +kernel
theorem dJ6_bitCount_0f7a4_38 : decode cJ6_bitCount_0f7a4 38 = .ok (.iushr, 1) := by decide +kernel
theorem dJ6_bitCount_0f7a4_39 : decode cJ6_bitCount_0f7a4 39 = .ok (.iadd, 1) := by decide +kernel
theorem dJ6_bitCount_0f7a4_40 : decode cJ6_bitCount_0f7a4 40 = .ok (.istore_n 0, 1) := by decide +kernel
theorem dJ6_bitCount_0f7a4_41 : decode cJ6_bitCount_0f7a4 41 = .ok (.iload_n 0, 1) := by decide +kernel
theorem dJ6_bitCount_0f7a4_42 : decode cJ6_bitCount_0f7a4 42 = .ok (.iload_n 0, 1) := by decide +kernel
theorem dJ6_bitCount_0f7a4_43 : decode cJ6_bitCount_0f7a4 43 = .ok (.bipush 16, 2) := by decide +kernel
theorem dJ6_bitCount_0f7a4_45 : decode cJ6_bitCount_0f7a4 45 = .ok (.iushr, 1) := by decide +kernel
theorem dJ6_bitCount_0f7a4_46 : decode cJ6_bitCount_0f7a4 46 = .ok (.iadd, 1) := by decide +kernel
theorem dJ6_bitCount_0f7a4_47 : decode cJ6_bitCount_0f7a4 47 = .ok (.istore_n 0, 1) := by decide +kernel
theorem dJ6_bitCount_0f7a4_48 : decode cJ6_bitCount_0f7a4 48 = .ok (.iload_n 0, 1) := by decide +kernel
theorem dJ6_bitCount_0f7a4_49 : decode cJ6_bitCount_0f7a4 49 = .ok (.bipush 63, 2) := by decide +kernel
theorem dJ6_bitCount_0f7a4_51 : decode cJ6_bitCount_0f7a4 51 = .ok (.iand, 1) := by decide +kernel
theorem dJ6_bitCount_0f7a4_52 : decode cJ6_bitCount_0f7a4 52 = .ok (.ireturn, 1) := by decide +kernel
theorem dJ0_length_8abf5_0 : decode cJ0_length_8abf5 0 = .ok (.aload_n 0, 1) := by decide +kernel
theorem dJ0_length_8abf5_1 : decode cJ0_length_8abf5 1 = .ok (.getfield 9, 3) := by decide +kernel
theorem dJ0_length_8abf5_4 : decode cJ0_length_8abf5 4 = .ok (.arraylength, 1) := by decide +kernel
theorem dJ0_length_8abf5_5 : decode cJ0_length_8abf5 5 = .ok (.aload_n 0, 1) := by decide +kernel
theorem dJ0_length_8abf5_6 : decode cJ0_length_8abf5 6 = .ok (.invokevirtual 335, 3) := by decide +kernel
theorem dJ0_length_8abf5_9 : decode cJ0_length_8abf5 9 = .ok (.ishr, 1) := by decide +kernel
theorem dJ0_length_8abf5_10 : decode cJ0_length_8abf5 10 = .ok (.ireturn, 1) := by decide +kernel
theorem dJ0_indexOf_0f7a4_0 : decode cJ0_indexOf_0f7a4 0 = .ok (.aload_n 0, 1) := by decide +kernel
theorem dJ0_indexOf_0f7a4_1 : decode cJ0_indexOf_0f7a4 1 = .ok (.iload_n 1, 1) := by decide +kernel
theorem dJ0_indexOf_0f7a4_2 : decode cJ0_indexOf_0f7a4 2 = .ok (.iconst 0, 1) := by decide +kernel
theorem dJ0_indexOf_0f7a4_3 : decode cJ0_indexOf_0f7a4 3 = .ok (.invokevirtual 633, 3) := by decide +kernel
theorem dJ0_indexOf_0f7a4_6 : decode cJ0_indexOf_0f7a4 6 = .ok (.ireturn, 1) := by decide +kernel
theorem dJ0_indexOf_7cf53_0 : decode cJ0_indexOf_7cf53 0 = .ok (.aload_n 0, 1) := by decide +kernel
theorem dJ0_indexOf_7cf53_1 : decode cJ0_indexOf_7cf53 1 = .ok (.invokevirtual 492, 3) := by decide +kernel
theorem dJ0_indexOf_7cf53_4 : decode cJ0_indexOf_7cf53 4 = .ok (.ifCond .eq 19, 3) := by decide +kernel
theorem dJ0_indexOf_7cf53_7 : decode cJ0_indexOf_7cf53 7 = .ok (.aload_n 0, 1) := by decide +kernel
theorem dJ0_indexOf_7cf53_8 : decode cJ0_indexOf_7cf53 8 = .ok (.getfield 9, 3) := by decide +kernel
theorem dJ0_indexOf_7cf53_11 : decode cJ0_indexOf_7cf53 11 = .ok (.iload_n 1, 1) := by decide +kernel
theorem dJ0_indexOf_7cf53_12 : decode cJ0_indexOf_7cf53 12 = .ok (.iload_n 2, 1) := by decide +kernel
theorem dJ0_indexOf_7cf53_13 : decode cJ0_indexOf_7cf53 13 = .ok (.aload_n 0, 1) := by decide +kernel
theorem dJ0_indexOf_7cf53_14 : decode cJ0_indexOf_7cf53 14 = .ok (.invokevirtual 505, 3) := by decide +kernel
theorem dJ0_indexOf_7cf53_17 : decode cJ0_indexOf_7cf53 17 = .ok (.invokestatic 637, 3) := by decide +kernel
theorem dJ0_indexOf_7cf53_20 : decode cJ0_indexOf_7cf53 20 = .ok (.goto 16, 3) := by decide +kernel
theorem dJ0_indexOf_7cf53_23 : decode cJ0_indexOf_7cf53 23 = .ok (.aload_n 0, 1) := by decide +kernel
theorem dJ0_indexOf_7cf53_24 : decode cJ0_indexOf_7cf53 24 = .ok (.getfield 9, 3) := by decide +kernel
theorem dJ0_indexOf_7cf53_27 : decode cJ0_indexOf_7cf53 27 = .ok (.iload_n 1, 1) := by decide +kernel
theorem dJ0_indexOf_7cf53_28 : decode cJ0_indexOf_7cf53 28 = .ok (.iload_n 2, 1) := by decide +kernel
theorem dJ0_indexOf_7cf53_29 : decode cJ0_indexOf_7cf53 29 = .ok (.aload_n 0, 1) := by decide +kernel
theorem dJ0_indexOf_7cf53_30 : decode cJ0_indexOf_7cf53 30 = .ok (.invokevirtual 505, 3) := by decide +kernel
theorem dJ0_indexOf_7cf53_33 : decode cJ0_indexOf_7cf53 33 = .ok (.invokestatic 640, 3) := by decide +kernel
theorem dJ0_indexOf_7cf53_36 : decode cJ0_indexOf_7cf53 36 = .ok (.ireturn, 1) := by decide +kernel
theorem dJ0_coder_7d493_0 : decode cJ0_coder_7d493 0 = .ok (.getstatic 38, 3) := by decide +kernel
theorem dJ0_coder_7d493_3 : decode cJ0_coder_7d493 3 = .ok (.ifCond .eq 10, 3) := by decide +kernel
theorem dJ0_coder_7d493_6 : decode cJ0_coder_7d493 6 = .ok (.aload_n 0, 1) := by decide +kernel
theorem dJ0_coder_7d493_7 : decode cJ0_coder_7d493 7 = .ok (.getfield 15, 3) := by decide +kernel
theorem dJ0_coder_7d493_10 : decode cJ0_coder_7d493 10 = .ok (.goto 4, 3) := by decide +kernel
theorem dJ0_coder_7d493_13 : decode cJ0_coder_7d493 13 = .ok (.iconst 1, 1) := by decide +kernel
theorem dJ0_coder_7d493_14 : decode cJ0_coder_7d493 14 = .ok (.ireturn, 1) := by decide +kernel
theorem dJ0_isLatin1_aae02_0 : decode cJ0_isLatin1_aae02 0 = .ok (.getstatic 38, 3) := by decide +kernel
theorem dJ0_isLatin1_aae02_3 : decode cJ0_isLatin1_aae02 3 = .ok (.ifCond .eq 14, 3) := by decide +kernel
theorem dJ0_isLatin1_aae02_6 : decode cJ0_isLatin1_aae02 6 = .ok (.aload_n 0, 1) := by decide +kernel
theorem dJ0_isLatin1_aae02_7 : decode cJ0_isLatin1_aae02 7 = .ok (.getfield 15, 3) := by decide +kernel
theorem dJ0_isLatin1_aae02_10 : decode cJ0_isLatin1_aae02 10 = .ok (.ifCond .ne 7, 3) := by decide +kernel
theorem dJ0_isLatin1_aae02_13 : decode cJ0_isLatin1_aae02 13 = .ok (.iconst 1, 1) := by decide +kernel
theorem dJ0_isLatin1_aae02_14 : decode cJ0_isLatin1_aae02 14 = .ok (.goto 4, 3) := by decide +kernel
theorem dJ0_isLatin1_aae02_17 : decode cJ0_isLatin1_aae02 17 = .ok (.iconst 0, 1) := by decide +kernel
theorem dJ0_isLatin1_aae02_18 : decode cJ0_isLatin1_aae02 18 = .ok (.ireturn, 1) := by decide +kernel
theorem dJ1_canEncode_9a6ad_0 : decode cJ1_canEncode_9a6ad 0 = .ok (.iload_n 0, 1) := by decide +kernel
theorem dJ1_canEncode_9a6ad_1 : decode cJ1_canEncode_9a6ad 1 = .ok (.ifCond .lt 14, 3) := by decide +kernel
theorem dJ1_canEncode_9a6ad_4 : decode cJ1_canEncode_9a6ad 4 = .ok (.iload_n 0, 1) := by decide +kernel
theorem dJ1_canEncode_9a6ad_5 : decode cJ1_canEncode_9a6ad 5 = .ok (.sipush 255, 3) := by decide +kernel
theorem dJ1_canEncode_9a6ad_8 : decode cJ1_canEncode_9a6ad 8 = .ok (.if_icmp .gt 7, 3) := by decide +kernel
theorem dJ1_canEncode_9a6ad_11 : decode cJ1_canEncode_9a6ad 11 = .ok (.iconst 1, 1) := by decide +kernel
theorem dJ1_canEncode_9a6ad_12 : decode cJ1_canEncode_9a6ad 12 = .ok (.goto 4, 3) := by decide +kernel
theorem dJ1_canEncode_9a6ad_15 : decode cJ1_canEncode_9a6ad 15 = .ok (.iconst 0, 1) := by decide +kernel
theorem dJ1_canEncode_9a6ad_16 : decode cJ1_canEncode_9a6ad 16 = .ok (.ireturn, 1) := by decide +kernel
theorem dJ1_indexOf_4cfef_0 : decode cJ1_indexOf_4cfef 0 = .ok (.iload_n 1, 1) := by decide +kernel
theorem dJ1_indexOf_4cfef_1 : decode cJ1_indexOf_4cfef 1 = .ok (.invokestatic 88, 3) := by decide +kernel
theorem dJ1_indexOf_4cfef_4 : decode cJ1_indexOf_4cfef 4 = .ok (.ifCond .ne 5, 3) := by decide +kernel
theorem dJ1_indexOf_4cfef_7 : decode cJ1_indexOf_4cfef 7 = .ok (.iconst (-1), 1) := by decide +kernel
theorem dJ1_indexOf_4cfef_8 : decode cJ1_indexOf_4cfef 8 = .ok (.ireturn, 1) := by decide +kernel
theorem dJ1_indexOf_4cfef_9 : decode cJ1_indexOf_4cfef 9 = .ok (.iload_n 2, 1) := by decide +kernel
theorem dJ1_indexOf_4cfef_10 : decode cJ1_indexOf_4cfef 10 = .ok (.iconst 0, 1) := by decide +kernel
theorem dJ1_indexOf_4cfef_11 : decode cJ1_indexOf_4cfef 11 = .ok (.invokestatic 92, 3) := by decide +kernel
theorem dJ1_indexOf_4cfef_14 : decode cJ1_indexOf_4cfef 14 = .ok (.istore_n 2, 1) := by decide +kernel
theorem dJ1_indexOf_4cfef_15 : decode cJ1_indexOf_4cfef 15 = .ok (.iload_n 3, 1) := by decide +kernel
theorem dJ1_indexOf_4cfef_16 : decode cJ1_indexOf_4cfef 16 = .ok (.aload_n 0, 1) := by decide +kernel
theorem dJ1_indexOf_4cfef_17 : decode cJ1_indexOf_4cfef 17 = .ok (.arraylength, 1) := by decide +kernel
theorem dJ1_indexOf_4cfef_18 : decode cJ1_indexOf_4cfef 18 = .ok (.invokestatic 38, 3) := by decide +kernel
theorem dJ1_indexOf_4cfef_21 : decode cJ1_indexOf_4cfef 21 = .ok (.istore_n 3, 1) := by decide +kernel
theorem dJ1_indexOf_4cfef_22 : decode cJ1_indexOf_4cfef 22 = .ok (.iload_n 2, 1) := by decide +kernel
theorem dJ1_indexOf_4cfef_23 : decode cJ1_indexOf_4cfef 23 = .ok (.iload_n 3, 1) := by decide +kernel
theorem dJ1_indexOf_4cfef_24 : decode cJ1_indexOf_4cfef 24 = .ok (.if_icmp .lt 5, 3) := by decide +kernel
theorem dJ1_indexOf_4cfef_27 : decode cJ1_indexOf_4cfef 27 = .ok (.iconst (-1), 1) := by decide +kernel
theorem dJ1_indexOf_4cfef_28 : decode cJ1_indexOf_4cfef 28 = .ok (.ireturn, 1) := by decide +kernel
theorem dJ1_indexOf_4cfef_29 : decode cJ1_indexOf_4cfef 29 = .ok (.aload_n 0, 1) := by decide +kernel
theorem dJ1_indexOf_4cfef_30 : decode cJ1_indexOf_4cfef 30 = .ok (.iload_n 1, 1) := by decide +kernel
theorem dJ1_indexOf_4cfef_31 : decode cJ1_indexOf_4cfef 31 = .ok (.iload_n 2, 1) := by decide +kernel
theorem dJ1_indexOf_4cfef_32 : decode cJ1_indexOf_4cfef 32 = .ok (.iload_n 3, 1) := by decide +kernel
theorem dJ1_indexOf_4cfef_33 : decode cJ1_indexOf_4cfef 33 = .ok (.invokestatic 95, 3) := by decide +kernel
theorem dJ1_indexOf_4cfef_36 : decode cJ1_indexOf_4cfef 36 = .ok (.ireturn, 1) := by decide +kernel
theorem dJ1_indexOfChar_4cfef_0 : decode cJ1_indexOfChar_4cfef 0 = .ok (.iload_n 1, 1) := by decide +kernel
theorem dJ1_indexOfChar_4cfef_1 : decode cJ1_indexOfChar_4cfef 1 = .ok (.i2b, 1) := by decide +kernel
theorem dJ1_indexOfChar_4cfef_2 : decode cJ1_indexOfChar_4cfef 2 = .ok (.istore 4, 2) := by decide +kernel
theorem dJ1_indexOfChar_4cfef_4 : decode cJ1_indexOfChar_4cfef 4 = .ok (.iload_n 2, 1) := by decide +kernel
theorem dJ1_indexOfChar_4cfef_5 : decode cJ1_indexOfChar_4cfef 5 = .ok (.istore 5, 2) := by decide +kernel
theorem dJ1_indexOfChar_4cfef_7 : decode cJ1_indexOfChar_4cfef 7 = .ok (.iload 5, 2) := by decide +kernel
theorem dJ1_indexOfChar_4cfef_9 : decode cJ1_indexOfChar_4cfef 9 = .ok (.iload_n 3, 1) := by decide +kernel
theorem dJ1_indexOfChar_4cfef_10 : decode cJ1_indexOfChar_4cfef 10 = .ok (.if_icmp .ge 21, 3) := by decide +kernel
theorem dJ1_indexOfChar_4cfef_13 : decode cJ1_indexOfChar_4cfef 13 = .ok (.aload_n 0, 1) := by decide +kernel
theorem dJ1_indexOfChar_4cfef_14 : decode cJ1_indexOfChar_4cfef 14 = .ok (.iload 5, 2) := by decide +kernel
theorem dJ1_indexOfChar_4cfef_16 : decode cJ1_indexOfChar_4cfef 16 = .ok (.baload, 1) := by decide +kernel
theorem dJ1_indexOfChar_4cfef_17 : decode cJ1_indexOfChar_4cfef 17 = .ok (.iload 4, 2) := by decide +kernel
theorem dJ1_indexOfChar_4cfef_19 : decode cJ1_indexOfChar_4cfef 19 = .ok (.if_icmp .ne 6, 3) := by decide +kernel
theorem dJ1_indexOfChar_4cfef_22 : decode cJ1_indexOfChar_4cfef 22 = .ok (.iload 5, 2) := by decide +kernel
theorem dJ1_indexOfChar_4cfef_24 : decode cJ1_indexOfChar_4cfef 24 = .ok (.ireturn, 1) := by decide +kernel
theorem dJ1_indexOfChar_4cfef_25 : decode cJ1_indexOfChar_4cfef 25 = .ok (.iinc 5 1, 3) := by decide +kernel
theorem dJ1_indexOfChar_4cfef_28 : decode cJ1_indexOfChar_4cfef 28 = .ok (.goto (-21), 3) := by decide +kernel
theorem dJ1_indexOfChar_4cfef_31 : decode cJ1_indexOfChar_4cfef 31 = .ok (.iconst (-1), 1) := by decide +kernel
theorem dJ1_indexOfChar_4cfef_32 : decode cJ1_indexOfChar_4cfef 32 = .ok (.ireturn, 1) := by decide +kernel
theorem dJ7_fill_53178_0 : decode cJ7_fill_53178 0 = .ok (.iconst 0, 1) := by decide +kernel
theorem dJ7_fill_53178_1 : decode cJ7_fill_53178 1 = .ok (.istore_n 2, 1) := by decide +kernel
theorem dJ7_fill_53178_2 : decode cJ7_fill_53178 2 = .ok (.aload_n 0, 1) := by decide +kernel
theorem dJ7_fill_53178_3 : decode cJ7_fill_53178 3 = .ok (.arraylength, 1) := by decide +kernel
theorem dJ7_fill_53178_4 : decode cJ7_fill_53178 4 = .ok (.istore_n 3, 1) := by decide +kernel
theorem dJ7_fill_53178_5 : decode cJ7_fill_53178 5 = .ok (.iload_n 2, 1) := by decide +kernel
theorem dJ7_fill_53178_6 : decode cJ7_fill_53178 6 = .ok (.iload_n 3, 1) := by decide +kernel
theorem dJ7_fill_53178_7 : decode cJ7_fill_53178 7 = .ok (.if_icmp .ge 13, 3) := by decide +kernel
theorem dJ7_fill_53178_10 : decode cJ7_fill_53178 10 = .ok (.aload_n 0, 1) := by decide +kernel
theorem dJ7_fill_53178_11 : decode cJ7_fill_53178 11 = .ok (.iload_n 2, 1) := by decide +kernel
theorem dJ7_fill_53178_12 : decode cJ7_fill_53178 12 = .ok (.iload_n 1, 1) := by decide +kernel
theorem dJ7_fill_53178_13 : decode cJ7_fill_53178 13 = .ok (.iastore, 1) := by decide +kernel
theorem dJ7_fill_53178_14 : decode cJ7_fill_53178 14 = .ok (.iinc 2 1, 3) := by decide +kernel
theorem dJ7_fill_53178_17 : decode cJ7_fill_53178 17 = .ok (.goto (-12), 3) := by decide +kernel
theorem dJ7_fill_53178_20 : decode cJ7_fill_53178 20 = .ok (.return_, 1) := by decide +kernel
theorem dL_law_0 : decode cL_law 0 = .ok (.new 7, 3) := by decide +kernel
theorem dL_law_3 : decode cL_law 3 = .ok (.dup, 1) := by decide +kernel
theorem dL_law_4 : decode cL_law 4 = .ok (.invokespecial 9, 3) := by decide +kernel
theorem dL_law_7 : decode cL_law 7 = .ok (.astore_n 1, 1) := by decide +kernel
theorem dL_law_8 : decode cL_law 8 = .ok (.new 10, 3) := by decide +kernel
theorem dL_law_11 : decode cL_law 11 = .ok (.dup, 1) := by decide +kernel
theorem dL_law_12 : decode cL_law 12 = .ok (.invokespecial 12, 3) := by decide +kernel
theorem dL_law_15 : decode cL_law 15 = .ok (.astore_n 2, 1) := by decide +kernel
theorem dL_law_16 : decode cL_law 16 = .ok (.iconst 0, 1) := by decide +kernel
theorem dL_law_17 : decode cL_law 17 = .ok (.istore_n 3, 1) := by decide +kernel
theorem dL_law_18 : decode cL_law 18 = .ok (.iload_n 3, 1) := by decide +kernel
theorem dL_law_19 : decode cL_law 19 = .ok (.aload_n 0, 1) := by decide +kernel
theorem dL_law_20 : decode cL_law 20 = .ok (.arraylength, 1) := by decide +kernel
theorem dL_law_21 : decode cL_law 21 = .ok (.iconst 4, 1) := by decide +kernel
theorem dL_law_22 : decode cL_law 22 = .ok (.isub, 1) := by decide +kernel
theorem dL_law_23 : decode cL_law 23 = .ok (.if_icmp .gt 673, 3) := by decide +kernel
theorem dL_law_26 : decode cL_law 26 = .ok (.aload_n 0, 1) := by decide +kernel
theorem dL_law_27 : decode cL_law 27 = .ok (.iload_n 3, 1) := by decide +kernel
theorem dL_law_28 : decode cL_law 28 = .ok (.iaload, 1) := by decide +kernel
theorem dL_law_29 : decode cL_law 29 = .ok (.bipush 31, 2) := by decide +kernel
theorem dL_law_31 : decode cL_law 31 = .ok (.iand, 1) := by decide +kernel
theorem dL_law_32 : decode cL_law 32 = .ok (.tableswitch 658 0 22 #[108, 131, 144, 167, 180, 213, 246, 279, 312, 345, 358, 391, 424, 447, 470, 493, 506, 529, 552, 595, 608, 621, 644], 108) := by decide +kernel
theorem dL_law_140 : decode cL_law 140 = .ok (.aload_n 1, 1) := by decide +kernel
theorem dL_law_141 : decode cL_law 141 = .ok (.aload_n 0, 1) := by decide +kernel
theorem dL_law_142 : decode cL_law 142 = .ok (.iload_n 3, 1) := by decide +kernel
theorem dL_law_143 : decode cL_law 143 = .ok (.iconst 1, 1) := by decide +kernel
theorem dL_law_144 : decode cL_law 144 = .ok (.iadd, 1) := by decide +kernel
theorem dL_law_145 : decode cL_law 145 = .ok (.iaload, 1) := by decide +kernel
theorem dL_law_146 : decode cL_law 146 = .ok (.invokevirtual 13, 3) := by decide +kernel
theorem dL_law_149 : decode cL_law 149 = .ok (.aload_n 2, 1) := by decide +kernel
theorem dL_law_150 : decode cL_law 150 = .ok (.aload_n 0, 1) := by decide +kernel
theorem dL_law_151 : decode cL_law 151 = .ok (.iload_n 3, 1) := by decide +kernel
theorem dL_law_152 : decode cL_law 152 = .ok (.iconst 1, 1) := by decide +kernel
theorem dL_law_153 : decode cL_law 153 = .ok (.iadd, 1) := by decide +kernel
theorem dL_law_154 : decode cL_law 154 = .ok (.iaload, 1) := by decide +kernel
theorem dL_law_155 : decode cL_law 155 = .ok (.invokevirtual 17, 3) := by decide +kernel
theorem dL_law_158 : decode cL_law 158 = .ok (.if_icmp .eq 532, 3) := by decide +kernel
theorem dL_law_161 : decode cL_law 161 = .ok (.iconst 0, 1) := by decide +kernel
theorem dL_law_162 : decode cL_law 162 = .ok (.ireturn, 1) := by decide +kernel
theorem dL_law_163 : decode cL_law 163 = .ok (.aload_n 1, 1) := by decide +kernel
theorem dL_law_164 : decode cL_law 164 = .ok (.invokevirtual 18, 3) := by decide +kernel
theorem dL_law_167 : decode cL_law 167 = .ok (.aload_n 2, 1) := by decide +kernel
theorem dL_law_168 : decode cL_law 168 = .ok (.invokevirtual 22, 3) := by decide +kernel
theorem dL_law_171 : decode cL_law 171 = .ok (.if_icmp .eq 519, 3) := by decide +kernel
theorem dL_law_174 : decode cL_law 174 = .ok (.iconst 0, 1) := by decide +kernel
theorem dL_law_175 : decode cL_law 175 = .ok (.ireturn, 1) := by decide +kernel
theorem dL_law_176 : decode cL_law 176 = .ok (.aload_n 1, 1) := by decide +kernel
theorem dL_law_177 : decode cL_law 177 = .ok (.aload_n 0, 1) := by decide +kernel
theorem dL_law_178 : decode cL_law 178 = .ok (.iload_n 3, 1) := by decide +kernel
theorem dL_law_179 : decode cL_law 179 = .ok (.iconst 1, 1) := by decide +kernel
theorem dL_law_180 : decode cL_law 180 = .ok (.iadd, 1) := by decide +kernel
theorem dL_law_181 : decode cL_law 181 = .ok (.iaload, 1) := by decide +kernel
theorem dL_law_182 : decode cL_law 182 = .ok (.invokevirtual 23, 3) := by decide +kernel
theorem dL_law_185 : decode cL_law 185 = .ok (.aload_n 2, 1) := by decide +kernel
theorem dL_law_186 : decode cL_law 186 = .ok (.aload_n 0, 1) := by decide +kernel
theorem dL_law_187 : decode cL_law 187 = .ok (.iload_n 3, 1) := by decide +kernel
theorem dL_law_188 : decode cL_law 188 = .ok (.iconst 1, 1) := by decide +kernel
theorem dL_law_189 : decode cL_law 189 = .ok (.iadd, 1) := by decide +kernel
theorem dL_law_190 : decode cL_law 190 = .ok (.iaload, 1) := by decide +kernel
theorem dL_law_191 : decode cL_law 191 = .ok (.invokevirtual 26, 3) := by decide +kernel
theorem dL_law_194 : decode cL_law 194 = .ok (.if_icmp .eq 496, 3) := by decide +kernel
theorem dL_law_197 : decode cL_law 197 = .ok (.iconst 0, 1) := by decide +kernel
theorem dL_law_198 : decode cL_law 198 = .ok (.ireturn, 1) := by decide +kernel
theorem dL_law_199 : decode cL_law 199 = .ok (.aload_n 1, 1) := by decide +kernel
theorem dL_law_200 : decode cL_law 200 = .ok (.invokevirtual 27, 3) := by decide +kernel
theorem dL_law_203 : decode cL_law 203 = .ok (.aload_n 2, 1) := by decide +kernel
theorem dL_law_204 : decode cL_law 204 = .ok (.invokevirtual 30, 3) := by decide +kernel
theorem dL_law_207 : decode cL_law 207 = .ok (.if_icmp .eq 483, 3) := by decide +kernel
theorem dL_law_210 : decode cL_law 210 = .ok (.iconst 0, 1) := by decide +kernel
theorem dL_law_211 : decode cL_law 211 = .ok (.ireturn, 1) := by decide +kernel
theorem dL_law_212 : decode cL_law 212 = .ok (.aload_n 1, 1) := by decide +kernel
theorem dL_law_213 : decode cL_law 213 = .ok (.aload_n 0, 1) := by decide +kernel
theorem dL_law_214 : decode cL_law 214 = .ok (.iload_n 3, 1) := by decide +kernel
theorem dL_law_215 : decode cL_law 215 = .ok (.iconst 1, 1) := by decide +kernel
theorem dL_law_216 : decode cL_law 216 = .ok (.iadd, 1) := by decide +kernel
theorem dL_law_217 : decode cL_law 217 = .ok (.iaload, 1) := by decide +kernel
theorem dL_law_218 : decode cL_law 218 = .ok (.aload_n 0, 1) := by decide +kernel
theorem dL_law_219 : decode cL_law 219 = .ok (.iload_n 3, 1) := by decide +kernel
theorem dL_law_220 : decode cL_law 220 = .ok (.iconst 2, 1) := by decide +kernel
theorem dL_law_221 : decode cL_law 221 = .ok (.iadd, 1) := by decide +kernel
theorem dL_law_222 : decode cL_law 222 = .ok (.iaload, 1) := by decide +kernel
theorem dL_law_223 : decode cL_law 223 = .ok (.invokevirtual 31, 3) := by decide +kernel
theorem dL_law_226 : decode cL_law 226 = .ok (.aload_n 2, 1) := by decide +kernel
theorem dL_law_227 : decode cL_law 227 = .ok (.aload_n 0, 1) := by decide +kernel
theorem dL_law_228 : decode cL_law 228 = .ok (.iload_n 3, 1) := by decide +kernel
theorem dL_law_229 : decode cL_law 229 = .ok (.iconst 1, 1) := by decide +kernel
theorem dL_law_230 : decode cL_law 230 = .ok (.iadd, 1) := by decide +kernel
theorem dL_law_231 : decode cL_law 231 = .ok (.iaload, 1) := by decide +kernel
theorem dL_law_232 : decode cL_law 232 = .ok (.aload_n 0, 1) := by decide +kernel
theorem dL_law_233 : decode cL_law 233 = .ok (.iload_n 3, 1) := by decide +kernel
theorem dL_law_234 : decode cL_law 234 = .ok (.iconst 2, 1) := by decide +kernel
theorem dL_law_235 : decode cL_law 235 = .ok (.iadd, 1) := by decide +kernel
theorem dL_law_236 : decode cL_law 236 = .ok (.iaload, 1) := by decide +kernel
theorem dL_law_237 : decode cL_law 237 = .ok (.invokevirtual 35, 3) := by decide +kernel
theorem dL_law_240 : decode cL_law 240 = .ok (.if_icmp .eq 450, 3) := by decide +kernel
theorem dL_law_243 : decode cL_law 243 = .ok (.iconst 0, 1) := by decide +kernel
theorem dL_law_244 : decode cL_law 244 = .ok (.ireturn, 1) := by decide +kernel
theorem dL_law_245 : decode cL_law 245 = .ok (.aload_n 1, 1) := by decide +kernel
theorem dL_law_246 : decode cL_law 246 = .ok (.aload_n 0, 1) := by decide +kernel
theorem dL_law_247 : decode cL_law 247 = .ok (.iload_n 3, 1) := by decide +kernel
theorem dL_law_248 : decode cL_law 248 = .ok (.iconst 1, 1) := by decide +kernel
theorem dL_law_249 : decode cL_law 249 = .ok (.iadd, 1) := by decide +kernel
theorem dL_law_250 : decode cL_law 250 = .ok (.iaload, 1) := by decide +kernel
theorem dL_law_251 : decode cL_law 251 = .ok (.aload_n 0, 1) := by decide +kernel
theorem dL_law_252 : decode cL_law 252 = .ok (.iload_n 3, 1) := by decide +kernel
theorem dL_law_253 : decode cL_law 253 = .ok (.iconst 2, 1) := by decide +kernel
theorem dL_law_254 : decode cL_law 254 = .ok (.iadd, 1) := by decide +kernel
theorem dL_law_255 : decode cL_law 255 = .ok (.iaload, 1) := by decide +kernel
theorem dL_law_256 : decode cL_law 256 = .ok (.invokevirtual 36, 3) := by decide +kernel
theorem dL_law_259 : decode cL_law 259 = .ok (.aload_n 2, 1) := by decide +kernel
theorem dL_law_260 : decode cL_law 260 = .ok (.aload_n 0, 1) := by decide +kernel
theorem dL_law_261 : decode cL_law 261 = .ok (.iload_n 3, 1) := by decide +kernel
theorem dL_law_262 : decode cL_law 262 = .ok (.iconst 1, 1) := by decide +kernel
theorem dL_law_263 : decode cL_law 263 = .ok (.iadd, 1) := by decide +kernel
theorem dL_law_264 : decode cL_law 264 = .ok (.iaload, 1) := by decide +kernel
theorem dL_law_265 : decode cL_law 265 = .ok (.aload_n 0, 1) := by decide +kernel
theorem dL_law_266 : decode cL_law 266 = .ok (.iload_n 3, 1) := by decide +kernel
theorem dL_law_267 : decode cL_law 267 = .ok (.iconst 2, 1) := by decide +kernel
theorem dL_law_268 : decode cL_law 268 = .ok (.iadd, 1) := by decide +kernel
theorem dL_law_269 : decode cL_law 269 = .ok (.iaload, 1) := by decide +kernel
theorem dL_law_270 : decode cL_law 270 = .ok (.invokevirtual 39, 3) := by decide +kernel
theorem dL_law_273 : decode cL_law 273 = .ok (.if_icmp .eq 417, 3) := by decide +kernel
theorem dL_law_276 : decode cL_law 276 = .ok (.iconst 0, 1) := by decide +kernel
theorem dL_law_277 : decode cL_law 277 = .ok (.ireturn, 1) := by decide +kernel
theorem dL_law_278 : decode cL_law 278 = .ok (.aload_n 1, 1) := by decide +kernel
theorem dL_law_279 : decode cL_law 279 = .ok (.aload_n 0, 1) := by decide +kernel
theorem dL_law_280 : decode cL_law 280 = .ok (.iload_n 3, 1) := by decide +kernel
theorem dL_law_281 : decode cL_law 281 = .ok (.iconst 1, 1) := by decide +kernel
theorem dL_law_282 : decode cL_law 282 = .ok (.iadd, 1) := by decide +kernel
theorem dL_law_283 : decode cL_law 283 = .ok (.iaload, 1) := by decide +kernel
theorem dL_law_284 : decode cL_law 284 = .ok (.aload_n 0, 1) := by decide +kernel
theorem dL_law_285 : decode cL_law 285 = .ok (.iload_n 3, 1) := by decide +kernel
theorem dL_law_286 : decode cL_law 286 = .ok (.iconst 2, 1) := by decide +kernel
theorem dL_law_287 : decode cL_law 287 = .ok (.iadd, 1) := by decide +kernel
theorem dL_law_288 : decode cL_law 288 = .ok (.iaload, 1) := by decide +kernel
theorem dL_law_289 : decode cL_law 289 = .ok (.invokevirtual 40, 3) := by decide +kernel
theorem dL_law_292 : decode cL_law 292 = .ok (.aload_n 2, 1) := by decide +kernel
theorem dL_law_293 : decode cL_law 293 = .ok (.aload_n 0, 1) := by decide +kernel
theorem dL_law_294 : decode cL_law 294 = .ok (.iload_n 3, 1) := by decide +kernel
theorem dL_law_295 : decode cL_law 295 = .ok (.iconst 1, 1) := by decide +kernel
theorem dL_law_296 : decode cL_law 296 = .ok (.iadd, 1) := by decide +kernel
theorem dL_law_297 : decode cL_law 297 = .ok (.iaload, 1) := by decide +kernel
theorem dL_law_298 : decode cL_law 298 = .ok (.aload_n 0, 1) := by decide +kernel
theorem dL_law_299 : decode cL_law 299 = .ok (.iload_n 3, 1) := by decide +kernel
theorem dL_law_300 : decode cL_law 300 = .ok (.iconst 2, 1) := by decide +kernel
theorem dL_law_301 : decode cL_law 301 = .ok (.iadd, 1) := by decide +kernel
theorem dL_law_302 : decode cL_law 302 = .ok (.iaload, 1) := by decide +kernel
theorem dL_law_303 : decode cL_law 303 = .ok (.invokevirtual 43, 3) := by decide +kernel
theorem dL_law_306 : decode cL_law 306 = .ok (.if_icmp .eq 384, 3) := by decide +kernel
theorem dL_law_309 : decode cL_law 309 = .ok (.iconst 0, 1) := by decide +kernel
theorem dL_law_310 : decode cL_law 310 = .ok (.ireturn, 1) := by decide +kernel
theorem dL_law_311 : decode cL_law 311 = .ok (.aload_n 1, 1) := by decide +kernel
theorem dL_law_312 : decode cL_law 312 = .ok (.aload_n 0, 1) := by decide +kernel
theorem dL_law_313 : decode cL_law 313 = .ok (.iload_n 3, 1) := by decide +kernel
theorem dL_law_314 : decode cL_law 314 = .ok (.iconst 1, 1) := by decide +kernel
theorem dL_law_315 : decode cL_law 315 = .ok (.iadd, 1) := by decide +kernel
theorem dL_law_316 : decode cL_law 316 = .ok (.iaload, 1) := by decide +kernel
theorem dL_law_317 : decode cL_law 317 = .ok (.aload_n 0, 1) := by decide +kernel
theorem dL_law_318 : decode cL_law 318 = .ok (.iload_n 3, 1) := by decide +kernel
theorem dL_law_319 : decode cL_law 319 = .ok (.iconst 2, 1) := by decide +kernel
theorem dL_law_320 : decode cL_law 320 = .ok (.iadd, 1) := by decide +kernel
theorem dL_law_321 : decode cL_law 321 = .ok (.iaload, 1) := by decide +kernel
theorem dL_law_322 : decode cL_law 322 = .ok (.invokevirtual 44, 3) := by decide +kernel
theorem dL_law_325 : decode cL_law 325 = .ok (.aload_n 2, 1) := by decide +kernel
theorem dL_law_326 : decode cL_law 326 = .ok (.aload_n 0, 1) := by decide +kernel
theorem dL_law_327 : decode cL_law 327 = .ok (.iload_n 3, 1) := by decide +kernel
theorem dL_law_328 : decode cL_law 328 = .ok (.iconst 1, 1) := by decide +kernel
theorem dL_law_329 : decode cL_law 329 = .ok (.iadd, 1) := by decide +kernel
theorem dL_law_330 : decode cL_law 330 = .ok (.iaload, 1) := by decide +kernel
theorem dL_law_331 : decode cL_law 331 = .ok (.aload_n 0, 1) := by decide +kernel
theorem dL_law_332 : decode cL_law 332 = .ok (.iload_n 3, 1) := by decide +kernel
theorem dL_law_333 : decode cL_law 333 = .ok (.iconst 2, 1) := by decide +kernel
theorem dL_law_334 : decode cL_law 334 = .ok (.iadd, 1) := by decide +kernel
theorem dL_law_335 : decode cL_law 335 = .ok (.iaload, 1) := by decide +kernel
theorem dL_law_336 : decode cL_law 336 = .ok (.invokevirtual 47, 3) := by decide +kernel
theorem dL_law_339 : decode cL_law 339 = .ok (.if_icmp .eq 351, 3) := by decide +kernel
theorem dL_law_342 : decode cL_law 342 = .ok (.iconst 0, 1) := by decide +kernel
theorem dL_law_343 : decode cL_law 343 = .ok (.ireturn, 1) := by decide +kernel
theorem dL_law_344 : decode cL_law 344 = .ok (.aload_n 1, 1) := by decide +kernel
theorem dL_law_345 : decode cL_law 345 = .ok (.aload_n 0, 1) := by decide +kernel
theorem dL_law_346 : decode cL_law 346 = .ok (.iload_n 3, 1) := by decide +kernel
theorem dL_law_347 : decode cL_law 347 = .ok (.iconst 1, 1) := by decide +kernel
theorem dL_law_348 : decode cL_law 348 = .ok (.iadd, 1) := by decide +kernel
theorem dL_law_349 : decode cL_law 349 = .ok (.iaload, 1) := by decide +kernel
theorem dL_law_350 : decode cL_law 350 = .ok (.aload_n 0, 1) := by decide +kernel
theorem dL_law_351 : decode cL_law 351 = .ok (.iload_n 3, 1) := by decide +kernel
theorem dL_law_352 : decode cL_law 352 = .ok (.iconst 2, 1) := by decide +kernel
theorem dL_law_353 : decode cL_law 353 = .ok (.iadd, 1) := by decide +kernel
theorem dL_law_354 : decode cL_law 354 = .ok (.iaload, 1) := by decide +kernel
theorem dL_law_355 : decode cL_law 355 = .ok (.invokevirtual 48, 3) := by decide +kernel
theorem dL_law_358 : decode cL_law 358 = .ok (.aload_n 2, 1) := by decide +kernel
theorem dL_law_359 : decode cL_law 359 = .ok (.aload_n 0, 1) := by decide +kernel
theorem dL_law_360 : decode cL_law 360 = .ok (.iload_n 3, 1) := by decide +kernel
theorem dL_law_361 : decode cL_law 361 = .ok (.iconst 1, 1) := by decide +kernel
theorem dL_law_362 : decode cL_law 362 = .ok (.iadd, 1) := by decide +kernel
theorem dL_law_363 : decode cL_law 363 = .ok (.iaload, 1) := by decide +kernel
theorem dL_law_364 : decode cL_law 364 = .ok (.aload_n 0, 1) := by decide +kernel
theorem dL_law_365 : decode cL_law 365 = .ok (.iload_n 3, 1) := by decide +kernel
theorem dL_law_366 : decode cL_law 366 = .ok (.iconst 2, 1) := by decide +kernel
theorem dL_law_367 : decode cL_law 367 = .ok (.iadd, 1) := by decide +kernel
theorem dL_law_368 : decode cL_law 368 = .ok (.iaload, 1) := by decide +kernel
theorem dL_law_369 : decode cL_law 369 = .ok (.invokevirtual 51, 3) := by decide +kernel
theorem dL_law_372 : decode cL_law 372 = .ok (.if_icmp .eq 318, 3) := by decide +kernel
theorem dL_law_375 : decode cL_law 375 = .ok (.iconst 0, 1) := by decide +kernel
theorem dL_law_376 : decode cL_law 376 = .ok (.ireturn, 1) := by decide +kernel
theorem dL_law_377 : decode cL_law 377 = .ok (.aload_n 1, 1) := by decide +kernel
theorem dL_law_378 : decode cL_law 378 = .ok (.invokevirtual 52, 3) := by decide +kernel
theorem dL_law_381 : decode cL_law 381 = .ok (.aload_n 2, 1) := by decide +kernel
theorem dL_law_382 : decode cL_law 382 = .ok (.invokevirtual 55, 3) := by decide +kernel
theorem dL_law_385 : decode cL_law 385 = .ok (.if_icmp .eq 305, 3) := by decide +kernel
theorem dL_law_388 : decode cL_law 388 = .ok (.iconst 0, 1) := by decide +kernel
theorem dL_law_389 : decode cL_law 389 = .ok (.ireturn, 1) := by decide +kernel
theorem dL_law_390 : decode cL_law 390 = .ok (.aload_n 1, 1) := by decide +kernel
theorem dL_law_391 : decode cL_law 391 = .ok (.aload_n 0, 1) := by decide +kernel
theorem dL_law_392 : decode cL_law 392 = .ok (.iload_n 3, 1) := by decide +kernel
theorem dL_law_393 : decode cL_law 393 = .ok (.iconst 1, 1) := by decide +kernel
theorem dL_law_394 : decode cL_law 394 = .ok (.iadd, 1) := by decide +kernel
theorem dL_law_395 : decode cL_law 395 = .ok (.iaload, 1) := by decide +kernel
theorem dL_law_396 : decode cL_law 396 = .ok (.aload_n 0, 1) := by decide +kernel
theorem dL_law_397 : decode cL_law 397 = .ok (.iload_n 3, 1) := by decide +kernel
theorem dL_law_398 : decode cL_law 398 = .ok (.iconst 2, 1) := by decide +kernel
theorem dL_law_399 : decode cL_law 399 = .ok (.iadd, 1) := by decide +kernel
theorem dL_law_400 : decode cL_law 400 = .ok (.iaload, 1) := by decide +kernel
theorem dL_law_401 : decode cL_law 401 = .ok (.invokevirtual 56, 3) := by decide +kernel
theorem dL_law_404 : decode cL_law 404 = .ok (.aload_n 2, 1) := by decide +kernel
theorem dL_law_405 : decode cL_law 405 = .ok (.aload_n 0, 1) := by decide +kernel
theorem dL_law_406 : decode cL_law 406 = .ok (.iload_n 3, 1) := by decide +kernel
theorem dL_law_407 : decode cL_law 407 = .ok (.iconst 1, 1) := by decide +kernel
theorem dL_law_408 : decode cL_law 408 = .ok (.iadd, 1) := by decide +kernel
theorem dL_law_409 : decode cL_law 409 = .ok (.iaload, 1) := by decide +kernel
theorem dL_law_410 : decode cL_law 410 = .ok (.aload_n 0, 1) := by decide +kernel
theorem dL_law_411 : decode cL_law 411 = .ok (.iload_n 3, 1) := by decide +kernel
theorem dL_law_412 : decode cL_law 412 = .ok (.iconst 2, 1) := by decide +kernel
theorem dL_law_413 : decode cL_law 413 = .ok (.iadd, 1) := by decide +kernel
theorem dL_law_414 : decode cL_law 414 = .ok (.iaload, 1) := by decide +kernel
theorem dL_law_415 : decode cL_law 415 = .ok (.invokevirtual 59, 3) := by decide +kernel
theorem dL_law_418 : decode cL_law 418 = .ok (.if_icmp .eq 272, 3) := by decide +kernel
theorem dL_law_421 : decode cL_law 421 = .ok (.iconst 0, 1) := by decide +kernel
theorem dL_law_422 : decode cL_law 422 = .ok (.ireturn, 1) := by decide +kernel
theorem dL_law_423 : decode cL_law 423 = .ok (.aload_n 1, 1) := by decide +kernel
theorem dL_law_424 : decode cL_law 424 = .ok (.aload_n 0, 1) := by decide +kernel
theorem dL_law_425 : decode cL_law 425 = .ok (.iload_n 3, 1) := by decide +kernel
theorem dL_law_426 : decode cL_law 426 = .ok (.iconst 1, 1) := by decide +kernel
theorem dL_law_427 : decode cL_law 427 = .ok (.iadd, 1) := by decide +kernel
theorem dL_law_428 : decode cL_law 428 = .ok (.iaload, 1) := by decide +kernel
theorem dL_law_429 : decode cL_law 429 = .ok (.aload_n 0, 1) := by decide +kernel
theorem dL_law_430 : decode cL_law 430 = .ok (.iload_n 3, 1) := by decide +kernel
theorem dL_law_431 : decode cL_law 431 = .ok (.iconst 2, 1) := by decide +kernel
theorem dL_law_432 : decode cL_law 432 = .ok (.iadd, 1) := by decide +kernel
theorem dL_law_433 : decode cL_law 433 = .ok (.iaload, 1) := by decide +kernel
theorem dL_law_434 : decode cL_law 434 = .ok (.invokevirtual 60, 3) := by decide +kernel
theorem dL_law_437 : decode cL_law 437 = .ok (.aload_n 2, 1) := by decide +kernel
theorem dL_law_438 : decode cL_law 438 = .ok (.aload_n 0, 1) := by decide +kernel
theorem dL_law_439 : decode cL_law 439 = .ok (.iload_n 3, 1) := by decide +kernel
theorem dL_law_440 : decode cL_law 440 = .ok (.iconst 1, 1) := by decide +kernel
theorem dL_law_441 : decode cL_law 441 = .ok (.iadd, 1) := by decide +kernel
theorem dL_law_442 : decode cL_law 442 = .ok (.iaload, 1) := by decide +kernel
theorem dL_law_443 : decode cL_law 443 = .ok (.aload_n 0, 1) := by decide +kernel
theorem dL_law_444 : decode cL_law 444 = .ok (.iload_n 3, 1) := by decide +kernel
theorem dL_law_445 : decode cL_law 445 = .ok (.iconst 2, 1) := by decide +kernel
theorem dL_law_446 : decode cL_law 446 = .ok (.iadd, 1) := by decide +kernel
theorem dL_law_447 : decode cL_law 447 = .ok (.iaload, 1) := by decide +kernel
theorem dL_law_448 : decode cL_law 448 = .ok (.invokevirtual 63, 3) := by decide +kernel
theorem dL_law_451 : decode cL_law 451 = .ok (.if_icmp .eq 239, 3) := by decide +kernel
theorem dL_law_454 : decode cL_law 454 = .ok (.iconst 0, 1) := by decide +kernel
theorem dL_law_455 : decode cL_law 455 = .ok (.ireturn, 1) := by decide +kernel
theorem dL_law_456 : decode cL_law 456 = .ok (.aload_n 1, 1) := by decide +kernel
theorem dL_law_457 : decode cL_law 457 = .ok (.aload_n 0, 1) := by decide +kernel
theorem dL_law_458 : decode cL_law 458 = .ok (.iload_n 3, 1) := by decide +kernel
theorem dL_law_459 : decode cL_law 459 = .ok (.iconst 1, 1) := by decide +kernel
theorem dL_law_460 : decode cL_law 460 = .ok (.iadd, 1) := by decide +kernel
theorem dL_law_461 : decode cL_law 461 = .ok (.iaload, 1) := by decide +kernel
theorem dL_law_462 : decode cL_law 462 = .ok (.invokevirtual 64, 3) := by decide +kernel
theorem dL_law_465 : decode cL_law 465 = .ok (.aload_n 2, 1) := by decide +kernel
theorem dL_law_466 : decode cL_law 466 = .ok (.aload_n 0, 1) := by decide +kernel
theorem dL_law_467 : decode cL_law 467 = .ok (.iload_n 3, 1) := by decide +kernel
theorem dL_law_468 : decode cL_law 468 = .ok (.iconst 1, 1) := by decide +kernel
theorem dL_law_469 : decode cL_law 469 = .ok (.iadd, 1) := by decide +kernel
theorem dL_law_470 : decode cL_law 470 = .ok (.iaload, 1) := by decide +kernel
theorem dL_law_471 : decode cL_law 471 = .ok (.invokevirtual 67, 3) := by decide +kernel
theorem dL_law_474 : decode cL_law 474 = .ok (.if_icmp .eq 216, 3) := by decide +kernel
theorem dL_law_477 : decode cL_law 477 = .ok (.iconst 0, 1) := by decide +kernel
theorem dL_law_478 : decode cL_law 478 = .ok (.ireturn, 1) := by decide +kernel
theorem dL_law_479 : decode cL_law 479 = .ok (.aload_n 1, 1) := by decide +kernel
theorem dL_law_480 : decode cL_law 480 = .ok (.aload_n 0, 1) := by decide +kernel
theorem dL_law_481 : decode cL_law 481 = .ok (.iload_n 3, 1) := by decide +kernel
theorem dL_law_482 : decode cL_law 482 = .ok (.iconst 1, 1) := by decide +kernel
theorem dL_law_483 : decode cL_law 483 = .ok (.iadd, 1) := by decide +kernel
theorem dL_law_484 : decode cL_law 484 = .ok (.iaload, 1) := by decide +kernel
theorem dL_law_485 : decode cL_law 485 = .ok (.invokevirtual 68, 3) := by decide +kernel
theorem dL_law_488 : decode cL_law 488 = .ok (.aload_n 2, 1) := by decide +kernel
theorem dL_law_489 : decode cL_law 489 = .ok (.aload_n 0, 1) := by decide +kernel
theorem dL_law_490 : decode cL_law 490 = .ok (.iload_n 3, 1) := by decide +kernel
theorem dL_law_491 : decode cL_law 491 = .ok (.iconst 1, 1) := by decide +kernel
theorem dL_law_492 : decode cL_law 492 = .ok (.iadd, 1) := by decide +kernel
theorem dL_law_493 : decode cL_law 493 = .ok (.iaload, 1) := by decide +kernel
theorem dL_law_494 : decode cL_law 494 = .ok (.invokevirtual 71, 3) := by decide +kernel
theorem dL_law_497 : decode cL_law 497 = .ok (.if_icmp .eq 193, 3) := by decide +kernel
theorem dL_law_500 : decode cL_law 500 = .ok (.iconst 0, 1) := by decide +kernel
theorem dL_law_501 : decode cL_law 501 = .ok (.ireturn, 1) := by decide +kernel
theorem dL_law_502 : decode cL_law 502 = .ok (.aload_n 1, 1) := by decide +kernel
theorem dL_law_503 : decode cL_law 503 = .ok (.aload_n 0, 1) := by decide +kernel
theorem dL_law_504 : decode cL_law 504 = .ok (.iload_n 3, 1) := by decide +kernel
theorem dL_law_505 : decode cL_law 505 = .ok (.iconst 1, 1) := by decide +kernel
theorem dL_law_506 : decode cL_law 506 = .ok (.iadd, 1) := by decide +kernel
theorem dL_law_507 : decode cL_law 507 = .ok (.iaload, 1) := by decide +kernel
theorem dL_law_508 : decode cL_law 508 = .ok (.invokevirtual 72, 3) := by decide +kernel
theorem dL_law_511 : decode cL_law 511 = .ok (.aload_n 2, 1) := by decide +kernel
theorem dL_law_512 : decode cL_law 512 = .ok (.aload_n 0, 1) := by decide +kernel
theorem dL_law_513 : decode cL_law 513 = .ok (.iload_n 3, 1) := by decide +kernel
theorem dL_law_514 : decode cL_law 514 = .ok (.iconst 1, 1) := by decide +kernel
theorem dL_law_515 : decode cL_law 515 = .ok (.iadd, 1) := by decide +kernel
theorem dL_law_516 : decode cL_law 516 = .ok (.iaload, 1) := by decide +kernel
theorem dL_law_517 : decode cL_law 517 = .ok (.invokevirtual 75, 3) := by decide +kernel
theorem dL_law_520 : decode cL_law 520 = .ok (.if_icmp .eq 170, 3) := by decide +kernel
theorem dL_law_523 : decode cL_law 523 = .ok (.iconst 0, 1) := by decide +kernel
theorem dL_law_524 : decode cL_law 524 = .ok (.ireturn, 1) := by decide +kernel
theorem dL_law_525 : decode cL_law 525 = .ok (.aload_n 1, 1) := by decide +kernel
theorem dL_law_526 : decode cL_law 526 = .ok (.invokevirtual 76, 3) := by decide +kernel
theorem dL_law_529 : decode cL_law 529 = .ok (.aload_n 2, 1) := by decide +kernel
theorem dL_law_530 : decode cL_law 530 = .ok (.invokevirtual 79, 3) := by decide +kernel
theorem dL_law_533 : decode cL_law 533 = .ok (.if_icmp .eq 157, 3) := by decide +kernel
theorem dL_law_536 : decode cL_law 536 = .ok (.iconst 0, 1) := by decide +kernel
theorem dL_law_537 : decode cL_law 537 = .ok (.ireturn, 1) := by decide +kernel
theorem dL_law_538 : decode cL_law 538 = .ok (.aload_n 1, 1) := by decide +kernel
theorem dL_law_539 : decode cL_law 539 = .ok (.aload_n 0, 1) := by decide +kernel
theorem dL_law_540 : decode cL_law 540 = .ok (.iload_n 3, 1) := by decide +kernel
theorem dL_law_541 : decode cL_law 541 = .ok (.iconst 1, 1) := by decide +kernel
theorem dL_law_542 : decode cL_law 542 = .ok (.iadd, 1) := by decide +kernel
theorem dL_law_543 : decode cL_law 543 = .ok (.iaload, 1) := by decide +kernel
theorem dL_law_544 : decode cL_law 544 = .ok (.invokevirtual 80, 3) := by decide +kernel
theorem dL_law_547 : decode cL_law 547 = .ok (.aload_n 2, 1) := by decide +kernel
theorem dL_law_548 : decode cL_law 548 = .ok (.aload_n 0, 1) := by decide +kernel
theorem dL_law_549 : decode cL_law 549 = .ok (.iload_n 3, 1) := by decide +kernel
theorem dL_law_550 : decode cL_law 550 = .ok (.iconst 1, 1) := by decide +kernel
theorem dL_law_551 : decode cL_law 551 = .ok (.iadd, 1) := by decide +kernel
theorem dL_law_552 : decode cL_law 552 = .ok (.iaload, 1) := by decide +kernel
theorem dL_law_553 : decode cL_law 553 = .ok (.invokevirtual 83, 3) := by decide +kernel
theorem dL_law_556 : decode cL_law 556 = .ok (.if_icmp .eq 134, 3) := by decide +kernel
theorem dL_law_559 : decode cL_law 559 = .ok (.iconst 0, 1) := by decide +kernel
theorem dL_law_560 : decode cL_law 560 = .ok (.ireturn, 1) := by decide +kernel
theorem dL_law_561 : decode cL_law 561 = .ok (.aload_n 1, 1) := by decide +kernel
theorem dL_law_562 : decode cL_law 562 = .ok (.aload_n 0, 1) := by decide +kernel
theorem dL_law_563 : decode cL_law 563 = .ok (.iload_n 3, 1) := by decide +kernel
theorem dL_law_564 : decode cL_law 564 = .ok (.iconst 1, 1) := by decide +kernel
theorem dL_law_565 : decode cL_law 565 = .ok (.iadd, 1) := by decide +kernel
theorem dL_law_566 : decode cL_law 566 = .ok (.iaload, 1) := by decide +kernel
theorem dL_law_567 : decode cL_law 567 = .ok (.invokevirtual 84, 3) := by decide +kernel
theorem dL_law_570 : decode cL_law 570 = .ok (.aload_n 2, 1) := by decide +kernel
theorem dL_law_571 : decode cL_law 571 = .ok (.aload_n 0, 1) := by decide +kernel
theorem dL_law_572 : decode cL_law 572 = .ok (.iload_n 3, 1) := by decide +kernel
theorem dL_law_573 : decode cL_law 573 = .ok (.iconst 1, 1) := by decide +kernel
theorem dL_law_574 : decode cL_law 574 = .ok (.iadd, 1) := by decide +kernel
theorem dL_law_575 : decode cL_law 575 = .ok (.iaload, 1) := by decide +kernel
theorem dL_law_576 : decode cL_law 576 = .ok (.invokevirtual 87, 3) := by decide +kernel
theorem dL_law_579 : decode cL_law 579 = .ok (.if_icmp .eq 111, 3) := by decide +kernel
theorem dL_law_582 : decode cL_law 582 = .ok (.iconst 0, 1) := by decide +kernel
theorem dL_law_583 : decode cL_law 583 = .ok (.ireturn, 1) := by decide +kernel
theorem dL_law_584 : decode cL_law 584 = .ok (.aload_n 1, 1) := by decide +kernel
theorem dL_law_585 : decode cL_law 585 = .ok (.aload_n 0, 1) := by decide +kernel
theorem dL_law_586 : decode cL_law 586 = .ok (.iload_n 3, 1) := by decide +kernel
theorem dL_law_587 : decode cL_law 587 = .ok (.iconst 1, 1) := by decide +kernel
theorem dL_law_588 : decode cL_law 588 = .ok (.iadd, 1) := by decide +kernel
theorem dL_law_589 : decode cL_law 589 = .ok (.iaload, 1) := by decide +kernel
theorem dL_law_590 : decode cL_law 590 = .ok (.aload_n 0, 1) := by decide +kernel
theorem dL_law_591 : decode cL_law 591 = .ok (.iload_n 3, 1) := by decide +kernel
theorem dL_law_592 : decode cL_law 592 = .ok (.iconst 2, 1) := by decide +kernel
theorem dL_law_593 : decode cL_law 593 = .ok (.iadd, 1) := by decide +kernel
theorem dL_law_594 : decode cL_law 594 = .ok (.iaload, 1) := by decide +kernel
theorem dL_law_595 : decode cL_law 595 = .ok (.aload_n 0, 1) := by decide +kernel
theorem dL_law_596 : decode cL_law 596 = .ok (.iload_n 3, 1) := by decide +kernel
theorem dL_law_597 : decode cL_law 597 = .ok (.iconst 3, 1) := by decide +kernel
theorem dL_law_598 : decode cL_law 598 = .ok (.iadd, 1) := by decide +kernel
theorem dL_law_599 : decode cL_law 599 = .ok (.iaload, 1) := by decide +kernel
theorem dL_law_600 : decode cL_law 600 = .ok (.invokevirtual 88, 3) := by decide +kernel
theorem dL_law_603 : decode cL_law 603 = .ok (.aload_n 2, 1) := by decide +kernel
theorem dL_law_604 : decode cL_law 604 = .ok (.aload_n 0, 1) := by decide +kernel
theorem dL_law_605 : decode cL_law 605 = .ok (.iload_n 3, 1) := by decide +kernel
theorem dL_law_606 : decode cL_law 606 = .ok (.iconst 1, 1) := by decide +kernel
theorem dL_law_607 : decode cL_law 607 = .ok (.iadd, 1) := by decide +kernel
theorem dL_law_608 : decode cL_law 608 = .ok (.iaload, 1) := by decide +kernel
theorem dL_law_609 : decode cL_law 609 = .ok (.aload_n 0, 1) := by decide +kernel
theorem dL_law_610 : decode cL_law 610 = .ok (.iload_n 3, 1) := by decide +kernel
theorem dL_law_611 : decode cL_law 611 = .ok (.iconst 2, 1) := by decide +kernel
theorem dL_law_612 : decode cL_law 612 = .ok (.iadd, 1) := by decide +kernel
theorem dL_law_613 : decode cL_law 613 = .ok (.iaload, 1) := by decide +kernel
theorem dL_law_614 : decode cL_law 614 = .ok (.aload_n 0, 1) := by decide +kernel
theorem dL_law_615 : decode cL_law 615 = .ok (.iload_n 3, 1) := by decide +kernel
theorem dL_law_616 : decode cL_law 616 = .ok (.iconst 3, 1) := by decide +kernel
theorem dL_law_617 : decode cL_law 617 = .ok (.iadd, 1) := by decide +kernel
theorem dL_law_618 : decode cL_law 618 = .ok (.iaload, 1) := by decide +kernel
theorem dL_law_619 : decode cL_law 619 = .ok (.invokevirtual 92, 3) := by decide +kernel
theorem dL_law_622 : decode cL_law 622 = .ok (.if_icmp .eq 68, 3) := by decide +kernel
theorem dL_law_625 : decode cL_law 625 = .ok (.iconst 0, 1) := by decide +kernel
theorem dL_law_626 : decode cL_law 626 = .ok (.ireturn, 1) := by decide +kernel
theorem dL_law_627 : decode cL_law 627 = .ok (.aload_n 1, 1) := by decide +kernel
theorem dL_law_628 : decode cL_law 628 = .ok (.invokevirtual 93, 3) := by decide +kernel
theorem dL_law_631 : decode cL_law 631 = .ok (.aload_n 2, 1) := by decide +kernel
theorem dL_law_632 : decode cL_law 632 = .ok (.invokevirtual 96, 3) := by decide +kernel
theorem dL_law_635 : decode cL_law 635 = .ok (.if_icmp .eq 55, 3) := by decide +kernel
theorem dL_law_638 : decode cL_law 638 = .ok (.iconst 0, 1) := by decide +kernel
theorem dL_law_639 : decode cL_law 639 = .ok (.ireturn, 1) := by decide +kernel
theorem dL_law_640 : decode cL_law 640 = .ok (.aload_n 1, 1) := by decide +kernel
theorem dL_law_641 : decode cL_law 641 = .ok (.invokevirtual 97, 3) := by decide +kernel
theorem dL_law_644 : decode cL_law 644 = .ok (.aload_n 2, 1) := by decide +kernel
theorem dL_law_645 : decode cL_law 645 = .ok (.invokevirtual 100, 3) := by decide +kernel
theorem dL_law_648 : decode cL_law 648 = .ok (.if_icmp .eq 42, 3) := by decide +kernel
theorem dL_law_651 : decode cL_law 651 = .ok (.iconst 0, 1) := by decide +kernel
theorem dL_law_652 : decode cL_law 652 = .ok (.ireturn, 1) := by decide +kernel
theorem dL_law_653 : decode cL_law 653 = .ok (.aload_n 1, 1) := by decide +kernel
theorem dL_law_654 : decode cL_law 654 = .ok (.aload_n 0, 1) := by decide +kernel
theorem dL_law_655 : decode cL_law 655 = .ok (.iload_n 3, 1) := by decide +kernel
theorem dL_law_656 : decode cL_law 656 = .ok (.iconst 1, 1) := by decide +kernel
theorem dL_law_657 : decode cL_law 657 = .ok (.iadd, 1) := by decide +kernel
theorem dL_law_658 : decode cL_law 658 = .ok (.iaload, 1) := by decide +kernel
theorem dL_law_659 : decode cL_law 659 = .ok (.invokevirtual 101, 3) := by decide +kernel
theorem dL_law_662 : decode cL_law 662 = .ok (.aload_n 2, 1) := by decide +kernel
theorem dL_law_663 : decode cL_law 663 = .ok (.aload_n 0, 1) := by decide +kernel
theorem dL_law_664 : decode cL_law 664 = .ok (.iload_n 3, 1) := by decide +kernel
theorem dL_law_665 : decode cL_law 665 = .ok (.iconst 1, 1) := by decide +kernel
theorem dL_law_666 : decode cL_law 666 = .ok (.iadd, 1) := by decide +kernel
theorem dL_law_667 : decode cL_law 667 = .ok (.iaload, 1) := by decide +kernel
theorem dL_law_668 : decode cL_law 668 = .ok (.invokevirtual 104, 3) := by decide +kernel
theorem dL_law_671 : decode cL_law 671 = .ok (.if_icmp .eq 19, 3) := by decide +kernel
theorem dL_law_674 : decode cL_law 674 = .ok (.iconst 0, 1) := by decide +kernel
theorem dL_law_675 : decode cL_law 675 = .ok (.ireturn, 1) := by decide +kernel
theorem dL_law_676 : decode cL_law 676 = .ok (.aload_n 1, 1) := by decide +kernel
theorem dL_law_677 : decode cL_law 677 = .ok (.invokevirtual 105, 3) := by decide +kernel
theorem dL_law_680 : decode cL_law 680 = .ok (.aload_n 2, 1) := by decide +kernel
theorem dL_law_681 : decode cL_law 681 = .ok (.invokevirtual 109, 3) := by decide +kernel
theorem dL_law_684 : decode cL_law 684 = .ok (.lcmp, 1) := by decide +kernel
theorem dL_law_685 : decode cL_law 685 = .ok (.ifCond .eq 5, 3) := by decide +kernel
theorem dL_law_688 : decode cL_law 688 = .ok (.iconst 0, 1) := by decide +kernel
theorem dL_law_689 : decode cL_law 689 = .ok (.ireturn, 1) := by decide +kernel
theorem dL_law_690 : decode cL_law 690 = .ok (.iinc 3 4, 3) := by decide +kernel
theorem dL_law_693 : decode cL_law 693 = .ok (.goto (-675), 3) := by decide +kernel
theorem dL_law_696 : decode cL_law 696 = .ok (.iconst 1, 1) := by decide +kernel
theorem dL_law_697 : decode cL_law 697 = .ok (.ireturn, 1) := by decide +kernel
end
section
/-! THE JUDGEMENT J: a method's code from a pc on, in a world of cells, comes to a return with Q. All that is of the machine is inside. -/
def tb : List Cond := lw_tbl.filter goodWord
theorem tb_in {w : Cond} (i : Nat) (h : lw_tbl[i]? = some w) (g : goodWord w = true) : w ∈ tb := List.mem_filter.mpr ⟨List.mem_of_getElem? h, g⟩
theorem tb_good : GoodIn tb tb := fun w h => ⟨h, good_of_word (List.mem_filter.mp h).2⟩
abbrev Mt : Type := MethodName × ByteArray × Nat × Option FieldType × Room
abbrev GG : Type := va_G × (ClassId × ClassId) × (Nat → Nat) × (Nat → Nat)
abbrev classes : List vw_C := [(RX0, TX0, 3), (RX1, TX1, 2), (RX2, TX2, 2), (RX3, TX3, 3), (RX4, TX4, 8), (RX5, TX5, 3), (RX6, TX6, 12), (RX7, TX7, 30)]
def gty (G : GG) : List (ClassId × FieldType) := [(G.2.1.1, .int), (G.2.1.2, .array .int)]
def xt (G : GG) (A : Nat → Prop) (U : State) (H : Heap) : Prop :=
  va_Z "java/lang/String" "COMPACT_STRINGS" "Z" (.int 1) A U H ∧ vk_S 1 [5] [[103, 98, 115, 116, 100]] G.2.2.1 G.2.2.2 A U H ∧ vk_R RX2 30 "gbstd" (G.2.2.1 0) U ∧ va_Nw (.methodLinkNest RX2 44 yX6_isLetter RX6) U
theorem xt.warm {G : GG} {A : Nat → Prop} {s U : State} {H : Heap} (hW : s.WarmedH U.vm) (h : xt G A s H) : xt G A U H :=
  ⟨va_Z.moved hW.alike h.1, vk_S.moved hW.alike h.2.1, vk_R.warm hW h.2.2.1, va_Nw.warmM hW h.2.2.2⟩
theorem xt.call {G : GG} {A : Nat → Prop} {U : State} {H : Heap} (g : JFrame) (mk : MethodId) (a : Array Value) (h : xt G A U H) : xt G A (U.calling g mk a) H :=
  ⟨va_Z.moved (u := U) (U := U.calling g mk a) (Vm.Alike.refl U.vm) h.1, vk_S.moved (u := U) (U := U.calling g mk a) (Vm.Alike.refl U.vm) h.2.1, vk_R.same (u := U) (U := U.calling g mk a) rfl h.2.2.1, va_Nw.same (u := U) (U := U.calling g mk a) rfl rfl h.2.2.2⟩
theorem xt.kept {G : GG} {A : Nat → Prop} {U : State} {H H1 : Heap} (h : xt G A U H) (hq : ∀ a : Nat, a < H.size → ¬ A a → H1[a]? = H[a]?) : xt G A U H1 :=
  ⟨h.1.kept hq, h.2.1.kept hq, h.2.2.1, h.2.2.2⟩
theorem xt.narrow {G : GG} {A B : Nat → Prop} {U : State} {H : Heap} (h : xt G A U H) (hAB : ∀ q, B q → A q) : xt G B U H :=
  ⟨h.1.narrow hAB, h.2.1.narrow hAB, h.2.2.1, h.2.2.2⟩
def Cx (G : GG) (M : Mt) (p : Program) (s : State) (m : MethodId) (args : Array Value) (meth : Method) (c : Code) (A : Nat → Prop) : Prop :=
  p.tables.exec = Jvm.exec ∧ c.code = M.2.1 ∧ c.maxLocals = M.2.2.1 ∧ meth.sig.returnType = M.2.2.2.1 ∧ s.vm.findClass M.1.cls = some m.cls ∧ (∀ w ∈ tb, w.before args s = true) ∧ meth.locks = false ∧ (∀ q, s.heap.size ≤ q → A q) ∧ va_K G.1 classes (gty G) s ∧ xt G A s s.heap
def Wo (G : GG) (A : Nat → Prop) (s : State) (w : va_W) (H : Heap) (locs : List Loc) : Prop := va_P G.1 classes w H ∧ va_D A w ∧ va_S A s.heap H locs
def QJ (G : GG) (L : List Nat) (Q : Option Value → va_W → Prop) (A : Nat → Prop) : Array Value → State → Outcome → State → Prop := fun _ st oc t => (∃ (v : Option Value) (w' : va_W), oc = .returned v ∧ Q v w' ∧ w'.map Prod.fst = L ∧ va_P G.1 classes w' t.heap) ∧ va_F A st t
def J (G : GG) (M : Mt) (pc : Nat) (lo : List (Nat × Value)) (st : List Value) (w : va_W) (Q : Option Value → va_W → Prop) : Prop :=
  ∀ (p : Program) (l : Launch) (e : Env) (s : State) (m : MethodId) (args : Array Value) (below : List Frame) (meth : Method) (c : Code) (A : Nat → Prop), Cx G M p s m args meth c A → ∀ (H : Heap) (locs : List Loc) (ls : Array Slot), lv_has ls M.2.2.1 lo → Wo G A s w H locs → W p l e M.2.2.2.2 s m args below meth c H locs 0 0 (MQ below (QJ G (w.map Prod.fst) Q A) args s 0 0 A) (F0 m pc ls st)
theorem va_D.same {A : Nat → Prop} {w w' : va_W} (h : w'.map Prod.fst = w.map Prod.fst) (hD : va_D A w) : va_D A w' := by
  have key : ∀ (k : Nat) (q : Nat × va_E), w'[k]? = some q → ∃ q0, w[k]? = some q0 ∧ q0.1 = q.1 := by
    intro k q hk
    have h1 : (w'.map Prod.fst)[k]? = some q.1 := by rw [List.getElem?_map, hk]; rfl
    rw [h, List.getElem?_map] at h1
    cases hw : w[k]? with
    | none => rw [hw] at h1; cases h1
    | some q0 => rw [hw] at h1; exact ⟨q0, rfl, Option.some.inj h1⟩
  refine ⟨fun i j x y hi hj hxy => ?_, fun k q hk => ?_⟩
  · obtain ⟨x0, h1, h2⟩ := key i x hi
    obtain ⟨y0, h3, h4⟩ := key j y hj
    exact hD.1 i j x0 y0 h1 h3 (h2.trans (hxy.trans h4.symm))
  · obtain ⟨q0, h1, h2⟩ := key k q hk
    rw [← h2]
    exact hD.2 k q0 h1
theorem fst_set {w : va_W} {q a : Nat} {e0 e : va_E} (h : w[q]? = some (a, e0)) : (w.set q (a, e)).map Prod.fst = w.map Prod.fst := by
  apply List.ext_getElem?
  intro i
  rw [List.getElem?_map, List.getElem?_map]
  by_cases hi : q = i
  · subst hi
    have hl := (List.getElem?_eq_some_iff.mp h).1
    rw [List.getElem?_set_self hl, h]
    rfl
  · rw [List.getElem?_set_ne hi]
/-- a caller's world with a callee's cells in it: at place k the callee's cell j, where ps has (some j) there -/
def mrg : va_W → va_W → List (Option Nat) → va_W
  | x :: w, w1, some j :: ps => w1.getD j x :: mrg w w1 ps
  | x :: w, w1, none :: ps => x :: mrg w w1 ps
  | w, _, _ => w
theorem mrg_at : ∀ (w w1 : va_W) (ps : List (Option Nat)) (k : Nat), (mrg w w1 ps)[k]? = match ps[k]? with | some (some j) => (w[k]?).map (fun x => w1.getD j x) | _ => w[k]?
  | [], w1, ps, k => by
    have e : mrg [] w1 ps = [] := by cases ps <;> rfl
    rw [e]
    cases h : ps[k]? with
    | none => rfl
    | some o => cases o <;> rfl
  | x :: w, w1, [], k => by rfl
  | x :: w, w1, none :: ps, 0 => by rfl
  | x :: w, w1, some j :: ps, 0 => by rfl
  | x :: w, w1, none :: ps, k + 1 => by
    show (mrg w w1 ps)[k]? = _
    rw [mrg_at w w1 ps k]
    rfl
  | x :: w, w1, some j :: ps, k + 1 => by
    show (mrg w w1 ps)[k]? = _
    rw [mrg_at w w1 ps k]
    rfl
/-- ps lays wc into w -/
def Lay (w wc : va_W) (ps : List (Option Nat)) : Prop := mrg w wc ps = w ∧ ps.length ≤ w.length ∧ (List.range wc.length).all (fun j => ps.contains (some j)) = true ∧ ps.all (fun o => match o with | some j => decide (j < wc.length) | none => true) = true
theorem Lay.get {w wc : va_W} {ps : List (Option Nat)} (h : Lay w wc ps) {j : Nat} {x : Nat × va_E} (hx : wc[j]? = some x) : ∃ k : Nat, ps[k]? = some (some j) ∧ w[k]? = some x := by
  obtain ⟨h1, h2, h3, -⟩ := h
  have hj := (List.getElem?_eq_some_iff.mp hx).1
  have h4 := List.all_eq_true.mp h3 j (List.mem_range.mpr hj)
  have h5 : (some j) ∈ ps := by simpa using h4
  obtain ⟨k, hk⟩ := List.getElem?_of_mem h5
  have hkl := (List.getElem?_eq_some_iff.mp hk).1
  refine ⟨k, hk, ?_⟩
  have h6 := mrg_at w wc ps k
  rw [h1, hk] at h6
  have hw : k < w.length := by omega
  rw [List.getElem?_eq_getElem hw] at h6 ⊢
  have h7 := Option.some.inj h6
  dsimp only at h7
  rw [List.getD_eq_getElem?_getD, hx] at h7
  rw [h7]
  rfl
theorem Lay.P {D : va_G} {cl : List vw_C} {w wc : va_W} {ps : List (Option Nat)} {H : Heap} (h : Lay w wc ps) (hP : va_P D cl w H) : va_P D cl wc H := fun j x hx => by
  obtain ⟨k, -, h2⟩ := h.get hx
  exact hP k x h2
theorem Lay.D {A : Nat → Prop} {w wc : va_W} {ps : List (Option Nat)} (h : Lay w wc ps) (hD : va_D A w) : va_D A wc := by
  refine ⟨fun i j x y hi hj hxy => ?_, fun j x hx => ?_⟩
  · obtain ⟨a, h1, h2⟩ := h.get hi
    obtain ⟨b, h3, h4⟩ := h.get hj
    have hab := hD.1 a b x y h2 h4 hxy
    subst hab
    rw [h1] at h3
    exact Option.some.inj (Option.some.inj h3)
  · obtain ⟨k, -, h2⟩ := h.get hx
    exact hD.2 k x h2
theorem Lay.free {A0 : Nat → Prop} {w wc : va_W} {ps : List (Option Nat)} {H0 H : Heap} {locs : List Loc} (h : Lay w wc ps) (hD : va_D A0 w) (hS : va_S A0 H0 H locs) (hA : ∀ q, H0.size ≤ q → A0 q) : ∀ q, va_A wc H.size q → A0 q := by
  intro q hq
  rcases hq with ⟨k, e, hk⟩ | hq
  · exact (h.D hD).2 k (q, e) hk
  · exact hA q (Nat.le_trans hS.1 hq)
/-- behind a call: the caller's world, with the callee's cells put anew -/
theorem Lay.join {A0 : Nat → Prop} {D : va_G} {cl : List vw_C} {w wc w1 : va_W} {ps : List (Option Nat)} {H H1 : Heap} (h : Lay w wc ps) (hP : va_P D cl w H) (hD : va_D A0 w)
    (hk : ∀ q : Nat, q < H.size → ¬ va_A wc H.size q → H1[q]? = H[q]?) (hP1 : va_P D cl w1 H1) (h1 : w1.map Prod.fst = wc.map Prod.fst) : va_P D cl (mrg w w1 ps) H1 ∧ (mrg w w1 ps).map Prod.fst = w.map Prod.fst := by
  have hlen : w1.length = wc.length := by
    have := congrArg List.length h1
    simpa using this
  have hin : ∀ k j : Nat, ps[k]? = some (some j) → j < wc.length := fun k j hkj => by
    have := List.all_eq_true.mp h.2.2.2 _ (List.mem_of_getElem? hkj)
    simpa using this
  refine ⟨fun k q hq => ?_, ?_⟩
  · rw [mrg_at] at hq
    cases hp : ps[k]? with
    | none =>
      rw [hp] at hq
      refine (hP k q hq).kept (hk q.1 (hP k q hq).lt (fun ha => ?_))
      rcases ha with ⟨j, e, hj⟩ | hs
      · obtain ⟨k2, h3, h4⟩ := h.get hj
        have := hD.1 k k2 q (q.1, e) hq h4 rfl
        subst this
        rw [hp] at h3
        cases h3
      · exact absurd (hP k q hq).lt (by omega)
    | some o =>
      cases o with
      | none =>
        rw [hp] at hq
        refine (hP k q hq).kept (hk q.1 (hP k q hq).lt (fun ha => ?_))
        rcases ha with ⟨j, e, hj⟩ | hs
        · obtain ⟨k2, h3, h4⟩ := h.get hj
          have := hD.1 k k2 q (q.1, e) hq h4 rfl
          subst this
          rw [hp] at h3
          cases h3
        · exact absurd (hP k q hq).lt (by omega)
      | some j =>
        rw [hp] at hq
        have hj : j < w1.length := by rw [hlen]; exact hin k j hp
        cases hw : w[k]? with
        | none => rw [hw] at hq; cases hq
        | some x =>
          rw [hw] at hq
          have e := Option.some.inj hq
          dsimp only at e
          rw [List.getD_eq_getElem?_getD, List.getElem?_eq_getElem hj] at e
          have e2 : w1[j]? = some q := by rw [List.getElem?_eq_getElem hj]; exact congrArg some e
          exact hP1 j q e2
  · apply List.ext_getElem?
    intro k
    rw [List.getElem?_map, List.getElem?_map, mrg_at]
    cases hp : ps[k]? with
    | none => rfl
    | some o =>
      cases o with
      | none => rfl
      | some j =>
        cases hw : w[k]? with
        | none => rfl
        | some x =>
          have hj : j < wc.length := hin k j hp
          obtain ⟨y, hy⟩ : ∃ y, wc[j]? = some y := ⟨_, List.getElem?_eq_getElem hj⟩
          have h6 := mrg_at w wc ps k
          rw [h.1, hp, hw] at h6
          have h7 := Option.some.inj h6
          dsimp only at h7
          rw [List.getD_eq_getElem?_getD, hy] at h7
          have h8 : (w1.map Prod.fst)[j]? = (wc.map Prod.fst)[j]? := by rw [h1]
          rw [List.getElem?_map, List.getElem?_map, hy] at h8
          cases hz : w1[j]? with
          | none => rw [hz] at h8; cases h8
          | some z =>
            rw [hz] at h8
            have h9 : z.1 = y.1 := Option.some.inj h8
            show some ((w1.getD j x).1) = some x.1
            rw [List.getD_eq_getElem?_getD, hz]
            show some z.1 = some x.1
            rw [h9, h7]
            rfl
/-- a method's contract out of J -/
theorem met_J {l : Launch} {G : GG} {M : Mt} {av : List Value} {wc : va_W} {Q : Option Value → va_W → Prop} (hJ : J G M 0 (lv_args 0 av) [] wc Q) (hlen : (lg_sl av).length ≤ M.2.2.1) (hy : plainName M.1.cls = true) (sz : Nat) :
    Met l M.1 (.code M.1 M.2.1 M.2.2.1 M.2.2.2.1 :: tb) M.2.2.2.2 (va_Pc av (fun U => U.heap.size = sz ∧ va_P G.1 classes wc U.heap ∧ va_K G.1 classes (gty G) U ∧ va_D (fun _ => True) wc ∧ xt G (va_A wc sz) U U.heap)) (QJ G (wc.map Prod.fst) Q (va_A wc sz)) 0 0 (va_A wc sz) := by
  refine Met.ofW (cc := M.2.1) (maxL := M.2.2.1) (ret := M.2.2.2.1) hy rfl ?_
  intro p e s m args below meth c s₁ B hml hv
  obtain ⟨rfl, hsz, hP, hK, hD0, hx⟩ := hv
  subst hsz
  rw [lg_entry_eq]
  have hts := atoms_spec (ws := Cond.code M.1 M.2.1 M.2.2.1 M.2.2.2.1 :: tb) B.pre
  exact hJ p l e s m _ below meth c (va_A wc s.heap.size) ⟨B.exec, B.bytes, hml, B.returns, findClass_of_methodNamed B.named, fun w hw => hts w (List.mem_cons_of_mem _ hw), B.notSynchronized, fun q h => Or.inr h, hK, hx⟩ s.heap [] _ (lv_entry av hlen) ⟨hP, hD0.self, va_S.rf⟩
section CJ
variable {p : Program} {l : Launch} {e : Env} {R : Room} {s : State} {m : MethodId} {args : Array Value} {below : List Frame} {meth : Method} {c : Code} {H : Heap} {locs : List Loc} {cells slots : Nat} {Qw : State → Prop}
theorem va_callJ {G : GG} {L : List Nat} {Q : Option Value → va_W → Prop} {A0 A1 : Nat → Prop} {a : Array Value} {pc : Nat} {ls : Array Slot} {rest st0 : List Value} {H0 : Heap} (hr : va_Run p l e R s m args below meth c H locs cells slots 0 0 (F0 m pc ls st0) rest (QJ G L Q A1 a) A1) (hS : va_S A0 H0 H locs) (hA : ∀ q, A1 q → A0 q)
    (kk : ∀ (v : Option Value) (w1 : va_W) (H1 : Heap) (locs1 : List Loc), Q v w1 → w1.map Prod.fst = L → va_P G.1 classes w1 H1 → (∀ q : Nat, q < H.size → ¬ A1 q → H1[q]? = H[q]?) → va_S A0 H0 H1 locs1 → W p l e R s m args below meth c H1 locs1 cells slots Qw (F0 m (pc + 3) ls (v.toList ++ rest))) : W p l e R s m args below meth c H locs cells slots Qw (F0 m pc ls st0) := by
  intro T hT X
  obtain ⟨v, st₀, t, T', L1, h0, X', hL, e1, e2, ⟨⟨v2, w1, hv, hq, hf, hp⟩, hz, hk⟩, st⟩ := hr T hT X
  cases hv
  rw [h0] at hz hk
  obtain ⟨t2, a1, b1⟩ := kk v w1 T'.heap (locs ++ L1) hq hf (by rw [e1]; exact hp) (fun q h1 h2 => by rw [e1]; exact hk q h1 h2)
    ⟨Nat.le_trans hS.1 (by rw [e1]; exact hz), fun q h1 h2 => by rw [e1, hk q (Nat.lt_of_lt_of_le h1 hS.1) (fun z => h2 (hA q z))]; exact hS.2.1 q h1 h2, fun q hq => by
      rcases List.mem_append.mp hq with h | h
      · exact hS.2.2 q h
      · exact hA _ (hL q h)⟩ T' rfl X'
  exact ⟨t2, st t2 a1, b1⟩
end CJ
/-- a callee, by its words among the tables' -/
def ML (Mc : Mt) (n : Nat) : Prop := Cond.initialized Mc.1.cls ∈ tb ∧ Cond.code Mc.1 Mc.2.1 Mc.2.2.1 Mc.2.2.2.1 ∈ tb ∧ (Mc.1.cls ≠ "java/lang/invoke/MethodHandle" ∧ Mc.1.cls ≠ "java/lang/invoke/VarHandle" ∧ (parseMethodDescriptor Mc.1.desc).map (fun d => d.parameters.length) = some n) ∧ Mc.2.2.2.2.cells = 0 ∧ Mc.2.2.2.2.slots = 0 ∧ plainName Mc.1.cls = true
def VL (own : String) (idx : Nat) (Mc : Mt) : Prop := Cond.methodLink own idx Mc.1 ∈ tb ∧ Cond.instanceMethod Mc.1 ∈ tb ∧ Cond.selects Mc.1.cls Mc.1 Mc.1 ∈ tb
def SL (own : String) (idx : Nat) (Mc : Mt) : Prop := Cond.methodLink own idx Mc.1 ∈ tb ∧ Cond.static Mc.1 ∈ tb
theorem ws_good {y : MethodName} {b : ByteArray} {n : Nat} {r : Option FieldType} (h : Cond.code y b n r ∈ tb) : GoodIn tb (.code y b n r :: tb) := fun w hw => (List.mem_cons.mp hw).elim (fun e => by rw [e]; exact tb_good _ h) (fun h2 => tb_good _ h2)
section CJ2
variable {p : Program} {l : Launch} {e : Env} {R : Room} {s : State} {m : MethodId} {args : Array Value} {below : List Frame} {meth : Method} {c : Code} {H : Heap} {locs : List Loc} {cells slots : Nat} {Qw : State → Prop}
variable {G : GG} {Mc : Mt} {cc : ByteArray} {nL pc idx n : Nat} {own : String} {A : Nat → Prop} {w wc : va_W} {Qc : Option Value → va_W → Prop} {ls : Array Slot} {As rest st0 : List Value}
/-- an invokevirtual, in any body -/
theorem w_callV (hx : p.tables.exec = Jvm.exec) (hb : c.code = cc) (hml : c.maxLocals = nL) (hown : s.vm.findClass own = some m.cls) (hts : ∀ w ∈ tb, w.before args s = true) (hA : ∀ q, s.heap.size ≤ q → A q) (hK : va_K G.1 classes (gty G) s) (hxt : xt G A s s.heap) (hls : ls.size = nL) (hW : Wo G A s w H locs)
    (hM : ML Mc n) (hV : VL own idx Mc) (ps : List (Option Nat)) (hC : Lay w wc ps) {b q0 ci : Nat} {fs : List Value} {q : vw_C} (hq0 : wc[q0]? = some (b, .inr (ci, fs))) (hci : classes[ci]? = some q) (hqc : q.1 = Mc.1.cls)
    (hJ : J G Mc 0 (lv_args 0 (.ref b :: As)) [] wc Qc) (hlen : (lg_sl (.ref b :: As)).length ≤ Mc.2.2.1) (hR : Mc.2.2.2.2.frames + 1 ≤ R.frames ∧ 8 + (Mc.2.2.1 + 11) + Mc.2.2.2.2.locals ≤ R.locals) (hcs : cells ≤ R.cells ∧ slots ≤ R.slots) (hn : As.length = n) (hst : st0 = As.reverse ++ .ref b :: rest) (hcat : (rest.map fun v => v.category).sum ≤ 8) (hd : decode cc pc = .ok (.invokevirtual idx, 3))
    (kk : ∀ (v : Option Value) (w1 : va_W) (H1 : Heap) (locs1 : List Loc), Qc v w1 → w1.map Prod.fst = wc.map Prod.fst → (mrg w w1 ps).map Prod.fst = w.map Prod.fst → Wo G A s (mrg w w1 ps) H1 locs1 → W p l e R s m args below meth c H1 locs1 cells slots Qw (F0 m (pc + 3) ls (v.toList ++ rest))) : W p l e R s m args below meth c H locs cells slots Qw (F0 m pc ls st0) := by
  obtain ⟨hP, hD, hS⟩ := hW
  have hPc : va_P G.1 classes wc H := hC.P hP
  have hF : ∀ q, va_A wc H.size q → A q := hC.free hD hS hA
  have hDc : va_D (fun _ => True) wc := (hC.D hD).weaken (fun _ _ _ _ => trivial)
  subst hst
  have cw : CallW R s args own Mc.1.cls idx Mc.1 Mc.2.1 Mc.2.2.1 Mc.2.2.2.1 (.code Mc.1 Mc.2.1 Mc.2.2.1 Mc.2.2.2.1 :: tb) Mc.2.2.2.2 0 0 n :=
    ⟨callB_of n hts (ws_good hM.2.1) rfl hM.2.2.2.1 hM.2.2.2.2.1 (hts _ hM.1) (hts _ hV.1) hM.2.2.1 hR, hts _ hV.2.1, hts _ hV.2.2⟩
  have hrecv := va_recv hK hPc hci hq0
  rw [hqc] at hrecv
  refine va_callJ (va_runV (As := As) (rest := rest) (Ts := tb) (own := own) ⟨hx, hb, hml, hown, hts⟩ (met_J (l := l) hJ hlen hM.2.2.2.2.2 H.size) cw ⟨fun a U g mk q => ?_, hrecv, fun U hU hW2 => ?_⟩ rfl hn hls rfl (lv_room hcat) hd ⟨hcs.1, hcs.2⟩) hS hF (fun v w1 H1 locs1 h1 h2 h3 h4 h5 => ?_)
  · obtain ⟨q0, q1, qP, qK, qD, qX⟩ := q
    exact ⟨q0, q1, qP, va_K.moved (u := U) (U := U.calling g mk a) (Vm.Alike.refl U.vm) qK, qD, xt.call g mk a qX⟩
  · exact ⟨rfl, by rw [hU], by rw [hU]; exact hPc, va_K.moved hW2.alike hK, hDc, by rw [hU]; exact xt.warm hW2 ((hxt.kept hS.2.1).narrow hF)⟩
  · obtain ⟨h6, h7⟩ := hC.join hP hD h4 h3 h2
    exact kk v w1 H1 locs1 h1 h2 h7 ⟨h6, hD.same h7, h5⟩
end CJ2
section CJ3
variable {p : Program} {l : Launch} {e : Env} {R : Room} {s : State} {m : MethodId} {args : Array Value} {below : List Frame} {meth : Method} {c : Code} {H : Heap} {locs : List Loc} {cells slots : Nat} {Qw : State → Prop}
variable {G : GG} {Mc : Mt} {cc : ByteArray} {nL pc idx n : Nat} {own : String} {A : Nat → Prop} {w wc : va_W} {Qc : Option Value → va_W → Prop} {ls : Array Slot} {As rest st0 : List Value}
theorem preS_J (hA : ∀ q, s.heap.size ≤ q → A q) (hK : va_K G.1 classes (gty G) s) (hxt : xt G A s s.heap) (hW : Wo G A s w H locs) (ps : List (Option Nat)) (hC : Lay w wc ps) (av : List Value) :
    PreS s H (va_Pc av (fun U => U.heap.size = H.size ∧ va_P G.1 classes wc U.heap ∧ va_K G.1 classes (gty G) U ∧ va_D (fun _ => True) wc ∧ xt G (va_A wc H.size) U U.heap)) av := by
  obtain ⟨hP, hD, hS⟩ := hW
  have hF : ∀ q, va_A wc H.size q → A q := hC.free hD hS hA
  refine ⟨fun a U g mk q => ?_, fun U hU hW2 => ?_⟩
  · obtain ⟨q0, q1, qP, qK, qD, qX⟩ := q
    exact ⟨q0, q1, qP, va_K.moved (u := U) (U := U.calling g mk a) (Vm.Alike.refl U.vm) qK, qD, xt.call g mk a qX⟩
  · exact ⟨rfl, by rw [hU], by rw [hU]; exact hC.P hP, va_K.moved hW2.alike hK, (hC.D hD).weaken (fun _ _ _ _ => trivial), by rw [hU]; exact xt.warm hW2 ((hxt.kept hS.2.1).narrow hF)⟩
theorem w_callS (hx : p.tables.exec = Jvm.exec) (hb : c.code = cc) (hml : c.maxLocals = nL) (hown : s.vm.findClass own = some m.cls) (hts : ∀ w ∈ tb, w.before args s = true) (hA : ∀ q, s.heap.size ≤ q → A q) (hK : va_K G.1 classes (gty G) s) (hxt : xt G A s s.heap) (hls : ls.size = nL) (hW : Wo G A s w H locs)
    (hM : ML Mc n) (hV : SL own idx Mc) (ps : List (Option Nat)) (hC : Lay w wc ps)
    (hJ : J G Mc 0 (lv_args 0 As) [] wc Qc) (hlen : (lg_sl As).length ≤ Mc.2.2.1) (hR : Mc.2.2.2.2.frames + 1 ≤ R.frames ∧ 8 + (Mc.2.2.1 + 11) + Mc.2.2.2.2.locals ≤ R.locals) (hcs : cells ≤ R.cells ∧ slots ≤ R.slots) (hn : As.length = n) (hst : st0 = As.reverse ++ rest) (hcat : (rest.map fun v => v.category).sum ≤ 8) (hd : decode cc pc = .ok (.invokestatic idx, 3))
    (kk : ∀ (v : Option Value) (w1 : va_W) (H1 : Heap) (locs1 : List Loc), Qc v w1 → w1.map Prod.fst = wc.map Prod.fst → (mrg w w1 ps).map Prod.fst = w.map Prod.fst → Wo G A s (mrg w w1 ps) H1 locs1 → W p l e R s m args below meth c H1 locs1 cells slots Qw (F0 m (pc + 3) ls (v.toList ++ rest))) : W p l e R s m args below meth c H locs cells slots Qw (F0 m pc ls st0) := by
  have hW0 := hW
  obtain ⟨hP, hD, hS⟩ := hW
  have hF : ∀ q, va_A wc H.size q → A q := hC.free hD hS hA
  subst hst
  have cw : CallB R s args own idx Mc.1 Mc.2.1 Mc.2.2.1 Mc.2.2.2.1 (.code Mc.1 Mc.2.1 Mc.2.2.1 Mc.2.2.2.1 :: tb) Mc.2.2.2.2 0 0 n ∧ (Cond.static Mc.1).before args s = true :=
    ⟨callB_of n hts (ws_good hM.2.1) rfl hM.2.2.2.1 hM.2.2.2.2.1 (hts _ hM.1) (hts _ hV.1) hM.2.2.1 hR, hts _ hV.2⟩
  refine va_callJ (va_runS (As := As) (rest := rest) (Ts := tb) (own := own) ⟨hx, hb, hml, hown, hts⟩ (met_J (l := l) hJ hlen hM.2.2.2.2.2 H.size) cw (preS_J hA hK hxt hW0 ps hC As) rfl hn hls rfl (lv_room hcat) hd ⟨hcs.1, hcs.2⟩) hS hF (fun v w1 H1 locs1 h1 h2 h3 h4 h5 => ?_)
  obtain ⟨h6, h7⟩ := hC.join hP hD h4 h3 h2
  exact kk v w1 H1 locs1 h1 h2 h7 ⟨h6, hD.same h7, h5⟩
/-- an invokestatic of a nest mate's private method -/
theorem w_callSN {host : String} (hx : p.tables.exec = Jvm.exec) (hb : c.code = cc) (hml : c.maxLocals = nL) (hown : s.vm.findClass own = some m.cls) (hts : ∀ w ∈ tb, w.before args s = true) (hA : ∀ q, s.heap.size ≤ q → A q) (hK : va_K G.1 classes (gty G) s) (hxt : xt G A s s.heap) (hls : ls.size = nL) (hW : Wo G A s w H locs)
    (hM : ML Mc n) (hV : va_Nw (.methodLinkNest own idx Mc.1 host) s) (hV2 : Cond.static Mc.1 ∈ tb) (ps : List (Option Nat)) (hC : Lay w wc ps)
    (hJ : J G Mc 0 (lv_args 0 As) [] wc Qc) (hlen : (lg_sl As).length ≤ Mc.2.2.1) (hR : Mc.2.2.2.2.frames + 1 ≤ R.frames ∧ 8 + (Mc.2.2.1 + 11) + Mc.2.2.2.2.locals ≤ R.locals) (hcs : cells ≤ R.cells ∧ slots ≤ R.slots) (hn : As.length = n) (hst : st0 = As.reverse ++ rest) (hcat : (rest.map fun v => v.category).sum ≤ 8) (hd : decode cc pc = .ok (.invokestatic idx, 3))
    (kk : ∀ (v : Option Value) (w1 : va_W) (H1 : Heap) (locs1 : List Loc), Qc v w1 → w1.map Prod.fst = wc.map Prod.fst → (mrg w w1 ps).map Prod.fst = w.map Prod.fst → Wo G A s (mrg w w1 ps) H1 locs1 → W p l e R s m args below meth c H1 locs1 cells slots Qw (F0 m (pc + 3) ls (v.toList ++ rest))) : W p l e R s m args below meth c H locs cells slots Qw (F0 m pc ls st0) := by
  have hW0 := hW
  obtain ⟨hP, hD, hS⟩ := hW
  have hF : ∀ q, va_A wc H.size q → A q := hC.free hD hS hA
  subst hst
  have cw : va_CN R s args own idx Mc.1 host Mc.2.1 Mc.2.2.1 Mc.2.2.2.1 (.code Mc.1 Mc.2.1 Mc.2.2.1 Mc.2.2.2.1 :: tb) Mc.2.2.2.2 0 0 n ∧ (Cond.static Mc.1).before args s = true ∧ True :=
    ⟨va_cnB n hts (ws_good hM.2.1) rfl hM.2.2.2.1 hM.2.2.2.2.1 hV (hts _ hM.1) hM.2.2.1 hR, hts _ hV2, trivial⟩
  refine va_callJ (va_runSN (As := As) (rest := rest) (Ts := tb) (own := own) ⟨hx, hb, hml, hown, hts⟩ (met_J (l := l) hJ hlen hM.2.2.2.2.2 H.size) cw (preS_J hA hK hxt hW0 ps hC As) rfl hn hls rfl (lv_room hcat) hd ⟨hcs.1, hcs.2⟩) hS hF (fun v w1 H1 locs1 h1 h2 h3 h4 h5 => ?_)
  obtain ⟨h6, h7⟩ := hC.join hP hD h4 h3 h2
  exact kk v w1 H1 locs1 h1 h2 h7 ⟨h6, hD.same h7, h5⟩
end CJ3
end
section
section JR
variable {G : GG} {M : Mt} {pc : Nat} {lo lo' : List (Nat × Value)} {st : List Value} {w w' : va_W} {Q Q' : Option Value → va_W → Prop}
theorem J.mono (h : ∀ v w', Q v w' → Q' v w') (k : J G M pc lo st w Q) : J G M pc lo st w Q' := by
  intro p l e s m args below meth c A C H locs ls hl hW T hT X
  obtain ⟨t, a1, o, b1, b2, ⟨⟨v, w1, c1, c2, c3⟩, c4⟩, b4⟩ := k p l e s m args below meth c A C H locs ls hl hW T hT X
  exact ⟨t, a1, o, b1, b2, ⟨⟨v, w1, c1, h v w1 c2, c3⟩, c4⟩, b4⟩
theorem J.at (k : J G M pc lo st w' Q) (hf : w'.map Prod.fst = w.map Prod.fst) {p : Program} {l : Launch} {e : Env} {s : State} {m : MethodId} {args : Array Value} {below : List Frame} {meth : Method} {c : Code} {A : Nat → Prop} (C : Cx G M p s m args meth c A) {H : Heap} {locs : List Loc} {ls : Array Slot} (hl : lv_has ls M.2.2.1 lo) (hW : Wo G A s w' H locs) :
    W p l e M.2.2.2.2 s m args below meth c H locs 0 0 (MQ below (QJ G (w.map Prod.fst) Q A) args s 0 0 A) (F0 m pc ls st) := by
  have h := k p l e s m args below meth c A C H locs ls hl hW
  rw [hf] at h
  exact h
theorem j_lo (ks : List Nat) (h : lv_pick lo ks = lo') (k : J G M pc lo' st w Q) : J G M pc lo st w Q := fun p l e s m args below meth c A C H locs ls hl hW => k p l e s m args below meth c A C H locs ls (lv_sub hl ks h) hW
theorem j_w (h : w = w') (k : J G M pc lo st w' Q) : J G M pc lo st w Q := h ▸ k
theorem j_pc {pc' : Nat} (h : pc = pc') (k : J G M pc' lo st w Q) : J G M pc lo st w Q := h ▸ k
theorem j_iconst {n : Int} {v : Int32} (hd : decode M.2.1 pc = .ok (.iconst n, 1)) (hv : Int32.ofInt n = v) (k : J G M (pc + 1) lo (.int v :: st) w Q) : J G M pc lo (st) w Q := fun p l e s m args below meth c A C H locs ls hl hW => lv_iconst C.1 C.2.1 hd hv (k p l e s m args below meth c A C H locs ls hl hW)
theorem j_bipush {n : Int} {v : Int32} (hd : decode M.2.1 pc = .ok (.bipush n, 2)) (hv : (Int8.ofInt n).toInt32 = v) (k : J G M (pc + 2) lo (.int v :: st) w Q) : J G M pc lo (st) w Q := fun p l e s m args below meth c A C H locs ls hl hW => lv_bipush C.1 C.2.1 hd hv (k p l e s m args below meth c A C H locs ls hl hW)
theorem j_sipush {n : Int} {v : Int32} (hd : decode M.2.1 pc = .ok (.sipush n, 3)) (hv : (Int16.ofInt n).toInt32 = v) (k : J G M (pc + 3) lo (.int v :: st) w Q) : J G M pc lo (st) w Q := fun p l e s m args below meth c A C H locs ls hl hW => lv_sipush C.1 C.2.1 hd hv (k p l e s m args below meth c A C H locs ls hl hW)
theorem j_lconst {n : Fin 2} {v : Int64} (hd : decode M.2.1 pc = .ok (.lconst n, 1)) (hv : Int64.ofNat (n : Nat) = v) (k : J G M (pc + 1) lo (.long v :: st) w Q) : J G M pc lo (st) w Q := fun p l e s m args below meth c A C H locs ls hl hW => lv_lconst C.1 C.2.1 hd hv (k p l e s m args below meth c A C H locs ls hl hW)
theorem j_iload_n (q : Nat) {k : Fin 4} {i : Nat} {x : Int32} (hd : decode M.2.1 pc = .ok (.iload_n k, 1)) (hi : (k : Nat) = i) (hq : lo[q]? = some (i, .int x)) (k : J G M (pc + 1) lo (.int x :: st) w Q) : J G M pc lo (st) w Q := fun p l e s m args below meth c A C H locs ls hl hW => lv_iload_n C.1 C.2.1 hd hi (lv_at hl q hq) (k p l e s m args below meth c A C H locs ls hl hW)
theorem j_iload (q : Nat) {i : Nat} {x : Int32} (hd : decode M.2.1 pc = .ok (.iload i, 2)) (hq : lo[q]? = some (i, .int x)) (k : J G M (pc + 2) lo (.int x :: st) w Q) : J G M pc lo (st) w Q := fun p l e s m args below meth c A C H locs ls hl hW => lv_iload C.1 C.2.1 hd (lv_at hl q hq) (k p l e s m args below meth c A C H locs ls hl hW)
theorem j_istore_n {k : Fin 4} {i : Nat} {x : Int32} (hd : decode M.2.1 pc = .ok (.istore_n k, 1)) (hi : (k : Nat) = i) (hn : i < M.2.2.1) (h : (i, Value.int x) :: lo.filter (fun q => !(q.1 == i) && !(q.1 + 1 == i && q.2.category == 2)) = lo') (k : J G M (pc + 1) lo' st w Q) : J G M pc lo (.int x :: st) w Q := fun p l e s m args below meth c A C H locs ls hl hW => lv_istore_n C.1 C.2.1 hd hi hl hn h (fun ls hl => k p l e s m args below meth c A C H locs ls hl hW)
theorem j_istore {i : Nat} {x : Int32} (hd : decode M.2.1 pc = .ok (.istore i, 2)) (hn : i < M.2.2.1) (h : (i, Value.int x) :: lo.filter (fun q => !(q.1 == i) && !(q.1 + 1 == i && q.2.category == 2)) = lo') (k : J G M (pc + 2) lo' st w Q) : J G M pc lo (.int x :: st) w Q := fun p l e s m args below meth c A C H locs ls hl hW => lv_istore C.1 C.2.1 hd hl hn h (fun ls hl => k p l e s m args below meth c A C H locs ls hl hW)
theorem j_lload_n (q : Nat) {k : Fin 4} {i : Nat} {x : Int64} (hd : decode M.2.1 pc = .ok (.lload_n k, 1)) (hi : (k : Nat) = i) (hq : lo[q]? = some (i, .long x)) (k : J G M (pc + 1) lo (.long x :: st) w Q) : J G M pc lo (st) w Q := fun p l e s m args below meth c A C H locs ls hl hW => lv_lload_n C.1 C.2.1 hd hi (lv_at hl q hq) (k p l e s m args below meth c A C H locs ls hl hW)
theorem j_lload (q : Nat) {i : Nat} {x : Int64} (hd : decode M.2.1 pc = .ok (.lload i, 2)) (hq : lo[q]? = some (i, .long x)) (k : J G M (pc + 2) lo (.long x :: st) w Q) : J G M pc lo (st) w Q := fun p l e s m args below meth c A C H locs ls hl hW => lv_lload C.1 C.2.1 hd (lv_at hl q hq) (k p l e s m args below meth c A C H locs ls hl hW)
theorem j_lstore_n {k : Fin 4} {i : Nat} {x : Int64} (hd : decode M.2.1 pc = .ok (.lstore_n k, 1)) (hi : (k : Nat) = i) (hn : i + 1 < M.2.2.1) (h : (i, Value.long x) :: lo.filter (fun q => !(q.1 == i) && (!(q.1 == i + 1) && !(q.1 + 1 == i && q.2.category == 2))) = lo') (k : J G M (pc + 1) lo' st w Q) : J G M pc lo (.long x :: st) w Q := fun p l e s m args below meth c A C H locs ls hl hW => lv_lstore_n C.1 C.2.1 hd hi hl hn h (fun ls hl => k p l e s m args below meth c A C H locs ls hl hW)
theorem j_lstore {i : Nat} {x : Int64} (hd : decode M.2.1 pc = .ok (.lstore i, 2)) (hn : i + 1 < M.2.2.1) (h : (i, Value.long x) :: lo.filter (fun q => !(q.1 == i) && (!(q.1 == i + 1) && !(q.1 + 1 == i && q.2.category == 2))) = lo') (k : J G M (pc + 2) lo' st w Q) : J G M pc lo (.long x :: st) w Q := fun p l e s m args below meth c A C H locs ls hl hW => lv_lstore C.1 C.2.1 hd hl hn h (fun ls hl => k p l e s m args below meth c A C H locs ls hl hW)
theorem j_aload_n (q : Nat) {k : Fin 4} {i : Nat} {x : Nat} (hd : decode M.2.1 pc = .ok (.aload_n k, 1)) (hi : (k : Nat) = i) (hq : lo[q]? = some (i, .ref x)) (k : J G M (pc + 1) lo (.ref x :: st) w Q) : J G M pc lo (st) w Q := fun p l e s m args below meth c A C H locs ls hl hW => lv_aload_n C.1 C.2.1 hd hi (lv_at hl q hq) (k p l e s m args below meth c A C H locs ls hl hW)
theorem j_aload (q : Nat) {i : Nat} {x : Nat} (hd : decode M.2.1 pc = .ok (.aload i, 2)) (hq : lo[q]? = some (i, .ref x)) (k : J G M (pc + 2) lo (.ref x :: st) w Q) : J G M pc lo (st) w Q := fun p l e s m args below meth c A C H locs ls hl hW => lv_aload C.1 C.2.1 hd (lv_at hl q hq) (k p l e s m args below meth c A C H locs ls hl hW)
theorem j_astore_n {k : Fin 4} {i : Nat} {x : Nat} (hd : decode M.2.1 pc = .ok (.astore_n k, 1)) (hi : (k : Nat) = i) (hn : i < M.2.2.1) (h : (i, Value.ref x) :: lo.filter (fun q => !(q.1 == i) && !(q.1 + 1 == i && q.2.category == 2)) = lo') (k : J G M (pc + 1) lo' st w Q) : J G M pc lo (.ref x :: st) w Q := fun p l e s m args below meth c A C H locs ls hl hW => lv_astore_n C.1 C.2.1 hd hi hl hn h (fun ls hl => k p l e s m args below meth c A C H locs ls hl hW)
theorem j_astore {i : Nat} {x : Nat} (hd : decode M.2.1 pc = .ok (.astore i, 2)) (hn : i < M.2.2.1) (h : (i, Value.ref x) :: lo.filter (fun q => !(q.1 == i) && !(q.1 + 1 == i && q.2.category == 2)) = lo') (k : J G M (pc + 2) lo' st w Q) : J G M pc lo (.ref x :: st) w Q := fun p l e s m args below meth c A C H locs ls hl hW => lv_astore C.1 C.2.1 hd hl hn h (fun ls hl => k p l e s m args below meth c A C H locs ls hl hW)
theorem j_iinc (q : Nat) {i : Nat} {n : Int} {x v : Int32} (hd : decode M.2.1 pc = .ok (.iinc i n, 3)) (hq : lo[q]? = some (i, .int x)) (hv : x + Int32.ofInt n = v) (hn : i < M.2.2.1) (h : (i, Value.int v) :: lo.filter (fun q => !(q.1 == i) && !(q.1 + 1 == i && q.2.category == 2)) = lo') (k : J G M (pc + 3) lo' st w Q) : J G M pc lo st w Q := fun p l e s m args below meth c A C H locs ls hl hW => lv_iinc C.1 C.2.1 hd hl hq hv hn h (fun ls hl => k p l e s m args below meth c A C H locs ls hl hW)
theorem j_iadd {x y : Int32} (hd : decode M.2.1 pc = .ok (.iadd, 1)) (k : J G M (pc + 1) lo (.int (x + y) :: st) w Q) : J G M pc lo (.int y :: .int x :: st) w Q := fun p l e s m args below meth c A C H locs ls hl hW => lv_iadd C.1 C.2.1 hd (k p l e s m args below meth c A C H locs ls hl hW)
theorem j_isub {x y : Int32} (hd : decode M.2.1 pc = .ok (.isub, 1)) (k : J G M (pc + 1) lo (.int (x - y) :: st) w Q) : J G M pc lo (.int y :: .int x :: st) w Q := fun p l e s m args below meth c A C H locs ls hl hW => lv_isub C.1 C.2.1 hd (k p l e s m args below meth c A C H locs ls hl hW)
theorem j_imul {x y : Int32} (hd : decode M.2.1 pc = .ok (.imul, 1)) (k : J G M (pc + 1) lo (.int (x * y) :: st) w Q) : J G M pc lo (.int y :: .int x :: st) w Q := fun p l e s m args below meth c A C H locs ls hl hW => lv_imul C.1 C.2.1 hd (k p l e s m args below meth c A C H locs ls hl hW)
theorem j_iand {x y : Int32} (hd : decode M.2.1 pc = .ok (.iand, 1)) (k : J G M (pc + 1) lo (.int (x &&& y) :: st) w Q) : J G M pc lo (.int y :: .int x :: st) w Q := fun p l e s m args below meth c A C H locs ls hl hW => lv_iand C.1 C.2.1 hd (k p l e s m args below meth c A C H locs ls hl hW)
theorem j_ior {x y : Int32} (hd : decode M.2.1 pc = .ok (.ior, 1)) (k : J G M (pc + 1) lo (.int (x ||| y) :: st) w Q) : J G M pc lo (.int y :: .int x :: st) w Q := fun p l e s m args below meth c A C H locs ls hl hW => lv_ior C.1 C.2.1 hd (k p l e s m args below meth c A C H locs ls hl hW)
theorem j_ishl {x y : Int32} (hd : decode M.2.1 pc = .ok (.ishl, 1)) (k : J G M (pc + 1) lo (.int (x <<< (y &&& 31)) :: st) w Q) : J G M pc lo (.int y :: .int x :: st) w Q := fun p l e s m args below meth c A C H locs ls hl hW => lv_ishl C.1 C.2.1 hd (k p l e s m args below meth c A C H locs ls hl hW)
theorem j_ishr {x y : Int32} (hd : decode M.2.1 pc = .ok (.ishr, 1)) (k : J G M (pc + 1) lo (.int (x >>> (y &&& 31)) :: st) w Q) : J G M pc lo (.int y :: .int x :: st) w Q := fun p l e s m args below meth c A C H locs ls hl hW => lv_ishr C.1 C.2.1 hd (k p l e s m args below meth c A C H locs ls hl hW)
theorem j_ladd {x y : Int64} (hd : decode M.2.1 pc = .ok (.ladd, 1)) (k : J G M (pc + 1) lo (.long (x + y) :: st) w Q) : J G M pc lo (.long y :: .long x :: st) w Q := fun p l e s m args below meth c A C H locs ls hl hW => lv_ladd C.1 C.2.1 hd (k p l e s m args below meth c A C H locs ls hl hW)
theorem j_lmul {x y : Int64} (hd : decode M.2.1 pc = .ok (.lmul, 1)) (k : J G M (pc + 1) lo (.long (x * y) :: st) w Q) : J G M pc lo (.long y :: .long x :: st) w Q := fun p l e s m args below meth c A C H locs ls hl hW => lv_lmul C.1 C.2.1 hd (k p l e s m args below meth c A C H locs ls hl hW)
theorem j_land {x y : Int64} (hd : decode M.2.1 pc = .ok (.land, 1)) (k : J G M (pc + 1) lo (.long (x &&& y) :: st) w Q) : J G M pc lo (.long y :: .long x :: st) w Q := fun p l e s m args below meth c A C H locs ls hl hW => lv_land C.1 C.2.1 hd (k p l e s m args below meth c A C H locs ls hl hW)
theorem j_idiv {x y : Int32} (hd : decode M.2.1 pc = .ok (.idiv, 1)) (hne : ¬ y = 0) (k : J G M (pc + 1) lo (.int (x / y) :: st) w Q) : J G M pc lo (.int y :: .int x :: st) w Q := fun p l e s m args below meth c A C H locs ls hl hW => lv_idiv C.1 C.2.1 hd hne (k p l e s m args below meth c A C H locs ls hl hW)
theorem j_irem {x y : Int32} (hd : decode M.2.1 pc = .ok (.irem, 1)) (hne : ¬ y = 0) (k : J G M (pc + 1) lo (.int (x - x / y * y) :: st) w Q) : J G M pc lo (.int y :: .int x :: st) w Q := fun p l e s m args below meth c A C H locs ls hl hW => lv_irem C.1 C.2.1 hd hne (k p l e s m args below meth c A C H locs ls hl hW)
theorem j_i2l {x : Int32} (hd : decode M.2.1 pc = .ok (.i2l, 1)) (k : J G M (pc + 1) lo (.long x.toInt64 :: st) w Q) : J G M pc lo (.int x :: st) w Q := fun p l e s m args below meth c A C H locs ls hl hW => lv_i2l C.1 C.2.1 hd rfl (k p l e s m args below meth c A C H locs ls hl hW)
theorem j_l2i {x : Int64} (hd : decode M.2.1 pc = .ok (.l2i, 1)) (k : J G M (pc + 1) lo (.int x.toInt32 :: st) w Q) : J G M pc lo (.long x :: st) w Q := fun p l e s m args below meth c A C H locs ls hl hW => lv_l2i C.1 C.2.1 hd rfl (k p l e s m args below meth c A C H locs ls hl hW)
theorem j_i2b {x : Int32} (hd : decode M.2.1 pc = .ok (.i2b, 1)) (k : J G M (pc + 1) lo (.int x.toInt8.toInt32 :: st) w Q) : J G M pc lo (.int x :: st) w Q := fun p l e s m args below meth c A C H locs ls hl hW => lv_i2b C.1 C.2.1 hd rfl (k p l e s m args below meth c A C H locs ls hl hW)
theorem j_i2c {x : Int32} (hd : decode M.2.1 pc = .ok (.i2c, 1)) (k : J G M (pc + 1) lo (.int (x.toUInt32 % 65536).toInt32 :: st) w Q) : J G M pc lo (.int x :: st) w Q := fun p l e s m args below meth c A C H locs ls hl hW => lv_i2c C.1 C.2.1 hd rfl (k p l e s m args below meth c A C H locs ls hl hW)
theorem j_iushr {x y : Int32} (hd : decode M.2.1 pc = .ok (.iushr, 1)) (k : J G M (pc + 1) lo (.int (x.toUInt32 >>> (y.toUInt32 &&& Int32.toUInt32 31)).toInt32 :: st) w Q) : J G M pc lo (.int y :: .int x :: st) w Q := fun p l e s m args below meth c A C H locs ls hl hW => lv_iushr C.1 C.2.1 hd rfl (k p l e s m args below meth c A C H locs ls hl hW)
theorem j_lcmp {x y : Int64} (hd : decode M.2.1 pc = .ok (.lcmp, 1)) (k : J G M (pc + 1) lo (.int (lg_cmp x y) :: st) w Q) : J G M pc lo (.long y :: .long x :: st) w Q := fun p l e s m args below meth c A C H locs ls hl hW => W.lcmp C.1 C.2.1 hd (k p l e s m args below meth c A C H locs ls hl hW)
theorem j_dup {va : Value} (hd : decode M.2.1 pc = .ok (.dup, 1)) (h1 : va.category = 1) (k : J G M (pc + 1) lo (va :: va :: st) w Q) : J G M pc lo (va :: st) w Q := fun p l e s m args below meth c A C H locs ls hl hW => lv_dup C.1 C.2.1 hd h1 (k p l e s m args below meth c A C H locs ls hl hW)
theorem j_pop {va : Value} (hd : decode M.2.1 pc = .ok (.pop, 1)) (h1 : va.category = 1) (k : J G M (pc + 1) lo (st) w Q) : J G M pc lo (va :: st) w Q := fun p l e s m args below meth c A C H locs ls hl hW => lv_pop C.1 C.2.1 hd h1 (k p l e s m args below meth c A C H locs ls hl hW)
theorem j_dup2 {va vb : Value} (hd : decode M.2.1 pc = .ok (.dup2, 1)) (h1 : va.category = 1) (h2 : vb.category = 1) (k : J G M (pc + 1) lo (va :: vb :: va :: vb :: st) w Q) : J G M pc lo (va :: vb :: st) w Q := fun p l e s m args below meth c A C H locs ls hl hW => lv_dup2_11 C.1 C.2.1 hd h1 h2 (k p l e s m args below meth c A C H locs ls hl hW)
theorem j_if_eq {x : Int32} {off : Int} {tgt : Nat} (hd : decode M.2.1 pc = .ok (.ifCond .eq off, 3)) (ht : (pc : Int) + off = (tgt : Int)) (kt : x = 0 → J G M tgt lo st w Q) (kf : ¬ x = 0 → J G M (pc + 3) lo st w Q) : J G M pc lo (.int x :: st) w Q := fun p l e s m args below meth c A C H locs ls hl hW => lv_if_eq C.1 C.2.1 hd ht (fun h => kt h p l e s m args below meth c A C H locs ls hl hW) (fun h => kf h p l e s m args below meth c A C H locs ls hl hW)
theorem j_icmp_eq {x y : Int32} {off : Int} {tgt : Nat} (hd : decode M.2.1 pc = .ok (.if_icmp .eq off, 3)) (ht : (pc : Int) + off = (tgt : Int)) (kt : x = y → J G M tgt lo st w Q) (kf : ¬ x = y → J G M (pc + 3) lo st w Q) : J G M pc lo (.int y :: .int x :: st) w Q := fun p l e s m args below meth c A C H locs ls hl hW => lv_icmp_eq C.1 C.2.1 hd ht (fun h => kt h p l e s m args below meth c A C H locs ls hl hW) (fun h => kf h p l e s m args below meth c A C H locs ls hl hW)
theorem j_if_ne {x : Int32} {off : Int} {tgt : Nat} (hd : decode M.2.1 pc = .ok (.ifCond .ne off, 3)) (ht : (pc : Int) + off = (tgt : Int)) (kt : ¬ x = 0 → J G M tgt lo st w Q) (kf : x = 0 → J G M (pc + 3) lo st w Q) : J G M pc lo (.int x :: st) w Q := fun p l e s m args below meth c A C H locs ls hl hW => lv_if_ne C.1 C.2.1 hd ht (fun h => kt h p l e s m args below meth c A C H locs ls hl hW) (fun h => kf h p l e s m args below meth c A C H locs ls hl hW)
theorem j_icmp_ne {x y : Int32} {off : Int} {tgt : Nat} (hd : decode M.2.1 pc = .ok (.if_icmp .ne off, 3)) (ht : (pc : Int) + off = (tgt : Int)) (kt : ¬ x = y → J G M tgt lo st w Q) (kf : x = y → J G M (pc + 3) lo st w Q) : J G M pc lo (.int y :: .int x :: st) w Q := fun p l e s m args below meth c A C H locs ls hl hW => lv_icmp_ne C.1 C.2.1 hd ht (fun h => kt h p l e s m args below meth c A C H locs ls hl hW) (fun h => kf h p l e s m args below meth c A C H locs ls hl hW)
theorem j_if_lt {x : Int32} {off : Int} {tgt : Nat} (hd : decode M.2.1 pc = .ok (.ifCond .lt off, 3)) (ht : (pc : Int) + off = (tgt : Int)) (kt : x < 0 → J G M tgt lo st w Q) (kf : ¬ x < 0 → J G M (pc + 3) lo st w Q) : J G M pc lo (.int x :: st) w Q := fun p l e s m args below meth c A C H locs ls hl hW => lv_if_lt C.1 C.2.1 hd ht (fun h => kt h p l e s m args below meth c A C H locs ls hl hW) (fun h => kf h p l e s m args below meth c A C H locs ls hl hW)
theorem j_icmp_lt {x y : Int32} {off : Int} {tgt : Nat} (hd : decode M.2.1 pc = .ok (.if_icmp .lt off, 3)) (ht : (pc : Int) + off = (tgt : Int)) (kt : x < y → J G M tgt lo st w Q) (kf : ¬ x < y → J G M (pc + 3) lo st w Q) : J G M pc lo (.int y :: .int x :: st) w Q := fun p l e s m args below meth c A C H locs ls hl hW => lv_icmp_lt C.1 C.2.1 hd ht (fun h => kt h p l e s m args below meth c A C H locs ls hl hW) (fun h => kf h p l e s m args below meth c A C H locs ls hl hW)
theorem j_if_ge {x : Int32} {off : Int} {tgt : Nat} (hd : decode M.2.1 pc = .ok (.ifCond .ge off, 3)) (ht : (pc : Int) + off = (tgt : Int)) (kt : 0 ≤ x → J G M tgt lo st w Q) (kf : ¬ 0 ≤ x → J G M (pc + 3) lo st w Q) : J G M pc lo (.int x :: st) w Q := fun p l e s m args below meth c A C H locs ls hl hW => lv_if_ge C.1 C.2.1 hd ht (fun h => kt h p l e s m args below meth c A C H locs ls hl hW) (fun h => kf h p l e s m args below meth c A C H locs ls hl hW)
theorem j_icmp_ge {x y : Int32} {off : Int} {tgt : Nat} (hd : decode M.2.1 pc = .ok (.if_icmp .ge off, 3)) (ht : (pc : Int) + off = (tgt : Int)) (kt : y ≤ x → J G M tgt lo st w Q) (kf : ¬ y ≤ x → J G M (pc + 3) lo st w Q) : J G M pc lo (.int y :: .int x :: st) w Q := fun p l e s m args below meth c A C H locs ls hl hW => lv_icmp_ge C.1 C.2.1 hd ht (fun h => kt h p l e s m args below meth c A C H locs ls hl hW) (fun h => kf h p l e s m args below meth c A C H locs ls hl hW)
theorem j_if_gt {x : Int32} {off : Int} {tgt : Nat} (hd : decode M.2.1 pc = .ok (.ifCond .gt off, 3)) (ht : (pc : Int) + off = (tgt : Int)) (kt : 0 < x → J G M tgt lo st w Q) (kf : ¬ 0 < x → J G M (pc + 3) lo st w Q) : J G M pc lo (.int x :: st) w Q := fun p l e s m args below meth c A C H locs ls hl hW => lv_if_gt C.1 C.2.1 hd ht (fun h => kt h p l e s m args below meth c A C H locs ls hl hW) (fun h => kf h p l e s m args below meth c A C H locs ls hl hW)
theorem j_icmp_gt {x y : Int32} {off : Int} {tgt : Nat} (hd : decode M.2.1 pc = .ok (.if_icmp .gt off, 3)) (ht : (pc : Int) + off = (tgt : Int)) (kt : y < x → J G M tgt lo st w Q) (kf : ¬ y < x → J G M (pc + 3) lo st w Q) : J G M pc lo (.int y :: .int x :: st) w Q := fun p l e s m args below meth c A C H locs ls hl hW => lv_icmp_gt C.1 C.2.1 hd ht (fun h => kt h p l e s m args below meth c A C H locs ls hl hW) (fun h => kf h p l e s m args below meth c A C H locs ls hl hW)
theorem j_if_le {x : Int32} {off : Int} {tgt : Nat} (hd : decode M.2.1 pc = .ok (.ifCond .le off, 3)) (ht : (pc : Int) + off = (tgt : Int)) (kt : x ≤ 0 → J G M tgt lo st w Q) (kf : ¬ x ≤ 0 → J G M (pc + 3) lo st w Q) : J G M pc lo (.int x :: st) w Q := fun p l e s m args below meth c A C H locs ls hl hW => lv_if_le C.1 C.2.1 hd ht (fun h => kt h p l e s m args below meth c A C H locs ls hl hW) (fun h => kf h p l e s m args below meth c A C H locs ls hl hW)
theorem j_icmp_le {x y : Int32} {off : Int} {tgt : Nat} (hd : decode M.2.1 pc = .ok (.if_icmp .le off, 3)) (ht : (pc : Int) + off = (tgt : Int)) (kt : x ≤ y → J G M tgt lo st w Q) (kf : ¬ x ≤ y → J G M (pc + 3) lo st w Q) : J G M pc lo (.int y :: .int x :: st) w Q := fun p l e s m args below meth c A C H locs ls hl hW => lv_icmp_le C.1 C.2.1 hd ht (fun h => kt h p l e s m args below meth c A C H locs ls hl hW) (fun h => kf h p l e s m args below meth c A C H locs ls hl hW)
theorem j_goto {off : Int} {tgt : Nat} (hd : decode M.2.1 pc = .ok (.goto off, 3)) (ht : (pc : Int) + off = (tgt : Int)) (k : J G M tgt lo st w Q) : J G M pc lo st w Q := fun p l e s m args below meth c A C H locs ls hl hW => lv_goto C.1 C.2.1 hd ht (k p l e s m args below meth c A C H locs ls hl hW)
theorem j_iret {v : Int32} (hd : decode M.2.1 pc = .ok (.ireturn, 1)) (hr : M.2.2.2.1 = some .int) (h : Q (some (.int v)) w) : J G M pc lo [.int v] w Q := fun p l e s m args below meth c A C H locs ls hl hW => W.iret C.1 C.2.1 (by rw [C.2.2.2.1]; exact hr) (fun t ht _ => ⟨⟨some (.int v), w, rfl, h, rfl, by rw [ht]; exact hW.1⟩, hW.2.2.F ht⟩) (fun q hq => hW.2.2.2.2 q hq) hd C.2.2.2.2.2.2.1
theorem j_zret {v : Int32} {ty : FieldType} (hd : decode M.2.1 pc = .ok (.ireturn, 1)) (hr : M.2.2.2.1 = some ty) (hn : narrow ty (.int v) = .int v) (h : Q (some (.int v)) w) : J G M pc lo [.int v] w Q := fun p l e s m args below meth c A C H locs ls hl hW => W.zret C.1 C.2.1 (by rw [C.2.2.2.1]; exact hr) hn (fun t ht _ => ⟨⟨some (.int v), w, rfl, h, rfl, by rw [ht]; exact hW.1⟩, hW.2.2.F ht⟩) (fun q hq => hW.2.2.2.2 q hq) hd C.2.2.2.2.2.2.1
theorem j_lret {v : Int64} (hd : decode M.2.1 pc = .ok (.lreturn, 1)) (hr : M.2.2.2.1 = some .long) (h : Q (some (.long v)) w) : J G M pc lo [.long v] w Q := fun p l e s m args below meth c A C H locs ls hl hW => W.lret C.1 C.2.1 (by rw [C.2.2.2.1]; exact hr) (fun t ht _ => ⟨⟨some (.long v), w, rfl, h, rfl, by rw [ht]; exact hW.1⟩, hW.2.2.F ht⟩) (fun q hq => hW.2.2.2.2 q hq) hd C.2.2.2.2.2.2.1
theorem j_vret (hd : decode M.2.1 pc = .ok (.return_, 1)) (hr : M.2.2.2.1 = none) (h : Q none w) : J G M pc lo [] w Q := fun p l e s m args below meth c A C H locs ls hl hW => W.vret C.1 C.2.1 (by rw [C.2.2.2.1]; exact hr) (fun t ht _ => ⟨⟨none, w, rfl, h, rfl, by rw [ht]; exact hW.1⟩, hW.2.2.F ht⟩) (fun q hq => hW.2.2.2.2 q hq) hd C.2.2.2.2.2.2.1
end JR
def FL (own : String) (idx ci k : Nat) : Prop := ∃ (C : String) (T : u_T) (N : Nat), classes[ci]? = some (C, T, N) ∧ (∀ x ∈ u_ws C T N, x ∈ tb) ∧ k < N ∧ Cond.fieldLink own idx (T k).1 (T k).2.1 (T k).2.2.1 ∈ tb
def FP (own : String) (idx ci k : Nat) (ty : FieldType) : Prop := ∃ (C : String) (T : u_T) (N : Nat) (ty0 : Nat → FieldType), classes[ci]? = some (C, T, N) ∧ (∀ x ∈ u_ws C T N, x ∈ tb) ∧ k < N ∧ Cond.fieldLink own idx (T k).1 (T k).2.1 (T k).2.2.1 ∈ tb ∧ (∀ k, k < N → parseFieldDescriptor (T k).2.2.1 = some (ty0 k)) ∧ (∀ a, a < N → ∀ b, b < N → a ≠ b → (T a).2.1 ≠ (T b).2.1) ∧ (T k).2.2.2 = false ∧ parseFieldDescriptor (T k).2.2.1 = some ty
def AC (own : String) (idx : Nat) : Prop := Cond.methodLink own idx arraycopyName ∈ tb ∧ Cond.native arraycopyName ∈ tb ∧ Cond.static arraycopyName ∈ tb ∧ Cond.initialized "java/lang/System" ∈ tb
section JM
variable {G : GG} {M : Mt} {pc : Nat} {lo lo' : List (Nat × Value)} {st st0 As : List Value} {w w' wc : va_W} {Q Q' : Option Value → va_W → Prop}
theorem j_get (q : Nat) {ci k idx a : Nat} {fs : List Value} {v : Value} (hF : FL M.1.cls idx ci k) (hd : decode M.2.1 pc = .ok (.getfield idx, 3)) (he : w[q]? = some (a, .inr (ci, fs))) (hv : fs[k]? = some v) (kk : J G M (pc + 3) lo (v :: st) w Q) : J G M pc lo (.ref a :: st) w Q := by
  obtain ⟨Cn, T, N, h1, h2, h3, h4⟩ := hF
  intro p l e s m args below meth c A C H locs ls hl hW
  exact va_get (C := Cn) (T := T) (N := N) (ref := (T k).1) C.1 C.2.1 C.2.2.2.2.2.1 h2 C.2.2.2.2.1 C.2.2.2.2.2.2.2.2.1 hW.1 q he h1 k h3 (C.2.2.2.2.2.1 _ h4) (fun _ h => h) hv hd (kk p l e s m args below meth c A C H locs ls hl hW)
theorem j_put (q : Nat) {ci k idx a : Nat} {fs : List Value} {v : Value} {ty : FieldType} (hF : FP M.1.cls idx ci k ty) (hd : decode M.2.1 pc = .ok (.putfield idx, 3)) (he : w[q]? = some (a, .inr (ci, fs))) (hn : narrow ty v = v) (hfit : fits ty v = true) (hl9 : k < fs.length) (hw : w.set q (a, .inr (ci, fs.set k v)) = w') (kk : J G M (pc + 3) lo st w' Q) : J G M pc lo (v :: .ref a :: st) w Q := by
  obtain ⟨Cn, T, N, ty0, h1, h2, h3, h4, h5, h6, h7, h8⟩ := hF
  subst hw
  intro p l e s m args below meth c A C H locs ls hl hW
  exact va_put (C := Cn) (T := T) (N := N) (ref := (T k).1) C.1 C.2.1 C.2.2.2.2.2.1 h2 ty0 h5 h6 C.2.2.2.2.1 C.2.2.2.2.2.2.2.2.1 hW.1 hW.2.1 hW.2.2 q he h1 k h3 (C.2.2.2.2.2.1 _ h4) (fun _ h => h) h7 h8 hn hfit hl9 hd (fun H1 locs1 hP hD hS => kk.at (fst_set he) C hl ⟨hP, hD, hS⟩)
theorem j_iald (q : Nat) {a n : Nat} {f : Nat → Int32} {i : Int32} (hd : decode M.2.1 pc = .ok (.iaload, 1)) (ha : w[q]? = some (a, .inl (G.2.1.1, n, .inl f))) (hin : vp_in i n) (kk : J G M (pc + 1) lo (.int (f i.toNatClampNeg) :: st) w Q) : J G M pc lo (.int i :: .ref a :: st) w Q := fun p l e s m args below meth c A C H locs ls hl hW => va_iald C.1 C.2.1 C.2.2.2.2.2.2.2.2.1 hW.1 q 0 ha rfl hin hd (kk p l e s m args below meth c A C H locs ls hl hW)
theorem j_iast (q : Nat) {a n : Nat} {f : Nat → Int32} {i x : Int32} (hd : decode M.2.1 pc = .ok (.iastore, 1)) (ha : w[q]? = some (a, .inl (G.2.1.1, n, .inl f))) (hin : vp_in i n) (hw : w.set q (a, .inl (G.2.1.1, n, .inl (upd f i.toNatClampNeg x))) = w') (kk : J G M (pc + 1) lo st w' Q) : J G M pc lo (.int x :: .int i :: .ref a :: st) w Q := by
  subst hw
  exact fun p l e s m args below meth c A C H locs ls hl hW => va_iast C.1 C.2.1 C.2.2.2.2.2.2.2.2.1 hW.1 hW.2.1 hW.2.2 q 0 ha rfl hin hd (fun H1 locs1 hP hD hS => kk.at (fst_set ha) C hl ⟨hP, hD, hS⟩)
theorem j_alen (q : Nat) {a n : Nat} {f : Nat → Int32} {v : Int32} (hd : decode M.2.1 pc = .ok (.arraylength, 1)) (ha : w[q]? = some (a, .inl (G.2.1.1, n, .inl f))) (hv : Int32.ofNat n = v) (kk : J G M (pc + 1) lo (.int v :: st) w Q) : J G M pc lo (.ref a :: st) w Q := fun p l e s m args below meth c A C H locs ls hl hW => va_alen (ty := .int) C.1 C.2.1 C.2.2.2.2.2.2.2.2.1 hW.1 q 0 ha rfl hv hd (kk p l e s m args below meth c A C H locs ls hl hW)
theorem j_aald (q : Nat) {a n : Nat} {f : Nat → Option Nat} {i : Int32} {v : Value} (hd : decode M.2.1 pc = .ok (.aaload, 1)) (ha : w[q]? = some (a, .inl (G.2.1.2, n, .inr (.inr (.inr (.inr f)))))) (hin : vp_in i n) (hv : va_rf (f i.toNatClampNeg) = v) (kk : J G M (pc + 1) lo (v :: st) w Q) : J G M pc lo (.int i :: .ref a :: st) w Q := by
  subst hv
  have hlt : i.toNatClampNeg < n := Nat.not_le.mp fun q => hin (Or.inr q)
  intro p l e s m args below meth c A C H locs ls hl hW
  exact W.aald (v := va_rf (f i.toNatClampNeg)) (ty := .array .int) C.1 C.2.1 (hW.1 q _ ha) ((C.2.2.2.2.2.2.2.2.1.2 1 _ rfl).1 n (fun j => va_rf (f j))) rfl (fun q => by cases q) (by show ¬ (i < 0 ∨ (arrV _ _ _).slots.size ≤ _); rw [arrV_size]; exact hin) (by show (arrV _ _ _).slots[_]? = _; rw [arrV_read _ _ hlt]) rfl rfl hd (kk p l e s m args below meth c A C H locs ls hl hW)
theorem j_copyi (q0 q1 : Nat) {a0 a1 n0 n1 idx : Nat} {f g : Nat → Int32} {sp dp n : Int32} (hA : AC M.1.cls idx) (hd : decode M.2.1 pc = .ok (.invokestatic idx, 3)) (ha0 : w[q0]? = some (a0, .inl (G.2.1.1, n0, .inl f))) (ha1 : w[q1]? = some (a1, .inl (G.2.1.1, n1, .inl g))) (h1 : ¬ sp < 0) (h2 : ¬ dp < 0) (h3 : ¬ n < 0) (h4 : sp.toNatClampNeg + n.toNatClampNeg ≤ n0) (h5 : dp.toNatClampNeg + n.toNatClampNeg ≤ n1) (hfr : 1 ≤ M.2.2.2.2.frames) (hlc : (st.map fun v => v.category).sum + (nativeFrameWords "java/lang/System" "arraycopy" 5 + 11) ≤ M.2.2.2.2.locals)
    (hw : w.set q1 (a1, .inl (G.2.1.1, n1, .inl (va_cpy f g sp.toNatClampNeg dp.toNatClampNeg n.toNatClampNeg))) = w') (kk : J G M (pc + 3) lo st w' Q) : J G M pc lo (.int n :: .int dp :: .ref a1 :: .int sp :: .ref a0 :: st) w Q := by
  subst hw
  intro p l e s m args below meth c A C H locs ls hl hW
  exact va_copyi (ty := .int) C.1 C.2.1 (by rw [C.2.2.1]; exact hl.1.symm) C.2.2.2.2.1 (C.2.2.2.2.2.1 _ hA.1) (C.2.2.2.2.2.1 _ hA.2.1) (C.2.2.2.2.2.1 _ hA.2.2.1) (C.2.2.2.2.2.1 _ hA.2.2.2) C.2.2.2.2.2.2.2.2.1 hW.1 hW.2.1 hW.2.2 q0 q1 0 0 ha0 ha1 rfl rfl rfl h1 h2 h3 h4 h5 (fun _ _ => rfl) hfr hlc hd (fun H1 locs1 hP hD hS => kk.at (fst_set ha1) C hl ⟨hP, hD, hS⟩)
theorem j_mmin {idx : Nat} {x y : Int32} (h1 : Cond.methodLink M.1.cls idx Lib.Math.min.name ∈ tb) (h2 : Cond.static Lib.Math.min.name ∈ tb ∧ Cond.initialized "java/lang/Math" ∈ tb ∧ Cond.code Lib.Math.min.name Lib.Math.min.code 2 (some .int) ∈ tb) (hd : decode M.2.1 pc = .ok (.invokestatic idx, 3)) (hfr : 1 ≤ M.2.2.2.2.frames) (hlc : (st.map fun v => v.category).sum + 13 ≤ M.2.2.2.2.locals) (kk : J G M (pc + 3) lo (.int (if y < x then y else x) :: st) w Q) : J G M pc lo (.int y :: .int x :: st) w Q := fun p l e s m args below meth c A C H locs ls hl hW => va_mmin C.1 C.2.1 (by rw [C.2.2.1]; exact hl.1.symm) C.2.2.2.2.1 (C.2.2.2.2.2.1 _ h1) (C.2.2.2.2.2.1 _ h2.1) (C.2.2.2.2.2.1 _ h2.2.1) (C.2.2.2.2.2.1 _ h2.2.2) hfr hlc (Nat.zero_le _) (Nat.zero_le _) hd (kk p l e s m args below meth c A C H locs ls hl hW)
theorem j_mmax {idx : Nat} {x y : Int32} (h1 : Cond.methodLink M.1.cls idx Lib.Math.max.name ∈ tb) (h2 : Cond.static Lib.Math.max.name ∈ tb ∧ Cond.initialized "java/lang/Math" ∈ tb ∧ Cond.code Lib.Math.max.name Lib.Math.max.code 2 (some .int) ∈ tb) (hd : decode M.2.1 pc = .ok (.invokestatic idx, 3)) (hfr : 1 ≤ M.2.2.2.2.frames) (hlc : (st.map fun v => v.category).sum + 13 ≤ M.2.2.2.2.locals) (kk : J G M (pc + 3) lo (.int (if x < y then y else x) :: st) w Q) : J G M pc lo (.int y :: .int x :: st) w Q := fun p l e s m args below meth c A C H locs ls hl hW => va_mmax C.1 C.2.1 (by rw [C.2.2.1]; exact hl.1.symm) C.2.2.2.2.1 (C.2.2.2.2.2.1 _ h1) (C.2.2.2.2.2.1 _ h2.1) (C.2.2.2.2.2.1 _ h2.2.1) (C.2.2.2.2.2.1 _ h2.2.2) hfr hlc (Nat.zero_le _) (Nat.zero_le _) hd (kk p l e s m args below meth c A C H locs ls hl hW)
theorem j_ldc {idx : Nat} {v : Int32} (h : Cond.constant M.1.cls idx v ∈ tb) (hd : decode M.2.1 pc = .ok (.ldc idx, 2)) (k : J G M (pc + 2) lo (.int v :: st) w Q) : J G M pc lo st w Q := fun p l e s m args below meth c A C H locs ls hl hW => lv_ldc C.1 C.2.1 C.2.2.2.2.1 (C.2.2.2.2.2.1 _ h) hd (k p l e s m args below meth c A C H locs ls hl hW)
theorem j_ldc2 {idx : Nat} {v : Int64} (h : Cond.constantLong M.1.cls idx v ∈ tb) (hd : decode M.2.1 pc = .ok (.ldc2_w idx, 3)) (k : J G M (pc + 3) lo (.long v :: st) w Q) : J G M pc lo st w Q := fun p l e s m args below meth c A C H locs ls hl hW => lv_ldc2 C.1 C.2.1 C.2.2.2.2.1 (C.2.2.2.2.2.1 _ h) hd (k p l e s m args below meth c A C H locs ls hl hW)
/-- calls: what comes behind stands in the callee's end -/
theorem j_callV {Mc : Mt} {n idx b q0 ci : Nat} {fs : List Value} {q : vw_C} (hM : ML Mc n) (hV : VL M.1.cls idx Mc) (hd : decode M.2.1 pc = .ok (.invokevirtual idx, 3)) (ps : List (Option Nat)) (hC : Lay w wc ps) (hq0 : wc[q0]? = some (b, .inr (ci, fs))) (hci : classes[ci]? = some q) (hqc : q.1 = Mc.1.cls) (hlen : (lg_sl (.ref b :: As)).length ≤ Mc.2.2.1) (hR : Mc.2.2.2.2.frames + 1 ≤ M.2.2.2.2.frames ∧ 8 + (Mc.2.2.1 + 11) + Mc.2.2.2.2.locals ≤ M.2.2.2.2.locals) (hn : As.length = n) (hst : st0 = As.reverse ++ .ref b :: st) (hcat : (st.map fun v => v.category).sum ≤ 8)
    (hJ : J G Mc 0 (lv_args 0 (.ref b :: As)) [] wc (fun v w1 => J G M (pc + 3) lo (v.toList ++ st) (mrg w w1 ps) Q)) : J G M pc lo st0 w Q := fun p l e s m args below meth c A C H locs ls hl hW => w_callV C.1 C.2.1 C.2.2.1 C.2.2.2.2.1 C.2.2.2.2.2.1 C.2.2.2.2.2.2.2.1 C.2.2.2.2.2.2.2.2.1 C.2.2.2.2.2.2.2.2.2 hl.1 hW hM hV ps hC hq0 hci hqc hJ hlen hR ⟨Nat.zero_le _, Nat.zero_le _⟩ hn hst hcat hd (fun v w1 H1 locs1 h1 h2 h3 h4 => J.at h1 h3 C hl h4)
theorem j_callS {Mc : Mt} {n idx : Nat} (hM : ML Mc n) (hV : SL M.1.cls idx Mc) (hd : decode M.2.1 pc = .ok (.invokestatic idx, 3)) (ps : List (Option Nat)) (hC : Lay w wc ps) (hlen : (lg_sl As).length ≤ Mc.2.2.1) (hR : Mc.2.2.2.2.frames + 1 ≤ M.2.2.2.2.frames ∧ 8 + (Mc.2.2.1 + 11) + Mc.2.2.2.2.locals ≤ M.2.2.2.2.locals) (hn : As.length = n) (hst : st0 = As.reverse ++ st) (hcat : (st.map fun v => v.category).sum ≤ 8)
    (hJ : J G Mc 0 (lv_args 0 As) [] wc (fun v w1 => J G M (pc + 3) lo (v.toList ++ st) (mrg w w1 ps) Q)) : J G M pc lo st0 w Q := fun p l e s m args below meth c A C H locs ls hl hW => w_callS C.1 C.2.1 C.2.2.1 C.2.2.2.2.1 C.2.2.2.2.2.1 C.2.2.2.2.2.2.2.1 C.2.2.2.2.2.2.2.2.1 C.2.2.2.2.2.2.2.2.2 hl.1 hW hM hV ps hC hJ hlen hR ⟨Nat.zero_le _, Nat.zero_le _⟩ hn hst hcat hd (fun v w1 H1 locs1 h1 h2 h3 h4 => J.at h1 h3 C hl h4)
/-- a tableswitch: the values are low, low + 1 ..; tg has the targets in their order -/
theorem j_tsw {dflt low high : Int} {offs : Array Int} {len : Nat} {x : Int32} (hd : decode M.2.1 pc = .ok (.tableswitch dflt low high offs, len)) (tg : List (Int32 × Nat)) (dt : Nat) (hdt : (pc : Int) + dflt = (dt : Int)) (hlen : low + tg.length = high + 1) (hok : (List.range tg.length).all (fun j => match tg[j]?, offs[j]? with | some (v, t), some o => decide (v.toInt = low + j) && decide ((pc : Int) + o = t) | _, _ => false) = true)
    (k : ∀ v t, (v, t) ∈ tg → x = v → J G M t lo st w Q) (kd : (∀ v t, (v, t) ∈ tg → ¬ x = v) → J G M dt lo st w Q) : J G M pc lo (.int x :: st) w Q := by
  have key : ∀ j : Nat, j < tg.length → ∃ v t o, tg[j]? = some (v, t) ∧ offs[j]? = some o ∧ v.toInt = low + j ∧ (pc : Int) + o = t := by
    intro j hj
    have h1 := List.all_eq_true.mp hok j (List.mem_range.mpr hj)
    cases ha : tg[j]? with
    | none => rw [ha] at h1; cases h1
    | some vt =>
      obtain ⟨v, t⟩ := vt
      cases hb : offs[j]? with
      | none => rw [ha, hb] at h1; cases h1
      | some o =>
        rw [ha, hb] at h1
        simp only [Bool.and_eq_true, decide_eq_true_eq] at h1
        exact ⟨v, t, o, rfl, rfl, h1.1, h1.2⟩
  by_cases hr : x.toInt < low ∨ high < x.toInt
  · have hno : ∀ v t, (v, t) ∈ tg → ¬ x = v := by
      intro v t hm hx
      obtain ⟨j, hj⟩ := List.getElem?_of_mem hm
      have hjl := (List.getElem?_eq_some_iff.mp hj).1
      obtain ⟨v2, t2, o, h1, h2, h3, h4⟩ := key j hjl
      rw [hj] at h1
      cases h1
      subst hx
      rcases hr with h | h <;> omega
    exact fun p l e s m args below meth c A C H locs ls hl hW => lv_tableOut C.1 C.2.1 hd hr hdt (kd hno p l e s m args below meth c A C H locs ls hl hW)
  · have h1 : ¬ x.toInt < low := fun h => hr (Or.inl h)
    have h2 : ¬ high < x.toInt := fun h => hr (Or.inr h)
    obtain ⟨v, t, o, g1, g2, g3, g4⟩ := key (x.toInt - low).toNat (by omega)
    have hx : x = v := Int32.toInt_inj.mp (by rw [g3]; omega)
    exact fun p l e s m args below meth c A C H locs ls hl hW => lv_tableIn C.1 C.2.1 hd h1 h2 g2 g4 (k v t (List.mem_of_getElem? g1) hx p l e s m args below meth c A C H locs ls hl hW)
end JM
section JX
variable {G : GG} {M : Mt} {pc : Nat} {lo lo' : List (Nat × Value)} {st st0 As : List Value} {w w' wc : va_W} {Q Q' : Option Value → va_W → Prop}
theorem j_cpy (q0 q1 : Nat) {a0 a1 n0 n1 idx : Nat} {f g : Nat → Int32} {sp dp n : Int32} (sp' dp' n' : Nat) (hA : AC M.1.cls idx) (hd : decode M.2.1 pc = .ok (.invokestatic idx, 3)) (ha0 : w[q0]? = some (a0, .inl (G.2.1.1, n0, .inl f))) (ha1 : w[q1]? = some (a1, .inl (G.2.1.1, n1, .inl g))) (h0 : ¬ sp < 0 ∧ ¬ dp < 0 ∧ ¬ n < 0 ∧ sp.toNatClampNeg = sp' ∧ dp.toNatClampNeg = dp' ∧ n.toNatClampNeg = n') (h4 : sp' + n' ≤ n0) (h5 : dp' + n' ≤ n1) (hfr : 1 ≤ M.2.2.2.2.frames) (hlc : (st.map fun v => v.category).sum + (nativeFrameWords "java/lang/System" "arraycopy" 5 + 11) ≤ M.2.2.2.2.locals)
    (hw : w.set q1 (a1, .inl (G.2.1.1, n1, .inl (va_cpy f g sp' dp' n'))) = w') (kk : J G M (pc + 3) lo st w' Q) : J G M pc lo (.int n :: .int dp :: .ref a1 :: .int sp :: .ref a0 :: st) w Q := by
  obtain ⟨h1, h2, h3, rfl, rfl, rfl⟩ := h0
  exact j_copyi q0 q1 hA hd ha0 ha1 h1 h2 h3 h4 h5 hfr hlc hw kk
theorem j_lsw2 {dflt o0 o1 : Int} {len : Nat} {x : Int32} {v0 v1 : Int32} {t0 t1 dt : Nat} (hd : decode M.2.1 pc = .ok (.lookupswitch dflt #[(v0.toInt, o0), (v1.toInt, o1)], len)) (hv : v0.toInt < v1.toInt) (h0 : (pc : Int) + o0 = t0) (h1 : (pc : Int) + o1 = t1) (h2 : (pc : Int) + dflt = dt)
    (k0 : x = v0 → J G M t0 lo st w Q) (k1 : x = v1 → J G M t1 lo st w Q) (kd : (¬ x = v0 ∧ ¬ x = v1) → J G M dt lo st w Q) : J G M pc lo (.int x :: st) w Q := by
  have hp : ((#[(v0.toInt, o0), (v1.toInt, o1)] : Array (Int × Int)).toList.zip ((#[(v0.toInt, o0), (v1.toInt, o1)] : Array (Int × Int)).toList.drop 1)).all (fun (a, next) => a.1 < next.1) = true := by simp [hv]
  by_cases e0 : x = v0
  · exact fun p l e s m args below meth c A C H locs ls hl hW => lv_lookup C.1 C.2.1 hd hp (by simp [Op.lookupswitch.offset, e0]) h0 (k0 e0 p l e s m args below meth c A C H locs ls hl hW)
  · have f0 : ¬ x.toInt = v0.toInt := fun h => e0 (Int32.toInt_inj.mp h)
    by_cases e1 : x = v1
    · have f1 : ¬ v1.toInt = v0.toInt := by omega
      exact fun p l e s m args below meth c A C H locs ls hl hW => lv_lookup C.1 C.2.1 hd hp (by subst e1; simp [Op.lookupswitch.offset, f1, Ne.symm f1, eq_comm]) h1 (k1 e1 p l e s m args below meth c A C H locs ls hl hW)
    · have f1 : ¬ x.toInt = v1.toInt := fun h => e1 (Int32.toInt_inj.mp h)
      exact fun p l e s m args below meth c A C H locs ls hl hW => lv_lookup C.1 C.2.1 hd hp (by simp [Op.lookupswitch.offset, f0, f1, Ne.symm f0, Ne.symm f1, eq_comm]) h2 (kd ⟨e0, e1⟩ p l e s m args below meth c A C H locs ls hl hW)
theorem mrg_go : ∀ (w1 w : va_W) (n : Nat) (w2 : va_W), w1.length = w.length → (∀ j : Nat, j < w1.length → w2[n + j]? = w1[j]?) → mrg w w2 ((List.range' n w.length).map some) = w1
  | [], [], n, w2, _, _ => rfl
  | [], y :: ys, n, w2, h, _ => by simp at h
  | x :: xs, [], n, w2, h, _ => by simp at h
  | x :: xs, y :: ys, n, w2, h, h2 => by
    show w2.getD n y :: mrg ys w2 ((List.range' (n + 1) ys.length).map some) = x :: xs
    have e0 := h2 0 (by simp)
    rw [mrg_go xs ys (n + 1) w2 (by simpa using h) (fun j hj => by
      have := h2 (j + 1) (by simp; omega)
      rw [show n + 1 + j = n + (j + 1) by omega]
      simpa using this)]
    rw [List.getD_eq_getElem?_getD]
    have e1 : w2[n]? = some x := by simpa using e0
    rw [e1]
    rfl
theorem mrg_all {w w1 : va_W} (h : w1.map Prod.fst = w.map Prod.fst) : mrg w w1 ((List.range w.length).map some) = w1 := by
  have hl : w1.length = w.length := by
    have := congrArg List.length h
    simpa using this
  rw [List.range_eq_range']
  exact mrg_go w1 w 0 w1 hl (fun j _ => by rw [Nat.zero_add])
theorem lay_all {w : va_W} : Lay w w ((List.range w.length).map some) := by
  refine ⟨mrg_all rfl, by simp, ?_, ?_⟩
  · simp
  · simp
theorem j_callV0 {Mc : Mt} {n idx b q0 ci : Nat} {fs : List Value} {q : vw_C} (hM : ML Mc n) (hV : VL M.1.cls idx Mc) (hd : decode M.2.1 pc = .ok (.invokevirtual idx, 3)) (hq0 : w[q0]? = some (b, .inr (ci, fs))) (hci : classes[ci]? = some q) (hqc : q.1 = Mc.1.cls) (hlen : (lg_sl (.ref b :: As)).length ≤ Mc.2.2.1) (hR : Mc.2.2.2.2.frames + 1 ≤ M.2.2.2.2.frames ∧ 8 + (Mc.2.2.1 + 11) + Mc.2.2.2.2.locals ≤ M.2.2.2.2.locals) (hn : As.length = n) (hst : st0 = As.reverse ++ .ref b :: st) (hcat : (st.map fun v => v.category).sum ≤ 8)
    (hJ : J G Mc 0 (lv_args 0 (.ref b :: As)) [] w (fun v w1 => J G M (pc + 3) lo (v.toList ++ st) w1 Q)) : J G M pc lo st0 w Q := fun p l e s m args below meth c A C H locs ls hl hW => w_callV C.1 C.2.1 C.2.2.1 C.2.2.2.2.1 C.2.2.2.2.2.1 C.2.2.2.2.2.2.2.1 C.2.2.2.2.2.2.2.2.1 C.2.2.2.2.2.2.2.2.2 hl.1 hW hM hV _ lay_all hq0 hci hqc hJ hlen hR ⟨Nat.zero_le _, Nat.zero_le _⟩ hn hst hcat hd (fun v w1 H1 locs1 h1 h2 h3 h4 => by
  rw [mrg_all h2] at h3 h4
  exact J.at h1 h3 C hl h4)
theorem j_callS0 {Mc : Mt} {n idx : Nat} (hM : ML Mc n) (hV : SL M.1.cls idx Mc) (hd : decode M.2.1 pc = .ok (.invokestatic idx, 3)) (hlen : (lg_sl As).length ≤ Mc.2.2.1) (hR : Mc.2.2.2.2.frames + 1 ≤ M.2.2.2.2.frames ∧ 8 + (Mc.2.2.1 + 11) + Mc.2.2.2.2.locals ≤ M.2.2.2.2.locals) (hn : As.length = n) (hst : st0 = As.reverse ++ st) (hcat : (st.map fun v => v.category).sum ≤ 8)
    (hJ : J G Mc 0 (lv_args 0 As) [] [] (fun v w1 => J G M (pc + 3) lo (v.toList ++ st) w Q)) : J G M pc lo st0 w Q := fun p l e s m args below meth c A C H locs ls hl hW => w_callS C.1 C.2.1 C.2.2.1 C.2.2.2.2.1 C.2.2.2.2.2.1 C.2.2.2.2.2.2.2.1 C.2.2.2.2.2.2.2.2.1 C.2.2.2.2.2.2.2.2.2 hl.1 hW hM hV [] ⟨by cases w <;> rfl, Nat.zero_le _, rfl, rfl⟩ hJ hlen hR ⟨Nat.zero_le _, Nat.zero_le _⟩ hn hst hcat hd (fun v w1 H1 locs1 h1 h2 h3 h4 => by
  have e : mrg w w1 [] = w := by cases w <;> rfl
  rw [e] at h4
  exact J.at h1 rfl C hl h4)
end JX
end
section
set_option maxRecDepth 20000 in
theorem tb_0 : (Jvm.Cond.selects "RainLetters$Page" ⟨"RainLetters$Page", "fitsStreet", "(I)Z"⟩ ⟨"RainLetters$Page", "fitsStreet", "(I)Z"⟩) ∈ tb := tb_in 0 rfl rfl
set_option maxRecDepth 20000 in
theorem tb_1 : (Jvm.Cond.selects "RainLetters$Page" ⟨"RainLetters$Page", "fitsWord", "(I)Z"⟩ ⟨"RainLetters$Page", "fitsWord", "(I)Z"⟩) ∈ tb := tb_in 1 rfl rfl
set_option maxRecDepth 20000 in
theorem tb_2 : (Jvm.Cond.selects "RainLetters" ⟨"RainLetters", "isGutter", "(I)Z"⟩ ⟨"RainLetters", "isGutter", "(I)Z"⟩) ∈ tb := tb_in 2 rfl rfl
set_option maxRecDepth 20000 in
theorem tb_3 : (Jvm.Cond.selects "RainLetters" ⟨"RainLetters", "hasStreet", "()Z"⟩ ⟨"RainLetters", "hasStreet", "()Z"⟩) ∈ tb := tb_in 3 rfl rfl
set_option maxRecDepth 20000 in
theorem tb_4 : (Jvm.Cond.selects "RainLetters$Street" ⟨"RainLetters$Street", "passOn", "(II)I"⟩ ⟨"RainLetters$Street", "passOn", "(II)I"⟩) ∈ tb := tb_in 4 rfl rfl
set_option maxRecDepth 20000 in
theorem tb_5 : (Jvm.Cond.selects "RainLetters$Street" ⟨"RainLetters$Street", "letsThrough", "(II)Z"⟩ ⟨"RainLetters$Street", "letsThrough", "(II)Z"⟩) ∈ tb := tb_in 5 rfl rfl
set_option maxRecDepth 20000 in
theorem tb_6 : (Jvm.Cond.selects "RainLetters$Street" ⟨"RainLetters$Street", "runOut", "(II)V"⟩ ⟨"RainLetters$Street", "runOut", "(II)V"⟩) ∈ tb := tb_in 6 rfl rfl
set_option maxRecDepth 20000 in
theorem tb_7 : (Jvm.Cond.selects "RainLetters" ⟨"RainLetters", "isDrop", "(I)Z"⟩ ⟨"RainLetters", "isDrop", "(I)Z"⟩) ∈ tb := tb_in 7 rfl rfl
set_option maxRecDepth 20000 in
theorem tb_8 : (Jvm.Cond.selects "RainLetters" ⟨"RainLetters", "seekTurns", "(I)V"⟩ ⟨"RainLetters", "seekTurns", "(I)V"⟩) ∈ tb := tb_in 8 rfl rfl
set_option maxRecDepth 20000 in
theorem tb_9 : (Jvm.Cond.selects "RainLetters" ⟨"RainLetters", "countWords", "(I)I"⟩ ⟨"RainLetters", "countWords", "(I)I"⟩) ∈ tb := tb_in 9 rfl rfl
set_option maxRecDepth 20000 in
theorem tb_10 : (Jvm.Cond.selects "RainLetters" ⟨"RainLetters", "runMixed", "(II)V"⟩ ⟨"RainLetters", "runMixed", "(II)V"⟩) ∈ tb := tb_in 10 rfl rfl
set_option maxRecDepth 20000 in
theorem tb_11 : (Jvm.Cond.selects "RainLetters" ⟨"RainLetters", "noteWord", "(I)Z"⟩ ⟨"RainLetters", "noteWord", "(I)Z"⟩) ∈ tb := tb_in 11 rfl rfl
set_option maxRecDepth 20000 in
theorem tb_12 : (Jvm.Cond.selects "RainLetters" ⟨"RainLetters", "mixGutters", "(J)J"⟩ ⟨"RainLetters", "mixGutters", "(J)J"⟩) ∈ tb := tb_in 12 rfl rfl
set_option maxRecDepth 20000 in
theorem tb_13 : (Jvm.Cond.selects "RainLetters" ⟨"RainLetters", "mixDrops", "(J)J"⟩ ⟨"RainLetters", "mixDrops", "(J)J"⟩) ∈ tb := tb_in 13 rfl rfl
set_option maxRecDepth 20000 in
theorem tb_14 : (Jvm.Cond.selects "RainLettersModel" ⟨"RainLettersModel", "faultOf", "(I)I"⟩ ⟨"RainLettersModel", "faultOf", "(I)I"⟩) ∈ tb := tb_in 14 rfl rfl
set_option maxRecDepth 20000 in
theorem tb_15 : (Jvm.Cond.selects "RainLettersModel" ⟨"RainLettersModel", "outs", "()I"⟩ ⟨"RainLettersModel", "outs", "()I"⟩) ∈ tb := tb_in 15 rfl rfl
set_option maxRecDepth 20000 in
theorem tb_16 : (Jvm.Cond.selects "RainLettersModel" ⟨"RainLettersModel", "isGutter", "(I)Z"⟩ ⟨"RainLettersModel", "isGutter", "(I)Z"⟩) ∈ tb := tb_in 16 rfl rfl
set_option maxRecDepth 20000 in
theorem tb_17 : (Jvm.Cond.selects "RainLettersModel" ⟨"RainLettersModel", "tell", "(II)I"⟩ ⟨"RainLettersModel", "tell", "(II)I"⟩) ∈ tb := tb_in 17 rfl rfl
set_option maxRecDepth 20000 in
theorem tb_18 : (Jvm.Cond.selects "RainLettersModel" ⟨"RainLettersModel", "isPageWord", "()Z"⟩ ⟨"RainLettersModel", "isPageWord", "()Z"⟩) ∈ tb := tb_in 18 rfl rfl
set_option maxRecDepth 20000 in
theorem tb_19 : (Jvm.Cond.selects "RainLettersModel" ⟨"RainLettersModel", "asItIs", "()V"⟩ ⟨"RainLettersModel", "asItIs", "()V"⟩) ∈ tb := tb_in 19 rfl rfl
set_option maxRecDepth 20000 in
theorem tb_20 : (Jvm.Cond.selects "RainLettersModel" ⟨"RainLettersModel", "layWays", "(I)I"⟩ ⟨"RainLettersModel", "layWays", "(I)I"⟩) ∈ tb := tb_in 20 rfl rfl
set_option maxRecDepth 20000 in
theorem tb_21 : (Jvm.Cond.selects "RainLettersModel" ⟨"RainLettersModel", "fallsAgain", "()V"⟩ ⟨"RainLettersModel", "fallsAgain", "()V"⟩) ∈ tb := tb_in 21 rfl rfl
set_option maxRecDepth 20000 in
theorem tb_22 : (Jvm.Cond.selects "RainLettersModel" ⟨"RainLettersModel", "hasPage", "(I)Z"⟩ ⟨"RainLettersModel", "hasPage", "(I)Z"⟩) ∈ tb := tb_in 22 rfl rfl
set_option maxRecDepth 20000 in
theorem tb_23 : (Jvm.Cond.selects "RainLettersModel" ⟨"RainLettersModel", "isOrder", "(II)Z"⟩ ⟨"RainLettersModel", "isOrder", "(II)Z"⟩) ∈ tb := tb_in 23 rfl rfl
set_option maxRecDepth 20000 in
theorem tb_24 : (Jvm.Cond.selects "RainLettersModel" ⟨"RainLettersModel", "wordOf", "(I)I"⟩ ⟨"RainLettersModel", "wordOf", "(I)I"⟩) ∈ tb := tb_in 24 rfl rfl
set_option maxRecDepth 20000 in
theorem tb_25 : (Jvm.Cond.selects "RainLettersModel" ⟨"RainLettersModel", "founds", "()I"⟩ ⟨"RainLettersModel", "founds", "()I"⟩) ∈ tb := tb_in 25 rfl rfl
set_option maxRecDepth 20000 in
theorem tb_26 : (Jvm.Cond.selects "RainLettersModel" ⟨"RainLettersModel", "kindBits", "(I)I"⟩ ⟨"RainLettersModel", "kindBits", "(I)I"⟩) ∈ tb := tb_in 26 rfl rfl
set_option maxRecDepth 20000 in
theorem tb_27 : (Jvm.Cond.selects "RainLettersModel" ⟨"RainLettersModel", "isFound", "()Z"⟩ ⟨"RainLettersModel", "isFound", "()Z"⟩) ∈ tb := tb_in 27 rfl rfl
set_option maxRecDepth 20000 in
theorem tb_28 : (Jvm.Cond.selects "RainLettersModel" ⟨"RainLettersModel", "letterBits", "(I)I"⟩ ⟨"RainLettersModel", "letterBits", "(I)I"⟩) ∈ tb := tb_in 28 rfl rfl
set_option maxRecDepth 20000 in
theorem tb_29 : (Jvm.Cond.selects "RainLettersModel" ⟨"RainLettersModel", "draw", "(I)I"⟩ ⟨"RainLettersModel", "draw", "(I)I"⟩) ∈ tb := tb_in 29 rfl rfl
set_option maxRecDepth 20000 in
theorem tb_30 : (Jvm.Cond.selects "RainLettersModel" ⟨"RainLettersModel", "countOf", "(I)I"⟩ ⟨"RainLettersModel", "countOf", "(I)I"⟩) ∈ tb := tb_in 30 rfl rfl
set_option maxRecDepth 20000 in
theorem tb_31 : (Jvm.Cond.selects "RainLettersModel" ⟨"RainLettersModel", "sayGutter", "(I)V"⟩ ⟨"RainLettersModel", "sayGutter", "(I)V"⟩) ∈ tb := tb_in 31 rfl rfl
set_option maxRecDepth 20000 in
theorem tb_32 : (Jvm.Cond.selects "RainLettersModel" ⟨"RainLettersModel", "say", "(J)V"⟩ ⟨"RainLettersModel", "say", "(J)V"⟩) ∈ tb := tb_in 32 rfl rfl
set_option maxRecDepth 20000 in
theorem tb_34 : (Jvm.Cond.initialized "RainLetters") ∈ tb := tb_in 34 rfl rfl
set_option maxRecDepth 20000 in
theorem tb_35 : (Jvm.Cond.initialized "RainLetters$Page") ∈ tb := tb_in 35 rfl rfl
set_option maxRecDepth 20000 in
theorem tb_36 : (Jvm.Cond.initialized "RainLetters$Scene") ∈ tb := tb_in 36 rfl rfl
set_option maxRecDepth 20000 in
theorem tb_37 : (Jvm.Cond.initialized "RainLetters$Street") ∈ tb := tb_in 37 rfl rfl
set_option maxRecDepth 20000 in
theorem tb_38 : (Jvm.Cond.initialized "RainLetters$Fallen") ∈ tb := tb_in 38 rfl rfl
set_option maxRecDepth 20000 in
theorem tb_39 : (Jvm.Cond.initialized "RainLetters$Finds") ∈ tb := tb_in 39 rfl rfl
set_option maxRecDepth 20000 in
theorem tb_40 : (Jvm.Cond.initialized "java/util/Arrays") ∈ tb := tb_in 40 rfl rfl
set_option maxRecDepth 20000 in
theorem tb_41 : (Jvm.Cond.initialized "RainLetters$Turns") ∈ tb := tb_in 41 rfl rfl
set_option maxRecDepth 20000 in
theorem tb_42 : (Jvm.Cond.initialized "RainLettersModel") ∈ tb := tb_in 42 rfl rfl
set_option maxRecDepth 20000 in
theorem tb_43 : (Jvm.Cond.initialized "java/lang/String") ∈ tb := tb_in 43 rfl rfl
set_option maxRecDepth 20000 in
theorem tb_44 : (Jvm.Cond.initialized "java/lang/StringLatin1") ∈ tb := tb_in 44 rfl rfl
set_option maxRecDepth 20000 in
theorem tb_45 : (Jvm.Cond.initialized "java/lang/Math") ∈ tb := tb_in 45 rfl rfl
set_option maxRecDepth 20000 in
theorem tb_49 : (Jvm.Cond.initialized "java/lang/System") ∈ tb := tb_in 49 rfl rfl
set_option maxRecDepth 20000 in
theorem tb_50 : (Jvm.Cond.initialized "java/lang/Integer") ∈ tb := tb_in 50 rfl rfl
set_option maxRecDepth 20000 in
theorem tb_65 : (Jvm.Cond.fieldLink "RainLetters$Page" (9 : Nat) "RainLetters$Page" "codes" "[I") ∈ tb := tb_in 65 rfl rfl
set_option maxRecDepth 20000 in
theorem tb_66 : (Jvm.Cond.fieldLink "RainLetters" (54 : Nat) "RainLetters$Page" "codes" "[I") ∈ tb := tb_in 66 rfl rfl
set_option maxRecDepth 20000 in
theorem tb_67 : (Jvm.Cond.fieldLink "RainLetters$Page" (15 : Nat) "RainLetters$Page" "size" "I") ∈ tb := tb_in 67 rfl rfl
set_option maxRecDepth 20000 in
theorem tb_68 : (Jvm.Cond.fieldLink "RainLetters" (50 : Nat) "RainLetters$Page" "size" "I") ∈ tb := tb_in 68 rfl rfl
set_option maxRecDepth 20000 in
theorem tb_89 : (Jvm.Cond.fieldLink "RainLetters$Street" (9 : Nat) "RainLetters$Street" "kinds" "[I") ∈ tb := tb_in 89 rfl rfl
set_option maxRecDepth 20000 in
theorem tb_90 : (Jvm.Cond.fieldLink "RainLetters" (68 : Nat) "RainLetters$Street" "kinds" "[I") ∈ tb := tb_in 90 rfl rfl
set_option maxRecDepth 20000 in
theorem tb_91 : (Jvm.Cond.fieldLink "RainLetters$Street" (15 : Nat) "RainLetters$Street" "flows" "[I") ∈ tb := tb_in 91 rfl rfl
set_option maxRecDepth 20000 in
theorem tb_92 : (Jvm.Cond.fieldLink "RainLetters" (74 : Nat) "RainLetters$Street" "flows" "[I") ∈ tb := tb_in 92 rfl rfl
set_option maxRecDepth 20000 in
theorem tb_93 : (Jvm.Cond.fieldLink "RainLetters$Street" (18 : Nat) "RainLetters$Street" "held" "[I") ∈ tb := tb_in 93 rfl rfl
set_option maxRecDepth 20000 in
theorem tb_94 : (Jvm.Cond.fieldLink "RainLetters" (116 : Nat) "RainLetters$Street" "held" "[I") ∈ tb := tb_in 94 rfl rfl
set_option maxRecDepth 20000 in
theorem tb_95 : (Jvm.Cond.fieldLink "RainLetters$Street" (21 : Nat) "RainLetters$Street" "sieved" "[I") ∈ tb := tb_in 95 rfl rfl
set_option maxRecDepth 20000 in
theorem tb_96 : (Jvm.Cond.fieldLink "RainLetters$Street" (24 : Nat) "RainLetters$Street" "came" "[I") ∈ tb := tb_in 96 rfl rfl
set_option maxRecDepth 20000 in
theorem tb_97 : (Jvm.Cond.fieldLink "RainLetters" (113 : Nat) "RainLetters$Street" "came" "[I") ∈ tb := tb_in 97 rfl rfl
set_option maxRecDepth 20000 in
theorem tb_98 : (Jvm.Cond.fieldLink "RainLetters$Street" (27 : Nat) "RainLetters$Street" "lost" "[I") ∈ tb := tb_in 98 rfl rfl
set_option maxRecDepth 20000 in
theorem tb_99 : (Jvm.Cond.fieldLink "RainLetters" (122 : Nat) "RainLetters$Street" "lost" "[I") ∈ tb := tb_in 99 rfl rfl
set_option maxRecDepth 20000 in
theorem tb_100 : (Jvm.Cond.fieldLink "RainLetters$Street" (30 : Nat) "RainLetters$Street" "lengths" "[I") ∈ tb := tb_in 100 rfl rfl
set_option maxRecDepth 20000 in
theorem tb_101 : (Jvm.Cond.fieldLink "RainLetters" (119 : Nat) "RainLetters$Street" "lengths" "[I") ∈ tb := tb_in 101 rfl rfl
set_option maxRecDepth 20000 in
theorem tb_102 : (Jvm.Cond.fieldLink "RainLetters$Street" (35 : Nat) "RainLetters$Street" "words" "[[I") ∈ tb := tb_in 102 rfl rfl
set_option maxRecDepth 20000 in
theorem tb_103 : (Jvm.Cond.fieldLink "RainLetters" (125 : Nat) "RainLetters$Street" "words" "[[I") ∈ tb := tb_in 103 rfl rfl
set_option maxRecDepth 20000 in
theorem tb_127 : (Jvm.Cond.fieldLink "RainLetters$Fallen" (9 : Nat) "RainLetters$Fallen" "gutters" "[I") ∈ tb := tb_in 127 rfl rfl
set_option maxRecDepth 20000 in
theorem tb_128 : (Jvm.Cond.fieldLink "RainLetters$Street" (63 : Nat) "RainLetters$Fallen" "gutters" "[I") ∈ tb := tb_in 128 rfl rfl
set_option maxRecDepth 20000 in
theorem tb_129 : (Jvm.Cond.fieldLink "RainLetters" (142 : Nat) "RainLetters$Fallen" "gutters" "[I") ∈ tb := tb_in 129 rfl rfl
set_option maxRecDepth 20000 in
theorem tb_130 : (Jvm.Cond.fieldLink "RainLetters$Fallen" (15 : Nat) "RainLetters$Fallen" "letters" "[I") ∈ tb := tb_in 130 rfl rfl
set_option maxRecDepth 20000 in
theorem tb_131 : (Jvm.Cond.fieldLink "RainLetters$Street" (66 : Nat) "RainLetters$Fallen" "letters" "[I") ∈ tb := tb_in 131 rfl rfl
set_option maxRecDepth 20000 in
theorem tb_132 : (Jvm.Cond.fieldLink "RainLetters" (145 : Nat) "RainLetters$Fallen" "letters" "[I") ∈ tb := tb_in 132 rfl rfl
set_option maxRecDepth 20000 in
theorem tb_133 : (Jvm.Cond.fieldLink "RainLetters$Fallen" (18 : Nat) "RainLetters$Fallen" "size" "I") ∈ tb := tb_in 133 rfl rfl
set_option maxRecDepth 20000 in
theorem tb_134 : (Jvm.Cond.fieldLink "RainLetters" (88 : Nat) "RainLetters$Fallen" "size" "I") ∈ tb := tb_in 134 rfl rfl
set_option maxRecDepth 20000 in
theorem tb_135 : (Jvm.Cond.fieldLink "RainLetters$Street" (57 : Nat) "RainLetters$Fallen" "size" "I") ∈ tb := tb_in 135 rfl rfl
set_option maxRecDepth 20000 in
theorem tb_150 : (Jvm.Cond.methodLink "RainLetters$Finds" (20 : Nat) ({ cls := "RainLetters$Finds", name := "clear", desc := "()V" } : Jvm.MethodName)) ∈ tb := tb_in 150 rfl rfl
set_option maxRecDepth 20000 in
theorem tb_151 : (Jvm.Cond.instanceMethod ({ cls := "RainLetters$Finds", name := "clear", desc := "()V" } : Jvm.MethodName)) ∈ tb := tb_in 151 rfl rfl
set_option maxRecDepth 20000 in
theorem tb_152 : (Jvm.Cond.selects "RainLetters$Finds" ({ cls := "RainLetters$Finds", name := "clear", desc := "()V" } : Jvm.MethodName) ({ cls := "RainLetters$Finds", name := "clear", desc := "()V" } : Jvm.MethodName)) ∈ tb := tb_in 152 rfl rfl
set_option maxRecDepth 20000 in
theorem tb_153 : (Jvm.Cond.code ({ cls := "RainLetters$Finds", name := "clear", desc := "()V" } : Jvm.MethodName) prog_3_method_2_code (1 : Nat) (Option.none : Option Jvm.ClassFile.FieldType)) ∈ tb := tb_in 153 rfl rfl
set_option maxRecDepth 20000 in
theorem tb_154 : (Jvm.Cond.methodLink "RainLetters$Finds" (23 : Nat) ({ cls := "java/util/Arrays", name := "fill", desc := "([II)V" } : Jvm.MethodName)) ∈ tb := tb_in 154 rfl rfl
set_option maxRecDepth 20000 in
theorem tb_155 : (Jvm.Cond.static ({ cls := "java/util/Arrays", name := "fill", desc := "([II)V" } : Jvm.MethodName)) ∈ tb := tb_in 155 rfl rfl
set_option maxRecDepth 20000 in
theorem tb_156 : (Jvm.Cond.code ({ cls := "java/util/Arrays", name := "fill", desc := "([II)V" } : Jvm.MethodName) prog_17_method_103_code (4 : Nat) (Option.none : Option Jvm.ClassFile.FieldType)) ∈ tb := tb_in 156 rfl rfl
set_option maxRecDepth 20000 in
theorem tb_157 : (Jvm.Cond.fieldLink "RainLetters$Finds" (11 : Nat) "RainLetters$Finds" "words" "[[I") ∈ tb := tb_in 157 rfl rfl
set_option maxRecDepth 20000 in
theorem tb_158 : (Jvm.Cond.fieldLink "RainLetters" (181 : Nat) "RainLetters$Finds" "words" "[[I") ∈ tb := tb_in 158 rfl rfl
set_option maxRecDepth 20000 in
theorem tb_159 : (Jvm.Cond.fieldLink "RainLetters$Finds" (16 : Nat) "RainLetters$Finds" "lengths" "[I") ∈ tb := tb_in 159 rfl rfl
set_option maxRecDepth 20000 in
theorem tb_160 : (Jvm.Cond.fieldLink "RainLetters" (186 : Nat) "RainLetters$Finds" "lengths" "[I") ∈ tb := tb_in 160 rfl rfl
set_option maxRecDepth 20000 in
theorem tb_166 : (Jvm.Cond.fieldLink "RainLetters$Scene" (10 : Nat) "RainLetters$Scene" "street" "LRainLetters$Street;") ∈ tb := tb_in 166 rfl rfl
set_option maxRecDepth 20000 in
theorem tb_167 : (Jvm.Cond.fieldLink "RainLetters" (65 : Nat) "RainLetters$Scene" "street" "LRainLetters$Street;") ∈ tb := tb_in 167 rfl rfl
set_option maxRecDepth 20000 in
theorem tb_168 : (Jvm.Cond.fieldLink "RainLetters$Scene" (19 : Nat) "RainLetters$Scene" "fallen" "LRainLetters$Fallen;") ∈ tb := tb_in 168 rfl rfl
set_option maxRecDepth 20000 in
theorem tb_169 : (Jvm.Cond.fieldLink "RainLetters" (84 : Nat) "RainLetters$Scene" "fallen" "LRainLetters$Fallen;") ∈ tb := tb_in 169 rfl rfl
set_option maxRecDepth 20000 in
theorem tb_170 : (Jvm.Cond.fieldLink "RainLetters$Scene" (26 : Nat) "RainLetters$Scene" "finds" "LRainLetters$Finds;") ∈ tb := tb_in 170 rfl rfl
set_option maxRecDepth 20000 in
theorem tb_171 : (Jvm.Cond.fieldLink "RainLetters" (91 : Nat) "RainLetters$Scene" "finds" "LRainLetters$Finds;") ∈ tb := tb_in 171 rfl rfl
set_option maxRecDepth 20000 in
theorem tb_187 : (Jvm.Cond.fieldLink "RainLetters$Turns" (9 : Nat) "RainLetters$Turns" "few" "I") ∈ tb := tb_in 187 rfl rfl
set_option maxRecDepth 20000 in
theorem tb_188 : (Jvm.Cond.fieldLink "RainLetters" (255 : Nat) "RainLetters$Turns" "few" "I") ∈ tb := tb_in 188 rfl rfl
set_option maxRecDepth 20000 in
theorem tb_189 : (Jvm.Cond.fieldLink "RainLetters$Turns" (15 : Nat) "RainLetters$Turns" "bits" "I") ∈ tb := tb_in 189 rfl rfl
set_option maxRecDepth 20000 in
theorem tb_190 : (Jvm.Cond.fieldLink "RainLetters$Turns" (18 : Nat) "RainLetters$Turns" "ways" "I") ∈ tb := tb_in 190 rfl rfl
set_option maxRecDepth 20000 in
theorem tb_198 : (Jvm.Cond.fieldLink "RainLetters" (10 : Nat) "RainLetters" "page" "LRainLetters$Page;") ∈ tb := tb_in 198 rfl rfl
set_option maxRecDepth 20000 in
theorem tb_199 : (Jvm.Cond.fieldLink "RainLetters" (19 : Nat) "RainLetters" "now" "LRainLetters$Scene;") ∈ tb := tb_in 199 rfl rfl
set_option maxRecDepth 20000 in
theorem tb_200 : (Jvm.Cond.fieldLink "RainLetters" (23 : Nat) "RainLetters" "kept" "LRainLetters$Scene;") ∈ tb := tb_in 200 rfl rfl
set_option maxRecDepth 20000 in
theorem tb_201 : (Jvm.Cond.fieldLink "RainLetters" (29 : Nat) "RainLetters" "trial" "LRainLetters$Street;") ∈ tb := tb_in 201 rfl rfl
set_option maxRecDepth 20000 in
theorem tb_202 : (Jvm.Cond.fieldLink "RainLetters" (36 : Nat) "RainLetters" "turns" "LRainLetters$Turns;") ∈ tb := tb_in 202 rfl rfl
set_option maxRecDepth 20000 in
theorem tb_203 : (Jvm.Cond.fieldLink "RainLetters" (40 : Nat) "RainLetters" "wanted" "[I") ∈ tb := tb_in 203 rfl rfl
set_option maxRecDepth 20000 in
theorem tb_204 : (Jvm.Cond.fieldLink "RainLetters" (44 : Nat) "RainLetters" "left" "[I") ∈ tb := tb_in 204 rfl rfl
set_option maxRecDepth 20000 in
theorem tb_205 : (Jvm.Cond.fieldLink "RainLetters" (47 : Nat) "RainLetters" "seenWords" "[I") ∈ tb := tb_in 205 rfl rfl
set_option maxRecDepth 20000 in
theorem tb_206 : (Jvm.Cond.fieldLink "RainLetters" (98 : Nat) "RainLetters" "imageKept" "Z") ∈ tb := tb_in 206 rfl rfl
set_option maxRecDepth 20000 in
theorem tb_207 : (Jvm.Cond.fieldLink "RainLetters" (102 : Nat) "RainLetters" "streetsRead" "I") ∈ tb := tb_in 207 rfl rfl
set_option maxRecDepth 20000 in
theorem tb_208 : (Jvm.Cond.fieldLink "RainLetters" (154 : Nat) "RainLetters" "fewTurnsDone" "I") ∈ tb := tb_in 208 rfl rfl
set_option maxRecDepth 20000 in
theorem tb_209 : (Jvm.Cond.fieldLink "RainLetters" (164 : Nat) "RainLetters" "ordersDone" "I") ∈ tb := tb_in 209 rfl rfl
set_option maxRecDepth 20000 in
theorem tb_238 : (Jvm.Cond.code ({ cls := "RainLetters", name := "letter", desc := "(I)I" } : Jvm.MethodName) prog_1_method_2_code (2 : Nat) (Option.some Jvm.ClassFile.FieldType.int)) ∈ tb := tb_in 238 rfl rfl
set_option maxRecDepth 20000 in
theorem tb_242 : (Jvm.Cond.code ({ cls := "RainLetters", name := "blank", desc := "()I" } : Jvm.MethodName) prog_1_method_3_code (2 : Nat) (Option.some Jvm.ClassFile.FieldType.int)) ∈ tb := tb_in 242 rfl rfl
set_option maxRecDepth 20000 in
theorem tb_246 : (Jvm.Cond.code ({ cls := "RainLetters", name := "fault", desc := "(I)I" } : Jvm.MethodName) prog_1_method_4_code (2 : Nat) (Option.some Jvm.ClassFile.FieldType.int)) ∈ tb := tb_in 246 rfl rfl
set_option maxRecDepth 20000 in
theorem tb_247 : (Jvm.Cond.methodLink "RainLetters" (57 : Nat) ({ cls := "RainLetters$Page", name := "firstFault", desc := "(I)I" } : Jvm.MethodName)) ∈ tb := tb_in 247 rfl rfl
set_option maxRecDepth 20000 in
theorem tb_248 : (Jvm.Cond.instanceMethod ({ cls := "RainLetters$Page", name := "firstFault", desc := "(I)I" } : Jvm.MethodName)) ∈ tb := tb_in 248 rfl rfl
set_option maxRecDepth 20000 in
theorem tb_249 : (Jvm.Cond.selects "RainLetters$Page" ({ cls := "RainLetters$Page", name := "firstFault", desc := "(I)I" } : Jvm.MethodName) ({ cls := "RainLetters$Page", name := "firstFault", desc := "(I)I" } : Jvm.MethodName)) ∈ tb := tb_in 249 rfl rfl
set_option maxRecDepth 20000 in
theorem tb_250 : (Jvm.Cond.code ({ cls := "RainLetters$Page", name := "firstFault", desc := "(I)I" } : Jvm.MethodName) prog_4_method_2_code (4 : Nat) (Option.some Jvm.ClassFile.FieldType.int)) ∈ tb := tb_in 250 rfl rfl
set_option maxRecDepth 20000 in
theorem tb_251 : (Jvm.Cond.methodLink "RainLetters$Page" (19 : Nat) ({ cls := "RainLetters$Page", name := "fitsStreet", desc := "(I)Z" } : Jvm.MethodName)) ∈ tb := tb_in 251 rfl rfl
set_option maxRecDepth 20000 in
theorem tb_253 : (Jvm.Cond.instanceMethod ({ cls := "RainLetters$Page", name := "fitsStreet", desc := "(I)Z" } : Jvm.MethodName)) ∈ tb := tb_in 253 rfl rfl
set_option maxRecDepth 20000 in
theorem tb_254 : (Jvm.Cond.code ({ cls := "RainLetters$Page", name := "fitsStreet", desc := "(I)Z" } : Jvm.MethodName) prog_4_method_8_code (2 : Nat) (Option.some Jvm.ClassFile.FieldType.boolean)) ∈ tb := tb_in 254 rfl rfl
set_option maxRecDepth 20000 in
theorem tb_255 : (Jvm.Cond.methodLink "RainLetters$Page" (37 : Nat) ({ cls := "RainLetters$Page", name := "kindAt", desc := "(I)I" } : Jvm.MethodName)) ∈ tb := tb_in 255 rfl rfl
set_option maxRecDepth 20000 in
theorem tb_256 : (Jvm.Cond.instanceMethod ({ cls := "RainLetters$Page", name := "kindAt", desc := "(I)I" } : Jvm.MethodName)) ∈ tb := tb_in 256 rfl rfl
set_option maxRecDepth 20000 in
theorem tb_257 : (Jvm.Cond.selects "RainLetters$Page" ({ cls := "RainLetters$Page", name := "kindAt", desc := "(I)I" } : Jvm.MethodName) ({ cls := "RainLetters$Page", name := "kindAt", desc := "(I)I" } : Jvm.MethodName)) ∈ tb := tb_in 257 rfl rfl
set_option maxRecDepth 20000 in
theorem tb_258 : (Jvm.Cond.code ({ cls := "RainLetters$Page", name := "kindAt", desc := "(I)I" } : Jvm.MethodName) prog_4_method_5_code (2 : Nat) (Option.some Jvm.ClassFile.FieldType.int)) ∈ tb := tb_in 258 rfl rfl
set_option maxRecDepth 20000 in
theorem tb_260 : (Jvm.Cond.methodLink "RainLetters$Page" (32 : Nat) ({ cls := "java/lang/String", name := "indexOf", desc := "(I)I" } : Jvm.MethodName)) ∈ tb := tb_in 260 rfl rfl
set_option maxRecDepth 20000 in
theorem tb_261 : (Jvm.Cond.instanceMethod ({ cls := "java/lang/String", name := "indexOf", desc := "(I)I" } : Jvm.MethodName)) ∈ tb := tb_in 261 rfl rfl
set_option maxRecDepth 20000 in
theorem tb_262 : (Jvm.Cond.selects "java/lang/String" ({ cls := "java/lang/String", name := "indexOf", desc := "(I)I" } : Jvm.MethodName) ({ cls := "java/lang/String", name := "indexOf", desc := "(I)I" } : Jvm.MethodName)) ∈ tb := tb_in 262 rfl rfl
set_option maxRecDepth 20000 in
theorem tb_263 : (Jvm.Cond.code ({ cls := "java/lang/String", name := "indexOf", desc := "(I)I" } : Jvm.MethodName) prog_13_method_79_code (2 : Nat) (Option.some Jvm.ClassFile.FieldType.int)) ∈ tb := tb_in 263 rfl rfl
set_option maxRecDepth 20000 in
theorem tb_264 : (Jvm.Cond.methodLink "java/lang/String" (633 : Nat) ({ cls := "java/lang/String", name := "indexOf", desc := "(II)I" } : Jvm.MethodName)) ∈ tb := tb_in 264 rfl rfl
set_option maxRecDepth 20000 in
theorem tb_265 : (Jvm.Cond.instanceMethod ({ cls := "java/lang/String", name := "indexOf", desc := "(II)I" } : Jvm.MethodName)) ∈ tb := tb_in 265 rfl rfl
set_option maxRecDepth 20000 in
theorem tb_266 : (Jvm.Cond.selects "java/lang/String" ({ cls := "java/lang/String", name := "indexOf", desc := "(II)I" } : Jvm.MethodName) ({ cls := "java/lang/String", name := "indexOf", desc := "(II)I" } : Jvm.MethodName)) ∈ tb := tb_in 266 rfl rfl
set_option maxRecDepth 20000 in
theorem tb_267 : (Jvm.Cond.code ({ cls := "java/lang/String", name := "indexOf", desc := "(II)I" } : Jvm.MethodName) prog_13_method_80_code (3 : Nat) (Option.some Jvm.ClassFile.FieldType.int)) ∈ tb := tb_in 267 rfl rfl
set_option maxRecDepth 20000 in
theorem tb_268 : (Jvm.Cond.methodLink "java/lang/String" (492 : Nat) ({ cls := "java/lang/String", name := "isLatin1", desc := "()Z" } : Jvm.MethodName)) ∈ tb := tb_in 268 rfl rfl
set_option maxRecDepth 20000 in
theorem tb_269 : (Jvm.Cond.instanceMethod ({ cls := "java/lang/String", name := "isLatin1", desc := "()Z" } : Jvm.MethodName)) ∈ tb := tb_in 269 rfl rfl
set_option maxRecDepth 20000 in
theorem tb_270 : (Jvm.Cond.selects "java/lang/String" ({ cls := "java/lang/String", name := "isLatin1", desc := "()Z" } : Jvm.MethodName) ({ cls := "java/lang/String", name := "isLatin1", desc := "()Z" } : Jvm.MethodName)) ∈ tb := tb_in 270 rfl rfl
set_option maxRecDepth 20000 in
theorem tb_271 : (Jvm.Cond.code ({ cls := "java/lang/String", name := "isLatin1", desc := "()Z" } : Jvm.MethodName) prog_13_method_154_code (1 : Nat) (Option.some Jvm.ClassFile.FieldType.boolean)) ∈ tb := tb_in 271 rfl rfl
set_option maxRecDepth 20000 in
theorem tb_274 : (Jvm.Cond.methodLink "java/lang/String" (505 : Nat) ({ cls := "java/lang/String", name := "length", desc := "()I" } : Jvm.MethodName)) ∈ tb := tb_in 274 rfl rfl
set_option maxRecDepth 20000 in
theorem tb_275 : (Jvm.Cond.instanceMethod ({ cls := "java/lang/String", name := "length", desc := "()I" } : Jvm.MethodName)) ∈ tb := tb_in 275 rfl rfl
set_option maxRecDepth 20000 in
theorem tb_276 : (Jvm.Cond.selects "java/lang/String" ({ cls := "java/lang/String", name := "length", desc := "()I" } : Jvm.MethodName) ({ cls := "java/lang/String", name := "length", desc := "()I" } : Jvm.MethodName)) ∈ tb := tb_in 276 rfl rfl
set_option maxRecDepth 20000 in
theorem tb_277 : (Jvm.Cond.code ({ cls := "java/lang/String", name := "length", desc := "()I" } : Jvm.MethodName) prog_13_method_54_code (1 : Nat) (Option.some Jvm.ClassFile.FieldType.int)) ∈ tb := tb_in 277 rfl rfl
set_option maxRecDepth 20000 in
theorem tb_278 : (Jvm.Cond.methodLink "java/lang/String" (335 : Nat) ({ cls := "java/lang/String", name := "coder", desc := "()B" } : Jvm.MethodName)) ∈ tb := tb_in 278 rfl rfl
set_option maxRecDepth 20000 in
theorem tb_279 : (Jvm.Cond.instanceMethod ({ cls := "java/lang/String", name := "coder", desc := "()B" } : Jvm.MethodName)) ∈ tb := tb_in 279 rfl rfl
set_option maxRecDepth 20000 in
theorem tb_280 : (Jvm.Cond.selects "java/lang/String" ({ cls := "java/lang/String", name := "coder", desc := "()B" } : Jvm.MethodName) ({ cls := "java/lang/String", name := "coder", desc := "()B" } : Jvm.MethodName)) ∈ tb := tb_in 280 rfl rfl
set_option maxRecDepth 20000 in
theorem tb_281 : (Jvm.Cond.code ({ cls := "java/lang/String", name := "coder", desc := "()B" } : Jvm.MethodName) prog_13_method_152_code (1 : Nat) (Option.some Jvm.ClassFile.FieldType.byte)) ∈ tb := tb_in 281 rfl rfl
set_option maxRecDepth 20000 in
theorem tb_282 : (Jvm.Cond.methodLink "java/lang/String" (637 : Nat) ({ cls := "java/lang/StringLatin1", name := "indexOf", desc := "([BIII)I" } : Jvm.MethodName)) ∈ tb := tb_in 282 rfl rfl
set_option maxRecDepth 20000 in
theorem tb_283 : (Jvm.Cond.static ({ cls := "java/lang/StringLatin1", name := "indexOf", desc := "([BIII)I" } : Jvm.MethodName)) ∈ tb := tb_in 283 rfl rfl
set_option maxRecDepth 20000 in
theorem tb_284 : (Jvm.Cond.code ({ cls := "java/lang/StringLatin1", name := "indexOf", desc := "([BIII)I" } : Jvm.MethodName) prog_14_method_22_code (4 : Nat) (Option.some Jvm.ClassFile.FieldType.int)) ∈ tb := tb_in 284 rfl rfl
set_option maxRecDepth 20000 in
theorem tb_285 : (Jvm.Cond.methodLink "java/lang/StringLatin1" (88 : Nat) ({ cls := "java/lang/StringLatin1", name := "canEncode", desc := "(I)Z" } : Jvm.MethodName)) ∈ tb := tb_in 285 rfl rfl
set_option maxRecDepth 20000 in
theorem tb_286 : (Jvm.Cond.static ({ cls := "java/lang/StringLatin1", name := "canEncode", desc := "(I)Z" } : Jvm.MethodName)) ∈ tb := tb_in 286 rfl rfl
set_option maxRecDepth 20000 in
theorem tb_287 : (Jvm.Cond.code ({ cls := "java/lang/StringLatin1", name := "canEncode", desc := "(I)Z" } : Jvm.MethodName) prog_14_method_4_code (1 : Nat) (Option.some Jvm.ClassFile.FieldType.boolean)) ∈ tb := tb_in 287 rfl rfl
set_option maxRecDepth 20000 in
theorem tb_288 : (Jvm.Cond.methodLink "java/lang/StringLatin1" (92 : Nat) ({ cls := "java/lang/Math", name := "max", desc := "(II)I" } : Jvm.MethodName)) ∈ tb := tb_in 288 rfl rfl
set_option maxRecDepth 20000 in
theorem tb_289 : (Jvm.Cond.static ({ cls := "java/lang/Math", name := "max", desc := "(II)I" } : Jvm.MethodName)) ∈ tb := tb_in 289 rfl rfl
set_option maxRecDepth 20000 in
theorem tb_290 : (Jvm.Cond.code ({ cls := "java/lang/Math", name := "max", desc := "(II)I" } : Jvm.MethodName) prog_12_method_65_code (2 : Nat) (Option.some Jvm.ClassFile.FieldType.int)) ∈ tb := tb_in 290 rfl rfl
set_option maxRecDepth 20000 in
theorem tb_291 : (Jvm.Cond.methodLink "java/lang/StringLatin1" (38 : Nat) ({ cls := "java/lang/Math", name := "min", desc := "(II)I" } : Jvm.MethodName)) ∈ tb := tb_in 291 rfl rfl
set_option maxRecDepth 20000 in
theorem tb_292 : (Jvm.Cond.static ({ cls := "java/lang/Math", name := "min", desc := "(II)I" } : Jvm.MethodName)) ∈ tb := tb_in 292 rfl rfl
set_option maxRecDepth 20000 in
theorem tb_293 : (Jvm.Cond.code ({ cls := "java/lang/Math", name := "min", desc := "(II)I" } : Jvm.MethodName) prog_12_method_69_code (2 : Nat) (Option.some Jvm.ClassFile.FieldType.int)) ∈ tb := tb_in 293 rfl rfl
set_option maxRecDepth 20000 in
theorem tb_294 : (Jvm.Cond.methodLink "java/lang/StringLatin1" (95 : Nat) ({ cls := "java/lang/StringLatin1", name := "indexOfChar", desc := "([BIII)I" } : Jvm.MethodName)) ∈ tb := tb_in 294 rfl rfl
set_option maxRecDepth 20000 in
theorem tb_295 : (Jvm.Cond.static ({ cls := "java/lang/StringLatin1", name := "indexOfChar", desc := "([BIII)I" } : Jvm.MethodName)) ∈ tb := tb_in 295 rfl rfl
set_option maxRecDepth 20000 in
theorem tb_296 : (Jvm.Cond.code ({ cls := "java/lang/StringLatin1", name := "indexOfChar", desc := "([BIII)I" } : Jvm.MethodName) prog_14_method_23_code (6 : Nat) (Option.some Jvm.ClassFile.FieldType.int)) ∈ tb := tb_in 296 rfl rfl
set_option maxRecDepth 20000 in
theorem tb_346 : (Jvm.Cond.methodLink "RainLetters$Page" (40 : Nat) ({ cls := "RainLetters$Page", name := "flowAt", desc := "(II)I" } : Jvm.MethodName)) ∈ tb := tb_in 346 rfl rfl
set_option maxRecDepth 20000 in
theorem tb_347 : (Jvm.Cond.instanceMethod ({ cls := "RainLetters$Page", name := "flowAt", desc := "(II)I" } : Jvm.MethodName)) ∈ tb := tb_in 347 rfl rfl
set_option maxRecDepth 20000 in
theorem tb_348 : (Jvm.Cond.selects "RainLetters$Page" ({ cls := "RainLetters$Page", name := "flowAt", desc := "(II)I" } : Jvm.MethodName) ({ cls := "RainLetters$Page", name := "flowAt", desc := "(II)I" } : Jvm.MethodName)) ∈ tb := tb_in 348 rfl rfl
set_option maxRecDepth 20000 in
theorem tb_349 : (Jvm.Cond.code ({ cls := "RainLetters$Page", name := "flowAt", desc := "(II)I" } : Jvm.MethodName) prog_4_method_6_code (5 : Nat) (Option.some Jvm.ClassFile.FieldType.int)) ∈ tb := tb_in 349 rfl rfl
set_option maxRecDepth 20000 in
theorem tb_350 : (Jvm.Cond.methodLink "RainLetters$Page" (23 : Nat) ({ cls := "RainLetters$Page", name := "fitsWord", desc := "(I)Z" } : Jvm.MethodName)) ∈ tb := tb_in 350 rfl rfl
set_option maxRecDepth 20000 in
theorem tb_352 : (Jvm.Cond.instanceMethod ({ cls := "RainLetters$Page", name := "fitsWord", desc := "(I)Z" } : Jvm.MethodName)) ∈ tb := tb_in 352 rfl rfl
set_option maxRecDepth 20000 in
theorem tb_353 : (Jvm.Cond.code ({ cls := "RainLetters$Page", name := "fitsWord", desc := "(I)Z" } : Jvm.MethodName) prog_4_method_9_code (2 : Nat) (Option.some Jvm.ClassFile.FieldType.boolean)) ∈ tb := tb_in 353 rfl rfl
set_option maxRecDepth 20000 in
theorem tb_355 : (Jvm.Cond.static ({ cls := "RainLetters", name := "isLetter", desc := "(I)Z" } : Jvm.MethodName)) ∈ tb := tb_in 355 rfl rfl
set_option maxRecDepth 20000 in
theorem tb_356 : (Jvm.Cond.code ({ cls := "RainLetters", name := "isLetter", desc := "(I)Z" } : Jvm.MethodName) prog_1_method_31_code (1 : Nat) (Option.some Jvm.ClassFile.FieldType.boolean)) ∈ tb := tb_in 356 rfl rfl
set_option maxRecDepth 20000 in
theorem tb_361 : (Jvm.Cond.code ({ cls := "RainLetters", name := "street", desc := "()I" } : Jvm.MethodName) prog_1_method_5_code (2 : Nat) (Option.some Jvm.ClassFile.FieldType.int)) ∈ tb := tb_in 361 rfl rfl
set_option maxRecDepth 20000 in
theorem tb_362 : (Jvm.Cond.methodLink "RainLetters" (61 : Nat) ({ cls := "RainLetters$Page", name := "isStreet", desc := "()Z" } : Jvm.MethodName)) ∈ tb := tb_in 362 rfl rfl
set_option maxRecDepth 20000 in
theorem tb_363 : (Jvm.Cond.instanceMethod ({ cls := "RainLetters$Page", name := "isStreet", desc := "()Z" } : Jvm.MethodName)) ∈ tb := tb_in 363 rfl rfl
set_option maxRecDepth 20000 in
theorem tb_364 : (Jvm.Cond.selects "RainLetters$Page" ({ cls := "RainLetters$Page", name := "isStreet", desc := "()Z" } : Jvm.MethodName) ({ cls := "RainLetters$Page", name := "isStreet", desc := "()Z" } : Jvm.MethodName)) ∈ tb := tb_in 364 rfl rfl
set_option maxRecDepth 20000 in
theorem tb_365 : (Jvm.Cond.code ({ cls := "RainLetters$Page", name := "isStreet", desc := "()Z" } : Jvm.MethodName) prog_4_method_3_code (1 : Nat) (Option.some Jvm.ClassFile.FieldType.boolean)) ∈ tb := tb_in 365 rfl rfl
set_option maxRecDepth 20000 in
theorem tb_366 : (Jvm.Cond.methodLink "RainLetters$Page" (26 : Nat) ({ cls := "RainLetters$Page", name := "firstFault", desc := "(I)I" } : Jvm.MethodName)) ∈ tb := tb_in 366 rfl rfl
set_option maxRecDepth 20000 in
theorem tb_367 : (Jvm.Cond.methodLink "RainLetters" (71 : Nat) ({ cls := "RainLetters$Page", name := "kindAt", desc := "(I)I" } : Jvm.MethodName)) ∈ tb := tb_in 367 rfl rfl
set_option maxRecDepth 20000 in
theorem tb_368 : (Jvm.Cond.methodLink "RainLetters" (77 : Nat) ({ cls := "RainLetters$Page", name := "flowAt", desc := "(II)I" } : Jvm.MethodName)) ∈ tb := tb_in 368 rfl rfl
set_option maxRecDepth 20000 in
theorem tb_369 : (Jvm.Cond.methodLink "RainLetters" (81 : Nat) ({ cls := "RainLetters$Street", name := "clear", desc := "()V" } : Jvm.MethodName)) ∈ tb := tb_in 369 rfl rfl
set_option maxRecDepth 20000 in
theorem tb_370 : (Jvm.Cond.instanceMethod ({ cls := "RainLetters$Street", name := "clear", desc := "()V" } : Jvm.MethodName)) ∈ tb := tb_in 370 rfl rfl
set_option maxRecDepth 20000 in
theorem tb_371 : (Jvm.Cond.selects "RainLetters$Street" ({ cls := "RainLetters$Street", name := "clear", desc := "()V" } : Jvm.MethodName) ({ cls := "RainLetters$Street", name := "clear", desc := "()V" } : Jvm.MethodName)) ∈ tb := tb_in 371 rfl rfl
set_option maxRecDepth 20000 in
theorem tb_372 : (Jvm.Cond.code ({ cls := "RainLetters$Street", name := "clear", desc := "()V" } : Jvm.MethodName) prog_6_method_2_code (1 : Nat) (Option.none : Option Jvm.ClassFile.FieldType)) ∈ tb := tb_in 372 rfl rfl
set_option maxRecDepth 20000 in
theorem tb_373 : (Jvm.Cond.methodLink "RainLetters$Street" (38 : Nat) ({ cls := "java/util/Arrays", name := "fill", desc := "([II)V" } : Jvm.MethodName)) ∈ tb := tb_in 373 rfl rfl
set_option maxRecDepth 20000 in
theorem tb_374 : (Jvm.Cond.methodLink "RainLetters" (95 : Nat) ({ cls := "RainLetters$Finds", name := "clear", desc := "()V" } : Jvm.MethodName)) ∈ tb := tb_in 374 rfl rfl
set_option maxRecDepth 20000 in
theorem tb_375 : (Jvm.Cond.methodLink "RainLetters" (105 : Nat) ({ cls := "RainLetters$Street", name := "countOut", desc := "()I" } : Jvm.MethodName)) ∈ tb := tb_in 375 rfl rfl
set_option maxRecDepth 20000 in
theorem tb_376 : (Jvm.Cond.instanceMethod ({ cls := "RainLetters$Street", name := "countOut", desc := "()I" } : Jvm.MethodName)) ∈ tb := tb_in 376 rfl rfl
set_option maxRecDepth 20000 in
theorem tb_377 : (Jvm.Cond.selects "RainLetters$Street" ({ cls := "RainLetters$Street", name := "countOut", desc := "()I" } : Jvm.MethodName) ({ cls := "RainLetters$Street", name := "countOut", desc := "()I" } : Jvm.MethodName)) ∈ tb := tb_in 377 rfl rfl
set_option maxRecDepth 20000 in
theorem tb_378 : (Jvm.Cond.code ({ cls := "RainLetters$Street", name := "countOut", desc := "()I" } : Jvm.MethodName) prog_6_method_11_code (6 : Nat) (Option.some Jvm.ClassFile.FieldType.int)) ∈ tb := tb_in 378 rfl rfl
set_option maxRecDepth 20000 in
theorem tb_380 : (Jvm.Cond.instanceMethod ({ cls := "RainLetters", name := "about", desc := "(II)I" } : Jvm.MethodName)) ∈ tb := tb_in 380 rfl rfl
set_option maxRecDepth 20000 in
theorem tb_381 : (Jvm.Cond.selects "RainLetters" ({ cls := "RainLetters", name := "about", desc := "(II)I" } : Jvm.MethodName) ({ cls := "RainLetters", name := "about", desc := "(II)I" } : Jvm.MethodName)) ∈ tb := tb_in 381 rfl rfl
set_option maxRecDepth 20000 in
theorem tb_382 : (Jvm.Cond.code ({ cls := "RainLetters", name := "about", desc := "(II)I" } : Jvm.MethodName) prog_1_method_6_code (3 : Nat) (Option.some Jvm.ClassFile.FieldType.int)) ∈ tb := tb_in 382 rfl rfl
set_option maxRecDepth 20000 in
theorem tb_383 : (Jvm.Cond.methodLink "RainLetters" (109 : Nat) ({ cls := "RainLetters", name := "isGutter", desc := "(I)Z" } : Jvm.MethodName)) ∈ tb := tb_in 383 rfl rfl
set_option maxRecDepth 20000 in
theorem tb_385 : (Jvm.Cond.instanceMethod ({ cls := "RainLetters", name := "isGutter", desc := "(I)Z" } : Jvm.MethodName)) ∈ tb := tb_in 385 rfl rfl
set_option maxRecDepth 20000 in
theorem tb_386 : (Jvm.Cond.code ({ cls := "RainLetters", name := "isGutter", desc := "(I)Z" } : Jvm.MethodName) prog_1_method_29_code (2 : Nat) (Option.some Jvm.ClassFile.FieldType.boolean)) ∈ tb := tb_in 386 rfl rfl
set_option maxRecDepth 20000 in
theorem tb_387 : (Jvm.Cond.methodLink "RainLetters" (148 : Nat) ({ cls := "RainLetters", name := "hasStreet", desc := "()Z" } : Jvm.MethodName)) ∈ tb := tb_in 387 rfl rfl
set_option maxRecDepth 20000 in
theorem tb_389 : (Jvm.Cond.instanceMethod ({ cls := "RainLetters", name := "hasStreet", desc := "()Z" } : Jvm.MethodName)) ∈ tb := tb_in 389 rfl rfl
set_option maxRecDepth 20000 in
theorem tb_390 : (Jvm.Cond.code ({ cls := "RainLetters", name := "hasStreet", desc := "()Z" } : Jvm.MethodName) prog_1_method_28_code (1 : Nat) (Option.some Jvm.ClassFile.FieldType.boolean)) ∈ tb := tb_in 390 rfl rfl
set_option maxRecDepth 20000 in
theorem tb_394 : (Jvm.Cond.code ({ cls := "RainLetters", name := "as", desc := "(II)I" } : Jvm.MethodName) prog_1_method_7_code (5 : Nat) (Option.some Jvm.ClassFile.FieldType.int)) ∈ tb := tb_in 394 rfl rfl
set_option maxRecDepth 20000 in
theorem tb_396 : (Jvm.Cond.instanceMethod ({ cls := "RainLetters", name := "word", desc := "(II)I" } : Jvm.MethodName)) ∈ tb := tb_in 396 rfl rfl
set_option maxRecDepth 20000 in
theorem tb_397 : (Jvm.Cond.selects "RainLetters" ({ cls := "RainLetters", name := "word", desc := "(II)I" } : Jvm.MethodName) ({ cls := "RainLetters", name := "word", desc := "(II)I" } : Jvm.MethodName)) ∈ tb := tb_in 397 rfl rfl
set_option maxRecDepth 20000 in
theorem tb_398 : (Jvm.Cond.code ({ cls := "RainLetters", name := "word", desc := "(II)I" } : Jvm.MethodName) prog_1_method_8_code (3 : Nat) (Option.some Jvm.ClassFile.FieldType.int)) ∈ tb := tb_in 398 rfl rfl
set_option maxRecDepth 20000 in
theorem tb_402 : (Jvm.Cond.code ({ cls := "RainLetters", name := "drop", desc := "(II)I" } : Jvm.MethodName) prog_1_method_9_code (3 : Nat) (Option.some Jvm.ClassFile.FieldType.int)) ∈ tb := tb_in 402 rfl rfl
set_option maxRecDepth 20000 in
theorem tb_403 : (Jvm.Cond.methodLink "RainLetters" (129 : Nat) ({ cls := "RainLetters", name := "isLetter", desc := "(I)Z" } : Jvm.MethodName)) ∈ tb := tb_in 403 rfl rfl
set_option maxRecDepth 20000 in
theorem tb_404 : (Jvm.Cond.methodLink "RainLetters" (132 : Nat) ({ cls := "RainLetters$Fallen", name := "add", desc := "(II)V" } : Jvm.MethodName)) ∈ tb := tb_in 404 rfl rfl
set_option maxRecDepth 20000 in
theorem tb_405 : (Jvm.Cond.instanceMethod ({ cls := "RainLetters$Fallen", name := "add", desc := "(II)V" } : Jvm.MethodName)) ∈ tb := tb_in 405 rfl rfl
set_option maxRecDepth 20000 in
theorem tb_406 : (Jvm.Cond.selects "RainLetters$Fallen" ({ cls := "RainLetters$Fallen", name := "add", desc := "(II)V" } : Jvm.MethodName) ({ cls := "RainLetters$Fallen", name := "add", desc := "(II)V" } : Jvm.MethodName)) ∈ tb := tb_in 406 rfl rfl
set_option maxRecDepth 20000 in
theorem tb_407 : (Jvm.Cond.code ({ cls := "RainLetters$Fallen", name := "add", desc := "(II)V" } : Jvm.MethodName) prog_2_method_2_code (3 : Nat) (Option.none : Option Jvm.ClassFile.FieldType)) ∈ tb := tb_in 407 rfl rfl
set_option maxRecDepth 20000 in
theorem tb_408 : (Jvm.Cond.methodLink "RainLetters" (136 : Nat) ({ cls := "RainLetters$Street", name := "run", desc := "(II)I" } : Jvm.MethodName)) ∈ tb := tb_in 408 rfl rfl
set_option maxRecDepth 20000 in
theorem tb_409 : (Jvm.Cond.instanceMethod ({ cls := "RainLetters$Street", name := "run", desc := "(II)I" } : Jvm.MethodName)) ∈ tb := tb_in 409 rfl rfl
set_option maxRecDepth 20000 in
theorem tb_410 : (Jvm.Cond.selects "RainLetters$Street" ({ cls := "RainLetters$Street", name := "run", desc := "(II)I" } : Jvm.MethodName) ({ cls := "RainLetters$Street", name := "run", desc := "(II)I" } : Jvm.MethodName)) ∈ tb := tb_in 410 rfl rfl
set_option maxRecDepth 20000 in
theorem tb_411 : (Jvm.Cond.code ({ cls := "RainLetters$Street", name := "run", desc := "(II)I" } : Jvm.MethodName) prog_6_method_8_code (6 : Nat) (Option.some Jvm.ClassFile.FieldType.int)) ∈ tb := tb_in 411 rfl rfl
set_option maxRecDepth 20000 in
theorem tb_412 : (Jvm.Cond.methodLink "RainLetters$Street" (73 : Nat) ({ cls := "RainLetters$Street", name := "passOn", desc := "(II)I" } : Jvm.MethodName)) ∈ tb := tb_in 412 rfl rfl
set_option maxRecDepth 20000 in
theorem tb_414 : (Jvm.Cond.instanceMethod ({ cls := "RainLetters$Street", name := "passOn", desc := "(II)I" } : Jvm.MethodName)) ∈ tb := tb_in 414 rfl rfl
set_option maxRecDepth 20000 in
theorem tb_415 : (Jvm.Cond.code ({ cls := "RainLetters$Street", name := "passOn", desc := "(II)I" } : Jvm.MethodName) prog_6_method_17_code (4 : Nat) (Option.some Jvm.ClassFile.FieldType.int)) ∈ tb := tb_in 415 rfl rfl
set_option maxRecDepth 20000 in
theorem tb_416 : (Jvm.Cond.methodLink "RainLetters$Street" (84 : Nat) ({ cls := "RainLetters$Street", name := "letsThrough", desc := "(II)Z" } : Jvm.MethodName)) ∈ tb := tb_in 416 rfl rfl
set_option maxRecDepth 20000 in
theorem tb_418 : (Jvm.Cond.instanceMethod ({ cls := "RainLetters$Street", name := "letsThrough", desc := "(II)Z" } : Jvm.MethodName)) ∈ tb := tb_in 418 rfl rfl
set_option maxRecDepth 20000 in
theorem tb_419 : (Jvm.Cond.code ({ cls := "RainLetters$Street", name := "letsThrough", desc := "(II)Z" } : Jvm.MethodName) prog_6_method_18_code (4 : Nat) (Option.some Jvm.ClassFile.FieldType.boolean)) ∈ tb := tb_in 419 rfl rfl
set_option maxRecDepth 20000 in
theorem tb_420 : (Jvm.Cond.methodLink "RainLetters$Street" (76 : Nat) ({ cls := "RainLetters$Street", name := "runOut", desc := "(II)V" } : Jvm.MethodName)) ∈ tb := tb_in 420 rfl rfl
set_option maxRecDepth 20000 in
theorem tb_422 : (Jvm.Cond.instanceMethod ({ cls := "RainLetters$Street", name := "runOut", desc := "(II)V" } : Jvm.MethodName)) ∈ tb := tb_in 422 rfl rfl
set_option maxRecDepth 20000 in
theorem tb_423 : (Jvm.Cond.code ({ cls := "RainLetters$Street", name := "runOut", desc := "(II)V" } : Jvm.MethodName) prog_6_method_16_code (3 : Nat) (Option.none : Option Jvm.ClassFile.FieldType)) ∈ tb := tb_in 423 rfl rfl
set_option maxRecDepth 20000 in
theorem tb_425 : (Jvm.Cond.instanceMethod ({ cls := "RainLetters", name := "rain", desc := "(II)I" } : Jvm.MethodName)) ∈ tb := tb_in 425 rfl rfl
set_option maxRecDepth 20000 in
theorem tb_426 : (Jvm.Cond.selects "RainLetters" ({ cls := "RainLetters", name := "rain", desc := "(II)I" } : Jvm.MethodName) ({ cls := "RainLetters", name := "rain", desc := "(II)I" } : Jvm.MethodName)) ∈ tb := tb_in 426 rfl rfl
set_option maxRecDepth 20000 in
theorem tb_427 : (Jvm.Cond.code ({ cls := "RainLetters", name := "rain", desc := "(II)I" } : Jvm.MethodName) prog_1_method_10_code (3 : Nat) (Option.some Jvm.ClassFile.FieldType.int)) ∈ tb := tb_in 427 rfl rfl
set_option maxRecDepth 20000 in
theorem tb_428 : (Jvm.Cond.methodLink "RainLetters" (139 : Nat) ({ cls := "RainLetters", name := "isDrop", desc := "(I)Z" } : Jvm.MethodName)) ∈ tb := tb_in 428 rfl rfl
set_option maxRecDepth 20000 in
theorem tb_430 : (Jvm.Cond.instanceMethod ({ cls := "RainLetters", name := "isDrop", desc := "(I)Z" } : Jvm.MethodName)) ∈ tb := tb_in 430 rfl rfl
set_option maxRecDepth 20000 in
theorem tb_431 : (Jvm.Cond.code ({ cls := "RainLetters", name := "isDrop", desc := "(I)Z" } : Jvm.MethodName) prog_1_method_30_code (2 : Nat) (Option.some Jvm.ClassFile.FieldType.boolean)) ∈ tb := tb_in 431 rfl rfl
set_option maxRecDepth 20000 in
theorem tb_435 : (Jvm.Cond.code ({ cls := "RainLetters", name := "dry", desc := "()I" } : Jvm.MethodName) prog_1_method_11_code (2 : Nat) (Option.some Jvm.ClassFile.FieldType.int)) ∈ tb := tb_in 435 rfl rfl
set_option maxRecDepth 20000 in
theorem tb_439 : (Jvm.Cond.code ({ cls := "RainLetters", name := "turn", desc := "(II)I" } : Jvm.MethodName) prog_1_method_12_code (4 : Nat) (Option.some Jvm.ClassFile.FieldType.int)) ∈ tb := tb_in 439 rfl rfl
set_option maxRecDepth 20000 in
theorem tb_443 : (Jvm.Cond.code ({ cls := "RainLetters", name := "fewTurns", desc := "(II)I" } : Jvm.MethodName) prog_1_method_13_code (3 : Nat) (Option.some Jvm.ClassFile.FieldType.int)) ∈ tb := tb_in 443 rfl rfl
set_option maxRecDepth 20000 in
theorem tb_444 : (Jvm.Cond.methodLink "RainLetters" (151 : Nat) ({ cls := "RainLetters$Page", name := "isWord", desc := "()Z" } : Jvm.MethodName)) ∈ tb := tb_in 444 rfl rfl
set_option maxRecDepth 20000 in
theorem tb_445 : (Jvm.Cond.instanceMethod ({ cls := "RainLetters$Page", name := "isWord", desc := "()Z" } : Jvm.MethodName)) ∈ tb := tb_in 445 rfl rfl
set_option maxRecDepth 20000 in
theorem tb_446 : (Jvm.Cond.selects "RainLetters$Page" ({ cls := "RainLetters$Page", name := "isWord", desc := "()Z" } : Jvm.MethodName) ({ cls := "RainLetters$Page", name := "isWord", desc := "()Z" } : Jvm.MethodName)) ∈ tb := tb_in 446 rfl rfl
set_option maxRecDepth 20000 in
theorem tb_447 : (Jvm.Cond.code ({ cls := "RainLetters$Page", name := "isWord", desc := "()Z" } : Jvm.MethodName) prog_4_method_4_code (1 : Nat) (Option.some Jvm.ClassFile.FieldType.boolean)) ∈ tb := tb_in 447 rfl rfl
set_option maxRecDepth 20000 in
theorem tb_448 : (Jvm.Cond.methodLink "RainLetters" (157 : Nat) ({ cls := "RainLetters", name := "seekTurns", desc := "(I)V" } : Jvm.MethodName)) ∈ tb := tb_in 448 rfl rfl
set_option maxRecDepth 20000 in
theorem tb_450 : (Jvm.Cond.instanceMethod ({ cls := "RainLetters", name := "seekTurns", desc := "(I)V" } : Jvm.MethodName)) ∈ tb := tb_in 450 rfl rfl
set_option maxRecDepth 20000 in
theorem tb_451 : (Jvm.Cond.code ({ cls := "RainLetters", name := "seekTurns", desc := "(I)V" } : Jvm.MethodName) prog_1_method_33_code (4 : Nat) (Option.none : Option Jvm.ClassFile.FieldType)) ∈ tb := tb_in 451 rfl rfl
set_option maxRecDepth 20000 in
theorem tb_452 : (Jvm.Cond.methodLink "RainLetters" (182 : Nat) ({ cls := "RainLetters$Page", name := "copyLetters", desc := "([I)V" } : Jvm.MethodName)) ∈ tb := tb_in 452 rfl rfl
set_option maxRecDepth 20000 in
theorem tb_453 : (Jvm.Cond.instanceMethod ({ cls := "RainLetters$Page", name := "copyLetters", desc := "([I)V" } : Jvm.MethodName)) ∈ tb := tb_in 453 rfl rfl
set_option maxRecDepth 20000 in
theorem tb_454 : (Jvm.Cond.selects "RainLetters$Page" ({ cls := "RainLetters$Page", name := "copyLetters", desc := "([I)V" } : Jvm.MethodName) ({ cls := "RainLetters$Page", name := "copyLetters", desc := "([I)V" } : Jvm.MethodName)) ∈ tb := tb_in 454 rfl rfl
set_option maxRecDepth 20000 in
theorem tb_455 : (Jvm.Cond.code ({ cls := "RainLetters$Page", name := "copyLetters", desc := "([I)V" } : Jvm.MethodName) prog_4_method_7_code (3 : Nat) (Option.none : Option Jvm.ClassFile.FieldType)) ∈ tb := tb_in 455 rfl rfl
set_option maxRecDepth 20000 in
theorem tb_456 : (Jvm.Cond.methodLink "RainLetters" (244 : Nat) ({ cls := "RainLetters$Turns", name := "clear", desc := "()V" } : Jvm.MethodName)) ∈ tb := tb_in 456 rfl rfl
set_option maxRecDepth 20000 in
theorem tb_457 : (Jvm.Cond.instanceMethod ({ cls := "RainLetters$Turns", name := "clear", desc := "()V" } : Jvm.MethodName)) ∈ tb := tb_in 457 rfl rfl
set_option maxRecDepth 20000 in
theorem tb_458 : (Jvm.Cond.selects "RainLetters$Turns" ({ cls := "RainLetters$Turns", name := "clear", desc := "()V" } : Jvm.MethodName) ({ cls := "RainLetters$Turns", name := "clear", desc := "()V" } : Jvm.MethodName)) ∈ tb := tb_in 458 rfl rfl
set_option maxRecDepth 20000 in
theorem tb_459 : (Jvm.Cond.code ({ cls := "RainLetters$Turns", name := "clear", desc := "()V" } : Jvm.MethodName) prog_7_method_2_code (1 : Nat) (Option.none : Option Jvm.ClassFile.FieldType)) ∈ tb := tb_in 459 rfl rfl
set_option maxRecDepth 20000 in
theorem tb_460 : (Jvm.Cond.methodLink "RainLetters" (170 : Nat) ({ cls := "RainLetters$Street", name := "layLike", desc := "(LRainLetters$Street;)V" } : Jvm.MethodName)) ∈ tb := tb_in 460 rfl rfl
set_option maxRecDepth 20000 in
theorem tb_461 : (Jvm.Cond.instanceMethod ({ cls := "RainLetters$Street", name := "layLike", desc := "(LRainLetters$Street;)V" } : Jvm.MethodName)) ∈ tb := tb_in 461 rfl rfl
set_option maxRecDepth 20000 in
theorem tb_462 : (Jvm.Cond.selects "RainLetters$Street" ({ cls := "RainLetters$Street", name := "layLike", desc := "(LRainLetters$Street;)V" } : Jvm.MethodName) ({ cls := "RainLetters$Street", name := "layLike", desc := "(LRainLetters$Street;)V" } : Jvm.MethodName)) ∈ tb := tb_in 462 rfl rfl
set_option maxRecDepth 20000 in
theorem tb_463 : (Jvm.Cond.code ({ cls := "RainLetters$Street", name := "layLike", desc := "(LRainLetters$Street;)V" } : Jvm.MethodName) prog_6_method_3_code (2 : Nat) (Option.none : Option Jvm.ClassFile.FieldType)) ∈ tb := tb_in 463 rfl rfl
set_option maxRecDepth 20000 in
theorem tb_464 : (Jvm.Cond.methodLink "RainLetters$Street" (44 : Nat) ({ cls := "java/lang/System", name := "arraycopy", desc := "(Ljava/lang/Object;ILjava/lang/Object;II)V" } : Jvm.MethodName)) ∈ tb := tb_in 464 rfl rfl
set_option maxRecDepth 20000 in
theorem tb_465 : (Jvm.Cond.static ({ cls := "java/lang/System", name := "arraycopy", desc := "(Ljava/lang/Object;ILjava/lang/Object;II)V" } : Jvm.MethodName)) ∈ tb := tb_in 465 rfl rfl
set_option maxRecDepth 20000 in
theorem tb_466 : (Jvm.Cond.native ({ cls := "java/lang/System", name := "arraycopy", desc := "(Ljava/lang/Object;ILjava/lang/Object;II)V" } : Jvm.MethodName)) ∈ tb := tb_in 466 rfl rfl
set_option maxRecDepth 20000 in
theorem tb_467 : (Jvm.Cond.methodLink "RainLetters$Street" (50 : Nat) ({ cls := "RainLetters$Street", name := "clear", desc := "()V" } : Jvm.MethodName)) ∈ tb := tb_in 467 rfl rfl
set_option maxRecDepth 20000 in
theorem tb_468 : (Jvm.Cond.methodLink "RainLetters" (245 : Nat) ({ cls := "RainLetters$Street", name := "flowBy", desc := "(I)V" } : Jvm.MethodName)) ∈ tb := tb_in 468 rfl rfl
set_option maxRecDepth 20000 in
theorem tb_469 : (Jvm.Cond.instanceMethod ({ cls := "RainLetters$Street", name := "flowBy", desc := "(I)V" } : Jvm.MethodName)) ∈ tb := tb_in 469 rfl rfl
set_option maxRecDepth 20000 in
theorem tb_470 : (Jvm.Cond.selects "RainLetters$Street" ({ cls := "RainLetters$Street", name := "flowBy", desc := "(I)V" } : Jvm.MethodName) ({ cls := "RainLetters$Street", name := "flowBy", desc := "(I)V" } : Jvm.MethodName)) ∈ tb := tb_in 470 rfl rfl
set_option maxRecDepth 20000 in
theorem tb_471 : (Jvm.Cond.code ({ cls := "RainLetters$Street", name := "flowBy", desc := "(I)V" } : Jvm.MethodName) prog_6_method_5_code (6 : Nat) (Option.none : Option Jvm.ClassFile.FieldType)) ∈ tb := tb_in 471 rfl rfl
set_option maxRecDepth 20000 in
theorem tb_472 : (Jvm.Cond.methodLink "RainLetters" (248 : Nat) ({ cls := "RainLetters$Street", name := "unlikeFlows", desc := "(LRainLetters$Street;)I" } : Jvm.MethodName)) ∈ tb := tb_in 472 rfl rfl
set_option maxRecDepth 20000 in
theorem tb_473 : (Jvm.Cond.instanceMethod ({ cls := "RainLetters$Street", name := "unlikeFlows", desc := "(LRainLetters$Street;)I" } : Jvm.MethodName)) ∈ tb := tb_in 473 rfl rfl
set_option maxRecDepth 20000 in
theorem tb_474 : (Jvm.Cond.selects "RainLetters$Street" ({ cls := "RainLetters$Street", name := "unlikeFlows", desc := "(LRainLetters$Street;)I" } : Jvm.MethodName) ({ cls := "RainLetters$Street", name := "unlikeFlows", desc := "(LRainLetters$Street;)I" } : Jvm.MethodName)) ∈ tb := tb_in 474 rfl rfl
set_option maxRecDepth 20000 in
theorem tb_475 : (Jvm.Cond.code ({ cls := "RainLetters$Street", name := "unlikeFlows", desc := "(LRainLetters$Street;)I" } : Jvm.MethodName) prog_6_method_6_code (4 : Nat) (Option.some Jvm.ClassFile.FieldType.int)) ∈ tb := tb_in 475 rfl rfl
set_option maxRecDepth 20000 in
theorem tb_476 : (Jvm.Cond.methodLink "RainLetters" (252 : Nat) ({ cls := "java/lang/Integer", name := "bitCount", desc := "(I)I" } : Jvm.MethodName)) ∈ tb := tb_in 476 rfl rfl
set_option maxRecDepth 20000 in
theorem tb_477 : (Jvm.Cond.static ({ cls := "java/lang/Integer", name := "bitCount", desc := "(I)I" } : Jvm.MethodName)) ∈ tb := tb_in 477 rfl rfl
set_option maxRecDepth 20000 in
theorem tb_478 : (Jvm.Cond.code ({ cls := "java/lang/Integer", name := "bitCount", desc := "(I)I" } : Jvm.MethodName) prog_11_method_49_code (1 : Nat) (Option.some Jvm.ClassFile.FieldType.int)) ∈ tb := tb_in 478 rfl rfl
set_option maxRecDepth 20000 in
theorem tb_482 : (Jvm.Cond.methodLink "RainLetters" (174 : Nat) ({ cls := "RainLetters$Street", name := "runAll", desc := "(LRainLetters$Fallen;II)V" } : Jvm.MethodName)) ∈ tb := tb_in 482 rfl rfl
set_option maxRecDepth 20000 in
theorem tb_483 : (Jvm.Cond.instanceMethod ({ cls := "RainLetters$Street", name := "runAll", desc := "(LRainLetters$Fallen;II)V" } : Jvm.MethodName)) ∈ tb := tb_in 483 rfl rfl
set_option maxRecDepth 20000 in
theorem tb_484 : (Jvm.Cond.selects "RainLetters$Street" ({ cls := "RainLetters$Street", name := "runAll", desc := "(LRainLetters$Fallen;II)V" } : Jvm.MethodName) ({ cls := "RainLetters$Street", name := "runAll", desc := "(LRainLetters$Fallen;II)V" } : Jvm.MethodName)) ∈ tb := tb_in 484 rfl rfl
set_option maxRecDepth 20000 in
theorem tb_485 : (Jvm.Cond.code ({ cls := "RainLetters$Street", name := "runAll", desc := "(LRainLetters$Fallen;II)V" } : Jvm.MethodName) prog_6_method_7_code (5 : Nat) (Option.none : Option Jvm.ClassFile.FieldType)) ∈ tb := tb_in 485 rfl rfl
set_option maxRecDepth 20000 in
theorem tb_486 : (Jvm.Cond.methodLink "RainLetters$Street" (69 : Nat) ({ cls := "RainLetters$Street", name := "run", desc := "(II)I" } : Jvm.MethodName)) ∈ tb := tb_in 486 rfl rfl
set_option maxRecDepth 20000 in
theorem tb_487 : (Jvm.Cond.methodLink "RainLetters" (258 : Nat) ({ cls := "RainLetters$Street", name := "wordIs", desc := "(I[II)Z" } : Jvm.MethodName)) ∈ tb := tb_in 487 rfl rfl
set_option maxRecDepth 20000 in
theorem tb_488 : (Jvm.Cond.instanceMethod ({ cls := "RainLetters$Street", name := "wordIs", desc := "(I[II)Z" } : Jvm.MethodName)) ∈ tb := tb_in 488 rfl rfl
set_option maxRecDepth 20000 in
theorem tb_489 : (Jvm.Cond.selects "RainLetters$Street" ({ cls := "RainLetters$Street", name := "wordIs", desc := "(I[II)Z" } : Jvm.MethodName) ({ cls := "RainLetters$Street", name := "wordIs", desc := "(I[II)Z" } : Jvm.MethodName)) ∈ tb := tb_in 489 rfl rfl
set_option maxRecDepth 20000 in
theorem tb_490 : (Jvm.Cond.code ({ cls := "RainLetters$Street", name := "wordIs", desc := "(I[II)Z" } : Jvm.MethodName) prog_6_method_9_code (5 : Nat) (Option.some Jvm.ClassFile.FieldType.boolean)) ∈ tb := tb_in 490 rfl rfl
set_option maxRecDepth 20000 in
theorem tb_491 : (Jvm.Cond.methodLink "RainLetters" (262 : Nat) ({ cls := "RainLetters$Turns", name := "add", desc := "(I)V" } : Jvm.MethodName)) ∈ tb := tb_in 491 rfl rfl
set_option maxRecDepth 20000 in
theorem tb_492 : (Jvm.Cond.instanceMethod ({ cls := "RainLetters$Turns", name := "add", desc := "(I)V" } : Jvm.MethodName)) ∈ tb := tb_in 492 rfl rfl
set_option maxRecDepth 20000 in
theorem tb_493 : (Jvm.Cond.selects "RainLetters$Turns" ({ cls := "RainLetters$Turns", name := "add", desc := "(I)V" } : Jvm.MethodName) ({ cls := "RainLetters$Turns", name := "add", desc := "(I)V" } : Jvm.MethodName)) ∈ tb := tb_in 493 rfl rfl
set_option maxRecDepth 20000 in
theorem tb_494 : (Jvm.Cond.code ({ cls := "RainLetters$Turns", name := "add", desc := "(I)V" } : Jvm.MethodName) prog_7_method_3_code (3 : Nat) (Option.none : Option Jvm.ClassFile.FieldType)) ∈ tb := tb_in 494 rfl rfl
set_option maxRecDepth 20000 in
theorem tb_495 : (Jvm.Cond.methodLink "RainLetters$Turns" (21 : Nat) ({ cls := "java/lang/Integer", name := "bitCount", desc := "(I)I" } : Jvm.MethodName)) ∈ tb := tb_in 495 rfl rfl
set_option maxRecDepth 20000 in
theorem tb_496 : (Jvm.Cond.methodLink "RainLetters$Turns" (27 : Nat) ({ cls := "java/lang/Math", name := "min", desc := "(II)I" } : Jvm.MethodName)) ∈ tb := tb_in 496 rfl rfl
set_option maxRecDepth 20000 in
theorem tb_497 : (Jvm.Cond.methodLink "RainLetters" (161 : Nat) ({ cls := "RainLetters$Turns", name := "tell", desc := "(I)I" } : Jvm.MethodName)) ∈ tb := tb_in 497 rfl rfl
set_option maxRecDepth 20000 in
theorem tb_498 : (Jvm.Cond.instanceMethod ({ cls := "RainLetters$Turns", name := "tell", desc := "(I)I" } : Jvm.MethodName)) ∈ tb := tb_in 498 rfl rfl
set_option maxRecDepth 20000 in
theorem tb_499 : (Jvm.Cond.selects "RainLetters$Turns" ({ cls := "RainLetters$Turns", name := "tell", desc := "(I)I" } : Jvm.MethodName) ({ cls := "RainLetters$Turns", name := "tell", desc := "(I)I" } : Jvm.MethodName)) ∈ tb := tb_in 499 rfl rfl
set_option maxRecDepth 20000 in
theorem tb_500 : (Jvm.Cond.code ({ cls := "RainLetters$Turns", name := "tell", desc := "(I)I" } : Jvm.MethodName) prog_7_method_4_code (2 : Nat) (Option.some Jvm.ClassFile.FieldType.int)) ∈ tb := tb_in 500 rfl rfl
set_option maxRecDepth 20000 in
theorem tb_504 : (Jvm.Cond.code ({ cls := "RainLetters", name := "orders", desc := "(I)I" } : Jvm.MethodName) prog_1_method_14_code (2 : Nat) (Option.some Jvm.ClassFile.FieldType.int)) ∈ tb := tb_in 504 rfl rfl
set_option maxRecDepth 20000 in
theorem tb_505 : (Jvm.Cond.methodLink "RainLetters" (167 : Nat) ({ cls := "RainLetters", name := "countWords", desc := "(I)I" } : Jvm.MethodName)) ∈ tb := tb_in 505 rfl rfl
set_option maxRecDepth 20000 in
theorem tb_507 : (Jvm.Cond.instanceMethod ({ cls := "RainLetters", name := "countWords", desc := "(I)I" } : Jvm.MethodName)) ∈ tb := tb_in 507 rfl rfl
set_option maxRecDepth 20000 in
theorem tb_508 : (Jvm.Cond.code ({ cls := "RainLetters", name := "countWords", desc := "(I)I" } : Jvm.MethodName) prog_1_method_34_code (6 : Nat) (Option.some Jvm.ClassFile.FieldType.int)) ∈ tb := tb_in 508 rfl rfl
set_option maxRecDepth 20000 in
theorem tb_509 : (Jvm.Cond.methodLink "RainLetters" (264 : Nat) ({ cls := "java/lang/Math", name := "min", desc := "(II)I" } : Jvm.MethodName)) ∈ tb := tb_in 509 rfl rfl
set_option maxRecDepth 20000 in
theorem tb_510 : (Jvm.Cond.methodLink "RainLetters" (269 : Nat) ({ cls := "java/util/Arrays", name := "fill", desc := "([II)V" } : Jvm.MethodName)) ∈ tb := tb_in 510 rfl rfl
set_option maxRecDepth 20000 in
theorem tb_511 : (Jvm.Cond.methodLink "RainLetters" (275 : Nat) ({ cls := "RainLetters", name := "runMixed", desc := "(II)V" } : Jvm.MethodName)) ∈ tb := tb_in 511 rfl rfl
set_option maxRecDepth 20000 in
theorem tb_513 : (Jvm.Cond.instanceMethod ({ cls := "RainLetters", name := "runMixed", desc := "(II)V" } : Jvm.MethodName)) ∈ tb := tb_in 513 rfl rfl
set_option maxRecDepth 20000 in
theorem tb_514 : (Jvm.Cond.code ({ cls := "RainLetters", name := "runMixed", desc := "(II)V" } : Jvm.MethodName) prog_1_method_35_code (7 : Nat) (Option.none : Option Jvm.ClassFile.FieldType)) ∈ tb := tb_in 514 rfl rfl
set_option maxRecDepth 20000 in
theorem tb_515 : (Jvm.Cond.methodLink "RainLetters" (278 : Nat) ({ cls := "RainLetters$Street", name := "wordCode", desc := "(I)I" } : Jvm.MethodName)) ∈ tb := tb_in 515 rfl rfl
set_option maxRecDepth 20000 in
theorem tb_516 : (Jvm.Cond.instanceMethod ({ cls := "RainLetters$Street", name := "wordCode", desc := "(I)I" } : Jvm.MethodName)) ∈ tb := tb_in 516 rfl rfl
set_option maxRecDepth 20000 in
theorem tb_517 : (Jvm.Cond.selects "RainLetters$Street" ({ cls := "RainLetters$Street", name := "wordCode", desc := "(I)I" } : Jvm.MethodName) ({ cls := "RainLetters$Street", name := "wordCode", desc := "(I)I" } : Jvm.MethodName)) ∈ tb := tb_in 517 rfl rfl
set_option maxRecDepth 20000 in
theorem tb_518 : (Jvm.Cond.code ({ cls := "RainLetters$Street", name := "wordCode", desc := "(I)I" } : Jvm.MethodName) prog_6_method_10_code (4 : Nat) (Option.some Jvm.ClassFile.FieldType.int)) ∈ tb := tb_in 518 rfl rfl
set_option maxRecDepth 20000 in
theorem tb_519 : (Jvm.Cond.methodLink "RainLetters" (281 : Nat) ({ cls := "RainLetters", name := "noteWord", desc := "(I)Z" } : Jvm.MethodName)) ∈ tb := tb_in 519 rfl rfl
set_option maxRecDepth 20000 in
theorem tb_521 : (Jvm.Cond.instanceMethod ({ cls := "RainLetters", name := "noteWord", desc := "(I)Z" } : Jvm.MethodName)) ∈ tb := tb_in 521 rfl rfl
set_option maxRecDepth 20000 in
theorem tb_522 : (Jvm.Cond.code ({ cls := "RainLetters", name := "noteWord", desc := "(I)Z" } : Jvm.MethodName) prog_1_method_36_code (4 : Nat) (Option.some Jvm.ClassFile.FieldType.boolean)) ∈ tb := tb_in 522 rfl rfl
set_option maxRecDepth 20000 in
theorem tb_526 : (Jvm.Cond.code ({ cls := "RainLetters", name := "bestDrop", desc := "(I)I" } : Jvm.MethodName) prog_1_method_15_code (6 : Nat) (Option.some Jvm.ClassFile.FieldType.int)) ∈ tb := tb_in 526 rfl rfl
set_option maxRecDepth 20000 in
theorem tb_527 : (Jvm.Cond.methodLink "RainLetters" (178 : Nat) ({ cls := "RainLetters$Street", name := "lettersOut", desc := "()I" } : Jvm.MethodName)) ∈ tb := tb_in 527 rfl rfl
set_option maxRecDepth 20000 in
theorem tb_528 : (Jvm.Cond.instanceMethod ({ cls := "RainLetters$Street", name := "lettersOut", desc := "()I" } : Jvm.MethodName)) ∈ tb := tb_in 528 rfl rfl
set_option maxRecDepth 20000 in
theorem tb_529 : (Jvm.Cond.selects "RainLetters$Street" ({ cls := "RainLetters$Street", name := "lettersOut", desc := "()I" } : Jvm.MethodName) ({ cls := "RainLetters$Street", name := "lettersOut", desc := "()I" } : Jvm.MethodName)) ∈ tb := tb_in 529 rfl rfl
set_option maxRecDepth 20000 in
theorem tb_530 : (Jvm.Cond.code ({ cls := "RainLetters$Street", name := "lettersOut", desc := "()I" } : Jvm.MethodName) prog_6_method_12_code (1 : Nat) (Option.some Jvm.ClassFile.FieldType.int)) ∈ tb := tb_in 530 rfl rfl
set_option maxRecDepth 20000 in
theorem tb_531 : (Jvm.Cond.methodLink "RainLetters$Street" (80 : Nat) ({ cls := "RainLetters$Street", name := "sum", desc := "([I)I" } : Jvm.MethodName)) ∈ tb := tb_in 531 rfl rfl
set_option maxRecDepth 20000 in
theorem tb_532 : (Jvm.Cond.static ({ cls := "RainLetters$Street", name := "sum", desc := "([I)I" } : Jvm.MethodName)) ∈ tb := tb_in 532 rfl rfl
set_option maxRecDepth 20000 in
theorem tb_533 : (Jvm.Cond.code ({ cls := "RainLetters$Street", name := "sum", desc := "([I)I" } : Jvm.MethodName) prog_6_method_15_code (6 : Nat) (Option.some Jvm.ClassFile.FieldType.int)) ∈ tb := tb_in 533 rfl rfl
set_option maxRecDepth 20000 in
theorem tb_537 : (Jvm.Cond.code ({ cls := "RainLetters", name := "found", desc := "(I)I" } : Jvm.MethodName) prog_1_method_16_code (2 : Nat) (Option.some Jvm.ClassFile.FieldType.int)) ∈ tb := tb_in 537 rfl rfl
set_option maxRecDepth 20000 in
theorem tb_538 : (Jvm.Cond.methodLink "RainLetters" (187 : Nat) ({ cls := "RainLetters$Finds", name := "countFound", desc := "()I" } : Jvm.MethodName)) ∈ tb := tb_in 538 rfl rfl
set_option maxRecDepth 20000 in
theorem tb_539 : (Jvm.Cond.instanceMethod ({ cls := "RainLetters$Finds", name := "countFound", desc := "()I" } : Jvm.MethodName)) ∈ tb := tb_in 539 rfl rfl
set_option maxRecDepth 20000 in
theorem tb_540 : (Jvm.Cond.selects "RainLetters$Finds" ({ cls := "RainLetters$Finds", name := "countFound", desc := "()I" } : Jvm.MethodName) ({ cls := "RainLetters$Finds", name := "countFound", desc := "()I" } : Jvm.MethodName)) ∈ tb := tb_in 540 rfl rfl
set_option maxRecDepth 20000 in
theorem tb_541 : (Jvm.Cond.code ({ cls := "RainLetters$Finds", name := "countFound", desc := "()I" } : Jvm.MethodName) prog_3_method_3_code (6 : Nat) (Option.some Jvm.ClassFile.FieldType.int)) ∈ tb := tb_in 541 rfl rfl
set_option maxRecDepth 20000 in
theorem tb_545 : (Jvm.Cond.code ({ cls := "RainLetters", name := "forget", desc := "()I" } : Jvm.MethodName) prog_1_method_17_code (2 : Nat) (Option.some Jvm.ClassFile.FieldType.int)) ∈ tb := tb_in 545 rfl rfl
set_option maxRecDepth 20000 in
theorem tb_547 : (Jvm.Cond.instanceMethod ({ cls := "RainLetters", name := "kindOf", desc := "(I)I" } : Jvm.MethodName)) ∈ tb := tb_in 547 rfl rfl
set_option maxRecDepth 20000 in
theorem tb_548 : (Jvm.Cond.selects "RainLetters" ({ cls := "RainLetters", name := "kindOf", desc := "(I)I" } : Jvm.MethodName) ({ cls := "RainLetters", name := "kindOf", desc := "(I)I" } : Jvm.MethodName)) ∈ tb := tb_in 548 rfl rfl
set_option maxRecDepth 20000 in
theorem tb_549 : (Jvm.Cond.code ({ cls := "RainLetters", name := "kindOf", desc := "(I)I" } : Jvm.MethodName) prog_1_method_18_code (4 : Nat) (Option.some Jvm.ClassFile.FieldType.int)) ∈ tb := tb_in 549 rfl rfl
set_option maxRecDepth 20000 in
theorem tb_550 : (Jvm.Cond.methodLink "RainLetters" (190 : Nat) ({ cls := "RainLetters$Finds", name := "fit", desc := "(LRainLetters$Street;)Z" } : Jvm.MethodName)) ∈ tb := tb_in 550 rfl rfl
set_option maxRecDepth 20000 in
theorem tb_551 : (Jvm.Cond.instanceMethod ({ cls := "RainLetters$Finds", name := "fit", desc := "(LRainLetters$Street;)Z" } : Jvm.MethodName)) ∈ tb := tb_in 551 rfl rfl
set_option maxRecDepth 20000 in
theorem tb_552 : (Jvm.Cond.selects "RainLetters$Finds" ({ cls := "RainLetters$Finds", name := "fit", desc := "(LRainLetters$Street;)Z" } : Jvm.MethodName) ({ cls := "RainLetters$Finds", name := "fit", desc := "(LRainLetters$Street;)Z" } : Jvm.MethodName)) ∈ tb := tb_in 552 rfl rfl
set_option maxRecDepth 20000 in
theorem tb_553 : (Jvm.Cond.code ({ cls := "RainLetters$Finds", name := "fit", desc := "(LRainLetters$Street;)Z" } : Jvm.MethodName) prog_3_method_4_code (3 : Nat) (Option.some Jvm.ClassFile.FieldType.boolean)) ∈ tb := tb_in 553 rfl rfl
set_option maxRecDepth 20000 in
theorem tb_554 : (Jvm.Cond.methodLink "RainLetters$Finds" (29 : Nat) ({ cls := "RainLetters$Street", name := "wordIs", desc := "(I[II)Z" } : Jvm.MethodName)) ∈ tb := tb_in 554 rfl rfl
set_option maxRecDepth 20000 in
theorem tb_556 : (Jvm.Cond.instanceMethod ({ cls := "RainLetters", name := "letterOf", desc := "(I)I" } : Jvm.MethodName)) ∈ tb := tb_in 556 rfl rfl
set_option maxRecDepth 20000 in
theorem tb_557 : (Jvm.Cond.selects "RainLetters" ({ cls := "RainLetters", name := "letterOf", desc := "(I)I" } : Jvm.MethodName) ({ cls := "RainLetters", name := "letterOf", desc := "(I)I" } : Jvm.MethodName)) ∈ tb := tb_in 557 rfl rfl
set_option maxRecDepth 20000 in
theorem tb_558 : (Jvm.Cond.code ({ cls := "RainLetters", name := "letterOf", desc := "(I)I" } : Jvm.MethodName) prog_1_method_19_code (4 : Nat) (Option.some Jvm.ClassFile.FieldType.int)) ∈ tb := tb_in 558 rfl rfl
set_option maxRecDepth 20000 in
theorem tb_562 : (Jvm.Cond.code ({ cls := "RainLetters", name := "mornings", desc := "(III)I" } : Jvm.MethodName) prog_1_method_20_code (9 : Nat) (Option.some Jvm.ClassFile.FieldType.int)) ∈ tb := tb_in 562 rfl rfl
set_option maxRecDepth 20000 in
theorem tb_563 : (Jvm.Cond.methodLink "RainLetters" (194 : Nat) ({ cls := "RainLetters", name := "nextSeed", desc := "(I)I" } : Jvm.MethodName)) ∈ tb := tb_in 563 rfl rfl
set_option maxRecDepth 20000 in
theorem tb_564 : (Jvm.Cond.static ({ cls := "RainLetters", name := "nextSeed", desc := "(I)I" } : Jvm.MethodName)) ∈ tb := tb_in 564 rfl rfl
set_option maxRecDepth 20000 in
theorem tb_565 : (Jvm.Cond.code ({ cls := "RainLetters", name := "nextSeed", desc := "(I)I" } : Jvm.MethodName) prog_1_method_32_code (1 : Nat) (Option.some Jvm.ClassFile.FieldType.int)) ∈ tb := tb_in 565 rfl rfl
set_option maxRecDepth 20000 in
theorem tb_566 : (Jvm.Cond.constant "RainLetters" (240 : Nat) (1103515245 : Int32)) ∈ tb := tb_in 566 rfl rfl
set_option maxRecDepth 20000 in
theorem tb_567 : (Jvm.Cond.constant "RainLetters" (243 : Nat) (2147483647 : Int32)) ∈ tb := tb_in 567 rfl rfl
set_option maxRecDepth 20000 in
theorem tb_571 : (Jvm.Cond.code ({ cls := "RainLetters", name := "image", desc := "()I" } : Jvm.MethodName) prog_1_method_21_code (1 : Nat) (Option.some Jvm.ClassFile.FieldType.int)) ∈ tb := tb_in 571 rfl rfl
set_option maxRecDepth 20000 in
theorem tb_572 : (Jvm.Cond.methodLink "RainLetters" (197 : Nat) ({ cls := "RainLetters$Scene", name := "takeAll", desc := "(LRainLetters$Scene;)V" } : Jvm.MethodName)) ∈ tb := tb_in 572 rfl rfl
set_option maxRecDepth 20000 in
theorem tb_573 : (Jvm.Cond.instanceMethod ({ cls := "RainLetters$Scene", name := "takeAll", desc := "(LRainLetters$Scene;)V" } : Jvm.MethodName)) ∈ tb := tb_in 573 rfl rfl
set_option maxRecDepth 20000 in
theorem tb_574 : (Jvm.Cond.selects "RainLetters$Scene" ({ cls := "RainLetters$Scene", name := "takeAll", desc := "(LRainLetters$Scene;)V" } : Jvm.MethodName) ({ cls := "RainLetters$Scene", name := "takeAll", desc := "(LRainLetters$Scene;)V" } : Jvm.MethodName)) ∈ tb := tb_in 574 rfl rfl
set_option maxRecDepth 20000 in
theorem tb_575 : (Jvm.Cond.code ({ cls := "RainLetters$Scene", name := "takeAll", desc := "(LRainLetters$Scene;)V" } : Jvm.MethodName) prog_5_method_2_code (2 : Nat) (Option.none : Option Jvm.ClassFile.FieldType)) ∈ tb := tb_in 575 rfl rfl
set_option maxRecDepth 20000 in
theorem tb_576 : (Jvm.Cond.methodLink "RainLetters$Scene" (30 : Nat) ({ cls := "RainLetters$Street", name := "takeAll", desc := "(LRainLetters$Street;)V" } : Jvm.MethodName)) ∈ tb := tb_in 576 rfl rfl
set_option maxRecDepth 20000 in
theorem tb_577 : (Jvm.Cond.instanceMethod ({ cls := "RainLetters$Street", name := "takeAll", desc := "(LRainLetters$Street;)V" } : Jvm.MethodName)) ∈ tb := tb_in 577 rfl rfl
set_option maxRecDepth 20000 in
theorem tb_578 : (Jvm.Cond.selects "RainLetters$Street" ({ cls := "RainLetters$Street", name := "takeAll", desc := "(LRainLetters$Street;)V" } : Jvm.MethodName) ({ cls := "RainLetters$Street", name := "takeAll", desc := "(LRainLetters$Street;)V" } : Jvm.MethodName)) ∈ tb := tb_in 578 rfl rfl
set_option maxRecDepth 20000 in
theorem tb_579 : (Jvm.Cond.code ({ cls := "RainLetters$Street", name := "takeAll", desc := "(LRainLetters$Street;)V" } : Jvm.MethodName) prog_6_method_4_code (3 : Nat) (Option.none : Option Jvm.ClassFile.FieldType)) ∈ tb := tb_in 579 rfl rfl
set_option maxRecDepth 20000 in
theorem tb_580 : (Jvm.Cond.methodLink "RainLetters$Street" (53 : Nat) ({ cls := "RainLetters$Street", name := "layLike", desc := "(LRainLetters$Street;)V" } : Jvm.MethodName)) ∈ tb := tb_in 580 rfl rfl
set_option maxRecDepth 20000 in
theorem tb_581 : (Jvm.Cond.methodLink "RainLetters$Scene" (34 : Nat) ({ cls := "RainLetters$Fallen", name := "takeAll", desc := "(LRainLetters$Fallen;)V" } : Jvm.MethodName)) ∈ tb := tb_in 581 rfl rfl
set_option maxRecDepth 20000 in
theorem tb_582 : (Jvm.Cond.instanceMethod ({ cls := "RainLetters$Fallen", name := "takeAll", desc := "(LRainLetters$Fallen;)V" } : Jvm.MethodName)) ∈ tb := tb_in 582 rfl rfl
set_option maxRecDepth 20000 in
theorem tb_583 : (Jvm.Cond.selects "RainLetters$Fallen" ({ cls := "RainLetters$Fallen", name := "takeAll", desc := "(LRainLetters$Fallen;)V" } : Jvm.MethodName) ({ cls := "RainLetters$Fallen", name := "takeAll", desc := "(LRainLetters$Fallen;)V" } : Jvm.MethodName)) ∈ tb := tb_in 583 rfl rfl
set_option maxRecDepth 20000 in
theorem tb_584 : (Jvm.Cond.code ({ cls := "RainLetters$Fallen", name := "takeAll", desc := "(LRainLetters$Fallen;)V" } : Jvm.MethodName) prog_2_method_3_code (2 : Nat) (Option.none : Option Jvm.ClassFile.FieldType)) ∈ tb := tb_in 584 rfl rfl
set_option maxRecDepth 20000 in
theorem tb_585 : (Jvm.Cond.methodLink "RainLetters$Fallen" (22 : Nat) ({ cls := "java/lang/System", name := "arraycopy", desc := "(Ljava/lang/Object;ILjava/lang/Object;II)V" } : Jvm.MethodName)) ∈ tb := tb_in 585 rfl rfl
set_option maxRecDepth 20000 in
theorem tb_586 : (Jvm.Cond.methodLink "RainLetters$Scene" (37 : Nat) ({ cls := "RainLetters$Finds", name := "takeAll", desc := "(LRainLetters$Finds;)V" } : Jvm.MethodName)) ∈ tb := tb_in 586 rfl rfl
set_option maxRecDepth 20000 in
theorem tb_587 : (Jvm.Cond.instanceMethod ({ cls := "RainLetters$Finds", name := "takeAll", desc := "(LRainLetters$Finds;)V" } : Jvm.MethodName)) ∈ tb := tb_in 587 rfl rfl
set_option maxRecDepth 20000 in
theorem tb_588 : (Jvm.Cond.selects "RainLetters$Finds" ({ cls := "RainLetters$Finds", name := "takeAll", desc := "(LRainLetters$Finds;)V" } : Jvm.MethodName) ({ cls := "RainLetters$Finds", name := "takeAll", desc := "(LRainLetters$Finds;)V" } : Jvm.MethodName)) ∈ tb := tb_in 588 rfl rfl
set_option maxRecDepth 20000 in
theorem tb_589 : (Jvm.Cond.code ({ cls := "RainLetters$Finds", name := "takeAll", desc := "(LRainLetters$Finds;)V" } : Jvm.MethodName) prog_3_method_5_code (3 : Nat) (Option.none : Option Jvm.ClassFile.FieldType)) ∈ tb := tb_in 589 rfl rfl
set_option maxRecDepth 20000 in
theorem tb_590 : (Jvm.Cond.methodLink "RainLetters$Finds" (35 : Nat) ({ cls := "java/lang/System", name := "arraycopy", desc := "(Ljava/lang/Object;ILjava/lang/Object;II)V" } : Jvm.MethodName)) ∈ tb := tb_in 590 rfl rfl
set_option maxRecDepth 20000 in
theorem tb_594 : (Jvm.Cond.code ({ cls := "RainLetters", name := "restore", desc := "()I" } : Jvm.MethodName) prog_1_method_22_code (1 : Nat) (Option.some Jvm.ClassFile.FieldType.int)) ∈ tb := tb_in 594 rfl rfl
set_option maxRecDepth 20000 in
theorem tb_596 : (Jvm.Cond.instanceMethod ({ cls := "RainLetters", name := "count", desc := "(I)I" } : Jvm.MethodName)) ∈ tb := tb_in 596 rfl rfl
set_option maxRecDepth 20000 in
theorem tb_597 : (Jvm.Cond.selects "RainLetters" ({ cls := "RainLetters", name := "count", desc := "(I)I" } : Jvm.MethodName) ({ cls := "RainLetters", name := "count", desc := "(I)I" } : Jvm.MethodName)) ∈ tb := tb_in 597 rfl rfl
set_option maxRecDepth 20000 in
theorem tb_598 : (Jvm.Cond.code ({ cls := "RainLetters", name := "count", desc := "(I)I" } : Jvm.MethodName) prog_1_method_23_code (2 : Nat) (Option.some Jvm.ClassFile.FieldType.int)) ∈ tb := tb_in 598 rfl rfl
set_option maxRecDepth 20000 in
theorem tb_599 : (Jvm.Cond.methodLink "RainLetters" (201 : Nat) ({ cls := "RainLetters$Street", name := "lettersLost", desc := "()I" } : Jvm.MethodName)) ∈ tb := tb_in 599 rfl rfl
set_option maxRecDepth 20000 in
theorem tb_600 : (Jvm.Cond.instanceMethod ({ cls := "RainLetters$Street", name := "lettersLost", desc := "()I" } : Jvm.MethodName)) ∈ tb := tb_in 600 rfl rfl
set_option maxRecDepth 20000 in
theorem tb_601 : (Jvm.Cond.selects "RainLetters$Street" ({ cls := "RainLetters$Street", name := "lettersLost", desc := "()I" } : Jvm.MethodName) ({ cls := "RainLetters$Street", name := "lettersLost", desc := "()I" } : Jvm.MethodName)) ∈ tb := tb_in 601 rfl rfl
set_option maxRecDepth 20000 in
theorem tb_602 : (Jvm.Cond.code ({ cls := "RainLetters$Street", name := "lettersLost", desc := "()I" } : Jvm.MethodName) prog_6_method_13_code (1 : Nat) (Option.some Jvm.ClassFile.FieldType.int)) ∈ tb := tb_in 602 rfl rfl
set_option maxRecDepth 20000 in
theorem tb_603 : (Jvm.Cond.methodLink "RainLetters" (204 : Nat) ({ cls := "RainLetters$Street", name := "fullBowls", desc := "()I" } : Jvm.MethodName)) ∈ tb := tb_in 603 rfl rfl
set_option maxRecDepth 20000 in
theorem tb_604 : (Jvm.Cond.instanceMethod ({ cls := "RainLetters$Street", name := "fullBowls", desc := "()I" } : Jvm.MethodName)) ∈ tb := tb_in 604 rfl rfl
set_option maxRecDepth 20000 in
theorem tb_605 : (Jvm.Cond.selects "RainLetters$Street" ({ cls := "RainLetters$Street", name := "fullBowls", desc := "()I" } : Jvm.MethodName) ({ cls := "RainLetters$Street", name := "fullBowls", desc := "()I" } : Jvm.MethodName)) ∈ tb := tb_in 605 rfl rfl
set_option maxRecDepth 20000 in
theorem tb_606 : (Jvm.Cond.code ({ cls := "RainLetters$Street", name := "fullBowls", desc := "()I" } : Jvm.MethodName) prog_6_method_14_code (3 : Nat) (Option.some Jvm.ClassFile.FieldType.int)) ∈ tb := tb_in 606 rfl rfl
set_option maxRecDepth 20000 in
theorem tb_610 : (Jvm.Cond.code ({ cls := "RainLetters", name := "digest", desc := "()J" } : Jvm.MethodName) prog_1_method_24_code (4 : Nat) (Option.some Jvm.ClassFile.FieldType.long)) ∈ tb := tb_in 610 rfl rfl
set_option maxRecDepth 20000 in
theorem tb_611 : (Jvm.Cond.constantLong "RainLetters" (207 : Nat) (821 : Int64)) ∈ tb := tb_in 611 rfl rfl
set_option maxRecDepth 20000 in
theorem tb_612 : (Jvm.Cond.methodLink "RainLetters" (209 : Nat) ({ cls := "RainLetters", name := "mixGutters", desc := "(J)J" } : Jvm.MethodName)) ∈ tb := tb_in 612 rfl rfl
set_option maxRecDepth 20000 in
theorem tb_614 : (Jvm.Cond.instanceMethod ({ cls := "RainLetters", name := "mixGutters", desc := "(J)J" } : Jvm.MethodName)) ∈ tb := tb_in 614 rfl rfl
set_option maxRecDepth 20000 in
theorem tb_615 : (Jvm.Cond.code ({ cls := "RainLetters", name := "mixGutters", desc := "(J)J" } : Jvm.MethodName) prog_1_method_25_code (7 : Nat) (Option.some Jvm.ClassFile.FieldType.long)) ∈ tb := tb_in 615 rfl rfl
set_option maxRecDepth 20000 in
theorem tb_616 : (Jvm.Cond.methodLink "RainLetters" (223 : Nat) ({ cls := "RainLetters", name := "about", desc := "(II)I" } : Jvm.MethodName)) ∈ tb := tb_in 616 rfl rfl
set_option maxRecDepth 20000 in
theorem tb_617 : (Jvm.Cond.methodLink "RainLetters" (216 : Nat) ({ cls := "RainLetters", name := "mix", desc := "(JJ)J" } : Jvm.MethodName)) ∈ tb := tb_in 617 rfl rfl
set_option maxRecDepth 20000 in
theorem tb_618 : (Jvm.Cond.static ({ cls := "RainLetters", name := "mix", desc := "(JJ)J" } : Jvm.MethodName)) ∈ tb := tb_in 618 rfl rfl
set_option maxRecDepth 20000 in
theorem tb_619 : (Jvm.Cond.code ({ cls := "RainLetters", name := "mix", desc := "(JJ)J" } : Jvm.MethodName) prog_1_method_27_code (4 : Nat) (Option.some Jvm.ClassFile.FieldType.long)) ∈ tb := tb_in 619 rfl rfl
set_option maxRecDepth 20000 in
theorem tb_620 : (Jvm.Cond.constantLong "RainLetters" (238 : Nat) (31 : Int64)) ∈ tb := tb_in 620 rfl rfl
set_option maxRecDepth 20000 in
theorem tb_621 : (Jvm.Cond.methodLink "RainLetters" (226 : Nat) ({ cls := "RainLetters", name := "word", desc := "(II)I" } : Jvm.MethodName)) ∈ tb := tb_in 621 rfl rfl
set_option maxRecDepth 20000 in
theorem tb_622 : (Jvm.Cond.methodLink "RainLetters" (229 : Nat) ({ cls := "RainLetters", name := "kindOf", desc := "(I)I" } : Jvm.MethodName)) ∈ tb := tb_in 622 rfl rfl
set_option maxRecDepth 20000 in
theorem tb_623 : (Jvm.Cond.methodLink "RainLetters" (213 : Nat) ({ cls := "RainLetters", name := "mixDrops", desc := "(J)J" } : Jvm.MethodName)) ∈ tb := tb_in 623 rfl rfl
set_option maxRecDepth 20000 in
theorem tb_625 : (Jvm.Cond.instanceMethod ({ cls := "RainLetters", name := "mixDrops", desc := "(J)J" } : Jvm.MethodName)) ∈ tb := tb_in 625 rfl rfl
set_option maxRecDepth 20000 in
theorem tb_626 : (Jvm.Cond.code ({ cls := "RainLetters", name := "mixDrops", desc := "(J)J" } : Jvm.MethodName) prog_1_method_26_code (6 : Nat) (Option.some Jvm.ClassFile.FieldType.long)) ∈ tb := tb_in 626 rfl rfl
set_option maxRecDepth 20000 in
theorem tb_627 : (Jvm.Cond.methodLink "RainLetters" (232 : Nat) ({ cls := "RainLetters", name := "rain", desc := "(II)I" } : Jvm.MethodName)) ∈ tb := tb_in 627 rfl rfl
set_option maxRecDepth 20000 in
theorem tb_628 : (Jvm.Cond.methodLink "RainLetters" (235 : Nat) ({ cls := "RainLetters", name := "letterOf", desc := "(I)I" } : Jvm.MethodName)) ∈ tb := tb_in 628 rfl rfl
set_option maxRecDepth 20000 in
theorem tb_629 : (Jvm.Cond.methodLink "RainLetters" (220 : Nat) ({ cls := "RainLetters", name := "count", desc := "(I)I" } : Jvm.MethodName)) ∈ tb := tb_in 629 rfl rfl
set_option maxRecDepth 20000 in
theorem tb_636 : (Jvm.Cond.constant "RainLettersModel" (40 : Nat) (55987 : Int32)) ∈ tb := tb_in 636 rfl rfl
set_option maxRecDepth 20000 in
theorem tb_637 : (Jvm.Cond.fieldLink "RainLettersModel" (7 : Nat) "RainLettersModel" "page" "[I") ∈ tb := tb_in 637 rfl rfl
set_option maxRecDepth 20000 in
theorem tb_638 : (Jvm.Cond.fieldLink "RainLettersModel" (81 : Nat) "RainLettersModel" "pageMany" "I") ∈ tb := tb_in 638 rfl rfl
set_option maxRecDepth 20000 in
theorem tb_639 : (Jvm.Cond.fieldLink "RainLettersModel" (101 : Nat) "RainLettersModel" "isThere" "Z") ∈ tb := tb_in 639 rfl rfl
set_option maxRecDepth 20000 in
theorem tb_640 : (Jvm.Cond.fieldLink "RainLettersModel" (112 : Nat) "RainLettersModel" "streetsRead" "I") ∈ tb := tb_in 640 rfl rfl
set_option maxRecDepth 20000 in
theorem tb_641 : (Jvm.Cond.fieldLink "RainLettersModel" (13 : Nat) "RainLettersModel" "kinds" "[I") ∈ tb := tb_in 641 rfl rfl
set_option maxRecDepth 20000 in
theorem tb_642 : (Jvm.Cond.fieldLink "RainLettersModel" (16 : Nat) "RainLettersModel" "ways" "[I") ∈ tb := tb_in 642 rfl rfl
set_option maxRecDepth 20000 in
theorem tb_643 : (Jvm.Cond.fieldLink "RainLettersModel" (19 : Nat) "RainLettersModel" "rows" "[I") ∈ tb := tb_in 643 rfl rfl
set_option maxRecDepth 20000 in
theorem tb_644 : (Jvm.Cond.fieldLink "RainLettersModel" (109 : Nat) "RainLettersModel" "rainMany" "I") ∈ tb := tb_in 644 rfl rfl
set_option maxRecDepth 20000 in
theorem tb_645 : (Jvm.Cond.fieldLink "RainLettersModel" (22 : Nat) "RainLettersModel" "rainGutter" "[I") ∈ tb := tb_in 645 rfl rfl
set_option maxRecDepth 20000 in
theorem tb_646 : (Jvm.Cond.fieldLink "RainLettersModel" (25 : Nat) "RainLettersModel" "rainLetter" "[I") ∈ tb := tb_in 646 rfl rfl
set_option maxRecDepth 20000 in
theorem tb_647 : (Jvm.Cond.fieldLink "RainLettersModel" (28 : Nat) "RainLettersModel" "again" "[I") ∈ tb := tb_in 647 rfl rfl
set_option maxRecDepth 20000 in
theorem tb_648 : (Jvm.Cond.fieldLink "RainLettersModel" (31 : Nat) "RainLettersModel" "againKinds" "[I") ∈ tb := tb_in 648 rfl rfl
set_option maxRecDepth 20000 in
theorem tb_649 : (Jvm.Cond.fieldLink "RainLettersModel" (34 : Nat) "RainLettersModel" "againWays" "[I") ∈ tb := tb_in 649 rfl rfl
set_option maxRecDepth 20000 in
theorem tb_650 : (Jvm.Cond.fieldLink "RainLettersModel" (37 : Nat) "RainLettersModel" "againLetter" "[I") ∈ tb := tb_in 650 rfl rfl
set_option maxRecDepth 20000 in
theorem tb_651 : (Jvm.Cond.fieldLink "RainLettersModel" (147 : Nat) "RainLettersModel" "fewMany" "I") ∈ tb := tb_in 651 rfl rfl
set_option maxRecDepth 20000 in
theorem tb_652 : (Jvm.Cond.fieldLink "RainLettersModel" (165 : Nat) "RainLettersModel" "orderMany" "I") ∈ tb := tb_in 652 rfl rfl
set_option maxRecDepth 20000 in
theorem tb_653 : (Jvm.Cond.fieldLink "RainLettersModel" (41 : Nat) "RainLettersModel" "came" "[I") ∈ tb := tb_in 653 rfl rfl
set_option maxRecDepth 20000 in
theorem tb_654 : (Jvm.Cond.fieldLink "RainLettersModel" (44 : Nat) "RainLettersModel" "order" "[I") ∈ tb := tb_in 654 rfl rfl
set_option maxRecDepth 20000 in
theorem tb_655 : (Jvm.Cond.fieldLink "RainLettersModel" (47 : Nat) "RainLettersModel" "foundMany" "[I") ∈ tb := tb_in 655 rfl rfl
set_option maxRecDepth 20000 in
theorem tb_656 : (Jvm.Cond.fieldLink "RainLettersModel" (50 : Nat) "RainLettersModel" "foundRows" "[I") ∈ tb := tb_in 656 rfl rfl
set_option maxRecDepth 20000 in
theorem tb_657 : (Jvm.Cond.fieldLink "RainLettersModel" (192 : Nat) "RainLettersModel" "seedNow" "I") ∈ tb := tb_in 657 rfl rfl
set_option maxRecDepth 20000 in
theorem tb_658 : (Jvm.Cond.fieldLink "RainLettersModel" (71 : Nat) "RainLettersModel" "keptStreet" "I") ∈ tb := tb_in 658 rfl rfl
set_option maxRecDepth 20000 in
theorem tb_659 : (Jvm.Cond.fieldLink "RainLettersModel" (205 : Nat) "RainLettersModel" "keptRainMany" "I") ∈ tb := tb_in 659 rfl rfl
set_option maxRecDepth 20000 in
theorem tb_660 : (Jvm.Cond.fieldLink "RainLettersModel" (53 : Nat) "RainLettersModel" "keptWays" "[I") ∈ tb := tb_in 660 rfl rfl
set_option maxRecDepth 20000 in
theorem tb_661 : (Jvm.Cond.fieldLink "RainLettersModel" (56 : Nat) "RainLettersModel" "keptRows" "[I") ∈ tb := tb_in 661 rfl rfl
set_option maxRecDepth 20000 in
theorem tb_662 : (Jvm.Cond.fieldLink "RainLettersModel" (59 : Nat) "RainLettersModel" "keptGutter" "[I") ∈ tb := tb_in 662 rfl rfl
set_option maxRecDepth 20000 in
theorem tb_663 : (Jvm.Cond.fieldLink "RainLettersModel" (62 : Nat) "RainLettersModel" "keptLetter" "[I") ∈ tb := tb_in 663 rfl rfl
set_option maxRecDepth 20000 in
theorem tb_664 : (Jvm.Cond.fieldLink "RainLettersModel" (65 : Nat) "RainLettersModel" "keptFoundMany" "[I") ∈ tb := tb_in 664 rfl rfl
set_option maxRecDepth 20000 in
theorem tb_665 : (Jvm.Cond.fieldLink "RainLettersModel" (68 : Nat) "RainLettersModel" "keptFound" "[I") ∈ tb := tb_in 665 rfl rfl
set_option maxRecDepth 20000 in
theorem tb_666 : (Jvm.Cond.fieldLink "RainLettersModel" (213 : Nat) "RainLettersModel" "hash" "J") ∈ tb := tb_in 666 rfl rfl
set_option maxRecDepth 20000 in
theorem tb_731 : (Jvm.Cond.code ({ cls := "RainLettersModel", name := "letter", desc := "(I)I" } : Jvm.MethodName) prog_9_method_4_code (2 : Nat) (Option.some Jvm.ClassFile.FieldType.int)) ∈ tb := tb_in 731 rfl rfl
set_option maxRecDepth 20000 in
theorem tb_732 : (Jvm.Cond.constantLong "RainLettersModel" (75 : Nat) (126 : Int64)) ∈ tb := tb_in 732 rfl rfl
set_option maxRecDepth 20000 in
theorem tb_733 : (Jvm.Cond.methodLink "RainLettersModel" (77 : Nat) ({ cls := "RainLettersModel", name := "in", desc := "(JJJ)Z" } : Jvm.MethodName)) ∈ tb := tb_in 733 rfl rfl
set_option maxRecDepth 20000 in
theorem tb_734 : (Jvm.Cond.static ({ cls := "RainLettersModel", name := "in", desc := "(JJJ)Z" } : Jvm.MethodName)) ∈ tb := tb_in 734 rfl rfl
set_option maxRecDepth 20000 in
theorem tb_735 : (Jvm.Cond.code ({ cls := "RainLettersModel", name := "in", desc := "(JJJ)Z" } : Jvm.MethodName) prog_9_method_2_code (6 : Nat) (Option.some Jvm.ClassFile.FieldType.boolean)) ∈ tb := tb_in 735 rfl rfl
set_option maxRecDepth 20000 in
theorem tb_739 : (Jvm.Cond.code ({ cls := "RainLettersModel", name := "blank", desc := "()I" } : Jvm.MethodName) prog_9_method_5_code (2 : Nat) (Option.some Jvm.ClassFile.FieldType.int)) ∈ tb := tb_in 739 rfl rfl
set_option maxRecDepth 20000 in
theorem tb_743 : (Jvm.Cond.code ({ cls := "RainLettersModel", name := "fault", desc := "(I)I" } : Jvm.MethodName) prog_9_method_9_code (2 : Nat) (Option.some Jvm.ClassFile.FieldType.int)) ∈ tb := tb_in 743 rfl rfl
set_option maxRecDepth 20000 in
theorem tb_744 : (Jvm.Cond.methodLink "RainLettersModel" (98 : Nat) ({ cls := "RainLettersModel", name := "faultOf", desc := "(I)I" } : Jvm.MethodName)) ∈ tb := tb_in 744 rfl rfl
set_option maxRecDepth 20000 in
theorem tb_746 : (Jvm.Cond.instanceMethod ({ cls := "RainLettersModel", name := "faultOf", desc := "(I)I" } : Jvm.MethodName)) ∈ tb := tb_in 746 rfl rfl
set_option maxRecDepth 20000 in
theorem tb_747 : (Jvm.Cond.code ({ cls := "RainLettersModel", name := "faultOf", desc := "(I)I" } : Jvm.MethodName) prog_9_method_8_code (3 : Nat) (Option.some Jvm.ClassFile.FieldType.int)) ∈ tb := tb_in 747 rfl rfl
set_option maxRecDepth 20000 in
theorem tb_748 : (Jvm.Cond.methodLink "RainLettersModel" (90 : Nat) ({ cls := "RainLettersModel", name := "isGood", desc := "(II)Z" } : Jvm.MethodName)) ∈ tb := tb_in 748 rfl rfl
set_option maxRecDepth 20000 in
theorem tb_749 : (Jvm.Cond.static ({ cls := "RainLettersModel", name := "isGood", desc := "(II)Z" } : Jvm.MethodName)) ∈ tb := tb_in 749 rfl rfl
set_option maxRecDepth 20000 in
theorem tb_750 : (Jvm.Cond.code ({ cls := "RainLettersModel", name := "isGood", desc := "(II)Z" } : Jvm.MethodName) prog_9_method_7_code (3 : Nat) (Option.some Jvm.ClassFile.FieldType.boolean)) ∈ tb := tb_in 750 rfl rfl
set_option maxRecDepth 20000 in
theorem tb_751 : (Jvm.Cond.methodLink "RainLettersModel" (84 : Nat) ({ cls := "RainLettersModel", name := "kindBy", desc := "(I)I" } : Jvm.MethodName)) ∈ tb := tb_in 751 rfl rfl
set_option maxRecDepth 20000 in
theorem tb_752 : (Jvm.Cond.static ({ cls := "RainLettersModel", name := "kindBy", desc := "(I)I" } : Jvm.MethodName)) ∈ tb := tb_in 752 rfl rfl
set_option maxRecDepth 20000 in
theorem tb_753 : (Jvm.Cond.code ({ cls := "RainLettersModel", name := "kindBy", desc := "(I)I" } : Jvm.MethodName) prog_9_method_6_code (1 : Nat) (Option.some Jvm.ClassFile.FieldType.int)) ∈ tb := tb_in 753 rfl rfl
set_option maxRecDepth 20000 in
theorem tb_754 : (Jvm.Cond.constantLong "RainLettersModel" (88 : Nat) (5 : Int64)) ∈ tb := tb_in 754 rfl rfl
set_option maxRecDepth 20000 in
theorem tb_755 : (Jvm.Cond.constantLong "RainLettersModel" (94 : Nat) (97 : Int64)) ∈ tb := tb_in 755 rfl rfl
set_option maxRecDepth 20000 in
theorem tb_756 : (Jvm.Cond.constantLong "RainLettersModel" (96 : Nat) (101 : Int64)) ∈ tb := tb_in 756 rfl rfl
set_option maxRecDepth 20000 in
theorem tb_760 : (Jvm.Cond.code ({ cls := "RainLettersModel", name := "street", desc := "()I" } : Jvm.MethodName) prog_9_method_12_code (2 : Nat) (Option.some Jvm.ClassFile.FieldType.int)) ∈ tb := tb_in 760 rfl rfl
set_option maxRecDepth 20000 in
theorem tb_761 : (Jvm.Cond.methodLink "RainLettersModel" (105 : Nat) ({ cls := "RainLettersModel", name := "dryRows", desc := "([I)V" } : Jvm.MethodName)) ∈ tb := tb_in 761 rfl rfl
set_option maxRecDepth 20000 in
theorem tb_762 : (Jvm.Cond.static ({ cls := "RainLettersModel", name := "dryRows", desc := "([I)V" } : Jvm.MethodName)) ∈ tb := tb_in 762 rfl rfl
set_option maxRecDepth 20000 in
theorem tb_763 : (Jvm.Cond.code ({ cls := "RainLettersModel", name := "dryRows", desc := "([I)V" } : Jvm.MethodName) prog_9_method_10_code (3 : Nat) (Option.none : Option Jvm.ClassFile.FieldType)) ∈ tb := tb_in 763 rfl rfl
set_option maxRecDepth 20000 in
theorem tb_764 : (Jvm.Cond.methodLink "RainLettersModel" (115 : Nat) ({ cls := "RainLettersModel", name := "outs", desc := "()I" } : Jvm.MethodName)) ∈ tb := tb_in 764 rfl rfl
set_option maxRecDepth 20000 in
theorem tb_766 : (Jvm.Cond.instanceMethod ({ cls := "RainLettersModel", name := "outs", desc := "()I" } : Jvm.MethodName)) ∈ tb := tb_in 766 rfl rfl
set_option maxRecDepth 20000 in
theorem tb_767 : (Jvm.Cond.code ({ cls := "RainLettersModel", name := "outs", desc := "()I" } : Jvm.MethodName) prog_9_method_11_code (3 : Nat) (Option.some Jvm.ClassFile.FieldType.int)) ∈ tb := tb_in 767 rfl rfl
set_option maxRecDepth 20000 in
theorem tb_771 : (Jvm.Cond.code ({ cls := "RainLettersModel", name := "about", desc := "(II)I" } : Jvm.MethodName) prog_9_method_15_code (3 : Nat) (Option.some Jvm.ClassFile.FieldType.int)) ∈ tb := tb_in 771 rfl rfl
set_option maxRecDepth 20000 in
theorem tb_772 : (Jvm.Cond.methodLink "RainLettersModel" (119 : Nat) ({ cls := "RainLettersModel", name := "isGutter", desc := "(I)Z" } : Jvm.MethodName)) ∈ tb := tb_in 772 rfl rfl
set_option maxRecDepth 20000 in
theorem tb_774 : (Jvm.Cond.instanceMethod ({ cls := "RainLettersModel", name := "isGutter", desc := "(I)Z" } : Jvm.MethodName)) ∈ tb := tb_in 774 rfl rfl
set_option maxRecDepth 20000 in
theorem tb_775 : (Jvm.Cond.code ({ cls := "RainLettersModel", name := "isGutter", desc := "(I)Z" } : Jvm.MethodName) prog_9_method_13_code (2 : Nat) (Option.some Jvm.ClassFile.FieldType.boolean)) ∈ tb := tb_in 775 rfl rfl
set_option maxRecDepth 20000 in
theorem tb_776 : (Jvm.Cond.methodLink "RainLettersModel" (123 : Nat) ({ cls := "RainLettersModel", name := "tell", desc := "(II)I" } : Jvm.MethodName)) ∈ tb := tb_in 776 rfl rfl
set_option maxRecDepth 20000 in
theorem tb_778 : (Jvm.Cond.instanceMethod ({ cls := "RainLettersModel", name := "tell", desc := "(II)I" } : Jvm.MethodName)) ∈ tb := tb_in 778 rfl rfl
set_option maxRecDepth 20000 in
theorem tb_779 : (Jvm.Cond.code ({ cls := "RainLettersModel", name := "tell", desc := "(II)I" } : Jvm.MethodName) prog_9_method_14_code (3 : Nat) (Option.some Jvm.ClassFile.FieldType.int)) ∈ tb := tb_in 779 rfl rfl
set_option maxRecDepth 20000 in
theorem tb_783 : (Jvm.Cond.code ({ cls := "RainLettersModel", name := "as", desc := "(II)I" } : Jvm.MethodName) prog_9_method_16_code (4 : Nat) (Option.some Jvm.ClassFile.FieldType.int)) ∈ tb := tb_in 783 rfl rfl
set_option maxRecDepth 20000 in
theorem tb_784 : (Jvm.Cond.constantLong "RainLettersModel" (127 : Nat) (4 : Int64)) ∈ tb := tb_in 784 rfl rfl
set_option maxRecDepth 20000 in
theorem tb_788 : (Jvm.Cond.code ({ cls := "RainLettersModel", name := "word", desc := "(II)I" } : Jvm.MethodName) prog_9_method_17_code (3 : Nat) (Option.some Jvm.ClassFile.FieldType.int)) ∈ tb := tb_in 788 rfl rfl
set_option maxRecDepth 20000 in
theorem tb_792 : (Jvm.Cond.code ({ cls := "RainLettersModel", name := "drop", desc := "(II)I" } : Jvm.MethodName) prog_9_method_20_code (3 : Nat) (Option.some Jvm.ClassFile.FieldType.int)) ∈ tb := tb_in 792 rfl rfl
set_option maxRecDepth 20000 in
theorem tb_793 : (Jvm.Cond.methodLink "RainLettersModel" (133 : Nat) ({ cls := "RainLettersModel", name := "runs", desc := "([I[I[III)I" } : Jvm.MethodName)) ∈ tb := tb_in 793 rfl rfl
set_option maxRecDepth 20000 in
theorem tb_794 : (Jvm.Cond.static ({ cls := "RainLettersModel", name := "runs", desc := "([I[I[III)I" } : Jvm.MethodName)) ∈ tb := tb_in 794 rfl rfl
set_option maxRecDepth 20000 in
theorem tb_795 : (Jvm.Cond.code ({ cls := "RainLettersModel", name := "runs", desc := "([I[I[III)I" } : Jvm.MethodName) prog_9_method_19_code (8 : Nat) (Option.some Jvm.ClassFile.FieldType.int)) ∈ tb := tb_in 795 rfl rfl
set_option maxRecDepth 20000 in
theorem tb_796 : (Jvm.Cond.methodLink "RainLettersModel" (129 : Nat) ({ cls := "RainLettersModel", name := "through", desc := "([IIII)I" } : Jvm.MethodName)) ∈ tb := tb_in 796 rfl rfl
set_option maxRecDepth 20000 in
theorem tb_797 : (Jvm.Cond.static ({ cls := "RainLettersModel", name := "through", desc := "([IIII)I" } : Jvm.MethodName)) ∈ tb := tb_in 797 rfl rfl
set_option maxRecDepth 20000 in
theorem tb_798 : (Jvm.Cond.code ({ cls := "RainLettersModel", name := "through", desc := "([IIII)I" } : Jvm.MethodName) prog_9_method_18_code (7 : Nat) (Option.some Jvm.ClassFile.FieldType.int)) ∈ tb := tb_in 798 rfl rfl
set_option maxRecDepth 20000 in
theorem tb_802 : (Jvm.Cond.code ({ cls := "RainLettersModel", name := "rain", desc := "(II)I" } : Jvm.MethodName) prog_9_method_21_code (3 : Nat) (Option.some Jvm.ClassFile.FieldType.int)) ∈ tb := tb_in 802 rfl rfl
set_option maxRecDepth 20000 in
theorem tb_806 : (Jvm.Cond.code ({ cls := "RainLettersModel", name := "dry", desc := "()I" } : Jvm.MethodName) prog_9_method_22_code (2 : Nat) (Option.some Jvm.ClassFile.FieldType.int)) ∈ tb := tb_in 806 rfl rfl
set_option maxRecDepth 20000 in
theorem tb_810 : (Jvm.Cond.code ({ cls := "RainLettersModel", name := "turn", desc := "(II)I" } : Jvm.MethodName) prog_9_method_23_code (4 : Nat) (Option.some Jvm.ClassFile.FieldType.int)) ∈ tb := tb_in 810 rfl rfl
set_option maxRecDepth 20000 in
theorem tb_814 : (Jvm.Cond.code ({ cls := "RainLettersModel", name := "fewTurns", desc := "(II)I" } : Jvm.MethodName) prog_9_method_30_code (9 : Nat) (Option.some Jvm.ClassFile.FieldType.int)) ∈ tb := tb_in 814 rfl rfl
set_option maxRecDepth 20000 in
theorem tb_815 : (Jvm.Cond.constantLong "RainLettersModel" (141 : Nat) (2 : Int64)) ∈ tb := tb_in 815 rfl rfl
set_option maxRecDepth 20000 in
theorem tb_816 : (Jvm.Cond.methodLink "RainLettersModel" (143 : Nat) ({ cls := "RainLettersModel", name := "isPageWord", desc := "()Z" } : Jvm.MethodName)) ∈ tb := tb_in 816 rfl rfl
set_option maxRecDepth 20000 in
theorem tb_818 : (Jvm.Cond.instanceMethod ({ cls := "RainLettersModel", name := "isPageWord", desc := "()Z" } : Jvm.MethodName)) ∈ tb := tb_in 818 rfl rfl
set_option maxRecDepth 20000 in
theorem tb_819 : (Jvm.Cond.code ({ cls := "RainLettersModel", name := "isPageWord", desc := "()Z" } : Jvm.MethodName) prog_9_method_26_code (1 : Nat) (Option.some Jvm.ClassFile.FieldType.boolean)) ∈ tb := tb_in 819 rfl rfl
set_option maxRecDepth 20000 in
theorem tb_820 : (Jvm.Cond.methodLink "RainLettersModel" (150 : Nat) ({ cls := "RainLettersModel", name := "asItIs", desc := "()V" } : Jvm.MethodName)) ∈ tb := tb_in 820 rfl rfl
set_option maxRecDepth 20000 in
theorem tb_822 : (Jvm.Cond.instanceMethod ({ cls := "RainLettersModel", name := "asItIs", desc := "()V" } : Jvm.MethodName)) ∈ tb := tb_in 822 rfl rfl
set_option maxRecDepth 20000 in
theorem tb_823 : (Jvm.Cond.code ({ cls := "RainLettersModel", name := "asItIs", desc := "()V" } : Jvm.MethodName) prog_9_method_24_code (1 : Nat) (Option.none : Option Jvm.ClassFile.FieldType)) ∈ tb := tb_in 823 rfl rfl
set_option maxRecDepth 20000 in
theorem tb_824 : (Jvm.Cond.methodLink "RainLettersModel" (137 : Nat) ({ cls := "RainLettersModel", name := "copy", desc := "([I[I)V" } : Jvm.MethodName)) ∈ tb := tb_in 824 rfl rfl
set_option maxRecDepth 20000 in
theorem tb_825 : (Jvm.Cond.static ({ cls := "RainLettersModel", name := "copy", desc := "([I[I)V" } : Jvm.MethodName)) ∈ tb := tb_in 825 rfl rfl
set_option maxRecDepth 20000 in
theorem tb_826 : (Jvm.Cond.code ({ cls := "RainLettersModel", name := "copy", desc := "([I[I)V" } : Jvm.MethodName) prog_9_method_3_code (3 : Nat) (Option.none : Option Jvm.ClassFile.FieldType)) ∈ tb := tb_in 826 rfl rfl
set_option maxRecDepth 20000 in
theorem tb_827 : (Jvm.Cond.methodLink "RainLettersModel" (153 : Nat) ({ cls := "RainLettersModel", name := "layWays", desc := "(I)I" } : Jvm.MethodName)) ∈ tb := tb_in 827 rfl rfl
set_option maxRecDepth 20000 in
theorem tb_829 : (Jvm.Cond.instanceMethod ({ cls := "RainLettersModel", name := "layWays", desc := "(I)I" } : Jvm.MethodName)) ∈ tb := tb_in 829 rfl rfl
set_option maxRecDepth 20000 in
theorem tb_830 : (Jvm.Cond.code ({ cls := "RainLettersModel", name := "layWays", desc := "(I)I" } : Jvm.MethodName) prog_9_method_28_code (7 : Nat) (Option.some Jvm.ClassFile.FieldType.int)) ∈ tb := tb_in 830 rfl rfl
set_option maxRecDepth 20000 in
theorem tb_831 : (Jvm.Cond.methodLink "RainLettersModel" (156 : Nat) ({ cls := "RainLettersModel", name := "ones", desc := "(I)I" } : Jvm.MethodName)) ∈ tb := tb_in 831 rfl rfl
set_option maxRecDepth 20000 in
theorem tb_832 : (Jvm.Cond.static ({ cls := "RainLettersModel", name := "ones", desc := "(I)I" } : Jvm.MethodName)) ∈ tb := tb_in 832 rfl rfl
set_option maxRecDepth 20000 in
theorem tb_833 : (Jvm.Cond.code ({ cls := "RainLettersModel", name := "ones", desc := "(I)I" } : Jvm.MethodName) prog_9_method_29_code (3 : Nat) (Option.some Jvm.ClassFile.FieldType.int)) ∈ tb := tb_in 833 rfl rfl
set_option maxRecDepth 20000 in
theorem tb_834 : (Jvm.Cond.methodLink "RainLettersModel" (159 : Nat) ({ cls := "RainLettersModel", name := "fallsAgain", desc := "()V" } : Jvm.MethodName)) ∈ tb := tb_in 834 rfl rfl
set_option maxRecDepth 20000 in
theorem tb_836 : (Jvm.Cond.instanceMethod ({ cls := "RainLettersModel", name := "fallsAgain", desc := "()V" } : Jvm.MethodName)) ∈ tb := tb_in 836 rfl rfl
set_option maxRecDepth 20000 in
theorem tb_837 : (Jvm.Cond.code ({ cls := "RainLettersModel", name := "fallsAgain", desc := "()V" } : Jvm.MethodName) prog_9_method_25_code (3 : Nat) (Option.none : Option Jvm.ClassFile.FieldType)) ∈ tb := tb_in 837 rfl rfl
set_option maxRecDepth 20000 in
theorem tb_838 : (Jvm.Cond.methodLink "RainLettersModel" (162 : Nat) ({ cls := "RainLettersModel", name := "hasPage", desc := "(I)Z" } : Jvm.MethodName)) ∈ tb := tb_in 838 rfl rfl
set_option maxRecDepth 20000 in
theorem tb_840 : (Jvm.Cond.instanceMethod ({ cls := "RainLettersModel", name := "hasPage", desc := "(I)Z" } : Jvm.MethodName)) ∈ tb := tb_in 840 rfl rfl
set_option maxRecDepth 20000 in
theorem tb_841 : (Jvm.Cond.code ({ cls := "RainLettersModel", name := "hasPage", desc := "(I)Z" } : Jvm.MethodName) prog_9_method_27_code (4 : Nat) (Option.some Jvm.ClassFile.FieldType.boolean)) ∈ tb := tb_in 841 rfl rfl
set_option maxRecDepth 20000 in
theorem tb_845 : (Jvm.Cond.code ({ cls := "RainLettersModel", name := "orders", desc := "(I)I" } : Jvm.MethodName) prog_9_method_33_code (8 : Nat) (Option.some Jvm.ClassFile.FieldType.int)) ∈ tb := tb_in 845 rfl rfl
set_option maxRecDepth 20000 in
theorem tb_846 : (Jvm.Cond.methodLink "RainLettersModel" (168 : Nat) ({ cls := "RainLettersModel", name := "isOrder", desc := "(II)Z" } : Jvm.MethodName)) ∈ tb := tb_in 846 rfl rfl
set_option maxRecDepth 20000 in
theorem tb_848 : (Jvm.Cond.instanceMethod ({ cls := "RainLettersModel", name := "isOrder", desc := "(II)Z" } : Jvm.MethodName)) ∈ tb := tb_in 848 rfl rfl
set_option maxRecDepth 20000 in
theorem tb_849 : (Jvm.Cond.code ({ cls := "RainLettersModel", name := "isOrder", desc := "(II)Z" } : Jvm.MethodName) prog_9_method_32_code (6 : Nat) (Option.some Jvm.ClassFile.FieldType.boolean)) ∈ tb := tb_in 849 rfl rfl
set_option maxRecDepth 20000 in
theorem tb_850 : (Jvm.Cond.methodLink "RainLettersModel" (171 : Nat) ({ cls := "RainLettersModel", name := "wordOf", desc := "(I)I" } : Jvm.MethodName)) ∈ tb := tb_in 850 rfl rfl
set_option maxRecDepth 20000 in
theorem tb_852 : (Jvm.Cond.instanceMethod ({ cls := "RainLettersModel", name := "wordOf", desc := "(I)I" } : Jvm.MethodName)) ∈ tb := tb_in 852 rfl rfl
set_option maxRecDepth 20000 in
theorem tb_853 : (Jvm.Cond.code ({ cls := "RainLettersModel", name := "wordOf", desc := "(I)I" } : Jvm.MethodName) prog_9_method_31_code (4 : Nat) (Option.some Jvm.ClassFile.FieldType.int)) ∈ tb := tb_in 853 rfl rfl
set_option maxRecDepth 20000 in
theorem tb_857 : (Jvm.Cond.code ({ cls := "RainLettersModel", name := "bestDrop", desc := "(I)I" } : Jvm.MethodName) prog_9_method_35_code (6 : Nat) (Option.some Jvm.ClassFile.FieldType.int)) ∈ tb := tb_in 857 rfl rfl
set_option maxRecDepth 20000 in
theorem tb_858 : (Jvm.Cond.methodLink "RainLettersModel" (174 : Nat) ({ cls := "RainLettersModel", name := "outOf", desc := "([I)I" } : Jvm.MethodName)) ∈ tb := tb_in 858 rfl rfl
set_option maxRecDepth 20000 in
theorem tb_859 : (Jvm.Cond.static ({ cls := "RainLettersModel", name := "outOf", desc := "([I)I" } : Jvm.MethodName)) ∈ tb := tb_in 859 rfl rfl
set_option maxRecDepth 20000 in
theorem tb_860 : (Jvm.Cond.code ({ cls := "RainLettersModel", name := "outOf", desc := "([I)I" } : Jvm.MethodName) prog_9_method_34_code (3 : Nat) (Option.some Jvm.ClassFile.FieldType.int)) ∈ tb := tb_in 860 rfl rfl
set_option maxRecDepth 20000 in
theorem tb_864 : (Jvm.Cond.code ({ cls := "RainLettersModel", name := "found", desc := "(I)I" } : Jvm.MethodName) prog_9_method_37_code (3 : Nat) (Option.some Jvm.ClassFile.FieldType.int)) ∈ tb := tb_in 864 rfl rfl
set_option maxRecDepth 20000 in
theorem tb_865 : (Jvm.Cond.methodLink "RainLettersModel" (178 : Nat) ({ cls := "RainLettersModel", name := "founds", desc := "()I" } : Jvm.MethodName)) ∈ tb := tb_in 865 rfl rfl
set_option maxRecDepth 20000 in
theorem tb_867 : (Jvm.Cond.instanceMethod ({ cls := "RainLettersModel", name := "founds", desc := "()I" } : Jvm.MethodName)) ∈ tb := tb_in 867 rfl rfl
set_option maxRecDepth 20000 in
theorem tb_868 : (Jvm.Cond.code ({ cls := "RainLettersModel", name := "founds", desc := "()I" } : Jvm.MethodName) prog_9_method_36_code (3 : Nat) (Option.some Jvm.ClassFile.FieldType.int)) ∈ tb := tb_in 868 rfl rfl
set_option maxRecDepth 20000 in
theorem tb_872 : (Jvm.Cond.code ({ cls := "RainLettersModel", name := "forget", desc := "()I" } : Jvm.MethodName) prog_9_method_38_code (3 : Nat) (Option.some Jvm.ClassFile.FieldType.int)) ∈ tb := tb_in 872 rfl rfl
set_option maxRecDepth 20000 in
theorem tb_876 : (Jvm.Cond.code ({ cls := "RainLettersModel", name := "kindOf", desc := "(I)I" } : Jvm.MethodName) prog_9_method_41_code (2 : Nat) (Option.some Jvm.ClassFile.FieldType.int)) ∈ tb := tb_in 876 rfl rfl
set_option maxRecDepth 20000 in
theorem tb_877 : (Jvm.Cond.methodLink "RainLettersModel" (184 : Nat) ({ cls := "RainLettersModel", name := "kindBits", desc := "(I)I" } : Jvm.MethodName)) ∈ tb := tb_in 877 rfl rfl
set_option maxRecDepth 20000 in
theorem tb_879 : (Jvm.Cond.instanceMethod ({ cls := "RainLettersModel", name := "kindBits", desc := "(I)I" } : Jvm.MethodName)) ∈ tb := tb_in 879 rfl rfl
set_option maxRecDepth 20000 in
theorem tb_880 : (Jvm.Cond.code ({ cls := "RainLettersModel", name := "kindBits", desc := "(I)I" } : Jvm.MethodName) prog_9_method_40_code (4 : Nat) (Option.some Jvm.ClassFile.FieldType.int)) ∈ tb := tb_in 880 rfl rfl
set_option maxRecDepth 20000 in
theorem tb_881 : (Jvm.Cond.methodLink "RainLettersModel" (181 : Nat) ({ cls := "RainLettersModel", name := "isFound", desc := "()Z" } : Jvm.MethodName)) ∈ tb := tb_in 881 rfl rfl
set_option maxRecDepth 20000 in
theorem tb_883 : (Jvm.Cond.instanceMethod ({ cls := "RainLettersModel", name := "isFound", desc := "()Z" } : Jvm.MethodName)) ∈ tb := tb_in 883 rfl rfl
set_option maxRecDepth 20000 in
theorem tb_884 : (Jvm.Cond.code ({ cls := "RainLettersModel", name := "isFound", desc := "()Z" } : Jvm.MethodName) prog_9_method_39_code (4 : Nat) (Option.some Jvm.ClassFile.FieldType.boolean)) ∈ tb := tb_in 884 rfl rfl
set_option maxRecDepth 20000 in
theorem tb_888 : (Jvm.Cond.code ({ cls := "RainLettersModel", name := "letterOf", desc := "(I)I" } : Jvm.MethodName) prog_9_method_43_code (2 : Nat) (Option.some Jvm.ClassFile.FieldType.int)) ∈ tb := tb_in 888 rfl rfl
set_option maxRecDepth 20000 in
theorem tb_889 : (Jvm.Cond.methodLink "RainLettersModel" (187 : Nat) ({ cls := "RainLettersModel", name := "letterBits", desc := "(I)I" } : Jvm.MethodName)) ∈ tb := tb_in 889 rfl rfl
set_option maxRecDepth 20000 in
theorem tb_891 : (Jvm.Cond.instanceMethod ({ cls := "RainLettersModel", name := "letterBits", desc := "(I)I" } : Jvm.MethodName)) ∈ tb := tb_in 891 rfl rfl
set_option maxRecDepth 20000 in
theorem tb_892 : (Jvm.Cond.code ({ cls := "RainLettersModel", name := "letterBits", desc := "(I)I" } : Jvm.MethodName) prog_9_method_42_code (4 : Nat) (Option.some Jvm.ClassFile.FieldType.int)) ∈ tb := tb_in 892 rfl rfl
set_option maxRecDepth 20000 in
theorem tb_896 : (Jvm.Cond.code ({ cls := "RainLettersModel", name := "mornings", desc := "(III)I" } : Jvm.MethodName) prog_9_method_45_code (10 : Nat) (Option.some Jvm.ClassFile.FieldType.int)) ∈ tb := tb_in 896 rfl rfl
set_option maxRecDepth 20000 in
theorem tb_897 : (Jvm.Cond.constantLong "RainLettersModel" (200 : Nat) (40 : Int64)) ∈ tb := tb_in 897 rfl rfl
set_option maxRecDepth 20000 in
theorem tb_898 : (Jvm.Cond.methodLink "RainLettersModel" (202 : Nat) ({ cls := "RainLettersModel", name := "draw", desc := "(I)I" } : Jvm.MethodName)) ∈ tb := tb_in 898 rfl rfl
set_option maxRecDepth 20000 in
theorem tb_900 : (Jvm.Cond.instanceMethod ({ cls := "RainLettersModel", name := "draw", desc := "(I)I" } : Jvm.MethodName)) ∈ tb := tb_in 900 rfl rfl
set_option maxRecDepth 20000 in
theorem tb_901 : (Jvm.Cond.code ({ cls := "RainLettersModel", name := "draw", desc := "(I)I" } : Jvm.MethodName) prog_9_method_44_code (2 : Nat) (Option.some Jvm.ClassFile.FieldType.int)) ∈ tb := tb_in 901 rfl rfl
set_option maxRecDepth 20000 in
theorem tb_902 : (Jvm.Cond.constantLong "RainLettersModel" (190 : Nat) (1103515245 : Int64)) ∈ tb := tb_in 902 rfl rfl
set_option maxRecDepth 20000 in
theorem tb_903 : (Jvm.Cond.constantLong "RainLettersModel" (195 : Nat) (12345 : Int64)) ∈ tb := tb_in 903 rfl rfl
set_option maxRecDepth 20000 in
theorem tb_904 : (Jvm.Cond.constantLong "RainLettersModel" (197 : Nat) (2147483647 : Int64)) ∈ tb := tb_in 904 rfl rfl
set_option maxRecDepth 20000 in
theorem tb_905 : (Jvm.Cond.constant "RainLettersModel" (199 : Nat) (65536 : Int32)) ∈ tb := tb_in 905 rfl rfl
set_option maxRecDepth 20000 in
theorem tb_909 : (Jvm.Cond.code ({ cls := "RainLettersModel", name := "image", desc := "()I" } : Jvm.MethodName) prog_9_method_46_code (1 : Nat) (Option.some Jvm.ClassFile.FieldType.int)) ∈ tb := tb_in 909 rfl rfl
set_option maxRecDepth 20000 in
theorem tb_913 : (Jvm.Cond.code ({ cls := "RainLettersModel", name := "restore", desc := "()I" } : Jvm.MethodName) prog_9_method_47_code (1 : Nat) (Option.some Jvm.ClassFile.FieldType.int)) ∈ tb := tb_in 913 rfl rfl
set_option maxRecDepth 20000 in
theorem tb_917 : (Jvm.Cond.code ({ cls := "RainLettersModel", name := "count", desc := "(I)I" } : Jvm.MethodName) prog_9_method_49_code (2 : Nat) (Option.some Jvm.ClassFile.FieldType.int)) ∈ tb := tb_in 917 rfl rfl
set_option maxRecDepth 20000 in
theorem tb_918 : (Jvm.Cond.methodLink "RainLettersModel" (208 : Nat) ({ cls := "RainLettersModel", name := "countOf", desc := "(I)I" } : Jvm.MethodName)) ∈ tb := tb_in 918 rfl rfl
set_option maxRecDepth 20000 in
theorem tb_920 : (Jvm.Cond.instanceMethod ({ cls := "RainLettersModel", name := "countOf", desc := "(I)I" } : Jvm.MethodName)) ∈ tb := tb_in 920 rfl rfl
set_option maxRecDepth 20000 in
theorem tb_921 : (Jvm.Cond.code ({ cls := "RainLettersModel", name := "countOf", desc := "(I)I" } : Jvm.MethodName) prog_9_method_48_code (5 : Nat) (Option.some Jvm.ClassFile.FieldType.int)) ∈ tb := tb_in 921 rfl rfl
set_option maxRecDepth 20000 in
theorem tb_925 : (Jvm.Cond.code ({ cls := "RainLettersModel", name := "digest", desc := "()J" } : Jvm.MethodName) prog_9_method_52_code (2 : Nat) (Option.some Jvm.ClassFile.FieldType.long)) ∈ tb := tb_in 925 rfl rfl
set_option maxRecDepth 20000 in
theorem tb_926 : (Jvm.Cond.constantLong "RainLettersModel" (221 : Nat) (821 : Int64)) ∈ tb := tb_in 926 rfl rfl
set_option maxRecDepth 20000 in
theorem tb_927 : (Jvm.Cond.methodLink "RainLettersModel" (223 : Nat) ({ cls := "RainLettersModel", name := "sayGutter", desc := "(I)V" } : Jvm.MethodName)) ∈ tb := tb_in 927 rfl rfl
set_option maxRecDepth 20000 in
theorem tb_929 : (Jvm.Cond.instanceMethod ({ cls := "RainLettersModel", name := "sayGutter", desc := "(I)V" } : Jvm.MethodName)) ∈ tb := tb_in 929 rfl rfl
set_option maxRecDepth 20000 in
theorem tb_930 : (Jvm.Cond.code ({ cls := "RainLettersModel", name := "sayGutter", desc := "(I)V" } : Jvm.MethodName) prog_9_method_51_code (3 : Nat) (Option.none : Option Jvm.ClassFile.FieldType)) ∈ tb := tb_in 930 rfl rfl
set_option maxRecDepth 20000 in
theorem tb_931 : (Jvm.Cond.methodLink "RainLettersModel" (217 : Nat) ({ cls := "RainLettersModel", name := "say", desc := "(J)V" } : Jvm.MethodName)) ∈ tb := tb_in 931 rfl rfl
set_option maxRecDepth 20000 in
theorem tb_933 : (Jvm.Cond.instanceMethod ({ cls := "RainLettersModel", name := "say", desc := "(J)V" } : Jvm.MethodName)) ∈ tb := tb_in 933 rfl rfl
set_option maxRecDepth 20000 in
theorem tb_934 : (Jvm.Cond.code ({ cls := "RainLettersModel", name := "say", desc := "(J)V" } : Jvm.MethodName) prog_9_method_50_code (3 : Nat) (Option.none : Option Jvm.ClassFile.FieldType)) ∈ tb := tb_in 934 rfl rfl
set_option maxRecDepth 20000 in
theorem tb_935 : (Jvm.Cond.constantLong "RainLettersModel" (211 : Nat) (31 : Int64)) ∈ tb := tb_in 935 rfl rfl
def mX0_add : Mt := (yX0_add, cX0_add, 3, none, { frames := 0, cells := 0, slots := 0, locals := 0 })
theorem ml_X0_add : ML mX0_add 2 := ⟨tb_38, tb_407, by decide +kernel, rfl, rfl, by decide +kernel⟩
def mX0_takeAll : Mt := (yX0_takeAll, cX0_takeAll, 2, none, { frames := 1, cells := 0, slots := 0, locals := 60 })
theorem ml_X0_takeAll : ML mX0_takeAll 1 := ⟨tb_38, tb_584, by decide +kernel, rfl, rfl, by decide +kernel⟩
def mX1_clear : Mt := (yX1_clear, cX1_clear, 1, none, { frames := 1, cells := 0, slots := 0, locals := 23 })
theorem ml_X1_clear : ML mX1_clear 0 := ⟨tb_39, tb_153, by decide +kernel, rfl, rfl, by decide +kernel⟩
def mX1_countFound : Mt := (yX1_countFound, cX1_countFound, 6, (some .int), { frames := 0, cells := 0, slots := 0, locals := 0 })
theorem ml_X1_countFound : ML mX1_countFound 0 := ⟨tb_39, tb_541, by decide +kernel, rfl, rfl, by decide +kernel⟩
def mX1_fit : Mt := (yX1_fit, cX1_fit, 3, (some .boolean), { frames := 1, cells := 0, slots := 0, locals := 24 })
theorem ml_X1_fit : ML mX1_fit 1 := ⟨tb_39, tb_553, by decide +kernel, rfl, rfl, by decide +kernel⟩
def mX1_takeAll : Mt := (yX1_takeAll, cX1_takeAll, 3, none, { frames := 1, cells := 0, slots := 0, locals := 60 })
theorem ml_X1_takeAll : ML mX1_takeAll 1 := ⟨tb_39, tb_589, by decide +kernel, rfl, rfl, by decide +kernel⟩
def mX2_firstFault : Mt := (yX2_firstFault, cX2_firstFault, 4, (some .int), { frames := 6, cells := 0, slots := 0, locals := 133 })
theorem ml_X2_firstFault : ML mX2_firstFault 1 := ⟨tb_35, tb_250, by decide +kernel, rfl, rfl, by decide +kernel⟩
def mX2_isStreet : Mt := (yX2_isStreet, cX2_isStreet, 1, (some .boolean), { frames := 7, cells := 0, slots := 0, locals := 156 })
theorem ml_X2_isStreet : ML mX2_isStreet 0 := ⟨tb_35, tb_365, by decide +kernel, rfl, rfl, by decide +kernel⟩
def mX2_isWord : Mt := (yX2_isWord, cX2_isWord, 1, (some .boolean), { frames := 7, cells := 0, slots := 0, locals := 156 })
theorem ml_X2_isWord : ML mX2_isWord 0 := ⟨tb_35, tb_447, by decide +kernel, rfl, rfl, by decide +kernel⟩
def mX2_kindAt : Mt := (yX2_kindAt, cX2_kindAt, 2, (some .int), { frames := 4, cells := 0, slots := 0, locals := 91 })
theorem ml_X2_kindAt : ML mX2_kindAt 1 := ⟨tb_35, tb_258, by decide +kernel, rfl, rfl, by decide +kernel⟩
def mX2_flowAt : Mt := (yX2_flowAt, cX2_flowAt, 5, (some .int), { frames := 0, cells := 0, slots := 0, locals := 0 })
theorem ml_X2_flowAt : ML mX2_flowAt 2 := ⟨tb_35, tb_349, by decide +kernel, rfl, rfl, by decide +kernel⟩
def mX2_copyLetters : Mt := (yX2_copyLetters, cX2_copyLetters, 3, none, { frames := 0, cells := 0, slots := 0, locals := 0 })
theorem ml_X2_copyLetters : ML mX2_copyLetters 1 := ⟨tb_35, tb_455, by decide +kernel, rfl, rfl, by decide +kernel⟩
def mX2_fitsStreet : Mt := (yX2_fitsStreet, cX2_fitsStreet, 2, (some .boolean), { frames := 5, cells := 0, slots := 0, locals := 112 })
theorem ml_X2_fitsStreet : ML mX2_fitsStreet 1 := ⟨tb_35, tb_254, by decide +kernel, rfl, rfl, by decide +kernel⟩
def mX2_fitsWord : Mt := (yX2_fitsWord, cX2_fitsWord, 2, (some .boolean), { frames := 1, cells := 0, slots := 0, locals := 20 })
theorem ml_X2_fitsWord : ML mX2_fitsWord 1 := ⟨tb_35, tb_353, by decide +kernel, rfl, rfl, by decide +kernel⟩
def mX3_takeAll : Mt := (yX3_takeAll, cX3_takeAll, 2, none, { frames := 4, cells := 0, slots := 0, locals := 103 })
theorem ml_X3_takeAll : ML mX3_takeAll 1 := ⟨tb_36, tb_575, by decide +kernel, rfl, rfl, by decide +kernel⟩
def mX4_clear : Mt := (yX4_clear, cX4_clear, 1, none, { frames := 1, cells := 0, slots := 0, locals := 23 })
theorem ml_X4_clear : ML mX4_clear 0 := ⟨tb_37, tb_372, by decide +kernel, rfl, rfl, by decide +kernel⟩
def mX4_layLike : Mt := (yX4_layLike, cX4_layLike, 2, none, { frames := 2, cells := 0, slots := 0, locals := 60 })
theorem ml_X4_layLike : ML mX4_layLike 1 := ⟨tb_37, tb_463, by decide +kernel, rfl, rfl, by decide +kernel⟩
def mX4_takeAll : Mt := (yX4_takeAll, cX4_takeAll, 3, none, { frames := 3, cells := 0, slots := 0, locals := 81 })
theorem ml_X4_takeAll : ML mX4_takeAll 1 := ⟨tb_37, tb_579, by decide +kernel, rfl, rfl, by decide +kernel⟩
def mX4_flowBy : Mt := (yX4_flowBy, cX4_flowBy, 6, none, { frames := 0, cells := 0, slots := 0, locals := 0 })
theorem ml_X4_flowBy : ML mX4_flowBy 1 := ⟨tb_37, tb_471, by decide +kernel, rfl, rfl, by decide +kernel⟩
def mX4_unlikeFlows : Mt := (yX4_unlikeFlows, cX4_unlikeFlows, 4, (some .int), { frames := 0, cells := 0, slots := 0, locals := 0 })
theorem ml_X4_unlikeFlows : ML mX4_unlikeFlows 1 := ⟨tb_37, tb_475, by decide +kernel, rfl, rfl, by decide +kernel⟩
def mX4_runAll : Mt := (yX4_runAll, cX4_runAll, 5, none, { frames := 3, cells := 0, slots := 0, locals := 71 })
theorem ml_X4_runAll : ML mX4_runAll 3 := ⟨tb_37, tb_485, by decide +kernel, rfl, rfl, by decide +kernel⟩
def mX4_run : Mt := (yX4_run, cX4_run, 6, (some .int), { frames := 2, cells := 0, slots := 0, locals := 46 })
theorem ml_X4_run : ML mX4_run 2 := ⟨tb_37, tb_411, by decide +kernel, rfl, rfl, by decide +kernel⟩
def mX4_wordIs : Mt := (yX4_wordIs, cX4_wordIs, 5, (some .boolean), { frames := 0, cells := 0, slots := 0, locals := 0 })
theorem ml_X4_wordIs : ML mX4_wordIs 3 := ⟨tb_37, tb_490, by decide +kernel, rfl, rfl, by decide +kernel⟩
def mX4_wordCode : Mt := (yX4_wordCode, cX4_wordCode, 4, (some .int), { frames := 0, cells := 0, slots := 0, locals := 0 })
theorem ml_X4_wordCode : ML mX4_wordCode 1 := ⟨tb_37, tb_518, by decide +kernel, rfl, rfl, by decide +kernel⟩
def mX4_countOut : Mt := (yX4_countOut, cX4_countOut, 6, (some .int), { frames := 0, cells := 0, slots := 0, locals := 0 })
theorem ml_X4_countOut : ML mX4_countOut 0 := ⟨tb_37, tb_378, by decide +kernel, rfl, rfl, by decide +kernel⟩
def mX4_lettersOut : Mt := (yX4_lettersOut, cX4_lettersOut, 1, (some .int), { frames := 1, cells := 0, slots := 0, locals := 25 })
theorem ml_X4_lettersOut : ML mX4_lettersOut 0 := ⟨tb_37, tb_530, by decide +kernel, rfl, rfl, by decide +kernel⟩
def mX4_lettersLost : Mt := (yX4_lettersLost, cX4_lettersLost, 1, (some .int), { frames := 1, cells := 0, slots := 0, locals := 25 })
theorem ml_X4_lettersLost : ML mX4_lettersLost 0 := ⟨tb_37, tb_602, by decide +kernel, rfl, rfl, by decide +kernel⟩
def mX4_fullBowls : Mt := (yX4_fullBowls, cX4_fullBowls, 3, (some .int), { frames := 0, cells := 0, slots := 0, locals := 0 })
theorem ml_X4_fullBowls : ML mX4_fullBowls 0 := ⟨tb_37, tb_606, by decide +kernel, rfl, rfl, by decide +kernel⟩
def mX4_sum : Mt := (yX4_sum, cX4_sum, 6, (some .int), { frames := 0, cells := 0, slots := 0, locals := 0 })
theorem ml_X4_sum : ML mX4_sum 1 := ⟨tb_37, tb_533, by decide +kernel, rfl, rfl, by decide +kernel⟩
def mX4_runOut : Mt := (yX4_runOut, cX4_runOut, 3, none, { frames := 0, cells := 0, slots := 0, locals := 0 })
theorem ml_X4_runOut : ML mX4_runOut 2 := ⟨tb_37, tb_423, by decide +kernel, rfl, rfl, by decide +kernel⟩
def mX4_passOn : Mt := (yX4_passOn, cX4_passOn, 4, (some .int), { frames := 1, cells := 0, slots := 0, locals := 23 })
theorem ml_X4_passOn : ML mX4_passOn 2 := ⟨tb_37, tb_415, by decide +kernel, rfl, rfl, by decide +kernel⟩
def mX4_letsThrough : Mt := (yX4_letsThrough, cX4_letsThrough, 4, (some .boolean), { frames := 0, cells := 0, slots := 0, locals := 0 })
theorem ml_X4_letsThrough : ML mX4_letsThrough 2 := ⟨tb_37, tb_419, by decide +kernel, rfl, rfl, by decide +kernel⟩
def mX5_clear : Mt := (yX5_clear, cX5_clear, 1, none, { frames := 0, cells := 0, slots := 0, locals := 0 })
theorem ml_X5_clear : ML mX5_clear 0 := ⟨tb_41, tb_459, by decide +kernel, rfl, rfl, by decide +kernel⟩
def mX5_add : Mt := (yX5_add, cX5_add, 3, none, { frames := 1, cells := 0, slots := 0, locals := 24 })
theorem ml_X5_add : ML mX5_add 1 := ⟨tb_41, tb_494, by decide +kernel, rfl, rfl, by decide +kernel⟩
def mX5_tell : Mt := (yX5_tell, cX5_tell, 2, (some .int), { frames := 0, cells := 0, slots := 0, locals := 0 })
theorem ml_X5_tell : ML mX5_tell 1 := ⟨tb_41, tb_500, by decide +kernel, rfl, rfl, by decide +kernel⟩
def mX6_letter : Mt := (yX6_letter, cX6_letter, 2, (some .int), { frames := 0, cells := 0, slots := 0, locals := 0 })
theorem ml_X6_letter : ML mX6_letter 1 := ⟨tb_34, tb_238, by decide +kernel, rfl, rfl, by decide +kernel⟩
def mX6_blank : Mt := (yX6_blank, cX6_blank, 2, (some .int), { frames := 0, cells := 0, slots := 0, locals := 0 })
theorem ml_X6_blank : ML mX6_blank 0 := ⟨tb_34, tb_242, by decide +kernel, rfl, rfl, by decide +kernel⟩
def mX6_fault : Mt := (yX6_fault, cX6_fault, 2, (some .int), { frames := 7, cells := 0, slots := 0, locals := 156 })
theorem ml_X6_fault : ML mX6_fault 1 := ⟨tb_34, tb_246, by decide +kernel, rfl, rfl, by decide +kernel⟩
def mX6_street : Mt := (yX6_street, cX6_street, 2, (some .int), { frames := 8, cells := 0, slots := 0, locals := 176 })
theorem ml_X6_street : ML mX6_street 0 := ⟨tb_34, tb_361, by decide +kernel, rfl, rfl, by decide +kernel⟩
def mX6_about : Mt := (yX6_about, cX6_about, 3, (some .int), { frames := 2, cells := 0, slots := 0, locals := 41 })
theorem ml_X6_about : ML mX6_about 2 := ⟨tb_34, tb_382, by decide +kernel, rfl, rfl, by decide +kernel⟩
def mX6_as : Mt := (yX6_as, cX6_as, 5, (some .int), { frames := 2, cells := 0, slots := 0, locals := 41 })
theorem ml_X6_as : ML mX6_as 2 := ⟨tb_34, tb_394, by decide +kernel, rfl, rfl, by decide +kernel⟩
def mX6_word : Mt := (yX6_word, cX6_word, 3, (some .int), { frames := 2, cells := 0, slots := 0, locals := 41 })
theorem ml_X6_word : ML mX6_word 2 := ⟨tb_34, tb_398, by decide +kernel, rfl, rfl, by decide +kernel⟩
def mX6_drop : Mt := (yX6_drop, cX6_drop, 3, (some .int), { frames := 3, cells := 0, slots := 0, locals := 71 })
theorem ml_X6_drop : ML mX6_drop 2 := ⟨tb_34, tb_402, by decide +kernel, rfl, rfl, by decide +kernel⟩
def mX6_rain : Mt := (yX6_rain, cX6_rain, 3, (some .int), { frames := 1, cells := 0, slots := 0, locals := 21 })
theorem ml_X6_rain : ML mX6_rain 2 := ⟨tb_34, tb_427, by decide +kernel, rfl, rfl, by decide +kernel⟩
def mX6_dry : Mt := (yX6_dry, cX6_dry, 2, (some .int), { frames := 2, cells := 0, slots := 0, locals := 43 })
theorem ml_X6_dry : ML mX6_dry 0 := ⟨tb_34, tb_435, by decide +kernel, rfl, rfl, by decide +kernel⟩
def mX6_turn : Mt := (yX6_turn, cX6_turn, 4, (some .int), { frames := 2, cells := 0, slots := 0, locals := 41 })
theorem ml_X6_turn : ML mX6_turn 2 := ⟨tb_34, tb_439, by decide +kernel, rfl, rfl, by decide +kernel⟩
def mX6_fewTurns : Mt := (yX6_fewTurns, cX6_fewTurns, 3, (some .int), { frames := 8, cells := 0, slots := 0, locals := 176 })
theorem ml_X6_fewTurns : ML mX6_fewTurns 2 := ⟨tb_34, tb_443, by decide +kernel, rfl, rfl, by decide +kernel⟩
def mX6_orders : Mt := (yX6_orders, cX6_orders, 2, (some .int), { frames := 5, cells := 0, slots := 0, locals := 122 })
theorem ml_X6_orders : ML mX6_orders 1 := ⟨tb_34, tb_504, by decide +kernel, rfl, rfl, by decide +kernel⟩
def mX6_bestDrop : Mt := (yX6_bestDrop, cX6_bestDrop, 6, (some .int), { frames := 4, cells := 0, slots := 0, locals := 95 })
theorem ml_X6_bestDrop : ML mX6_bestDrop 1 := ⟨tb_34, tb_526, by decide +kernel, rfl, rfl, by decide +kernel⟩
def mX6_found : Mt := (yX6_found, cX6_found, 2, (some .int), { frames := 8, cells := 0, slots := 0, locals := 176 })
theorem ml_X6_found : ML mX6_found 1 := ⟨tb_34, tb_537, by decide +kernel, rfl, rfl, by decide +kernel⟩
def mX6_forget : Mt := (yX6_forget, cX6_forget, 2, (some .int), { frames := 2, cells := 0, slots := 0, locals := 43 })
theorem ml_X6_forget : ML mX6_forget 0 := ⟨tb_34, tb_545, by decide +kernel, rfl, rfl, by decide +kernel⟩
def mX6_kindOf : Mt := (yX6_kindOf, cX6_kindOf, 4, (some .int), { frames := 4, cells := 0, slots := 0, locals := 95 })
theorem ml_X6_kindOf : ML mX6_kindOf 1 := ⟨tb_34, tb_549, by decide +kernel, rfl, rfl, by decide +kernel⟩
def mX6_letterOf : Mt := (yX6_letterOf, cX6_letterOf, 4, (some .int), { frames := 4, cells := 0, slots := 0, locals := 95 })
theorem ml_X6_letterOf : ML mX6_letterOf 1 := ⟨tb_34, tb_558, by decide +kernel, rfl, rfl, by decide +kernel⟩
def mX6_mornings : Mt := (yX6_mornings, cX6_mornings, 9, (some .int), { frames := 3, cells := 0, slots := 0, locals := 81 })
theorem ml_X6_mornings : ML mX6_mornings 3 := ⟨tb_34, tb_562, by decide +kernel, rfl, rfl, by decide +kernel⟩
def mX6_image : Mt := (yX6_image, cX6_image, 1, (some .int), { frames := 5, cells := 0, slots := 0, locals := 124 })
theorem ml_X6_image : ML mX6_image 0 := ⟨tb_34, tb_571, by decide +kernel, rfl, rfl, by decide +kernel⟩
def mX6_restore : Mt := (yX6_restore, cX6_restore, 1, (some .int), { frames := 5, cells := 0, slots := 0, locals := 124 })
theorem ml_X6_restore : ML mX6_restore 0 := ⟨tb_34, tb_594, by decide +kernel, rfl, rfl, by decide +kernel⟩
def mX6_count : Mt := (yX6_count, cX6_count, 2, (some .int), { frames := 2, cells := 0, slots := 0, locals := 45 })
theorem ml_X6_count : ML mX6_count 1 := ⟨tb_34, tb_598, by decide +kernel, rfl, rfl, by decide +kernel⟩
def mX6_digest : Mt := (yX6_digest, cX6_digest, 4, (some .long), { frames := 6, cells := 0, slots := 0, locals := 144 })
theorem ml_X6_digest : ML mX6_digest 0 := ⟨tb_34, tb_610, by decide +kernel, rfl, rfl, by decide +kernel⟩
def mX6_mixGutters : Mt := (yX6_mixGutters, cX6_mixGutters, 7, (some .long), { frames := 5, cells := 0, slots := 0, locals := 118 })
theorem ml_X6_mixGutters : ML mX6_mixGutters 1 := ⟨tb_34, tb_615, by decide +kernel, rfl, rfl, by decide +kernel⟩
def mX6_mixDrops : Mt := (yX6_mixDrops, cX6_mixDrops, 6, (some .long), { frames := 5, cells := 0, slots := 0, locals := 118 })
theorem ml_X6_mixDrops : ML mX6_mixDrops 1 := ⟨tb_34, tb_626, by decide +kernel, rfl, rfl, by decide +kernel⟩
def mX6_mix : Mt := (yX6_mix, cX6_mix, 4, (some .long), { frames := 0, cells := 0, slots := 0, locals := 0 })
theorem ml_X6_mix : ML mX6_mix 2 := ⟨tb_34, tb_619, by decide +kernel, rfl, rfl, by decide +kernel⟩
def mX6_hasStreet : Mt := (yX6_hasStreet, cX6_hasStreet, 1, (some .boolean), { frames := 0, cells := 0, slots := 0, locals := 0 })
theorem ml_X6_hasStreet : ML mX6_hasStreet 0 := ⟨tb_34, tb_390, by decide +kernel, rfl, rfl, by decide +kernel⟩
def mX6_isGutter : Mt := (yX6_isGutter, cX6_isGutter, 2, (some .boolean), { frames := 1, cells := 0, slots := 0, locals := 20 })
theorem ml_X6_isGutter : ML mX6_isGutter 1 := ⟨tb_34, tb_386, by decide +kernel, rfl, rfl, by decide +kernel⟩
def mX6_isDrop : Mt := (yX6_isDrop, cX6_isDrop, 2, (some .boolean), { frames := 0, cells := 0, slots := 0, locals := 0 })
theorem ml_X6_isDrop : ML mX6_isDrop 1 := ⟨tb_34, tb_431, by decide +kernel, rfl, rfl, by decide +kernel⟩
def mX6_isLetter : Mt := (yX6_isLetter, cX6_isLetter, 1, (some .boolean), { frames := 0, cells := 0, slots := 0, locals := 0 })
theorem ml_X6_isLetter : ML mX6_isLetter 1 := ⟨tb_34, tb_356, by decide +kernel, rfl, rfl, by decide +kernel⟩
def mX6_nextSeed : Mt := (yX6_nextSeed, cX6_nextSeed, 1, (some .int), { frames := 0, cells := 0, slots := 0, locals := 0 })
theorem ml_X6_nextSeed : ML mX6_nextSeed 1 := ⟨tb_34, tb_565, by decide +kernel, rfl, rfl, by decide +kernel⟩
def mX6_seekTurns : Mt := (yX6_seekTurns, cX6_seekTurns, 4, none, { frames := 4, cells := 0, slots := 0, locals := 95 })
theorem ml_X6_seekTurns : ML mX6_seekTurns 1 := ⟨tb_34, tb_451, by decide +kernel, rfl, rfl, by decide +kernel⟩
def mX6_countWords : Mt := (yX6_countWords, cX6_countWords, 6, (some .int), { frames := 4, cells := 0, slots := 0, locals := 97 })
theorem ml_X6_countWords : ML mX6_countWords 1 := ⟨tb_34, tb_508, by decide +kernel, rfl, rfl, by decide +kernel⟩
def mX6_runMixed : Mt := (yX6_runMixed, cX6_runMixed, 7, none, { frames := 3, cells := 0, slots := 0, locals := 71 })
theorem ml_X6_runMixed : ML mX6_runMixed 2 := ⟨tb_34, tb_514, by decide +kernel, rfl, rfl, by decide +kernel⟩
def mX6_noteWord : Mt := (yX6_noteWord, cX6_noteWord, 4, (some .boolean), { frames := 0, cells := 0, slots := 0, locals := 0 })
theorem ml_X6_noteWord : ML mX6_noteWord 1 := ⟨tb_34, tb_522, by decide +kernel, rfl, rfl, by decide +kernel⟩
def mX7_in : Mt := (yX7_in, cX7_in, 6, (some .boolean), { frames := 0, cells := 0, slots := 0, locals := 0 })
theorem ml_X7_in : ML mX7_in 3 := ⟨tb_42, tb_735, by decide +kernel, rfl, rfl, by decide +kernel⟩
def mX7_copy : Mt := (yX7_copy, cX7_copy, 3, none, { frames := 0, cells := 0, slots := 0, locals := 0 })
theorem ml_X7_copy : ML mX7_copy 2 := ⟨tb_42, tb_826, by decide +kernel, rfl, rfl, by decide +kernel⟩
def mX7_letter : Mt := (yX7_letter, cX7_letter, 2, (some .int), { frames := 1, cells := 0, slots := 0, locals := 25 })
theorem ml_X7_letter : ML mX7_letter 1 := ⟨tb_42, tb_731, by decide +kernel, rfl, rfl, by decide +kernel⟩
def mX7_blank : Mt := (yX7_blank, cX7_blank, 2, (some .int), { frames := 0, cells := 0, slots := 0, locals := 0 })
theorem ml_X7_blank : ML mX7_blank 0 := ⟨tb_42, tb_739, by decide +kernel, rfl, rfl, by decide +kernel⟩
def mX7_kindBy : Mt := (yX7_kindBy, cX7_kindBy, 1, (some .int), { frames := 0, cells := 0, slots := 0, locals := 0 })
theorem ml_X7_kindBy : ML mX7_kindBy 1 := ⟨tb_42, tb_753, by decide +kernel, rfl, rfl, by decide +kernel⟩
def mX7_isGood : Mt := (yX7_isGood, cX7_isGood, 3, (some .boolean), { frames := 1, cells := 0, slots := 0, locals := 25 })
theorem ml_X7_isGood : ML mX7_isGood 2 := ⟨tb_42, tb_750, by decide +kernel, rfl, rfl, by decide +kernel⟩
def mX7_faultOf : Mt := (yX7_faultOf, cX7_faultOf, 3, (some .int), { frames := 2, cells := 0, slots := 0, locals := 47 })
theorem ml_X7_faultOf : ML mX7_faultOf 1 := ⟨tb_42, tb_747, by decide +kernel, rfl, rfl, by decide +kernel⟩
def mX7_fault : Mt := (yX7_fault, cX7_fault, 2, (some .int), { frames := 3, cells := 0, slots := 0, locals := 69 })
theorem ml_X7_fault : ML mX7_fault 1 := ⟨tb_42, tb_743, by decide +kernel, rfl, rfl, by decide +kernel⟩
def mX7_dryRows : Mt := (yX7_dryRows, cX7_dryRows, 3, none, { frames := 0, cells := 0, slots := 0, locals := 0 })
theorem ml_X7_dryRows : ML mX7_dryRows 1 := ⟨tb_42, tb_763, by decide +kernel, rfl, rfl, by decide +kernel⟩
def mX7_outs : Mt := (yX7_outs, cX7_outs, 3, (some .int), { frames := 0, cells := 0, slots := 0, locals := 0 })
theorem ml_X7_outs : ML mX7_outs 0 := ⟨tb_42, tb_767, by decide +kernel, rfl, rfl, by decide +kernel⟩
def mX7_street : Mt := (yX7_street, cX7_street, 2, (some .int), { frames := 3, cells := 0, slots := 0, locals := 69 })
theorem ml_X7_street : ML mX7_street 0 := ⟨tb_42, tb_760, by decide +kernel, rfl, rfl, by decide +kernel⟩
def mX7_isGutter : Mt := (yX7_isGutter, cX7_isGutter, 2, (some .boolean), { frames := 1, cells := 0, slots := 0, locals := 25 })
theorem ml_X7_isGutter : ML mX7_isGutter 1 := ⟨tb_42, tb_775, by decide +kernel, rfl, rfl, by decide +kernel⟩
def mX7_tell : Mt := (yX7_tell, cX7_tell, 3, (some .int), { frames := 0, cells := 0, slots := 0, locals := 0 })
theorem ml_X7_tell : ML mX7_tell 2 := ⟨tb_42, tb_779, by decide +kernel, rfl, rfl, by decide +kernel⟩
def mX7_about : Mt := (yX7_about, cX7_about, 3, (some .int), { frames := 2, cells := 0, slots := 0, locals := 46 })
theorem ml_X7_about : ML mX7_about 2 := ⟨tb_42, tb_771, by decide +kernel, rfl, rfl, by decide +kernel⟩
def mX7_as : Mt := (yX7_as, cX7_as, 4, (some .int), { frames := 2, cells := 0, slots := 0, locals := 46 })
theorem ml_X7_as : ML mX7_as 2 := ⟨tb_42, tb_783, by decide +kernel, rfl, rfl, by decide +kernel⟩
def mX7_word : Mt := (yX7_word, cX7_word, 3, (some .int), { frames := 2, cells := 0, slots := 0, locals := 46 })
theorem ml_X7_word : ML mX7_word 2 := ⟨tb_42, tb_788, by decide +kernel, rfl, rfl, by decide +kernel⟩
def mX7_through : Mt := (yX7_through, cX7_through, 7, (some .int), { frames := 0, cells := 0, slots := 0, locals := 0 })
theorem ml_X7_through : ML mX7_through 4 := ⟨tb_42, tb_798, by decide +kernel, rfl, rfl, by decide +kernel⟩
def mX7_runs : Mt := (yX7_runs, cX7_runs, 8, (some .int), { frames := 1, cells := 0, slots := 0, locals := 26 })
theorem ml_X7_runs : ML mX7_runs 5 := ⟨tb_42, tb_795, by decide +kernel, rfl, rfl, by decide +kernel⟩
def mX7_drop : Mt := (yX7_drop, cX7_drop, 3, (some .int), { frames := 2, cells := 0, slots := 0, locals := 53 })
theorem ml_X7_drop : ML mX7_drop 2 := ⟨tb_42, tb_792, by decide +kernel, rfl, rfl, by decide +kernel⟩
def mX7_rain : Mt := (yX7_rain, cX7_rain, 3, (some .int), { frames := 1, cells := 0, slots := 0, locals := 25 })
theorem ml_X7_rain : ML mX7_rain 2 := ⟨tb_42, tb_802, by decide +kernel, rfl, rfl, by decide +kernel⟩
def mX7_dry : Mt := (yX7_dry, cX7_dry, 2, (some .int), { frames := 1, cells := 0, slots := 0, locals := 22 })
theorem ml_X7_dry : ML mX7_dry 0 := ⟨tb_42, tb_806, by decide +kernel, rfl, rfl, by decide +kernel⟩
def mX7_turn : Mt := (yX7_turn, cX7_turn, 4, (some .int), { frames := 2, cells := 0, slots := 0, locals := 46 })
theorem ml_X7_turn : ML mX7_turn 2 := ⟨tb_42, tb_810, by decide +kernel, rfl, rfl, by decide +kernel⟩
def mX7_asItIs : Mt := (yX7_asItIs, cX7_asItIs, 1, none, { frames := 1, cells := 0, slots := 0, locals := 22 })
theorem ml_X7_asItIs : ML mX7_asItIs 0 := ⟨tb_42, tb_823, by decide +kernel, rfl, rfl, by decide +kernel⟩
def mX7_fallsAgain : Mt := (yX7_fallsAgain, cX7_fallsAgain, 3, none, { frames := 2, cells := 0, slots := 0, locals := 53 })
theorem ml_X7_fallsAgain : ML mX7_fallsAgain 0 := ⟨tb_42, tb_837, by decide +kernel, rfl, rfl, by decide +kernel⟩
def mX7_isPageWord : Mt := (yX7_isPageWord, cX7_isPageWord, 1, (some .boolean), { frames := 3, cells := 0, slots := 0, locals := 69 })
theorem ml_X7_isPageWord : ML mX7_isPageWord 0 := ⟨tb_42, tb_819, by decide +kernel, rfl, rfl, by decide +kernel⟩
def mX7_hasPage : Mt := (yX7_hasPage, cX7_hasPage, 4, (some .boolean), { frames := 0, cells := 0, slots := 0, locals := 0 })
theorem ml_X7_hasPage : ML mX7_hasPage 1 := ⟨tb_42, tb_841, by decide +kernel, rfl, rfl, by decide +kernel⟩
def mX7_layWays : Mt := (yX7_layWays, cX7_layWays, 7, (some .int), { frames := 0, cells := 0, slots := 0, locals := 0 })
theorem ml_X7_layWays : ML mX7_layWays 1 := ⟨tb_42, tb_830, by decide +kernel, rfl, rfl, by decide +kernel⟩
def mX7_ones : Mt := (yX7_ones, cX7_ones, 3, (some .int), { frames := 0, cells := 0, slots := 0, locals := 0 })
theorem ml_X7_ones : ML mX7_ones 1 := ⟨tb_42, tb_833, by decide +kernel, rfl, rfl, by decide +kernel⟩
def mX7_fewTurns : Mt := (yX7_fewTurns, cX7_fewTurns, 9, (some .int), { frames := 4, cells := 0, slots := 0, locals := 89 })
theorem ml_X7_fewTurns : ML mX7_fewTurns 2 := ⟨tb_42, tb_814, by decide +kernel, rfl, rfl, by decide +kernel⟩
def mX7_wordOf : Mt := (yX7_wordOf, cX7_wordOf, 4, (some .int), { frames := 0, cells := 0, slots := 0, locals := 0 })
theorem ml_X7_wordOf : ML mX7_wordOf 1 := ⟨tb_42, tb_853, by decide +kernel, rfl, rfl, by decide +kernel⟩
def mX7_isOrder : Mt := (yX7_isOrder, cX7_isOrder, 6, (some .boolean), { frames := 0, cells := 0, slots := 0, locals := 0 })
theorem ml_X7_isOrder : ML mX7_isOrder 2 := ⟨tb_42, tb_849, by decide +kernel, rfl, rfl, by decide +kernel⟩
def mX7_orders : Mt := (yX7_orders, cX7_orders, 8, (some .int), { frames := 2, cells := 0, slots := 0, locals := 53 })
theorem ml_X7_orders : ML mX7_orders 1 := ⟨tb_42, tb_845, by decide +kernel, rfl, rfl, by decide +kernel⟩
def mX7_outOf : Mt := (yX7_outOf, cX7_outOf, 3, (some .int), { frames := 0, cells := 0, slots := 0, locals := 0 })
theorem ml_X7_outOf : ML mX7_outOf 1 := ⟨tb_42, tb_860, by decide +kernel, rfl, rfl, by decide +kernel⟩
def mX7_bestDrop : Mt := (yX7_bestDrop, cX7_bestDrop, 6, (some .int), { frames := 3, cells := 0, slots := 0, locals := 75 })
theorem ml_X7_bestDrop : ML mX7_bestDrop 1 := ⟨tb_42, tb_857, by decide +kernel, rfl, rfl, by decide +kernel⟩
def mX7_founds : Mt := (yX7_founds, cX7_founds, 3, (some .int), { frames := 0, cells := 0, slots := 0, locals := 0 })
theorem ml_X7_founds : ML mX7_founds 0 := ⟨tb_42, tb_868, by decide +kernel, rfl, rfl, by decide +kernel⟩
def mX7_found : Mt := (yX7_found, cX7_found, 3, (some .int), { frames := 4, cells := 0, slots := 0, locals := 89 })
theorem ml_X7_found : ML mX7_found 1 := ⟨tb_42, tb_864, by decide +kernel, rfl, rfl, by decide +kernel⟩
def mX7_forget : Mt := (yX7_forget, cX7_forget, 3, (some .int), { frames := 1, cells := 0, slots := 0, locals := 22 })
theorem ml_X7_forget : ML mX7_forget 0 := ⟨tb_42, tb_872, by decide +kernel, rfl, rfl, by decide +kernel⟩
def mX7_isFound : Mt := (yX7_isFound, cX7_isFound, 4, (some .boolean), { frames := 3, cells := 0, slots := 0, locals := 75 })
theorem ml_X7_isFound : ML mX7_isFound 0 := ⟨tb_42, tb_884, by decide +kernel, rfl, rfl, by decide +kernel⟩
def mX7_kindBits : Mt := (yX7_kindBits, cX7_kindBits, 4, (some .int), { frames := 4, cells := 0, slots := 0, locals := 98 })
theorem ml_X7_kindBits : ML mX7_kindBits 1 := ⟨tb_42, tb_880, by decide +kernel, rfl, rfl, by decide +kernel⟩
def mX7_kindOf : Mt := (yX7_kindOf, cX7_kindOf, 2, (some .int), { frames := 5, cells := 0, slots := 0, locals := 121 })
theorem ml_X7_kindOf : ML mX7_kindOf 1 := ⟨tb_42, tb_876, by decide +kernel, rfl, rfl, by decide +kernel⟩
def mX7_letterBits : Mt := (yX7_letterBits, cX7_letterBits, 4, (some .int), { frames := 4, cells := 0, slots := 0, locals := 98 })
theorem ml_X7_letterBits : ML mX7_letterBits 1 := ⟨tb_42, tb_892, by decide +kernel, rfl, rfl, by decide +kernel⟩
def mX7_letterOf : Mt := (yX7_letterOf, cX7_letterOf, 2, (some .int), { frames := 5, cells := 0, slots := 0, locals := 121 })
theorem ml_X7_letterOf : ML mX7_letterOf 1 := ⟨tb_42, tb_888, by decide +kernel, rfl, rfl, by decide +kernel⟩
def mX7_draw : Mt := (yX7_draw, cX7_draw, 2, (some .int), { frames := 0, cells := 0, slots := 0, locals := 0 })
theorem ml_X7_draw : ML mX7_draw 1 := ⟨tb_42, tb_901, by decide +kernel, rfl, rfl, by decide +kernel⟩
def mX7_mornings : Mt := (yX7_mornings, cX7_mornings, 10, (some .int), { frames := 2, cells := 0, slots := 0, locals := 53 })
theorem ml_X7_mornings : ML mX7_mornings 3 := ⟨tb_42, tb_896, by decide +kernel, rfl, rfl, by decide +kernel⟩
def mX7_image : Mt := (yX7_image, cX7_image, 1, (some .int), { frames := 1, cells := 0, slots := 0, locals := 22 })
theorem ml_X7_image : ML mX7_image 0 := ⟨tb_42, tb_909, by decide +kernel, rfl, rfl, by decide +kernel⟩
def mX7_restore : Mt := (yX7_restore, cX7_restore, 1, (some .int), { frames := 1, cells := 0, slots := 0, locals := 22 })
theorem ml_X7_restore : ML mX7_restore 0 := ⟨tb_42, tb_913, by decide +kernel, rfl, rfl, by decide +kernel⟩
def mX7_countOf : Mt := (yX7_countOf, cX7_countOf, 5, (some .int), { frames := 1, cells := 0, slots := 0, locals := 22 })
theorem ml_X7_countOf : ML mX7_countOf 1 := ⟨tb_42, tb_921, by decide +kernel, rfl, rfl, by decide +kernel⟩
def mX7_count : Mt := (yX7_count, cX7_count, 2, (some .int), { frames := 2, cells := 0, slots := 0, locals := 46 })
theorem ml_X7_count : ML mX7_count 1 := ⟨tb_42, tb_917, by decide +kernel, rfl, rfl, by decide +kernel⟩
def mX7_say : Mt := (yX7_say, cX7_say, 3, none, { frames := 0, cells := 0, slots := 0, locals := 0 })
theorem ml_X7_say : ML mX7_say 1 := ⟨tb_42, tb_934, by decide +kernel, rfl, rfl, by decide +kernel⟩
def mX7_sayGutter : Mt := (yX7_sayGutter, cX7_sayGutter, 3, none, { frames := 5, cells := 0, slots := 0, locals := 121 })
theorem ml_X7_sayGutter : ML mX7_sayGutter 1 := ⟨tb_42, tb_930, by decide +kernel, rfl, rfl, by decide +kernel⟩
def mX7_digest : Mt := (yX7_digest, cX7_digest, 2, (some .long), { frames := 6, cells := 0, slots := 0, locals := 143 })
theorem ml_X7_digest : ML mX7_digest 0 := ⟨tb_42, tb_925, by decide +kernel, rfl, rfl, by decide +kernel⟩
def mJ6_bitCount_0f7a4 : Mt := (yJ6_bitCount_0f7a4, cJ6_bitCount_0f7a4, 1, (some .int), { frames := 0, cells := 0, slots := 0, locals := 0 })
theorem ml_J6_bitCount_0f7a4 : ML mJ6_bitCount_0f7a4 1 := ⟨tb_50, tb_478, by decide +kernel, rfl, rfl, by decide +kernel⟩
def mJ0_length_8abf5 : Mt := (yJ0_length_8abf5, cJ0_length_8abf5, 1, (some .int), { frames := 1, cells := 0, slots := 0, locals := 20 })
theorem ml_J0_length_8abf5 : ML mJ0_length_8abf5 0 := ⟨tb_43, tb_277, by decide +kernel, rfl, rfl, by decide +kernel⟩
def mJ0_indexOf_0f7a4 : Mt := (yJ0_indexOf_0f7a4, cJ0_indexOf_0f7a4, 2, (some .int), { frames := 3, cells := 0, slots := 0, locals := 70 })
theorem ml_J0_indexOf_0f7a4 : ML mJ0_indexOf_0f7a4 1 := ⟨tb_43, tb_263, by decide +kernel, rfl, rfl, by decide +kernel⟩
def mJ0_indexOf_7cf53 : Mt := (yJ0_indexOf_7cf53, cJ0_indexOf_7cf53, 3, (some .int), { frames := 2, cells := 0, slots := 0, locals := 48 })
theorem ml_J0_indexOf_7cf53 : ML mJ0_indexOf_7cf53 2 := ⟨tb_43, tb_267, by decide +kernel, rfl, rfl, by decide +kernel⟩
def mJ0_coder_7d493 : Mt := (yJ0_coder_7d493, cJ0_coder_7d493, 1, (some .byte), { frames := 0, cells := 0, slots := 0, locals := 0 })
theorem ml_J0_coder_7d493 : ML mJ0_coder_7d493 0 := ⟨tb_43, tb_281, by decide +kernel, rfl, rfl, by decide +kernel⟩
def mJ0_isLatin1_aae02 : Mt := (yJ0_isLatin1_aae02, cJ0_isLatin1_aae02, 1, (some .boolean), { frames := 0, cells := 0, slots := 0, locals := 0 })
theorem ml_J0_isLatin1_aae02 : ML mJ0_isLatin1_aae02 0 := ⟨tb_43, tb_271, by decide +kernel, rfl, rfl, by decide +kernel⟩
def mJ1_canEncode_9a6ad : Mt := (yJ1_canEncode_9a6ad, cJ1_canEncode_9a6ad, 1, (some .boolean), { frames := 0, cells := 0, slots := 0, locals := 0 })
theorem ml_J1_canEncode_9a6ad : ML mJ1_canEncode_9a6ad 1 := ⟨tb_44, tb_287, by decide +kernel, rfl, rfl, by decide +kernel⟩
def mJ1_indexOf_4cfef : Mt := (yJ1_indexOf_4cfef, cJ1_indexOf_4cfef, 4, (some .int), { frames := 1, cells := 0, slots := 0, locals := 25 })
theorem ml_J1_indexOf_4cfef : ML mJ1_indexOf_4cfef 4 := ⟨tb_44, tb_284, by decide +kernel, rfl, rfl, by decide +kernel⟩
def mJ1_indexOfChar_4cfef : Mt := (yJ1_indexOfChar_4cfef, cJ1_indexOfChar_4cfef, 6, (some .int), { frames := 0, cells := 0, slots := 0, locals := 0 })
theorem ml_J1_indexOfChar_4cfef : ML mJ1_indexOfChar_4cfef 4 := ⟨tb_44, tb_296, by decide +kernel, rfl, rfl, by decide +kernel⟩
def mJ7_fill_53178 : Mt := (yJ7_fill_53178, cJ7_fill_53178, 4, none, { frames := 0, cells := 0, slots := 0, locals := 0 })
theorem ml_J7_fill_53178 : ML mJ7_fill_53178 2 := ⟨tb_40, tb_156, by decide +kernel, rfl, rfl, by decide +kernel⟩
theorem uw_0 : ∀ x ∈ u_ws RX0 TX0 3, x ∈ tb := by decide +kernel
theorem uw_1 : ∀ x ∈ u_ws RX1 TX1 2, x ∈ tb := by decide +kernel
theorem uw_2 : ∀ x ∈ u_ws RX2 TX2 2, x ∈ tb := by decide +kernel
theorem uw_3 : ∀ x ∈ u_ws RX3 TX3 3, x ∈ tb := by decide +kernel
theorem uw_4 : ∀ x ∈ u_ws RX4 TX4 8, x ∈ tb := by decide +kernel
theorem uw_5 : ∀ x ∈ u_ws RX5 TX5 3, x ∈ tb := by decide +kernel
theorem uw_6 : ∀ x ∈ u_ws RX6 TX6 12, x ∈ tb := by decide +kernel
theorem uw_7 : ∀ x ∈ u_ws RX7 TX7 30, x ∈ tb := by decide +kernel
theorem fl_X0_18 : FL RX0 18 0 2 := ⟨RX0, TX0, 3, rfl, uw_0, by decide, tb_133⟩
theorem fl_X0_9 : FL RX0 9 0 0 := ⟨RX0, TX0, 3, rfl, uw_0, by decide, tb_127⟩
theorem fl_X0_15 : FL RX0 15 0 1 := ⟨RX0, TX0, 3, rfl, uw_0, by decide, tb_130⟩
theorem fp_X0_18 : FP RX0 18 0 2 .int := ⟨RX0, TX0, 3, tyX0, rfl, uw_0, by decide, tb_133, tyX0_ok, nmX0, rfl, by decide +kernel⟩
theorem ac_X0_22 : AC RX0 22 := ⟨tb_585, tb_466, tb_465, tb_49⟩
theorem vl_X1_20 : VL RX1 20 mX1_clear := ⟨tb_150, tb_151, tb_152⟩
theorem fl_X1_16 : FL RX1 16 1 1 := ⟨RX1, TX1, 2, rfl, uw_1, by decide, tb_159⟩
theorem sl_X1_23 : SL RX1 23 mJ7_fill_53178 := ⟨tb_154, tb_155⟩
theorem fl_X1_11 : FL RX1 11 1 0 := ⟨RX1, TX1, 2, rfl, uw_1, by decide, tb_157⟩
theorem vl_X1_29 : VL RX1 29 mX4_wordIs := ⟨tb_554, tb_488, tb_489⟩
theorem ac_X1_35 : AC RX1 35 := ⟨tb_590, tb_466, tb_465, tb_49⟩
theorem fl_X2_15 : FL RX2 15 2 1 := ⟨RX2, TX2, 2, rfl, uw_2, by decide, tb_67⟩
theorem vl_X2_19 : VL RX2 19 mX2_fitsStreet := ⟨tb_251, tb_253, tb_0⟩
theorem vl_X2_23 : VL RX2 23 mX2_fitsWord := ⟨tb_350, tb_352, tb_1⟩
theorem vl_X2_26 : VL RX2 26 mX2_firstFault := ⟨tb_366, tb_248, tb_249⟩
theorem fl_X2_9 : FL RX2 9 2 0 := ⟨RX2, TX2, 2, rfl, uw_2, by decide, tb_65⟩
theorem vl_X2_32 : VL RX2 32 mJ0_indexOf_0f7a4 := ⟨tb_260, tb_261, tb_262⟩
theorem vl_X2_37 : VL RX2 37 mX2_kindAt := ⟨tb_255, tb_256, tb_257⟩
theorem vl_X2_40 : VL RX2 40 mX2_flowAt := ⟨tb_346, tb_347, tb_348⟩
theorem st_X6_isLetter : Cond.static yX6_isLetter ∈ tb := tb_355
theorem fl_X3_10 : FL RX3 10 3 0 := ⟨RX3, TX3, 3, rfl, uw_3, by decide, tb_166⟩
theorem vl_X3_30 : VL RX3 30 mX4_takeAll := ⟨tb_576, tb_577, tb_578⟩
theorem fl_X3_19 : FL RX3 19 3 1 := ⟨RX3, TX3, 3, rfl, uw_3, by decide, tb_168⟩
theorem vl_X3_34 : VL RX3 34 mX0_takeAll := ⟨tb_581, tb_582, tb_583⟩
theorem fl_X3_26 : FL RX3 26 3 2 := ⟨RX3, TX3, 3, rfl, uw_3, by decide, tb_170⟩
theorem vl_X3_37 : VL RX3 37 mX1_takeAll := ⟨tb_586, tb_587, tb_588⟩
theorem fl_X4_18 : FL RX4 18 4 2 := ⟨RX4, TX4, 8, rfl, uw_4, by decide, tb_93⟩
theorem sl_X4_38 : SL RX4 38 mJ7_fill_53178 := ⟨tb_373, tb_155⟩
theorem fl_X4_21 : FL RX4 21 4 3 := ⟨RX4, TX4, 8, rfl, uw_4, by decide, tb_95⟩
theorem fl_X4_24 : FL RX4 24 4 4 := ⟨RX4, TX4, 8, rfl, uw_4, by decide, tb_96⟩
theorem fl_X4_27 : FL RX4 27 4 5 := ⟨RX4, TX4, 8, rfl, uw_4, by decide, tb_98⟩
theorem fl_X4_30 : FL RX4 30 4 6 := ⟨RX4, TX4, 8, rfl, uw_4, by decide, tb_100⟩
theorem fl_X4_9 : FL RX4 9 4 0 := ⟨RX4, TX4, 8, rfl, uw_4, by decide, tb_89⟩
theorem ac_X4_44 : AC RX4 44 := ⟨tb_464, tb_466, tb_465, tb_49⟩
theorem fl_X4_15 : FL RX4 15 4 1 := ⟨RX4, TX4, 8, rfl, uw_4, by decide, tb_91⟩
theorem vl_X4_50 : VL RX4 50 mX4_clear := ⟨tb_467, tb_370, tb_371⟩
theorem vl_X4_53 : VL RX4 53 mX4_layLike := ⟨tb_580, tb_461, tb_462⟩
theorem fl_X4_35 : FL RX4 35 4 7 := ⟨RX4, TX4, 8, rfl, uw_4, by decide, tb_102⟩
theorem fl_X4_57 : FL RX4 57 0 2 := ⟨RX0, TX0, 3, rfl, uw_0, by decide, tb_135⟩
theorem fl_X4_63 : FL RX4 63 0 0 := ⟨RX0, TX0, 3, rfl, uw_0, by decide, tb_128⟩
theorem fl_X4_66 : FL RX4 66 0 1 := ⟨RX0, TX0, 3, rfl, uw_0, by decide, tb_131⟩
theorem vl_X4_69 : VL RX4 69 mX4_run := ⟨tb_486, tb_409, tb_410⟩
theorem vl_X4_73 : VL RX4 73 mX4_passOn := ⟨tb_412, tb_414, tb_4⟩
theorem vl_X4_76 : VL RX4 76 mX4_runOut := ⟨tb_420, tb_422, tb_6⟩
theorem sl_X4_80 : SL RX4 80 mX4_sum := ⟨tb_531, tb_532⟩
theorem vl_X4_84 : VL RX4 84 mX4_letsThrough := ⟨tb_416, tb_418, tb_5⟩
theorem fp_X5_9 : FP RX5 9 5 0 .int := ⟨RX5, TX5, 3, tyX5, rfl, uw_5, by decide, tb_187, tyX5_ok, nmX5, rfl, by decide +kernel⟩
theorem fp_X5_15 : FP RX5 15 5 1 .int := ⟨RX5, TX5, 3, tyX5, rfl, uw_5, by decide, tb_189, tyX5_ok, nmX5, rfl, by decide +kernel⟩
theorem fp_X5_18 : FP RX5 18 5 2 .int := ⟨RX5, TX5, 3, tyX5, rfl, uw_5, by decide, tb_190, tyX5_ok, nmX5, rfl, by decide +kernel⟩
theorem sl_X5_21 : SL RX5 21 mJ6_bitCount_0f7a4 := ⟨tb_495, tb_477⟩
theorem fl_X5_18 : FL RX5 18 5 2 := ⟨RX5, TX5, 3, rfl, uw_5, by decide, tb_190⟩
theorem fl_X5_9 : FL RX5 9 5 0 := ⟨RX5, TX5, 3, rfl, uw_5, by decide, tb_187⟩
theorem fl_X5_15 : FL RX5 15 5 1 := ⟨RX5, TX5, 3, rfl, uw_5, by decide, tb_189⟩
theorem mm_X5_27 : Cond.methodLink RX5 27 Lib.Math.min.name ∈ tb := tb_496
theorem fl_X6_10 : FL RX6 10 6 0 := ⟨RX6, TX6, 12, rfl, uw_6, by decide, tb_198⟩
theorem fl_X6_50 : FL RX6 50 2 1 := ⟨RX2, TX2, 2, rfl, uw_2, by decide, tb_68⟩
theorem fl_X6_54 : FL RX6 54 2 0 := ⟨RX2, TX2, 2, rfl, uw_2, by decide, tb_66⟩
theorem fp_X6_50 : FP RX6 50 2 1 .int := ⟨RX2, TX2, 2, tyX2, rfl, uw_2, by decide, tb_68, tyX2_ok, nmX2, rfl, by decide +kernel⟩
theorem vl_X6_57 : VL RX6 57 mX2_firstFault := ⟨tb_247, tb_248, tb_249⟩
theorem vl_X6_61 : VL RX6 61 mX2_isStreet := ⟨tb_362, tb_363, tb_364⟩
theorem fl_X6_19 : FL RX6 19 6 1 := ⟨RX6, TX6, 12, rfl, uw_6, by decide, tb_199⟩
theorem fl_X6_65 : FL RX6 65 3 0 := ⟨RX3, TX3, 3, rfl, uw_3, by decide, tb_167⟩
theorem fl_X6_68 : FL RX6 68 4 0 := ⟨RX4, TX4, 8, rfl, uw_4, by decide, tb_90⟩
theorem vl_X6_71 : VL RX6 71 mX2_kindAt := ⟨tb_367, tb_256, tb_257⟩
theorem fl_X6_74 : FL RX6 74 4 1 := ⟨RX4, TX4, 8, rfl, uw_4, by decide, tb_92⟩
theorem vl_X6_77 : VL RX6 77 mX2_flowAt := ⟨tb_368, tb_347, tb_348⟩
theorem vl_X6_81 : VL RX6 81 mX4_clear := ⟨tb_369, tb_370, tb_371⟩
theorem fl_X6_84 : FL RX6 84 3 1 := ⟨RX3, TX3, 3, rfl, uw_3, by decide, tb_169⟩
theorem fp_X6_88 : FP RX6 88 0 2 .int := ⟨RX0, TX0, 3, tyX0, rfl, uw_0, by decide, tb_134, tyX0_ok, nmX0, rfl, by decide +kernel⟩
theorem fl_X6_91 : FL RX6 91 3 2 := ⟨RX3, TX3, 3, rfl, uw_3, by decide, tb_171⟩
theorem vl_X6_95 : VL RX6 95 mX1_clear := ⟨tb_374, tb_151, tb_152⟩
theorem fp_X6_98 : FP RX6 98 6 8 .boolean := ⟨RX6, TX6, 12, tyX6, rfl, uw_6, by decide, tb_206, tyX6_ok, nmX6, rfl, by decide +kernel⟩
theorem fl_X6_102 : FL RX6 102 6 9 := ⟨RX6, TX6, 12, rfl, uw_6, by decide, tb_207⟩
theorem fp_X6_102 : FP RX6 102 6 9 .int := ⟨RX6, TX6, 12, tyX6, rfl, uw_6, by decide, tb_207, tyX6_ok, nmX6, rfl, by decide +kernel⟩
theorem vl_X6_105 : VL RX6 105 mX4_countOut := ⟨tb_375, tb_376, tb_377⟩
theorem vl_X6_109 : VL RX6 109 mX6_isGutter := ⟨tb_383, tb_385, tb_2⟩
theorem fl_X6_113 : FL RX6 113 4 4 := ⟨RX4, TX4, 8, rfl, uw_4, by decide, tb_97⟩
theorem fl_X6_116 : FL RX6 116 4 2 := ⟨RX4, TX4, 8, rfl, uw_4, by decide, tb_94⟩
theorem fl_X6_119 : FL RX6 119 4 6 := ⟨RX4, TX4, 8, rfl, uw_4, by decide, tb_101⟩
theorem fl_X6_122 : FL RX6 122 4 5 := ⟨RX4, TX4, 8, rfl, uw_4, by decide, tb_99⟩
theorem fl_X6_125 : FL RX6 125 4 7 := ⟨RX4, TX4, 8, rfl, uw_4, by decide, tb_103⟩
theorem sl_X6_129 : SL RX6 129 mX6_isLetter := ⟨tb_403, tb_355⟩
theorem fl_X6_88 : FL RX6 88 0 2 := ⟨RX0, TX0, 3, rfl, uw_0, by decide, tb_134⟩
theorem vl_X6_132 : VL RX6 132 mX0_add := ⟨tb_404, tb_405, tb_406⟩
theorem vl_X6_136 : VL RX6 136 mX4_run := ⟨tb_408, tb_409, tb_410⟩
theorem vl_X6_139 : VL RX6 139 mX6_isDrop := ⟨tb_428, tb_430, tb_7⟩
theorem fl_X6_142 : FL RX6 142 0 0 := ⟨RX0, TX0, 3, rfl, uw_0, by decide, tb_129⟩
theorem fl_X6_145 : FL RX6 145 0 1 := ⟨RX0, TX0, 3, rfl, uw_0, by decide, tb_132⟩
theorem vl_X6_148 : VL RX6 148 mX6_hasStreet := ⟨tb_387, tb_389, tb_3⟩
theorem vl_X6_151 : VL RX6 151 mX2_isWord := ⟨tb_444, tb_445, tb_446⟩
theorem fl_X6_154 : FL RX6 154 6 10 := ⟨RX6, TX6, 12, rfl, uw_6, by decide, tb_208⟩
theorem fp_X6_154 : FP RX6 154 6 10 .int := ⟨RX6, TX6, 12, tyX6, rfl, uw_6, by decide, tb_208, tyX6_ok, nmX6, rfl, by decide +kernel⟩
theorem vl_X6_157 : VL RX6 157 mX6_seekTurns := ⟨tb_448, tb_450, tb_8⟩
theorem fl_X6_36 : FL RX6 36 6 4 := ⟨RX6, TX6, 12, rfl, uw_6, by decide, tb_202⟩
theorem vl_X6_161 : VL RX6 161 mX5_tell := ⟨tb_497, tb_498, tb_499⟩
theorem fl_X6_164 : FL RX6 164 6 11 := ⟨RX6, TX6, 12, rfl, uw_6, by decide, tb_209⟩
theorem fp_X6_164 : FP RX6 164 6 11 .int := ⟨RX6, TX6, 12, tyX6, rfl, uw_6, by decide, tb_209, tyX6_ok, nmX6, rfl, by decide +kernel⟩
theorem vl_X6_167 : VL RX6 167 mX6_countWords := ⟨tb_505, tb_507, tb_9⟩
theorem fl_X6_29 : FL RX6 29 6 3 := ⟨RX6, TX6, 12, rfl, uw_6, by decide, tb_201⟩
theorem vl_X6_170 : VL RX6 170 mX4_layLike := ⟨tb_460, tb_461, tb_462⟩
theorem vl_X6_174 : VL RX6 174 mX4_runAll := ⟨tb_482, tb_483, tb_484⟩
theorem vl_X6_178 : VL RX6 178 mX4_lettersOut := ⟨tb_527, tb_528, tb_529⟩
theorem fl_X6_181 : FL RX6 181 1 0 := ⟨RX1, TX1, 2, rfl, uw_1, by decide, tb_158⟩
theorem vl_X6_182 : VL RX6 182 mX2_copyLetters := ⟨tb_452, tb_453, tb_454⟩
theorem fl_X6_186 : FL RX6 186 1 1 := ⟨RX1, TX1, 2, rfl, uw_1, by decide, tb_160⟩
theorem vl_X6_187 : VL RX6 187 mX1_countFound := ⟨tb_538, tb_539, tb_540⟩
theorem vl_X6_190 : VL RX6 190 mX1_fit := ⟨tb_550, tb_551, tb_552⟩
theorem sl_X6_194 : SL RX6 194 mX6_nextSeed := ⟨tb_563, tb_564⟩
theorem fl_X6_23 : FL RX6 23 6 2 := ⟨RX6, TX6, 12, rfl, uw_6, by decide, tb_200⟩
theorem vl_X6_197 : VL RX6 197 mX3_takeAll := ⟨tb_572, tb_573, tb_574⟩
theorem fl_X6_98 : FL RX6 98 6 8 := ⟨RX6, TX6, 12, rfl, uw_6, by decide, tb_206⟩
theorem vl_X6_201 : VL RX6 201 mX4_lettersLost := ⟨tb_599, tb_600, tb_601⟩
theorem vl_X6_204 : VL RX6 204 mX4_fullBowls := ⟨tb_603, tb_604, tb_605⟩
theorem cl_X6_207 : Cond.constantLong RX6 207 (821) ∈ tb := tb_611
theorem vl_X6_209 : VL RX6 209 mX6_mixGutters := ⟨tb_612, tb_614, tb_12⟩
theorem vl_X6_213 : VL RX6 213 mX6_mixDrops := ⟨tb_623, tb_625, tb_13⟩
theorem sl_X6_216 : SL RX6 216 mX6_mix := ⟨tb_617, tb_618⟩
theorem vl_X6_220 : VL RX6 220 mX6_count := ⟨tb_629, tb_596, tb_597⟩
theorem vl_X6_223 : VL RX6 223 mX6_about := ⟨tb_616, tb_380, tb_381⟩
theorem vl_X6_226 : VL RX6 226 mX6_word := ⟨tb_621, tb_396, tb_397⟩
theorem vl_X6_229 : VL RX6 229 mX6_kindOf := ⟨tb_622, tb_547, tb_548⟩
theorem vl_X6_232 : VL RX6 232 mX6_rain := ⟨tb_627, tb_425, tb_426⟩
theorem vl_X6_235 : VL RX6 235 mX6_letterOf := ⟨tb_628, tb_556, tb_557⟩
theorem cl_X6_238 : Cond.constantLong RX6 238 (31) ∈ tb := tb_620
theorem ck_X6_240 : Cond.constant RX6 240 (1103515245) ∈ tb := tb_566
theorem ck_X6_243 : Cond.constant RX6 243 (2147483647) ∈ tb := tb_567
theorem fl_X6_40 : FL RX6 40 6 5 := ⟨RX6, TX6, 12, rfl, uw_6, by decide, tb_203⟩
theorem vl_X6_244 : VL RX6 244 mX5_clear := ⟨tb_456, tb_457, tb_458⟩
theorem vl_X6_245 : VL RX6 245 mX4_flowBy := ⟨tb_468, tb_469, tb_470⟩
theorem vl_X6_248 : VL RX6 248 mX4_unlikeFlows := ⟨tb_472, tb_473, tb_474⟩
theorem sl_X6_252 : SL RX6 252 mJ6_bitCount_0f7a4 := ⟨tb_476, tb_477⟩
theorem fl_X6_255 : FL RX6 255 5 0 := ⟨RX5, TX5, 3, rfl, uw_5, by decide, tb_188⟩
theorem vl_X6_258 : VL RX6 258 mX4_wordIs := ⟨tb_487, tb_488, tb_489⟩
theorem vl_X6_262 : VL RX6 262 mX5_add := ⟨tb_491, tb_492, tb_493⟩
theorem mm_X6_264 : Cond.methodLink RX6 264 Lib.Math.min.name ∈ tb := tb_509
theorem fl_X6_47 : FL RX6 47 6 7 := ⟨RX6, TX6, 12, rfl, uw_6, by decide, tb_205⟩
theorem sl_X6_269 : SL RX6 269 mJ7_fill_53178 := ⟨tb_510, tb_155⟩
theorem vl_X6_275 : VL RX6 275 mX6_runMixed := ⟨tb_511, tb_513, tb_10⟩
theorem vl_X6_278 : VL RX6 278 mX4_wordCode := ⟨tb_515, tb_516, tb_517⟩
theorem vl_X6_281 : VL RX6 281 mX6_noteWord := ⟨tb_519, tb_521, tb_11⟩
theorem fl_X6_44 : FL RX6 44 6 6 := ⟨RX6, TX6, 12, rfl, uw_6, by decide, tb_204⟩
theorem ck_X7_40 : Cond.constant RX7 40 (55987) ∈ tb := tb_636
theorem fp_X7_71 : FP RX7 71 7 21 .int := ⟨RX7, TX7, 30, tyX7, rfl, uw_7, by decide, tb_658, tyX7_ok, nmX7, rfl, by decide +kernel⟩
theorem cl_X7_75 : Cond.constantLong RX7 75 (126) ∈ tb := tb_732
theorem sl_X7_77 : SL RX7 77 mX7_in := ⟨tb_733, tb_734⟩
theorem fl_X7_81 : FL RX7 81 7 1 := ⟨RX7, TX7, 30, rfl, uw_7, by decide, tb_638⟩
theorem fl_X7_7 : FL RX7 7 7 0 := ⟨RX7, TX7, 30, rfl, uw_7, by decide, tb_637⟩
theorem fp_X7_81 : FP RX7 81 7 1 .int := ⟨RX7, TX7, 30, tyX7, rfl, uw_7, by decide, tb_638, tyX7_ok, nmX7, rfl, by decide +kernel⟩
theorem sl_X7_84 : SL RX7 84 mX7_kindBy := ⟨tb_751, tb_752⟩
theorem cl_X7_88 : Cond.constantLong RX7 88 (5) ∈ tb := tb_754
theorem sl_X7_90 : SL RX7 90 mX7_isGood := ⟨tb_748, tb_749⟩
theorem cl_X7_94 : Cond.constantLong RX7 94 (97) ∈ tb := tb_755
theorem cl_X7_96 : Cond.constantLong RX7 96 (101) ∈ tb := tb_756
theorem vl_X7_98 : VL RX7 98 mX7_faultOf := ⟨tb_744, tb_746, tb_14⟩
theorem fl_X7_101 : FL RX7 101 7 2 := ⟨RX7, TX7, 30, rfl, uw_7, by decide, tb_639⟩
theorem fl_X7_16 : FL RX7 16 7 5 := ⟨RX7, TX7, 30, rfl, uw_7, by decide, tb_642⟩
theorem fl_X7_13 : FL RX7 13 7 4 := ⟨RX7, TX7, 30, rfl, uw_7, by decide, tb_641⟩
theorem fl_X7_47 : FL RX7 47 7 18 := ⟨RX7, TX7, 30, rfl, uw_7, by decide, tb_655⟩
theorem fl_X7_19 : FL RX7 19 7 6 := ⟨RX7, TX7, 30, rfl, uw_7, by decide, tb_643⟩
theorem sl_X7_105 : SL RX7 105 mX7_dryRows := ⟨tb_761, tb_762⟩
theorem fp_X7_109 : FP RX7 109 7 7 .int := ⟨RX7, TX7, 30, tyX7, rfl, uw_7, by decide, tb_644, tyX7_ok, nmX7, rfl, by decide +kernel⟩
theorem fp_X7_101 : FP RX7 101 7 2 .boolean := ⟨RX7, TX7, 30, tyX7, rfl, uw_7, by decide, tb_639, tyX7_ok, nmX7, rfl, by decide +kernel⟩
theorem fl_X7_112 : FL RX7 112 7 3 := ⟨RX7, TX7, 30, rfl, uw_7, by decide, tb_640⟩
theorem fp_X7_112 : FP RX7 112 7 3 .int := ⟨RX7, TX7, 30, tyX7, rfl, uw_7, by decide, tb_640, tyX7_ok, nmX7, rfl, by decide +kernel⟩
theorem vl_X7_115 : VL RX7 115 mX7_outs := ⟨tb_764, tb_766, tb_15⟩
theorem vl_X7_119 : VL RX7 119 mX7_isGutter := ⟨tb_772, tb_774, tb_16⟩
theorem vl_X7_123 : VL RX7 123 mX7_tell := ⟨tb_776, tb_778, tb_17⟩
theorem cl_X7_127 : Cond.constantLong RX7 127 (4) ∈ tb := tb_784
theorem sl_X7_129 : SL RX7 129 mX7_through := ⟨tb_796, tb_797⟩
theorem fl_X7_109 : FL RX7 109 7 7 := ⟨RX7, TX7, 30, rfl, uw_7, by decide, tb_644⟩
theorem fl_X7_22 : FL RX7 22 7 8 := ⟨RX7, TX7, 30, rfl, uw_7, by decide, tb_645⟩
theorem fl_X7_25 : FL RX7 25 7 9 := ⟨RX7, TX7, 30, rfl, uw_7, by decide, tb_646⟩
theorem sl_X7_133 : SL RX7 133 mX7_runs := ⟨tb_793, tb_794⟩
theorem fl_X7_31 : FL RX7 31 7 11 := ⟨RX7, TX7, 30, rfl, uw_7, by decide, tb_648⟩
theorem sl_X7_137 : SL RX7 137 mX7_copy := ⟨tb_824, tb_825⟩
theorem fl_X7_34 : FL RX7 34 7 12 := ⟨RX7, TX7, 30, rfl, uw_7, by decide, tb_649⟩
theorem fl_X7_37 : FL RX7 37 7 13 := ⟨RX7, TX7, 30, rfl, uw_7, by decide, tb_650⟩
theorem fl_X7_28 : FL RX7 28 7 10 := ⟨RX7, TX7, 30, rfl, uw_7, by decide, tb_647⟩
theorem cl_X7_141 : Cond.constantLong RX7 141 (2) ∈ tb := tb_815
theorem vl_X7_143 : VL RX7 143 mX7_isPageWord := ⟨tb_816, tb_818, tb_18⟩
theorem fl_X7_147 : FL RX7 147 7 14 := ⟨RX7, TX7, 30, rfl, uw_7, by decide, tb_651⟩
theorem fp_X7_147 : FP RX7 147 7 14 .int := ⟨RX7, TX7, 30, tyX7, rfl, uw_7, by decide, tb_651, tyX7_ok, nmX7, rfl, by decide +kernel⟩
theorem vl_X7_150 : VL RX7 150 mX7_asItIs := ⟨tb_820, tb_822, tb_19⟩
theorem vl_X7_153 : VL RX7 153 mX7_layWays := ⟨tb_827, tb_829, tb_20⟩
theorem sl_X7_156 : SL RX7 156 mX7_ones := ⟨tb_831, tb_832⟩
theorem vl_X7_159 : VL RX7 159 mX7_fallsAgain := ⟨tb_834, tb_836, tb_21⟩
theorem vl_X7_162 : VL RX7 162 mX7_hasPage := ⟨tb_838, tb_840, tb_22⟩
theorem fl_X7_44 : FL RX7 44 7 17 := ⟨RX7, TX7, 30, rfl, uw_7, by decide, tb_654⟩
theorem fl_X7_165 : FL RX7 165 7 15 := ⟨RX7, TX7, 30, rfl, uw_7, by decide, tb_652⟩
theorem fp_X7_165 : FP RX7 165 7 15 .int := ⟨RX7, TX7, 30, tyX7, rfl, uw_7, by decide, tb_652, tyX7_ok, nmX7, rfl, by decide +kernel⟩
theorem fl_X7_41 : FL RX7 41 7 16 := ⟨RX7, TX7, 30, rfl, uw_7, by decide, tb_653⟩
theorem vl_X7_168 : VL RX7 168 mX7_isOrder := ⟨tb_846, tb_848, tb_23⟩
theorem vl_X7_171 : VL RX7 171 mX7_wordOf := ⟨tb_850, tb_852, tb_24⟩
theorem sl_X7_174 : SL RX7 174 mX7_outOf := ⟨tb_858, tb_859⟩
theorem fl_X7_50 : FL RX7 50 7 19 := ⟨RX7, TX7, 30, rfl, uw_7, by decide, tb_656⟩
theorem vl_X7_178 : VL RX7 178 mX7_founds := ⟨tb_865, tb_867, tb_25⟩
theorem vl_X7_181 : VL RX7 181 mX7_isFound := ⟨tb_881, tb_883, tb_27⟩
theorem vl_X7_184 : VL RX7 184 mX7_kindBits := ⟨tb_877, tb_879, tb_26⟩
theorem vl_X7_187 : VL RX7 187 mX7_letterBits := ⟨tb_889, tb_891, tb_28⟩
theorem cl_X7_190 : Cond.constantLong RX7 190 (1103515245) ∈ tb := tb_902
theorem fl_X7_192 : FL RX7 192 7 20 := ⟨RX7, TX7, 30, rfl, uw_7, by decide, tb_657⟩
theorem cl_X7_195 : Cond.constantLong RX7 195 (12345) ∈ tb := tb_903
theorem cl_X7_197 : Cond.constantLong RX7 197 (2147483647) ∈ tb := tb_904
theorem fp_X7_192 : FP RX7 192 7 20 .int := ⟨RX7, TX7, 30, tyX7, rfl, uw_7, by decide, tb_657, tyX7_ok, nmX7, rfl, by decide +kernel⟩
theorem ck_X7_199 : Cond.constant RX7 199 (65536) ∈ tb := tb_905
theorem cl_X7_200 : Cond.constantLong RX7 200 (40) ∈ tb := tb_897
theorem vl_X7_202 : VL RX7 202 mX7_draw := ⟨tb_898, tb_900, tb_29⟩
theorem fl_X7_53 : FL RX7 53 7 23 := ⟨RX7, TX7, 30, rfl, uw_7, by decide, tb_660⟩
theorem fl_X7_56 : FL RX7 56 7 24 := ⟨RX7, TX7, 30, rfl, uw_7, by decide, tb_661⟩
theorem fl_X7_59 : FL RX7 59 7 25 := ⟨RX7, TX7, 30, rfl, uw_7, by decide, tb_662⟩
theorem fl_X7_62 : FL RX7 62 7 26 := ⟨RX7, TX7, 30, rfl, uw_7, by decide, tb_663⟩
theorem fl_X7_65 : FL RX7 65 7 27 := ⟨RX7, TX7, 30, rfl, uw_7, by decide, tb_664⟩
theorem fl_X7_68 : FL RX7 68 7 28 := ⟨RX7, TX7, 30, rfl, uw_7, by decide, tb_665⟩
theorem fp_X7_205 : FP RX7 205 7 22 .int := ⟨RX7, TX7, 30, tyX7, rfl, uw_7, by decide, tb_659, tyX7_ok, nmX7, rfl, by decide +kernel⟩
theorem fl_X7_71 : FL RX7 71 7 21 := ⟨RX7, TX7, 30, rfl, uw_7, by decide, tb_658⟩
theorem fl_X7_205 : FL RX7 205 7 22 := ⟨RX7, TX7, 30, rfl, uw_7, by decide, tb_659⟩
theorem vl_X7_208 : VL RX7 208 mX7_countOf := ⟨tb_918, tb_920, tb_30⟩
theorem cl_X7_211 : Cond.constantLong RX7 211 (31) ∈ tb := tb_935
theorem fl_X7_213 : FL RX7 213 7 29 := ⟨RX7, TX7, 30, rfl, uw_7, by decide, tb_666⟩
theorem fp_X7_213 : FP RX7 213 7 29 .long := ⟨RX7, TX7, 30, tyX7, rfl, uw_7, by decide, tb_666, tyX7_ok, nmX7, rfl, by decide +kernel⟩
theorem vl_X7_217 : VL RX7 217 mX7_say := ⟨tb_931, tb_933, tb_32⟩
theorem cl_X7_221 : Cond.constantLong RX7 221 (821) ∈ tb := tb_926
theorem vl_X7_223 : VL RX7 223 mX7_sayGutter := ⟨tb_927, tb_929, tb_31⟩
theorem vl_J0_335 : VL RJ0 335 mJ0_coder_7d493 := ⟨tb_278, tb_279, tb_280⟩
theorem vl_J0_633 : VL RJ0 633 mJ0_indexOf_7cf53 := ⟨tb_264, tb_265, tb_266⟩
theorem vl_J0_492 : VL RJ0 492 mJ0_isLatin1_aae02 := ⟨tb_268, tb_269, tb_270⟩
theorem vl_J0_505 : VL RJ0 505 mJ0_length_8abf5 := ⟨tb_274, tb_275, tb_276⟩
theorem sl_J0_637 : SL RJ0 637 mJ1_indexOf_4cfef := ⟨tb_282, tb_283⟩
theorem sl_J1_88 : SL RJ1 88 mJ1_canEncode_9a6ad := ⟨tb_285, tb_286⟩
theorem mm_J1_92 : Cond.methodLink RJ1 92 Lib.Math.max.name ∈ tb := tb_288
theorem mm_J1_38 : Cond.methodLink RJ1 38 Lib.Math.min.name ∈ tb := tb_291
theorem sl_J1_95 : SL RJ1 95 mJ1_indexOfChar_4cfef := ⟨tb_294, tb_295⟩
theorem mmin_w : Cond.static Lib.Math.min.name ∈ tb ∧ Cond.initialized "java/lang/Math" ∈ tb ∧ Cond.code Lib.Math.min.name Lib.Math.min.code 2 (some .int) ∈ tb := ⟨tb_292, tb_45, tb_293⟩
theorem mmax_w : Cond.static Lib.Math.max.name ∈ tb ∧ Cond.initialized "java/lang/Math" ∈ tb ∧ Cond.code Lib.Math.max.name Lib.Math.max.code 2 (some .int) ∈ tb := ⟨tb_289, tb_45, tb_290⟩
end
section
/-! the worlds: what cells an object of each class is, at addresses ad b, ad (b + 1) .. -/
abbrev arC (G : GG) (n : Nat) (f : Nat → Int32) : va_E := .inl (G.2.1.1, n, .inl f)
def pk (ad : Nat → Nat) (l : List Nat) : Nat → Nat := fun k => ad (l.getD k 0)
def ow (ad : Nat → Nat) (b : Nat) : Nat → Option Nat := fun i => match i with
  | 0 => some (ad b)
  | 1 => some (ad (b + 1))
  | 2 => some (ad (b + 2))
  | 3 => some (ad (b + 3))
  | 4 => some (ad (b + 4))
  | 5 => some (ad (b + 5))
  | _ => none
abbrev owC (G : GG) (ad : Nat → Nat) (b : Nat) : va_E := .inl (G.2.1.2, 6, .inr (.inr (.inr (.inr (ow ad b)))))
def faW (G : GG) (ad : Nat → Nat) (b : Nat) (g l : Nat → Int32) (n : Int32) : va_W := [(ad b, .inr (0, [.ref (ad (b + 1)), .ref (ad (b + 2)), .int n])), (ad (b + 1), arC G 12 g), (ad (b + 2), arC G 12 l)]
def fiW (G : GG) (ad : Nat → Nat) (b : Nat) (n : Nat → Int32) (d : Nat → Nat → Int32) : va_W := [(ad b, .inr (1, [.ref (ad (b + 1)), .ref (ad (b + 2))])), (ad (b + 1), owC G ad (b + 3)), (ad (b + 2), arC G 6 n), (ad (b + 3), arC G 8 (d 0)), (ad (b + 4), arC G 8 (d 1)), (ad (b + 5), arC G 8 (d 2)), (ad (b + 6), arC G 8 (d 3)), (ad (b + 7), arC G 8 (d 4)), (ad (b + 8), arC G 8 (d 5))]
def pgW (G : GG) (ad : Nat → Nat) (b : Nat) (f : Nat → Int32) (n : Int32) : va_W := [(ad b, .inr (2, [.ref (ad (b + 1)), .int n])), (ad (b + 1), arC G 20 f)]
def stW (G : GG) (ad : Nat → Nat) (b : Nat) (u d : Nat → Nat → Int32) : va_W := [(ad b, .inr (4, [.ref (ad (b + 1)), .ref (ad (b + 2)), .ref (ad (b + 3)), .ref (ad (b + 4)), .ref (ad (b + 5)), .ref (ad (b + 6)), .ref (ad (b + 7)), .ref (ad (b + 8))])), (ad (b + 1), arC G 6 (u 0)), (ad (b + 2), arC G 6 (u 1)), (ad (b + 3), arC G 6 (u 2)), (ad (b + 4), arC G 6 (u 3)), (ad (b + 5), arC G 6 (u 4)), (ad (b + 6), arC G 6 (u 5)), (ad (b + 7), arC G 6 (u 6)), (ad (b + 8), owC G ad (b + 9)), (ad (b + 9), arC G 12 (d 0)), (ad (b + 10), arC G 12 (d 1)), (ad (b + 11), arC G 12 (d 2)), (ad (b + 12), arC G 12 (d 3)), (ad (b + 13), arC G 12 (d 4)), (ad (b + 14), arC G 12 (d 5))]
def scW (G : GG) (ad : Nat → Nat) (b : Nat) (u d : Nat → Nat → Int32) (g l : Nat → Int32) (n : Int32) (fn : Nat → Int32) (fd : Nat → Nat → Int32) : va_W := (ad b, .inr (3, [.ref (ad (b + 1)), .ref (ad (b + 16)), .ref (ad (b + 19))])) :: (stW G ad (b + 1) u d ++ (faW G ad (b + 16) g l n ++ fiW G ad (b + 19) fn fd))
def tuW (_ : GG) (ad : Nat → Nat) (b : Nat) (t : Nat → Int32) : va_W := [(ad b, .inr (5, [.int (t 0), .int (t 1), .int (t 2)]))]
def arW (G : GG) (ad : Nat → Nat) (b n : Nat) (f : Nat → Int32) : va_W := [(ad b, arC G n f)]
/-- the class's object: v is imageKept, streetsRead, fewTurnsDone, ordersDone -/
def rlW (G : GG) (ad : Nat → Nat) (b : Nat) (pf : Nat → Int32) (pn : Int32) (u d : Nat → Nat → Int32) (g l : Nat → Int32) (n : Int32) (fn : Nat → Int32) (fd : Nat → Nat → Int32) (ku kd : Nat → Nat → Int32) (kg kl : Nat → Int32) (kn : Int32) (kfn : Nat → Int32) (kfd : Nat → Nat → Int32) (tu td : Nat → Nat → Int32) (t : Nat → Int32) (wa le se : Nat → Int32) (v : Nat → Int32) : va_W :=
  (ad b, .inr (6, [.ref (ad (b + 1)), .ref (ad (b + 3)), .ref (ad (b + 31)), .ref (ad (b + 59)), .ref (ad (b + 74)), .ref (ad (b + 75)), .ref (ad (b + 76)), .ref (ad (b + 77)), .int (v 0), .int (v 1), .int (v 2), .int (v 3)])) ::
    (pgW G ad (b + 1) pf pn ++ (scW G ad (b + 3) u d g l n fn fd ++ (scW G ad (b + 31) ku kd kg kl kn kfn kfd ++ (stW G ad (b + 59) tu td ++ (tuW G ad (b + 74) t ++ (arW G ad (b + 75) 8 wa ++ (arW G ad (b + 76) 6 le ++ arW G ad (b + 77) 977 se)))))))
/-- the reference's object: a its 20 arrays (page kinds ways rows rainGutter rainLetter again againKinds againWays againLetter came order foundMany foundRows keptWays keptRows keptGutter keptLetter keptFoundMany keptFound), v its ints (pageMany isThere streetsRead rainMany fewMany orderMany seedNow keptStreet keptRainMany) -/
def mdW (G : GG) (ad : Nat → Nat) (b : Nat) (a : Nat → Nat → Int32) (v : Nat → Int32) (hh : Int64) : va_W := [
  (ad b, .inr (7, [.ref (ad (b + 1)), .int (v 0), .int (v 1), .int (v 2), .ref (ad (b + 2)), .ref (ad (b + 3)), .ref (ad (b + 4)), .int (v 3), .ref (ad (b + 5)), .ref (ad (b + 6)), .ref (ad (b + 7)), .ref (ad (b + 8)), .ref (ad (b + 9)), .ref (ad (b + 10)), .int (v 4), .int (v 5), .ref (ad (b + 11)), .ref (ad (b + 12)), .ref (ad (b + 13)), .ref (ad (b + 14)), .int (v 6), .int (v 7), .int (v 8), .ref (ad (b + 15)), .ref (ad (b + 16)), .ref (ad (b + 17)), .ref (ad (b + 18)), .ref (ad (b + 19)), .ref (ad (b + 20)), .long hh])),
  (ad (b + 1), arC G 20 (a 0)), (ad (b + 2), arC G 6 (a 1)), (ad (b + 3), arC G 6 (a 2)), (ad (b + 4), arC G 102 (a 3)), (ad (b + 5), arC G 12 (a 4)), (ad (b + 6), arC G 12 (a 5)), (ad (b + 7), arC G 102 (a 6)), (ad (b + 8), arC G 6 (a 7)), (ad (b + 9), arC G 6 (a 8)), (ad (b + 10), arC G 12 (a 9)), (ad (b + 11), arC G 55987 (a 10)), (ad (b + 12), arC G 6 (a 11)), (ad (b + 13), arC G 6 (a 12)), (ad (b + 14), arC G 48 (a 13)), (ad (b + 15), arC G 6 (a 14)), (ad (b + 16), arC G 102 (a 15)), (ad (b + 17), arC G 12 (a 16)), (ad (b + 18), arC G 12 (a 17)), (ad (b + 19), arC G 6 (a 18)), (ad (b + 20), arC G 48 (a 19))]
theorem row6 {P : Nat → Prop} (h0 : P 0) (h1 : P 1) (h2 : P 2) (h3 : P 3) (h4 : P 4) (h5 : P 5) {i : Nat} (hi : i < 6) : P i := by
  match i, hi with
  | 0, _ => exact h0
  | 1, _ => exact h1
  | 2, _ => exact h2
  | 3, _ => exact h3
  | 4, _ => exact h4
  | 5, _ => exact h5
theorem ow_rf {ad : Nat → Nat} {b : Nat} {i : Int32} (h : vp_in i 6) : va_rf (ow ad b i.toNatClampNeg) = .ref (ad (b + i.toNatClampNeg)) := by
  have hlt : i.toNatClampNeg < 6 := Nat.not_le.mp fun q => h (Or.inr q)
  exact row6 (P := fun k => va_rf (ow ad b k) = .ref (ad (b + k))) rfl rfl rfl rfl rfl rfl hlt
theorem in_lt {i : Int32} {n : Nat} (h : vp_in i n) : i.toNatClampNeg < n := Nat.not_le.mp fun q => h (Or.inr q)
def NLs (own : String) (idx : Nat) (Mc : Mt) : Prop := own = RX2 ∧ idx = 44 ∧ Mc.1 = yX6_isLetter ∧ Cond.static Mc.1 ∈ tb
theorem sl_X2_44 : NLs RX2 44 mX6_isLetter := ⟨rfl, rfl, rfl, st_X6_isLetter⟩
theorem j_callSN0 {G : GG} {M : Mt} {pc : Nat} {lo : List (Nat × Value)} {st st0 As : List Value} {w : va_W} {Q : Option Value → va_W → Prop} {Mc : Mt} {n idx : Nat} (hM : ML Mc n) (hV : NLs M.1.cls idx Mc) (hd : decode M.2.1 pc = .ok (.invokestatic idx, 3)) (hlen : (lg_sl As).length ≤ Mc.2.2.1) (hR : Mc.2.2.2.2.frames + 1 ≤ M.2.2.2.2.frames ∧ 8 + (Mc.2.2.1 + 11) + Mc.2.2.2.2.locals ≤ M.2.2.2.2.locals) (hn : As.length = n) (hst : st0 = As.reverse ++ st) (hcat : (st.map fun v => v.category).sum ≤ 8)
    (hJ : J G Mc 0 (lv_args 0 As) [] [] (fun v w1 => J G M (pc + 3) lo (v.toList ++ st) w Q)) : J G M pc lo st0 w Q := fun p l e s m args below meth c A C H locs ls hl hW => by
  obtain ⟨h1, h2, h3, h4⟩ := hV
  have hx : va_Nw (.methodLinkNest M.1.cls idx Mc.1 RX6) s := by rw [h1, h2, h3]; exact C.2.2.2.2.2.2.2.2.2.2.2.2
  exact w_callSN C.1 C.2.1 C.2.2.1 C.2.2.2.2.1 C.2.2.2.2.2.1 C.2.2.2.2.2.2.2.1 C.2.2.2.2.2.2.2.2.1 C.2.2.2.2.2.2.2.2.2 hl.1 hW hM hx h4 [] ⟨by cases w <;> rfl, Nat.zero_le _, rfl, rfl⟩ hJ hlen hR ⟨Nat.zero_le _, Nat.zero_le _⟩ hn hst hcat hd (fun v w1 H1 locs1 h1 h2 h3 h4 => by
    have e : mrg w w1 [] = w := by cases w <;> rfl
    rw [e] at h4
    exact J.at h1 rfl C hl h4)
end
section
set_option maxRecDepth 20000 in
theorem sg_J1_canEncode_9a6ad_0 {G : GG} {ad : Nat → Nat} {x0 : Int32} {Q : Option Value → va_W → Prop} (H : (((x0 < 0) → Q (some (.int 0)) ([] : va_W)) ∧ ((¬ x0 < 0) → (((255 < x0) → Q (some (.int 0)) ([] : va_W)) ∧ ((¬ 255 < x0) → Q (some (.int 1)) ([] : va_W)))))) : J G mJ1_canEncode_9a6ad 0 [(0, .int x0)] [] ([] : va_W) Q := by
  refine j_iload_n 0 dJ1_canEncode_9a6ad_0 rfl rfl ?_
  refine j_if_lt (tgt := 15) dJ1_canEncode_9a6ad_1 (by decide) (fun c_1 => ?_) (fun c_1 => ?_)
  · have H := H.1 c_1
    refine j_iconst (v := 0) dJ1_canEncode_9a6ad_15 (by decide) ?_
    exact j_zret dJ1_canEncode_9a6ad_16 rfl (by decide) H
  · have H := H.2 c_1
    refine j_iload_n 0 dJ1_canEncode_9a6ad_4 rfl rfl ?_
    refine j_sipush (v := 255) dJ1_canEncode_9a6ad_5 (by decide) ?_
    refine j_icmp_gt (tgt := 15) dJ1_canEncode_9a6ad_8 (by decide) (fun c_2 => ?_) (fun c_2 => ?_)
    · have H := H.1 c_2
      refine j_iconst (v := 0) dJ1_canEncode_9a6ad_15 (by decide) ?_
      exact j_zret dJ1_canEncode_9a6ad_16 rfl (by decide) H
    · have H := H.2 c_2
      refine j_iconst (v := 1) dJ1_canEncode_9a6ad_11 (by decide) ?_
      refine j_goto (tgt := 16) dJ1_canEncode_9a6ad_12 (by decide) ?_
      exact j_zret dJ1_canEncode_9a6ad_16 rfl (by decide) H
set_option maxRecDepth 20000 in
theorem sg_J7_fill_53178_0 {G : GG} {ad : Nat → Nat} {f0 : Nat → Int32} {L0 : Nat} {x1 : Int32} {Q : Option Value → va_W → Prop} (H : J G mJ7_fill_53178 5 [(0, .ref (ad 0)), (1, .int x1), (2, .int 0), (3, .int (nI L0))] [] (arW G ad 0 L0 f0) Q) : J G mJ7_fill_53178 0 [(0, .ref (ad 0)), (1, .int x1)] [] (arW G ad 0 L0 f0) Q := by
  refine j_iconst (v := 0) dJ7_fill_53178_0 (by decide) ?_
  refine j_istore_n (lo' := [(2, .int 0), (0, .ref (ad 0)), (1, .int x1)]) dJ7_fill_53178_1 rfl (by decide) rfl ?_
  refine j_aload_n 1 dJ7_fill_53178_2 rfl rfl ?_
  refine j_alen (v := (nI L0)) 0 dJ7_fill_53178_3 rfl rfl ?_
  refine j_istore_n (lo' := [(3, .int (nI L0)), (2, .int 0), (0, .ref (ad 0)), (1, .int x1)]) dJ7_fill_53178_4 rfl (by decide) rfl ?_
  refine j_lo [2, 3, 1, 0] rfl ?_
  exact H
set_option maxRecDepth 20000 in
theorem sg_J7_fill_53178_5 {G : GG} {ad : Nat → Nat} {f0 : Nat → Int32} {L0 : Nat} {x1 : Int32} {x2 : Int32} {x3 : Int32} {Q : Option Value → va_W → Prop} (H : (((x3 ≤ x2) → Q none (arW G ad 0 L0 f0)) ∧ ((¬ x3 ≤ x2) → (vp_in x2 L0) ∧ J G mJ7_fill_53178 5 [(0, .ref (ad 0)), (1, .int x1), (2, .int (x2 + 1)), (3, .int x3)] [] (arW G ad 0 L0 (upd f0 (Int32.toNatClampNeg x2) x1)) Q))) : J G mJ7_fill_53178 5 [(0, .ref (ad 0)), (1, .int x1), (2, .int x2), (3, .int x3)] [] (arW G ad 0 L0 f0) Q := by
  refine j_iload_n 2 dJ7_fill_53178_5 rfl rfl ?_
  refine j_iload_n 3 dJ7_fill_53178_6 rfl rfl ?_
  refine j_icmp_ge (tgt := 20) dJ7_fill_53178_7 (by decide) (fun c_1 => ?_) (fun c_1 => ?_)
  · have H := H.1 c_1
    exact j_vret dJ7_fill_53178_20 rfl H
  · have H := H.2 c_1
    refine j_aload_n 0 dJ7_fill_53178_10 rfl rfl ?_
    refine j_iload_n 2 dJ7_fill_53178_11 rfl rfl ?_
    refine j_iload_n 1 dJ7_fill_53178_12 rfl rfl ?_
    obtain ⟨h_2, H⟩ := H
    refine j_iast (w' := (arW G ad 0 L0 (upd f0 (Int32.toNatClampNeg x2) x1))) 0 dJ7_fill_53178_13 rfl h_2 rfl ?_
    refine j_iinc (v := (x2 + 1)) (lo' := [(2, .int (x2 + 1)), (0, .ref (ad 0)), (1, .int x1), (3, .int x3)]) 2 dJ7_fill_53178_14 rfl rfl (by decide) rfl ?_
    refine j_goto (tgt := 5) dJ7_fill_53178_17 (by decide) ?_
    refine j_lo [1, 2, 0, 3] rfl ?_
    exact H
end
section
set_option maxRecDepth 20000 in
theorem sg_X0_add_0 {G : GG} {ad : Nat → Nat} {g : Nat → Int32} {l : Nat → Int32} {n : Int32} {x1 : Int32} {x2 : Int32} {Q : Option Value → va_W → Prop} (H : (((12 ≤ n) → Q none (faW G ad 0 g l n)) ∧ ((¬ 12 ≤ n) → (vp_in n 12) ∧ (vp_in n 12) ∧ Q none (faW G ad 0 (upd g (Int32.toNatClampNeg n) x1) (upd l (Int32.toNatClampNeg n) x2) (n + 1))))) : J G mX0_add 0 [(0, .ref (ad 0)), (1, .int x1), (2, .int x2)] [] (faW G ad 0 g l n) Q := by
  refine j_aload_n 0 dX0_add_0 rfl rfl ?_
  refine j_get 0 fl_X0_18 dX0_add_1 rfl rfl ?_
  refine j_bipush (v := 12) dX0_add_4 (by decide) ?_
  refine j_icmp_ge (tgt := 39) dX0_add_6 (by decide) (fun c_1 => ?_) (fun c_1 => ?_)
  · have H := H.1 c_1
    exact j_vret dX0_add_39 rfl H
  · have H := H.2 c_1
    refine j_aload_n 0 dX0_add_9 rfl rfl ?_
    refine j_get 0 fl_X0_9 dX0_add_10 rfl rfl ?_
    refine j_aload_n 0 dX0_add_13 rfl rfl ?_
    refine j_get 0 fl_X0_18 dX0_add_14 rfl rfl ?_
    refine j_iload_n 1 dX0_add_17 rfl rfl ?_
    obtain ⟨h_2, H⟩ := H
    refine j_iast (w' := (faW G ad 0 (upd g (Int32.toNatClampNeg n) x1) l n)) 1 dX0_add_18 rfl h_2 rfl ?_
    refine j_aload_n 0 dX0_add_19 rfl rfl ?_
    refine j_get 0 fl_X0_15 dX0_add_20 rfl rfl ?_
    refine j_aload_n 0 dX0_add_23 rfl rfl ?_
    refine j_get 0 fl_X0_18 dX0_add_24 rfl rfl ?_
    refine j_iload_n 2 dX0_add_27 rfl rfl ?_
    obtain ⟨h_3, H⟩ := H
    refine j_iast (w' := (faW G ad 0 (upd g (Int32.toNatClampNeg n) x1) (upd l (Int32.toNatClampNeg n) x2) n)) 2 dX0_add_28 rfl h_3 rfl ?_
    refine j_aload_n 0 dX0_add_29 rfl rfl ?_
    refine j_dup dX0_add_30 rfl ?_
    refine j_get 0 fl_X0_18 dX0_add_31 rfl rfl ?_
    refine j_iconst (v := 1) dX0_add_34 (by decide) ?_
    refine j_iadd dX0_add_35 ?_
    refine j_put (w' := (faW G ad 0 (upd g (Int32.toNatClampNeg n) x1) (upd l (Int32.toNatClampNeg n) x2) (n + 1))) 0 fp_X0_18 dX0_add_36 rfl rfl rfl (Nat.le_of_ble_eq_true rfl) rfl ?_
    exact j_vret dX0_add_39 rfl H
set_option maxRecDepth 20000 in
theorem sg_X0_takeAll_0 {G : GG} {ad : Nat → Nat} {g : Nat → Int32} {l : Nat → Int32} {n : Int32} {g1 : Nat → Int32} {l1 : Nat → Int32} {n1 : Int32} {Q : Option Value → va_W → Prop} (H : Q none (faW G ad 0 (va_cpy g1 g 0 0 12) (va_cpy l1 l 0 0 12) n1 ++ (faW G ad 3 g1 l1 n1))) : J G mX0_takeAll 0 [(0, .ref (ad 0)), (1, .ref (ad 3))] [] (faW G ad 0 g l n ++ (faW G ad 3 g1 l1 n1)) Q := by
  refine j_aload_n 1 dX0_takeAll_0 rfl rfl ?_
  refine j_get 3 fl_X0_9 dX0_takeAll_1 rfl rfl ?_
  refine j_iconst (v := 0) dX0_takeAll_4 (by decide) ?_
  refine j_aload_n 0 dX0_takeAll_5 rfl rfl ?_
  refine j_get 0 fl_X0_9 dX0_takeAll_6 rfl rfl ?_
  refine j_iconst (v := 0) dX0_takeAll_9 (by decide) ?_
  refine j_bipush (v := 12) dX0_takeAll_10 (by decide) ?_
  refine j_cpy (w' := (faW G ad 0 (va_cpy g1 g 0 0 12) l n ++ (faW G ad 3 g1 l1 n1))) 4 1 0 0 12 ac_X0_22 dX0_takeAll_12 rfl rfl (by decide) (by decide) (by decide) (by decide) (Nat.le_of_ble_eq_true rfl) rfl ?_
  refine j_aload_n 1 dX0_takeAll_15 rfl rfl ?_
  refine j_get 3 fl_X0_15 dX0_takeAll_16 rfl rfl ?_
  refine j_iconst (v := 0) dX0_takeAll_19 (by decide) ?_
  refine j_aload_n 0 dX0_takeAll_20 rfl rfl ?_
  refine j_get 0 fl_X0_15 dX0_takeAll_21 rfl rfl ?_
  refine j_iconst (v := 0) dX0_takeAll_24 (by decide) ?_
  refine j_bipush (v := 12) dX0_takeAll_25 (by decide) ?_
  refine j_cpy (w' := (faW G ad 0 (va_cpy g1 g 0 0 12) (va_cpy l1 l 0 0 12) n ++ (faW G ad 3 g1 l1 n1))) 5 2 0 0 12 ac_X0_22 dX0_takeAll_27 rfl rfl (by decide) (by decide) (by decide) (by decide) (Nat.le_of_ble_eq_true rfl) rfl ?_
  refine j_aload_n 0 dX0_takeAll_30 rfl rfl ?_
  refine j_aload_n 1 dX0_takeAll_31 rfl rfl ?_
  refine j_get 3 fl_X0_18 dX0_takeAll_32 rfl rfl ?_
  refine j_put (w' := (faW G ad 0 (va_cpy g1 g 0 0 12) (va_cpy l1 l 0 0 12) n1 ++ (faW G ad 3 g1 l1 n1))) 0 fp_X0_18 dX0_takeAll_35 rfl rfl rfl (Nat.le_of_ble_eq_true rfl) rfl ?_
  exact j_vret dX0_takeAll_38 rfl H
set_option maxRecDepth 20000 in
theorem sg_X1_clear_0 {G : GG} {ad : Nat → Nat} {fn : Nat → Int32} {fd : Nat → Nat → Int32} {Q : Option Value → va_W → Prop} (H : J G mJ7_fill_53178 0 [(0, .ref ((pk ad [2]) 0)), (1, .int (-1))] [] (arW G (pk ad [2]) 0 6 fn) (fun v_ w_ => ∃ (f_1 : Nat → Int32), v_ = none ∧ w_ = (arW G (pk ad [2]) 0 6 f_1) ∧ Q none (fiW G ad 0 f_1 fd))) : J G mX1_clear 0 [(0, .ref (ad 0))] [] (fiW G ad 0 fn fd) Q := by
  refine j_aload_n 0 dX1_clear_0 rfl rfl ?_
  refine j_get 0 fl_X1_16 dX1_clear_1 rfl rfl ?_
  refine j_iconst (v := (-1)) dX1_clear_4 (by decide) ?_
  refine j_callS (wc := (arW G (pk ad [2]) 0 6 fn)) (As := [.ref ((pk ad [2]) 0), .int (-1)]) (st := []) ml_J7_fill_53178 sl_X1_23 dX1_clear_5 [none, none, some 0] ⟨rfl, Nat.le_of_ble_eq_true rfl, rfl, rfl⟩ (Nat.le_of_ble_eq_true rfl) ⟨by decide, by decide⟩ rfl rfl (Nat.le_of_ble_eq_true rfl) (J.mono (fun v_ w_ hp_ => ?_) H)
  obtain ⟨f_1, rfl, rfl, H⟩ := hp_
  refine j_w (w' := (fiW G ad 0 f_1 fd)) rfl ?_
  exact j_vret dX1_clear_8 rfl H
set_option maxRecDepth 20000 in
theorem sg_X1_countFound_0 {G : GG} {ad : Nat → Nat} {fn : Nat → Int32} {fd : Nat → Nat → Int32} {Q : Option Value → va_W → Prop} (H : J G mX1_countFound 13 [(0, .ref (ad 0)), (1, .int 0), (2, .ref (ad 2)), (3, .int 6), (4, .int 0)] [] (fiW G ad 0 fn fd) Q) : J G mX1_countFound 0 [(0, .ref (ad 0))] [] (fiW G ad 0 fn fd) Q := by
  refine j_iconst (v := 0) dX1_countFound_0 (by decide) ?_
  refine j_istore_n (lo' := [(1, .int 0), (0, .ref (ad 0))]) dX1_countFound_1 rfl (by decide) rfl ?_
  refine j_aload_n 1 dX1_countFound_2 rfl rfl ?_
  refine j_get 0 fl_X1_16 dX1_countFound_3 rfl rfl ?_
  refine j_astore_n (lo' := [(2, .ref (ad 2)), (1, .int 0), (0, .ref (ad 0))]) dX1_countFound_6 rfl (by decide) rfl ?_
  refine j_aload_n 0 dX1_countFound_7 rfl rfl ?_
  refine j_alen (v := 6) 2 dX1_countFound_8 rfl (by decide) ?_
  refine j_istore_n (lo' := [(3, .int 6), (2, .ref (ad 2)), (1, .int 0), (0, .ref (ad 0))]) dX1_countFound_9 rfl (by decide) rfl ?_
  refine j_iconst (v := 0) dX1_countFound_10 (by decide) ?_
  refine j_istore (lo' := [(4, .int 0), (3, .int 6), (2, .ref (ad 2)), (1, .int 0), (0, .ref (ad 0))]) dX1_countFound_11 (by decide) rfl ?_
  refine j_lo [4, 3, 2, 1, 0] rfl ?_
  exact H
set_option maxRecDepth 20000 in
theorem sg_X1_countFound_13 {G : GG} {ad : Nat → Nat} {fn : Nat → Int32} {fd : Nat → Nat → Int32} {x1 : Int32} {x3 : Int32} {x4 : Int32} {Q : Option Value → va_W → Prop} (H : (((x3 ≤ x4) → Q (some (.int x1)) (fiW G ad 0 fn fd)) ∧ ((¬ x3 ≤ x4) → (vp_in x4 6) ∧ (((¬ (fn (Int32.toNatClampNeg x4)) = (-1)) → J G mX1_countFound 13 [(0, .ref (ad 0)), (1, .int (x1 + 1)), (2, .ref (ad 2)), (3, .int x3), (4, .int (x4 + 1))] [] (fiW G ad 0 fn fd) Q) ∧ (((fn (Int32.toNatClampNeg x4)) = (-1)) → J G mX1_countFound 13 [(0, .ref (ad 0)), (1, .int (x1 + 0)), (2, .ref (ad 2)), (3, .int x3), (4, .int (x4 + 1))] [] (fiW G ad 0 fn fd) Q))))) : J G mX1_countFound 13 [(0, .ref (ad 0)), (1, .int x1), (2, .ref (ad 2)), (3, .int x3), (4, .int x4)] [] (fiW G ad 0 fn fd) Q := by
  refine j_iload 4 dX1_countFound_13 rfl ?_
  refine j_iload_n 3 dX1_countFound_15 rfl rfl ?_
  refine j_icmp_ge (tgt := 45) dX1_countFound_16 (by decide) (fun c_1 => ?_) (fun c_1 => ?_)
  · have H := H.1 c_1
    refine j_iload_n 1 dX1_countFound_45 rfl rfl ?_
    exact j_iret dX1_countFound_46 rfl H
  · have H := H.2 c_1
    refine j_aload_n 2 dX1_countFound_19 rfl rfl ?_
    refine j_iload 4 dX1_countFound_20 rfl ?_
    obtain ⟨h_2, H⟩ := H
    refine j_iald 2 dX1_countFound_22 rfl h_2 ?_
    refine j_istore (lo' := [(5, .int (fn (Int32.toNatClampNeg x4))), (0, .ref (ad 0)), (1, .int x1), (2, .ref (ad 2)), (3, .int x3), (4, .int x4)]) dX1_countFound_23 (by decide) rfl ?_
    refine j_iload_n 2 dX1_countFound_25 rfl rfl ?_
    refine j_iload 0 dX1_countFound_26 rfl ?_
    refine j_iconst (v := (-1)) dX1_countFound_28 (by decide) ?_
    refine j_icmp_ne (tgt := 36) dX1_countFound_29 (by decide) (fun c_3 => ?_) (fun c_3 => ?_)
    · have H := H.1 c_3
      refine j_iconst (v := 1) dX1_countFound_36 (by decide) ?_
      refine j_iadd dX1_countFound_37 ?_
      refine j_istore_n (lo' := [(1, .int (x1 + 1)), (5, .int (fn (Int32.toNatClampNeg x4))), (0, .ref (ad 0)), (2, .ref (ad 2)), (3, .int x3), (4, .int x4)]) dX1_countFound_38 rfl (by decide) rfl ?_
      refine j_iinc (v := (x4 + 1)) (lo' := [(4, .int (x4 + 1)), (1, .int (x1 + 1)), (5, .int (fn (Int32.toNatClampNeg x4))), (0, .ref (ad 0)), (2, .ref (ad 2)), (3, .int x3)]) 5 dX1_countFound_39 rfl rfl (by decide) rfl ?_
      refine j_goto (tgt := 13) dX1_countFound_42 (by decide) ?_
      refine j_lo [3, 1, 4, 5, 0] rfl ?_
      exact H
    · have H := H.2 c_3
      refine j_iconst (v := 0) dX1_countFound_32 (by decide) ?_
      refine j_goto (tgt := 37) dX1_countFound_33 (by decide) ?_
      refine j_iadd dX1_countFound_37 ?_
      refine j_istore_n (lo' := [(1, .int (x1 + 0)), (5, .int (fn (Int32.toNatClampNeg x4))), (0, .ref (ad 0)), (2, .ref (ad 2)), (3, .int x3), (4, .int x4)]) dX1_countFound_38 rfl (by decide) rfl ?_
      refine j_iinc (v := (x4 + 1)) (lo' := [(4, .int (x4 + 1)), (1, .int (x1 + 0)), (5, .int (fn (Int32.toNatClampNeg x4))), (0, .ref (ad 0)), (2, .ref (ad 2)), (3, .int x3)]) 5 dX1_countFound_39 rfl rfl (by decide) rfl ?_
      refine j_goto (tgt := 13) dX1_countFound_42 (by decide) ?_
      refine j_lo [3, 1, 4, 5, 0] rfl ?_
      exact H
set_option maxRecDepth 20000 in
theorem sg_X4_wordIs_0 {G : GG} {ad : Nat → Nat} {u : Nat → Nat → Int32} {d : Nat → Nat → Int32} {f2 : Nat → Int32} {x1 : Int32} {L2 : Nat} {x3 : Int32} {Q : Option Value → va_W → Prop} (H : (vp_in x1 6) ∧ (((((u 6) (Int32.toNatClampNeg x1)) = x3) → J G mX4_wordIs 15 [(0, .ref (ad 0)), (1, .int x1), (2, .ref (ad 15)), (3, .int x3), (4, .int 0)] [] (stW G ad 0 u d ++ (arW G ad 15 L2 f2)) Q) ∧ ((¬ ((u 6) (Int32.toNatClampNeg x1)) = x3) → Q (some (.int 0)) (stW G ad 0 u d ++ (arW G ad 15 L2 f2))))) : J G mX4_wordIs 0 [(0, .ref (ad 0)), (1, .int x1), (2, .ref (ad 15)), (3, .int x3)] [] (stW G ad 0 u d ++ (arW G ad 15 L2 f2)) Q := by
  refine j_aload_n 0 dX4_wordIs_0 rfl rfl ?_
  refine j_get 0 fl_X4_30 dX4_wordIs_1 rfl rfl ?_
  refine j_iload_n 1 dX4_wordIs_4 rfl rfl ?_
  obtain ⟨h_1, H⟩ := H
  refine j_iald 7 dX4_wordIs_5 rfl h_1 ?_
  refine j_iload_n 3 dX4_wordIs_6 rfl rfl ?_
  refine j_icmp_eq (tgt := 12) dX4_wordIs_7 (by decide) (fun c_2 => ?_) (fun c_2 => ?_)
  · have H := H.1 c_2
    refine j_iconst (v := 0) dX4_wordIs_12 (by decide) ?_
    refine j_istore (lo' := [(4, .int 0), (0, .ref (ad 0)), (1, .int x1), (2, .ref (ad 15)), (3, .int x3)]) dX4_wordIs_13 (by decide) rfl ?_
    refine j_lo [1, 2, 3, 4, 0] rfl ?_
    exact H
  · have H := H.2 c_2
    refine j_iconst (v := 0) dX4_wordIs_10 (by decide) ?_
    exact j_zret dX4_wordIs_11 rfl (by decide) H
set_option maxRecDepth 20000 in
theorem sg_X4_wordIs_15 {G : GG} {ad : Nat → Nat} {u : Nat → Nat → Int32} {d : Nat → Nat → Int32} {f2 : Nat → Int32} {L2 : Nat} {x1 : Int32} {x3 : Int32} {x4 : Int32} {Q : Option Value → va_W → Prop} (H : (((x3 ≤ x4) → Q (some (.int 1)) (stW G ad 0 u d ++ (arW G ad 15 L2 f2))) ∧ ((¬ x3 ≤ x4) → ((((nI L2) ≤ x4) → Q (some (.int 1)) (stW G ad 0 u d ++ (arW G ad 15 L2 f2))) ∧ ((¬ (nI L2) ≤ x4) → (vp_in x1 6) ∧ (vp_in x4 12) ∧ (vp_in x4 L2) ∧ (((((d (Int32.toNatClampNeg x1)) (Int32.toNatClampNeg x4)) = (f2 (Int32.toNatClampNeg x4))) → J G mX4_wordIs 15 [(0, .ref (ad 0)), (1, .int x1), (2, .ref (ad 15)), (3, .int x3), (4, .int (x4 + 1))] [] (stW G ad 0 u d ++ (arW G ad 15 L2 f2)) Q) ∧ ((¬ ((d (Int32.toNatClampNeg x1)) (Int32.toNatClampNeg x4)) = (f2 (Int32.toNatClampNeg x4))) → Q (some (.int 0)) (stW G ad 0 u d ++ (arW G ad 15 L2 f2))))))))) : J G mX4_wordIs 15 [(0, .ref (ad 0)), (1, .int x1), (2, .ref (ad 15)), (3, .int x3), (4, .int x4)] [] (stW G ad 0 u d ++ (arW G ad 15 L2 f2)) Q := by
  refine j_iload 4 dX4_wordIs_15 rfl ?_
  refine j_iload_n 3 dX4_wordIs_17 rfl rfl ?_
  refine j_icmp_ge (tgt := 52) dX4_wordIs_18 (by decide) (fun c_1 => ?_) (fun c_1 => ?_)
  · have H := H.1 c_1
    refine j_iconst (v := 1) dX4_wordIs_52 (by decide) ?_
    exact j_zret dX4_wordIs_53 rfl (by decide) H
  · have H := H.2 c_1
    refine j_iload 4 dX4_wordIs_21 rfl ?_
    refine j_aload_n 2 dX4_wordIs_23 rfl rfl ?_
    refine j_alen (v := (nI L2)) 15 dX4_wordIs_24 rfl rfl ?_
    refine j_icmp_ge (tgt := 52) dX4_wordIs_25 (by decide) (fun c_2 => ?_) (fun c_2 => ?_)
    · have H := H.1 c_2
      refine j_iconst (v := 1) dX4_wordIs_52 (by decide) ?_
      exact j_zret dX4_wordIs_53 rfl (by decide) H
    · have H := H.2 c_2
      refine j_aload_n 0 dX4_wordIs_28 rfl rfl ?_
      refine j_get 0 fl_X4_35 dX4_wordIs_29 rfl rfl ?_
      refine j_iload_n 1 dX4_wordIs_32 rfl rfl ?_
      obtain ⟨h_3, H⟩ := H
      refine j_aald 8 dX4_wordIs_33 rfl h_3 (ow_rf h_3) ?_
      refine j_iload 4 dX4_wordIs_34 rfl ?_
      obtain ⟨h_4, H⟩ := H
      refine j_iald (9 + (Int32.toNatClampNeg x1)) dX4_wordIs_36 (row6 (P := fun k_ => (stW G ad 0 u d ++ (arW G ad 15 L2 f2))[9 + k_]? = some (ad (9 + k_), .inl (G.2.1.1, 12, .inl (d k_)))) rfl rfl rfl rfl rfl rfl (in_lt h_3)) h_4 ?_
      refine j_aload_n 2 dX4_wordIs_37 rfl rfl ?_
      refine j_iload 4 dX4_wordIs_38 rfl ?_
      obtain ⟨h_5, H⟩ := H
      refine j_iald 15 dX4_wordIs_40 rfl h_5 ?_
      refine j_icmp_eq (tgt := 46) dX4_wordIs_41 (by decide) (fun c_6 => ?_) (fun c_6 => ?_)
      · have H := H.1 c_6
        refine j_iinc (v := (x4 + 1)) (lo' := [(4, .int (x4 + 1)), (0, .ref (ad 0)), (1, .int x1), (2, .ref (ad 15)), (3, .int x3)]) 4 dX4_wordIs_46 rfl rfl (by decide) rfl ?_
        refine j_goto (tgt := 15) dX4_wordIs_49 (by decide) ?_
        refine j_lo [1, 2, 3, 4, 0] rfl ?_
        exact H
      · have H := H.2 c_6
        refine j_iconst (v := 0) dX4_wordIs_44 (by decide) ?_
        exact j_zret dX4_wordIs_45 rfl (by decide) H
set_option maxRecDepth 20000 in
theorem sg_X1_fit_0 {G : GG} {ad : Nat → Nat} {fn : Nat → Int32} {fd : Nat → Nat → Int32} {u1 : Nat → Nat → Int32} {d1 : Nat → Nat → Int32} {Q : Option Value → va_W → Prop} (H : J G mX1_fit 2 [(0, .ref (ad 0)), (1, .ref (ad 9)), (2, .int 0)] [] (fiW G ad 0 fn fd ++ (stW G ad 9 u1 d1)) Q) : J G mX1_fit 0 [(0, .ref (ad 0)), (1, .ref (ad 9))] [] (fiW G ad 0 fn fd ++ (stW G ad 9 u1 d1)) Q := by
  refine j_iconst (v := 0) dX1_fit_0 (by decide) ?_
  refine j_istore_n (lo' := [(2, .int 0), (0, .ref (ad 0)), (1, .ref (ad 9))]) dX1_fit_1 rfl (by decide) rfl ?_
  refine j_lo [1, 2, 0] rfl ?_
  exact H
set_option maxRecDepth 20000 in
theorem sg_X1_fit_2 {G : GG} {ad : Nat → Nat} {fn : Nat → Int32} {fd : Nat → Nat → Int32} {u1 : Nat → Nat → Int32} {d1 : Nat → Nat → Int32} {x2 : Int32} {Q : Option Value → va_W → Prop} (H : (((6 ≤ x2) → Q (some (.int 1)) (fiW G ad 0 fn fd ++ (stW G ad 9 u1 d1))) ∧ ((¬ 6 ≤ x2) → (vp_in x2 6) ∧ ((((fn (Int32.toNatClampNeg x2)) = (-1)) → J G mX1_fit 2 [(0, .ref (ad 0)), (1, .ref (ad 9)), (2, .int (x2 + 1))] [] (fiW G ad 0 fn fd ++ (stW G ad 9 u1 d1)) Q) ∧ ((¬ (fn (Int32.toNatClampNeg x2)) = (-1)) → (vp_in x2 6) ∧ (vp_in x2 6) ∧ J G mX4_wordIs 0 [(0, .ref ((pk ad [9, 10, 11, 12, 13, 14, 15, 16, 17, 18, 19, 20, 21, 22, 23, 3 + (Int32.toNatClampNeg x2)]) 0)), (1, .int x2), (2, .ref ((pk ad [9, 10, 11, 12, 13, 14, 15, 16, 17, 18, 19, 20, 21, 22, 23, 3 + (Int32.toNatClampNeg x2)]) 15)), (3, .int (fn (Int32.toNatClampNeg x2)))] [] (stW G (pk ad [9, 10, 11, 12, 13, 14, 15, 16, 17, 18, 19, 20, 21, 22, 23, 3 + (Int32.toNatClampNeg x2)]) 0 u1 d1 ++ (arW G (pk ad [9, 10, 11, 12, 13, 14, 15, 16, 17, 18, 19, 20, 21, 22, 23, 3 + (Int32.toNatClampNeg x2)]) 15 8 (fd (Int32.toNatClampNeg x2)))) (fun v_ w_ => ∃ (r_6 : Int32), v_ = some (.int r_6) ∧ w_ = (stW G (pk ad [9, 10, 11, 12, 13, 14, 15, 16, 17, 18, 19, 20, 21, 22, 23, 3 + (Int32.toNatClampNeg x2)]) 0 u1 d1 ++ (arW G (pk ad [9, 10, 11, 12, 13, 14, 15, 16, 17, 18, 19, 20, 21, 22, 23, 3 + (Int32.toNatClampNeg x2)]) 15 8 (fd (Int32.toNatClampNeg x2)))) ∧ (((¬ r_6 = 0) → J G mX1_fit 2 [(0, .ref (ad 0)), (1, .ref (ad 9)), (2, .int (x2 + 1))] [] (fiW G ad 0 fn fd ++ (stW G ad 9 u1 d1)) Q) ∧ ((r_6 = 0) → Q (some (.int 0)) (fiW G ad 0 fn fd ++ (stW G ad 9 u1 d1)))))))))) : J G mX1_fit 2 [(0, .ref (ad 0)), (1, .ref (ad 9)), (2, .int x2)] [] (fiW G ad 0 fn fd ++ (stW G ad 9 u1 d1)) Q := by
  refine j_iload_n 2 dX1_fit_2 rfl rfl ?_
  refine j_bipush (v := 6) dX1_fit_3 (by decide) ?_
  refine j_icmp_ge (tgt := 46) dX1_fit_5 (by decide) (fun c_1 => ?_) (fun c_1 => ?_)
  · have H := H.1 c_1
    refine j_iconst (v := 1) dX1_fit_46 (by decide) ?_
    exact j_zret dX1_fit_47 rfl (by decide) H
  · have H := H.2 c_1
    refine j_aload_n 0 dX1_fit_8 rfl rfl ?_
    refine j_get 0 fl_X1_16 dX1_fit_9 rfl rfl ?_
    refine j_iload_n 2 dX1_fit_12 rfl rfl ?_
    obtain ⟨h_2, H⟩ := H
    refine j_iald 2 dX1_fit_13 rfl h_2 ?_
    refine j_iconst (v := (-1)) dX1_fit_14 (by decide) ?_
    refine j_icmp_eq (tgt := 40) dX1_fit_15 (by decide) (fun c_3 => ?_) (fun c_3 => ?_)
    · have H := H.1 c_3
      refine j_iinc (v := (x2 + 1)) (lo' := [(2, .int (x2 + 1)), (0, .ref (ad 0)), (1, .ref (ad 9))]) 2 dX1_fit_40 rfl rfl (by decide) rfl ?_
      refine j_goto (tgt := 2) dX1_fit_43 (by decide) ?_
      refine j_lo [1, 2, 0] rfl ?_
      exact H
    · have H := H.2 c_3
      refine j_aload_n 1 dX1_fit_18 rfl rfl ?_
      refine j_iload_n 2 dX1_fit_19 rfl rfl ?_
      refine j_aload_n 0 dX1_fit_20 rfl rfl ?_
      refine j_get 0 fl_X1_11 dX1_fit_21 rfl rfl ?_
      refine j_iload_n 2 dX1_fit_24 rfl rfl ?_
      obtain ⟨h_4, H⟩ := H
      refine j_aald 1 dX1_fit_25 rfl h_4 (ow_rf h_4) ?_
      refine j_aload_n 0 dX1_fit_26 rfl rfl ?_
      refine j_get 0 fl_X1_16 dX1_fit_27 rfl rfl ?_
      refine j_iload_n 2 dX1_fit_30 rfl rfl ?_
      obtain ⟨h_5, H⟩ := H
      refine j_iald 2 dX1_fit_31 rfl h_5 ?_
      refine j_callV (q0 := 0) (wc := (stW G (pk ad [9, 10, 11, 12, 13, 14, 15, 16, 17, 18, 19, 20, 21, 22, 23, 3 + (Int32.toNatClampNeg x2)]) 0 u1 d1 ++ (arW G (pk ad [9, 10, 11, 12, 13, 14, 15, 16, 17, 18, 19, 20, 21, 22, 23, 3 + (Int32.toNatClampNeg x2)]) 15 8 (fd (Int32.toNatClampNeg x2))))) (As := [.int x2, .ref ((pk ad [9, 10, 11, 12, 13, 14, 15, 16, 17, 18, 19, 20, 21, 22, 23, 3 + (Int32.toNatClampNeg x2)]) 15), .int (fn (Int32.toNatClampNeg x2))]) (st := []) ml_X4_wordIs vl_X1_29 dX1_fit_32 (List.set [none, none, none, none, none, none, none, none, none, some 0, some 1, some 2, some 3, some 4, some 5, some 6, some 7, some 8, some 9, some 10, some 11, some 12, some 13, some 14] (3 + (Int32.toNatClampNeg x2)) (some 15)) (row6 (P := fun k_ => Lay (fiW G ad 0 fn fd ++ (stW G ad 9 u1 d1)) (stW G (pk ad [9, 10, 11, 12, 13, 14, 15, 16, 17, 18, 19, 20, 21, 22, 23, 3 + k_]) 0 u1 d1 ++ (arW G (pk ad [9, 10, 11, 12, 13, 14, 15, 16, 17, 18, 19, 20, 21, 22, 23, 3 + k_]) 15 8 (fd k_))) (List.set [none, none, none, none, none, none, none, none, none, some 0, some 1, some 2, some 3, some 4, some 5, some 6, some 7, some 8, some 9, some 10, some 11, some 12, some 13, some 14] (3 + k_) (some 15))) ⟨rfl, Nat.le_of_ble_eq_true rfl, rfl, rfl⟩ ⟨rfl, Nat.le_of_ble_eq_true rfl, rfl, rfl⟩ ⟨rfl, Nat.le_of_ble_eq_true rfl, rfl, rfl⟩ ⟨rfl, Nat.le_of_ble_eq_true rfl, rfl, rfl⟩ ⟨rfl, Nat.le_of_ble_eq_true rfl, rfl, rfl⟩ ⟨rfl, Nat.le_of_ble_eq_true rfl, rfl, rfl⟩ (in_lt h_4)) rfl rfl rfl (Nat.le_of_ble_eq_true rfl) ⟨by decide, by decide⟩ rfl rfl (Nat.le_of_ble_eq_true rfl) (J.mono (fun v_ w_ hp_ => ?_) H)
      obtain ⟨r_6, rfl, rfl, H⟩ := hp_
      refine j_w (w' := (fiW G ad 0 fn fd ++ (stW G ad 9 u1 d1))) (row6 (P := fun k_ => mrg (fiW G ad 0 fn fd ++ (stW G ad 9 u1 d1)) (stW G (pk ad [9, 10, 11, 12, 13, 14, 15, 16, 17, 18, 19, 20, 21, 22, 23, 3 + k_]) 0 u1 d1 ++ (arW G (pk ad [9, 10, 11, 12, 13, 14, 15, 16, 17, 18, 19, 20, 21, 22, 23, 3 + k_]) 15 8 (fd k_))) (List.set [none, none, none, none, none, none, none, none, none, some 0, some 1, some 2, some 3, some 4, some 5, some 6, some 7, some 8, some 9, some 10, some 11, some 12, some 13, some 14] (3 + k_) (some 15)) = (fiW G ad 0 fn fd ++ (stW G ad 9 u1 d1))) rfl rfl rfl rfl rfl rfl (in_lt h_4)) ?_
      refine j_if_ne (tgt := 40) dX1_fit_35 (by decide) (fun c_7 => ?_) (fun c_7 => ?_)
      · have H := H.1 c_7
        refine j_iinc (v := (x2 + 1)) (lo' := [(2, .int (x2 + 1)), (0, .ref (ad 0)), (1, .ref (ad 9))]) 2 dX1_fit_40 rfl rfl (by decide) rfl ?_
        refine j_goto (tgt := 2) dX1_fit_43 (by decide) ?_
        refine j_lo [1, 2, 0] rfl ?_
        exact H
      · have H := H.2 c_7
        refine j_iconst (v := 0) dX1_fit_38 (by decide) ?_
        exact j_zret dX1_fit_39 rfl (by decide) H
set_option maxRecDepth 20000 in
theorem sg_X1_takeAll_0 {G : GG} {ad : Nat → Nat} {fn : Nat → Int32} {fd : Nat → Nat → Int32} {fn1 : Nat → Int32} {fd1 : Nat → Nat → Int32} {Q : Option Value → va_W → Prop} (H : J G mX1_takeAll 17 [(0, .ref (ad 0)), (1, .ref (ad 9)), (2, .int 0)] [] (fiW G ad 0 (va_cpy fn1 fn 0 0 6) fd ++ (fiW G ad 9 fn1 fd1)) Q) : J G mX1_takeAll 0 [(0, .ref (ad 0)), (1, .ref (ad 9))] [] (fiW G ad 0 fn fd ++ (fiW G ad 9 fn1 fd1)) Q := by
  refine j_aload_n 1 dX1_takeAll_0 rfl rfl ?_
  refine j_get 9 fl_X1_16 dX1_takeAll_1 rfl rfl ?_
  refine j_iconst (v := 0) dX1_takeAll_4 (by decide) ?_
  refine j_aload_n 0 dX1_takeAll_5 rfl rfl ?_
  refine j_get 0 fl_X1_16 dX1_takeAll_6 rfl rfl ?_
  refine j_iconst (v := 0) dX1_takeAll_9 (by decide) ?_
  refine j_bipush (v := 6) dX1_takeAll_10 (by decide) ?_
  refine j_cpy (w' := (fiW G ad 0 (va_cpy fn1 fn 0 0 6) fd ++ (fiW G ad 9 fn1 fd1))) 11 2 0 0 6 ac_X1_35 dX1_takeAll_12 rfl rfl (by decide) (by decide) (by decide) (by decide) (Nat.le_of_ble_eq_true rfl) rfl ?_
  refine j_iconst (v := 0) dX1_takeAll_15 (by decide) ?_
  refine j_istore_n (lo' := [(2, .int 0), (0, .ref (ad 0)), (1, .ref (ad 9))]) dX1_takeAll_16 rfl (by decide) rfl ?_
  refine j_lo [1, 2, 0] rfl ?_
  exact H
set_option maxRecDepth 20000 in
theorem sg_X1_takeAll_17 {G : GG} {ad : Nat → Nat} {fn : Nat → Int32} {fd : Nat → Nat → Int32} {fn1 : Nat → Int32} {fd1 : Nat → Nat → Int32} {x2 : Int32} {Q : Option Value → va_W → Prop} (H : (((6 ≤ x2) → Q none (fiW G ad 0 fn fd ++ (fiW G ad 9 fn1 fd1))) ∧ ((¬ 6 ≤ x2) → (vp_in x2 6) ∧ (vp_in x2 6) ∧ J G mX1_takeAll 17 [(0, .ref (ad 0)), (1, .ref (ad 9)), (2, .int (x2 + 1))] [] (fiW G ad 0 fn (va_up fd (Int32.toNatClampNeg x2) (va_cpy (fd1 (Int32.toNatClampNeg x2)) (fd (Int32.toNatClampNeg x2)) 0 0 8)) ++ (fiW G ad 9 fn1 fd1)) Q))) : J G mX1_takeAll 17 [(0, .ref (ad 0)), (1, .ref (ad 9)), (2, .int x2)] [] (fiW G ad 0 fn fd ++ (fiW G ad 9 fn1 fd1)) Q := by
  refine j_iload_n 2 dX1_takeAll_17 rfl rfl ?_
  refine j_bipush (v := 6) dX1_takeAll_18 (by decide) ?_
  refine j_icmp_ge (tgt := 48) dX1_takeAll_20 (by decide) (fun c_1 => ?_) (fun c_1 => ?_)
  · have H := H.1 c_1
    exact j_vret dX1_takeAll_48 rfl H
  · have H := H.2 c_1
    refine j_aload_n 1 dX1_takeAll_23 rfl rfl ?_
    refine j_get 9 fl_X1_11 dX1_takeAll_24 rfl rfl ?_
    refine j_iload_n 2 dX1_takeAll_27 rfl rfl ?_
    obtain ⟨h_2, H⟩ := H
    refine j_aald 10 dX1_takeAll_28 rfl h_2 (ow_rf h_2) ?_
    refine j_iconst (v := 0) dX1_takeAll_29 (by decide) ?_
    refine j_aload_n 0 dX1_takeAll_30 rfl rfl ?_
    refine j_get 0 fl_X1_11 dX1_takeAll_31 rfl rfl ?_
    refine j_iload_n 2 dX1_takeAll_34 rfl rfl ?_
    obtain ⟨h_3, H⟩ := H
    refine j_aald 1 dX1_takeAll_35 rfl h_3 (ow_rf h_3) ?_
    refine j_iconst (v := 0) dX1_takeAll_36 (by decide) ?_
    refine j_bipush (v := 8) dX1_takeAll_37 (by decide) ?_
    refine j_cpy (w' := (fiW G ad 0 fn (va_up fd (Int32.toNatClampNeg x2) (va_cpy (fd1 (Int32.toNatClampNeg x2)) (fd (Int32.toNatClampNeg x2)) 0 0 8)) ++ (fiW G ad 9 fn1 fd1))) (12 + (Int32.toNatClampNeg x2)) (3 + (Int32.toNatClampNeg x2)) 0 0 8 ac_X1_35 dX1_takeAll_39 (row6 (P := fun k_ => (fiW G ad 0 fn fd ++ (fiW G ad 9 fn1 fd1))[12 + k_]? = some (ad (12 + k_), .inl (G.2.1.1, 8, .inl (fd1 k_)))) rfl rfl rfl rfl rfl rfl (in_lt h_2)) (row6 (P := fun k_ => (fiW G ad 0 fn fd ++ (fiW G ad 9 fn1 fd1))[3 + k_]? = some (ad (3 + k_), .inl (G.2.1.1, 8, .inl (fd k_)))) rfl rfl rfl rfl rfl rfl (in_lt h_3)) (by decide) (by decide) (by decide) (by decide) (Nat.le_of_ble_eq_true rfl) (row6 (P := fun k_ => (fiW G ad 0 fn fd ++ (fiW G ad 9 fn1 fd1)).set (3 + k_) (ad (3 + k_), .inl (G.2.1.1, 8, .inl (va_cpy (fd1 (Int32.toNatClampNeg x2)) (fd k_) 0 0 8))) = (fiW G ad 0 fn (va_up fd k_ (va_cpy (fd1 (Int32.toNatClampNeg x2)) (fd k_) 0 0 8)) ++ (fiW G ad 9 fn1 fd1))) rfl rfl rfl rfl rfl rfl (in_lt h_3)) ?_
    refine j_iinc (v := (x2 + 1)) (lo' := [(2, .int (x2 + 1)), (0, .ref (ad 0)), (1, .ref (ad 9))]) 2 dX1_takeAll_42 rfl rfl (by decide) rfl ?_
    refine j_goto (tgt := 17) dX1_takeAll_45 (by decide) ?_
    refine j_lo [1, 2, 0] rfl ?_
    exact H
set_option maxRecDepth 20000 in
theorem sg_X2_copyLetters_0 {G : GG} {ad : Nat → Nat} {pf : Nat → Int32} {pn : Int32} {f1 : Nat → Int32} {L1 : Nat} {Q : Option Value → va_W → Prop} (H : J G mX2_copyLetters 2 [(0, .ref (ad 0)), (1, .ref (ad 2)), (2, .int 0)] [] (pgW G ad 0 pf pn ++ (arW G ad 2 L1 f1)) Q) : J G mX2_copyLetters 0 [(0, .ref (ad 0)), (1, .ref (ad 2))] [] (pgW G ad 0 pf pn ++ (arW G ad 2 L1 f1)) Q := by
  refine j_iconst (v := 0) dX2_copyLetters_0 (by decide) ?_
  refine j_istore_n (lo' := [(2, .int 0), (0, .ref (ad 0)), (1, .ref (ad 2))]) dX2_copyLetters_1 rfl (by decide) rfl ?_
  refine j_lo [1, 2, 0] rfl ?_
  exact H
set_option maxRecDepth 20000 in
theorem sg_X2_copyLetters_2 {G : GG} {ad : Nat → Nat} {pf : Nat → Int32} {pn : Int32} {f1 : Nat → Int32} {L1 : Nat} {x2 : Int32} {Q : Option Value → va_W → Prop} (H : (((pn ≤ x2) → Q none (pgW G ad 0 pf pn ++ (arW G ad 2 L1 f1))) ∧ ((¬ pn ≤ x2) → ((((nI L1) ≤ x2) → Q none (pgW G ad 0 pf pn ++ (arW G ad 2 L1 f1))) ∧ ((¬ (nI L1) ≤ x2) → (vp_in x2 20) ∧ (vp_in x2 L1) ∧ J G mX2_copyLetters 2 [(0, .ref (ad 0)), (1, .ref (ad 2)), (2, .int (x2 + 1))] [] (pgW G ad 0 pf pn ++ (arW G ad 2 L1 (upd f1 (Int32.toNatClampNeg x2) ((pf (Int32.toNatClampNeg x2)) - 97)))) Q))))) : J G mX2_copyLetters 2 [(0, .ref (ad 0)), (1, .ref (ad 2)), (2, .int x2)] [] (pgW G ad 0 pf pn ++ (arW G ad 2 L1 f1)) Q := by
  refine j_iload_n 2 dX2_copyLetters_2 rfl rfl ?_
  refine j_aload_n 0 dX2_copyLetters_3 rfl rfl ?_
  refine j_get 0 fl_X2_15 dX2_copyLetters_4 rfl rfl ?_
  refine j_icmp_ge (tgt := 34) dX2_copyLetters_7 (by decide) (fun c_1 => ?_) (fun c_1 => ?_)
  · have H := H.1 c_1
    exact j_vret dX2_copyLetters_34 rfl H
  · have H := H.2 c_1
    refine j_iload_n 2 dX2_copyLetters_10 rfl rfl ?_
    refine j_aload_n 1 dX2_copyLetters_11 rfl rfl ?_
    refine j_alen (v := (nI L1)) 2 dX2_copyLetters_12 rfl rfl ?_
    refine j_icmp_ge (tgt := 34) dX2_copyLetters_13 (by decide) (fun c_2 => ?_) (fun c_2 => ?_)
    · have H := H.1 c_2
      exact j_vret dX2_copyLetters_34 rfl H
    · have H := H.2 c_2
      refine j_aload_n 1 dX2_copyLetters_16 rfl rfl ?_
      refine j_iload_n 2 dX2_copyLetters_17 rfl rfl ?_
      refine j_aload_n 0 dX2_copyLetters_18 rfl rfl ?_
      refine j_get 0 fl_X2_9 dX2_copyLetters_19 rfl rfl ?_
      refine j_iload_n 2 dX2_copyLetters_22 rfl rfl ?_
      obtain ⟨h_3, H⟩ := H
      refine j_iald 1 dX2_copyLetters_23 rfl h_3 ?_
      refine j_bipush (v := 97) dX2_copyLetters_24 (by decide) ?_
      refine j_isub dX2_copyLetters_26 ?_
      obtain ⟨h_4, H⟩ := H
      refine j_iast (w' := (pgW G ad 0 pf pn ++ (arW G ad 2 L1 (upd f1 (Int32.toNatClampNeg x2) ((pf (Int32.toNatClampNeg x2)) - 97))))) 2 dX2_copyLetters_27 rfl h_4 rfl ?_
      refine j_iinc (v := (x2 + 1)) (lo' := [(2, .int (x2 + 1)), (0, .ref (ad 0)), (1, .ref (ad 2))]) 2 dX2_copyLetters_28 rfl rfl (by decide) rfl ?_
      refine j_goto (tgt := 2) dX2_copyLetters_31 (by decide) ?_
      refine j_lo [1, 2, 0] rfl ?_
      exact H
set_option maxRecDepth 20000 in
theorem sg_X2_flowAt_0 {G : GG} {ad : Nat → Nat} {pf : Nat → Int32} {pn : Int32} {x1 : Int32} {x2 : Int32} {Q : Option Value → va_W → Prop} (H : (vp_in x1 20) ∧ (((¬ (pf (Int32.toNatClampNeg x1)) = 45) → (((((pf (Int32.toNatClampNeg x1)) - 48) ≤ x2) → Q (some (.int (-101))) (pgW G ad 0 pf pn)) ∧ ((¬ ((pf (Int32.toNatClampNeg x1)) - 48) ≤ x2) → (((6 ≤ ((pf (Int32.toNatClampNeg x1)) - 48)) → Q (some (.int (-101))) (pgW G ad 0 pf pn)) ∧ ((¬ 6 ≤ ((pf (Int32.toNatClampNeg x1)) - 48)) → Q (some (.int ((pf (Int32.toNatClampNeg x1)) - 48))) (pgW G ad 0 pf pn)))))) ∧ (((pf (Int32.toNatClampNeg x1)) = 45) → Q (some (.int (-1))) (pgW G ad 0 pf pn)))) : J G mX2_flowAt 0 [(0, .ref (ad 0)), (1, .int x1), (2, .int x2)] [] (pgW G ad 0 pf pn) Q := by
  refine j_aload_n 0 dX2_flowAt_0 rfl rfl ?_
  refine j_get 0 fl_X2_9 dX2_flowAt_1 rfl rfl ?_
  refine j_iload_n 1 dX2_flowAt_4 rfl rfl ?_
  obtain ⟨h_1, H⟩ := H
  refine j_iald 1 dX2_flowAt_5 rfl h_1 ?_
  refine j_istore_n (lo' := [(3, .int (pf (Int32.toNatClampNeg x1))), (0, .ref (ad 0)), (1, .int x1), (2, .int x2)]) dX2_flowAt_6 rfl (by decide) rfl ?_
  refine j_iload_n 0 dX2_flowAt_7 rfl rfl ?_
  refine j_bipush (v := 45) dX2_flowAt_8 (by decide) ?_
  refine j_icmp_ne (tgt := 15) dX2_flowAt_10 (by decide) (fun c_2 => ?_) (fun c_2 => ?_)
  · have H := H.1 c_2
    refine j_iload_n 0 dX2_flowAt_15 rfl rfl ?_
    refine j_bipush (v := 48) dX2_flowAt_16 (by decide) ?_
    refine j_isub dX2_flowAt_18 ?_
    refine j_istore (lo' := [(4, .int ((pf (Int32.toNatClampNeg x1)) - 48)), (3, .int (pf (Int32.toNatClampNeg x1))), (0, .ref (ad 0)), (1, .int x1), (2, .int x2)]) dX2_flowAt_19 (by decide) rfl ?_
    refine j_iload 0 dX2_flowAt_21 rfl ?_
    refine j_iload_n 4 dX2_flowAt_23 rfl rfl ?_
    refine j_icmp_le (tgt := 39) dX2_flowAt_24 (by decide) (fun c_3 => ?_) (fun c_3 => ?_)
    · have H := H.1 c_3
      refine j_bipush (v := (-101)) dX2_flowAt_39 (by decide) ?_
      exact j_iret dX2_flowAt_41 rfl H
    · have H := H.2 c_3
      refine j_iload 0 dX2_flowAt_27 rfl ?_
      refine j_bipush (v := 6) dX2_flowAt_29 (by decide) ?_
      refine j_icmp_ge (tgt := 39) dX2_flowAt_31 (by decide) (fun c_4 => ?_) (fun c_4 => ?_)
      · have H := H.1 c_4
        refine j_bipush (v := (-101)) dX2_flowAt_39 (by decide) ?_
        exact j_iret dX2_flowAt_41 rfl H
      · have H := H.2 c_4
        refine j_iload 0 dX2_flowAt_34 rfl ?_
        refine j_goto (tgt := 41) dX2_flowAt_36 (by decide) ?_
        exact j_iret dX2_flowAt_41 rfl H
  · have H := H.2 c_2
    refine j_iconst (v := (-1)) dX2_flowAt_13 (by decide) ?_
    exact j_iret dX2_flowAt_14 rfl H
set_option maxRecDepth 20000 in
theorem sg_X2_fitsStreet_0 {G : GG} {ad : Nat → Nat} {pf : Nat → Int32} {pn : Int32} {x1 : Int32} {Q : Option Value → va_W → Prop} (H : (((x1 < 17) → ((((x1 - x1 / 3 * 3) = 0) → J G mX2_kindAt 0 [(0, .ref (ad 0)), (1, .int x1)] [] (pgW G ad 0 pf pn) (fun v_ w_ => ∃ (r_2 : Int32), v_ = some (.int r_2) ∧ w_ = (pgW G ad 0 pf pn) ∧ (((r_2 < 0) → Q (some (.int 0)) (pgW G ad 0 pf pn)) ∧ ((¬ r_2 < 0) → Q (some (.int 1)) (pgW G ad 0 pf pn))))) ∧ (((x1 - x1 / 3 * 3) = 1) → J G mX2_flowAt 0 [(0, .ref (ad 0)), (1, .int x1), (2, .int (x1 / 3))] [] (pgW G ad 0 pf pn) (fun v_ w_ => ∃ (r_4 : Int32), v_ = some (.int r_4) ∧ w_ = (pgW G ad 0 pf pn) ∧ (((r_4 = (-101)) → Q (some (.int 0)) (pgW G ad 0 pf pn)) ∧ ((¬ r_4 = (-101)) → Q (some (.int 1)) (pgW G ad 0 pf pn))))) ∧ ((¬ (x1 - x1 / 3 * 3) = 0 ∧ ¬ (x1 - x1 / 3 * 3) = 1) → (vp_in x1 20) ∧ (((¬ (pf (Int32.toNatClampNeg x1)) = 44) → Q (some (.int 0)) (pgW G ad 0 pf pn)) ∧ (((pf (Int32.toNatClampNeg x1)) = 44) → Q (some (.int 1)) (pgW G ad 0 pf pn)))))) ∧ ((¬ x1 < 17) → Q (some (.int 0)) (pgW G ad 0 pf pn)))) : J G mX2_fitsStreet 0 [(0, .ref (ad 0)), (1, .int x1)] [] (pgW G ad 0 pf pn) Q := by
  refine j_iload_n 1 dX2_fitsStreet_0 rfl rfl ?_
  refine j_bipush (v := 17) dX2_fitsStreet_1 (by decide) ?_
  refine j_icmp_lt (tgt := 8) dX2_fitsStreet_3 (by decide) (fun c_1 => ?_) (fun c_1 => ?_)
  · have H := H.1 c_1
    refine j_iload_n 1 dX2_fitsStreet_8 rfl rfl ?_
    refine j_iconst (v := 3) dX2_fitsStreet_9 (by decide) ?_
    refine j_irem dX2_fitsStreet_10 (by decide) ?_
    refine j_lsw2 (v0 := 0) (v1 := 1) (t0 := 36) (t1 := 50) (dt := 69) dX2_fitsStreet_11 (by decide) (by decide) (by decide) (by decide) (fun hx => ?_) (fun hx => ?_) (fun hx => ?_)
    · have H := H.1 hx
      refine j_aload_n 0 dX2_fitsStreet_36 rfl rfl ?_
      refine j_iload_n 1 dX2_fitsStreet_37 rfl rfl ?_
      refine j_callV0 (q0 := 0) (As := [.int x1]) (st := []) ml_X2_kindAt vl_X2_37 dX2_fitsStreet_38 rfl rfl rfl (Nat.le_of_ble_eq_true rfl) ⟨by decide, by decide⟩ rfl rfl (Nat.le_of_ble_eq_true rfl) (J.mono (fun v_ w_ hp_ => ?_) H)
      obtain ⟨r_2, rfl, rfl, H⟩ := hp_
      refine j_if_lt (tgt := 48) dX2_fitsStreet_41 (by decide) (fun c_3 => ?_) (fun c_3 => ?_)
      · have H := H.1 c_3
        refine j_iconst (v := 0) dX2_fitsStreet_48 (by decide) ?_
        exact j_zret dX2_fitsStreet_49 rfl (by decide) H
      · have H := H.2 c_3
        refine j_iconst (v := 1) dX2_fitsStreet_44 (by decide) ?_
        refine j_goto (tgt := 49) dX2_fitsStreet_45 (by decide) ?_
        exact j_zret dX2_fitsStreet_49 rfl (by decide) H
    · have H := H.2.1 hx
      refine j_aload_n 0 dX2_fitsStreet_50 rfl rfl ?_
      refine j_iload_n 1 dX2_fitsStreet_51 rfl rfl ?_
      refine j_iload_n 1 dX2_fitsStreet_52 rfl rfl ?_
      refine j_iconst (v := 3) dX2_fitsStreet_53 (by decide) ?_
      refine j_idiv dX2_fitsStreet_54 (by decide) ?_
      refine j_callV0 (q0 := 0) (As := [.int x1, .int (x1 / 3)]) (st := []) ml_X2_flowAt vl_X2_40 dX2_fitsStreet_55 rfl rfl rfl (Nat.le_of_ble_eq_true rfl) ⟨by decide, by decide⟩ rfl rfl (Nat.le_of_ble_eq_true rfl) (J.mono (fun v_ w_ hp_ => ?_) H)
      obtain ⟨r_4, rfl, rfl, H⟩ := hp_
      refine j_bipush (v := (-101)) dX2_fitsStreet_58 (by decide) ?_
      refine j_icmp_eq (tgt := 67) dX2_fitsStreet_60 (by decide) (fun c_5 => ?_) (fun c_5 => ?_)
      · have H := H.1 c_5
        refine j_iconst (v := 0) dX2_fitsStreet_67 (by decide) ?_
        exact j_zret dX2_fitsStreet_68 rfl (by decide) H
      · have H := H.2 c_5
        refine j_iconst (v := 1) dX2_fitsStreet_63 (by decide) ?_
        refine j_goto (tgt := 68) dX2_fitsStreet_64 (by decide) ?_
        exact j_zret dX2_fitsStreet_68 rfl (by decide) H
    · have H := H.2.2 hx
      refine j_aload_n 0 dX2_fitsStreet_69 rfl rfl ?_
      refine j_get 0 fl_X2_9 dX2_fitsStreet_70 rfl rfl ?_
      refine j_iload_n 1 dX2_fitsStreet_73 rfl rfl ?_
      obtain ⟨h_6, H⟩ := H
      refine j_iald 1 dX2_fitsStreet_74 rfl h_6 ?_
      refine j_bipush (v := 44) dX2_fitsStreet_75 (by decide) ?_
      refine j_icmp_ne (tgt := 84) dX2_fitsStreet_77 (by decide) (fun c_7 => ?_) (fun c_7 => ?_)
      · have H := H.1 c_7
        refine j_iconst (v := 0) dX2_fitsStreet_84 (by decide) ?_
        exact j_zret dX2_fitsStreet_85 rfl (by decide) H
      · have H := H.2 c_7
        refine j_iconst (v := 1) dX2_fitsStreet_80 (by decide) ?_
        refine j_goto (tgt := 85) dX2_fitsStreet_81 (by decide) ?_
        exact j_zret dX2_fitsStreet_85 rfl (by decide) H
  · have H := H.2 c_1
    refine j_iconst (v := 0) dX2_fitsStreet_6 (by decide) ?_
    exact j_zret dX2_fitsStreet_7 rfl (by decide) H
set_option maxRecDepth 20000 in
theorem sg_X2_fitsWord_0 {G : GG} {ad : Nat → Nat} {pf : Nat → Int32} {pn : Int32} {x1 : Int32} {Q : Option Value → va_W → Prop} (H : (((8 ≤ x1) → Q (some (.int 0)) (pgW G ad 0 pf pn)) ∧ ((¬ 8 ≤ x1) → (vp_in x1 20) ∧ J G mX6_isLetter 0 [(0, .int ((pf (Int32.toNatClampNeg x1)) - 97))] [] ([] : va_W) (fun v_ w_ => ∃ (r_3 : Int32), v_ = some (.int r_3) ∧ w_ = ([] : va_W) ∧ (((r_3 = 0) → Q (some (.int 0)) (pgW G ad 0 pf pn)) ∧ ((¬ r_3 = 0) → Q (some (.int 1)) (pgW G ad 0 pf pn))))))) : J G mX2_fitsWord 0 [(0, .ref (ad 0)), (1, .int x1)] [] (pgW G ad 0 pf pn) Q := by
  refine j_iload_n 1 dX2_fitsWord_0 rfl rfl ?_
  refine j_bipush (v := 8) dX2_fitsWord_1 (by decide) ?_
  refine j_icmp_ge (tgt := 25) dX2_fitsWord_3 (by decide) (fun c_1 => ?_) (fun c_1 => ?_)
  · have H := H.1 c_1
    refine j_iconst (v := 0) dX2_fitsWord_25 (by decide) ?_
    exact j_zret dX2_fitsWord_26 rfl (by decide) H
  · have H := H.2 c_1
    refine j_aload_n 0 dX2_fitsWord_6 rfl rfl ?_
    refine j_get 0 fl_X2_9 dX2_fitsWord_7 rfl rfl ?_
    refine j_iload_n 1 dX2_fitsWord_10 rfl rfl ?_
    obtain ⟨h_2, H⟩ := H
    refine j_iald 1 dX2_fitsWord_11 rfl h_2 ?_
    refine j_bipush (v := 97) dX2_fitsWord_12 (by decide) ?_
    refine j_isub dX2_fitsWord_14 ?_
    refine j_callSN0 (As := [.int ((pf (Int32.toNatClampNeg x1)) - 97)]) (st := []) ml_X6_isLetter sl_X2_44 dX2_fitsWord_15 (Nat.le_of_ble_eq_true rfl) ⟨by decide, by decide⟩ rfl rfl (Nat.le_of_ble_eq_true rfl) (J.mono (fun v_ w_ hp_ => ?_) H)
    obtain ⟨r_3, rfl, rfl, H⟩ := hp_
    refine j_if_eq (tgt := 25) dX2_fitsWord_18 (by decide) (fun c_4 => ?_) (fun c_4 => ?_)
    · have H := H.1 c_4
      refine j_iconst (v := 0) dX2_fitsWord_25 (by decide) ?_
      exact j_zret dX2_fitsWord_26 rfl (by decide) H
    · have H := H.2 c_4
      refine j_iconst (v := 1) dX2_fitsWord_21 (by decide) ?_
      refine j_goto (tgt := 26) dX2_fitsWord_22 (by decide) ?_
      exact j_zret dX2_fitsWord_26 rfl (by decide) H
set_option maxRecDepth 20000 in
theorem sg_X2_firstFault_0 {G : GG} {ad : Nat → Nat} {pf : Nat → Int32} {pn : Int32} {x1 : Int32} {Q : Option Value → va_W → Prop} (H : J G mX2_firstFault 2 [(0, .ref (ad 0)), (1, .int x1), (2, .int 0)] [] (pgW G ad 0 pf pn) Q) : J G mX2_firstFault 0 [(0, .ref (ad 0)), (1, .int x1)] [] (pgW G ad 0 pf pn) Q := by
  refine j_iconst (v := 0) dX2_firstFault_0 (by decide) ?_
  refine j_istore_n (lo' := [(2, .int 0), (0, .ref (ad 0)), (1, .int x1)]) dX2_firstFault_1 rfl (by decide) rfl ?_
  refine j_lo [1, 2, 0] rfl ?_
  exact H
set_option maxRecDepth 20000 in
theorem sg_X2_firstFault_2 {G : GG} {ad : Nat → Nat} {pf : Nat → Int32} {pn : Int32} {x1 : Int32} {x2 : Int32} {Q : Option Value → va_W → Prop} (H : (((pn ≤ x2) → Q (some (.int pn)) (pgW G ad 0 pf pn)) ∧ ((¬ pn ≤ x2) → (((¬ x1 = 0) → J G mX2_fitsWord 0 [(0, .ref (ad 0)), (1, .int x2)] [] (pgW G ad 0 pf pn) (fun v_ w_ => ∃ (r_3 : Int32), v_ = some (.int r_3) ∧ w_ = (pgW G ad 0 pf pn) ∧ (((¬ r_3 = 0) → J G mX2_firstFault 2 [(0, .ref (ad 0)), (1, .int x1), (2, .int (x2 + 1))] [] (pgW G ad 0 pf pn) Q) ∧ ((r_3 = 0) → Q (some (.int x2)) (pgW G ad 0 pf pn))))) ∧ ((x1 = 0) → J G mX2_fitsStreet 0 [(0, .ref (ad 0)), (1, .int x2)] [] (pgW G ad 0 pf pn) (fun v_ w_ => ∃ (r_5 : Int32), v_ = some (.int r_5) ∧ w_ = (pgW G ad 0 pf pn) ∧ (((¬ r_5 = 0) → J G mX2_firstFault 2 [(0, .ref (ad 0)), (1, .int x1), (2, .int (x2 + 1))] [] (pgW G ad 0 pf pn) Q) ∧ ((r_5 = 0) → Q (some (.int x2)) (pgW G ad 0 pf pn))))))))) : J G mX2_firstFault 2 [(0, .ref (ad 0)), (1, .int x1), (2, .int x2)] [] (pgW G ad 0 pf pn) Q := by
  refine j_iload_n 2 dX2_firstFault_2 rfl rfl ?_
  refine j_aload_n 0 dX2_firstFault_3 rfl rfl ?_
  refine j_get 0 fl_X2_15 dX2_firstFault_4 rfl rfl ?_
  refine j_icmp_ge (tgt := 40) dX2_firstFault_7 (by decide) (fun c_1 => ?_) (fun c_1 => ?_)
  · have H := H.1 c_1
    refine j_aload_n 0 dX2_firstFault_40 rfl rfl ?_
    refine j_get 0 fl_X2_15 dX2_firstFault_41 rfl rfl ?_
    exact j_iret dX2_firstFault_44 rfl H
  · have H := H.2 c_1
    refine j_iload_n 1 dX2_firstFault_10 rfl rfl ?_
    refine j_if_ne (tgt := 22) dX2_firstFault_11 (by decide) (fun c_2 => ?_) (fun c_2 => ?_)
    · have H := H.1 c_2
      refine j_aload_n 0 dX2_firstFault_22 rfl rfl ?_
      refine j_iload_n 2 dX2_firstFault_23 rfl rfl ?_
      refine j_callV0 (q0 := 0) (As := [.int x2]) (st := []) ml_X2_fitsWord vl_X2_23 dX2_firstFault_24 rfl rfl rfl (Nat.le_of_ble_eq_true rfl) ⟨by decide, by decide⟩ rfl rfl (Nat.le_of_ble_eq_true rfl) (J.mono (fun v_ w_ hp_ => ?_) H)
      obtain ⟨r_3, rfl, rfl, H⟩ := hp_
      refine j_istore_n (lo' := [(3, .int r_3), (0, .ref (ad 0)), (1, .int x1), (2, .int x2)]) dX2_firstFault_27 rfl (by decide) rfl ?_
      refine j_iload_n 0 dX2_firstFault_28 rfl rfl ?_
      refine j_if_ne (tgt := 34) dX2_firstFault_29 (by decide) (fun c_4 => ?_) (fun c_4 => ?_)
      · have H := H.1 c_4
        refine j_iinc (v := (x2 + 1)) (lo' := [(2, .int (x2 + 1)), (3, .int r_3), (0, .ref (ad 0)), (1, .int x1)]) 3 dX2_firstFault_34 rfl rfl (by decide) rfl ?_
        refine j_goto (tgt := 2) dX2_firstFault_37 (by decide) ?_
        refine j_lo [2, 3, 0] rfl ?_
        exact H
      · have H := H.2 c_4
        refine j_iload_n 3 dX2_firstFault_32 rfl rfl ?_
        exact j_iret dX2_firstFault_33 rfl H
    · have H := H.2 c_2
      refine j_aload_n 0 dX2_firstFault_14 rfl rfl ?_
      refine j_iload_n 2 dX2_firstFault_15 rfl rfl ?_
      refine j_callV0 (q0 := 0) (As := [.int x2]) (st := []) ml_X2_fitsStreet vl_X2_19 dX2_firstFault_16 rfl rfl rfl (Nat.le_of_ble_eq_true rfl) ⟨by decide, by decide⟩ rfl rfl (Nat.le_of_ble_eq_true rfl) (J.mono (fun v_ w_ hp_ => ?_) H)
      obtain ⟨r_5, rfl, rfl, H⟩ := hp_
      refine j_goto (tgt := 27) dX2_firstFault_19 (by decide) ?_
      refine j_istore_n (lo' := [(3, .int r_5), (0, .ref (ad 0)), (1, .int x1), (2, .int x2)]) dX2_firstFault_27 rfl (by decide) rfl ?_
      refine j_iload_n 0 dX2_firstFault_28 rfl rfl ?_
      refine j_if_ne (tgt := 34) dX2_firstFault_29 (by decide) (fun c_6 => ?_) (fun c_6 => ?_)
      · have H := H.1 c_6
        refine j_iinc (v := (x2 + 1)) (lo' := [(2, .int (x2 + 1)), (3, .int r_5), (0, .ref (ad 0)), (1, .int x1)]) 3 dX2_firstFault_34 rfl rfl (by decide) rfl ?_
        refine j_goto (tgt := 2) dX2_firstFault_37 (by decide) ?_
        refine j_lo [2, 3, 0] rfl ?_
        exact H
      · have H := H.2 c_6
        refine j_iload_n 3 dX2_firstFault_32 rfl rfl ?_
        exact j_iret dX2_firstFault_33 rfl H
set_option maxRecDepth 20000 in
theorem sg_X2_isStreet_0 {G : GG} {ad : Nat → Nat} {pf : Nat → Int32} {pn : Int32} {Q : Option Value → va_W → Prop} (H : (((¬ pn = 17) → Q (some (.int 0)) (pgW G ad 0 pf pn)) ∧ ((pn = 17) → J G mX2_firstFault 0 [(0, .ref (ad 0)), (1, .int 0)] [] (pgW G ad 0 pf pn) (fun v_ w_ => ∃ (r_2 : Int32), v_ = some (.int r_2) ∧ w_ = (pgW G ad 0 pf pn) ∧ (((¬ r_2 = pn) → Q (some (.int 0)) (pgW G ad 0 pf pn)) ∧ ((r_2 = pn) → Q (some (.int 1)) (pgW G ad 0 pf pn))))))) : J G mX2_isStreet 0 [(0, .ref (ad 0))] [] (pgW G ad 0 pf pn) Q := by
  refine j_aload_n 0 dX2_isStreet_0 rfl rfl ?_
  refine j_get 0 fl_X2_15 dX2_isStreet_1 rfl rfl ?_
  refine j_bipush (v := 17) dX2_isStreet_4 (by decide) ?_
  refine j_icmp_ne (tgt := 25) dX2_isStreet_6 (by decide) (fun c_1 => ?_) (fun c_1 => ?_)
  · have H := H.1 c_1
    refine j_iconst (v := 0) dX2_isStreet_25 (by decide) ?_
    exact j_zret dX2_isStreet_26 rfl (by decide) H
  · have H := H.2 c_1
    refine j_aload_n 0 dX2_isStreet_9 rfl rfl ?_
    refine j_iconst (v := 0) dX2_isStreet_10 (by decide) ?_
    refine j_callV0 (q0 := 0) (As := [.int 0]) (st := []) ml_X2_firstFault vl_X2_26 dX2_isStreet_11 rfl rfl rfl (Nat.le_of_ble_eq_true rfl) ⟨by decide, by decide⟩ rfl rfl (Nat.le_of_ble_eq_true rfl) (J.mono (fun v_ w_ hp_ => ?_) H)
    obtain ⟨r_2, rfl, rfl, H⟩ := hp_
    refine j_aload_n 0 dX2_isStreet_14 rfl rfl ?_
    refine j_get 0 fl_X2_15 dX2_isStreet_15 rfl rfl ?_
    refine j_icmp_ne (tgt := 25) dX2_isStreet_18 (by decide) (fun c_3 => ?_) (fun c_3 => ?_)
    · have H := H.1 c_3
      refine j_iconst (v := 0) dX2_isStreet_25 (by decide) ?_
      exact j_zret dX2_isStreet_26 rfl (by decide) H
    · have H := H.2 c_3
      refine j_iconst (v := 1) dX2_isStreet_21 (by decide) ?_
      refine j_goto (tgt := 26) dX2_isStreet_22 (by decide) ?_
      exact j_zret dX2_isStreet_26 rfl (by decide) H
set_option maxRecDepth 20000 in
theorem sg_X2_isWord_0 {G : GG} {ad : Nat → Nat} {pf : Nat → Int32} {pn : Int32} {Q : Option Value → va_W → Prop} (H : (((pn ≤ 0) → Q (some (.int 0)) (pgW G ad 0 pf pn)) ∧ ((¬ pn ≤ 0) → J G mX2_firstFault 0 [(0, .ref (ad 0)), (1, .int 1)] [] (pgW G ad 0 pf pn) (fun v_ w_ => ∃ (r_2 : Int32), v_ = some (.int r_2) ∧ w_ = (pgW G ad 0 pf pn) ∧ (((¬ r_2 = pn) → Q (some (.int 0)) (pgW G ad 0 pf pn)) ∧ ((r_2 = pn) → Q (some (.int 1)) (pgW G ad 0 pf pn))))))) : J G mX2_isWord 0 [(0, .ref (ad 0))] [] (pgW G ad 0 pf pn) Q := by
  refine j_aload_n 0 dX2_isWord_0 rfl rfl ?_
  refine j_get 0 fl_X2_15 dX2_isWord_1 rfl rfl ?_
  refine j_if_le (tgt := 23) dX2_isWord_4 (by decide) (fun c_1 => ?_) (fun c_1 => ?_)
  · have H := H.1 c_1
    refine j_iconst (v := 0) dX2_isWord_23 (by decide) ?_
    exact j_zret dX2_isWord_24 rfl (by decide) H
  · have H := H.2 c_1
    refine j_aload_n 0 dX2_isWord_7 rfl rfl ?_
    refine j_iconst (v := 1) dX2_isWord_8 (by decide) ?_
    refine j_callV0 (q0 := 0) (As := [.int 1]) (st := []) ml_X2_firstFault vl_X2_26 dX2_isWord_9 rfl rfl rfl (Nat.le_of_ble_eq_true rfl) ⟨by decide, by decide⟩ rfl rfl (Nat.le_of_ble_eq_true rfl) (J.mono (fun v_ w_ hp_ => ?_) H)
    obtain ⟨r_2, rfl, rfl, H⟩ := hp_
    refine j_aload_n 0 dX2_isWord_12 rfl rfl ?_
    refine j_get 0 fl_X2_15 dX2_isWord_13 rfl rfl ?_
    refine j_icmp_ne (tgt := 23) dX2_isWord_16 (by decide) (fun c_3 => ?_) (fun c_3 => ?_)
    · have H := H.1 c_3
      refine j_iconst (v := 0) dX2_isWord_23 (by decide) ?_
      exact j_zret dX2_isWord_24 rfl (by decide) H
    · have H := H.2 c_3
      refine j_iconst (v := 1) dX2_isWord_19 (by decide) ?_
      refine j_goto (tgt := 24) dX2_isWord_20 (by decide) ?_
      exact j_zret dX2_isWord_24 rfl (by decide) H
set_option maxRecDepth 20000 in
theorem sg_X4_clear_0 {G : GG} {ad : Nat → Nat} {u : Nat → Nat → Int32} {d : Nat → Nat → Int32} {Q : Option Value → va_W → Prop} (H : J G mJ7_fill_53178 0 [(0, .ref ((pk ad [3]) 0)), (1, .int (-1))] [] (arW G (pk ad [3]) 0 6 (u 2)) (fun v_ w_ => ∃ (f_1 : Nat → Int32), v_ = none ∧ w_ = (arW G (pk ad [3]) 0 6 f_1) ∧ J G mJ7_fill_53178 0 [(0, .ref ((pk ad [4]) 0)), (1, .int 0)] [] (arW G (pk ad [4]) 0 6 (u 3)) (fun v_ w_ => ∃ (f_2 : Nat → Int32), v_ = none ∧ w_ = (arW G (pk ad [4]) 0 6 f_2) ∧ J G mJ7_fill_53178 0 [(0, .ref ((pk ad [5]) 0)), (1, .int 0)] [] (arW G (pk ad [5]) 0 6 (u 4)) (fun v_ w_ => ∃ (f_3 : Nat → Int32), v_ = none ∧ w_ = (arW G (pk ad [5]) 0 6 f_3) ∧ J G mJ7_fill_53178 0 [(0, .ref ((pk ad [6]) 0)), (1, .int 0)] [] (arW G (pk ad [6]) 0 6 (u 5)) (fun v_ w_ => ∃ (f_4 : Nat → Int32), v_ = none ∧ w_ = (arW G (pk ad [6]) 0 6 f_4) ∧ J G mJ7_fill_53178 0 [(0, .ref ((pk ad [7]) 0)), (1, .int 0)] [] (arW G (pk ad [7]) 0 6 (u 6)) (fun v_ w_ => ∃ (f_5 : Nat → Int32), v_ = none ∧ w_ = (arW G (pk ad [7]) 0 6 f_5) ∧ Q none (stW G ad 0 (va_up (va_up (va_up (va_up (va_up u 2 f_1) 3 f_2) 4 f_3) 5 f_4) 6 f_5) d))))))) : J G mX4_clear 0 [(0, .ref (ad 0))] [] (stW G ad 0 u d) Q := by
  refine j_aload_n 0 dX4_clear_0 rfl rfl ?_
  refine j_get 0 fl_X4_18 dX4_clear_1 rfl rfl ?_
  refine j_iconst (v := (-1)) dX4_clear_4 (by decide) ?_
  refine j_callS (wc := (arW G (pk ad [3]) 0 6 (u 2))) (As := [.ref ((pk ad [3]) 0), .int (-1)]) (st := []) ml_J7_fill_53178 sl_X4_38 dX4_clear_5 [none, none, none, some 0] ⟨rfl, Nat.le_of_ble_eq_true rfl, rfl, rfl⟩ (Nat.le_of_ble_eq_true rfl) ⟨by decide, by decide⟩ rfl rfl (Nat.le_of_ble_eq_true rfl) (J.mono (fun v_ w_ hp_ => ?_) H)
  obtain ⟨f_1, rfl, rfl, H⟩ := hp_
  refine j_w (w' := (stW G ad 0 (va_up u 2 f_1) d)) rfl ?_
  refine j_aload_n 0 dX4_clear_8 rfl rfl ?_
  refine j_get 0 fl_X4_21 dX4_clear_9 rfl rfl ?_
  refine j_iconst (v := 0) dX4_clear_12 (by decide) ?_
  refine j_callS (wc := (arW G (pk ad [4]) 0 6 (u 3))) (As := [.ref ((pk ad [4]) 0), .int 0]) (st := []) ml_J7_fill_53178 sl_X4_38 dX4_clear_13 [none, none, none, none, some 0] ⟨rfl, Nat.le_of_ble_eq_true rfl, rfl, rfl⟩ (Nat.le_of_ble_eq_true rfl) ⟨by decide, by decide⟩ rfl rfl (Nat.le_of_ble_eq_true rfl) (J.mono (fun v_ w_ hp_ => ?_) H)
  obtain ⟨f_2, rfl, rfl, H⟩ := hp_
  refine j_w (w' := (stW G ad 0 (va_up (va_up u 2 f_1) 3 f_2) d)) rfl ?_
  refine j_aload_n 0 dX4_clear_16 rfl rfl ?_
  refine j_get 0 fl_X4_24 dX4_clear_17 rfl rfl ?_
  refine j_iconst (v := 0) dX4_clear_20 (by decide) ?_
  refine j_callS (wc := (arW G (pk ad [5]) 0 6 (u 4))) (As := [.ref ((pk ad [5]) 0), .int 0]) (st := []) ml_J7_fill_53178 sl_X4_38 dX4_clear_21 [none, none, none, none, none, some 0] ⟨rfl, Nat.le_of_ble_eq_true rfl, rfl, rfl⟩ (Nat.le_of_ble_eq_true rfl) ⟨by decide, by decide⟩ rfl rfl (Nat.le_of_ble_eq_true rfl) (J.mono (fun v_ w_ hp_ => ?_) H)
  obtain ⟨f_3, rfl, rfl, H⟩ := hp_
  refine j_w (w' := (stW G ad 0 (va_up (va_up (va_up u 2 f_1) 3 f_2) 4 f_3) d)) rfl ?_
  refine j_aload_n 0 dX4_clear_24 rfl rfl ?_
  refine j_get 0 fl_X4_27 dX4_clear_25 rfl rfl ?_
  refine j_iconst (v := 0) dX4_clear_28 (by decide) ?_
  refine j_callS (wc := (arW G (pk ad [6]) 0 6 (u 5))) (As := [.ref ((pk ad [6]) 0), .int 0]) (st := []) ml_J7_fill_53178 sl_X4_38 dX4_clear_29 [none, none, none, none, none, none, some 0] ⟨rfl, Nat.le_of_ble_eq_true rfl, rfl, rfl⟩ (Nat.le_of_ble_eq_true rfl) ⟨by decide, by decide⟩ rfl rfl (Nat.le_of_ble_eq_true rfl) (J.mono (fun v_ w_ hp_ => ?_) H)
  obtain ⟨f_4, rfl, rfl, H⟩ := hp_
  refine j_w (w' := (stW G ad 0 (va_up (va_up (va_up (va_up u 2 f_1) 3 f_2) 4 f_3) 5 f_4) d)) rfl ?_
  refine j_aload_n 0 dX4_clear_32 rfl rfl ?_
  refine j_get 0 fl_X4_30 dX4_clear_33 rfl rfl ?_
  refine j_iconst (v := 0) dX4_clear_36 (by decide) ?_
  refine j_callS (wc := (arW G (pk ad [7]) 0 6 (u 6))) (As := [.ref ((pk ad [7]) 0), .int 0]) (st := []) ml_J7_fill_53178 sl_X4_38 dX4_clear_37 [none, none, none, none, none, none, none, some 0] ⟨rfl, Nat.le_of_ble_eq_true rfl, rfl, rfl⟩ (Nat.le_of_ble_eq_true rfl) ⟨by decide, by decide⟩ rfl rfl (Nat.le_of_ble_eq_true rfl) (J.mono (fun v_ w_ hp_ => ?_) H)
  obtain ⟨f_5, rfl, rfl, H⟩ := hp_
  refine j_w (w' := (stW G ad 0 (va_up (va_up (va_up (va_up (va_up u 2 f_1) 3 f_2) 4 f_3) 5 f_4) 6 f_5) d)) rfl ?_
  exact j_vret dX4_clear_40 rfl H
set_option maxRecDepth 20000 in
theorem sg_X4_layLike_0 {G : GG} {ad : Nat → Nat} {u : Nat → Nat → Int32} {d : Nat → Nat → Int32} {u1 : Nat → Nat → Int32} {d1 : Nat → Nat → Int32} {Q : Option Value → va_W → Prop} (H : J G mX4_clear 0 [(0, .ref ((pk ad [0, 1, 2, 3, 4, 5, 6, 7, 8, 9, 10, 11, 12, 13, 14]) 0))] [] (stW G (pk ad [0, 1, 2, 3, 4, 5, 6, 7, 8, 9, 10, 11, 12, 13, 14]) 0 (va_up (va_up u 0 (va_cpy (u1 0) (u 0) 0 0 6)) 1 (va_cpy (u1 1) (u 1) 0 0 6)) d) (fun v_ w_ => ∃ (u_1 : Nat → Nat → Int32), v_ = none ∧ w_ = (stW G (pk ad [0, 1, 2, 3, 4, 5, 6, 7, 8, 9, 10, 11, 12, 13, 14]) 0 u_1 d) ∧ Q none (stW G ad 0 u_1 d ++ (stW G ad 15 u1 d1)))) : J G mX4_layLike 0 [(0, .ref (ad 0)), (1, .ref (ad 15))] [] (stW G ad 0 u d ++ (stW G ad 15 u1 d1)) Q := by
  refine j_aload_n 1 dX4_layLike_0 rfl rfl ?_
  refine j_get 15 fl_X4_9 dX4_layLike_1 rfl rfl ?_
  refine j_iconst (v := 0) dX4_layLike_4 (by decide) ?_
  refine j_aload_n 0 dX4_layLike_5 rfl rfl ?_
  refine j_get 0 fl_X4_9 dX4_layLike_6 rfl rfl ?_
  refine j_iconst (v := 0) dX4_layLike_9 (by decide) ?_
  refine j_bipush (v := 6) dX4_layLike_10 (by decide) ?_
  refine j_cpy (w' := (stW G ad 0 (va_up u 0 (va_cpy (u1 0) (u 0) 0 0 6)) d ++ (stW G ad 15 u1 d1))) 16 1 0 0 6 ac_X4_44 dX4_layLike_12 rfl rfl (by decide) (by decide) (by decide) (by decide) (Nat.le_of_ble_eq_true rfl) rfl ?_
  refine j_aload_n 1 dX4_layLike_15 rfl rfl ?_
  refine j_get 15 fl_X4_15 dX4_layLike_16 rfl rfl ?_
  refine j_iconst (v := 0) dX4_layLike_19 (by decide) ?_
  refine j_aload_n 0 dX4_layLike_20 rfl rfl ?_
  refine j_get 0 fl_X4_15 dX4_layLike_21 rfl rfl ?_
  refine j_iconst (v := 0) dX4_layLike_24 (by decide) ?_
  refine j_bipush (v := 6) dX4_layLike_25 (by decide) ?_
  refine j_cpy (w' := (stW G ad 0 (va_up (va_up u 0 (va_cpy (u1 0) (u 0) 0 0 6)) 1 (va_cpy (u1 1) (u 1) 0 0 6)) d ++ (stW G ad 15 u1 d1))) 17 2 0 0 6 ac_X4_44 dX4_layLike_27 rfl rfl (by decide) (by decide) (by decide) (by decide) (Nat.le_of_ble_eq_true rfl) rfl ?_
  refine j_aload_n 0 dX4_layLike_30 rfl rfl ?_
  refine j_callV (q0 := 0) (wc := (stW G (pk ad [0, 1, 2, 3, 4, 5, 6, 7, 8, 9, 10, 11, 12, 13, 14]) 0 (va_up (va_up u 0 (va_cpy (u1 0) (u 0) 0 0 6)) 1 (va_cpy (u1 1) (u 1) 0 0 6)) d)) (As := []) (st := []) ml_X4_clear vl_X4_50 dX4_layLike_31 [some 0, some 1, some 2, some 3, some 4, some 5, some 6, some 7, some 8, some 9, some 10, some 11, some 12, some 13, some 14] ⟨rfl, Nat.le_of_ble_eq_true rfl, rfl, rfl⟩ rfl rfl rfl (Nat.le_of_ble_eq_true rfl) ⟨by decide, by decide⟩ rfl rfl (Nat.le_of_ble_eq_true rfl) (J.mono (fun v_ w_ hp_ => ?_) H)
  obtain ⟨u_1, rfl, rfl, H⟩ := hp_
  refine j_w (w' := (stW G ad 0 u_1 d ++ (stW G ad 15 u1 d1))) rfl ?_
  exact j_vret dX4_layLike_34 rfl H
set_option maxRecDepth 20000 in
theorem sg_X4_takeAll_0 {G : GG} {ad : Nat → Nat} {u : Nat → Nat → Int32} {d : Nat → Nat → Int32} {u1 : Nat → Nat → Int32} {d1 : Nat → Nat → Int32} {Q : Option Value → va_W → Prop} (H : J G mX4_layLike 0 [(0, .ref (ad 0)), (1, .ref (ad 15))] [] (stW G ad 0 u d ++ (stW G ad 15 u1 d1)) (fun v_ w_ => ∃ (u_1 : Nat → Nat → Int32), v_ = none ∧ w_ = (stW G ad 0 u_1 d ++ (stW G ad 15 u1 d1)) ∧ J G mX4_takeAll 82 [(0, .ref (ad 0)), (1, .ref (ad 15)), (2, .int 0)] [] (stW G ad 0 (va_up (va_up (va_up (va_up (va_up u_1 2 (va_cpy (u1 2) (u_1 2) 0 0 6)) 3 (va_cpy (u1 3) (u_1 3) 0 0 6)) 4 (va_cpy (u1 4) (u_1 4) 0 0 6)) 5 (va_cpy (u1 5) (u_1 5) 0 0 6)) 6 (va_cpy (u1 6) (u_1 6) 0 0 6)) d ++ (stW G ad 15 u1 d1)) Q)) : J G mX4_takeAll 0 [(0, .ref (ad 0)), (1, .ref (ad 15))] [] (stW G ad 0 u d ++ (stW G ad 15 u1 d1)) Q := by
  refine j_aload_n 0 dX4_takeAll_0 rfl rfl ?_
  refine j_aload_n 1 dX4_takeAll_1 rfl rfl ?_
  refine j_callV0 (q0 := 0) (As := [.ref (ad 15)]) (st := []) ml_X4_layLike vl_X4_53 dX4_takeAll_2 rfl rfl rfl (Nat.le_of_ble_eq_true rfl) ⟨by decide, by decide⟩ rfl rfl (Nat.le_of_ble_eq_true rfl) (J.mono (fun v_ w_ hp_ => ?_) H)
  obtain ⟨u_1, rfl, rfl, H⟩ := hp_
  refine j_aload_n 1 dX4_takeAll_5 rfl rfl ?_
  refine j_get 15 fl_X4_18 dX4_takeAll_6 rfl rfl ?_
  refine j_iconst (v := 0) dX4_takeAll_9 (by decide) ?_
  refine j_aload_n 0 dX4_takeAll_10 rfl rfl ?_
  refine j_get 0 fl_X4_18 dX4_takeAll_11 rfl rfl ?_
  refine j_iconst (v := 0) dX4_takeAll_14 (by decide) ?_
  refine j_bipush (v := 6) dX4_takeAll_15 (by decide) ?_
  refine j_cpy (w' := (stW G ad 0 (va_up u_1 2 (va_cpy (u1 2) (u_1 2) 0 0 6)) d ++ (stW G ad 15 u1 d1))) 18 3 0 0 6 ac_X4_44 dX4_takeAll_17 rfl rfl (by decide) (by decide) (by decide) (by decide) (Nat.le_of_ble_eq_true rfl) rfl ?_
  refine j_aload_n 1 dX4_takeAll_20 rfl rfl ?_
  refine j_get 15 fl_X4_21 dX4_takeAll_21 rfl rfl ?_
  refine j_iconst (v := 0) dX4_takeAll_24 (by decide) ?_
  refine j_aload_n 0 dX4_takeAll_25 rfl rfl ?_
  refine j_get 0 fl_X4_21 dX4_takeAll_26 rfl rfl ?_
  refine j_iconst (v := 0) dX4_takeAll_29 (by decide) ?_
  refine j_bipush (v := 6) dX4_takeAll_30 (by decide) ?_
  refine j_cpy (w' := (stW G ad 0 (va_up (va_up u_1 2 (va_cpy (u1 2) (u_1 2) 0 0 6)) 3 (va_cpy (u1 3) (u_1 3) 0 0 6)) d ++ (stW G ad 15 u1 d1))) 19 4 0 0 6 ac_X4_44 dX4_takeAll_32 rfl rfl (by decide) (by decide) (by decide) (by decide) (Nat.le_of_ble_eq_true rfl) rfl ?_
  refine j_aload_n 1 dX4_takeAll_35 rfl rfl ?_
  refine j_get 15 fl_X4_24 dX4_takeAll_36 rfl rfl ?_
  refine j_iconst (v := 0) dX4_takeAll_39 (by decide) ?_
  refine j_aload_n 0 dX4_takeAll_40 rfl rfl ?_
  refine j_get 0 fl_X4_24 dX4_takeAll_41 rfl rfl ?_
  refine j_iconst (v := 0) dX4_takeAll_44 (by decide) ?_
  refine j_bipush (v := 6) dX4_takeAll_45 (by decide) ?_
  refine j_cpy (w' := (stW G ad 0 (va_up (va_up (va_up u_1 2 (va_cpy (u1 2) (u_1 2) 0 0 6)) 3 (va_cpy (u1 3) (u_1 3) 0 0 6)) 4 (va_cpy (u1 4) (u_1 4) 0 0 6)) d ++ (stW G ad 15 u1 d1))) 20 5 0 0 6 ac_X4_44 dX4_takeAll_47 rfl rfl (by decide) (by decide) (by decide) (by decide) (Nat.le_of_ble_eq_true rfl) rfl ?_
  refine j_aload_n 1 dX4_takeAll_50 rfl rfl ?_
  refine j_get 15 fl_X4_27 dX4_takeAll_51 rfl rfl ?_
  refine j_iconst (v := 0) dX4_takeAll_54 (by decide) ?_
  refine j_aload_n 0 dX4_takeAll_55 rfl rfl ?_
  refine j_get 0 fl_X4_27 dX4_takeAll_56 rfl rfl ?_
  refine j_iconst (v := 0) dX4_takeAll_59 (by decide) ?_
  refine j_bipush (v := 6) dX4_takeAll_60 (by decide) ?_
  refine j_cpy (w' := (stW G ad 0 (va_up (va_up (va_up (va_up u_1 2 (va_cpy (u1 2) (u_1 2) 0 0 6)) 3 (va_cpy (u1 3) (u_1 3) 0 0 6)) 4 (va_cpy (u1 4) (u_1 4) 0 0 6)) 5 (va_cpy (u1 5) (u_1 5) 0 0 6)) d ++ (stW G ad 15 u1 d1))) 21 6 0 0 6 ac_X4_44 dX4_takeAll_62 rfl rfl (by decide) (by decide) (by decide) (by decide) (Nat.le_of_ble_eq_true rfl) rfl ?_
  refine j_aload_n 1 dX4_takeAll_65 rfl rfl ?_
  refine j_get 15 fl_X4_30 dX4_takeAll_66 rfl rfl ?_
  refine j_iconst (v := 0) dX4_takeAll_69 (by decide) ?_
  refine j_aload_n 0 dX4_takeAll_70 rfl rfl ?_
  refine j_get 0 fl_X4_30 dX4_takeAll_71 rfl rfl ?_
  refine j_iconst (v := 0) dX4_takeAll_74 (by decide) ?_
  refine j_bipush (v := 6) dX4_takeAll_75 (by decide) ?_
  refine j_cpy (w' := (stW G ad 0 (va_up (va_up (va_up (va_up (va_up u_1 2 (va_cpy (u1 2) (u_1 2) 0 0 6)) 3 (va_cpy (u1 3) (u_1 3) 0 0 6)) 4 (va_cpy (u1 4) (u_1 4) 0 0 6)) 5 (va_cpy (u1 5) (u_1 5) 0 0 6)) 6 (va_cpy (u1 6) (u_1 6) 0 0 6)) d ++ (stW G ad 15 u1 d1))) 22 7 0 0 6 ac_X4_44 dX4_takeAll_77 rfl rfl (by decide) (by decide) (by decide) (by decide) (Nat.le_of_ble_eq_true rfl) rfl ?_
  refine j_iconst (v := 0) dX4_takeAll_80 (by decide) ?_
  refine j_istore_n (lo' := [(2, .int 0), (0, .ref (ad 0)), (1, .ref (ad 15))]) dX4_takeAll_81 rfl (by decide) rfl ?_
  refine j_lo [1, 2, 0] rfl ?_
  exact H
set_option maxRecDepth 20000 in
theorem sg_X4_takeAll_82 {G : GG} {ad : Nat → Nat} {u : Nat → Nat → Int32} {d : Nat → Nat → Int32} {u1 : Nat → Nat → Int32} {d1 : Nat → Nat → Int32} {x2 : Int32} {Q : Option Value → va_W → Prop} (H : (((6 ≤ x2) → Q none (stW G ad 0 u d ++ (stW G ad 15 u1 d1))) ∧ ((¬ 6 ≤ x2) → (vp_in x2 6) ∧ (vp_in x2 6) ∧ J G mX4_takeAll 82 [(0, .ref (ad 0)), (1, .ref (ad 15)), (2, .int (x2 + 1))] [] (stW G ad 0 u (va_up d (Int32.toNatClampNeg x2) (va_cpy (d1 (Int32.toNatClampNeg x2)) (d (Int32.toNatClampNeg x2)) 0 0 12)) ++ (stW G ad 15 u1 d1)) Q))) : J G mX4_takeAll 82 [(0, .ref (ad 0)), (1, .ref (ad 15)), (2, .int x2)] [] (stW G ad 0 u d ++ (stW G ad 15 u1 d1)) Q := by
  refine j_iload_n 2 dX4_takeAll_82 rfl rfl ?_
  refine j_bipush (v := 6) dX4_takeAll_83 (by decide) ?_
  refine j_icmp_ge (tgt := 113) dX4_takeAll_85 (by decide) (fun c_1 => ?_) (fun c_1 => ?_)
  · have H := H.1 c_1
    exact j_vret dX4_takeAll_113 rfl H
  · have H := H.2 c_1
    refine j_aload_n 1 dX4_takeAll_88 rfl rfl ?_
    refine j_get 15 fl_X4_35 dX4_takeAll_89 rfl rfl ?_
    refine j_iload_n 2 dX4_takeAll_92 rfl rfl ?_
    obtain ⟨h_2, H⟩ := H
    refine j_aald 23 dX4_takeAll_93 rfl h_2 (ow_rf h_2) ?_
    refine j_iconst (v := 0) dX4_takeAll_94 (by decide) ?_
    refine j_aload_n 0 dX4_takeAll_95 rfl rfl ?_
    refine j_get 0 fl_X4_35 dX4_takeAll_96 rfl rfl ?_
    refine j_iload_n 2 dX4_takeAll_99 rfl rfl ?_
    obtain ⟨h_3, H⟩ := H
    refine j_aald 8 dX4_takeAll_100 rfl h_3 (ow_rf h_3) ?_
    refine j_iconst (v := 0) dX4_takeAll_101 (by decide) ?_
    refine j_bipush (v := 12) dX4_takeAll_102 (by decide) ?_
    refine j_cpy (w' := (stW G ad 0 u (va_up d (Int32.toNatClampNeg x2) (va_cpy (d1 (Int32.toNatClampNeg x2)) (d (Int32.toNatClampNeg x2)) 0 0 12)) ++ (stW G ad 15 u1 d1))) (24 + (Int32.toNatClampNeg x2)) (9 + (Int32.toNatClampNeg x2)) 0 0 12 ac_X4_44 dX4_takeAll_104 (row6 (P := fun k_ => (stW G ad 0 u d ++ (stW G ad 15 u1 d1))[24 + k_]? = some (ad (24 + k_), .inl (G.2.1.1, 12, .inl (d1 k_)))) rfl rfl rfl rfl rfl rfl (in_lt h_2)) (row6 (P := fun k_ => (stW G ad 0 u d ++ (stW G ad 15 u1 d1))[9 + k_]? = some (ad (9 + k_), .inl (G.2.1.1, 12, .inl (d k_)))) rfl rfl rfl rfl rfl rfl (in_lt h_3)) (by decide) (by decide) (by decide) (by decide) (Nat.le_of_ble_eq_true rfl) (row6 (P := fun k_ => (stW G ad 0 u d ++ (stW G ad 15 u1 d1)).set (9 + k_) (ad (9 + k_), .inl (G.2.1.1, 12, .inl (va_cpy (d1 (Int32.toNatClampNeg x2)) (d k_) 0 0 12))) = (stW G ad 0 u (va_up d k_ (va_cpy (d1 (Int32.toNatClampNeg x2)) (d k_) 0 0 12)) ++ (stW G ad 15 u1 d1))) rfl rfl rfl rfl rfl rfl (in_lt h_3)) ?_
    refine j_iinc (v := (x2 + 1)) (lo' := [(2, .int (x2 + 1)), (0, .ref (ad 0)), (1, .ref (ad 15))]) 2 dX4_takeAll_107 rfl rfl (by decide) rfl ?_
    refine j_goto (tgt := 82) dX4_takeAll_110 (by decide) ?_
    refine j_lo [1, 2, 0] rfl ?_
    exact H
set_option maxRecDepth 20000 in
theorem sg_X3_takeAll_0 {G : GG} {ad : Nat → Nat} {u : Nat → Nat → Int32} {d : Nat → Nat → Int32} {g : Nat → Int32} {l : Nat → Int32} {n : Int32} {fn : Nat → Int32} {fd : Nat → Nat → Int32} {u1 : Nat → Nat → Int32} {d1 : Nat → Nat → Int32} {g1 : Nat → Int32} {l1 : Nat → Int32} {n1 : Int32} {fn1 : Nat → Int32} {fd1 : Nat → Nat → Int32} {Q : Option Value → va_W → Prop} (H : J G mX4_takeAll 0 [(0, .ref ((pk ad [1, 2, 3, 4, 5, 6, 7, 8, 9, 10, 11, 12, 13, 14, 15, 29, 30, 31, 32, 33, 34, 35, 36, 37, 38, 39, 40, 41, 42, 43]) 0)), (1, .ref ((pk ad [1, 2, 3, 4, 5, 6, 7, 8, 9, 10, 11, 12, 13, 14, 15, 29, 30, 31, 32, 33, 34, 35, 36, 37, 38, 39, 40, 41, 42, 43]) 15))] [] (stW G (pk ad [1, 2, 3, 4, 5, 6, 7, 8, 9, 10, 11, 12, 13, 14, 15, 29, 30, 31, 32, 33, 34, 35, 36, 37, 38, 39, 40, 41, 42, 43]) 0 u d ++ (stW G (pk ad [1, 2, 3, 4, 5, 6, 7, 8, 9, 10, 11, 12, 13, 14, 15, 29, 30, 31, 32, 33, 34, 35, 36, 37, 38, 39, 40, 41, 42, 43]) 15 u1 d1)) (fun v_ w_ => ∃ (d_1 : Nat → Nat → Int32) (u_2 : Nat → Nat → Int32), v_ = none ∧ w_ = (stW G (pk ad [1, 2, 3, 4, 5, 6, 7, 8, 9, 10, 11, 12, 13, 14, 15, 29, 30, 31, 32, 33, 34, 35, 36, 37, 38, 39, 40, 41, 42, 43]) 0 u_2 d_1 ++ (stW G (pk ad [1, 2, 3, 4, 5, 6, 7, 8, 9, 10, 11, 12, 13, 14, 15, 29, 30, 31, 32, 33, 34, 35, 36, 37, 38, 39, 40, 41, 42, 43]) 15 u1 d1)) ∧ J G mX0_takeAll 0 [(0, .ref ((pk ad [16, 17, 18, 44, 45, 46]) 0)), (1, .ref ((pk ad [16, 17, 18, 44, 45, 46]) 3))] [] (faW G (pk ad [16, 17, 18, 44, 45, 46]) 0 g l n ++ (faW G (pk ad [16, 17, 18, 44, 45, 46]) 3 g1 l1 n1)) (fun v_ w_ => ∃ (g_3 : Nat → Int32) (l_4 : Nat → Int32) (n_5 : Int32), v_ = none ∧ w_ = (faW G (pk ad [16, 17, 18, 44, 45, 46]) 0 g_3 l_4 n_5 ++ (faW G (pk ad [16, 17, 18, 44, 45, 46]) 3 g1 l1 n1)) ∧ J G mX1_takeAll 0 [(0, .ref ((pk ad [19, 20, 21, 22, 23, 24, 25, 26, 27, 47, 48, 49, 50, 51, 52, 53, 54, 55]) 0)), (1, .ref ((pk ad [19, 20, 21, 22, 23, 24, 25, 26, 27, 47, 48, 49, 50, 51, 52, 53, 54, 55]) 9))] [] (fiW G (pk ad [19, 20, 21, 22, 23, 24, 25, 26, 27, 47, 48, 49, 50, 51, 52, 53, 54, 55]) 0 fn fd ++ (fiW G (pk ad [19, 20, 21, 22, 23, 24, 25, 26, 27, 47, 48, 49, 50, 51, 52, 53, 54, 55]) 9 fn1 fd1)) (fun v_ w_ => ∃ (fd_6 : Nat → Nat → Int32) (fn_7 : Nat → Int32), v_ = none ∧ w_ = (fiW G (pk ad [19, 20, 21, 22, 23, 24, 25, 26, 27, 47, 48, 49, 50, 51, 52, 53, 54, 55]) 0 fn_7 fd_6 ++ (fiW G (pk ad [19, 20, 21, 22, 23, 24, 25, 26, 27, 47, 48, 49, 50, 51, 52, 53, 54, 55]) 9 fn1 fd1)) ∧ Q none (scW G ad 0 u_2 d_1 g_3 l_4 n_5 fn_7 fd_6 ++ (scW G ad 28 u1 d1 g1 l1 n1 fn1 fd1)))))) : J G mX3_takeAll 0 [(0, .ref (ad 0)), (1, .ref (ad 28))] [] (scW G ad 0 u d g l n fn fd ++ (scW G ad 28 u1 d1 g1 l1 n1 fn1 fd1)) Q := by
  refine j_aload_n 0 dX3_takeAll_0 rfl rfl ?_
  refine j_get 0 fl_X3_10 dX3_takeAll_1 rfl rfl ?_
  refine j_aload_n 1 dX3_takeAll_4 rfl rfl ?_
  refine j_get 28 fl_X3_10 dX3_takeAll_5 rfl rfl ?_
  refine j_callV (q0 := 0) (wc := (stW G (pk ad [1, 2, 3, 4, 5, 6, 7, 8, 9, 10, 11, 12, 13, 14, 15, 29, 30, 31, 32, 33, 34, 35, 36, 37, 38, 39, 40, 41, 42, 43]) 0 u d ++ (stW G (pk ad [1, 2, 3, 4, 5, 6, 7, 8, 9, 10, 11, 12, 13, 14, 15, 29, 30, 31, 32, 33, 34, 35, 36, 37, 38, 39, 40, 41, 42, 43]) 15 u1 d1))) (As := [.ref ((pk ad [1, 2, 3, 4, 5, 6, 7, 8, 9, 10, 11, 12, 13, 14, 15, 29, 30, 31, 32, 33, 34, 35, 36, 37, 38, 39, 40, 41, 42, 43]) 15)]) (st := []) ml_X4_takeAll vl_X3_30 dX3_takeAll_8 [none, some 0, some 1, some 2, some 3, some 4, some 5, some 6, some 7, some 8, some 9, some 10, some 11, some 12, some 13, some 14, none, none, none, none, none, none, none, none, none, none, none, none, none, some 15, some 16, some 17, some 18, some 19, some 20, some 21, some 22, some 23, some 24, some 25, some 26, some 27, some 28, some 29] ⟨rfl, Nat.le_of_ble_eq_true rfl, rfl, rfl⟩ rfl rfl rfl (Nat.le_of_ble_eq_true rfl) ⟨by decide, by decide⟩ rfl rfl (Nat.le_of_ble_eq_true rfl) (J.mono (fun v_ w_ hp_ => ?_) H)
  obtain ⟨d_1, u_2, rfl, rfl, H⟩ := hp_
  refine j_w (w' := (scW G ad 0 u_2 d_1 g l n fn fd ++ (scW G ad 28 u1 d1 g1 l1 n1 fn1 fd1))) rfl ?_
  refine j_aload_n 0 dX3_takeAll_11 rfl rfl ?_
  refine j_get 0 fl_X3_19 dX3_takeAll_12 rfl rfl ?_
  refine j_aload_n 1 dX3_takeAll_15 rfl rfl ?_
  refine j_get 28 fl_X3_19 dX3_takeAll_16 rfl rfl ?_
  refine j_callV (q0 := 0) (wc := (faW G (pk ad [16, 17, 18, 44, 45, 46]) 0 g l n ++ (faW G (pk ad [16, 17, 18, 44, 45, 46]) 3 g1 l1 n1))) (As := [.ref ((pk ad [16, 17, 18, 44, 45, 46]) 3)]) (st := []) ml_X0_takeAll vl_X3_34 dX3_takeAll_19 [none, none, none, none, none, none, none, none, none, none, none, none, none, none, none, none, some 0, some 1, some 2, none, none, none, none, none, none, none, none, none, none, none, none, none, none, none, none, none, none, none, none, none, none, none, none, none, some 3, some 4, some 5] ⟨rfl, Nat.le_of_ble_eq_true rfl, rfl, rfl⟩ rfl rfl rfl (Nat.le_of_ble_eq_true rfl) ⟨by decide, by decide⟩ rfl rfl (Nat.le_of_ble_eq_true rfl) (J.mono (fun v_ w_ hp_ => ?_) H)
  obtain ⟨g_3, l_4, n_5, rfl, rfl, H⟩ := hp_
  refine j_w (w' := (scW G ad 0 u_2 d_1 g_3 l_4 n_5 fn fd ++ (scW G ad 28 u1 d1 g1 l1 n1 fn1 fd1))) rfl ?_
  refine j_aload_n 0 dX3_takeAll_22 rfl rfl ?_
  refine j_get 0 fl_X3_26 dX3_takeAll_23 rfl rfl ?_
  refine j_aload_n 1 dX3_takeAll_26 rfl rfl ?_
  refine j_get 28 fl_X3_26 dX3_takeAll_27 rfl rfl ?_
  refine j_callV (q0 := 0) (wc := (fiW G (pk ad [19, 20, 21, 22, 23, 24, 25, 26, 27, 47, 48, 49, 50, 51, 52, 53, 54, 55]) 0 fn fd ++ (fiW G (pk ad [19, 20, 21, 22, 23, 24, 25, 26, 27, 47, 48, 49, 50, 51, 52, 53, 54, 55]) 9 fn1 fd1))) (As := [.ref ((pk ad [19, 20, 21, 22, 23, 24, 25, 26, 27, 47, 48, 49, 50, 51, 52, 53, 54, 55]) 9)]) (st := []) ml_X1_takeAll vl_X3_37 dX3_takeAll_30 [none, none, none, none, none, none, none, none, none, none, none, none, none, none, none, none, none, none, none, some 0, some 1, some 2, some 3, some 4, some 5, some 6, some 7, some 8, none, none, none, none, none, none, none, none, none, none, none, none, none, none, none, none, none, none, none, some 9, some 10, some 11, some 12, some 13, some 14, some 15, some 16, some 17] ⟨rfl, Nat.le_of_ble_eq_true rfl, rfl, rfl⟩ rfl rfl rfl (Nat.le_of_ble_eq_true rfl) ⟨by decide, by decide⟩ rfl rfl (Nat.le_of_ble_eq_true rfl) (J.mono (fun v_ w_ hp_ => ?_) H)
  obtain ⟨fd_6, fn_7, rfl, rfl, H⟩ := hp_
  refine j_w (w' := (scW G ad 0 u_2 d_1 g_3 l_4 n_5 fn_7 fd_6 ++ (scW G ad 28 u1 d1 g1 l1 n1 fn1 fd1))) rfl ?_
  exact j_vret dX3_takeAll_33 rfl H
set_option maxRecDepth 20000 in
theorem sg_X4_countOut_0 {G : GG} {ad : Nat → Nat} {u : Nat → Nat → Int32} {d : Nat → Nat → Int32} {Q : Option Value → va_W → Prop} (H : J G mX4_countOut 13 [(0, .ref (ad 0)), (1, .int 0), (2, .ref (ad 2)), (3, .int 6), (4, .int 0)] [] (stW G ad 0 u d) Q) : J G mX4_countOut 0 [(0, .ref (ad 0))] [] (stW G ad 0 u d) Q := by
  refine j_iconst (v := 0) dX4_countOut_0 (by decide) ?_
  refine j_istore_n (lo' := [(1, .int 0), (0, .ref (ad 0))]) dX4_countOut_1 rfl (by decide) rfl ?_
  refine j_aload_n 1 dX4_countOut_2 rfl rfl ?_
  refine j_get 0 fl_X4_15 dX4_countOut_3 rfl rfl ?_
  refine j_astore_n (lo' := [(2, .ref (ad 2)), (1, .int 0), (0, .ref (ad 0))]) dX4_countOut_6 rfl (by decide) rfl ?_
  refine j_aload_n 0 dX4_countOut_7 rfl rfl ?_
  refine j_alen (v := 6) 2 dX4_countOut_8 rfl (by decide) ?_
  refine j_istore_n (lo' := [(3, .int 6), (2, .ref (ad 2)), (1, .int 0), (0, .ref (ad 0))]) dX4_countOut_9 rfl (by decide) rfl ?_
  refine j_iconst (v := 0) dX4_countOut_10 (by decide) ?_
  refine j_istore (lo' := [(4, .int 0), (3, .int 6), (2, .ref (ad 2)), (1, .int 0), (0, .ref (ad 0))]) dX4_countOut_11 (by decide) rfl ?_
  refine j_lo [4, 3, 2, 1, 0] rfl ?_
  exact H
set_option maxRecDepth 20000 in
theorem sg_X4_countOut_13 {G : GG} {ad : Nat → Nat} {u : Nat → Nat → Int32} {d : Nat → Nat → Int32} {x1 : Int32} {x3 : Int32} {x4 : Int32} {Q : Option Value → va_W → Prop} (H : (((x3 ≤ x4) → Q (some (.int x1)) (stW G ad 0 u d)) ∧ ((¬ x3 ≤ x4) → (vp_in x4 6) ∧ (((¬ ((u 1) (Int32.toNatClampNeg x4)) = (-1)) → J G mX4_countOut 13 [(0, .ref (ad 0)), (1, .int (x1 + 0)), (2, .ref (ad 2)), (3, .int x3), (4, .int (x4 + 1))] [] (stW G ad 0 u d) Q) ∧ ((((u 1) (Int32.toNatClampNeg x4)) = (-1)) → J G mX4_countOut 13 [(0, .ref (ad 0)), (1, .int (x1 + 1)), (2, .ref (ad 2)), (3, .int x3), (4, .int (x4 + 1))] [] (stW G ad 0 u d) Q))))) : J G mX4_countOut 13 [(0, .ref (ad 0)), (1, .int x1), (2, .ref (ad 2)), (3, .int x3), (4, .int x4)] [] (stW G ad 0 u d) Q := by
  refine j_iload 4 dX4_countOut_13 rfl ?_
  refine j_iload_n 3 dX4_countOut_15 rfl rfl ?_
  refine j_icmp_ge (tgt := 45) dX4_countOut_16 (by decide) (fun c_1 => ?_) (fun c_1 => ?_)
  · have H := H.1 c_1
    refine j_iload_n 1 dX4_countOut_45 rfl rfl ?_
    exact j_iret dX4_countOut_46 rfl H
  · have H := H.2 c_1
    refine j_aload_n 2 dX4_countOut_19 rfl rfl ?_
    refine j_iload 4 dX4_countOut_20 rfl ?_
    obtain ⟨h_2, H⟩ := H
    refine j_iald 2 dX4_countOut_22 rfl h_2 ?_
    refine j_istore (lo' := [(5, .int ((u 1) (Int32.toNatClampNeg x4))), (0, .ref (ad 0)), (1, .int x1), (2, .ref (ad 2)), (3, .int x3), (4, .int x4)]) dX4_countOut_23 (by decide) rfl ?_
    refine j_iload_n 2 dX4_countOut_25 rfl rfl ?_
    refine j_iload 0 dX4_countOut_26 rfl ?_
    refine j_iconst (v := (-1)) dX4_countOut_28 (by decide) ?_
    refine j_icmp_ne (tgt := 36) dX4_countOut_29 (by decide) (fun c_3 => ?_) (fun c_3 => ?_)
    · have H := H.1 c_3
      refine j_iconst (v := 0) dX4_countOut_36 (by decide) ?_
      refine j_iadd dX4_countOut_37 ?_
      refine j_istore_n (lo' := [(1, .int (x1 + 0)), (5, .int ((u 1) (Int32.toNatClampNeg x4))), (0, .ref (ad 0)), (2, .ref (ad 2)), (3, .int x3), (4, .int x4)]) dX4_countOut_38 rfl (by decide) rfl ?_
      refine j_iinc (v := (x4 + 1)) (lo' := [(4, .int (x4 + 1)), (1, .int (x1 + 0)), (5, .int ((u 1) (Int32.toNatClampNeg x4))), (0, .ref (ad 0)), (2, .ref (ad 2)), (3, .int x3)]) 5 dX4_countOut_39 rfl rfl (by decide) rfl ?_
      refine j_goto (tgt := 13) dX4_countOut_42 (by decide) ?_
      refine j_lo [3, 1, 4, 5, 0] rfl ?_
      exact H
    · have H := H.2 c_3
      refine j_iconst (v := 1) dX4_countOut_32 (by decide) ?_
      refine j_goto (tgt := 37) dX4_countOut_33 (by decide) ?_
      refine j_iadd dX4_countOut_37 ?_
      refine j_istore_n (lo' := [(1, .int (x1 + 1)), (5, .int ((u 1) (Int32.toNatClampNeg x4))), (0, .ref (ad 0)), (2, .ref (ad 2)), (3, .int x3), (4, .int x4)]) dX4_countOut_38 rfl (by decide) rfl ?_
      refine j_iinc (v := (x4 + 1)) (lo' := [(4, .int (x4 + 1)), (1, .int (x1 + 1)), (5, .int ((u 1) (Int32.toNatClampNeg x4))), (0, .ref (ad 0)), (2, .ref (ad 2)), (3, .int x3)]) 5 dX4_countOut_39 rfl rfl (by decide) rfl ?_
      refine j_goto (tgt := 13) dX4_countOut_42 (by decide) ?_
      refine j_lo [3, 1, 4, 5, 0] rfl ?_
      exact H
set_option maxRecDepth 20000 in
theorem sg_X4_flowBy_0 {G : GG} {ad : Nat → Nat} {u : Nat → Nat → Int32} {d : Nat → Nat → Int32} {x1 : Int32} {Q : Option Value → va_W → Prop} (H : J G mX4_flowBy 4 [(0, .ref (ad 0)), (1, .int x1), (2, .int x1), (3, .int 0)] [] (stW G ad 0 u d) Q) : J G mX4_flowBy 0 [(0, .ref (ad 0)), (1, .int x1)] [] (stW G ad 0 u d) Q := by
  refine j_iload_n 1 dX4_flowBy_0 rfl rfl ?_
  refine j_istore_n (lo' := [(2, .int x1), (0, .ref (ad 0)), (1, .int x1)]) dX4_flowBy_1 rfl (by decide) rfl ?_
  refine j_iconst (v := 0) dX4_flowBy_2 (by decide) ?_
  refine j_istore_n (lo' := [(3, .int 0), (2, .int x1), (0, .ref (ad 0)), (1, .int x1)]) dX4_flowBy_3 rfl (by decide) rfl ?_
  refine j_lo [2, 3, 1, 0] rfl ?_
  exact H
set_option maxRecDepth 20000 in
theorem sg_X4_flowBy_4 {G : GG} {ad : Nat → Nat} {u : Nat → Nat → Int32} {d : Nat → Nat → Int32} {x1 : Int32} {x2 : Int32} {x3 : Int32} {Q : Option Value → va_W → Prop} (H : (((6 ≤ x3) → Q none (stW G ad 0 u d)) ∧ ((¬ 6 ≤ x3) → (¬ (6 - x3) = (0 : Int32)) ∧ (¬ (6 - x3) = (0 : Int32)) ∧ (((¬ (x2 - x2 / (6 - x3) * (6 - x3)) = 0) → (vp_in x3 6) ∧ J G mX4_flowBy 4 [(0, .ref (ad 0)), (1, .int x1), (2, .int (x2 / (6 - x3))), (3, .int (x3 + 1))] [] (stW G ad 0 (va_up u 1 (upd (u 1) (Int32.toNatClampNeg x3) (x3 + (x2 - x2 / (6 - x3) * (6 - x3))))) d) Q) ∧ (((x2 - x2 / (6 - x3) * (6 - x3)) = 0) → (vp_in x3 6) ∧ J G mX4_flowBy 4 [(0, .ref (ad 0)), (1, .int x1), (2, .int (x2 / (6 - x3))), (3, .int (x3 + 1))] [] (stW G ad 0 (va_up u 1 (upd (u 1) (Int32.toNatClampNeg x3) (-1))) d) Q))))) : J G mX4_flowBy 4 [(0, .ref (ad 0)), (1, .int x1), (2, .int x2), (3, .int x3)] [] (stW G ad 0 u d) Q := by
  refine j_iload_n 3 dX4_flowBy_4 rfl rfl ?_
  refine j_bipush (v := 6) dX4_flowBy_5 (by decide) ?_
  refine j_icmp_ge (tgt := 52) dX4_flowBy_7 (by decide) (fun c_1 => ?_) (fun c_1 => ?_)
  · have H := H.1 c_1
    exact j_vret dX4_flowBy_52 rfl H
  · have H := H.2 c_1
    refine j_bipush (v := 6) dX4_flowBy_10 (by decide) ?_
    refine j_iload_n 3 dX4_flowBy_12 rfl rfl ?_
    refine j_isub dX4_flowBy_13 ?_
    refine j_istore (lo' := [(4, .int (6 - x3)), (0, .ref (ad 0)), (1, .int x1), (2, .int x2), (3, .int x3)]) dX4_flowBy_14 (by decide) rfl ?_
    refine j_iload_n 3 dX4_flowBy_16 rfl rfl ?_
    refine j_iload 0 dX4_flowBy_17 rfl ?_
    obtain ⟨h_2, H⟩ := H
    refine j_irem dX4_flowBy_19 h_2 ?_
    refine j_istore (lo' := [(5, .int (x2 - x2 / (6 - x3) * (6 - x3))), (4, .int (6 - x3)), (0, .ref (ad 0)), (1, .int x1), (2, .int x2), (3, .int x3)]) dX4_flowBy_20 (by decide) rfl ?_
    refine j_iload_n 4 dX4_flowBy_22 rfl rfl ?_
    refine j_iload 1 dX4_flowBy_23 rfl ?_
    obtain ⟨h_3, H⟩ := H
    refine j_idiv dX4_flowBy_25 h_3 ?_
    refine j_istore_n (lo' := [(2, .int (x2 / (6 - x3))), (5, .int (x2 - x2 / (6 - x3) * (6 - x3))), (4, .int (6 - x3)), (0, .ref (ad 0)), (1, .int x1), (3, .int x3)]) dX4_flowBy_26 rfl (by decide) rfl ?_
    refine j_aload_n 3 dX4_flowBy_27 rfl rfl ?_
    refine j_get 0 fl_X4_15 dX4_flowBy_28 rfl rfl ?_
    refine j_iload_n 5 dX4_flowBy_31 rfl rfl ?_
    refine j_iload 1 dX4_flowBy_32 rfl ?_
    refine j_if_ne (tgt := 41) dX4_flowBy_34 (by decide) (fun c_4 => ?_) (fun c_4 => ?_)
    · have H := H.1 c_4
      refine j_iload_n 5 dX4_flowBy_41 rfl rfl ?_
      refine j_iload 1 dX4_flowBy_42 rfl ?_
      refine j_iadd dX4_flowBy_44 ?_
      obtain ⟨h_5, H⟩ := H
      refine j_iast (w' := (stW G ad 0 (va_up u 1 (upd (u 1) (Int32.toNatClampNeg x3) (x3 + (x2 - x2 / (6 - x3) * (6 - x3))))) d)) 2 dX4_flowBy_45 rfl h_5 rfl ?_
      refine j_iinc (v := (x3 + 1)) (lo' := [(3, .int (x3 + 1)), (2, .int (x2 / (6 - x3))), (5, .int (x2 - x2 / (6 - x3) * (6 - x3))), (4, .int (6 - x3)), (0, .ref (ad 0)), (1, .int x1)]) 5 dX4_flowBy_46 rfl rfl (by decide) rfl ?_
      refine j_goto (tgt := 4) dX4_flowBy_49 (by decide) ?_
      refine j_lo [4, 5, 1, 0] rfl ?_
      exact H
    · have H := H.2 c_4
      refine j_iconst (v := (-1)) dX4_flowBy_37 (by decide) ?_
      refine j_goto (tgt := 45) dX4_flowBy_38 (by decide) ?_
      obtain ⟨h_6, H⟩ := H
      refine j_iast (w' := (stW G ad 0 (va_up u 1 (upd (u 1) (Int32.toNatClampNeg x3) (-1))) d)) 2 dX4_flowBy_45 rfl h_6 rfl ?_
      refine j_iinc (v := (x3 + 1)) (lo' := [(3, .int (x3 + 1)), (2, .int (x2 / (6 - x3))), (5, .int (x2 - x2 / (6 - x3) * (6 - x3))), (4, .int (6 - x3)), (0, .ref (ad 0)), (1, .int x1)]) 5 dX4_flowBy_46 rfl rfl (by decide) rfl ?_
      refine j_goto (tgt := 4) dX4_flowBy_49 (by decide) ?_
      refine j_lo [4, 5, 1, 0] rfl ?_
      exact H
set_option maxRecDepth 20000 in
theorem sg_X4_fullBowls_0 {G : GG} {ad : Nat → Nat} {u : Nat → Nat → Int32} {d : Nat → Nat → Int32} {Q : Option Value → va_W → Prop} (H : J G mX4_fullBowls 4 [(0, .ref (ad 0)), (1, .int 0), (2, .int 0)] [] (stW G ad 0 u d) Q) : J G mX4_fullBowls 0 [(0, .ref (ad 0))] [] (stW G ad 0 u d) Q := by
  refine j_iconst (v := 0) dX4_fullBowls_0 (by decide) ?_
  refine j_istore_n (lo' := [(1, .int 0), (0, .ref (ad 0))]) dX4_fullBowls_1 rfl (by decide) rfl ?_
  refine j_iconst (v := 0) dX4_fullBowls_2 (by decide) ?_
  refine j_istore_n (lo' := [(2, .int 0), (1, .int 0), (0, .ref (ad 0))]) dX4_fullBowls_3 rfl (by decide) rfl ?_
  refine j_lo [2, 1, 0] rfl ?_
  exact H
set_option maxRecDepth 20000 in
theorem sg_X4_fullBowls_4 {G : GG} {ad : Nat → Nat} {u : Nat → Nat → Int32} {d : Nat → Nat → Int32} {x1 : Int32} {x2 : Int32} {Q : Option Value → va_W → Prop} (H : (((6 ≤ x2) → Q (some (.int x1)) (stW G ad 0 u d)) ∧ ((¬ 6 ≤ x2) → (vp_in x2 6) ∧ (((¬ ((u 0) (Int32.toNatClampNeg x2)) = 1) → J G mX4_fullBowls 4 [(0, .ref (ad 0)), (1, .int (x1 + 0)), (2, .int (x2 + 1))] [] (stW G ad 0 u d) Q) ∧ ((((u 0) (Int32.toNatClampNeg x2)) = 1) → (vp_in x2 6) ∧ (((((u 2) (Int32.toNatClampNeg x2)) = (-1)) → J G mX4_fullBowls 4 [(0, .ref (ad 0)), (1, .int (x1 + 0)), (2, .int (x2 + 1))] [] (stW G ad 0 u d) Q) ∧ ((¬ ((u 2) (Int32.toNatClampNeg x2)) = (-1)) → J G mX4_fullBowls 4 [(0, .ref (ad 0)), (1, .int (x1 + 1)), (2, .int (x2 + 1))] [] (stW G ad 0 u d) Q))))))) : J G mX4_fullBowls 4 [(0, .ref (ad 0)), (1, .int x1), (2, .int x2)] [] (stW G ad 0 u d) Q := by
  refine j_iload_n 2 dX4_fullBowls_4 rfl rfl ?_
  refine j_bipush (v := 6) dX4_fullBowls_5 (by decide) ?_
  refine j_icmp_ge (tgt := 44) dX4_fullBowls_7 (by decide) (fun c_1 => ?_) (fun c_1 => ?_)
  · have H := H.1 c_1
    refine j_iload_n 1 dX4_fullBowls_44 rfl rfl ?_
    exact j_iret dX4_fullBowls_45 rfl H
  · have H := H.2 c_1
    refine j_iload_n 1 dX4_fullBowls_10 rfl rfl ?_
    refine j_aload_n 0 dX4_fullBowls_11 rfl rfl ?_
    refine j_get 0 fl_X4_9 dX4_fullBowls_12 rfl rfl ?_
    refine j_iload_n 2 dX4_fullBowls_15 rfl rfl ?_
    obtain ⟨h_2, H⟩ := H
    refine j_iald 1 dX4_fullBowls_16 rfl h_2 ?_
    refine j_iconst (v := 1) dX4_fullBowls_17 (by decide) ?_
    refine j_icmp_ne (tgt := 35) dX4_fullBowls_18 (by decide) (fun c_3 => ?_) (fun c_3 => ?_)
    · have H := H.1 c_3
      refine j_iconst (v := 0) dX4_fullBowls_35 (by decide) ?_
      refine j_iadd dX4_fullBowls_36 ?_
      refine j_istore_n (lo' := [(1, .int (x1 + 0)), (0, .ref (ad 0)), (2, .int x2)]) dX4_fullBowls_37 rfl (by decide) rfl ?_
      refine j_iinc (v := (x2 + 1)) (lo' := [(2, .int (x2 + 1)), (1, .int (x1 + 0)), (0, .ref (ad 0))]) 2 dX4_fullBowls_38 rfl rfl (by decide) rfl ?_
      refine j_goto (tgt := 4) dX4_fullBowls_41 (by decide) ?_
      refine j_lo [2, 1, 0] rfl ?_
      exact H
    · have H := H.2 c_3
      refine j_aload_n 0 dX4_fullBowls_21 rfl rfl ?_
      refine j_get 0 fl_X4_18 dX4_fullBowls_22 rfl rfl ?_
      refine j_iload_n 2 dX4_fullBowls_25 rfl rfl ?_
      obtain ⟨h_4, H⟩ := H
      refine j_iald 3 dX4_fullBowls_26 rfl h_4 ?_
      refine j_iconst (v := (-1)) dX4_fullBowls_27 (by decide) ?_
      refine j_icmp_eq (tgt := 35) dX4_fullBowls_28 (by decide) (fun c_5 => ?_) (fun c_5 => ?_)
      · have H := H.1 c_5
        refine j_iconst (v := 0) dX4_fullBowls_35 (by decide) ?_
        refine j_iadd dX4_fullBowls_36 ?_
        refine j_istore_n (lo' := [(1, .int (x1 + 0)), (0, .ref (ad 0)), (2, .int x2)]) dX4_fullBowls_37 rfl (by decide) rfl ?_
        refine j_iinc (v := (x2 + 1)) (lo' := [(2, .int (x2 + 1)), (1, .int (x1 + 0)), (0, .ref (ad 0))]) 2 dX4_fullBowls_38 rfl rfl (by decide) rfl ?_
        refine j_goto (tgt := 4) dX4_fullBowls_41 (by decide) ?_
        refine j_lo [2, 1, 0] rfl ?_
        exact H
      · have H := H.2 c_5
        refine j_iconst (v := 1) dX4_fullBowls_31 (by decide) ?_
        refine j_goto (tgt := 36) dX4_fullBowls_32 (by decide) ?_
        refine j_iadd dX4_fullBowls_36 ?_
        refine j_istore_n (lo' := [(1, .int (x1 + 1)), (0, .ref (ad 0)), (2, .int x2)]) dX4_fullBowls_37 rfl (by decide) rfl ?_
        refine j_iinc (v := (x2 + 1)) (lo' := [(2, .int (x2 + 1)), (1, .int (x1 + 1)), (0, .ref (ad 0))]) 2 dX4_fullBowls_38 rfl rfl (by decide) rfl ?_
        refine j_goto (tgt := 4) dX4_fullBowls_41 (by decide) ?_
        refine j_lo [2, 1, 0] rfl ?_
        exact H
set_option maxRecDepth 20000 in
theorem sg_X4_letsThrough_0 {G : GG} {ad : Nat → Nat} {u : Nat → Nat → Int32} {d : Nat → Nat → Int32} {x1 : Int32} {x2 : Int32} {Q : Option Value → va_W → Prop} (H : (vp_in x1 6) ∧ (((((u 2) (Int32.toNatClampNeg x1)) = x2) → (vp_in x1 6) ∧ (((((u 0) (Int32.toNatClampNeg x1)) = 2) → (vp_in x1 6) ∧ Q (some (.int 0)) (stW G ad 0 (va_up u 2 (upd (u 2) (Int32.toNatClampNeg x1) x2)) d)) ∧ ((((u 0) (Int32.toNatClampNeg x1)) = 3) → (((x2 = 0) → Q (some (.int 0)) (stW G ad 0 u d)) ∧ ((¬ x2 = 0) → (((x2 = 4) → Q (some (.int 0)) (stW G ad 0 u d)) ∧ ((¬ x2 = 4) → Q (some (.int 1)) (stW G ad 0 u d)))))) ∧ ((((u 0) (Int32.toNatClampNeg x1)) = 4) → (vp_in x1 6) ∧ (vp_in x1 6) ∧ ((((0 : Int32) = 0) → (vp_in x1 6) ∧ ((((0 : Int32) = 0) → Q (some (.int 0)) (stW G ad 0 (va_up (va_up u 2 (upd (u 2) (Int32.toNatClampNeg x1) x2)) 3 (upd (u 3) (Int32.toNatClampNeg x1) (((u 3) (Int32.toNatClampNeg x1)) + 0))) d)) ∧ ((¬ (0 : Int32) = 0) → (vp_in x1 6) ∧ (((¬ (((upd (u 3) (Int32.toNatClampNeg x1) (((u 3) (Int32.toNatClampNeg x1)) + 0)) (Int32.toNatClampNeg x1)) - ((upd (u 3) (Int32.toNatClampNeg x1) (((u 3) (Int32.toNatClampNeg x1)) + 0)) (Int32.toNatClampNeg x1)) / 2 * 2) = 1) → Q (some (.int 0)) (stW G ad 0 (va_up (va_up u 2 (upd (u 2) (Int32.toNatClampNeg x1) x2)) 3 (upd (u 3) (Int32.toNatClampNeg x1) (((u 3) (Int32.toNatClampNeg x1)) + 0))) d)) ∧ (((((upd (u 3) (Int32.toNatClampNeg x1) (((u 3) (Int32.toNatClampNeg x1)) + 0)) (Int32.toNatClampNeg x1)) - ((upd (u 3) (Int32.toNatClampNeg x1) (((u 3) (Int32.toNatClampNeg x1)) + 0)) (Int32.toNatClampNeg x1)) / 2 * 2) = 1) → Q (some (.int 1)) (stW G ad 0 (va_up (va_up u 2 (upd (u 2) (Int32.toNatClampNeg x1) x2)) 3 (upd (u 3) (Int32.toNatClampNeg x1) (((u 3) (Int32.toNatClampNeg x1)) + 0))) d)))))) ∧ ((¬ (0 : Int32) = 0) → (vp_in x1 6) ∧ ((((0 : Int32) = 0) → Q (some (.int 0)) (stW G ad 0 (va_up (va_up u 2 (upd (u 2) (Int32.toNatClampNeg x1) x2)) 3 (upd (u 3) (Int32.toNatClampNeg x1) (((u 3) (Int32.toNatClampNeg x1)) + 1))) d)) ∧ ((¬ (0 : Int32) = 0) → (vp_in x1 6) ∧ (((¬ (((upd (u 3) (Int32.toNatClampNeg x1) (((u 3) (Int32.toNatClampNeg x1)) + 1)) (Int32.toNatClampNeg x1)) - ((upd (u 3) (Int32.toNatClampNeg x1) (((u 3) (Int32.toNatClampNeg x1)) + 1)) (Int32.toNatClampNeg x1)) / 2 * 2) = 1) → Q (some (.int 0)) (stW G ad 0 (va_up (va_up u 2 (upd (u 2) (Int32.toNatClampNeg x1) x2)) 3 (upd (u 3) (Int32.toNatClampNeg x1) (((u 3) (Int32.toNatClampNeg x1)) + 1))) d)) ∧ (((((upd (u 3) (Int32.toNatClampNeg x1) (((u 3) (Int32.toNatClampNeg x1)) + 1)) (Int32.toNatClampNeg x1)) - ((upd (u 3) (Int32.toNatClampNeg x1) (((u 3) (Int32.toNatClampNeg x1)) + 1)) (Int32.toNatClampNeg x1)) / 2 * 2) = 1) → Q (some (.int 1)) (stW G ad 0 (va_up (va_up u 2 (upd (u 2) (Int32.toNatClampNeg x1) x2)) 3 (upd (u 3) (Int32.toNatClampNeg x1) (((u 3) (Int32.toNatClampNeg x1)) + 1))) d)))))))) ∧ ((¬ ((u 0) (Int32.toNatClampNeg x1)) = 2 ∧ ¬ ((u 0) (Int32.toNatClampNeg x1)) = 3 ∧ ¬ ((u 0) (Int32.toNatClampNeg x1)) = 4) → Q (some (.int 1)) (stW G ad 0 u d)))) ∧ ((¬ ((u 2) (Int32.toNatClampNeg x1)) = x2) → (vp_in x1 6) ∧ (((((u 0) (Int32.toNatClampNeg x1)) = 2) → (vp_in x1 6) ∧ Q (some (.int 1)) (stW G ad 0 (va_up u 2 (upd (u 2) (Int32.toNatClampNeg x1) x2)) d)) ∧ ((((u 0) (Int32.toNatClampNeg x1)) = 3) → (((x2 = 0) → Q (some (.int 0)) (stW G ad 0 u d)) ∧ ((¬ x2 = 0) → (((x2 = 4) → Q (some (.int 0)) (stW G ad 0 u d)) ∧ ((¬ x2 = 4) → Q (some (.int 1)) (stW G ad 0 u d)))))) ∧ ((((u 0) (Int32.toNatClampNeg x1)) = 4) → (vp_in x1 6) ∧ (vp_in x1 6) ∧ ((((1 : Int32) = 0) → (vp_in x1 6) ∧ ((((1 : Int32) = 0) → Q (some (.int 0)) (stW G ad 0 (va_up (va_up u 2 (upd (u 2) (Int32.toNatClampNeg x1) x2)) 3 (upd (u 3) (Int32.toNatClampNeg x1) (((u 3) (Int32.toNatClampNeg x1)) + 0))) d)) ∧ ((¬ (1 : Int32) = 0) → (vp_in x1 6) ∧ (((¬ (((upd (u 3) (Int32.toNatClampNeg x1) (((u 3) (Int32.toNatClampNeg x1)) + 0)) (Int32.toNatClampNeg x1)) - ((upd (u 3) (Int32.toNatClampNeg x1) (((u 3) (Int32.toNatClampNeg x1)) + 0)) (Int32.toNatClampNeg x1)) / 2 * 2) = 1) → Q (some (.int 0)) (stW G ad 0 (va_up (va_up u 2 (upd (u 2) (Int32.toNatClampNeg x1) x2)) 3 (upd (u 3) (Int32.toNatClampNeg x1) (((u 3) (Int32.toNatClampNeg x1)) + 0))) d)) ∧ (((((upd (u 3) (Int32.toNatClampNeg x1) (((u 3) (Int32.toNatClampNeg x1)) + 0)) (Int32.toNatClampNeg x1)) - ((upd (u 3) (Int32.toNatClampNeg x1) (((u 3) (Int32.toNatClampNeg x1)) + 0)) (Int32.toNatClampNeg x1)) / 2 * 2) = 1) → Q (some (.int 1)) (stW G ad 0 (va_up (va_up u 2 (upd (u 2) (Int32.toNatClampNeg x1) x2)) 3 (upd (u 3) (Int32.toNatClampNeg x1) (((u 3) (Int32.toNatClampNeg x1)) + 0))) d)))))) ∧ ((¬ (1 : Int32) = 0) → (vp_in x1 6) ∧ ((((1 : Int32) = 0) → Q (some (.int 0)) (stW G ad 0 (va_up (va_up u 2 (upd (u 2) (Int32.toNatClampNeg x1) x2)) 3 (upd (u 3) (Int32.toNatClampNeg x1) (((u 3) (Int32.toNatClampNeg x1)) + 1))) d)) ∧ ((¬ (1 : Int32) = 0) → (vp_in x1 6) ∧ (((¬ (((upd (u 3) (Int32.toNatClampNeg x1) (((u 3) (Int32.toNatClampNeg x1)) + 1)) (Int32.toNatClampNeg x1)) - ((upd (u 3) (Int32.toNatClampNeg x1) (((u 3) (Int32.toNatClampNeg x1)) + 1)) (Int32.toNatClampNeg x1)) / 2 * 2) = 1) → Q (some (.int 0)) (stW G ad 0 (va_up (va_up u 2 (upd (u 2) (Int32.toNatClampNeg x1) x2)) 3 (upd (u 3) (Int32.toNatClampNeg x1) (((u 3) (Int32.toNatClampNeg x1)) + 1))) d)) ∧ (((((upd (u 3) (Int32.toNatClampNeg x1) (((u 3) (Int32.toNatClampNeg x1)) + 1)) (Int32.toNatClampNeg x1)) - ((upd (u 3) (Int32.toNatClampNeg x1) (((u 3) (Int32.toNatClampNeg x1)) + 1)) (Int32.toNatClampNeg x1)) / 2 * 2) = 1) → Q (some (.int 1)) (stW G ad 0 (va_up (va_up u 2 (upd (u 2) (Int32.toNatClampNeg x1) x2)) 3 (upd (u 3) (Int32.toNatClampNeg x1) (((u 3) (Int32.toNatClampNeg x1)) + 1))) d)))))))) ∧ ((¬ ((u 0) (Int32.toNatClampNeg x1)) = 2 ∧ ¬ ((u 0) (Int32.toNatClampNeg x1)) = 3 ∧ ¬ ((u 0) (Int32.toNatClampNeg x1)) = 4) → Q (some (.int 1)) (stW G ad 0 u d)))))) : J G mX4_letsThrough 0 [(0, .ref (ad 0)), (1, .int x1), (2, .int x2)] [] (stW G ad 0 u d) Q := by
  refine j_aload_n 0 dX4_letsThrough_0 rfl rfl ?_
  refine j_get 0 fl_X4_18 dX4_letsThrough_1 rfl rfl ?_
  refine j_iload_n 1 dX4_letsThrough_4 rfl rfl ?_
  obtain ⟨h_1, H⟩ := H
  refine j_iald 3 dX4_letsThrough_5 rfl h_1 ?_
  refine j_iload_n 2 dX4_letsThrough_6 rfl rfl ?_
  refine j_icmp_eq (tgt := 14) dX4_letsThrough_7 (by decide) (fun c_2 => ?_) (fun c_2 => ?_)
  · have H := H.1 c_2
    refine j_iconst (v := 0) dX4_letsThrough_14 (by decide) ?_
    refine j_istore_n (lo' := [(3, .int 0), (0, .ref (ad 0)), (1, .int x1), (2, .int x2)]) dX4_letsThrough_15 rfl (by decide) rfl ?_
    refine j_aload_n 1 dX4_letsThrough_16 rfl rfl ?_
    refine j_get 0 fl_X4_9 dX4_letsThrough_17 rfl rfl ?_
    refine j_iload_n 2 dX4_letsThrough_20 rfl rfl ?_
    obtain ⟨h_3, H⟩ := H
    refine j_iald 1 dX4_letsThrough_21 rfl h_3 ?_
    refine j_tsw dX4_letsThrough_22 [(2, 48), (3, 57), (4, 72)] 119 (by decide) (by decide) (by decide) (fun v_ t_ hm hx => ?_) (fun hn => ?_)
    · simp only [List.mem_cons, Prod.mk.injEq, List.not_mem_nil, or_false] at hm
      rcases hm with ⟨rfl, rfl⟩ | ⟨rfl, rfl⟩ | ⟨rfl, rfl⟩
      · have H := H.1 hx
        refine j_aload_n 1 dX4_letsThrough_48 rfl rfl ?_
        refine j_get 0 fl_X4_18 dX4_letsThrough_49 rfl rfl ?_
        refine j_iload_n 2 dX4_letsThrough_52 rfl rfl ?_
        refine j_iload_n 3 dX4_letsThrough_53 rfl rfl ?_
        obtain ⟨h_4, H⟩ := H
        refine j_iast (w' := (stW G ad 0 (va_up u 2 (upd (u 2) (Int32.toNatClampNeg x1) x2)) d)) 3 dX4_letsThrough_54 rfl h_4 rfl ?_
        refine j_iload_n 0 dX4_letsThrough_55 rfl rfl ?_
        exact j_zret dX4_letsThrough_56 rfl (by decide) H
      · have H := H.2.1 hx
        refine j_iload_n 3 dX4_letsThrough_57 rfl rfl ?_
        refine j_if_eq (tgt := 70) dX4_letsThrough_58 (by decide) (fun c_5 => ?_) (fun c_5 => ?_)
        · have H := H.1 c_5
          refine j_iconst (v := 0) dX4_letsThrough_70 (by decide) ?_
          exact j_zret dX4_letsThrough_71 rfl (by decide) H
        · have H := H.2 c_5
          refine j_iload_n 3 dX4_letsThrough_61 rfl rfl ?_
          refine j_iconst (v := 4) dX4_letsThrough_62 (by decide) ?_
          refine j_icmp_eq (tgt := 70) dX4_letsThrough_63 (by decide) (fun c_6 => ?_) (fun c_6 => ?_)
          · have H := H.1 c_6
            refine j_iconst (v := 0) dX4_letsThrough_70 (by decide) ?_
            exact j_zret dX4_letsThrough_71 rfl (by decide) H
          · have H := H.2 c_6
            refine j_iconst (v := 1) dX4_letsThrough_66 (by decide) ?_
            refine j_goto (tgt := 71) dX4_letsThrough_67 (by decide) ?_
            exact j_zret dX4_letsThrough_71 rfl (by decide) H
      · have H := H.2.2.1 hx
        refine j_aload_n 1 dX4_letsThrough_72 rfl rfl ?_
        refine j_get 0 fl_X4_18 dX4_letsThrough_73 rfl rfl ?_
        refine j_iload_n 2 dX4_letsThrough_76 rfl rfl ?_
        refine j_iload_n 3 dX4_letsThrough_77 rfl rfl ?_
        obtain ⟨h_7, H⟩ := H
        refine j_iast (w' := (stW G ad 0 (va_up u 2 (upd (u 2) (Int32.toNatClampNeg x1) x2)) d)) 3 dX4_letsThrough_78 rfl h_7 rfl ?_
        refine j_aload_n 1 dX4_letsThrough_79 rfl rfl ?_
        refine j_get 0 fl_X4_21 dX4_letsThrough_80 rfl rfl ?_
        refine j_iload_n 2 dX4_letsThrough_83 rfl rfl ?_
        refine j_dup2 dX4_letsThrough_84 rfl rfl ?_
        obtain ⟨h_8, H⟩ := H
        refine j_iald 4 dX4_letsThrough_85 rfl h_8 ?_
        refine j_iload_n 0 dX4_letsThrough_86 rfl rfl ?_
        refine j_if_eq (tgt := 94) dX4_letsThrough_87 (by decide) (fun c_9 => ?_) (fun c_9 => ?_)
        · have H := H.1 c_9
          refine j_iconst (v := 0) dX4_letsThrough_94 (by decide) ?_
          refine j_iadd dX4_letsThrough_95 ?_
          obtain ⟨h_10, H⟩ := H
          refine j_iast (w' := (stW G ad 0 (va_up (va_up u 2 (upd (u 2) (Int32.toNatClampNeg x1) x2)) 3 (upd (u 3) (Int32.toNatClampNeg x1) (((u 3) (Int32.toNatClampNeg x1)) + 0))) d)) 4 dX4_letsThrough_96 rfl h_10 rfl ?_
          refine j_iload_n 0 dX4_letsThrough_97 rfl rfl ?_
          refine j_if_eq (tgt := 117) dX4_letsThrough_98 (by decide) (fun c_11 => ?_) (fun c_11 => ?_)
          · have H := H.1 c_11
            refine j_iconst (v := 0) dX4_letsThrough_117 (by decide) ?_
            exact j_zret dX4_letsThrough_118 rfl (by decide) H
          · have H := H.2 c_11
            refine j_aload_n 1 dX4_letsThrough_101 rfl rfl ?_
            refine j_get 0 fl_X4_21 dX4_letsThrough_102 rfl rfl ?_
            refine j_iload_n 2 dX4_letsThrough_105 rfl rfl ?_
            obtain ⟨h_12, H⟩ := H
            refine j_iald 4 dX4_letsThrough_106 rfl h_12 ?_
            refine j_iconst (v := 2) dX4_letsThrough_107 (by decide) ?_
            refine j_irem dX4_letsThrough_108 (by decide) ?_
            refine j_iconst (v := 1) dX4_letsThrough_109 (by decide) ?_
            refine j_icmp_ne (tgt := 117) dX4_letsThrough_110 (by decide) (fun c_13 => ?_) (fun c_13 => ?_)
            · have H := H.1 c_13
              refine j_iconst (v := 0) dX4_letsThrough_117 (by decide) ?_
              exact j_zret dX4_letsThrough_118 rfl (by decide) H
            · have H := H.2 c_13
              refine j_iconst (v := 1) dX4_letsThrough_113 (by decide) ?_
              refine j_goto (tgt := 118) dX4_letsThrough_114 (by decide) ?_
              exact j_zret dX4_letsThrough_118 rfl (by decide) H
        · have H := H.2 c_9
          refine j_iconst (v := 1) dX4_letsThrough_90 (by decide) ?_
          refine j_goto (tgt := 95) dX4_letsThrough_91 (by decide) ?_
          refine j_iadd dX4_letsThrough_95 ?_
          obtain ⟨h_14, H⟩ := H
          refine j_iast (w' := (stW G ad 0 (va_up (va_up u 2 (upd (u 2) (Int32.toNatClampNeg x1) x2)) 3 (upd (u 3) (Int32.toNatClampNeg x1) (((u 3) (Int32.toNatClampNeg x1)) + 1))) d)) 4 dX4_letsThrough_96 rfl h_14 rfl ?_
          refine j_iload_n 0 dX4_letsThrough_97 rfl rfl ?_
          refine j_if_eq (tgt := 117) dX4_letsThrough_98 (by decide) (fun c_15 => ?_) (fun c_15 => ?_)
          · have H := H.1 c_15
            refine j_iconst (v := 0) dX4_letsThrough_117 (by decide) ?_
            exact j_zret dX4_letsThrough_118 rfl (by decide) H
          · have H := H.2 c_15
            refine j_aload_n 1 dX4_letsThrough_101 rfl rfl ?_
            refine j_get 0 fl_X4_21 dX4_letsThrough_102 rfl rfl ?_
            refine j_iload_n 2 dX4_letsThrough_105 rfl rfl ?_
            obtain ⟨h_16, H⟩ := H
            refine j_iald 4 dX4_letsThrough_106 rfl h_16 ?_
            refine j_iconst (v := 2) dX4_letsThrough_107 (by decide) ?_
            refine j_irem dX4_letsThrough_108 (by decide) ?_
            refine j_iconst (v := 1) dX4_letsThrough_109 (by decide) ?_
            refine j_icmp_ne (tgt := 117) dX4_letsThrough_110 (by decide) (fun c_17 => ?_) (fun c_17 => ?_)
            · have H := H.1 c_17
              refine j_iconst (v := 0) dX4_letsThrough_117 (by decide) ?_
              exact j_zret dX4_letsThrough_118 rfl (by decide) H
            · have H := H.2 c_17
              refine j_iconst (v := 1) dX4_letsThrough_113 (by decide) ?_
              refine j_goto (tgt := 118) dX4_letsThrough_114 (by decide) ?_
              exact j_zret dX4_letsThrough_118 rfl (by decide) H
    · have H := H.2.2.2 ⟨hn 2 48 (by simp), hn 3 57 (by simp), hn 4 72 (by simp)⟩
      refine j_iconst (v := 1) dX4_letsThrough_119 (by decide) ?_
      exact j_zret dX4_letsThrough_120 rfl (by decide) H
  · have H := H.2 c_2
    refine j_iconst (v := 1) dX4_letsThrough_10 (by decide) ?_
    refine j_goto (tgt := 15) dX4_letsThrough_11 (by decide) ?_
    refine j_istore_n (lo' := [(3, .int 1), (0, .ref (ad 0)), (1, .int x1), (2, .int x2)]) dX4_letsThrough_15 rfl (by decide) rfl ?_
    refine j_aload_n 1 dX4_letsThrough_16 rfl rfl ?_
    refine j_get 0 fl_X4_9 dX4_letsThrough_17 rfl rfl ?_
    refine j_iload_n 2 dX4_letsThrough_20 rfl rfl ?_
    obtain ⟨h_18, H⟩ := H
    refine j_iald 1 dX4_letsThrough_21 rfl h_18 ?_
    refine j_tsw dX4_letsThrough_22 [(2, 48), (3, 57), (4, 72)] 119 (by decide) (by decide) (by decide) (fun v_ t_ hm hx => ?_) (fun hn => ?_)
    · simp only [List.mem_cons, Prod.mk.injEq, List.not_mem_nil, or_false] at hm
      rcases hm with ⟨rfl, rfl⟩ | ⟨rfl, rfl⟩ | ⟨rfl, rfl⟩
      · have H := H.1 hx
        refine j_aload_n 1 dX4_letsThrough_48 rfl rfl ?_
        refine j_get 0 fl_X4_18 dX4_letsThrough_49 rfl rfl ?_
        refine j_iload_n 2 dX4_letsThrough_52 rfl rfl ?_
        refine j_iload_n 3 dX4_letsThrough_53 rfl rfl ?_
        obtain ⟨h_19, H⟩ := H
        refine j_iast (w' := (stW G ad 0 (va_up u 2 (upd (u 2) (Int32.toNatClampNeg x1) x2)) d)) 3 dX4_letsThrough_54 rfl h_19 rfl ?_
        refine j_iload_n 0 dX4_letsThrough_55 rfl rfl ?_
        exact j_zret dX4_letsThrough_56 rfl (by decide) H
      · have H := H.2.1 hx
        refine j_iload_n 3 dX4_letsThrough_57 rfl rfl ?_
        refine j_if_eq (tgt := 70) dX4_letsThrough_58 (by decide) (fun c_20 => ?_) (fun c_20 => ?_)
        · have H := H.1 c_20
          refine j_iconst (v := 0) dX4_letsThrough_70 (by decide) ?_
          exact j_zret dX4_letsThrough_71 rfl (by decide) H
        · have H := H.2 c_20
          refine j_iload_n 3 dX4_letsThrough_61 rfl rfl ?_
          refine j_iconst (v := 4) dX4_letsThrough_62 (by decide) ?_
          refine j_icmp_eq (tgt := 70) dX4_letsThrough_63 (by decide) (fun c_21 => ?_) (fun c_21 => ?_)
          · have H := H.1 c_21
            refine j_iconst (v := 0) dX4_letsThrough_70 (by decide) ?_
            exact j_zret dX4_letsThrough_71 rfl (by decide) H
          · have H := H.2 c_21
            refine j_iconst (v := 1) dX4_letsThrough_66 (by decide) ?_
            refine j_goto (tgt := 71) dX4_letsThrough_67 (by decide) ?_
            exact j_zret dX4_letsThrough_71 rfl (by decide) H
      · have H := H.2.2.1 hx
        refine j_aload_n 1 dX4_letsThrough_72 rfl rfl ?_
        refine j_get 0 fl_X4_18 dX4_letsThrough_73 rfl rfl ?_
        refine j_iload_n 2 dX4_letsThrough_76 rfl rfl ?_
        refine j_iload_n 3 dX4_letsThrough_77 rfl rfl ?_
        obtain ⟨h_22, H⟩ := H
        refine j_iast (w' := (stW G ad 0 (va_up u 2 (upd (u 2) (Int32.toNatClampNeg x1) x2)) d)) 3 dX4_letsThrough_78 rfl h_22 rfl ?_
        refine j_aload_n 1 dX4_letsThrough_79 rfl rfl ?_
        refine j_get 0 fl_X4_21 dX4_letsThrough_80 rfl rfl ?_
        refine j_iload_n 2 dX4_letsThrough_83 rfl rfl ?_
        refine j_dup2 dX4_letsThrough_84 rfl rfl ?_
        obtain ⟨h_23, H⟩ := H
        refine j_iald 4 dX4_letsThrough_85 rfl h_23 ?_
        refine j_iload_n 0 dX4_letsThrough_86 rfl rfl ?_
        refine j_if_eq (tgt := 94) dX4_letsThrough_87 (by decide) (fun c_24 => ?_) (fun c_24 => ?_)
        · have H := H.1 c_24
          refine j_iconst (v := 0) dX4_letsThrough_94 (by decide) ?_
          refine j_iadd dX4_letsThrough_95 ?_
          obtain ⟨h_25, H⟩ := H
          refine j_iast (w' := (stW G ad 0 (va_up (va_up u 2 (upd (u 2) (Int32.toNatClampNeg x1) x2)) 3 (upd (u 3) (Int32.toNatClampNeg x1) (((u 3) (Int32.toNatClampNeg x1)) + 0))) d)) 4 dX4_letsThrough_96 rfl h_25 rfl ?_
          refine j_iload_n 0 dX4_letsThrough_97 rfl rfl ?_
          refine j_if_eq (tgt := 117) dX4_letsThrough_98 (by decide) (fun c_26 => ?_) (fun c_26 => ?_)
          · have H := H.1 c_26
            refine j_iconst (v := 0) dX4_letsThrough_117 (by decide) ?_
            exact j_zret dX4_letsThrough_118 rfl (by decide) H
          · have H := H.2 c_26
            refine j_aload_n 1 dX4_letsThrough_101 rfl rfl ?_
            refine j_get 0 fl_X4_21 dX4_letsThrough_102 rfl rfl ?_
            refine j_iload_n 2 dX4_letsThrough_105 rfl rfl ?_
            obtain ⟨h_27, H⟩ := H
            refine j_iald 4 dX4_letsThrough_106 rfl h_27 ?_
            refine j_iconst (v := 2) dX4_letsThrough_107 (by decide) ?_
            refine j_irem dX4_letsThrough_108 (by decide) ?_
            refine j_iconst (v := 1) dX4_letsThrough_109 (by decide) ?_
            refine j_icmp_ne (tgt := 117) dX4_letsThrough_110 (by decide) (fun c_28 => ?_) (fun c_28 => ?_)
            · have H := H.1 c_28
              refine j_iconst (v := 0) dX4_letsThrough_117 (by decide) ?_
              exact j_zret dX4_letsThrough_118 rfl (by decide) H
            · have H := H.2 c_28
              refine j_iconst (v := 1) dX4_letsThrough_113 (by decide) ?_
              refine j_goto (tgt := 118) dX4_letsThrough_114 (by decide) ?_
              exact j_zret dX4_letsThrough_118 rfl (by decide) H
        · have H := H.2 c_24
          refine j_iconst (v := 1) dX4_letsThrough_90 (by decide) ?_
          refine j_goto (tgt := 95) dX4_letsThrough_91 (by decide) ?_
          refine j_iadd dX4_letsThrough_95 ?_
          obtain ⟨h_29, H⟩ := H
          refine j_iast (w' := (stW G ad 0 (va_up (va_up u 2 (upd (u 2) (Int32.toNatClampNeg x1) x2)) 3 (upd (u 3) (Int32.toNatClampNeg x1) (((u 3) (Int32.toNatClampNeg x1)) + 1))) d)) 4 dX4_letsThrough_96 rfl h_29 rfl ?_
          refine j_iload_n 0 dX4_letsThrough_97 rfl rfl ?_
          refine j_if_eq (tgt := 117) dX4_letsThrough_98 (by decide) (fun c_30 => ?_) (fun c_30 => ?_)
          · have H := H.1 c_30
            refine j_iconst (v := 0) dX4_letsThrough_117 (by decide) ?_
            exact j_zret dX4_letsThrough_118 rfl (by decide) H
          · have H := H.2 c_30
            refine j_aload_n 1 dX4_letsThrough_101 rfl rfl ?_
            refine j_get 0 fl_X4_21 dX4_letsThrough_102 rfl rfl ?_
            refine j_iload_n 2 dX4_letsThrough_105 rfl rfl ?_
            obtain ⟨h_31, H⟩ := H
            refine j_iald 4 dX4_letsThrough_106 rfl h_31 ?_
            refine j_iconst (v := 2) dX4_letsThrough_107 (by decide) ?_
            refine j_irem dX4_letsThrough_108 (by decide) ?_
            refine j_iconst (v := 1) dX4_letsThrough_109 (by decide) ?_
            refine j_icmp_ne (tgt := 117) dX4_letsThrough_110 (by decide) (fun c_32 => ?_) (fun c_32 => ?_)
            · have H := H.1 c_32
              refine j_iconst (v := 0) dX4_letsThrough_117 (by decide) ?_
              exact j_zret dX4_letsThrough_118 rfl (by decide) H
            · have H := H.2 c_32
              refine j_iconst (v := 1) dX4_letsThrough_113 (by decide) ?_
              refine j_goto (tgt := 118) dX4_letsThrough_114 (by decide) ?_
              exact j_zret dX4_letsThrough_118 rfl (by decide) H
    · have H := H.2.2.2 ⟨hn 2 48 (by simp), hn 3 57 (by simp), hn 4 72 (by simp)⟩
      refine j_iconst (v := 1) dX4_letsThrough_119 (by decide) ?_
      exact j_zret dX4_letsThrough_120 rfl (by decide) H
set_option maxRecDepth 20000 in
theorem sg_X4_sum_0 {G : GG} {ad : Nat → Nat} {f0 : Nat → Int32} {L0 : Nat} {Q : Option Value → va_W → Prop} (H : J G mX4_sum 10 [(0, .ref (ad 0)), (1, .int 0), (2, .ref (ad 0)), (3, .int (nI L0)), (4, .int 0)] [] (arW G ad 0 L0 f0) Q) : J G mX4_sum 0 [(0, .ref (ad 0))] [] (arW G ad 0 L0 f0) Q := by
  refine j_iconst (v := 0) dX4_sum_0 (by decide) ?_
  refine j_istore_n (lo' := [(1, .int 0), (0, .ref (ad 0))]) dX4_sum_1 rfl (by decide) rfl ?_
  refine j_aload_n 1 dX4_sum_2 rfl rfl ?_
  refine j_astore_n (lo' := [(2, .ref (ad 0)), (1, .int 0), (0, .ref (ad 0))]) dX4_sum_3 rfl (by decide) rfl ?_
  refine j_aload_n 0 dX4_sum_4 rfl rfl ?_
  refine j_alen (v := (nI L0)) 0 dX4_sum_5 rfl rfl ?_
  refine j_istore_n (lo' := [(3, .int (nI L0)), (2, .ref (ad 0)), (1, .int 0), (0, .ref (ad 0))]) dX4_sum_6 rfl (by decide) rfl ?_
  refine j_iconst (v := 0) dX4_sum_7 (by decide) ?_
  refine j_istore (lo' := [(4, .int 0), (3, .int (nI L0)), (2, .ref (ad 0)), (1, .int 0), (0, .ref (ad 0))]) dX4_sum_8 (by decide) rfl ?_
  refine j_lo [4, 3, 2, 1, 0] rfl ?_
  exact H
set_option maxRecDepth 20000 in
theorem sg_X4_sum_10 {G : GG} {ad : Nat → Nat} {f0 : Nat → Int32} {L0 : Nat} {x1 : Int32} {x3 : Int32} {x4 : Int32} {Q : Option Value → va_W → Prop} (H : (((x3 ≤ x4) → Q (some (.int x1)) (arW G ad 0 L0 f0)) ∧ ((¬ x3 ≤ x4) → (vp_in x4 L0) ∧ J G mX4_sum 10 [(0, .ref (ad 0)), (1, .int (x1 + (f0 (Int32.toNatClampNeg x4)))), (2, .ref (ad 0)), (3, .int x3), (4, .int (x4 + 1))] [] (arW G ad 0 L0 f0) Q))) : J G mX4_sum 10 [(0, .ref (ad 0)), (1, .int x1), (2, .ref (ad 0)), (3, .int x3), (4, .int x4)] [] (arW G ad 0 L0 f0) Q := by
  refine j_iload 4 dX4_sum_10 rfl ?_
  refine j_iload_n 3 dX4_sum_12 rfl rfl ?_
  refine j_icmp_ge (tgt := 33) dX4_sum_13 (by decide) (fun c_1 => ?_) (fun c_1 => ?_)
  · have H := H.1 c_1
    refine j_iload_n 1 dX4_sum_33 rfl rfl ?_
    exact j_iret dX4_sum_34 rfl H
  · have H := H.2 c_1
    refine j_aload_n 2 dX4_sum_16 rfl rfl ?_
    refine j_iload 4 dX4_sum_17 rfl ?_
    obtain ⟨h_2, H⟩ := H
    refine j_iald 0 dX4_sum_19 rfl h_2 ?_
    refine j_istore (lo' := [(5, .int (f0 (Int32.toNatClampNeg x4))), (0, .ref (ad 0)), (1, .int x1), (2, .ref (ad 0)), (3, .int x3), (4, .int x4)]) dX4_sum_20 (by decide) rfl ?_
    refine j_iload_n 2 dX4_sum_22 rfl rfl ?_
    refine j_iload 0 dX4_sum_23 rfl ?_
    refine j_iadd dX4_sum_25 ?_
    refine j_istore_n (lo' := [(1, .int (x1 + (f0 (Int32.toNatClampNeg x4)))), (5, .int (f0 (Int32.toNatClampNeg x4))), (0, .ref (ad 0)), (2, .ref (ad 0)), (3, .int x3), (4, .int x4)]) dX4_sum_26 rfl (by decide) rfl ?_
    refine j_iinc (v := (x4 + 1)) (lo' := [(4, .int (x4 + 1)), (1, .int (x1 + (f0 (Int32.toNatClampNeg x4)))), (5, .int (f0 (Int32.toNatClampNeg x4))), (0, .ref (ad 0)), (2, .ref (ad 0)), (3, .int x3)]) 5 dX4_sum_27 rfl rfl (by decide) rfl ?_
    refine j_goto (tgt := 10) dX4_sum_30 (by decide) ?_
    refine j_lo [3, 1, 4, 5, 0] rfl ?_
    exact H
set_option maxRecDepth 20000 in
theorem sg_X4_lettersLost_0 {G : GG} {ad : Nat → Nat} {u : Nat → Nat → Int32} {d : Nat → Nat → Int32} {Q : Option Value → va_W → Prop} (H : J G mX4_sum 0 [(0, .ref ((pk ad [6]) 0))] [] (arW G (pk ad [6]) 0 6 (u 5)) (fun v_ w_ => ∃ (r_1 : Int32), v_ = some (.int r_1) ∧ w_ = (arW G (pk ad [6]) 0 6 (u 5)) ∧ Q (some (.int r_1)) (stW G ad 0 u d))) : J G mX4_lettersLost 0 [(0, .ref (ad 0))] [] (stW G ad 0 u d) Q := by
  refine j_aload_n 0 dX4_lettersLost_0 rfl rfl ?_
  refine j_get 0 fl_X4_27 dX4_lettersLost_1 rfl rfl ?_
  refine j_callS (wc := (arW G (pk ad [6]) 0 6 (u 5))) (As := [.ref ((pk ad [6]) 0)]) (st := []) ml_X4_sum sl_X4_80 dX4_lettersLost_4 [none, none, none, none, none, none, some 0] ⟨rfl, Nat.le_of_ble_eq_true rfl, rfl, rfl⟩ (Nat.le_of_ble_eq_true rfl) ⟨by decide, by decide⟩ rfl rfl (Nat.le_of_ble_eq_true rfl) (J.mono (fun v_ w_ hp_ => ?_) H)
  obtain ⟨r_1, rfl, rfl, H⟩ := hp_
  refine j_w (w' := (stW G ad 0 u d)) rfl ?_
  exact j_iret dX4_lettersLost_7 rfl H
set_option maxRecDepth 20000 in
theorem sg_X4_lettersOut_0 {G : GG} {ad : Nat → Nat} {u : Nat → Nat → Int32} {d : Nat → Nat → Int32} {Q : Option Value → va_W → Prop} (H : J G mX4_sum 0 [(0, .ref ((pk ad [7]) 0))] [] (arW G (pk ad [7]) 0 6 (u 6)) (fun v_ w_ => ∃ (r_1 : Int32), v_ = some (.int r_1) ∧ w_ = (arW G (pk ad [7]) 0 6 (u 6)) ∧ Q (some (.int r_1)) (stW G ad 0 u d))) : J G mX4_lettersOut 0 [(0, .ref (ad 0))] [] (stW G ad 0 u d) Q := by
  refine j_aload_n 0 dX4_lettersOut_0 rfl rfl ?_
  refine j_get 0 fl_X4_30 dX4_lettersOut_1 rfl rfl ?_
  refine j_callS (wc := (arW G (pk ad [7]) 0 6 (u 6))) (As := [.ref ((pk ad [7]) 0)]) (st := []) ml_X4_sum sl_X4_80 dX4_lettersOut_4 [none, none, none, none, none, none, none, some 0] ⟨rfl, Nat.le_of_ble_eq_true rfl, rfl, rfl⟩ (Nat.le_of_ble_eq_true rfl) ⟨by decide, by decide⟩ rfl rfl (Nat.le_of_ble_eq_true rfl) (J.mono (fun v_ w_ hp_ => ?_) H)
  obtain ⟨r_1, rfl, rfl, H⟩ := hp_
  refine j_w (w' := (stW G ad 0 u d)) rfl ?_
  exact j_iret dX4_lettersOut_7 rfl H
set_option maxRecDepth 20000 in
theorem sg_X4_passOn_0 {G : GG} {ad : Nat → Nat} {u : Nat → Nat → Int32} {d : Nat → Nat → Int32} {x1 : Int32} {x2 : Int32} {Q : Option Value → va_W → Prop} (H : (vp_in x1 6) ∧ (vp_in x1 6) ∧ (vp_in x1 6) ∧ (((¬ ((u 0) (Int32.toNatClampNeg x1)) = 1) → J G mX4_letsThrough 0 [(0, .ref (ad 0)), (1, .int x1), (2, .int x2)] [] (stW G ad 0 (va_up u 4 (upd (u 4) (Int32.toNatClampNeg x1) (((u 4) (Int32.toNatClampNeg x1)) + 1))) d) (fun v_ w_ => ∃ (r_6 : Int32) (u_5 : Nat → Nat → Int32), v_ = some (.int r_6) ∧ w_ = (stW G ad 0 u_5 d) ∧ (((r_6 = 0) → (vp_in x1 6) ∧ (vp_in x1 6) ∧ Q (some (.int (-1))) (stW G ad 0 (va_up u_5 5 (upd (u_5 5) (Int32.toNatClampNeg x1) (((u_5 5) (Int32.toNatClampNeg x1)) + 1))) d)) ∧ ((¬ r_6 = 0) → Q (some (.int x2)) (stW G ad 0 u_5 d))))) ∧ ((((u 0) (Int32.toNatClampNeg x1)) = 1) → (vp_in x1 6) ∧ (vp_in x1 6) ∧ Q (some (.int ((u 2) (Int32.toNatClampNeg x1)))) (stW G ad 0 (va_up (va_up u 4 (upd (u 4) (Int32.toNatClampNeg x1) (((u 4) (Int32.toNatClampNeg x1)) + 1))) 2 (upd (u 2) (Int32.toNatClampNeg x1) x2)) d)))) : J G mX4_passOn 0 [(0, .ref (ad 0)), (1, .int x1), (2, .int x2)] [] (stW G ad 0 u d) Q := by
  refine j_aload_n 0 dX4_passOn_0 rfl rfl ?_
  refine j_get 0 fl_X4_24 dX4_passOn_1 rfl rfl ?_
  refine j_iload_n 1 dX4_passOn_4 rfl rfl ?_
  refine j_dup2 dX4_passOn_5 rfl rfl ?_
  obtain ⟨h_1, H⟩ := H
  refine j_iald 5 dX4_passOn_6 rfl h_1 ?_
  refine j_iconst (v := 1) dX4_passOn_7 (by decide) ?_
  refine j_iadd dX4_passOn_8 ?_
  obtain ⟨h_2, H⟩ := H
  refine j_iast (w' := (stW G ad 0 (va_up u 4 (upd (u 4) (Int32.toNatClampNeg x1) (((u 4) (Int32.toNatClampNeg x1)) + 1))) d)) 5 dX4_passOn_9 rfl h_2 rfl ?_
  refine j_aload_n 0 dX4_passOn_10 rfl rfl ?_
  refine j_get 0 fl_X4_9 dX4_passOn_11 rfl rfl ?_
  refine j_iload_n 1 dX4_passOn_14 rfl rfl ?_
  obtain ⟨h_3, H⟩ := H
  refine j_iald 1 dX4_passOn_15 rfl h_3 ?_
  refine j_iconst (v := 1) dX4_passOn_16 (by decide) ?_
  refine j_icmp_ne (tgt := 36) dX4_passOn_17 (by decide) (fun c_4 => ?_) (fun c_4 => ?_)
  · have H := H.1 c_4
    refine j_aload_n 0 dX4_passOn_36 rfl rfl ?_
    refine j_iload_n 1 dX4_passOn_37 rfl rfl ?_
    refine j_iload_n 2 dX4_passOn_38 rfl rfl ?_
    refine j_callV0 (q0 := 0) (As := [.int x1, .int x2]) (st := []) ml_X4_letsThrough vl_X4_84 dX4_passOn_39 rfl rfl rfl (Nat.le_of_ble_eq_true rfl) ⟨by decide, by decide⟩ rfl rfl (Nat.le_of_ble_eq_true rfl) (J.mono (fun v_ w_ hp_ => ?_) H)
    obtain ⟨r_6, u_5, rfl, rfl, H⟩ := hp_
    refine j_if_eq (tgt := 47) dX4_passOn_42 (by decide) (fun c_7 => ?_) (fun c_7 => ?_)
    · have H := H.1 c_7
      refine j_aload_n 0 dX4_passOn_47 rfl rfl ?_
      refine j_get 0 fl_X4_27 dX4_passOn_48 rfl rfl ?_
      refine j_iload_n 1 dX4_passOn_51 rfl rfl ?_
      refine j_dup2 dX4_passOn_52 rfl rfl ?_
      obtain ⟨h_8, H⟩ := H
      refine j_iald 6 dX4_passOn_53 rfl h_8 ?_
      refine j_iconst (v := 1) dX4_passOn_54 (by decide) ?_
      refine j_iadd dX4_passOn_55 ?_
      obtain ⟨h_9, H⟩ := H
      refine j_iast (w' := (stW G ad 0 (va_up u_5 5 (upd (u_5 5) (Int32.toNatClampNeg x1) (((u_5 5) (Int32.toNatClampNeg x1)) + 1))) d)) 6 dX4_passOn_56 rfl h_9 rfl ?_
      refine j_iconst (v := (-1)) dX4_passOn_57 (by decide) ?_
      exact j_iret dX4_passOn_58 rfl H
    · have H := H.2 c_7
      refine j_iload_n 2 dX4_passOn_45 rfl rfl ?_
      exact j_iret dX4_passOn_46 rfl H
  · have H := H.2 c_4
    refine j_aload_n 0 dX4_passOn_20 rfl rfl ?_
    refine j_get 0 fl_X4_18 dX4_passOn_21 rfl rfl ?_
    refine j_iload_n 1 dX4_passOn_24 rfl rfl ?_
    obtain ⟨h_10, H⟩ := H
    refine j_iald 3 dX4_passOn_25 rfl h_10 ?_
    refine j_istore_n (lo' := [(3, .int ((u 2) (Int32.toNatClampNeg x1))), (0, .ref (ad 0)), (1, .int x1), (2, .int x2)]) dX4_passOn_26 rfl (by decide) rfl ?_
    refine j_aload_n 1 dX4_passOn_27 rfl rfl ?_
    refine j_get 0 fl_X4_18 dX4_passOn_28 rfl rfl ?_
    refine j_iload_n 2 dX4_passOn_31 rfl rfl ?_
    refine j_iload_n 3 dX4_passOn_32 rfl rfl ?_
    obtain ⟨h_11, H⟩ := H
    refine j_iast (w' := (stW G ad 0 (va_up (va_up u 4 (upd (u 4) (Int32.toNatClampNeg x1) (((u 4) (Int32.toNatClampNeg x1)) + 1))) 2 (upd (u 2) (Int32.toNatClampNeg x1) x2)) d)) 3 dX4_passOn_33 rfl h_11 rfl ?_
    refine j_iload_n 0 dX4_passOn_34 rfl rfl ?_
    exact j_iret dX4_passOn_35 rfl H
set_option maxRecDepth 20000 in
theorem sg_X4_runOut_0 {G : GG} {ad : Nat → Nat} {u : Nat → Nat → Int32} {d : Nat → Nat → Int32} {x1 : Int32} {x2 : Int32} {Q : Option Value → va_W → Prop} (H : (vp_in x1 6) ∧ (((12 ≤ ((u 6) (Int32.toNatClampNeg x1))) → Q none (stW G ad 0 u d)) ∧ ((¬ 12 ≤ ((u 6) (Int32.toNatClampNeg x1))) → (vp_in x1 6) ∧ (vp_in x1 6) ∧ (vp_in ((u 6) (Int32.toNatClampNeg x1)) 12) ∧ (vp_in x1 6) ∧ (vp_in x1 6) ∧ Q none (stW G ad 0 (va_up u 6 (upd (u 6) (Int32.toNatClampNeg x1) (((u 6) (Int32.toNatClampNeg x1)) + 1))) (va_up d (Int32.toNatClampNeg x1) (upd (d (Int32.toNatClampNeg x1)) (Int32.toNatClampNeg ((u 6) (Int32.toNatClampNeg x1))) x2)))))) : J G mX4_runOut 0 [(0, .ref (ad 0)), (1, .int x1), (2, .int x2)] [] (stW G ad 0 u d) Q := by
  refine j_aload_n 0 dX4_runOut_0 rfl rfl ?_
  refine j_get 0 fl_X4_30 dX4_runOut_1 rfl rfl ?_
  refine j_iload_n 1 dX4_runOut_4 rfl rfl ?_
  obtain ⟨h_1, H⟩ := H
  refine j_iald 7 dX4_runOut_5 rfl h_1 ?_
  refine j_bipush (v := 12) dX4_runOut_6 (by decide) ?_
  refine j_icmp_ge (tgt := 35) dX4_runOut_8 (by decide) (fun c_2 => ?_) (fun c_2 => ?_)
  · have H := H.1 c_2
    exact j_vret dX4_runOut_35 rfl H
  · have H := H.2 c_2
    refine j_aload_n 0 dX4_runOut_11 rfl rfl ?_
    refine j_get 0 fl_X4_35 dX4_runOut_12 rfl rfl ?_
    refine j_iload_n 1 dX4_runOut_15 rfl rfl ?_
    obtain ⟨h_3, H⟩ := H
    refine j_aald 8 dX4_runOut_16 rfl h_3 (ow_rf h_3) ?_
    refine j_aload_n 0 dX4_runOut_17 rfl rfl ?_
    refine j_get 0 fl_X4_30 dX4_runOut_18 rfl rfl ?_
    refine j_iload_n 1 dX4_runOut_21 rfl rfl ?_
    obtain ⟨h_4, H⟩ := H
    refine j_iald 7 dX4_runOut_22 rfl h_4 ?_
    refine j_iload_n 2 dX4_runOut_23 rfl rfl ?_
    obtain ⟨h_5, H⟩ := H
    refine j_iast (w' := (stW G ad 0 u (va_up d (Int32.toNatClampNeg x1) (upd (d (Int32.toNatClampNeg x1)) (Int32.toNatClampNeg ((u 6) (Int32.toNatClampNeg x1))) x2)))) (9 + (Int32.toNatClampNeg x1)) dX4_runOut_24 (row6 (P := fun k_ => (stW G ad 0 u d)[9 + k_]? = some (ad (9 + k_), .inl (G.2.1.1, 12, .inl (d k_)))) rfl rfl rfl rfl rfl rfl (in_lt h_3)) h_5 (row6 (P := fun k_ => (stW G ad 0 u d).set (9 + k_) (ad (9 + k_), .inl (G.2.1.1, 12, .inl (upd (d k_) (Int32.toNatClampNeg ((u 6) (Int32.toNatClampNeg x1))) x2))) = (stW G ad 0 u (va_up d k_ (upd (d k_) (Int32.toNatClampNeg ((u 6) (Int32.toNatClampNeg x1))) x2)))) rfl rfl rfl rfl rfl rfl (in_lt h_3)) ?_
    refine j_aload_n 0 dX4_runOut_25 rfl rfl ?_
    refine j_get 0 fl_X4_30 dX4_runOut_26 rfl rfl ?_
    refine j_iload_n 1 dX4_runOut_29 rfl rfl ?_
    refine j_dup2 dX4_runOut_30 rfl rfl ?_
    obtain ⟨h_6, H⟩ := H
    refine j_iald 7 dX4_runOut_31 rfl h_6 ?_
    refine j_iconst (v := 1) dX4_runOut_32 (by decide) ?_
    refine j_iadd dX4_runOut_33 ?_
    obtain ⟨h_7, H⟩ := H
    refine j_iast (w' := (stW G ad 0 (va_up u 6 (upd (u 6) (Int32.toNatClampNeg x1) (((u 6) (Int32.toNatClampNeg x1)) + 1))) (va_up d (Int32.toNatClampNeg x1) (upd (d (Int32.toNatClampNeg x1)) (Int32.toNatClampNeg ((u 6) (Int32.toNatClampNeg x1))) x2)))) 7 dX4_runOut_34 rfl h_7 rfl ?_
    exact j_vret dX4_runOut_35 rfl H
set_option maxRecDepth 20000 in
theorem sg_X4_run_0 {G : GG} {ad : Nat → Nat} {u : Nat → Nat → Int32} {d : Nat → Nat → Int32} {x1 : Int32} {x2 : Int32} {Q : Option Value → va_W → Prop} (H : J G mX4_run 8 [(0, .ref (ad 0)), (1, .int x1), (2, .int x2), (3, .int x1), (4, .int x2), (5, .int 0)] [] (stW G ad 0 u d) Q) : J G mX4_run 0 [(0, .ref (ad 0)), (1, .int x1), (2, .int x2)] [] (stW G ad 0 u d) Q := by
  refine j_iload_n 1 dX4_run_0 rfl rfl ?_
  refine j_istore_n (lo' := [(3, .int x1), (0, .ref (ad 0)), (1, .int x1), (2, .int x2)]) dX4_run_1 rfl (by decide) rfl ?_
  refine j_iload_n 3 dX4_run_2 rfl rfl ?_
  refine j_istore (lo' := [(4, .int x2), (3, .int x1), (0, .ref (ad 0)), (1, .int x1), (2, .int x2)]) dX4_run_3 (by decide) rfl ?_
  refine j_iconst (v := 0) dX4_run_5 (by decide) ?_
  refine j_istore (lo' := [(5, .int 0), (4, .int x2), (3, .int x1), (0, .ref (ad 0)), (1, .int x1), (2, .int x2)]) dX4_run_6 (by decide) rfl ?_
  refine j_lo [3, 4, 5, 2, 1, 0] rfl ?_
  exact H
set_option maxRecDepth 20000 in
theorem sg_X4_run_8 {G : GG} {ad : Nat → Nat} {u : Nat → Nat → Int32} {d : Nat → Nat → Int32} {x1 : Int32} {x2 : Int32} {x3 : Int32} {x4 : Int32} {x5 : Int32} {Q : Option Value → va_W → Prop} (H : (((6 ≤ x5) → Q (some (.int (-1))) (stW G ad 0 u d)) ∧ ((¬ 6 ≤ x5) → (((x3 < 0) → Q (some (.int (-1))) (stW G ad 0 u d)) ∧ ((¬ x3 < 0) → (((6 ≤ x3) → Q (some (.int (-1))) (stW G ad 0 u d)) ∧ ((¬ 6 ≤ x3) → J G mX4_passOn 0 [(0, .ref (ad 0)), (1, .int x3), (2, .int x4)] [] (stW G ad 0 u d) (fun v_ w_ => ∃ (r_5 : Int32) (u_4 : Nat → Nat → Int32), v_ = some (.int r_5) ∧ w_ = (stW G ad 0 u_4 d) ∧ (((¬ r_5 = (-1)) → (vp_in x3 6) ∧ (((¬ ((u_4 1) (Int32.toNatClampNeg x3)) = (-1)) → (vp_in x3 6) ∧ J G mX4_run 8 [(0, .ref (ad 0)), (1, .int x1), (2, .int x2), (3, .int ((u_4 1) (Int32.toNatClampNeg x3))), (4, .int r_5), (5, .int (x5 + 1))] [] (stW G ad 0 u_4 d) Q) ∧ ((((u_4 1) (Int32.toNatClampNeg x3)) = (-1)) → J G mX4_runOut 0 [(0, .ref (ad 0)), (1, .int x3), (2, .int r_5)] [] (stW G ad 0 u_4 d) (fun v_ w_ => ∃ (d_10 : Nat → Nat → Int32) (u_11 : Nat → Nat → Int32), v_ = none ∧ w_ = (stW G ad 0 u_11 d_10) ∧ Q (some (.int x3)) (stW G ad 0 u_11 d_10))))) ∧ ((r_5 = (-1)) → Q (some (.int (-1))) (stW G ad 0 u_4 d))))))))))) : J G mX4_run 8 [(0, .ref (ad 0)), (1, .int x1), (2, .int x2), (3, .int x3), (4, .int x4), (5, .int x5)] [] (stW G ad 0 u d) Q := by
  refine j_iload 5 dX4_run_8 rfl ?_
  refine j_bipush (v := 6) dX4_run_10 (by decide) ?_
  refine j_icmp_ge (tgt := 74) dX4_run_12 (by decide) (fun c_1 => ?_) (fun c_1 => ?_)
  · have H := H.1 c_1
    refine j_iconst (v := (-1)) dX4_run_74 (by decide) ?_
    exact j_iret dX4_run_75 rfl H
  · have H := H.2 c_1
    refine j_iload_n 3 dX4_run_15 rfl rfl ?_
    refine j_if_lt (tgt := 74) dX4_run_16 (by decide) (fun c_2 => ?_) (fun c_2 => ?_)
    · have H := H.1 c_2
      refine j_iconst (v := (-1)) dX4_run_74 (by decide) ?_
      exact j_iret dX4_run_75 rfl H
    · have H := H.2 c_2
      refine j_iload_n 3 dX4_run_19 rfl rfl ?_
      refine j_bipush (v := 6) dX4_run_20 (by decide) ?_
      refine j_icmp_ge (tgt := 74) dX4_run_22 (by decide) (fun c_3 => ?_) (fun c_3 => ?_)
      · have H := H.1 c_3
        refine j_iconst (v := (-1)) dX4_run_74 (by decide) ?_
        exact j_iret dX4_run_75 rfl H
      · have H := H.2 c_3
        refine j_aload_n 0 dX4_run_25 rfl rfl ?_
        refine j_iload_n 3 dX4_run_26 rfl rfl ?_
        refine j_iload 4 dX4_run_27 rfl ?_
        refine j_callV0 (q0 := 0) (As := [.int x3, .int x4]) (st := []) ml_X4_passOn vl_X4_73 dX4_run_29 rfl rfl rfl (Nat.le_of_ble_eq_true rfl) ⟨by decide, by decide⟩ rfl rfl (Nat.le_of_ble_eq_true rfl) (J.mono (fun v_ w_ hp_ => ?_) H)
        obtain ⟨r_5, u_4, rfl, rfl, H⟩ := hp_
        refine j_istore (lo' := [(4, .int r_5), (0, .ref (ad 0)), (1, .int x1), (2, .int x2), (3, .int x3), (5, .int x5)]) dX4_run_32 (by decide) rfl ?_
        refine j_iload 0 dX4_run_34 rfl ?_
        refine j_iconst (v := (-1)) dX4_run_36 (by decide) ?_
        refine j_icmp_ne (tgt := 42) dX4_run_37 (by decide) (fun c_6 => ?_) (fun c_6 => ?_)
        · have H := H.1 c_6
          refine j_aload_n 1 dX4_run_42 rfl rfl ?_
          refine j_get 0 fl_X4_15 dX4_run_43 rfl rfl ?_
          refine j_iload_n 4 dX4_run_46 rfl rfl ?_
          obtain ⟨h_7, H⟩ := H
          refine j_iald 2 dX4_run_47 rfl h_7 ?_
          refine j_iconst (v := (-1)) dX4_run_48 (by decide) ?_
          refine j_icmp_ne (tgt := 61) dX4_run_49 (by decide) (fun c_8 => ?_) (fun c_8 => ?_)
          · have H := H.1 c_8
            refine j_aload_n 1 dX4_run_61 rfl rfl ?_
            refine j_get 0 fl_X4_15 dX4_run_62 rfl rfl ?_
            refine j_iload_n 4 dX4_run_65 rfl rfl ?_
            obtain ⟨h_9, H⟩ := H
            refine j_iald 2 dX4_run_66 rfl h_9 ?_
            refine j_istore_n (lo' := [(3, .int ((u_4 1) (Int32.toNatClampNeg x3))), (4, .int r_5), (0, .ref (ad 0)), (1, .int x1), (2, .int x2), (5, .int x5)]) dX4_run_67 rfl (by decide) rfl ?_
            refine j_iinc (v := (x5 + 1)) (lo' := [(5, .int (x5 + 1)), (3, .int ((u_4 1) (Int32.toNatClampNeg x3))), (4, .int r_5), (0, .ref (ad 0)), (1, .int x1), (2, .int x2)]) 5 dX4_run_68 rfl rfl (by decide) rfl ?_
            refine j_goto (tgt := 8) dX4_run_71 (by decide) ?_
            refine j_lo [3, 4, 5, 1, 2, 0] rfl ?_
            exact H
          · have H := H.2 c_8
            refine j_aload_n 1 dX4_run_52 rfl rfl ?_
            refine j_iload_n 4 dX4_run_53 rfl rfl ?_
            refine j_iload 0 dX4_run_54 rfl ?_
            refine j_callV0 (q0 := 0) (As := [.int x3, .int r_5]) (st := []) ml_X4_runOut vl_X4_76 dX4_run_56 rfl rfl rfl (Nat.le_of_ble_eq_true rfl) ⟨by decide, by decide⟩ rfl rfl (Nat.le_of_ble_eq_true rfl) (J.mono (fun v_ w_ hp_ => ?_) H)
            obtain ⟨d_10, u_11, rfl, rfl, H⟩ := hp_
            refine j_iload_n 4 dX4_run_59 rfl rfl ?_
            exact j_iret dX4_run_60 rfl H
        · have H := H.2 c_6
          refine j_iconst (v := (-1)) dX4_run_40 (by decide) ?_
          exact j_iret dX4_run_41 rfl H
set_option maxRecDepth 20000 in
theorem sg_X4_runAll_0 {G : GG} {ad : Nat → Nat} {u : Nat → Nat → Int32} {d : Nat → Nat → Int32} {g1 : Nat → Int32} {l1 : Nat → Int32} {n1 : Int32} {x2 : Int32} {x3 : Int32} {Q : Option Value → va_W → Prop} (H : J G mX4_runAll 3 [(0, .ref (ad 0)), (1, .ref (ad 15)), (2, .int x2), (3, .int x3), (4, .int 0)] [] (stW G ad 0 u d ++ (faW G ad 15 g1 l1 n1)) Q) : J G mX4_runAll 0 [(0, .ref (ad 0)), (1, .ref (ad 15)), (2, .int x2), (3, .int x3)] [] (stW G ad 0 u d ++ (faW G ad 15 g1 l1 n1)) Q := by
  refine j_iconst (v := 0) dX4_runAll_0 (by decide) ?_
  refine j_istore (lo' := [(4, .int 0), (0, .ref (ad 0)), (1, .ref (ad 15)), (2, .int x2), (3, .int x3)]) dX4_runAll_1 (by decide) rfl ?_
  refine j_lo [1, 2, 3, 4, 0] rfl ?_
  exact H
set_option maxRecDepth 20000 in
theorem sg_X4_runAll_3 {G : GG} {ad : Nat → Nat} {u : Nat → Nat → Int32} {d : Nat → Nat → Int32} {g1 : Nat → Int32} {l1 : Nat → Int32} {n1 : Int32} {x2 : Int32} {x3 : Int32} {x4 : Int32} {Q : Option Value → va_W → Prop} (H : (((n1 ≤ x4) → Q none (stW G ad 0 u d ++ (faW G ad 15 g1 l1 n1))) ∧ ((¬ n1 ≤ x4) → (vp_in x4 12) ∧ (((¬ x4 = x2) → (vp_in x4 12) ∧ J G mX4_run 0 [(0, .ref ((pk ad [0, 1, 2, 3, 4, 5, 6, 7, 8, 9, 10, 11, 12, 13, 14]) 0)), (1, .int (g1 (Int32.toNatClampNeg x4))), (2, .int (l1 (Int32.toNatClampNeg x4)))] [] (stW G (pk ad [0, 1, 2, 3, 4, 5, 6, 7, 8, 9, 10, 11, 12, 13, 14]) 0 u d) (fun v_ w_ => ∃ (r_7 : Int32) (d_5 : Nat → Nat → Int32) (u_6 : Nat → Nat → Int32), v_ = some (.int r_7) ∧ w_ = (stW G (pk ad [0, 1, 2, 3, 4, 5, 6, 7, 8, 9, 10, 11, 12, 13, 14]) 0 u_6 d_5) ∧ J G mX4_runAll 3 [(0, .ref (ad 0)), (1, .ref (ad 15)), (2, .int x2), (3, .int x3), (4, .int (x4 + 1))] [] (stW G ad 0 u_6 d_5 ++ (faW G ad 15 g1 l1 n1)) Q)) ∧ ((x4 = x2) → J G mX4_run 0 [(0, .ref ((pk ad [0, 1, 2, 3, 4, 5, 6, 7, 8, 9, 10, 11, 12, 13, 14]) 0)), (1, .int (g1 (Int32.toNatClampNeg x4))), (2, .int x3)] [] (stW G (pk ad [0, 1, 2, 3, 4, 5, 6, 7, 8, 9, 10, 11, 12, 13, 14]) 0 u d) (fun v_ w_ => ∃ (r_10 : Int32) (d_8 : Nat → Nat → Int32) (u_9 : Nat → Nat → Int32), v_ = some (.int r_10) ∧ w_ = (stW G (pk ad [0, 1, 2, 3, 4, 5, 6, 7, 8, 9, 10, 11, 12, 13, 14]) 0 u_9 d_8) ∧ J G mX4_runAll 3 [(0, .ref (ad 0)), (1, .ref (ad 15)), (2, .int x2), (3, .int x3), (4, .int (x4 + 1))] [] (stW G ad 0 u_9 d_8 ++ (faW G ad 15 g1 l1 n1)) Q)))))) : J G mX4_runAll 3 [(0, .ref (ad 0)), (1, .ref (ad 15)), (2, .int x2), (3, .int x3), (4, .int x4)] [] (stW G ad 0 u d ++ (faW G ad 15 g1 l1 n1)) Q := by
  refine j_iload 4 dX4_runAll_3 rfl ?_
  refine j_aload_n 1 dX4_runAll_5 rfl rfl ?_
  refine j_get 15 fl_X4_57 dX4_runAll_6 rfl rfl ?_
  refine j_icmp_ge (tgt := 47) dX4_runAll_9 (by decide) (fun c_1 => ?_) (fun c_1 => ?_)
  · have H := H.1 c_1
    exact j_vret dX4_runAll_47 rfl H
  · have H := H.2 c_1
    refine j_aload_n 0 dX4_runAll_12 rfl rfl ?_
    refine j_aload_n 1 dX4_runAll_13 rfl rfl ?_
    refine j_get 15 fl_X4_63 dX4_runAll_14 rfl rfl ?_
    refine j_iload 4 dX4_runAll_17 rfl ?_
    obtain ⟨h_2, H⟩ := H
    refine j_iald 16 dX4_runAll_19 rfl h_2 ?_
    refine j_iload 4 dX4_runAll_20 rfl ?_
    refine j_iload_n 2 dX4_runAll_22 rfl rfl ?_
    refine j_icmp_ne (tgt := 30) dX4_runAll_23 (by decide) (fun c_3 => ?_) (fun c_3 => ?_)
    · have H := H.1 c_3
      refine j_aload_n 1 dX4_runAll_30 rfl rfl ?_
      refine j_get 15 fl_X4_66 dX4_runAll_31 rfl rfl ?_
      refine j_iload 4 dX4_runAll_34 rfl ?_
      obtain ⟨h_4, H⟩ := H
      refine j_iald 17 dX4_runAll_36 rfl h_4 ?_
      refine j_callV (q0 := 0) (wc := (stW G (pk ad [0, 1, 2, 3, 4, 5, 6, 7, 8, 9, 10, 11, 12, 13, 14]) 0 u d)) (As := [.int (g1 (Int32.toNatClampNeg x4)), .int (l1 (Int32.toNatClampNeg x4))]) (st := []) ml_X4_run vl_X4_69 dX4_runAll_37 [some 0, some 1, some 2, some 3, some 4, some 5, some 6, some 7, some 8, some 9, some 10, some 11, some 12, some 13, some 14] ⟨rfl, Nat.le_of_ble_eq_true rfl, rfl, rfl⟩ rfl rfl rfl (Nat.le_of_ble_eq_true rfl) ⟨by decide, by decide⟩ rfl rfl (Nat.le_of_ble_eq_true rfl) (J.mono (fun v_ w_ hp_ => ?_) H)
      obtain ⟨r_7, d_5, u_6, rfl, rfl, H⟩ := hp_
      refine j_w (w' := (stW G ad 0 u_6 d_5 ++ (faW G ad 15 g1 l1 n1))) rfl ?_
      refine j_pop dX4_runAll_40 rfl ?_
      refine j_iinc (v := (x4 + 1)) (lo' := [(4, .int (x4 + 1)), (0, .ref (ad 0)), (1, .ref (ad 15)), (2, .int x2), (3, .int x3)]) 4 dX4_runAll_41 rfl rfl (by decide) rfl ?_
      refine j_goto (tgt := 3) dX4_runAll_44 (by decide) ?_
      refine j_lo [1, 2, 3, 4, 0] rfl ?_
      exact H
    · have H := H.2 c_3
      refine j_iload_n 3 dX4_runAll_26 rfl rfl ?_
      refine j_goto (tgt := 37) dX4_runAll_27 (by decide) ?_
      refine j_callV (q0 := 0) (wc := (stW G (pk ad [0, 1, 2, 3, 4, 5, 6, 7, 8, 9, 10, 11, 12, 13, 14]) 0 u d)) (As := [.int (g1 (Int32.toNatClampNeg x4)), .int x3]) (st := []) ml_X4_run vl_X4_69 dX4_runAll_37 [some 0, some 1, some 2, some 3, some 4, some 5, some 6, some 7, some 8, some 9, some 10, some 11, some 12, some 13, some 14] ⟨rfl, Nat.le_of_ble_eq_true rfl, rfl, rfl⟩ rfl rfl rfl (Nat.le_of_ble_eq_true rfl) ⟨by decide, by decide⟩ rfl rfl (Nat.le_of_ble_eq_true rfl) (J.mono (fun v_ w_ hp_ => ?_) H)
      obtain ⟨r_10, d_8, u_9, rfl, rfl, H⟩ := hp_
      refine j_w (w' := (stW G ad 0 u_9 d_8 ++ (faW G ad 15 g1 l1 n1))) rfl ?_
      refine j_pop dX4_runAll_40 rfl ?_
      refine j_iinc (v := (x4 + 1)) (lo' := [(4, .int (x4 + 1)), (0, .ref (ad 0)), (1, .ref (ad 15)), (2, .int x2), (3, .int x3)]) 4 dX4_runAll_41 rfl rfl (by decide) rfl ?_
      refine j_goto (tgt := 3) dX4_runAll_44 (by decide) ?_
      refine j_lo [1, 2, 3, 4, 0] rfl ?_
      exact H
set_option maxRecDepth 20000 in
theorem sg_X4_unlikeFlows_0 {G : GG} {ad : Nat → Nat} {u : Nat → Nat → Int32} {d : Nat → Nat → Int32} {u1 : Nat → Nat → Int32} {d1 : Nat → Nat → Int32} {Q : Option Value → va_W → Prop} (H : J G mX4_unlikeFlows 4 [(0, .ref (ad 0)), (1, .ref (ad 15)), (2, .int 0), (3, .int 0)] [] (stW G ad 0 u d ++ (stW G ad 15 u1 d1)) Q) : J G mX4_unlikeFlows 0 [(0, .ref (ad 0)), (1, .ref (ad 15))] [] (stW G ad 0 u d ++ (stW G ad 15 u1 d1)) Q := by
  refine j_iconst (v := 0) dX4_unlikeFlows_0 (by decide) ?_
  refine j_istore_n (lo' := [(2, .int 0), (0, .ref (ad 0)), (1, .ref (ad 15))]) dX4_unlikeFlows_1 rfl (by decide) rfl ?_
  refine j_iconst (v := 0) dX4_unlikeFlows_2 (by decide) ?_
  refine j_istore_n (lo' := [(3, .int 0), (2, .int 0), (0, .ref (ad 0)), (1, .ref (ad 15))]) dX4_unlikeFlows_3 rfl (by decide) rfl ?_
  refine j_lo [2, 3, 1, 0] rfl ?_
  exact H
set_option maxRecDepth 20000 in
theorem sg_X4_unlikeFlows_4 {G : GG} {ad : Nat → Nat} {u : Nat → Nat → Int32} {d : Nat → Nat → Int32} {u1 : Nat → Nat → Int32} {d1 : Nat → Nat → Int32} {x2 : Int32} {x3 : Int32} {Q : Option Value → va_W → Prop} (H : (((6 ≤ x3) → Q (some (.int x2)) (stW G ad 0 u d ++ (stW G ad 15 u1 d1))) ∧ ((¬ 6 ≤ x3) → (vp_in x3 6) ∧ (vp_in x3 6) ∧ (((((u 1) (Int32.toNatClampNeg x3)) = ((u1 1) (Int32.toNatClampNeg x3))) → J G mX4_unlikeFlows 4 [(0, .ref (ad 0)), (1, .ref (ad 15)), (2, .int x2), (3, .int (x3 + 1))] [] (stW G ad 0 u d ++ (stW G ad 15 u1 d1)) Q) ∧ ((¬ ((u 1) (Int32.toNatClampNeg x3)) = ((u1 1) (Int32.toNatClampNeg x3))) → J G mX4_unlikeFlows 4 [(0, .ref (ad 0)), (1, .ref (ad 15)), (2, .int (x2 ||| (1 <<< (x3 &&& 31)))), (3, .int (x3 + 1))] [] (stW G ad 0 u d ++ (stW G ad 15 u1 d1)) Q))))) : J G mX4_unlikeFlows 4 [(0, .ref (ad 0)), (1, .ref (ad 15)), (2, .int x2), (3, .int x3)] [] (stW G ad 0 u d ++ (stW G ad 15 u1 d1)) Q := by
  refine j_iload_n 3 dX4_unlikeFlows_4 rfl rfl ?_
  refine j_bipush (v := 6) dX4_unlikeFlows_5 (by decide) ?_
  refine j_icmp_ge (tgt := 37) dX4_unlikeFlows_7 (by decide) (fun c_1 => ?_) (fun c_1 => ?_)
  · have H := H.1 c_1
    refine j_iload_n 2 dX4_unlikeFlows_37 rfl rfl ?_
    exact j_iret dX4_unlikeFlows_38 rfl H
  · have H := H.2 c_1
    refine j_aload_n 0 dX4_unlikeFlows_10 rfl rfl ?_
    refine j_get 0 fl_X4_15 dX4_unlikeFlows_11 rfl rfl ?_
    refine j_iload_n 3 dX4_unlikeFlows_14 rfl rfl ?_
    obtain ⟨h_2, H⟩ := H
    refine j_iald 2 dX4_unlikeFlows_15 rfl h_2 ?_
    refine j_aload_n 1 dX4_unlikeFlows_16 rfl rfl ?_
    refine j_get 15 fl_X4_15 dX4_unlikeFlows_17 rfl rfl ?_
    refine j_iload_n 3 dX4_unlikeFlows_20 rfl rfl ?_
    obtain ⟨h_3, H⟩ := H
    refine j_iald 17 dX4_unlikeFlows_21 rfl h_3 ?_
    refine j_icmp_eq (tgt := 31) dX4_unlikeFlows_22 (by decide) (fun c_4 => ?_) (fun c_4 => ?_)
    · have H := H.1 c_4
      refine j_iinc (v := (x3 + 1)) (lo' := [(3, .int (x3 + 1)), (0, .ref (ad 0)), (1, .ref (ad 15)), (2, .int x2)]) 3 dX4_unlikeFlows_31 rfl rfl (by decide) rfl ?_
      refine j_goto (tgt := 4) dX4_unlikeFlows_34 (by decide) ?_
      refine j_lo [1, 2, 3, 0] rfl ?_
      exact H
    · have H := H.2 c_4
      refine j_iload_n 2 dX4_unlikeFlows_25 rfl rfl ?_
      refine j_iconst (v := 1) dX4_unlikeFlows_26 (by decide) ?_
      refine j_iload_n 3 dX4_unlikeFlows_27 rfl rfl ?_
      refine j_ishl dX4_unlikeFlows_28 ?_
      refine j_ior dX4_unlikeFlows_29 ?_
      refine j_istore_n (lo' := [(2, .int (x2 ||| (1 <<< (x3 &&& 31)))), (0, .ref (ad 0)), (1, .ref (ad 15)), (3, .int x3)]) dX4_unlikeFlows_30 rfl (by decide) rfl ?_
      refine j_iinc (v := (x3 + 1)) (lo' := [(3, .int (x3 + 1)), (2, .int (x2 ||| (1 <<< (x3 &&& 31)))), (0, .ref (ad 0)), (1, .ref (ad 15))]) 3 dX4_unlikeFlows_31 rfl rfl (by decide) rfl ?_
      refine j_goto (tgt := 4) dX4_unlikeFlows_34 (by decide) ?_
      refine j_lo [2, 3, 1, 0] rfl ?_
      exact H
set_option maxRecDepth 20000 in
theorem sg_X4_wordCode_0 {G : GG} {ad : Nat → Nat} {u : Nat → Nat → Int32} {d : Nat → Nat → Int32} {x1 : Int32} {Q : Option Value → va_W → Prop} (H : J G mX4_wordCode 4 [(0, .ref (ad 0)), (1, .int x1), (2, .int 1), (3, .int 0)] [] (stW G ad 0 u d) Q) : J G mX4_wordCode 0 [(0, .ref (ad 0)), (1, .int x1)] [] (stW G ad 0 u d) Q := by
  refine j_iconst (v := 1) dX4_wordCode_0 (by decide) ?_
  refine j_istore_n (lo' := [(2, .int 1), (0, .ref (ad 0)), (1, .int x1)]) dX4_wordCode_1 rfl (by decide) rfl ?_
  refine j_iconst (v := 0) dX4_wordCode_2 (by decide) ?_
  refine j_istore_n (lo' := [(3, .int 0), (2, .int 1), (0, .ref (ad 0)), (1, .int x1)]) dX4_wordCode_3 rfl (by decide) rfl ?_
  refine j_lo [2, 3, 1, 0] rfl ?_
  exact H
set_option maxRecDepth 20000 in
theorem sg_X4_wordCode_4 {G : GG} {ad : Nat → Nat} {u : Nat → Nat → Int32} {d : Nat → Nat → Int32} {x1 : Int32} {x2 : Int32} {x3 : Int32} {Q : Option Value → va_W → Prop} (H : (vp_in x1 6) ∧ (((((u 6) (Int32.toNatClampNeg x1)) ≤ x3) → Q (some (.int x2)) (stW G ad 0 u d)) ∧ ((¬ ((u 6) (Int32.toNatClampNeg x1)) ≤ x3) → (vp_in x1 6) ∧ (vp_in x3 12) ∧ J G mX4_wordCode 4 [(0, .ref (ad 0)), (1, .int x1), (2, .int ((x2 * 5) + ((d (Int32.toNatClampNeg x1)) (Int32.toNatClampNeg x3)))), (3, .int (x3 + 1))] [] (stW G ad 0 u d) Q))) : J G mX4_wordCode 4 [(0, .ref (ad 0)), (1, .int x1), (2, .int x2), (3, .int x3)] [] (stW G ad 0 u d) Q := by
  refine j_iload_n 3 dX4_wordCode_4 rfl rfl ?_
  refine j_aload_n 0 dX4_wordCode_5 rfl rfl ?_
  refine j_get 0 fl_X4_30 dX4_wordCode_6 rfl rfl ?_
  refine j_iload_n 1 dX4_wordCode_9 rfl rfl ?_
  obtain ⟨h_1, H⟩ := H
  refine j_iald 7 dX4_wordCode_10 rfl h_1 ?_
  refine j_icmp_ge (tgt := 33) dX4_wordCode_11 (by decide) (fun c_2 => ?_) (fun c_2 => ?_)
  · have H := H.1 c_2
    refine j_iload_n 2 dX4_wordCode_33 rfl rfl ?_
    exact j_iret dX4_wordCode_34 rfl H
  · have H := H.2 c_2
    refine j_iload_n 2 dX4_wordCode_14 rfl rfl ?_
    refine j_iconst (v := 5) dX4_wordCode_15 (by decide) ?_
    refine j_imul dX4_wordCode_16 ?_
    refine j_aload_n 0 dX4_wordCode_17 rfl rfl ?_
    refine j_get 0 fl_X4_35 dX4_wordCode_18 rfl rfl ?_
    refine j_iload_n 1 dX4_wordCode_21 rfl rfl ?_
    obtain ⟨h_3, H⟩ := H
    refine j_aald 8 dX4_wordCode_22 rfl h_3 (ow_rf h_3) ?_
    refine j_iload_n 3 dX4_wordCode_23 rfl rfl ?_
    obtain ⟨h_4, H⟩ := H
    refine j_iald (9 + (Int32.toNatClampNeg x1)) dX4_wordCode_24 (row6 (P := fun k_ => (stW G ad 0 u d)[9 + k_]? = some (ad (9 + k_), .inl (G.2.1.1, 12, .inl (d k_)))) rfl rfl rfl rfl rfl rfl (in_lt h_3)) h_4 ?_
    refine j_iadd dX4_wordCode_25 ?_
    refine j_istore_n (lo' := [(2, .int ((x2 * 5) + ((d (Int32.toNatClampNeg x1)) (Int32.toNatClampNeg x3)))), (0, .ref (ad 0)), (1, .int x1), (3, .int x3)]) dX4_wordCode_26 rfl (by decide) rfl ?_
    refine j_iinc (v := (x3 + 1)) (lo' := [(3, .int (x3 + 1)), (2, .int ((x2 * 5) + ((d (Int32.toNatClampNeg x1)) (Int32.toNatClampNeg x3)))), (0, .ref (ad 0)), (1, .int x1)]) 3 dX4_wordCode_27 rfl rfl (by decide) rfl ?_
    refine j_goto (tgt := 4) dX4_wordCode_30 (by decide) ?_
    refine j_lo [2, 3, 1, 0] rfl ?_
    exact H
set_option maxRecDepth 20000 in
theorem sg_X5_add_0 {G : GG} {ad : Nat → Nat} {t : Nat → Int32} {x1 : Int32} {Q : Option Value → va_W → Prop} (H : J G mJ6_bitCount_0f7a4 0 [(0, .int x1)] [] ([] : va_W) (fun v_ w_ => ∃ (r_1 : Int32), v_ = some (.int r_1) ∧ w_ = ([] : va_W) ∧ ((((t 2) = 0) → Q none (tuW G ad 0 (va_up (va_up (va_up t 0 r_1) 1 x1) 2 1))) ∧ ((¬ (t 2) = 0) → ((((t 0) ≤ r_1) → (((¬ r_1 = (t 0)) → Q none (tuW G ad 0 t)) ∧ ((r_1 = (t 0)) → Q none (tuW G ad 0 (va_up (va_up t 1 (if x1 < (t 1) then x1 else (t 1))) 2 ((t 2) + 1)))))) ∧ ((¬ (t 0) ≤ r_1) → Q none (tuW G ad 0 (va_up (va_up (va_up t 0 r_1) 1 x1) 2 1)))))))) : J G mX5_add 0 [(0, .ref (ad 0)), (1, .int x1)] [] (tuW G ad 0 t) Q := by
  refine j_iload_n 1 dX5_add_0 rfl rfl ?_
  refine j_callS0 (As := [.int x1]) (st := []) ml_J6_bitCount_0f7a4 sl_X5_21 dX5_add_1 (Nat.le_of_ble_eq_true rfl) ⟨by decide, by decide⟩ rfl rfl (Nat.le_of_ble_eq_true rfl) (J.mono (fun v_ w_ hp_ => ?_) H)
  obtain ⟨r_1, rfl, rfl, H⟩ := hp_
  refine j_istore_n (lo' := [(2, .int r_1), (0, .ref (ad 0)), (1, .int x1)]) dX5_add_4 rfl (by decide) rfl ?_
  refine j_aload_n 1 dX5_add_5 rfl rfl ?_
  refine j_get 0 fl_X5_18 dX5_add_6 rfl rfl ?_
  refine j_if_eq (tgt := 20) dX5_add_9 (by decide) (fun c_2 => ?_) (fun c_2 => ?_)
  · have H := H.1 c_2
    refine j_aload_n 1 dX5_add_20 rfl rfl ?_
    refine j_iload_n 0 dX5_add_21 rfl rfl ?_
    refine j_put (w' := (tuW G ad 0 (va_up t 0 r_1))) 0 fp_X5_9 dX5_add_22 rfl rfl rfl (Nat.le_of_ble_eq_true rfl) rfl ?_
    refine j_aload_n 1 dX5_add_25 rfl rfl ?_
    refine j_iload_n 2 dX5_add_26 rfl rfl ?_
    refine j_put (w' := (tuW G ad 0 (va_up (va_up t 0 r_1) 1 x1))) 0 fp_X5_15 dX5_add_27 rfl rfl rfl (Nat.le_of_ble_eq_true rfl) rfl ?_
    refine j_aload_n 1 dX5_add_30 rfl rfl ?_
    refine j_iconst (v := 1) dX5_add_31 (by decide) ?_
    refine j_put (w' := (tuW G ad 0 (va_up (va_up (va_up t 0 r_1) 1 x1) 2 1))) 0 fp_X5_18 dX5_add_32 rfl rfl rfl (Nat.le_of_ble_eq_true rfl) rfl ?_
    refine j_goto (tgt := 68) dX5_add_35 (by decide) ?_
    exact j_vret dX5_add_68 rfl H
  · have H := H.2 c_2
    refine j_iload_n 0 dX5_add_12 rfl rfl ?_
    refine j_aload_n 1 dX5_add_13 rfl rfl ?_
    refine j_get 0 fl_X5_9 dX5_add_14 rfl rfl ?_
    refine j_icmp_ge (tgt := 38) dX5_add_17 (by decide) (fun c_3 => ?_) (fun c_3 => ?_)
    · have H := H.1 c_3
      refine j_iload_n 0 dX5_add_38 rfl rfl ?_
      refine j_aload_n 1 dX5_add_39 rfl rfl ?_
      refine j_get 0 fl_X5_9 dX5_add_40 rfl rfl ?_
      refine j_icmp_ne (tgt := 68) dX5_add_43 (by decide) (fun c_4 => ?_) (fun c_4 => ?_)
      · have H := H.1 c_4
        exact j_vret dX5_add_68 rfl H
      · have H := H.2 c_4
        refine j_aload_n 1 dX5_add_46 rfl rfl ?_
        refine j_aload_n 1 dX5_add_47 rfl rfl ?_
        refine j_get 0 fl_X5_15 dX5_add_48 rfl rfl ?_
        refine j_iload_n 2 dX5_add_51 rfl rfl ?_
        refine j_mmin mm_X5_27 mmin_w dX5_add_52 (by decide) (Nat.le_of_ble_eq_true rfl) ?_
        refine j_put (w' := (tuW G ad 0 (va_up t 1 (if x1 < (t 1) then x1 else (t 1))))) 0 fp_X5_15 dX5_add_55 rfl rfl rfl (Nat.le_of_ble_eq_true rfl) rfl ?_
        refine j_aload_n 1 dX5_add_58 rfl rfl ?_
        refine j_dup dX5_add_59 rfl ?_
        refine j_get 0 fl_X5_18 dX5_add_60 rfl rfl ?_
        refine j_iconst (v := 1) dX5_add_63 (by decide) ?_
        refine j_iadd dX5_add_64 ?_
        refine j_put (w' := (tuW G ad 0 (va_up (va_up t 1 (if x1 < (t 1) then x1 else (t 1))) 2 ((t 2) + 1)))) 0 fp_X5_18 dX5_add_65 rfl rfl rfl (Nat.le_of_ble_eq_true rfl) rfl ?_
        exact j_vret dX5_add_68 rfl H
    · have H := H.2 c_3
      refine j_aload_n 1 dX5_add_20 rfl rfl ?_
      refine j_iload_n 0 dX5_add_21 rfl rfl ?_
      refine j_put (w' := (tuW G ad 0 (va_up t 0 r_1))) 0 fp_X5_9 dX5_add_22 rfl rfl rfl (Nat.le_of_ble_eq_true rfl) rfl ?_
      refine j_aload_n 1 dX5_add_25 rfl rfl ?_
      refine j_iload_n 2 dX5_add_26 rfl rfl ?_
      refine j_put (w' := (tuW G ad 0 (va_up (va_up t 0 r_1) 1 x1))) 0 fp_X5_15 dX5_add_27 rfl rfl rfl (Nat.le_of_ble_eq_true rfl) rfl ?_
      refine j_aload_n 1 dX5_add_30 rfl rfl ?_
      refine j_iconst (v := 1) dX5_add_31 (by decide) ?_
      refine j_put (w' := (tuW G ad 0 (va_up (va_up (va_up t 0 r_1) 1 x1) 2 1))) 0 fp_X5_18 dX5_add_32 rfl rfl rfl (Nat.le_of_ble_eq_true rfl) rfl ?_
      refine j_goto (tgt := 68) dX5_add_35 (by decide) ?_
      exact j_vret dX5_add_68 rfl H
set_option maxRecDepth 20000 in
theorem sg_X5_clear_0 {G : GG} {ad : Nat → Nat} {t : Nat → Int32} {Q : Option Value → va_W → Prop} (H : Q none (tuW G ad 0 (va_up (va_up (va_up t 0 6) 1 0) 2 0))) : J G mX5_clear 0 [(0, .ref (ad 0))] [] (tuW G ad 0 t) Q := by
  refine j_aload_n 0 dX5_clear_0 rfl rfl ?_
  refine j_bipush (v := 6) dX5_clear_1 (by decide) ?_
  refine j_put (w' := (tuW G ad 0 (va_up t 0 6))) 0 fp_X5_9 dX5_clear_3 rfl rfl rfl (Nat.le_of_ble_eq_true rfl) rfl ?_
  refine j_aload_n 0 dX5_clear_6 rfl rfl ?_
  refine j_iconst (v := 0) dX5_clear_7 (by decide) ?_
  refine j_put (w' := (tuW G ad 0 (va_up (va_up t 0 6) 1 0))) 0 fp_X5_15 dX5_clear_8 rfl rfl rfl (Nat.le_of_ble_eq_true rfl) rfl ?_
  refine j_aload_n 0 dX5_clear_11 rfl rfl ?_
  refine j_iconst (v := 0) dX5_clear_12 (by decide) ?_
  refine j_put (w' := (tuW G ad 0 (va_up (va_up (va_up t 0 6) 1 0) 2 0))) 0 fp_X5_18 dX5_clear_13 rfl rfl rfl (Nat.le_of_ble_eq_true rfl) rfl ?_
  exact j_vret dX5_clear_16 rfl H
set_option maxRecDepth 20000 in
theorem sg_X5_tell_0 {G : GG} {ad : Nat → Nat} {t : Nat → Int32} {x1 : Int32} {Q : Option Value → va_W → Prop} (H : (((¬ (t 2) = 0) → (((x1 = 0) → Q (some (.int (t 0))) (tuW G ad 0 t)) ∧ ((x1 = 1) → Q (some (.int (t 1))) (tuW G ad 0 t)) ∧ ((¬ x1 = 0 ∧ ¬ x1 = 1) → Q (some (.int (t 2))) (tuW G ad 0 t)))) ∧ (((t 2) = 0) → Q (some (.int (-1))) (tuW G ad 0 t)))) : J G mX5_tell 0 [(0, .ref (ad 0)), (1, .int x1)] [] (tuW G ad 0 t) Q := by
  refine j_aload_n 0 dX5_tell_0 rfl rfl ?_
  refine j_get 0 fl_X5_18 dX5_tell_1 rfl rfl ?_
  refine j_if_ne (tgt := 9) dX5_tell_4 (by decide) (fun c_1 => ?_) (fun c_1 => ?_)
  · have H := H.1 c_1
    refine j_iload_n 1 dX5_tell_9 rfl rfl ?_
    refine j_lsw2 (v0 := 0) (v1 := 1) (t0 := 36) (t1 := 41) (dt := 46) dX5_tell_10 (by decide) (by decide) (by decide) (by decide) (fun hx => ?_) (fun hx => ?_) (fun hx => ?_)
    · have H := H.1 hx
      refine j_aload_n 0 dX5_tell_36 rfl rfl ?_
      refine j_get 0 fl_X5_9 dX5_tell_37 rfl rfl ?_
      exact j_iret dX5_tell_40 rfl H
    · have H := H.2.1 hx
      refine j_aload_n 0 dX5_tell_41 rfl rfl ?_
      refine j_get 0 fl_X5_15 dX5_tell_42 rfl rfl ?_
      exact j_iret dX5_tell_45 rfl H
    · have H := H.2.2 hx
      refine j_aload_n 0 dX5_tell_46 rfl rfl ?_
      refine j_get 0 fl_X5_18 dX5_tell_47 rfl rfl ?_
      exact j_iret dX5_tell_50 rfl H
  · have H := H.2 c_1
    refine j_iconst (v := (-1)) dX5_tell_7 (by decide) ?_
    exact j_iret dX5_tell_8 rfl H
end
