set_option maxRecDepth 20000 in
theorem tb_0 : (Jvm.Cond.selects "RainLetters$Page" ⟨"RainLetters$Page", "fitsStreet", "(I)Z"⟩ ⟨"RainLetters$Page", "fitsStreet", "(I)Z"⟩) ∈ tb := tb_in 0 rfl rfl
set_option maxRecDepth 20000 in
theorem tb_1 : (Jvm.Cond.selects "RainLetters$Page" ⟨"RainLetters$Page", "fitsWord", "(I)Z"⟩ ⟨"RainLetters$Page", "fitsWord", "(I)Z"⟩) ∈ tb := tb_in 1 rfl rfl
set_option maxRecDepth 20000 in
theorem tb_2 : (Jvm.Cond.selects "RainLetters" ⟨"RainLetters", "isGutter", "(I)Z"⟩ ⟨"RainLetters", "isGutter", "(I)Z"⟩) ∈ tb := tb_in 2 rfl rfl
set_option maxRecDepth 20000 in
theorem tb_3 : (Jvm.Cond.selects "RainLetters" ⟨"RainLetters", "hasStreet", "()Z"⟩ ⟨"RainLetters", "hasStreet", "()Z"⟩) ∈ tb := tb_in 3 rfl rfl
set_option maxRecDepth 20000 in
theorem tb_4 : (Jvm.Cond.selects "RainLetters$Street" ⟨"RainLetters$Street", "passOn", "(II)I"⟩ ⟨"RainLetters$Street", "passOn", "(II)I"⟩) ∈ tb := tb_in 4 rfl rfl
set_option maxRecDepth 20000 in
theorem tb_5 : (Jvm.Cond.selects "RainLetters$Street" ⟨"RainLetters$Street", "letsThrough", "(II)Z"⟩ ⟨"RainLetters$Street", "letsThrough", "(II)Z"⟩) ∈ tb := tb_in 5 rfl rfl
set_option maxRecDepth 20000 in
theorem tb_6 : (Jvm.Cond.selects "RainLetters$Street" ⟨"RainLetters$Street", "runOut", "(II)V"⟩ ⟨"RainLetters$Street", "runOut", "(II)V"⟩) ∈ tb := tb_in 6 rfl rfl
set_option maxRecDepth 20000 in
theorem tb_7 : (Jvm.Cond.selects "RainLetters" ⟨"RainLetters", "isDrop", "(I)Z"⟩ ⟨"RainLetters", "isDrop", "(I)Z"⟩) ∈ tb := tb_in 7 rfl rfl
set_option maxRecDepth 20000 in
theorem tb_8 : (Jvm.Cond.selects "RainLetters" ⟨"RainLetters", "seekTurns", "(I)V"⟩ ⟨"RainLetters", "seekTurns", "(I)V"⟩) ∈ tb := tb_in 8 rfl rfl
set_option maxRecDepth 20000 in
theorem tb_9 : (Jvm.Cond.selects "RainLetters" ⟨"RainLetters", "countWords", "(I)I"⟩ ⟨"RainLetters", "countWords", "(I)I"⟩) ∈ tb := tb_in 9 rfl rfl
set_option maxRecDepth 20000 in
theorem tb_10 : (Jvm.Cond.selects "RainLetters" ⟨"RainLetters", "runMixed", "(II)V"⟩ ⟨"RainLetters", "runMixed", "(II)V"⟩) ∈ tb := tb_in 10 rfl rfl
set_option maxRecDepth 20000 in
theorem tb_11 : (Jvm.Cond.selects "RainLetters" ⟨"RainLetters", "noteWord", "(I)Z"⟩ ⟨"RainLetters", "noteWord", "(I)Z"⟩) ∈ tb := tb_in 11 rfl rfl
set_option maxRecDepth 20000 in
theorem tb_12 : (Jvm.Cond.selects "RainLetters" ⟨"RainLetters", "mixGutters", "(J)J"⟩ ⟨"RainLetters", "mixGutters", "(J)J"⟩) ∈ tb := tb_in 12 rfl rfl
set_option maxRecDepth 20000 in
theorem tb_13 : (Jvm.Cond.selects "RainLetters" ⟨"RainLetters", "mixDrops", "(J)J"⟩ ⟨"RainLetters", "mixDrops", "(J)J"⟩) ∈ tb := tb_in 13 rfl rfl
set_option maxRecDepth 20000 in
theorem tb_14 : (Jvm.Cond.selects "RainLettersModel" ⟨"RainLettersModel", "faultOf", "(I)I"⟩ ⟨"RainLettersModel", "faultOf", "(I)I"⟩) ∈ tb := tb_in 14 rfl rfl
set_option maxRecDepth 20000 in
theorem tb_15 : (Jvm.Cond.selects "RainLettersModel" ⟨"RainLettersModel", "outs", "()I"⟩ ⟨"RainLettersModel", "outs", "()I"⟩) ∈ tb := tb_in 15 rfl rfl
set_option maxRecDepth 20000 in
theorem tb_16 : (Jvm.Cond.selects "RainLettersModel" ⟨"RainLettersModel", "isGutter", "(I)Z"⟩ ⟨"RainLettersModel", "isGutter", "(I)Z"⟩) ∈ tb := tb_in 16 rfl rfl
set_option maxRecDepth 20000 in
theorem tb_17 : (Jvm.Cond.selects "RainLettersModel" ⟨"RainLettersModel", "tell", "(II)I"⟩ ⟨"RainLettersModel", "tell", "(II)I"⟩) ∈ tb := tb_in 17 rfl rfl
set_option maxRecDepth 20000 in
theorem tb_18 : (Jvm.Cond.selects "RainLettersModel" ⟨"RainLettersModel", "isPageWord", "()Z"⟩ ⟨"RainLettersModel", "isPageWord", "()Z"⟩) ∈ tb := tb_in 18 rfl rfl
set_option maxRecDepth 20000 in
theorem tb_19 : (Jvm.Cond.selects "RainLettersModel" ⟨"RainLettersModel", "asItIs", "()V"⟩ ⟨"RainLettersModel", "asItIs", "()V"⟩) ∈ tb := tb_in 19 rfl rfl
set_option maxRecDepth 20000 in
theorem tb_20 : (Jvm.Cond.selects "RainLettersModel" ⟨"RainLettersModel", "layWays", "(I)I"⟩ ⟨"RainLettersModel", "layWays", "(I)I"⟩) ∈ tb := tb_in 20 rfl rfl
set_option maxRecDepth 20000 in
theorem tb_21 : (Jvm.Cond.selects "RainLettersModel" ⟨"RainLettersModel", "fallsAgain", "()V"⟩ ⟨"RainLettersModel", "fallsAgain", "()V"⟩) ∈ tb := tb_in 21 rfl rfl
set_option maxRecDepth 20000 in
theorem tb_22 : (Jvm.Cond.selects "RainLettersModel" ⟨"RainLettersModel", "hasPage", "(I)Z"⟩ ⟨"RainLettersModel", "hasPage", "(I)Z"⟩) ∈ tb := tb_in 22 rfl rfl
set_option maxRecDepth 20000 in
theorem tb_23 : (Jvm.Cond.selects "RainLettersModel" ⟨"RainLettersModel", "isOrder", "(II)Z"⟩ ⟨"RainLettersModel", "isOrder", "(II)Z"⟩) ∈ tb := tb_in 23 rfl rfl
set_option maxRecDepth 20000 in
theorem tb_24 : (Jvm.Cond.selects "RainLettersModel" ⟨"RainLettersModel", "wordOf", "(I)I"⟩ ⟨"RainLettersModel", "wordOf", "(I)I"⟩) ∈ tb := tb_in 24 rfl rfl
set_option maxRecDepth 20000 in
theorem tb_25 : (Jvm.Cond.selects "RainLettersModel" ⟨"RainLettersModel", "founds", "()I"⟩ ⟨"RainLettersModel", "founds", "()I"⟩) ∈ tb := tb_in 25 rfl rfl
set_option maxRecDepth 20000 in
theorem tb_26 : (Jvm.Cond.selects "RainLettersModel" ⟨"RainLettersModel", "kindBits", "(I)I"⟩ ⟨"RainLettersModel", "kindBits", "(I)I"⟩) ∈ tb := tb_in 26 rfl rfl
set_option maxRecDepth 20000 in
theorem tb_27 : (Jvm.Cond.selects "RainLettersModel" ⟨"RainLettersModel", "isFound", "()Z"⟩ ⟨"RainLettersModel", "isFound", "()Z"⟩) ∈ tb := tb_in 27 rfl rfl
set_option maxRecDepth 20000 in
theorem tb_28 : (Jvm.Cond.selects "RainLettersModel" ⟨"RainLettersModel", "letterBits", "(I)I"⟩ ⟨"RainLettersModel", "letterBits", "(I)I"⟩) ∈ tb := tb_in 28 rfl rfl
set_option maxRecDepth 20000 in
theorem tb_29 : (Jvm.Cond.selects "RainLettersModel" ⟨"RainLettersModel", "draw", "(I)I"⟩ ⟨"RainLettersModel", "draw", "(I)I"⟩) ∈ tb := tb_in 29 rfl rfl
set_option maxRecDepth 20000 in
theorem tb_30 : (Jvm.Cond.selects "RainLettersModel" ⟨"RainLettersModel", "countOf", "(I)I"⟩ ⟨"RainLettersModel", "countOf", "(I)I"⟩) ∈ tb := tb_in 30 rfl rfl
set_option maxRecDepth 20000 in
theorem tb_31 : (Jvm.Cond.selects "RainLettersModel" ⟨"RainLettersModel", "sayGutter", "(I)V"⟩ ⟨"RainLettersModel", "sayGutter", "(I)V"⟩) ∈ tb := tb_in 31 rfl rfl
set_option maxRecDepth 20000 in
theorem tb_32 : (Jvm.Cond.selects "RainLettersModel" ⟨"RainLettersModel", "say", "(J)V"⟩ ⟨"RainLettersModel", "say", "(J)V"⟩) ∈ tb := tb_in 32 rfl rfl
set_option maxRecDepth 20000 in
theorem tb_34 : (Jvm.Cond.initialized "RainLetters") ∈ tb := tb_in 34 rfl rfl
set_option maxRecDepth 20000 in
theorem tb_35 : (Jvm.Cond.initialized "RainLetters$Page") ∈ tb := tb_in 35 rfl rfl
set_option maxRecDepth 20000 in
theorem tb_36 : (Jvm.Cond.initialized "RainLetters$Scene") ∈ tb := tb_in 36 rfl rfl
set_option maxRecDepth 20000 in
theorem tb_37 : (Jvm.Cond.initialized "RainLetters$Street") ∈ tb := tb_in 37 rfl rfl
set_option maxRecDepth 20000 in
theorem tb_38 : (Jvm.Cond.initialized "RainLetters$Fallen") ∈ tb := tb_in 38 rfl rfl
set_option maxRecDepth 20000 in
theorem tb_39 : (Jvm.Cond.initialized "RainLetters$Finds") ∈ tb := tb_in 39 rfl rfl
set_option maxRecDepth 20000 in
theorem tb_40 : (Jvm.Cond.initialized "java/util/Arrays") ∈ tb := tb_in 40 rfl rfl
set_option maxRecDepth 20000 in
theorem tb_41 : (Jvm.Cond.initialized "RainLetters$Turns") ∈ tb := tb_in 41 rfl rfl
set_option maxRecDepth 20000 in
theorem tb_42 : (Jvm.Cond.initialized "RainLettersModel") ∈ tb := tb_in 42 rfl rfl
set_option maxRecDepth 20000 in
theorem tb_43 : (Jvm.Cond.initialized "java/lang/String") ∈ tb := tb_in 43 rfl rfl
set_option maxRecDepth 20000 in
theorem tb_44 : (Jvm.Cond.initialized "java/lang/StringLatin1") ∈ tb := tb_in 44 rfl rfl
set_option maxRecDepth 20000 in
theorem tb_45 : (Jvm.Cond.initialized "java/lang/Math") ∈ tb := tb_in 45 rfl rfl
set_option maxRecDepth 20000 in
theorem tb_49 : (Jvm.Cond.initialized "java/lang/System") ∈ tb := tb_in 49 rfl rfl
set_option maxRecDepth 20000 in
theorem tb_50 : (Jvm.Cond.initialized "java/lang/Integer") ∈ tb := tb_in 50 rfl rfl
set_option maxRecDepth 20000 in
theorem tb_65 : (Jvm.Cond.fieldLink "RainLetters$Page" (9 : Nat) "RainLetters$Page" "codes" "[I") ∈ tb := tb_in 65 rfl rfl
set_option maxRecDepth 20000 in
theorem tb_66 : (Jvm.Cond.fieldLink "RainLetters" (54 : Nat) "RainLetters$Page" "codes" "[I") ∈ tb := tb_in 66 rfl rfl
set_option maxRecDepth 20000 in
theorem tb_67 : (Jvm.Cond.fieldLink "RainLetters$Page" (15 : Nat) "RainLetters$Page" "size" "I") ∈ tb := tb_in 67 rfl rfl
set_option maxRecDepth 20000 in
theorem tb_68 : (Jvm.Cond.fieldLink "RainLetters" (50 : Nat) "RainLetters$Page" "size" "I") ∈ tb := tb_in 68 rfl rfl
set_option maxRecDepth 20000 in
theorem tb_89 : (Jvm.Cond.fieldLink "RainLetters$Street" (9 : Nat) "RainLetters$Street" "kinds" "[I") ∈ tb := tb_in 89 rfl rfl
set_option maxRecDepth 20000 in
theorem tb_90 : (Jvm.Cond.fieldLink "RainLetters" (68 : Nat) "RainLetters$Street" "kinds" "[I") ∈ tb := tb_in 90 rfl rfl
set_option maxRecDepth 20000 in
theorem tb_91 : (Jvm.Cond.fieldLink "RainLetters$Street" (15 : Nat) "RainLetters$Street" "flows" "[I") ∈ tb := tb_in 91 rfl rfl
set_option maxRecDepth 20000 in
theorem tb_92 : (Jvm.Cond.fieldLink "RainLetters" (74 : Nat) "RainLetters$Street" "flows" "[I") ∈ tb := tb_in 92 rfl rfl
set_option maxRecDepth 20000 in
theorem tb_93 : (Jvm.Cond.fieldLink "RainLetters$Street" (18 : Nat) "RainLetters$Street" "held" "[I") ∈ tb := tb_in 93 rfl rfl
set_option maxRecDepth 20000 in
theorem tb_94 : (Jvm.Cond.fieldLink "RainLetters" (116 : Nat) "RainLetters$Street" "held" "[I") ∈ tb := tb_in 94 rfl rfl
set_option maxRecDepth 20000 in
theorem tb_95 : (Jvm.Cond.fieldLink "RainLetters$Street" (21 : Nat) "RainLetters$Street" "sieved" "[I") ∈ tb := tb_in 95 rfl rfl
set_option maxRecDepth 20000 in
theorem tb_96 : (Jvm.Cond.fieldLink "RainLetters$Street" (24 : Nat) "RainLetters$Street" "came" "[I") ∈ tb := tb_in 96 rfl rfl
set_option maxRecDepth 20000 in
theorem tb_97 : (Jvm.Cond.fieldLink "RainLetters" (113 : Nat) "RainLetters$Street" "came" "[I") ∈ tb := tb_in 97 rfl rfl
set_option maxRecDepth 20000 in
theorem tb_98 : (Jvm.Cond.fieldLink "RainLetters$Street" (27 : Nat) "RainLetters$Street" "lost" "[I") ∈ tb := tb_in 98 rfl rfl
set_option maxRecDepth 20000 in
theorem tb_99 : (Jvm.Cond.fieldLink "RainLetters" (122 : Nat) "RainLetters$Street" "lost" "[I") ∈ tb := tb_in 99 rfl rfl
set_option maxRecDepth 20000 in
theorem tb_100 : (Jvm.Cond.fieldLink "RainLetters$Street" (30 : Nat) "RainLetters$Street" "lengths" "[I") ∈ tb := tb_in 100 rfl rfl
set_option maxRecDepth 20000 in
theorem tb_101 : (Jvm.Cond.fieldLink "RainLetters" (119 : Nat) "RainLetters$Street" "lengths" "[I") ∈ tb := tb_in 101 rfl rfl
set_option maxRecDepth 20000 in
theorem tb_102 : (Jvm.Cond.fieldLink "RainLetters$Street" (35 : Nat) "RainLetters$Street" "words" "[[I") ∈ tb := tb_in 102 rfl rfl
set_option maxRecDepth 20000 in
theorem tb_103 : (Jvm.Cond.fieldLink "RainLetters" (125 : Nat) "RainLetters$Street" "words" "[[I") ∈ tb := tb_in 103 rfl rfl
set_option maxRecDepth 20000 in
theorem tb_127 : (Jvm.Cond.fieldLink "RainLetters$Fallen" (9 : Nat) "RainLetters$Fallen" "gutters" "[I") ∈ tb := tb_in 127 rfl rfl
set_option maxRecDepth 20000 in
theorem tb_128 : (Jvm.Cond.fieldLink "RainLetters$Street" (63 : Nat) "RainLetters$Fallen" "gutters" "[I") ∈ tb := tb_in 128 rfl rfl
set_option maxRecDepth 20000 in
theorem tb_129 : (Jvm.Cond.fieldLink "RainLetters" (142 : Nat) "RainLetters$Fallen" "gutters" "[I") ∈ tb := tb_in 129 rfl rfl
set_option maxRecDepth 20000 in
theorem tb_130 : (Jvm.Cond.fieldLink "RainLetters$Fallen" (15 : Nat) "RainLetters$Fallen" "letters" "[I") ∈ tb := tb_in 130 rfl rfl
set_option maxRecDepth 20000 in
theorem tb_131 : (Jvm.Cond.fieldLink "RainLetters$Street" (66 : Nat) "RainLetters$Fallen" "letters" "[I") ∈ tb := tb_in 131 rfl rfl
set_option maxRecDepth 20000 in
theorem tb_132 : (Jvm.Cond.fieldLink "RainLetters" (145 : Nat) "RainLetters$Fallen" "letters" "[I") ∈ tb := tb_in 132 rfl rfl
set_option maxRecDepth 20000 in
theorem tb_133 : (Jvm.Cond.fieldLink "RainLetters$Fallen" (18 : Nat) "RainLetters$Fallen" "size" "I") ∈ tb := tb_in 133 rfl rfl
set_option maxRecDepth 20000 in
theorem tb_134 : (Jvm.Cond.fieldLink "RainLetters" (88 : Nat) "RainLetters$Fallen" "size" "I") ∈ tb := tb_in 134 rfl rfl
set_option maxRecDepth 20000 in
theorem tb_135 : (Jvm.Cond.fieldLink "RainLetters$Street" (57 : Nat) "RainLetters$Fallen" "size" "I") ∈ tb := tb_in 135 rfl rfl
set_option maxRecDepth 20000 in
theorem tb_150 : (Jvm.Cond.methodLink "RainLetters$Finds" (20 : Nat) ({ cls := "RainLetters$Finds", name := "clear", desc := "()V" } : Jvm.MethodName)) ∈ tb := tb_in 150 rfl rfl
set_option maxRecDepth 20000 in
theorem tb_151 : (Jvm.Cond.instanceMethod ({ cls := "RainLetters$Finds", name := "clear", desc := "()V" } : Jvm.MethodName)) ∈ tb := tb_in 151 rfl rfl
set_option maxRecDepth 20000 in
theorem tb_152 : (Jvm.Cond.selects "RainLetters$Finds" ({ cls := "RainLetters$Finds", name := "clear", desc := "()V" } : Jvm.MethodName) ({ cls := "RainLetters$Finds", name := "clear", desc := "()V" } : Jvm.MethodName)) ∈ tb := tb_in 152 rfl rfl
set_option maxRecDepth 20000 in
theorem tb_153 : (Jvm.Cond.code ({ cls := "RainLetters$Finds", name := "clear", desc := "()V" } : Jvm.MethodName) prog_3_method_2_code (1 : Nat) (Option.none : Option Jvm.ClassFile.FieldType)) ∈ tb := tb_in 153 rfl rfl
set_option maxRecDepth 20000 in
theorem tb_154 : (Jvm.Cond.methodLink "RainLetters$Finds" (23 : Nat) ({ cls := "java/util/Arrays", name := "fill", desc := "([II)V" } : Jvm.MethodName)) ∈ tb := tb_in 154 rfl rfl
set_option maxRecDepth 20000 in
theorem tb_155 : (Jvm.Cond.static ({ cls := "java/util/Arrays", name := "fill", desc := "([II)V" } : Jvm.MethodName)) ∈ tb := tb_in 155 rfl rfl
set_option maxRecDepth 20000 in
theorem tb_156 : (Jvm.Cond.code ({ cls := "java/util/Arrays", name := "fill", desc := "([II)V" } : Jvm.MethodName) prog_17_method_103_code (4 : Nat) (Option.none : Option Jvm.ClassFile.FieldType)) ∈ tb := tb_in 156 rfl rfl
set_option maxRecDepth 20000 in
theorem tb_157 : (Jvm.Cond.fieldLink "RainLetters$Finds" (11 : Nat) "RainLetters$Finds" "words" "[[I") ∈ tb := tb_in 157 rfl rfl
set_option maxRecDepth 20000 in
theorem tb_158 : (Jvm.Cond.fieldLink "RainLetters" (181 : Nat) "RainLetters$Finds" "words" "[[I") ∈ tb := tb_in 158 rfl rfl
set_option maxRecDepth 20000 in
theorem tb_159 : (Jvm.Cond.fieldLink "RainLetters$Finds" (16 : Nat) "RainLetters$Finds" "lengths" "[I") ∈ tb := tb_in 159 rfl rfl
set_option maxRecDepth 20000 in
theorem tb_160 : (Jvm.Cond.fieldLink "RainLetters" (186 : Nat) "RainLetters$Finds" "lengths" "[I") ∈ tb := tb_in 160 rfl rfl
set_option maxRecDepth 20000 in
theorem tb_166 : (Jvm.Cond.fieldLink "RainLetters$Scene" (10 : Nat) "RainLetters$Scene" "street" "LRainLetters$Street;") ∈ tb := tb_in 166 rfl rfl
set_option maxRecDepth 20000 in
theorem tb_167 : (Jvm.Cond.fieldLink "RainLetters" (65 : Nat) "RainLetters$Scene" "street" "LRainLetters$Street;") ∈ tb := tb_in 167 rfl rfl
set_option maxRecDepth 20000 in
theorem tb_168 : (Jvm.Cond.fieldLink "RainLetters$Scene" (19 : Nat) "RainLetters$Scene" "fallen" "LRainLetters$Fallen;") ∈ tb := tb_in 168 rfl rfl
set_option maxRecDepth 20000 in
theorem tb_169 : (Jvm.Cond.fieldLink "RainLetters" (84 : Nat) "RainLetters$Scene" "fallen" "LRainLetters$Fallen;") ∈ tb := tb_in 169 rfl rfl
set_option maxRecDepth 20000 in
theorem tb_170 : (Jvm.Cond.fieldLink "RainLetters$Scene" (26 : Nat) "RainLetters$Scene" "finds" "LRainLetters$Finds;") ∈ tb := tb_in 170 rfl rfl
set_option maxRecDepth 20000 in
theorem tb_171 : (Jvm.Cond.fieldLink "RainLetters" (91 : Nat) "RainLetters$Scene" "finds" "LRainLetters$Finds;") ∈ tb := tb_in 171 rfl rfl
set_option maxRecDepth 20000 in
theorem tb_187 : (Jvm.Cond.fieldLink "RainLetters$Turns" (9 : Nat) "RainLetters$Turns" "few" "I") ∈ tb := tb_in 187 rfl rfl
set_option maxRecDepth 20000 in
theorem tb_188 : (Jvm.Cond.fieldLink "RainLetters" (255 : Nat) "RainLetters$Turns" "few" "I") ∈ tb := tb_in 188 rfl rfl
set_option maxRecDepth 20000 in
theorem tb_189 : (Jvm.Cond.fieldLink "RainLetters$Turns" (15 : Nat) "RainLetters$Turns" "bits" "I") ∈ tb := tb_in 189 rfl rfl
set_option maxRecDepth 20000 in
theorem tb_190 : (Jvm.Cond.fieldLink "RainLetters$Turns" (18 : Nat) "RainLetters$Turns" "ways" "I") ∈ tb := tb_in 190 rfl rfl
set_option maxRecDepth 20000 in
theorem tb_198 : (Jvm.Cond.fieldLink "RainLetters" (10 : Nat) "RainLetters" "page" "LRainLetters$Page;") ∈ tb := tb_in 198 rfl rfl
set_option maxRecDepth 20000 in
theorem tb_199 : (Jvm.Cond.fieldLink "RainLetters" (19 : Nat) "RainLetters" "now" "LRainLetters$Scene;") ∈ tb := tb_in 199 rfl rfl
set_option maxRecDepth 20000 in
theorem tb_200 : (Jvm.Cond.fieldLink "RainLetters" (23 : Nat) "RainLetters" "kept" "LRainLetters$Scene;") ∈ tb := tb_in 200 rfl rfl
set_option maxRecDepth 20000 in
theorem tb_201 : (Jvm.Cond.fieldLink "RainLetters" (29 : Nat) "RainLetters" "trial" "LRainLetters$Street;") ∈ tb := tb_in 201 rfl rfl
set_option maxRecDepth 20000 in
theorem tb_202 : (Jvm.Cond.fieldLink "RainLetters" (36 : Nat) "RainLetters" "turns" "LRainLetters$Turns;") ∈ tb := tb_in 202 rfl rfl
set_option maxRecDepth 20000 in
theorem tb_203 : (Jvm.Cond.fieldLink "RainLetters" (40 : Nat) "RainLetters" "wanted" "[I") ∈ tb := tb_in 203 rfl rfl
set_option maxRecDepth 20000 in
theorem tb_204 : (Jvm.Cond.fieldLink "RainLetters" (44 : Nat) "RainLetters" "left" "[I") ∈ tb := tb_in 204 rfl rfl
set_option maxRecDepth 20000 in
theorem tb_205 : (Jvm.Cond.fieldLink "RainLetters" (47 : Nat) "RainLetters" "seenWords" "[I") ∈ tb := tb_in 205 rfl rfl
set_option maxRecDepth 20000 in
theorem tb_206 : (Jvm.Cond.fieldLink "RainLetters" (98 : Nat) "RainLetters" "imageKept" "Z") ∈ tb := tb_in 206 rfl rfl
set_option maxRecDepth 20000 in
theorem tb_207 : (Jvm.Cond.fieldLink "RainLetters" (102 : Nat) "RainLetters" "streetsRead" "I") ∈ tb := tb_in 207 rfl rfl
set_option maxRecDepth 20000 in
theorem tb_208 : (Jvm.Cond.fieldLink "RainLetters" (154 : Nat) "RainLetters" "fewTurnsDone" "I") ∈ tb := tb_in 208 rfl rfl
set_option maxRecDepth 20000 in
theorem tb_209 : (Jvm.Cond.fieldLink "RainLetters" (164 : Nat) "RainLetters" "ordersDone" "I") ∈ tb := tb_in 209 rfl rfl
set_option maxRecDepth 20000 in
theorem tb_238 : (Jvm.Cond.code ({ cls := "RainLetters", name := "letter", desc := "(I)I" } : Jvm.MethodName) prog_1_method_2_code (2 : Nat) (Option.some Jvm.ClassFile.FieldType.int)) ∈ tb := tb_in 238 rfl rfl
set_option maxRecDepth 20000 in
theorem tb_242 : (Jvm.Cond.code ({ cls := "RainLetters", name := "blank", desc := "()I" } : Jvm.MethodName) prog_1_method_3_code (2 : Nat) (Option.some Jvm.ClassFile.FieldType.int)) ∈ tb := tb_in 242 rfl rfl
set_option maxRecDepth 20000 in
theorem tb_246 : (Jvm.Cond.code ({ cls := "RainLetters", name := "fault", desc := "(I)I" } : Jvm.MethodName) prog_1_method_4_code (2 : Nat) (Option.some Jvm.ClassFile.FieldType.int)) ∈ tb := tb_in 246 rfl rfl
set_option maxRecDepth 20000 in
theorem tb_247 : (Jvm.Cond.methodLink "RainLetters" (57 : Nat) ({ cls := "RainLetters$Page", name := "firstFault", desc := "(I)I" } : Jvm.MethodName)) ∈ tb := tb_in 247 rfl rfl
set_option maxRecDepth 20000 in
theorem tb_248 : (Jvm.Cond.instanceMethod ({ cls := "RainLetters$Page", name := "firstFault", desc := "(I)I" } : Jvm.MethodName)) ∈ tb := tb_in 248 rfl rfl
set_option maxRecDepth 20000 in
theorem tb_249 : (Jvm.Cond.selects "RainLetters$Page" ({ cls := "RainLetters$Page", name := "firstFault", desc := "(I)I" } : Jvm.MethodName) ({ cls := "RainLetters$Page", name := "firstFault", desc := "(I)I" } : Jvm.MethodName)) ∈ tb := tb_in 249 rfl rfl
set_option maxRecDepth 20000 in
theorem tb_250 : (Jvm.Cond.code ({ cls := "RainLetters$Page", name := "firstFault", desc := "(I)I" } : Jvm.MethodName) prog_4_method_2_code (4 : Nat) (Option.some Jvm.ClassFile.FieldType.int)) ∈ tb := tb_in 250 rfl rfl
set_option maxRecDepth 20000 in
theorem tb_251 : (Jvm.Cond.methodLink "RainLetters$Page" (19 : Nat) ({ cls := "RainLetters$Page", name := "fitsStreet", desc := "(I)Z" } : Jvm.MethodName)) ∈ tb := tb_in 251 rfl rfl
set_option maxRecDepth 20000 in
theorem tb_253 : (Jvm.Cond.instanceMethod ({ cls := "RainLetters$Page", name := "fitsStreet", desc := "(I)Z" } : Jvm.MethodName)) ∈ tb := tb_in 253 rfl rfl
set_option maxRecDepth 20000 in
theorem tb_254 : (Jvm.Cond.code ({ cls := "RainLetters$Page", name := "fitsStreet", desc := "(I)Z" } : Jvm.MethodName) prog_4_method_8_code (2 : Nat) (Option.some Jvm.ClassFile.FieldType.boolean)) ∈ tb := tb_in 254 rfl rfl
set_option maxRecDepth 20000 in
theorem tb_255 : (Jvm.Cond.methodLink "RainLetters$Page" (37 : Nat) ({ cls := "RainLetters$Page", name := "kindAt", desc := "(I)I" } : Jvm.MethodName)) ∈ tb := tb_in 255 rfl rfl
set_option maxRecDepth 20000 in
theorem tb_256 : (Jvm.Cond.instanceMethod ({ cls := "RainLetters$Page", name := "kindAt", desc := "(I)I" } : Jvm.MethodName)) ∈ tb := tb_in 256 rfl rfl
set_option maxRecDepth 20000 in
theorem tb_257 : (Jvm.Cond.selects "RainLetters$Page" ({ cls := "RainLetters$Page", name := "kindAt", desc := "(I)I" } : Jvm.MethodName) ({ cls := "RainLetters$Page", name := "kindAt", desc := "(I)I" } : Jvm.MethodName)) ∈ tb := tb_in 257 rfl rfl
set_option maxRecDepth 20000 in
theorem tb_258 : (Jvm.Cond.code ({ cls := "RainLetters$Page", name := "kindAt", desc := "(I)I" } : Jvm.MethodName) prog_4_method_5_code (2 : Nat) (Option.some Jvm.ClassFile.FieldType.int)) ∈ tb := tb_in 258 rfl rfl
set_option maxRecDepth 20000 in
theorem tb_260 : (Jvm.Cond.methodLink "RainLetters$Page" (32 : Nat) ({ cls := "java/lang/String", name := "indexOf", desc := "(I)I" } : Jvm.MethodName)) ∈ tb := tb_in 260 rfl rfl
set_option maxRecDepth 20000 in
theorem tb_261 : (Jvm.Cond.instanceMethod ({ cls := "java/lang/String", name := "indexOf", desc := "(I)I" } : Jvm.MethodName)) ∈ tb := tb_in 261 rfl rfl
set_option maxRecDepth 20000 in
theorem tb_262 : (Jvm.Cond.selects "java/lang/String" ({ cls := "java/lang/String", name := "indexOf", desc := "(I)I" } : Jvm.MethodName) ({ cls := "java/lang/String", name := "indexOf", desc := "(I)I" } : Jvm.MethodName)) ∈ tb := tb_in 262 rfl rfl
set_option maxRecDepth 20000 in
theorem tb_263 : (Jvm.Cond.code ({ cls := "java/lang/String", name := "indexOf", desc := "(I)I" } : Jvm.MethodName) prog_13_method_79_code (2 : Nat) (Option.some Jvm.ClassFile.FieldType.int)) ∈ tb := tb_in 263 rfl rfl
set_option maxRecDepth 20000 in
theorem tb_264 : (Jvm.Cond.methodLink "java/lang/String" (633 : Nat) ({ cls := "java/lang/String", name := "indexOf", desc := "(II)I" } : Jvm.MethodName)) ∈ tb := tb_in 264 rfl rfl
set_option maxRecDepth 20000 in
theorem tb_265 : (Jvm.Cond.instanceMethod ({ cls := "java/lang/String", name := "indexOf", desc := "(II)I" } : Jvm.MethodName)) ∈ tb := tb_in 265 rfl rfl
set_option maxRecDepth 20000 in
theorem tb_266 : (Jvm.Cond.selects "java/lang/String" ({ cls := "java/lang/String", name := "indexOf", desc := "(II)I" } : Jvm.MethodName) ({ cls := "java/lang/String", name := "indexOf", desc := "(II)I" } : Jvm.MethodName)) ∈ tb := tb_in 266 rfl rfl
set_option maxRecDepth 20000 in
theorem tb_267 : (Jvm.Cond.code ({ cls := "java/lang/String", name := "indexOf", desc := "(II)I" } : Jvm.MethodName) prog_13_method_80_code (3 : Nat) (Option.some Jvm.ClassFile.FieldType.int)) ∈ tb := tb_in 267 rfl rfl
set_option maxRecDepth 20000 in
theorem tb_268 : (Jvm.Cond.methodLink "java/lang/String" (492 : Nat) ({ cls := "java/lang/String", name := "isLatin1", desc := "()Z" } : Jvm.MethodName)) ∈ tb := tb_in 268 rfl rfl
set_option maxRecDepth 20000 in
theorem tb_269 : (Jvm.Cond.instanceMethod ({ cls := "java/lang/String", name := "isLatin1", desc := "()Z" } : Jvm.MethodName)) ∈ tb := tb_in 269 rfl rfl
set_option maxRecDepth 20000 in
theorem tb_270 : (Jvm.Cond.selects "java/lang/String" ({ cls := "java/lang/String", name := "isLatin1", desc := "()Z" } : Jvm.MethodName) ({ cls := "java/lang/String", name := "isLatin1", desc := "()Z" } : Jvm.MethodName)) ∈ tb := tb_in 270 rfl rfl
set_option maxRecDepth 20000 in
theorem tb_271 : (Jvm.Cond.code ({ cls := "java/lang/String", name := "isLatin1", desc := "()Z" } : Jvm.MethodName) prog_13_method_154_code (1 : Nat) (Option.some Jvm.ClassFile.FieldType.boolean)) ∈ tb := tb_in 271 rfl rfl
set_option maxRecDepth 20000 in
theorem tb_274 : (Jvm.Cond.methodLink "java/lang/String" (505 : Nat) ({ cls := "java/lang/String", name := "length", desc := "()I" } : Jvm.MethodName)) ∈ tb := tb_in 274 rfl rfl
set_option maxRecDepth 20000 in
theorem tb_275 : (Jvm.Cond.instanceMethod ({ cls := "java/lang/String", name := "length", desc := "()I" } : Jvm.MethodName)) ∈ tb := tb_in 275 rfl rfl
set_option maxRecDepth 20000 in
theorem tb_276 : (Jvm.Cond.selects "java/lang/String" ({ cls := "java/lang/String", name := "length", desc := "()I" } : Jvm.MethodName) ({ cls := "java/lang/String", name := "length", desc := "()I" } : Jvm.MethodName)) ∈ tb := tb_in 276 rfl rfl
set_option maxRecDepth 20000 in
theorem tb_277 : (Jvm.Cond.code ({ cls := "java/lang/String", name := "length", desc := "()I" } : Jvm.MethodName) prog_13_method_54_code (1 : Nat) (Option.some Jvm.ClassFile.FieldType.int)) ∈ tb := tb_in 277 rfl rfl
set_option maxRecDepth 20000 in
theorem tb_278 : (Jvm.Cond.methodLink "java/lang/String" (335 : Nat) ({ cls := "java/lang/String", name := "coder", desc := "()B" } : Jvm.MethodName)) ∈ tb := tb_in 278 rfl rfl
set_option maxRecDepth 20000 in
theorem tb_279 : (Jvm.Cond.instanceMethod ({ cls := "java/lang/String", name := "coder", desc := "()B" } : Jvm.MethodName)) ∈ tb := tb_in 279 rfl rfl
set_option maxRecDepth 20000 in
theorem tb_280 : (Jvm.Cond.selects "java/lang/String" ({ cls := "java/lang/String", name := "coder", desc := "()B" } : Jvm.MethodName) ({ cls := "java/lang/String", name := "coder", desc := "()B" } : Jvm.MethodName)) ∈ tb := tb_in 280 rfl rfl
set_option maxRecDepth 20000 in
theorem tb_281 : (Jvm.Cond.code ({ cls := "java/lang/String", name := "coder", desc := "()B" } : Jvm.MethodName) prog_13_method_152_code (1 : Nat) (Option.some Jvm.ClassFile.FieldType.byte)) ∈ tb := tb_in 281 rfl rfl
set_option maxRecDepth 20000 in
theorem tb_282 : (Jvm.Cond.methodLink "java/lang/String" (637 : Nat) ({ cls := "java/lang/StringLatin1", name := "indexOf", desc := "([BIII)I" } : Jvm.MethodName)) ∈ tb := tb_in 282 rfl rfl
set_option maxRecDepth 20000 in
theorem tb_283 : (Jvm.Cond.static ({ cls := "java/lang/StringLatin1", name := "indexOf", desc := "([BIII)I" } : Jvm.MethodName)) ∈ tb := tb_in 283 rfl rfl
set_option maxRecDepth 20000 in
theorem tb_284 : (Jvm.Cond.code ({ cls := "java/lang/StringLatin1", name := "indexOf", desc := "([BIII)I" } : Jvm.MethodName) prog_14_method_22_code (4 : Nat) (Option.some Jvm.ClassFile.FieldType.int)) ∈ tb := tb_in 284 rfl rfl
set_option maxRecDepth 20000 in
theorem tb_285 : (Jvm.Cond.methodLink "java/lang/StringLatin1" (88 : Nat) ({ cls := "java/lang/StringLatin1", name := "canEncode", desc := "(I)Z" } : Jvm.MethodName)) ∈ tb := tb_in 285 rfl rfl
set_option maxRecDepth 20000 in
theorem tb_286 : (Jvm.Cond.static ({ cls := "java/lang/StringLatin1", name := "canEncode", desc := "(I)Z" } : Jvm.MethodName)) ∈ tb := tb_in 286 rfl rfl
set_option maxRecDepth 20000 in
theorem tb_287 : (Jvm.Cond.code ({ cls := "java/lang/StringLatin1", name := "canEncode", desc := "(I)Z" } : Jvm.MethodName) prog_14_method_4_code (1 : Nat) (Option.some Jvm.ClassFile.FieldType.boolean)) ∈ tb := tb_in 287 rfl rfl
set_option maxRecDepth 20000 in
theorem tb_288 : (Jvm.Cond.methodLink "java/lang/StringLatin1" (92 : Nat) ({ cls := "java/lang/Math", name := "max", desc := "(II)I" } : Jvm.MethodName)) ∈ tb := tb_in 288 rfl rfl
set_option maxRecDepth 20000 in
theorem tb_289 : (Jvm.Cond.static ({ cls := "java/lang/Math", name := "max", desc := "(II)I" } : Jvm.MethodName)) ∈ tb := tb_in 289 rfl rfl
set_option maxRecDepth 20000 in
theorem tb_290 : (Jvm.Cond.code ({ cls := "java/lang/Math", name := "max", desc := "(II)I" } : Jvm.MethodName) prog_12_method_65_code (2 : Nat) (Option.some Jvm.ClassFile.FieldType.int)) ∈ tb := tb_in 290 rfl rfl
set_option maxRecDepth 20000 in
theorem tb_291 : (Jvm.Cond.methodLink "java/lang/StringLatin1" (38 : Nat) ({ cls := "java/lang/Math", name := "min", desc := "(II)I" } : Jvm.MethodName)) ∈ tb := tb_in 291 rfl rfl
set_option maxRecDepth 20000 in
theorem tb_292 : (Jvm.Cond.static ({ cls := "java/lang/Math", name := "min", desc := "(II)I" } : Jvm.MethodName)) ∈ tb := tb_in 292 rfl rfl
set_option maxRecDepth 20000 in
theorem tb_293 : (Jvm.Cond.code ({ cls := "java/lang/Math", name := "min", desc := "(II)I" } : Jvm.MethodName) prog_12_method_69_code (2 : Nat) (Option.some Jvm.ClassFile.FieldType.int)) ∈ tb := tb_in 293 rfl rfl
set_option maxRecDepth 20000 in
theorem tb_294 : (Jvm.Cond.methodLink "java/lang/StringLatin1" (95 : Nat) ({ cls := "java/lang/StringLatin1", name := "indexOfChar", desc := "([BIII)I" } : Jvm.MethodName)) ∈ tb := tb_in 294 rfl rfl
set_option maxRecDepth 20000 in
theorem tb_295 : (Jvm.Cond.static ({ cls := "java/lang/StringLatin1", name := "indexOfChar", desc := "([BIII)I" } : Jvm.MethodName)) ∈ tb := tb_in 295 rfl rfl
set_option maxRecDepth 20000 in
theorem tb_296 : (Jvm.Cond.code ({ cls := "java/lang/StringLatin1", name := "indexOfChar", desc := "([BIII)I" } : Jvm.MethodName) prog_14_method_23_code (6 : Nat) (Option.some Jvm.ClassFile.FieldType.int)) ∈ tb := tb_in 296 rfl rfl
set_option maxRecDepth 20000 in
theorem tb_346 : (Jvm.Cond.methodLink "RainLetters$Page" (40 : Nat) ({ cls := "RainLetters$Page", name := "flowAt", desc := "(II)I" } : Jvm.MethodName)) ∈ tb := tb_in 346 rfl rfl
set_option maxRecDepth 20000 in
theorem tb_347 : (Jvm.Cond.instanceMethod ({ cls := "RainLetters$Page", name := "flowAt", desc := "(II)I" } : Jvm.MethodName)) ∈ tb := tb_in 347 rfl rfl
set_option maxRecDepth 20000 in
theorem tb_348 : (Jvm.Cond.selects "RainLetters$Page" ({ cls := "RainLetters$Page", name := "flowAt", desc := "(II)I" } : Jvm.MethodName) ({ cls := "RainLetters$Page", name := "flowAt", desc := "(II)I" } : Jvm.MethodName)) ∈ tb := tb_in 348 rfl rfl
set_option maxRecDepth 20000 in
theorem tb_349 : (Jvm.Cond.code ({ cls := "RainLetters$Page", name := "flowAt", desc := "(II)I" } : Jvm.MethodName) prog_4_method_6_code (5 : Nat) (Option.some Jvm.ClassFile.FieldType.int)) ∈ tb := tb_in 349 rfl rfl
set_option maxRecDepth 20000 in
theorem tb_350 : (Jvm.Cond.methodLink "RainLetters$Page" (23 : Nat) ({ cls := "RainLetters$Page", name := "fitsWord", desc := "(I)Z" } : Jvm.MethodName)) ∈ tb := tb_in 350 rfl rfl
set_option maxRecDepth 20000 in
theorem tb_352 : (Jvm.Cond.instanceMethod ({ cls := "RainLetters$Page", name := "fitsWord", desc := "(I)Z" } : Jvm.MethodName)) ∈ tb := tb_in 352 rfl rfl
set_option maxRecDepth 20000 in
theorem tb_353 : (Jvm.Cond.code ({ cls := "RainLetters$Page", name := "fitsWord", desc := "(I)Z" } : Jvm.MethodName) prog_4_method_9_code (2 : Nat) (Option.some Jvm.ClassFile.FieldType.boolean)) ∈ tb := tb_in 353 rfl rfl
set_option maxRecDepth 20000 in
theorem tb_355 : (Jvm.Cond.static ({ cls := "RainLetters", name := "isLetter", desc := "(I)Z" } : Jvm.MethodName)) ∈ tb := tb_in 355 rfl rfl
set_option maxRecDepth 20000 in
theorem tb_356 : (Jvm.Cond.code ({ cls := "RainLetters", name := "isLetter", desc := "(I)Z" } : Jvm.MethodName) prog_1_method_31_code (1 : Nat) (Option.some Jvm.ClassFile.FieldType.boolean)) ∈ tb := tb_in 356 rfl rfl
set_option maxRecDepth 20000 in
theorem tb_361 : (Jvm.Cond.code ({ cls := "RainLetters", name := "street", desc := "()I" } : Jvm.MethodName) prog_1_method_5_code (2 : Nat) (Option.some Jvm.ClassFile.FieldType.int)) ∈ tb := tb_in 361 rfl rfl
set_option maxRecDepth 20000 in
theorem tb_362 : (Jvm.Cond.methodLink "RainLetters" (61 : Nat) ({ cls := "RainLetters$Page", name := "isStreet", desc := "()Z" } : Jvm.MethodName)) ∈ tb := tb_in 362 rfl rfl
set_option maxRecDepth 20000 in
theorem tb_363 : (Jvm.Cond.instanceMethod ({ cls := "RainLetters$Page", name := "isStreet", desc := "()Z" } : Jvm.MethodName)) ∈ tb := tb_in 363 rfl rfl
set_option maxRecDepth 20000 in
theorem tb_364 : (Jvm.Cond.selects "RainLetters$Page" ({ cls := "RainLetters$Page", name := "isStreet", desc := "()Z" } : Jvm.MethodName) ({ cls := "RainLetters$Page", name := "isStreet", desc := "()Z" } : Jvm.MethodName)) ∈ tb := tb_in 364 rfl rfl
set_option maxRecDepth 20000 in
theorem tb_365 : (Jvm.Cond.code ({ cls := "RainLetters$Page", name := "isStreet", desc := "()Z" } : Jvm.MethodName) prog_4_method_3_code (1 : Nat) (Option.some Jvm.ClassFile.FieldType.boolean)) ∈ tb := tb_in 365 rfl rfl
set_option maxRecDepth 20000 in
theorem tb_366 : (Jvm.Cond.methodLink "RainLetters$Page" (26 : Nat) ({ cls := "RainLetters$Page", name := "firstFault", desc := "(I)I" } : Jvm.MethodName)) ∈ tb := tb_in 366 rfl rfl
set_option maxRecDepth 20000 in
theorem tb_367 : (Jvm.Cond.methodLink "RainLetters" (71 : Nat) ({ cls := "RainLetters$Page", name := "kindAt", desc := "(I)I" } : Jvm.MethodName)) ∈ tb := tb_in 367 rfl rfl
set_option maxRecDepth 20000 in
theorem tb_368 : (Jvm.Cond.methodLink "RainLetters" (77 : Nat) ({ cls := "RainLetters$Page", name := "flowAt", desc := "(II)I" } : Jvm.MethodName)) ∈ tb := tb_in 368 rfl rfl
set_option maxRecDepth 20000 in
theorem tb_369 : (Jvm.Cond.methodLink "RainLetters" (81 : Nat) ({ cls := "RainLetters$Street", name := "clear", desc := "()V" } : Jvm.MethodName)) ∈ tb := tb_in 369 rfl rfl
set_option maxRecDepth 20000 in
theorem tb_370 : (Jvm.Cond.instanceMethod ({ cls := "RainLetters$Street", name := "clear", desc := "()V" } : Jvm.MethodName)) ∈ tb := tb_in 370 rfl rfl
set_option maxRecDepth 20000 in
theorem tb_371 : (Jvm.Cond.selects "RainLetters$Street" ({ cls := "RainLetters$Street", name := "clear", desc := "()V" } : Jvm.MethodName) ({ cls := "RainLetters$Street", name := "clear", desc := "()V" } : Jvm.MethodName)) ∈ tb := tb_in 371 rfl rfl
set_option maxRecDepth 20000 in
theorem tb_372 : (Jvm.Cond.code ({ cls := "RainLetters$Street", name := "clear", desc := "()V" } : Jvm.MethodName) prog_6_method_2_code (1 : Nat) (Option.none : Option Jvm.ClassFile.FieldType)) ∈ tb := tb_in 372 rfl rfl
set_option maxRecDepth 20000 in
theorem tb_373 : (Jvm.Cond.methodLink "RainLetters$Street" (38 : Nat) ({ cls := "java/util/Arrays", name := "fill", desc := "([II)V" } : Jvm.MethodName)) ∈ tb := tb_in 373 rfl rfl
set_option maxRecDepth 20000 in
theorem tb_374 : (Jvm.Cond.methodLink "RainLetters" (95 : Nat) ({ cls := "RainLetters$Finds", name := "clear", desc := "()V" } : Jvm.MethodName)) ∈ tb := tb_in 374 rfl rfl
set_option maxRecDepth 20000 in
theorem tb_375 : (Jvm.Cond.methodLink "RainLetters" (105 : Nat) ({ cls := "RainLetters$Street", name := "countOut", desc := "()I" } : Jvm.MethodName)) ∈ tb := tb_in 375 rfl rfl
set_option maxRecDepth 20000 in
theorem tb_376 : (Jvm.Cond.instanceMethod ({ cls := "RainLetters$Street", name := "countOut", desc := "()I" } : Jvm.MethodName)) ∈ tb := tb_in 376 rfl rfl
set_option maxRecDepth 20000 in
theorem tb_377 : (Jvm.Cond.selects "RainLetters$Street" ({ cls := "RainLetters$Street", name := "countOut", desc := "()I" } : Jvm.MethodName) ({ cls := "RainLetters$Street", name := "countOut", desc := "()I" } : Jvm.MethodName)) ∈ tb := tb_in 377 rfl rfl
set_option maxRecDepth 20000 in
theorem tb_378 : (Jvm.Cond.code ({ cls := "RainLetters$Street", name := "countOut", desc := "()I" } : Jvm.MethodName) prog_6_method_11_code (6 : Nat) (Option.some Jvm.ClassFile.FieldType.int)) ∈ tb := tb_in 378 rfl rfl
set_option maxRecDepth 20000 in
theorem tb_380 : (Jvm.Cond.instanceMethod ({ cls := "RainLetters", name := "about", desc := "(II)I" } : Jvm.MethodName)) ∈ tb := tb_in 380 rfl rfl
set_option maxRecDepth 20000 in
theorem tb_381 : (Jvm.Cond.selects "RainLetters" ({ cls := "RainLetters", name := "about", desc := "(II)I" } : Jvm.MethodName) ({ cls := "RainLetters", name := "about", desc := "(II)I" } : Jvm.MethodName)) ∈ tb := tb_in 381 rfl rfl
set_option maxRecDepth 20000 in
theorem tb_382 : (Jvm.Cond.code ({ cls := "RainLetters", name := "about", desc := "(II)I" } : Jvm.MethodName) prog_1_method_6_code (3 : Nat) (Option.some Jvm.ClassFile.FieldType.int)) ∈ tb := tb_in 382 rfl rfl
set_option maxRecDepth 20000 in
theorem tb_383 : (Jvm.Cond.methodLink "RainLetters" (109 : Nat) ({ cls := "RainLetters", name := "isGutter", desc := "(I)Z" } : Jvm.MethodName)) ∈ tb := tb_in 383 rfl rfl
set_option maxRecDepth 20000 in
theorem tb_385 : (Jvm.Cond.instanceMethod ({ cls := "RainLetters", name := "isGutter", desc := "(I)Z" } : Jvm.MethodName)) ∈ tb := tb_in 385 rfl rfl
set_option maxRecDepth 20000 in
theorem tb_386 : (Jvm.Cond.code ({ cls := "RainLetters", name := "isGutter", desc := "(I)Z" } : Jvm.MethodName) prog_1_method_29_code (2 : Nat) (Option.some Jvm.ClassFile.FieldType.boolean)) ∈ tb := tb_in 386 rfl rfl
set_option maxRecDepth 20000 in
theorem tb_387 : (Jvm.Cond.methodLink "RainLetters" (148 : Nat) ({ cls := "RainLetters", name := "hasStreet", desc := "()Z" } : Jvm.MethodName)) ∈ tb := tb_in 387 rfl rfl
set_option maxRecDepth 20000 in
theorem tb_389 : (Jvm.Cond.instanceMethod ({ cls := "RainLetters", name := "hasStreet", desc := "()Z" } : Jvm.MethodName)) ∈ tb := tb_in 389 rfl rfl
set_option maxRecDepth 20000 in
theorem tb_390 : (Jvm.Cond.code ({ cls := "RainLetters", name := "hasStreet", desc := "()Z" } : Jvm.MethodName) prog_1_method_28_code (1 : Nat) (Option.some Jvm.ClassFile.FieldType.boolean)) ∈ tb := tb_in 390 rfl rfl
set_option maxRecDepth 20000 in
theorem tb_394 : (Jvm.Cond.code ({ cls := "RainLetters", name := "as", desc := "(II)I" } : Jvm.MethodName) prog_1_method_7_code (5 : Nat) (Option.some Jvm.ClassFile.FieldType.int)) ∈ tb := tb_in 394 rfl rfl
set_option maxRecDepth 20000 in
theorem tb_396 : (Jvm.Cond.instanceMethod ({ cls := "RainLetters", name := "word", desc := "(II)I" } : Jvm.MethodName)) ∈ tb := tb_in 396 rfl rfl
set_option maxRecDepth 20000 in
theorem tb_397 : (Jvm.Cond.selects "RainLetters" ({ cls := "RainLetters", name := "word", desc := "(II)I" } : Jvm.MethodName) ({ cls := "RainLetters", name := "word", desc := "(II)I" } : Jvm.MethodName)) ∈ tb := tb_in 397 rfl rfl
set_option maxRecDepth 20000 in
theorem tb_398 : (Jvm.Cond.code ({ cls := "RainLetters", name := "word", desc := "(II)I" } : Jvm.MethodName) prog_1_method_8_code (3 : Nat) (Option.some Jvm.ClassFile.FieldType.int)) ∈ tb := tb_in 398 rfl rfl
set_option maxRecDepth 20000 in
theorem tb_402 : (Jvm.Cond.code ({ cls := "RainLetters", name := "drop", desc := "(II)I" } : Jvm.MethodName) prog_1_method_9_code (3 : Nat) (Option.some Jvm.ClassFile.FieldType.int)) ∈ tb := tb_in 402 rfl rfl
set_option maxRecDepth 20000 in
theorem tb_403 : (Jvm.Cond.methodLink "RainLetters" (129 : Nat) ({ cls := "RainLetters", name := "isLetter", desc := "(I)Z" } : Jvm.MethodName)) ∈ tb := tb_in 403 rfl rfl
set_option maxRecDepth 20000 in
theorem tb_404 : (Jvm.Cond.methodLink "RainLetters" (132 : Nat) ({ cls := "RainLetters$Fallen", name := "add", desc := "(II)V" } : Jvm.MethodName)) ∈ tb := tb_in 404 rfl rfl
set_option maxRecDepth 20000 in
theorem tb_405 : (Jvm.Cond.instanceMethod ({ cls := "RainLetters$Fallen", name := "add", desc := "(II)V" } : Jvm.MethodName)) ∈ tb := tb_in 405 rfl rfl
set_option maxRecDepth 20000 in
theorem tb_406 : (Jvm.Cond.selects "RainLetters$Fallen" ({ cls := "RainLetters$Fallen", name := "add", desc := "(II)V" } : Jvm.MethodName) ({ cls := "RainLetters$Fallen", name := "add", desc := "(II)V" } : Jvm.MethodName)) ∈ tb := tb_in 406 rfl rfl
set_option maxRecDepth 20000 in
theorem tb_407 : (Jvm.Cond.code ({ cls := "RainLetters$Fallen", name := "add", desc := "(II)V" } : Jvm.MethodName) prog_2_method_2_code (3 : Nat) (Option.none : Option Jvm.ClassFile.FieldType)) ∈ tb := tb_in 407 rfl rfl
set_option maxRecDepth 20000 in
theorem tb_408 : (Jvm.Cond.methodLink "RainLetters" (136 : Nat) ({ cls := "RainLetters$Street", name := "run", desc := "(II)I" } : Jvm.MethodName)) ∈ tb := tb_in 408 rfl rfl
set_option maxRecDepth 20000 in
theorem tb_409 : (Jvm.Cond.instanceMethod ({ cls := "RainLetters$Street", name := "run", desc := "(II)I" } : Jvm.MethodName)) ∈ tb := tb_in 409 rfl rfl
set_option maxRecDepth 20000 in
theorem tb_410 : (Jvm.Cond.selects "RainLetters$Street" ({ cls := "RainLetters$Street", name := "run", desc := "(II)I" } : Jvm.MethodName) ({ cls := "RainLetters$Street", name := "run", desc := "(II)I" } : Jvm.MethodName)) ∈ tb := tb_in 410 rfl rfl
set_option maxRecDepth 20000 in
theorem tb_411 : (Jvm.Cond.code ({ cls := "RainLetters$Street", name := "run", desc := "(II)I" } : Jvm.MethodName) prog_6_method_8_code (6 : Nat) (Option.some Jvm.ClassFile.FieldType.int)) ∈ tb := tb_in 411 rfl rfl
set_option maxRecDepth 20000 in
theorem tb_412 : (Jvm.Cond.methodLink "RainLetters$Street" (73 : Nat) ({ cls := "RainLetters$Street", name := "passOn", desc := "(II)I" } : Jvm.MethodName)) ∈ tb := tb_in 412 rfl rfl
set_option maxRecDepth 20000 in
theorem tb_414 : (Jvm.Cond.instanceMethod ({ cls := "RainLetters$Street", name := "passOn", desc := "(II)I" } : Jvm.MethodName)) ∈ tb := tb_in 414 rfl rfl
set_option maxRecDepth 20000 in
theorem tb_415 : (Jvm.Cond.code ({ cls := "RainLetters$Street", name := "passOn", desc := "(II)I" } : Jvm.MethodName) prog_6_method_17_code (4 : Nat) (Option.some Jvm.ClassFile.FieldType.int)) ∈ tb := tb_in 415 rfl rfl
set_option maxRecDepth 20000 in
theorem tb_416 : (Jvm.Cond.methodLink "RainLetters$Street" (84 : Nat) ({ cls := "RainLetters$Street", name := "letsThrough", desc := "(II)Z" } : Jvm.MethodName)) ∈ tb := tb_in 416 rfl rfl
set_option maxRecDepth 20000 in
theorem tb_418 : (Jvm.Cond.instanceMethod ({ cls := "RainLetters$Street", name := "letsThrough", desc := "(II)Z" } : Jvm.MethodName)) ∈ tb := tb_in 418 rfl rfl
set_option maxRecDepth 20000 in
theorem tb_419 : (Jvm.Cond.code ({ cls := "RainLetters$Street", name := "letsThrough", desc := "(II)Z" } : Jvm.MethodName) prog_6_method_18_code (4 : Nat) (Option.some Jvm.ClassFile.FieldType.boolean)) ∈ tb := tb_in 419 rfl rfl
set_option maxRecDepth 20000 in
theorem tb_420 : (Jvm.Cond.methodLink "RainLetters$Street" (76 : Nat) ({ cls := "RainLetters$Street", name := "runOut", desc := "(II)V" } : Jvm.MethodName)) ∈ tb := tb_in 420 rfl rfl
set_option maxRecDepth 20000 in
theorem tb_422 : (Jvm.Cond.instanceMethod ({ cls := "RainLetters$Street", name := "runOut", desc := "(II)V" } : Jvm.MethodName)) ∈ tb := tb_in 422 rfl rfl
set_option maxRecDepth 20000 in
theorem tb_423 : (Jvm.Cond.code ({ cls := "RainLetters$Street", name := "runOut", desc := "(II)V" } : Jvm.MethodName) prog_6_method_16_code (3 : Nat) (Option.none : Option Jvm.ClassFile.FieldType)) ∈ tb := tb_in 423 rfl rfl
set_option maxRecDepth 20000 in
theorem tb_425 : (Jvm.Cond.instanceMethod ({ cls := "RainLetters", name := "rain", desc := "(II)I" } : Jvm.MethodName)) ∈ tb := tb_in 425 rfl rfl
set_option maxRecDepth 20000 in
theorem tb_426 : (Jvm.Cond.selects "RainLetters" ({ cls := "RainLetters", name := "rain", desc := "(II)I" } : Jvm.MethodName) ({ cls := "RainLetters", name := "rain", desc := "(II)I" } : Jvm.MethodName)) ∈ tb := tb_in 426 rfl rfl
set_option maxRecDepth 20000 in
theorem tb_427 : (Jvm.Cond.code ({ cls := "RainLetters", name := "rain", desc := "(II)I" } : Jvm.MethodName) prog_1_method_10_code (3 : Nat) (Option.some Jvm.ClassFile.FieldType.int)) ∈ tb := tb_in 427 rfl rfl
set_option maxRecDepth 20000 in
theorem tb_428 : (Jvm.Cond.methodLink "RainLetters" (139 : Nat) ({ cls := "RainLetters", name := "isDrop", desc := "(I)Z" } : Jvm.MethodName)) ∈ tb := tb_in 428 rfl rfl
set_option maxRecDepth 20000 in
theorem tb_430 : (Jvm.Cond.instanceMethod ({ cls := "RainLetters", name := "isDrop", desc := "(I)Z" } : Jvm.MethodName)) ∈ tb := tb_in 430 rfl rfl
set_option maxRecDepth 20000 in
theorem tb_431 : (Jvm.Cond.code ({ cls := "RainLetters", name := "isDrop", desc := "(I)Z" } : Jvm.MethodName) prog_1_method_30_code (2 : Nat) (Option.some Jvm.ClassFile.FieldType.boolean)) ∈ tb := tb_in 431 rfl rfl
set_option maxRecDepth 20000 in
theorem tb_435 : (Jvm.Cond.code ({ cls := "RainLetters", name := "dry", desc := "()I" } : Jvm.MethodName) prog_1_method_11_code (2 : Nat) (Option.some Jvm.ClassFile.FieldType.int)) ∈ tb := tb_in 435 rfl rfl
set_option maxRecDepth 20000 in
theorem tb_439 : (Jvm.Cond.code ({ cls := "RainLetters", name := "turn", desc := "(II)I" } : Jvm.MethodName) prog_1_method_12_code (4 : Nat) (Option.some Jvm.ClassFile.FieldType.int)) ∈ tb := tb_in 439 rfl rfl
set_option maxRecDepth 20000 in
theorem tb_443 : (Jvm.Cond.code ({ cls := "RainLetters", name := "fewTurns", desc := "(II)I" } : Jvm.MethodName) prog_1_method_13_code (3 : Nat) (Option.some Jvm.ClassFile.FieldType.int)) ∈ tb := tb_in 443 rfl rfl
set_option maxRecDepth 20000 in
theorem tb_444 : (Jvm.Cond.methodLink "RainLetters" (151 : Nat) ({ cls := "RainLetters$Page", name := "isWord", desc := "()Z" } : Jvm.MethodName)) ∈ tb := tb_in 444 rfl rfl
set_option maxRecDepth 20000 in
theorem tb_445 : (Jvm.Cond.instanceMethod ({ cls := "RainLetters$Page", name := "isWord", desc := "()Z" } : Jvm.MethodName)) ∈ tb := tb_in 445 rfl rfl
set_option maxRecDepth 20000 in
theorem tb_446 : (Jvm.Cond.selects "RainLetters$Page" ({ cls := "RainLetters$Page", name := "isWord", desc := "()Z" } : Jvm.MethodName) ({ cls := "RainLetters$Page", name := "isWord", desc := "()Z" } : Jvm.MethodName)) ∈ tb := tb_in 446 rfl rfl
set_option maxRecDepth 20000 in
theorem tb_447 : (Jvm.Cond.code ({ cls := "RainLetters$Page", name := "isWord", desc := "()Z" } : Jvm.MethodName) prog_4_method_4_code (1 : Nat) (Option.some Jvm.ClassFile.FieldType.boolean)) ∈ tb := tb_in 447 rfl rfl
set_option maxRecDepth 20000 in
theorem tb_448 : (Jvm.Cond.methodLink "RainLetters" (157 : Nat) ({ cls := "RainLetters", name := "seekTurns", desc := "(I)V" } : Jvm.MethodName)) ∈ tb := tb_in 448 rfl rfl
set_option maxRecDepth 20000 in
theorem tb_450 : (Jvm.Cond.instanceMethod ({ cls := "RainLetters", name := "seekTurns", desc := "(I)V" } : Jvm.MethodName)) ∈ tb := tb_in 450 rfl rfl
set_option maxRecDepth 20000 in
theorem tb_451 : (Jvm.Cond.code ({ cls := "RainLetters", name := "seekTurns", desc := "(I)V" } : Jvm.MethodName) prog_1_method_33_code (4 : Nat) (Option.none : Option Jvm.ClassFile.FieldType)) ∈ tb := tb_in 451 rfl rfl
set_option maxRecDepth 20000 in
theorem tb_452 : (Jvm.Cond.methodLink "RainLetters" (182 : Nat) ({ cls := "RainLetters$Page", name := "copyLetters", desc := "([I)V" } : Jvm.MethodName)) ∈ tb := tb_in 452 rfl rfl
set_option maxRecDepth 20000 in
theorem tb_453 : (Jvm.Cond.instanceMethod ({ cls := "RainLetters$Page", name := "copyLetters", desc := "([I)V" } : Jvm.MethodName)) ∈ tb := tb_in 453 rfl rfl
set_option maxRecDepth 20000 in
theorem tb_454 : (Jvm.Cond.selects "RainLetters$Page" ({ cls := "RainLetters$Page", name := "copyLetters", desc := "([I)V" } : Jvm.MethodName) ({ cls := "RainLetters$Page", name := "copyLetters", desc := "([I)V" } : Jvm.MethodName)) ∈ tb := tb_in 454 rfl rfl
set_option maxRecDepth 20000 in
theorem tb_455 : (Jvm.Cond.code ({ cls := "RainLetters$Page", name := "copyLetters", desc := "([I)V" } : Jvm.MethodName) prog_4_method_7_code (3 : Nat) (Option.none : Option Jvm.ClassFile.FieldType)) ∈ tb := tb_in 455 rfl rfl
set_option maxRecDepth 20000 in
theorem tb_456 : (Jvm.Cond.methodLink "RainLetters" (242 : Nat) ({ cls := "RainLetters$Turns", name := "clear", desc := "()V" } : Jvm.MethodName)) ∈ tb := tb_in 456 rfl rfl
set_option maxRecDepth 20000 in
theorem tb_457 : (Jvm.Cond.instanceMethod ({ cls := "RainLetters$Turns", name := "clear", desc := "()V" } : Jvm.MethodName)) ∈ tb := tb_in 457 rfl rfl
set_option maxRecDepth 20000 in
theorem tb_458 : (Jvm.Cond.selects "RainLetters$Turns" ({ cls := "RainLetters$Turns", name := "clear", desc := "()V" } : Jvm.MethodName) ({ cls := "RainLetters$Turns", name := "clear", desc := "()V" } : Jvm.MethodName)) ∈ tb := tb_in 458 rfl rfl
set_option maxRecDepth 20000 in
theorem tb_459 : (Jvm.Cond.code ({ cls := "RainLetters$Turns", name := "clear", desc := "()V" } : Jvm.MethodName) prog_7_method_2_code (1 : Nat) (Option.none : Option Jvm.ClassFile.FieldType)) ∈ tb := tb_in 459 rfl rfl
set_option maxRecDepth 20000 in
theorem tb_460 : (Jvm.Cond.methodLink "RainLetters" (170 : Nat) ({ cls := "RainLetters$Street", name := "layLike", desc := "(LRainLetters$Street;)V" } : Jvm.MethodName)) ∈ tb := tb_in 460 rfl rfl
set_option maxRecDepth 20000 in
theorem tb_461 : (Jvm.Cond.instanceMethod ({ cls := "RainLetters$Street", name := "layLike", desc := "(LRainLetters$Street;)V" } : Jvm.MethodName)) ∈ tb := tb_in 461 rfl rfl
set_option maxRecDepth 20000 in
theorem tb_462 : (Jvm.Cond.selects "RainLetters$Street" ({ cls := "RainLetters$Street", name := "layLike", desc := "(LRainLetters$Street;)V" } : Jvm.MethodName) ({ cls := "RainLetters$Street", name := "layLike", desc := "(LRainLetters$Street;)V" } : Jvm.MethodName)) ∈ tb := tb_in 462 rfl rfl
set_option maxRecDepth 20000 in
theorem tb_463 : (Jvm.Cond.code ({ cls := "RainLetters$Street", name := "layLike", desc := "(LRainLetters$Street;)V" } : Jvm.MethodName) prog_6_method_3_code (2 : Nat) (Option.none : Option Jvm.ClassFile.FieldType)) ∈ tb := tb_in 463 rfl rfl
set_option maxRecDepth 20000 in
theorem tb_464 : (Jvm.Cond.methodLink "RainLetters$Street" (44 : Nat) ({ cls := "java/lang/System", name := "arraycopy", desc := "(Ljava/lang/Object;ILjava/lang/Object;II)V" } : Jvm.MethodName)) ∈ tb := tb_in 464 rfl rfl
set_option maxRecDepth 20000 in
theorem tb_465 : (Jvm.Cond.static ({ cls := "java/lang/System", name := "arraycopy", desc := "(Ljava/lang/Object;ILjava/lang/Object;II)V" } : Jvm.MethodName)) ∈ tb := tb_in 465 rfl rfl
set_option maxRecDepth 20000 in
theorem tb_466 : (Jvm.Cond.native ({ cls := "java/lang/System", name := "arraycopy", desc := "(Ljava/lang/Object;ILjava/lang/Object;II)V" } : Jvm.MethodName)) ∈ tb := tb_in 466 rfl rfl
set_option maxRecDepth 20000 in
theorem tb_467 : (Jvm.Cond.methodLink "RainLetters$Street" (50 : Nat) ({ cls := "RainLetters$Street", name := "clear", desc := "()V" } : Jvm.MethodName)) ∈ tb := tb_in 467 rfl rfl
set_option maxRecDepth 20000 in
theorem tb_468 : (Jvm.Cond.methodLink "RainLetters" (243 : Nat) ({ cls := "RainLetters$Street", name := "flowBy", desc := "(I)V" } : Jvm.MethodName)) ∈ tb := tb_in 468 rfl rfl
set_option maxRecDepth 20000 in
theorem tb_469 : (Jvm.Cond.instanceMethod ({ cls := "RainLetters$Street", name := "flowBy", desc := "(I)V" } : Jvm.MethodName)) ∈ tb := tb_in 469 rfl rfl
set_option maxRecDepth 20000 in
theorem tb_470 : (Jvm.Cond.selects "RainLetters$Street" ({ cls := "RainLetters$Street", name := "flowBy", desc := "(I)V" } : Jvm.MethodName) ({ cls := "RainLetters$Street", name := "flowBy", desc := "(I)V" } : Jvm.MethodName)) ∈ tb := tb_in 470 rfl rfl
set_option maxRecDepth 20000 in
theorem tb_471 : (Jvm.Cond.code ({ cls := "RainLetters$Street", name := "flowBy", desc := "(I)V" } : Jvm.MethodName) prog_6_method_5_code (6 : Nat) (Option.none : Option Jvm.ClassFile.FieldType)) ∈ tb := tb_in 471 rfl rfl
set_option maxRecDepth 20000 in
theorem tb_472 : (Jvm.Cond.methodLink "RainLetters" (246 : Nat) ({ cls := "RainLetters$Street", name := "unlikeFlows", desc := "(LRainLetters$Street;)I" } : Jvm.MethodName)) ∈ tb := tb_in 472 rfl rfl
set_option maxRecDepth 20000 in
theorem tb_473 : (Jvm.Cond.instanceMethod ({ cls := "RainLetters$Street", name := "unlikeFlows", desc := "(LRainLetters$Street;)I" } : Jvm.MethodName)) ∈ tb := tb_in 473 rfl rfl
set_option maxRecDepth 20000 in
theorem tb_474 : (Jvm.Cond.selects "RainLetters$Street" ({ cls := "RainLetters$Street", name := "unlikeFlows", desc := "(LRainLetters$Street;)I" } : Jvm.MethodName) ({ cls := "RainLetters$Street", name := "unlikeFlows", desc := "(LRainLetters$Street;)I" } : Jvm.MethodName)) ∈ tb := tb_in 474 rfl rfl
set_option maxRecDepth 20000 in
theorem tb_475 : (Jvm.Cond.code ({ cls := "RainLetters$Street", name := "unlikeFlows", desc := "(LRainLetters$Street;)I" } : Jvm.MethodName) prog_6_method_6_code (4 : Nat) (Option.some Jvm.ClassFile.FieldType.int)) ∈ tb := tb_in 475 rfl rfl
set_option maxRecDepth 20000 in
theorem tb_476 : (Jvm.Cond.methodLink "RainLetters" (250 : Nat) ({ cls := "java/lang/Integer", name := "bitCount", desc := "(I)I" } : Jvm.MethodName)) ∈ tb := tb_in 476 rfl rfl
set_option maxRecDepth 20000 in
theorem tb_477 : (Jvm.Cond.static ({ cls := "java/lang/Integer", name := "bitCount", desc := "(I)I" } : Jvm.MethodName)) ∈ tb := tb_in 477 rfl rfl
set_option maxRecDepth 20000 in
theorem tb_478 : (Jvm.Cond.code ({ cls := "java/lang/Integer", name := "bitCount", desc := "(I)I" } : Jvm.MethodName) prog_11_method_49_code (1 : Nat) (Option.some Jvm.ClassFile.FieldType.int)) ∈ tb := tb_in 478 rfl rfl
set_option maxRecDepth 20000 in
theorem tb_482 : (Jvm.Cond.methodLink "RainLetters" (174 : Nat) ({ cls := "RainLetters$Street", name := "runAll", desc := "(LRainLetters$Fallen;II)V" } : Jvm.MethodName)) ∈ tb := tb_in 482 rfl rfl
set_option maxRecDepth 20000 in
theorem tb_483 : (Jvm.Cond.instanceMethod ({ cls := "RainLetters$Street", name := "runAll", desc := "(LRainLetters$Fallen;II)V" } : Jvm.MethodName)) ∈ tb := tb_in 483 rfl rfl
set_option maxRecDepth 20000 in
theorem tb_484 : (Jvm.Cond.selects "RainLetters$Street" ({ cls := "RainLetters$Street", name := "runAll", desc := "(LRainLetters$Fallen;II)V" } : Jvm.MethodName) ({ cls := "RainLetters$Street", name := "runAll", desc := "(LRainLetters$Fallen;II)V" } : Jvm.MethodName)) ∈ tb := tb_in 484 rfl rfl
set_option maxRecDepth 20000 in
theorem tb_485 : (Jvm.Cond.code ({ cls := "RainLetters$Street", name := "runAll", desc := "(LRainLetters$Fallen;II)V" } : Jvm.MethodName) prog_6_method_7_code (5 : Nat) (Option.none : Option Jvm.ClassFile.FieldType)) ∈ tb := tb_in 485 rfl rfl
set_option maxRecDepth 20000 in
theorem tb_486 : (Jvm.Cond.methodLink "RainLetters$Street" (69 : Nat) ({ cls := "RainLetters$Street", name := "run", desc := "(II)I" } : Jvm.MethodName)) ∈ tb := tb_in 486 rfl rfl
set_option maxRecDepth 20000 in
theorem tb_487 : (Jvm.Cond.methodLink "RainLetters" (258 : Nat) ({ cls := "RainLetters$Street", name := "wordIs", desc := "(I[II)Z" } : Jvm.MethodName)) ∈ tb := tb_in 487 rfl rfl
set_option maxRecDepth 20000 in
theorem tb_488 : (Jvm.Cond.instanceMethod ({ cls := "RainLetters$Street", name := "wordIs", desc := "(I[II)Z" } : Jvm.MethodName)) ∈ tb := tb_in 488 rfl rfl
set_option maxRecDepth 20000 in
theorem tb_489 : (Jvm.Cond.selects "RainLetters$Street" ({ cls := "RainLetters$Street", name := "wordIs", desc := "(I[II)Z" } : Jvm.MethodName) ({ cls := "RainLetters$Street", name := "wordIs", desc := "(I[II)Z" } : Jvm.MethodName)) ∈ tb := tb_in 489 rfl rfl
set_option maxRecDepth 20000 in
theorem tb_490 : (Jvm.Cond.code ({ cls := "RainLetters$Street", name := "wordIs", desc := "(I[II)Z" } : Jvm.MethodName) prog_6_method_9_code (5 : Nat) (Option.some Jvm.ClassFile.FieldType.boolean)) ∈ tb := tb_in 490 rfl rfl
set_option maxRecDepth 20000 in
theorem tb_491 : (Jvm.Cond.methodLink "RainLetters" (262 : Nat) ({ cls := "RainLetters$Turns", name := "add", desc := "(I)V" } : Jvm.MethodName)) ∈ tb := tb_in 491 rfl rfl
set_option maxRecDepth 20000 in
theorem tb_492 : (Jvm.Cond.instanceMethod ({ cls := "RainLetters$Turns", name := "add", desc := "(I)V" } : Jvm.MethodName)) ∈ tb := tb_in 492 rfl rfl
set_option maxRecDepth 20000 in
theorem tb_493 : (Jvm.Cond.selects "RainLetters$Turns" ({ cls := "RainLetters$Turns", name := "add", desc := "(I)V" } : Jvm.MethodName) ({ cls := "RainLetters$Turns", name := "add", desc := "(I)V" } : Jvm.MethodName)) ∈ tb := tb_in 493 rfl rfl
set_option maxRecDepth 20000 in
theorem tb_494 : (Jvm.Cond.code ({ cls := "RainLetters$Turns", name := "add", desc := "(I)V" } : Jvm.MethodName) prog_7_method_3_code (3 : Nat) (Option.none : Option Jvm.ClassFile.FieldType)) ∈ tb := tb_in 494 rfl rfl
set_option maxRecDepth 20000 in
theorem tb_495 : (Jvm.Cond.methodLink "RainLetters$Turns" (21 : Nat) ({ cls := "java/lang/Integer", name := "bitCount", desc := "(I)I" } : Jvm.MethodName)) ∈ tb := tb_in 495 rfl rfl
set_option maxRecDepth 20000 in
theorem tb_496 : (Jvm.Cond.methodLink "RainLetters$Turns" (27 : Nat) ({ cls := "java/lang/Math", name := "min", desc := "(II)I" } : Jvm.MethodName)) ∈ tb := tb_in 496 rfl rfl
set_option maxRecDepth 20000 in
theorem tb_497 : (Jvm.Cond.methodLink "RainLetters" (161 : Nat) ({ cls := "RainLetters$Turns", name := "tell", desc := "(I)I" } : Jvm.MethodName)) ∈ tb := tb_in 497 rfl rfl
set_option maxRecDepth 20000 in
theorem tb_498 : (Jvm.Cond.instanceMethod ({ cls := "RainLetters$Turns", name := "tell", desc := "(I)I" } : Jvm.MethodName)) ∈ tb := tb_in 498 rfl rfl
set_option maxRecDepth 20000 in
theorem tb_499 : (Jvm.Cond.selects "RainLetters$Turns" ({ cls := "RainLetters$Turns", name := "tell", desc := "(I)I" } : Jvm.MethodName) ({ cls := "RainLetters$Turns", name := "tell", desc := "(I)I" } : Jvm.MethodName)) ∈ tb := tb_in 499 rfl rfl
set_option maxRecDepth 20000 in
theorem tb_500 : (Jvm.Cond.code ({ cls := "RainLetters$Turns", name := "tell", desc := "(I)I" } : Jvm.MethodName) prog_7_method_4_code (2 : Nat) (Option.some Jvm.ClassFile.FieldType.int)) ∈ tb := tb_in 500 rfl rfl
set_option maxRecDepth 20000 in
theorem tb_504 : (Jvm.Cond.code ({ cls := "RainLetters", name := "orders", desc := "(I)I" } : Jvm.MethodName) prog_1_method_14_code (2 : Nat) (Option.some Jvm.ClassFile.FieldType.int)) ∈ tb := tb_in 504 rfl rfl
set_option maxRecDepth 20000 in
theorem tb_505 : (Jvm.Cond.methodLink "RainLetters" (167 : Nat) ({ cls := "RainLetters", name := "countWords", desc := "(I)I" } : Jvm.MethodName)) ∈ tb := tb_in 505 rfl rfl
set_option maxRecDepth 20000 in
theorem tb_507 : (Jvm.Cond.instanceMethod ({ cls := "RainLetters", name := "countWords", desc := "(I)I" } : Jvm.MethodName)) ∈ tb := tb_in 507 rfl rfl
set_option maxRecDepth 20000 in
theorem tb_508 : (Jvm.Cond.code ({ cls := "RainLetters", name := "countWords", desc := "(I)I" } : Jvm.MethodName) prog_1_method_34_code (6 : Nat) (Option.some Jvm.ClassFile.FieldType.int)) ∈ tb := tb_in 508 rfl rfl
set_option maxRecDepth 20000 in
theorem tb_509 : (Jvm.Cond.methodLink "RainLetters" (264 : Nat) ({ cls := "java/lang/Math", name := "min", desc := "(II)I" } : Jvm.MethodName)) ∈ tb := tb_in 509 rfl rfl
set_option maxRecDepth 20000 in
theorem tb_510 : (Jvm.Cond.methodLink "RainLetters" (269 : Nat) ({ cls := "java/util/Arrays", name := "fill", desc := "([II)V" } : Jvm.MethodName)) ∈ tb := tb_in 510 rfl rfl
set_option maxRecDepth 20000 in
theorem tb_511 : (Jvm.Cond.methodLink "RainLetters" (275 : Nat) ({ cls := "RainLetters", name := "runMixed", desc := "(II)V" } : Jvm.MethodName)) ∈ tb := tb_in 511 rfl rfl
set_option maxRecDepth 20000 in
theorem tb_513 : (Jvm.Cond.instanceMethod ({ cls := "RainLetters", name := "runMixed", desc := "(II)V" } : Jvm.MethodName)) ∈ tb := tb_in 513 rfl rfl
set_option maxRecDepth 20000 in
theorem tb_514 : (Jvm.Cond.code ({ cls := "RainLetters", name := "runMixed", desc := "(II)V" } : Jvm.MethodName) prog_1_method_35_code (7 : Nat) (Option.none : Option Jvm.ClassFile.FieldType)) ∈ tb := tb_in 514 rfl rfl
set_option maxRecDepth 20000 in
theorem tb_515 : (Jvm.Cond.methodLink "RainLetters" (278 : Nat) ({ cls := "RainLetters$Street", name := "wordCode", desc := "(I)I" } : Jvm.MethodName)) ∈ tb := tb_in 515 rfl rfl
set_option maxRecDepth 20000 in
theorem tb_516 : (Jvm.Cond.instanceMethod ({ cls := "RainLetters$Street", name := "wordCode", desc := "(I)I" } : Jvm.MethodName)) ∈ tb := tb_in 516 rfl rfl
set_option maxRecDepth 20000 in
theorem tb_517 : (Jvm.Cond.selects "RainLetters$Street" ({ cls := "RainLetters$Street", name := "wordCode", desc := "(I)I" } : Jvm.MethodName) ({ cls := "RainLetters$Street", name := "wordCode", desc := "(I)I" } : Jvm.MethodName)) ∈ tb := tb_in 517 rfl rfl
set_option maxRecDepth 20000 in
theorem tb_518 : (Jvm.Cond.code ({ cls := "RainLetters$Street", name := "wordCode", desc := "(I)I" } : Jvm.MethodName) prog_6_method_10_code (4 : Nat) (Option.some Jvm.ClassFile.FieldType.int)) ∈ tb := tb_in 518 rfl rfl
set_option maxRecDepth 20000 in
theorem tb_519 : (Jvm.Cond.methodLink "RainLetters" (281 : Nat) ({ cls := "RainLetters", name := "noteWord", desc := "(I)Z" } : Jvm.MethodName)) ∈ tb := tb_in 519 rfl rfl
set_option maxRecDepth 20000 in
theorem tb_521 : (Jvm.Cond.instanceMethod ({ cls := "RainLetters", name := "noteWord", desc := "(I)Z" } : Jvm.MethodName)) ∈ tb := tb_in 521 rfl rfl
set_option maxRecDepth 20000 in
theorem tb_522 : (Jvm.Cond.code ({ cls := "RainLetters", name := "noteWord", desc := "(I)Z" } : Jvm.MethodName) prog_1_method_36_code (4 : Nat) (Option.some Jvm.ClassFile.FieldType.boolean)) ∈ tb := tb_in 522 rfl rfl
set_option maxRecDepth 20000 in
theorem tb_526 : (Jvm.Cond.code ({ cls := "RainLetters", name := "bestDrop", desc := "(I)I" } : Jvm.MethodName) prog_1_method_15_code (6 : Nat) (Option.some Jvm.ClassFile.FieldType.int)) ∈ tb := tb_in 526 rfl rfl
set_option maxRecDepth 20000 in
theorem tb_527 : (Jvm.Cond.methodLink "RainLetters" (178 : Nat) ({ cls := "RainLetters$Street", name := "lettersOut", desc := "()I" } : Jvm.MethodName)) ∈ tb := tb_in 527 rfl rfl
set_option maxRecDepth 20000 in
theorem tb_528 : (Jvm.Cond.instanceMethod ({ cls := "RainLetters$Street", name := "lettersOut", desc := "()I" } : Jvm.MethodName)) ∈ tb := tb_in 528 rfl rfl
set_option maxRecDepth 20000 in
theorem tb_529 : (Jvm.Cond.selects "RainLetters$Street" ({ cls := "RainLetters$Street", name := "lettersOut", desc := "()I" } : Jvm.MethodName) ({ cls := "RainLetters$Street", name := "lettersOut", desc := "()I" } : Jvm.MethodName)) ∈ tb := tb_in 529 rfl rfl
set_option maxRecDepth 20000 in
theorem tb_530 : (Jvm.Cond.code ({ cls := "RainLetters$Street", name := "lettersOut", desc := "()I" } : Jvm.MethodName) prog_6_method_12_code (1 : Nat) (Option.some Jvm.ClassFile.FieldType.int)) ∈ tb := tb_in 530 rfl rfl
set_option maxRecDepth 20000 in
theorem tb_531 : (Jvm.Cond.methodLink "RainLetters$Street" (80 : Nat) ({ cls := "RainLetters$Street", name := "sum", desc := "([I)I" } : Jvm.MethodName)) ∈ tb := tb_in 531 rfl rfl
set_option maxRecDepth 20000 in
theorem tb_532 : (Jvm.Cond.static ({ cls := "RainLetters$Street", name := "sum", desc := "([I)I" } : Jvm.MethodName)) ∈ tb := tb_in 532 rfl rfl
set_option maxRecDepth 20000 in
theorem tb_533 : (Jvm.Cond.code ({ cls := "RainLetters$Street", name := "sum", desc := "([I)I" } : Jvm.MethodName) prog_6_method_15_code (6 : Nat) (Option.some Jvm.ClassFile.FieldType.int)) ∈ tb := tb_in 533 rfl rfl
set_option maxRecDepth 20000 in
theorem tb_537 : (Jvm.Cond.code ({ cls := "RainLetters", name := "found", desc := "(I)I" } : Jvm.MethodName) prog_1_method_16_code (2 : Nat) (Option.some Jvm.ClassFile.FieldType.int)) ∈ tb := tb_in 537 rfl rfl
set_option maxRecDepth 20000 in
theorem tb_538 : (Jvm.Cond.methodLink "RainLetters" (187 : Nat) ({ cls := "RainLetters$Finds", name := "countFound", desc := "()I" } : Jvm.MethodName)) ∈ tb := tb_in 538 rfl rfl
set_option maxRecDepth 20000 in
theorem tb_539 : (Jvm.Cond.instanceMethod ({ cls := "RainLetters$Finds", name := "countFound", desc := "()I" } : Jvm.MethodName)) ∈ tb := tb_in 539 rfl rfl
set_option maxRecDepth 20000 in
theorem tb_540 : (Jvm.Cond.selects "RainLetters$Finds" ({ cls := "RainLetters$Finds", name := "countFound", desc := "()I" } : Jvm.MethodName) ({ cls := "RainLetters$Finds", name := "countFound", desc := "()I" } : Jvm.MethodName)) ∈ tb := tb_in 540 rfl rfl
set_option maxRecDepth 20000 in
theorem tb_541 : (Jvm.Cond.code ({ cls := "RainLetters$Finds", name := "countFound", desc := "()I" } : Jvm.MethodName) prog_3_method_3_code (6 : Nat) (Option.some Jvm.ClassFile.FieldType.int)) ∈ tb := tb_in 541 rfl rfl
set_option maxRecDepth 20000 in
theorem tb_545 : (Jvm.Cond.code ({ cls := "RainLetters", name := "forget", desc := "()I" } : Jvm.MethodName) prog_1_method_17_code (2 : Nat) (Option.some Jvm.ClassFile.FieldType.int)) ∈ tb := tb_in 545 rfl rfl
set_option maxRecDepth 20000 in
theorem tb_547 : (Jvm.Cond.instanceMethod ({ cls := "RainLetters", name := "kindOf", desc := "(I)I" } : Jvm.MethodName)) ∈ tb := tb_in 547 rfl rfl
set_option maxRecDepth 20000 in
theorem tb_548 : (Jvm.Cond.selects "RainLetters" ({ cls := "RainLetters", name := "kindOf", desc := "(I)I" } : Jvm.MethodName) ({ cls := "RainLetters", name := "kindOf", desc := "(I)I" } : Jvm.MethodName)) ∈ tb := tb_in 548 rfl rfl
set_option maxRecDepth 20000 in
theorem tb_549 : (Jvm.Cond.code ({ cls := "RainLetters", name := "kindOf", desc := "(I)I" } : Jvm.MethodName) prog_1_method_18_code (4 : Nat) (Option.some Jvm.ClassFile.FieldType.int)) ∈ tb := tb_in 549 rfl rfl
set_option maxRecDepth 20000 in
theorem tb_550 : (Jvm.Cond.methodLink "RainLetters" (190 : Nat) ({ cls := "RainLetters$Finds", name := "fit", desc := "(LRainLetters$Street;)Z" } : Jvm.MethodName)) ∈ tb := tb_in 550 rfl rfl
set_option maxRecDepth 20000 in
theorem tb_551 : (Jvm.Cond.instanceMethod ({ cls := "RainLetters$Finds", name := "fit", desc := "(LRainLetters$Street;)Z" } : Jvm.MethodName)) ∈ tb := tb_in 551 rfl rfl
set_option maxRecDepth 20000 in
theorem tb_552 : (Jvm.Cond.selects "RainLetters$Finds" ({ cls := "RainLetters$Finds", name := "fit", desc := "(LRainLetters$Street;)Z" } : Jvm.MethodName) ({ cls := "RainLetters$Finds", name := "fit", desc := "(LRainLetters$Street;)Z" } : Jvm.MethodName)) ∈ tb := tb_in 552 rfl rfl
set_option maxRecDepth 20000 in
theorem tb_553 : (Jvm.Cond.code ({ cls := "RainLetters$Finds", name := "fit", desc := "(LRainLetters$Street;)Z" } : Jvm.MethodName) prog_3_method_4_code (3 : Nat) (Option.some Jvm.ClassFile.FieldType.boolean)) ∈ tb := tb_in 553 rfl rfl
set_option maxRecDepth 20000 in
theorem tb_554 : (Jvm.Cond.methodLink "RainLetters$Finds" (29 : Nat) ({ cls := "RainLetters$Street", name := "wordIs", desc := "(I[II)Z" } : Jvm.MethodName)) ∈ tb := tb_in 554 rfl rfl
set_option maxRecDepth 20000 in
theorem tb_556 : (Jvm.Cond.instanceMethod ({ cls := "RainLetters", name := "letterOf", desc := "(I)I" } : Jvm.MethodName)) ∈ tb := tb_in 556 rfl rfl
set_option maxRecDepth 20000 in
theorem tb_557 : (Jvm.Cond.selects "RainLetters" ({ cls := "RainLetters", name := "letterOf", desc := "(I)I" } : Jvm.MethodName) ({ cls := "RainLetters", name := "letterOf", desc := "(I)I" } : Jvm.MethodName)) ∈ tb := tb_in 557 rfl rfl
set_option maxRecDepth 20000 in
theorem tb_558 : (Jvm.Cond.code ({ cls := "RainLetters", name := "letterOf", desc := "(I)I" } : Jvm.MethodName) prog_1_method_19_code (4 : Nat) (Option.some Jvm.ClassFile.FieldType.int)) ∈ tb := tb_in 558 rfl rfl
set_option maxRecDepth 20000 in
theorem tb_562 : (Jvm.Cond.code ({ cls := "RainLetters", name := "mornings", desc := "(III)I" } : Jvm.MethodName) prog_1_method_20_code (9 : Nat) (Option.some Jvm.ClassFile.FieldType.int)) ∈ tb := tb_in 562 rfl rfl
set_option maxRecDepth 20000 in
theorem tb_563 : (Jvm.Cond.methodLink "RainLetters" (194 : Nat) ({ cls := "RainLetters", name := "nextSeed", desc := "(I)I" } : Jvm.MethodName)) ∈ tb := tb_in 563 rfl rfl
set_option maxRecDepth 20000 in
theorem tb_564 : (Jvm.Cond.static ({ cls := "RainLetters", name := "nextSeed", desc := "(I)I" } : Jvm.MethodName)) ∈ tb := tb_in 564 rfl rfl
set_option maxRecDepth 20000 in
theorem tb_565 : (Jvm.Cond.code ({ cls := "RainLetters", name := "nextSeed", desc := "(I)I" } : Jvm.MethodName) prog_1_method_32_code (1 : Nat) (Option.some Jvm.ClassFile.FieldType.int)) ∈ tb := tb_in 565 rfl rfl
set_option maxRecDepth 20000 in
theorem tb_566 : (Jvm.Cond.constant "RainLetters" (240 : Nat) (1103515245 : Int32)) ∈ tb := tb_in 566 rfl rfl
set_option maxRecDepth 20000 in
theorem tb_567 : (Jvm.Cond.constant "RainLetters" (241 : Nat) (2147483647 : Int32)) ∈ tb := tb_in 567 rfl rfl
set_option maxRecDepth 20000 in
theorem tb_571 : (Jvm.Cond.code ({ cls := "RainLetters", name := "image", desc := "()I" } : Jvm.MethodName) prog_1_method_21_code (1 : Nat) (Option.some Jvm.ClassFile.FieldType.int)) ∈ tb := tb_in 571 rfl rfl
set_option maxRecDepth 20000 in
theorem tb_572 : (Jvm.Cond.methodLink "RainLetters" (197 : Nat) ({ cls := "RainLetters$Scene", name := "takeAll", desc := "(LRainLetters$Scene;)V" } : Jvm.MethodName)) ∈ tb := tb_in 572 rfl rfl
set_option maxRecDepth 20000 in
theorem tb_573 : (Jvm.Cond.instanceMethod ({ cls := "RainLetters$Scene", name := "takeAll", desc := "(LRainLetters$Scene;)V" } : Jvm.MethodName)) ∈ tb := tb_in 573 rfl rfl
set_option maxRecDepth 20000 in
theorem tb_574 : (Jvm.Cond.selects "RainLetters$Scene" ({ cls := "RainLetters$Scene", name := "takeAll", desc := "(LRainLetters$Scene;)V" } : Jvm.MethodName) ({ cls := "RainLetters$Scene", name := "takeAll", desc := "(LRainLetters$Scene;)V" } : Jvm.MethodName)) ∈ tb := tb_in 574 rfl rfl
set_option maxRecDepth 20000 in
theorem tb_575 : (Jvm.Cond.code ({ cls := "RainLetters$Scene", name := "takeAll", desc := "(LRainLetters$Scene;)V" } : Jvm.MethodName) prog_5_method_2_code (2 : Nat) (Option.none : Option Jvm.ClassFile.FieldType)) ∈ tb := tb_in 575 rfl rfl
set_option maxRecDepth 20000 in
theorem tb_576 : (Jvm.Cond.methodLink "RainLetters$Scene" (30 : Nat) ({ cls := "RainLetters$Street", name := "takeAll", desc := "(LRainLetters$Street;)V" } : Jvm.MethodName)) ∈ tb := tb_in 576 rfl rfl
set_option maxRecDepth 20000 in
theorem tb_577 : (Jvm.Cond.instanceMethod ({ cls := "RainLetters$Street", name := "takeAll", desc := "(LRainLetters$Street;)V" } : Jvm.MethodName)) ∈ tb := tb_in 577 rfl rfl
set_option maxRecDepth 20000 in
theorem tb_578 : (Jvm.Cond.selects "RainLetters$Street" ({ cls := "RainLetters$Street", name := "takeAll", desc := "(LRainLetters$Street;)V" } : Jvm.MethodName) ({ cls := "RainLetters$Street", name := "takeAll", desc := "(LRainLetters$Street;)V" } : Jvm.MethodName)) ∈ tb := tb_in 578 rfl rfl
set_option maxRecDepth 20000 in
theorem tb_579 : (Jvm.Cond.code ({ cls := "RainLetters$Street", name := "takeAll", desc := "(LRainLetters$Street;)V" } : Jvm.MethodName) prog_6_method_4_code (3 : Nat) (Option.none : Option Jvm.ClassFile.FieldType)) ∈ tb := tb_in 579 rfl rfl
set_option maxRecDepth 20000 in
theorem tb_580 : (Jvm.Cond.methodLink "RainLetters$Street" (53 : Nat) ({ cls := "RainLetters$Street", name := "layLike", desc := "(LRainLetters$Street;)V" } : Jvm.MethodName)) ∈ tb := tb_in 580 rfl rfl
set_option maxRecDepth 20000 in
theorem tb_581 : (Jvm.Cond.methodLink "RainLetters$Scene" (34 : Nat) ({ cls := "RainLetters$Fallen", name := "takeAll", desc := "(LRainLetters$Fallen;)V" } : Jvm.MethodName)) ∈ tb := tb_in 581 rfl rfl
set_option maxRecDepth 20000 in
theorem tb_582 : (Jvm.Cond.instanceMethod ({ cls := "RainLetters$Fallen", name := "takeAll", desc := "(LRainLetters$Fallen;)V" } : Jvm.MethodName)) ∈ tb := tb_in 582 rfl rfl
set_option maxRecDepth 20000 in
theorem tb_583 : (Jvm.Cond.selects "RainLetters$Fallen" ({ cls := "RainLetters$Fallen", name := "takeAll", desc := "(LRainLetters$Fallen;)V" } : Jvm.MethodName) ({ cls := "RainLetters$Fallen", name := "takeAll", desc := "(LRainLetters$Fallen;)V" } : Jvm.MethodName)) ∈ tb := tb_in 583 rfl rfl
set_option maxRecDepth 20000 in
theorem tb_584 : (Jvm.Cond.code ({ cls := "RainLetters$Fallen", name := "takeAll", desc := "(LRainLetters$Fallen;)V" } : Jvm.MethodName) prog_2_method_3_code (2 : Nat) (Option.none : Option Jvm.ClassFile.FieldType)) ∈ tb := tb_in 584 rfl rfl
set_option maxRecDepth 20000 in
theorem tb_585 : (Jvm.Cond.methodLink "RainLetters$Fallen" (22 : Nat) ({ cls := "java/lang/System", name := "arraycopy", desc := "(Ljava/lang/Object;ILjava/lang/Object;II)V" } : Jvm.MethodName)) ∈ tb := tb_in 585 rfl rfl
set_option maxRecDepth 20000 in
theorem tb_586 : (Jvm.Cond.methodLink "RainLetters$Scene" (37 : Nat) ({ cls := "RainLetters$Finds", name := "takeAll", desc := "(LRainLetters$Finds;)V" } : Jvm.MethodName)) ∈ tb := tb_in 586 rfl rfl
set_option maxRecDepth 20000 in
theorem tb_587 : (Jvm.Cond.instanceMethod ({ cls := "RainLetters$Finds", name := "takeAll", desc := "(LRainLetters$Finds;)V" } : Jvm.MethodName)) ∈ tb := tb_in 587 rfl rfl
set_option maxRecDepth 20000 in
theorem tb_588 : (Jvm.Cond.selects "RainLetters$Finds" ({ cls := "RainLetters$Finds", name := "takeAll", desc := "(LRainLetters$Finds;)V" } : Jvm.MethodName) ({ cls := "RainLetters$Finds", name := "takeAll", desc := "(LRainLetters$Finds;)V" } : Jvm.MethodName)) ∈ tb := tb_in 588 rfl rfl
set_option maxRecDepth 20000 in
theorem tb_589 : (Jvm.Cond.code ({ cls := "RainLetters$Finds", name := "takeAll", desc := "(LRainLetters$Finds;)V" } : Jvm.MethodName) prog_3_method_5_code (3 : Nat) (Option.none : Option Jvm.ClassFile.FieldType)) ∈ tb := tb_in 589 rfl rfl
set_option maxRecDepth 20000 in
theorem tb_590 : (Jvm.Cond.methodLink "RainLetters$Finds" (35 : Nat) ({ cls := "java/lang/System", name := "arraycopy", desc := "(Ljava/lang/Object;ILjava/lang/Object;II)V" } : Jvm.MethodName)) ∈ tb := tb_in 590 rfl rfl
set_option maxRecDepth 20000 in
theorem tb_594 : (Jvm.Cond.code ({ cls := "RainLetters", name := "restore", desc := "()I" } : Jvm.MethodName) prog_1_method_22_code (1 : Nat) (Option.some Jvm.ClassFile.FieldType.int)) ∈ tb := tb_in 594 rfl rfl
set_option maxRecDepth 20000 in
theorem tb_596 : (Jvm.Cond.instanceMethod ({ cls := "RainLetters", name := "count", desc := "(I)I" } : Jvm.MethodName)) ∈ tb := tb_in 596 rfl rfl
set_option maxRecDepth 20000 in
theorem tb_597 : (Jvm.Cond.selects "RainLetters" ({ cls := "RainLetters", name := "count", desc := "(I)I" } : Jvm.MethodName) ({ cls := "RainLetters", name := "count", desc := "(I)I" } : Jvm.MethodName)) ∈ tb := tb_in 597 rfl rfl
set_option maxRecDepth 20000 in
theorem tb_598 : (Jvm.Cond.code ({ cls := "RainLetters", name := "count", desc := "(I)I" } : Jvm.MethodName) prog_1_method_23_code (2 : Nat) (Option.some Jvm.ClassFile.FieldType.int)) ∈ tb := tb_in 598 rfl rfl
set_option maxRecDepth 20000 in
theorem tb_599 : (Jvm.Cond.methodLink "RainLetters" (201 : Nat) ({ cls := "RainLetters$Street", name := "lettersLost", desc := "()I" } : Jvm.MethodName)) ∈ tb := tb_in 599 rfl rfl
set_option maxRecDepth 20000 in
theorem tb_600 : (Jvm.Cond.instanceMethod ({ cls := "RainLetters$Street", name := "lettersLost", desc := "()I" } : Jvm.MethodName)) ∈ tb := tb_in 600 rfl rfl
set_option maxRecDepth 20000 in
theorem tb_601 : (Jvm.Cond.selects "RainLetters$Street" ({ cls := "RainLetters$Street", name := "lettersLost", desc := "()I" } : Jvm.MethodName) ({ cls := "RainLetters$Street", name := "lettersLost", desc := "()I" } : Jvm.MethodName)) ∈ tb := tb_in 601 rfl rfl
set_option maxRecDepth 20000 in
theorem tb_602 : (Jvm.Cond.code ({ cls := "RainLetters$Street", name := "lettersLost", desc := "()I" } : Jvm.MethodName) prog_6_method_13_code (1 : Nat) (Option.some Jvm.ClassFile.FieldType.int)) ∈ tb := tb_in 602 rfl rfl
set_option maxRecDepth 20000 in
theorem tb_603 : (Jvm.Cond.methodLink "RainLetters" (204 : Nat) ({ cls := "RainLetters$Street", name := "fullBowls", desc := "()I" } : Jvm.MethodName)) ∈ tb := tb_in 603 rfl rfl
set_option maxRecDepth 20000 in
theorem tb_604 : (Jvm.Cond.instanceMethod ({ cls := "RainLetters$Street", name := "fullBowls", desc := "()I" } : Jvm.MethodName)) ∈ tb := tb_in 604 rfl rfl
set_option maxRecDepth 20000 in
theorem tb_605 : (Jvm.Cond.selects "RainLetters$Street" ({ cls := "RainLetters$Street", name := "fullBowls", desc := "()I" } : Jvm.MethodName) ({ cls := "RainLetters$Street", name := "fullBowls", desc := "()I" } : Jvm.MethodName)) ∈ tb := tb_in 605 rfl rfl
set_option maxRecDepth 20000 in
theorem tb_606 : (Jvm.Cond.code ({ cls := "RainLetters$Street", name := "fullBowls", desc := "()I" } : Jvm.MethodName) prog_6_method_14_code (3 : Nat) (Option.some Jvm.ClassFile.FieldType.int)) ∈ tb := tb_in 606 rfl rfl
set_option maxRecDepth 20000 in
theorem tb_610 : (Jvm.Cond.code ({ cls := "RainLetters", name := "digest", desc := "()J" } : Jvm.MethodName) prog_1_method_24_code (4 : Nat) (Option.some Jvm.ClassFile.FieldType.long)) ∈ tb := tb_in 610 rfl rfl
set_option maxRecDepth 20000 in
theorem tb_611 : (Jvm.Cond.constantLong "RainLetters" (207 : Nat) (821 : Int64)) ∈ tb := tb_in 611 rfl rfl
set_option maxRecDepth 20000 in
theorem tb_612 : (Jvm.Cond.methodLink "RainLetters" (209 : Nat) ({ cls := "RainLetters", name := "mixGutters", desc := "(J)J" } : Jvm.MethodName)) ∈ tb := tb_in 612 rfl rfl
set_option maxRecDepth 20000 in
theorem tb_614 : (Jvm.Cond.instanceMethod ({ cls := "RainLetters", name := "mixGutters", desc := "(J)J" } : Jvm.MethodName)) ∈ tb := tb_in 614 rfl rfl
set_option maxRecDepth 20000 in
theorem tb_615 : (Jvm.Cond.code ({ cls := "RainLetters", name := "mixGutters", desc := "(J)J" } : Jvm.MethodName) prog_1_method_25_code (7 : Nat) (Option.some Jvm.ClassFile.FieldType.long)) ∈ tb := tb_in 615 rfl rfl
set_option maxRecDepth 20000 in
theorem tb_616 : (Jvm.Cond.methodLink "RainLetters" (223 : Nat) ({ cls := "RainLetters", name := "about", desc := "(II)I" } : Jvm.MethodName)) ∈ tb := tb_in 616 rfl rfl
set_option maxRecDepth 20000 in
theorem tb_617 : (Jvm.Cond.methodLink "RainLetters" (216 : Nat) ({ cls := "RainLetters", name := "mix", desc := "(JJ)J" } : Jvm.MethodName)) ∈ tb := tb_in 617 rfl rfl
set_option maxRecDepth 20000 in
theorem tb_618 : (Jvm.Cond.static ({ cls := "RainLetters", name := "mix", desc := "(JJ)J" } : Jvm.MethodName)) ∈ tb := tb_in 618 rfl rfl
set_option maxRecDepth 20000 in
theorem tb_619 : (Jvm.Cond.code ({ cls := "RainLetters", name := "mix", desc := "(JJ)J" } : Jvm.MethodName) prog_1_method_27_code (4 : Nat) (Option.some Jvm.ClassFile.FieldType.long)) ∈ tb := tb_in 619 rfl rfl
set_option maxRecDepth 20000 in
theorem tb_620 : (Jvm.Cond.constantLong "RainLetters" (238 : Nat) (31 : Int64)) ∈ tb := tb_in 620 rfl rfl
set_option maxRecDepth 20000 in
theorem tb_621 : (Jvm.Cond.methodLink "RainLetters" (226 : Nat) ({ cls := "RainLetters", name := "word", desc := "(II)I" } : Jvm.MethodName)) ∈ tb := tb_in 621 rfl rfl
set_option maxRecDepth 20000 in
theorem tb_622 : (Jvm.Cond.methodLink "RainLetters" (229 : Nat) ({ cls := "RainLetters", name := "kindOf", desc := "(I)I" } : Jvm.MethodName)) ∈ tb := tb_in 622 rfl rfl
set_option maxRecDepth 20000 in
theorem tb_623 : (Jvm.Cond.methodLink "RainLetters" (213 : Nat) ({ cls := "RainLetters", name := "mixDrops", desc := "(J)J" } : Jvm.MethodName)) ∈ tb := tb_in 623 rfl rfl
set_option maxRecDepth 20000 in
theorem tb_625 : (Jvm.Cond.instanceMethod ({ cls := "RainLetters", name := "mixDrops", desc := "(J)J" } : Jvm.MethodName)) ∈ tb := tb_in 625 rfl rfl
set_option maxRecDepth 20000 in
theorem tb_626 : (Jvm.Cond.code ({ cls := "RainLetters", name := "mixDrops", desc := "(J)J" } : Jvm.MethodName) prog_1_method_26_code (6 : Nat) (Option.some Jvm.ClassFile.FieldType.long)) ∈ tb := tb_in 626 rfl rfl
set_option maxRecDepth 20000 in
theorem tb_627 : (Jvm.Cond.methodLink "RainLetters" (232 : Nat) ({ cls := "RainLetters", name := "rain", desc := "(II)I" } : Jvm.MethodName)) ∈ tb := tb_in 627 rfl rfl
set_option maxRecDepth 20000 in
theorem tb_628 : (Jvm.Cond.methodLink "RainLetters" (235 : Nat) ({ cls := "RainLetters", name := "letterOf", desc := "(I)I" } : Jvm.MethodName)) ∈ tb := tb_in 628 rfl rfl
set_option maxRecDepth 20000 in
theorem tb_629 : (Jvm.Cond.methodLink "RainLetters" (220 : Nat) ({ cls := "RainLetters", name := "count", desc := "(I)I" } : Jvm.MethodName)) ∈ tb := tb_in 629 rfl rfl
set_option maxRecDepth 20000 in
theorem tb_636 : (Jvm.Cond.constant "RainLettersModel" (40 : Nat) (55987 : Int32)) ∈ tb := tb_in 636 rfl rfl
set_option maxRecDepth 20000 in
theorem tb_637 : (Jvm.Cond.fieldLink "RainLettersModel" (7 : Nat) "RainLettersModel" "page" "[I") ∈ tb := tb_in 637 rfl rfl
set_option maxRecDepth 20000 in
theorem tb_638 : (Jvm.Cond.fieldLink "RainLettersModel" (81 : Nat) "RainLettersModel" "pageMany" "I") ∈ tb := tb_in 638 rfl rfl
set_option maxRecDepth 20000 in
theorem tb_639 : (Jvm.Cond.fieldLink "RainLettersModel" (101 : Nat) "RainLettersModel" "isThere" "Z") ∈ tb := tb_in 639 rfl rfl
set_option maxRecDepth 20000 in
theorem tb_640 : (Jvm.Cond.fieldLink "RainLettersModel" (112 : Nat) "RainLettersModel" "streetsRead" "I") ∈ tb := tb_in 640 rfl rfl
set_option maxRecDepth 20000 in
theorem tb_641 : (Jvm.Cond.fieldLink "RainLettersModel" (13 : Nat) "RainLettersModel" "kinds" "[I") ∈ tb := tb_in 641 rfl rfl
set_option maxRecDepth 20000 in
theorem tb_642 : (Jvm.Cond.fieldLink "RainLettersModel" (16 : Nat) "RainLettersModel" "ways" "[I") ∈ tb := tb_in 642 rfl rfl
set_option maxRecDepth 20000 in
theorem tb_643 : (Jvm.Cond.fieldLink "RainLettersModel" (19 : Nat) "RainLettersModel" "rows" "[I") ∈ tb := tb_in 643 rfl rfl
set_option maxRecDepth 20000 in
theorem tb_644 : (Jvm.Cond.fieldLink "RainLettersModel" (109 : Nat) "RainLettersModel" "rainMany" "I") ∈ tb := tb_in 644 rfl rfl
set_option maxRecDepth 20000 in
theorem tb_645 : (Jvm.Cond.fieldLink "RainLettersModel" (22 : Nat) "RainLettersModel" "rainGutter" "[I") ∈ tb := tb_in 645 rfl rfl
set_option maxRecDepth 20000 in
theorem tb_646 : (Jvm.Cond.fieldLink "RainLettersModel" (25 : Nat) "RainLettersModel" "rainLetter" "[I") ∈ tb := tb_in 646 rfl rfl
set_option maxRecDepth 20000 in
theorem tb_647 : (Jvm.Cond.fieldLink "RainLettersModel" (28 : Nat) "RainLettersModel" "again" "[I") ∈ tb := tb_in 647 rfl rfl
set_option maxRecDepth 20000 in
theorem tb_648 : (Jvm.Cond.fieldLink "RainLettersModel" (31 : Nat) "RainLettersModel" "againKinds" "[I") ∈ tb := tb_in 648 rfl rfl
set_option maxRecDepth 20000 in
theorem tb_649 : (Jvm.Cond.fieldLink "RainLettersModel" (34 : Nat) "RainLettersModel" "againWays" "[I") ∈ tb := tb_in 649 rfl rfl
set_option maxRecDepth 20000 in
theorem tb_650 : (Jvm.Cond.fieldLink "RainLettersModel" (37 : Nat) "RainLettersModel" "againLetter" "[I") ∈ tb := tb_in 650 rfl rfl
set_option maxRecDepth 20000 in
theorem tb_651 : (Jvm.Cond.fieldLink "RainLettersModel" (147 : Nat) "RainLettersModel" "fewMany" "I") ∈ tb := tb_in 651 rfl rfl
set_option maxRecDepth 20000 in
theorem tb_652 : (Jvm.Cond.fieldLink "RainLettersModel" (165 : Nat) "RainLettersModel" "orderMany" "I") ∈ tb := tb_in 652 rfl rfl
set_option maxRecDepth 20000 in
theorem tb_653 : (Jvm.Cond.fieldLink "RainLettersModel" (41 : Nat) "RainLettersModel" "came" "[I") ∈ tb := tb_in 653 rfl rfl
set_option maxRecDepth 20000 in
theorem tb_654 : (Jvm.Cond.fieldLink "RainLettersModel" (44 : Nat) "RainLettersModel" "order" "[I") ∈ tb := tb_in 654 rfl rfl
set_option maxRecDepth 20000 in
theorem tb_655 : (Jvm.Cond.fieldLink "RainLettersModel" (47 : Nat) "RainLettersModel" "foundMany" "[I") ∈ tb := tb_in 655 rfl rfl
set_option maxRecDepth 20000 in
theorem tb_656 : (Jvm.Cond.fieldLink "RainLettersModel" (50 : Nat) "RainLettersModel" "foundRows" "[I") ∈ tb := tb_in 656 rfl rfl
set_option maxRecDepth 20000 in
theorem tb_657 : (Jvm.Cond.fieldLink "RainLettersModel" (192 : Nat) "RainLettersModel" "seedNow" "I") ∈ tb := tb_in 657 rfl rfl
set_option maxRecDepth 20000 in
theorem tb_658 : (Jvm.Cond.fieldLink "RainLettersModel" (71 : Nat) "RainLettersModel" "keptStreet" "I") ∈ tb := tb_in 658 rfl rfl
set_option maxRecDepth 20000 in
theorem tb_659 : (Jvm.Cond.fieldLink "RainLettersModel" (205 : Nat) "RainLettersModel" "keptRainMany" "I") ∈ tb := tb_in 659 rfl rfl
set_option maxRecDepth 20000 in
theorem tb_660 : (Jvm.Cond.fieldLink "RainLettersModel" (53 : Nat) "RainLettersModel" "keptWays" "[I") ∈ tb := tb_in 660 rfl rfl
set_option maxRecDepth 20000 in
theorem tb_661 : (Jvm.Cond.fieldLink "RainLettersModel" (56 : Nat) "RainLettersModel" "keptRows" "[I") ∈ tb := tb_in 661 rfl rfl
set_option maxRecDepth 20000 in
theorem tb_662 : (Jvm.Cond.fieldLink "RainLettersModel" (59 : Nat) "RainLettersModel" "keptGutter" "[I") ∈ tb := tb_in 662 rfl rfl
set_option maxRecDepth 20000 in
theorem tb_663 : (Jvm.Cond.fieldLink "RainLettersModel" (62 : Nat) "RainLettersModel" "keptLetter" "[I") ∈ tb := tb_in 663 rfl rfl
set_option maxRecDepth 20000 in
theorem tb_664 : (Jvm.Cond.fieldLink "RainLettersModel" (65 : Nat) "RainLettersModel" "keptFoundMany" "[I") ∈ tb := tb_in 664 rfl rfl
set_option maxRecDepth 20000 in
theorem tb_665 : (Jvm.Cond.fieldLink "RainLettersModel" (68 : Nat) "RainLettersModel" "keptFound" "[I") ∈ tb := tb_in 665 rfl rfl
set_option maxRecDepth 20000 in
theorem tb_666 : (Jvm.Cond.fieldLink "RainLettersModel" (213 : Nat) "RainLettersModel" "hash" "J") ∈ tb := tb_in 666 rfl rfl
set_option maxRecDepth 20000 in
theorem tb_731 : (Jvm.Cond.code ({ cls := "RainLettersModel", name := "letter", desc := "(I)I" } : Jvm.MethodName) prog_9_method_4_code (2 : Nat) (Option.some Jvm.ClassFile.FieldType.int)) ∈ tb := tb_in 731 rfl rfl
set_option maxRecDepth 20000 in
theorem tb_732 : (Jvm.Cond.constantLong "RainLettersModel" (75 : Nat) (126 : Int64)) ∈ tb := tb_in 732 rfl rfl
set_option maxRecDepth 20000 in
theorem tb_733 : (Jvm.Cond.methodLink "RainLettersModel" (77 : Nat) ({ cls := "RainLettersModel", name := "in", desc := "(JJJ)Z" } : Jvm.MethodName)) ∈ tb := tb_in 733 rfl rfl
set_option maxRecDepth 20000 in
theorem tb_734 : (Jvm.Cond.static ({ cls := "RainLettersModel", name := "in", desc := "(JJJ)Z" } : Jvm.MethodName)) ∈ tb := tb_in 734 rfl rfl
set_option maxRecDepth 20000 in
theorem tb_735 : (Jvm.Cond.code ({ cls := "RainLettersModel", name := "in", desc := "(JJJ)Z" } : Jvm.MethodName) prog_9_method_2_code (6 : Nat) (Option.some Jvm.ClassFile.FieldType.boolean)) ∈ tb := tb_in 735 rfl rfl
set_option maxRecDepth 20000 in
theorem tb_739 : (Jvm.Cond.code ({ cls := "RainLettersModel", name := "blank", desc := "()I" } : Jvm.MethodName) prog_9_method_5_code (2 : Nat) (Option.some Jvm.ClassFile.FieldType.int)) ∈ tb := tb_in 739 rfl rfl
set_option maxRecDepth 20000 in
theorem tb_743 : (Jvm.Cond.code ({ cls := "RainLettersModel", name := "fault", desc := "(I)I" } : Jvm.MethodName) prog_9_method_9_code (2 : Nat) (Option.some Jvm.ClassFile.FieldType.int)) ∈ tb := tb_in 743 rfl rfl
set_option maxRecDepth 20000 in
theorem tb_744 : (Jvm.Cond.methodLink "RainLettersModel" (98 : Nat) ({ cls := "RainLettersModel", name := "faultOf", desc := "(I)I" } : Jvm.MethodName)) ∈ tb := tb_in 744 rfl rfl
set_option maxRecDepth 20000 in
theorem tb_746 : (Jvm.Cond.instanceMethod ({ cls := "RainLettersModel", name := "faultOf", desc := "(I)I" } : Jvm.MethodName)) ∈ tb := tb_in 746 rfl rfl
set_option maxRecDepth 20000 in
theorem tb_747 : (Jvm.Cond.code ({ cls := "RainLettersModel", name := "faultOf", desc := "(I)I" } : Jvm.MethodName) prog_9_method_8_code (3 : Nat) (Option.some Jvm.ClassFile.FieldType.int)) ∈ tb := tb_in 747 rfl rfl
set_option maxRecDepth 20000 in
theorem tb_748 : (Jvm.Cond.methodLink "RainLettersModel" (90 : Nat) ({ cls := "RainLettersModel", name := "isGood", desc := "(II)Z" } : Jvm.MethodName)) ∈ tb := tb_in 748 rfl rfl
set_option maxRecDepth 20000 in
theorem tb_749 : (Jvm.Cond.static ({ cls := "RainLettersModel", name := "isGood", desc := "(II)Z" } : Jvm.MethodName)) ∈ tb := tb_in 749 rfl rfl
set_option maxRecDepth 20000 in
theorem tb_750 : (Jvm.Cond.code ({ cls := "RainLettersModel", name := "isGood", desc := "(II)Z" } : Jvm.MethodName) prog_9_method_7_code (3 : Nat) (Option.some Jvm.ClassFile.FieldType.boolean)) ∈ tb := tb_in 750 rfl rfl
set_option maxRecDepth 20000 in
theorem tb_751 : (Jvm.Cond.methodLink "RainLettersModel" (84 : Nat) ({ cls := "RainLettersModel", name := "kindBy", desc := "(I)I" } : Jvm.MethodName)) ∈ tb := tb_in 751 rfl rfl
set_option maxRecDepth 20000 in
theorem tb_752 : (Jvm.Cond.static ({ cls := "RainLettersModel", name := "kindBy", desc := "(I)I" } : Jvm.MethodName)) ∈ tb := tb_in 752 rfl rfl
set_option maxRecDepth 20000 in
theorem tb_753 : (Jvm.Cond.code ({ cls := "RainLettersModel", name := "kindBy", desc := "(I)I" } : Jvm.MethodName) prog_9_method_6_code (1 : Nat) (Option.some Jvm.ClassFile.FieldType.int)) ∈ tb := tb_in 753 rfl rfl
set_option maxRecDepth 20000 in
theorem tb_754 : (Jvm.Cond.constantLong "RainLettersModel" (88 : Nat) (5 : Int64)) ∈ tb := tb_in 754 rfl rfl
set_option maxRecDepth 20000 in
theorem tb_755 : (Jvm.Cond.constantLong "RainLettersModel" (94 : Nat) (97 : Int64)) ∈ tb := tb_in 755 rfl rfl
set_option maxRecDepth 20000 in
theorem tb_756 : (Jvm.Cond.constantLong "RainLettersModel" (96 : Nat) (101 : Int64)) ∈ tb := tb_in 756 rfl rfl
set_option maxRecDepth 20000 in
theorem tb_760 : (Jvm.Cond.code ({ cls := "RainLettersModel", name := "street", desc := "()I" } : Jvm.MethodName) prog_9_method_12_code (2 : Nat) (Option.some Jvm.ClassFile.FieldType.int)) ∈ tb := tb_in 760 rfl rfl
set_option maxRecDepth 20000 in
theorem tb_761 : (Jvm.Cond.methodLink "RainLettersModel" (105 : Nat) ({ cls := "RainLettersModel", name := "dryRows", desc := "([I)V" } : Jvm.MethodName)) ∈ tb := tb_in 761 rfl rfl
set_option maxRecDepth 20000 in
theorem tb_762 : (Jvm.Cond.static ({ cls := "RainLettersModel", name := "dryRows", desc := "([I)V" } : Jvm.MethodName)) ∈ tb := tb_in 762 rfl rfl
set_option maxRecDepth 20000 in
theorem tb_763 : (Jvm.Cond.code ({ cls := "RainLettersModel", name := "dryRows", desc := "([I)V" } : Jvm.MethodName) prog_9_method_10_code (3 : Nat) (Option.none : Option Jvm.ClassFile.FieldType)) ∈ tb := tb_in 763 rfl rfl
set_option maxRecDepth 20000 in
theorem tb_764 : (Jvm.Cond.methodLink "RainLettersModel" (115 : Nat) ({ cls := "RainLettersModel", name := "outs", desc := "()I" } : Jvm.MethodName)) ∈ tb := tb_in 764 rfl rfl
set_option maxRecDepth 20000 in
theorem tb_766 : (Jvm.Cond.instanceMethod ({ cls := "RainLettersModel", name := "outs", desc := "()I" } : Jvm.MethodName)) ∈ tb := tb_in 766 rfl rfl
set_option maxRecDepth 20000 in
theorem tb_767 : (Jvm.Cond.code ({ cls := "RainLettersModel", name := "outs", desc := "()I" } : Jvm.MethodName) prog_9_method_11_code (3 : Nat) (Option.some Jvm.ClassFile.FieldType.int)) ∈ tb := tb_in 767 rfl rfl
set_option maxRecDepth 20000 in
theorem tb_771 : (Jvm.Cond.code ({ cls := "RainLettersModel", name := "about", desc := "(II)I" } : Jvm.MethodName) prog_9_method_15_code (3 : Nat) (Option.some Jvm.ClassFile.FieldType.int)) ∈ tb := tb_in 771 rfl rfl
set_option maxRecDepth 20000 in
theorem tb_772 : (Jvm.Cond.methodLink "RainLettersModel" (119 : Nat) ({ cls := "RainLettersModel", name := "isGutter", desc := "(I)Z" } : Jvm.MethodName)) ∈ tb := tb_in 772 rfl rfl
set_option maxRecDepth 20000 in
theorem tb_774 : (Jvm.Cond.instanceMethod ({ cls := "RainLettersModel", name := "isGutter", desc := "(I)Z" } : Jvm.MethodName)) ∈ tb := tb_in 774 rfl rfl
set_option maxRecDepth 20000 in
theorem tb_775 : (Jvm.Cond.code ({ cls := "RainLettersModel", name := "isGutter", desc := "(I)Z" } : Jvm.MethodName) prog_9_method_13_code (2 : Nat) (Option.some Jvm.ClassFile.FieldType.boolean)) ∈ tb := tb_in 775 rfl rfl
set_option maxRecDepth 20000 in
theorem tb_776 : (Jvm.Cond.methodLink "RainLettersModel" (123 : Nat) ({ cls := "RainLettersModel", name := "tell", desc := "(II)I" } : Jvm.MethodName)) ∈ tb := tb_in 776 rfl rfl
set_option maxRecDepth 20000 in
theorem tb_778 : (Jvm.Cond.instanceMethod ({ cls := "RainLettersModel", name := "tell", desc := "(II)I" } : Jvm.MethodName)) ∈ tb := tb_in 778 rfl rfl
set_option maxRecDepth 20000 in
theorem tb_779 : (Jvm.Cond.code ({ cls := "RainLettersModel", name := "tell", desc := "(II)I" } : Jvm.MethodName) prog_9_method_14_code (3 : Nat) (Option.some Jvm.ClassFile.FieldType.int)) ∈ tb := tb_in 779 rfl rfl
set_option maxRecDepth 20000 in
theorem tb_783 : (Jvm.Cond.code ({ cls := "RainLettersModel", name := "as", desc := "(II)I" } : Jvm.MethodName) prog_9_method_16_code (4 : Nat) (Option.some Jvm.ClassFile.FieldType.int)) ∈ tb := tb_in 783 rfl rfl
set_option maxRecDepth 20000 in
theorem tb_784 : (Jvm.Cond.constantLong "RainLettersModel" (127 : Nat) (4 : Int64)) ∈ tb := tb_in 784 rfl rfl
set_option maxRecDepth 20000 in
theorem tb_788 : (Jvm.Cond.code ({ cls := "RainLettersModel", name := "word", desc := "(II)I" } : Jvm.MethodName) prog_9_method_17_code (3 : Nat) (Option.some Jvm.ClassFile.FieldType.int)) ∈ tb := tb_in 788 rfl rfl
set_option maxRecDepth 20000 in
theorem tb_792 : (Jvm.Cond.code ({ cls := "RainLettersModel", name := "drop", desc := "(II)I" } : Jvm.MethodName) prog_9_method_20_code (3 : Nat) (Option.some Jvm.ClassFile.FieldType.int)) ∈ tb := tb_in 792 rfl rfl
set_option maxRecDepth 20000 in
theorem tb_793 : (Jvm.Cond.methodLink "RainLettersModel" (133 : Nat) ({ cls := "RainLettersModel", name := "runs", desc := "([I[I[III)I" } : Jvm.MethodName)) ∈ tb := tb_in 793 rfl rfl
set_option maxRecDepth 20000 in
theorem tb_794 : (Jvm.Cond.static ({ cls := "RainLettersModel", name := "runs", desc := "([I[I[III)I" } : Jvm.MethodName)) ∈ tb := tb_in 794 rfl rfl
set_option maxRecDepth 20000 in
theorem tb_795 : (Jvm.Cond.code ({ cls := "RainLettersModel", name := "runs", desc := "([I[I[III)I" } : Jvm.MethodName) prog_9_method_19_code (8 : Nat) (Option.some Jvm.ClassFile.FieldType.int)) ∈ tb := tb_in 795 rfl rfl
set_option maxRecDepth 20000 in
theorem tb_796 : (Jvm.Cond.methodLink "RainLettersModel" (129 : Nat) ({ cls := "RainLettersModel", name := "through", desc := "([IIII)I" } : Jvm.MethodName)) ∈ tb := tb_in 796 rfl rfl
set_option maxRecDepth 20000 in
theorem tb_797 : (Jvm.Cond.static ({ cls := "RainLettersModel", name := "through", desc := "([IIII)I" } : Jvm.MethodName)) ∈ tb := tb_in 797 rfl rfl
set_option maxRecDepth 20000 in
theorem tb_798 : (Jvm.Cond.code ({ cls := "RainLettersModel", name := "through", desc := "([IIII)I" } : Jvm.MethodName) prog_9_method_18_code (7 : Nat) (Option.some Jvm.ClassFile.FieldType.int)) ∈ tb := tb_in 798 rfl rfl
set_option maxRecDepth 20000 in
theorem tb_802 : (Jvm.Cond.code ({ cls := "RainLettersModel", name := "rain", desc := "(II)I" } : Jvm.MethodName) prog_9_method_21_code (3 : Nat) (Option.some Jvm.ClassFile.FieldType.int)) ∈ tb := tb_in 802 rfl rfl
set_option maxRecDepth 20000 in
theorem tb_806 : (Jvm.Cond.code ({ cls := "RainLettersModel", name := "dry", desc := "()I" } : Jvm.MethodName) prog_9_method_22_code (2 : Nat) (Option.some Jvm.ClassFile.FieldType.int)) ∈ tb := tb_in 806 rfl rfl
set_option maxRecDepth 20000 in
theorem tb_810 : (Jvm.Cond.code ({ cls := "RainLettersModel", name := "turn", desc := "(II)I" } : Jvm.MethodName) prog_9_method_23_code (4 : Nat) (Option.some Jvm.ClassFile.FieldType.int)) ∈ tb := tb_in 810 rfl rfl
set_option maxRecDepth 20000 in
theorem tb_814 : (Jvm.Cond.code ({ cls := "RainLettersModel", name := "fewTurns", desc := "(II)I" } : Jvm.MethodName) prog_9_method_30_code (9 : Nat) (Option.some Jvm.ClassFile.FieldType.int)) ∈ tb := tb_in 814 rfl rfl
set_option maxRecDepth 20000 in
theorem tb_815 : (Jvm.Cond.constantLong "RainLettersModel" (141 : Nat) (2 : Int64)) ∈ tb := tb_in 815 rfl rfl
set_option maxRecDepth 20000 in
theorem tb_816 : (Jvm.Cond.methodLink "RainLettersModel" (143 : Nat) ({ cls := "RainLettersModel", name := "isPageWord", desc := "()Z" } : Jvm.MethodName)) ∈ tb := tb_in 816 rfl rfl
set_option maxRecDepth 20000 in
theorem tb_818 : (Jvm.Cond.instanceMethod ({ cls := "RainLettersModel", name := "isPageWord", desc := "()Z" } : Jvm.MethodName)) ∈ tb := tb_in 818 rfl rfl
set_option maxRecDepth 20000 in
theorem tb_819 : (Jvm.Cond.code ({ cls := "RainLettersModel", name := "isPageWord", desc := "()Z" } : Jvm.MethodName) prog_9_method_26_code (1 : Nat) (Option.some Jvm.ClassFile.FieldType.boolean)) ∈ tb := tb_in 819 rfl rfl
set_option maxRecDepth 20000 in
theorem tb_820 : (Jvm.Cond.methodLink "RainLettersModel" (150 : Nat) ({ cls := "RainLettersModel", name := "asItIs", desc := "()V" } : Jvm.MethodName)) ∈ tb := tb_in 820 rfl rfl
set_option maxRecDepth 20000 in
theorem tb_822 : (Jvm.Cond.instanceMethod ({ cls := "RainLettersModel", name := "asItIs", desc := "()V" } : Jvm.MethodName)) ∈ tb := tb_in 822 rfl rfl
set_option maxRecDepth 20000 in
theorem tb_823 : (Jvm.Cond.code ({ cls := "RainLettersModel", name := "asItIs", desc := "()V" } : Jvm.MethodName) prog_9_method_24_code (1 : Nat) (Option.none : Option Jvm.ClassFile.FieldType)) ∈ tb := tb_in 823 rfl rfl
set_option maxRecDepth 20000 in
theorem tb_824 : (Jvm.Cond.methodLink "RainLettersModel" (137 : Nat) ({ cls := "RainLettersModel", name := "copy", desc := "([I[I)V" } : Jvm.MethodName)) ∈ tb := tb_in 824 rfl rfl
set_option maxRecDepth 20000 in
theorem tb_825 : (Jvm.Cond.static ({ cls := "RainLettersModel", name := "copy", desc := "([I[I)V" } : Jvm.MethodName)) ∈ tb := tb_in 825 rfl rfl
set_option maxRecDepth 20000 in
theorem tb_826 : (Jvm.Cond.code ({ cls := "RainLettersModel", name := "copy", desc := "([I[I)V" } : Jvm.MethodName) prog_9_method_3_code (3 : Nat) (Option.none : Option Jvm.ClassFile.FieldType)) ∈ tb := tb_in 826 rfl rfl
set_option maxRecDepth 20000 in
theorem tb_827 : (Jvm.Cond.methodLink "RainLettersModel" (153 : Nat) ({ cls := "RainLettersModel", name := "layWays", desc := "(I)I" } : Jvm.MethodName)) ∈ tb := tb_in 827 rfl rfl
set_option maxRecDepth 20000 in
theorem tb_829 : (Jvm.Cond.instanceMethod ({ cls := "RainLettersModel", name := "layWays", desc := "(I)I" } : Jvm.MethodName)) ∈ tb := tb_in 829 rfl rfl
set_option maxRecDepth 20000 in
theorem tb_830 : (Jvm.Cond.code ({ cls := "RainLettersModel", name := "layWays", desc := "(I)I" } : Jvm.MethodName) prog_9_method_28_code (7 : Nat) (Option.some Jvm.ClassFile.FieldType.int)) ∈ tb := tb_in 830 rfl rfl
set_option maxRecDepth 20000 in
theorem tb_831 : (Jvm.Cond.methodLink "RainLettersModel" (156 : Nat) ({ cls := "RainLettersModel", name := "ones", desc := "(I)I" } : Jvm.MethodName)) ∈ tb := tb_in 831 rfl rfl
set_option maxRecDepth 20000 in
theorem tb_832 : (Jvm.Cond.static ({ cls := "RainLettersModel", name := "ones", desc := "(I)I" } : Jvm.MethodName)) ∈ tb := tb_in 832 rfl rfl
set_option maxRecDepth 20000 in
theorem tb_833 : (Jvm.Cond.code ({ cls := "RainLettersModel", name := "ones", desc := "(I)I" } : Jvm.MethodName) prog_9_method_29_code (3 : Nat) (Option.some Jvm.ClassFile.FieldType.int)) ∈ tb := tb_in 833 rfl rfl
set_option maxRecDepth 20000 in
theorem tb_834 : (Jvm.Cond.methodLink "RainLettersModel" (159 : Nat) ({ cls := "RainLettersModel", name := "fallsAgain", desc := "()V" } : Jvm.MethodName)) ∈ tb := tb_in 834 rfl rfl
set_option maxRecDepth 20000 in
theorem tb_836 : (Jvm.Cond.instanceMethod ({ cls := "RainLettersModel", name := "fallsAgain", desc := "()V" } : Jvm.MethodName)) ∈ tb := tb_in 836 rfl rfl
set_option maxRecDepth 20000 in
theorem tb_837 : (Jvm.Cond.code ({ cls := "RainLettersModel", name := "fallsAgain", desc := "()V" } : Jvm.MethodName) prog_9_method_25_code (3 : Nat) (Option.none : Option Jvm.ClassFile.FieldType)) ∈ tb := tb_in 837 rfl rfl
set_option maxRecDepth 20000 in
theorem tb_838 : (Jvm.Cond.methodLink "RainLettersModel" (162 : Nat) ({ cls := "RainLettersModel", name := "hasPage", desc := "(I)Z" } : Jvm.MethodName)) ∈ tb := tb_in 838 rfl rfl
set_option maxRecDepth 20000 in
theorem tb_840 : (Jvm.Cond.instanceMethod ({ cls := "RainLettersModel", name := "hasPage", desc := "(I)Z" } : Jvm.MethodName)) ∈ tb := tb_in 840 rfl rfl
set_option maxRecDepth 20000 in
theorem tb_841 : (Jvm.Cond.code ({ cls := "RainLettersModel", name := "hasPage", desc := "(I)Z" } : Jvm.MethodName) prog_9_method_27_code (4 : Nat) (Option.some Jvm.ClassFile.FieldType.boolean)) ∈ tb := tb_in 841 rfl rfl
set_option maxRecDepth 20000 in
theorem tb_845 : (Jvm.Cond.code ({ cls := "RainLettersModel", name := "orders", desc := "(I)I" } : Jvm.MethodName) prog_9_method_33_code (8 : Nat) (Option.some Jvm.ClassFile.FieldType.int)) ∈ tb := tb_in 845 rfl rfl
set_option maxRecDepth 20000 in
theorem tb_846 : (Jvm.Cond.methodLink "RainLettersModel" (168 : Nat) ({ cls := "RainLettersModel", name := "isOrder", desc := "(II)Z" } : Jvm.MethodName)) ∈ tb := tb_in 846 rfl rfl
set_option maxRecDepth 20000 in
theorem tb_848 : (Jvm.Cond.instanceMethod ({ cls := "RainLettersModel", name := "isOrder", desc := "(II)Z" } : Jvm.MethodName)) ∈ tb := tb_in 848 rfl rfl
set_option maxRecDepth 20000 in
theorem tb_849 : (Jvm.Cond.code ({ cls := "RainLettersModel", name := "isOrder", desc := "(II)Z" } : Jvm.MethodName) prog_9_method_32_code (6 : Nat) (Option.some Jvm.ClassFile.FieldType.boolean)) ∈ tb := tb_in 849 rfl rfl
set_option maxRecDepth 20000 in
theorem tb_850 : (Jvm.Cond.methodLink "RainLettersModel" (171 : Nat) ({ cls := "RainLettersModel", name := "wordOf", desc := "(I)I" } : Jvm.MethodName)) ∈ tb := tb_in 850 rfl rfl
set_option maxRecDepth 20000 in
theorem tb_852 : (Jvm.Cond.instanceMethod ({ cls := "RainLettersModel", name := "wordOf", desc := "(I)I" } : Jvm.MethodName)) ∈ tb := tb_in 852 rfl rfl
set_option maxRecDepth 20000 in
theorem tb_853 : (Jvm.Cond.code ({ cls := "RainLettersModel", name := "wordOf", desc := "(I)I" } : Jvm.MethodName) prog_9_method_31_code (4 : Nat) (Option.some Jvm.ClassFile.FieldType.int)) ∈ tb := tb_in 853 rfl rfl
set_option maxRecDepth 20000 in
theorem tb_857 : (Jvm.Cond.code ({ cls := "RainLettersModel", name := "bestDrop", desc := "(I)I" } : Jvm.MethodName) prog_9_method_35_code (6 : Nat) (Option.some Jvm.ClassFile.FieldType.int)) ∈ tb := tb_in 857 rfl rfl
set_option maxRecDepth 20000 in
theorem tb_858 : (Jvm.Cond.methodLink "RainLettersModel" (174 : Nat) ({ cls := "RainLettersModel", name := "outOf", desc := "([I)I" } : Jvm.MethodName)) ∈ tb := tb_in 858 rfl rfl
set_option maxRecDepth 20000 in
theorem tb_859 : (Jvm.Cond.static ({ cls := "RainLettersModel", name := "outOf", desc := "([I)I" } : Jvm.MethodName)) ∈ tb := tb_in 859 rfl rfl
set_option maxRecDepth 20000 in
theorem tb_860 : (Jvm.Cond.code ({ cls := "RainLettersModel", name := "outOf", desc := "([I)I" } : Jvm.MethodName) prog_9_method_34_code (3 : Nat) (Option.some Jvm.ClassFile.FieldType.int)) ∈ tb := tb_in 860 rfl rfl
set_option maxRecDepth 20000 in
theorem tb_864 : (Jvm.Cond.code ({ cls := "RainLettersModel", name := "found", desc := "(I)I" } : Jvm.MethodName) prog_9_method_37_code (3 : Nat) (Option.some Jvm.ClassFile.FieldType.int)) ∈ tb := tb_in 864 rfl rfl
set_option maxRecDepth 20000 in
theorem tb_865 : (Jvm.Cond.methodLink "RainLettersModel" (178 : Nat) ({ cls := "RainLettersModel", name := "founds", desc := "()I" } : Jvm.MethodName)) ∈ tb := tb_in 865 rfl rfl
set_option maxRecDepth 20000 in
theorem tb_867 : (Jvm.Cond.instanceMethod ({ cls := "RainLettersModel", name := "founds", desc := "()I" } : Jvm.MethodName)) ∈ tb := tb_in 867 rfl rfl
set_option maxRecDepth 20000 in
theorem tb_868 : (Jvm.Cond.code ({ cls := "RainLettersModel", name := "founds", desc := "()I" } : Jvm.MethodName) prog_9_method_36_code (3 : Nat) (Option.some Jvm.ClassFile.FieldType.int)) ∈ tb := tb_in 868 rfl rfl
set_option maxRecDepth 20000 in
theorem tb_872 : (Jvm.Cond.code ({ cls := "RainLettersModel", name := "forget", desc := "()I" } : Jvm.MethodName) prog_9_method_38_code (3 : Nat) (Option.some Jvm.ClassFile.FieldType.int)) ∈ tb := tb_in 872 rfl rfl
set_option maxRecDepth 20000 in
theorem tb_876 : (Jvm.Cond.code ({ cls := "RainLettersModel", name := "kindOf", desc := "(I)I" } : Jvm.MethodName) prog_9_method_41_code (2 : Nat) (Option.some Jvm.ClassFile.FieldType.int)) ∈ tb := tb_in 876 rfl rfl
set_option maxRecDepth 20000 in
theorem tb_877 : (Jvm.Cond.methodLink "RainLettersModel" (184 : Nat) ({ cls := "RainLettersModel", name := "kindBits", desc := "(I)I" } : Jvm.MethodName)) ∈ tb := tb_in 877 rfl rfl
set_option maxRecDepth 20000 in
theorem tb_879 : (Jvm.Cond.instanceMethod ({ cls := "RainLettersModel", name := "kindBits", desc := "(I)I" } : Jvm.MethodName)) ∈ tb := tb_in 879 rfl rfl
set_option maxRecDepth 20000 in
theorem tb_880 : (Jvm.Cond.code ({ cls := "RainLettersModel", name := "kindBits", desc := "(I)I" } : Jvm.MethodName) prog_9_method_40_code (4 : Nat) (Option.some Jvm.ClassFile.FieldType.int)) ∈ tb := tb_in 880 rfl rfl
set_option maxRecDepth 20000 in
theorem tb_881 : (Jvm.Cond.methodLink "RainLettersModel" (181 : Nat) ({ cls := "RainLettersModel", name := "isFound", desc := "()Z" } : Jvm.MethodName)) ∈ tb := tb_in 881 rfl rfl
set_option maxRecDepth 20000 in
theorem tb_883 : (Jvm.Cond.instanceMethod ({ cls := "RainLettersModel", name := "isFound", desc := "()Z" } : Jvm.MethodName)) ∈ tb := tb_in 883 rfl rfl
set_option maxRecDepth 20000 in
theorem tb_884 : (Jvm.Cond.code ({ cls := "RainLettersModel", name := "isFound", desc := "()Z" } : Jvm.MethodName) prog_9_method_39_code (4 : Nat) (Option.some Jvm.ClassFile.FieldType.boolean)) ∈ tb := tb_in 884 rfl rfl
set_option maxRecDepth 20000 in
theorem tb_888 : (Jvm.Cond.code ({ cls := "RainLettersModel", name := "letterOf", desc := "(I)I" } : Jvm.MethodName) prog_9_method_43_code (2 : Nat) (Option.some Jvm.ClassFile.FieldType.int)) ∈ tb := tb_in 888 rfl rfl
set_option maxRecDepth 20000 in
theorem tb_889 : (Jvm.Cond.methodLink "RainLettersModel" (187 : Nat) ({ cls := "RainLettersModel", name := "letterBits", desc := "(I)I" } : Jvm.MethodName)) ∈ tb := tb_in 889 rfl rfl
set_option maxRecDepth 20000 in
theorem tb_891 : (Jvm.Cond.instanceMethod ({ cls := "RainLettersModel", name := "letterBits", desc := "(I)I" } : Jvm.MethodName)) ∈ tb := tb_in 891 rfl rfl
set_option maxRecDepth 20000 in
theorem tb_892 : (Jvm.Cond.code ({ cls := "RainLettersModel", name := "letterBits", desc := "(I)I" } : Jvm.MethodName) prog_9_method_42_code (4 : Nat) (Option.some Jvm.ClassFile.FieldType.int)) ∈ tb := tb_in 892 rfl rfl
set_option maxRecDepth 20000 in
theorem tb_896 : (Jvm.Cond.code ({ cls := "RainLettersModel", name := "mornings", desc := "(III)I" } : Jvm.MethodName) prog_9_method_45_code (10 : Nat) (Option.some Jvm.ClassFile.FieldType.int)) ∈ tb := tb_in 896 rfl rfl
set_option maxRecDepth 20000 in
theorem tb_897 : (Jvm.Cond.constantLong "RainLettersModel" (200 : Nat) (40 : Int64)) ∈ tb := tb_in 897 rfl rfl
set_option maxRecDepth 20000 in
theorem tb_898 : (Jvm.Cond.methodLink "RainLettersModel" (202 : Nat) ({ cls := "RainLettersModel", name := "draw", desc := "(I)I" } : Jvm.MethodName)) ∈ tb := tb_in 898 rfl rfl
set_option maxRecDepth 20000 in
theorem tb_900 : (Jvm.Cond.instanceMethod ({ cls := "RainLettersModel", name := "draw", desc := "(I)I" } : Jvm.MethodName)) ∈ tb := tb_in 900 rfl rfl
set_option maxRecDepth 20000 in
theorem tb_901 : (Jvm.Cond.code ({ cls := "RainLettersModel", name := "draw", desc := "(I)I" } : Jvm.MethodName) prog_9_method_44_code (2 : Nat) (Option.some Jvm.ClassFile.FieldType.int)) ∈ tb := tb_in 901 rfl rfl
set_option maxRecDepth 20000 in
theorem tb_902 : (Jvm.Cond.constantLong "RainLettersModel" (190 : Nat) (1103515245 : Int64)) ∈ tb := tb_in 902 rfl rfl
set_option maxRecDepth 20000 in
theorem tb_903 : (Jvm.Cond.constantLong "RainLettersModel" (195 : Nat) (12345 : Int64)) ∈ tb := tb_in 903 rfl rfl
set_option maxRecDepth 20000 in
theorem tb_904 : (Jvm.Cond.constantLong "RainLettersModel" (197 : Nat) (2147483647 : Int64)) ∈ tb := tb_in 904 rfl rfl
set_option maxRecDepth 20000 in
theorem tb_905 : (Jvm.Cond.constant "RainLettersModel" (199 : Nat) (65536 : Int32)) ∈ tb := tb_in 905 rfl rfl
set_option maxRecDepth 20000 in
theorem tb_909 : (Jvm.Cond.code ({ cls := "RainLettersModel", name := "image", desc := "()I" } : Jvm.MethodName) prog_9_method_46_code (1 : Nat) (Option.some Jvm.ClassFile.FieldType.int)) ∈ tb := tb_in 909 rfl rfl
set_option maxRecDepth 20000 in
theorem tb_913 : (Jvm.Cond.code ({ cls := "RainLettersModel", name := "restore", desc := "()I" } : Jvm.MethodName) prog_9_method_47_code (1 : Nat) (Option.some Jvm.ClassFile.FieldType.int)) ∈ tb := tb_in 913 rfl rfl
set_option maxRecDepth 20000 in
theorem tb_917 : (Jvm.Cond.code ({ cls := "RainLettersModel", name := "count", desc := "(I)I" } : Jvm.MethodName) prog_9_method_49_code (2 : Nat) (Option.some Jvm.ClassFile.FieldType.int)) ∈ tb := tb_in 917 rfl rfl
set_option maxRecDepth 20000 in
theorem tb_918 : (Jvm.Cond.methodLink "RainLettersModel" (208 : Nat) ({ cls := "RainLettersModel", name := "countOf", desc := "(I)I" } : Jvm.MethodName)) ∈ tb := tb_in 918 rfl rfl
set_option maxRecDepth 20000 in
theorem tb_920 : (Jvm.Cond.instanceMethod ({ cls := "RainLettersModel", name := "countOf", desc := "(I)I" } : Jvm.MethodName)) ∈ tb := tb_in 920 rfl rfl
set_option maxRecDepth 20000 in
theorem tb_921 : (Jvm.Cond.code ({ cls := "RainLettersModel", name := "countOf", desc := "(I)I" } : Jvm.MethodName) prog_9_method_48_code (5 : Nat) (Option.some Jvm.ClassFile.FieldType.int)) ∈ tb := tb_in 921 rfl rfl
set_option maxRecDepth 20000 in
theorem tb_925 : (Jvm.Cond.code ({ cls := "RainLettersModel", name := "digest", desc := "()J" } : Jvm.MethodName) prog_9_method_52_code (2 : Nat) (Option.some Jvm.ClassFile.FieldType.long)) ∈ tb := tb_in 925 rfl rfl
set_option maxRecDepth 20000 in
theorem tb_926 : (Jvm.Cond.constantLong "RainLettersModel" (221 : Nat) (821 : Int64)) ∈ tb := tb_in 926 rfl rfl
set_option maxRecDepth 20000 in
theorem tb_927 : (Jvm.Cond.methodLink "RainLettersModel" (223 : Nat) ({ cls := "RainLettersModel", name := "sayGutter", desc := "(I)V" } : Jvm.MethodName)) ∈ tb := tb_in 927 rfl rfl
set_option maxRecDepth 20000 in
theorem tb_929 : (Jvm.Cond.instanceMethod ({ cls := "RainLettersModel", name := "sayGutter", desc := "(I)V" } : Jvm.MethodName)) ∈ tb := tb_in 929 rfl rfl
set_option maxRecDepth 20000 in
theorem tb_930 : (Jvm.Cond.code ({ cls := "RainLettersModel", name := "sayGutter", desc := "(I)V" } : Jvm.MethodName) prog_9_method_51_code (3 : Nat) (Option.none : Option Jvm.ClassFile.FieldType)) ∈ tb := tb_in 930 rfl rfl
set_option maxRecDepth 20000 in
theorem tb_931 : (Jvm.Cond.methodLink "RainLettersModel" (217 : Nat) ({ cls := "RainLettersModel", name := "say", desc := "(J)V" } : Jvm.MethodName)) ∈ tb := tb_in 931 rfl rfl
set_option maxRecDepth 20000 in
theorem tb_933 : (Jvm.Cond.instanceMethod ({ cls := "RainLettersModel", name := "say", desc := "(J)V" } : Jvm.MethodName)) ∈ tb := tb_in 933 rfl rfl
set_option maxRecDepth 20000 in
theorem tb_934 : (Jvm.Cond.code ({ cls := "RainLettersModel", name := "say", desc := "(J)V" } : Jvm.MethodName) prog_9_method_50_code (3 : Nat) (Option.none : Option Jvm.ClassFile.FieldType)) ∈ tb := tb_in 934 rfl rfl
set_option maxRecDepth 20000 in
theorem tb_935 : (Jvm.Cond.constantLong "RainLettersModel" (211 : Nat) (31 : Int64)) ∈ tb := tb_in 935 rfl rfl
def mX0_add : Mt := (yX0_add, cX0_add, 3, none, { frames := 0, cells := 0, slots := 0, locals := 0 })
theorem ml_X0_add : ML mX0_add 2 := ⟨tb_38, tb_407, by decide +kernel, rfl, rfl, by decide +kernel⟩
def mX0_takeAll : Mt := (yX0_takeAll, cX0_takeAll, 2, none, { frames := 1, cells := 0, slots := 0, locals := 60 })
theorem ml_X0_takeAll : ML mX0_takeAll 1 := ⟨tb_38, tb_584, by decide +kernel, rfl, rfl, by decide +kernel⟩
def mX1_clear : Mt := (yX1_clear, cX1_clear, 1, none, { frames := 1, cells := 0, slots := 0, locals := 23 })
theorem ml_X1_clear : ML mX1_clear 0 := ⟨tb_39, tb_153, by decide +kernel, rfl, rfl, by decide +kernel⟩
def mX1_countFound : Mt := (yX1_countFound, cX1_countFound, 6, (some .int), { frames := 0, cells := 0, slots := 0, locals := 0 })
theorem ml_X1_countFound : ML mX1_countFound 0 := ⟨tb_39, tb_541, by decide +kernel, rfl, rfl, by decide +kernel⟩
def mX1_fit : Mt := (yX1_fit, cX1_fit, 3, (some .boolean), { frames := 1, cells := 0, slots := 0, locals := 24 })
theorem ml_X1_fit : ML mX1_fit 1 := ⟨tb_39, tb_553, by decide +kernel, rfl, rfl, by decide +kernel⟩
def mX1_takeAll : Mt := (yX1_takeAll, cX1_takeAll, 3, none, { frames := 1, cells := 0, slots := 0, locals := 60 })
theorem ml_X1_takeAll : ML mX1_takeAll 1 := ⟨tb_39, tb_589, by decide +kernel, rfl, rfl, by decide +kernel⟩
def mX2_firstFault : Mt := (yX2_firstFault, cX2_firstFault, 4, (some .int), { frames := 6, cells := 0, slots := 0, locals := 133 })
theorem ml_X2_firstFault : ML mX2_firstFault 1 := ⟨tb_35, tb_250, by decide +kernel, rfl, rfl, by decide +kernel⟩
def mX2_isStreet : Mt := (yX2_isStreet, cX2_isStreet, 1, (some .boolean), { frames := 7, cells := 0, slots := 0, locals := 156 })
theorem ml_X2_isStreet : ML mX2_isStreet 0 := ⟨tb_35, tb_365, by decide +kernel, rfl, rfl, by decide +kernel⟩
def mX2_isWord : Mt := (yX2_isWord, cX2_isWord, 1, (some .boolean), { frames := 7, cells := 0, slots := 0, locals := 156 })
theorem ml_X2_isWord : ML mX2_isWord 0 := ⟨tb_35, tb_447, by decide +kernel, rfl, rfl, by decide +kernel⟩
def mX2_kindAt : Mt := (yX2_kindAt, cX2_kindAt, 2, (some .int), { frames := 4, cells := 0, slots := 0, locals := 91 })
theorem ml_X2_kindAt : ML mX2_kindAt 1 := ⟨tb_35, tb_258, by decide +kernel, rfl, rfl, by decide +kernel⟩
def mX2_flowAt : Mt := (yX2_flowAt, cX2_flowAt, 5, (some .int), { frames := 0, cells := 0, slots := 0, locals := 0 })
theorem ml_X2_flowAt : ML mX2_flowAt 2 := ⟨tb_35, tb_349, by decide +kernel, rfl, rfl, by decide +kernel⟩
def mX2_copyLetters : Mt := (yX2_copyLetters, cX2_copyLetters, 3, none, { frames := 0, cells := 0, slots := 0, locals := 0 })
theorem ml_X2_copyLetters : ML mX2_copyLetters 1 := ⟨tb_35, tb_455, by decide +kernel, rfl, rfl, by decide +kernel⟩
def mX2_fitsStreet : Mt := (yX2_fitsStreet, cX2_fitsStreet, 2, (some .boolean), { frames := 5, cells := 0, slots := 0, locals := 112 })
theorem ml_X2_fitsStreet : ML mX2_fitsStreet 1 := ⟨tb_35, tb_254, by decide +kernel, rfl, rfl, by decide +kernel⟩
def mX2_fitsWord : Mt := (yX2_fitsWord, cX2_fitsWord, 2, (some .boolean), { frames := 1, cells := 0, slots := 0, locals := 20 })
theorem ml_X2_fitsWord : ML mX2_fitsWord 1 := ⟨tb_35, tb_353, by decide +kernel, rfl, rfl, by decide +kernel⟩
def mX3_takeAll : Mt := (yX3_takeAll, cX3_takeAll, 2, none, { frames := 4, cells := 0, slots := 0, locals := 103 })
theorem ml_X3_takeAll : ML mX3_takeAll 1 := ⟨tb_36, tb_575, by decide +kernel, rfl, rfl, by decide +kernel⟩
def mX4_clear : Mt := (yX4_clear, cX4_clear, 1, none, { frames := 1, cells := 0, slots := 0, locals := 23 })
theorem ml_X4_clear : ML mX4_clear 0 := ⟨tb_37, tb_372, by decide +kernel, rfl, rfl, by decide +kernel⟩
def mX4_layLike : Mt := (yX4_layLike, cX4_layLike, 2, none, { frames := 2, cells := 0, slots := 0, locals := 60 })
theorem ml_X4_layLike : ML mX4_layLike 1 := ⟨tb_37, tb_463, by decide +kernel, rfl, rfl, by decide +kernel⟩
def mX4_takeAll : Mt := (yX4_takeAll, cX4_takeAll, 3, none, { frames := 3, cells := 0, slots := 0, locals := 81 })
theorem ml_X4_takeAll : ML mX4_takeAll 1 := ⟨tb_37, tb_579, by decide +kernel, rfl, rfl, by decide +kernel⟩
def mX4_flowBy : Mt := (yX4_flowBy, cX4_flowBy, 6, none, { frames := 0, cells := 0, slots := 0, locals := 0 })
theorem ml_X4_flowBy : ML mX4_flowBy 1 := ⟨tb_37, tb_471, by decide +kernel, rfl, rfl, by decide +kernel⟩
def mX4_unlikeFlows : Mt := (yX4_unlikeFlows, cX4_unlikeFlows, 4, (some .int), { frames := 0, cells := 0, slots := 0, locals := 0 })
theorem ml_X4_unlikeFlows : ML mX4_unlikeFlows 1 := ⟨tb_37, tb_475, by decide +kernel, rfl, rfl, by decide +kernel⟩
def mX4_runAll : Mt := (yX4_runAll, cX4_runAll, 5, none, { frames := 3, cells := 0, slots := 0, locals := 71 })
theorem ml_X4_runAll : ML mX4_runAll 3 := ⟨tb_37, tb_485, by decide +kernel, rfl, rfl, by decide +kernel⟩
def mX4_run : Mt := (yX4_run, cX4_run, 6, (some .int), { frames := 2, cells := 0, slots := 0, locals := 46 })
theorem ml_X4_run : ML mX4_run 2 := ⟨tb_37, tb_411, by decide +kernel, rfl, rfl, by decide +kernel⟩
def mX4_wordIs : Mt := (yX4_wordIs, cX4_wordIs, 5, (some .boolean), { frames := 0, cells := 0, slots := 0, locals := 0 })
theorem ml_X4_wordIs : ML mX4_wordIs 3 := ⟨tb_37, tb_490, by decide +kernel, rfl, rfl, by decide +kernel⟩
def mX4_wordCode : Mt := (yX4_wordCode, cX4_wordCode, 4, (some .int), { frames := 0, cells := 0, slots := 0, locals := 0 })
theorem ml_X4_wordCode : ML mX4_wordCode 1 := ⟨tb_37, tb_518, by decide +kernel, rfl, rfl, by decide +kernel⟩
def mX4_countOut : Mt := (yX4_countOut, cX4_countOut, 6, (some .int), { frames := 0, cells := 0, slots := 0, locals := 0 })
theorem ml_X4_countOut : ML mX4_countOut 0 := ⟨tb_37, tb_378, by decide +kernel, rfl, rfl, by decide +kernel⟩
def mX4_lettersOut : Mt := (yX4_lettersOut, cX4_lettersOut, 1, (some .int), { frames := 1, cells := 0, slots := 0, locals := 25 })
theorem ml_X4_lettersOut : ML mX4_lettersOut 0 := ⟨tb_37, tb_530, by decide +kernel, rfl, rfl, by decide +kernel⟩
def mX4_lettersLost : Mt := (yX4_lettersLost, cX4_lettersLost, 1, (some .int), { frames := 1, cells := 0, slots := 0, locals := 25 })
theorem ml_X4_lettersLost : ML mX4_lettersLost 0 := ⟨tb_37, tb_602, by decide +kernel, rfl, rfl, by decide +kernel⟩
def mX4_fullBowls : Mt := (yX4_fullBowls, cX4_fullBowls, 3, (some .int), { frames := 0, cells := 0, slots := 0, locals := 0 })
theorem ml_X4_fullBowls : ML mX4_fullBowls 0 := ⟨tb_37, tb_606, by decide +kernel, rfl, rfl, by decide +kernel⟩
def mX4_sum : Mt := (yX4_sum, cX4_sum, 6, (some .int), { frames := 0, cells := 0, slots := 0, locals := 0 })
theorem ml_X4_sum : ML mX4_sum 1 := ⟨tb_37, tb_533, by decide +kernel, rfl, rfl, by decide +kernel⟩
def mX4_runOut : Mt := (yX4_runOut, cX4_runOut, 3, none, { frames := 0, cells := 0, slots := 0, locals := 0 })
theorem ml_X4_runOut : ML mX4_runOut 2 := ⟨tb_37, tb_423, by decide +kernel, rfl, rfl, by decide +kernel⟩
def mX4_passOn : Mt := (yX4_passOn, cX4_passOn, 4, (some .int), { frames := 1, cells := 0, slots := 0, locals := 23 })
theorem ml_X4_passOn : ML mX4_passOn 2 := ⟨tb_37, tb_415, by decide +kernel, rfl, rfl, by decide +kernel⟩
def mX4_letsThrough : Mt := (yX4_letsThrough, cX4_letsThrough, 4, (some .boolean), { frames := 0, cells := 0, slots := 0, locals := 0 })
theorem ml_X4_letsThrough : ML mX4_letsThrough 2 := ⟨tb_37, tb_419, by decide +kernel, rfl, rfl, by decide +kernel⟩
def mX5_clear : Mt := (yX5_clear, cX5_clear, 1, none, { frames := 0, cells := 0, slots := 0, locals := 0 })
theorem ml_X5_clear : ML mX5_clear 0 := ⟨tb_41, tb_459, by decide +kernel, rfl, rfl, by decide +kernel⟩
def mX5_add : Mt := (yX5_add, cX5_add, 3, none, { frames := 1, cells := 0, slots := 0, locals := 24 })
theorem ml_X5_add : ML mX5_add 1 := ⟨tb_41, tb_494, by decide +kernel, rfl, rfl, by decide +kernel⟩
def mX5_tell : Mt := (yX5_tell, cX5_tell, 2, (some .int), { frames := 0, cells := 0, slots := 0, locals := 0 })
theorem ml_X5_tell : ML mX5_tell 1 := ⟨tb_41, tb_500, by decide +kernel, rfl, rfl, by decide +kernel⟩
def mX6_letter : Mt := (yX6_letter, cX6_letter, 2, (some .int), { frames := 0, cells := 0, slots := 0, locals := 0 })
theorem ml_X6_letter : ML mX6_letter 1 := ⟨tb_34, tb_238, by decide +kernel, rfl, rfl, by decide +kernel⟩
def mX6_blank : Mt := (yX6_blank, cX6_blank, 2, (some .int), { frames := 0, cells := 0, slots := 0, locals := 0 })
theorem ml_X6_blank : ML mX6_blank 0 := ⟨tb_34, tb_242, by decide +kernel, rfl, rfl, by decide +kernel⟩
def mX6_fault : Mt := (yX6_fault, cX6_fault, 2, (some .int), { frames := 7, cells := 0, slots := 0, locals := 156 })
theorem ml_X6_fault : ML mX6_fault 1 := ⟨tb_34, tb_246, by decide +kernel, rfl, rfl, by decide +kernel⟩
def mX6_street : Mt := (yX6_street, cX6_street, 2, (some .int), { frames := 8, cells := 0, slots := 0, locals := 176 })
theorem ml_X6_street : ML mX6_street 0 := ⟨tb_34, tb_361, by decide +kernel, rfl, rfl, by decide +kernel⟩
def mX6_about : Mt := (yX6_about, cX6_about, 3, (some .int), { frames := 2, cells := 0, slots := 0, locals := 41 })
theorem ml_X6_about : ML mX6_about 2 := ⟨tb_34, tb_382, by decide +kernel, rfl, rfl, by decide +kernel⟩
def mX6_as : Mt := (yX6_as, cX6_as, 5, (some .int), { frames := 2, cells := 0, slots := 0, locals := 41 })
theorem ml_X6_as : ML mX6_as 2 := ⟨tb_34, tb_394, by decide +kernel, rfl, rfl, by decide +kernel⟩
def mX6_word : Mt := (yX6_word, cX6_word, 3, (some .int), { frames := 2, cells := 0, slots := 0, locals := 41 })
theorem ml_X6_word : ML mX6_word 2 := ⟨tb_34, tb_398, by decide +kernel, rfl, rfl, by decide +kernel⟩
def mX6_drop : Mt := (yX6_drop, cX6_drop, 3, (some .int), { frames := 3, cells := 0, slots := 0, locals := 71 })
theorem ml_X6_drop : ML mX6_drop 2 := ⟨tb_34, tb_402, by decide +kernel, rfl, rfl, by decide +kernel⟩
def mX6_rain : Mt := (yX6_rain, cX6_rain, 3, (some .int), { frames := 1, cells := 0, slots := 0, locals := 21 })
theorem ml_X6_rain : ML mX6_rain 2 := ⟨tb_34, tb_427, by decide +kernel, rfl, rfl, by decide +kernel⟩
def mX6_dry : Mt := (yX6_dry, cX6_dry, 2, (some .int), { frames := 2, cells := 0, slots := 0, locals := 43 })
theorem ml_X6_dry : ML mX6_dry 0 := ⟨tb_34, tb_435, by decide +kernel, rfl, rfl, by decide +kernel⟩
def mX6_turn : Mt := (yX6_turn, cX6_turn, 4, (some .int), { frames := 2, cells := 0, slots := 0, locals := 41 })
theorem ml_X6_turn : ML mX6_turn 2 := ⟨tb_34, tb_439, by decide +kernel, rfl, rfl, by decide +kernel⟩
def mX6_fewTurns : Mt := (yX6_fewTurns, cX6_fewTurns, 3, (some .int), { frames := 8, cells := 0, slots := 0, locals := 176 })
theorem ml_X6_fewTurns : ML mX6_fewTurns 2 := ⟨tb_34, tb_443, by decide +kernel, rfl, rfl, by decide +kernel⟩
def mX6_orders : Mt := (yX6_orders, cX6_orders, 2, (some .int), { frames := 5, cells := 0, slots := 0, locals := 122 })
theorem ml_X6_orders : ML mX6_orders 1 := ⟨tb_34, tb_504, by decide +kernel, rfl, rfl, by decide +kernel⟩
def mX6_bestDrop : Mt := (yX6_bestDrop, cX6_bestDrop, 6, (some .int), { frames := 4, cells := 0, slots := 0, locals := 95 })
theorem ml_X6_bestDrop : ML mX6_bestDrop 1 := ⟨tb_34, tb_526, by decide +kernel, rfl, rfl, by decide +kernel⟩
def mX6_found : Mt := (yX6_found, cX6_found, 2, (some .int), { frames := 8, cells := 0, slots := 0, locals := 176 })
theorem ml_X6_found : ML mX6_found 1 := ⟨tb_34, tb_537, by decide +kernel, rfl, rfl, by decide +kernel⟩
def mX6_forget : Mt := (yX6_forget, cX6_forget, 2, (some .int), { frames := 2, cells := 0, slots := 0, locals := 43 })
theorem ml_X6_forget : ML mX6_forget 0 := ⟨tb_34, tb_545, by decide +kernel, rfl, rfl, by decide +kernel⟩
def mX6_kindOf : Mt := (yX6_kindOf, cX6_kindOf, 4, (some .int), { frames := 4, cells := 0, slots := 0, locals := 95 })
theorem ml_X6_kindOf : ML mX6_kindOf 1 := ⟨tb_34, tb_549, by decide +kernel, rfl, rfl, by decide +kernel⟩
def mX6_letterOf : Mt := (yX6_letterOf, cX6_letterOf, 4, (some .int), { frames := 4, cells := 0, slots := 0, locals := 95 })
theorem ml_X6_letterOf : ML mX6_letterOf 1 := ⟨tb_34, tb_558, by decide +kernel, rfl, rfl, by decide +kernel⟩
def mX6_mornings : Mt := (yX6_mornings, cX6_mornings, 9, (some .int), { frames := 3, cells := 0, slots := 0, locals := 81 })
theorem ml_X6_mornings : ML mX6_mornings 3 := ⟨tb_34, tb_562, by decide +kernel, rfl, rfl, by decide +kernel⟩
def mX6_image : Mt := (yX6_image, cX6_image, 1, (some .int), { frames := 5, cells := 0, slots := 0, locals := 124 })
theorem ml_X6_image : ML mX6_image 0 := ⟨tb_34, tb_571, by decide +kernel, rfl, rfl, by decide +kernel⟩
def mX6_restore : Mt := (yX6_restore, cX6_restore, 1, (some .int), { frames := 5, cells := 0, slots := 0, locals := 124 })
theorem ml_X6_restore : ML mX6_restore 0 := ⟨tb_34, tb_594, by decide +kernel, rfl, rfl, by decide +kernel⟩
def mX6_count : Mt := (yX6_count, cX6_count, 2, (some .int), { frames := 2, cells := 0, slots := 0, locals := 45 })
theorem ml_X6_count : ML mX6_count 1 := ⟨tb_34, tb_598, by decide +kernel, rfl, rfl, by decide +kernel⟩
def mX6_digest : Mt := (yX6_digest, cX6_digest, 4, (some .long), { frames := 6, cells := 0, slots := 0, locals := 144 })
theorem ml_X6_digest : ML mX6_digest 0 := ⟨tb_34, tb_610, by decide +kernel, rfl, rfl, by decide +kernel⟩
def mX6_mixGutters : Mt := (yX6_mixGutters, cX6_mixGutters, 7, (some .long), { frames := 5, cells := 0, slots := 0, locals := 118 })
theorem ml_X6_mixGutters : ML mX6_mixGutters 1 := ⟨tb_34, tb_615, by decide +kernel, rfl, rfl, by decide +kernel⟩
def mX6_mixDrops : Mt := (yX6_mixDrops, cX6_mixDrops, 6, (some .long), { frames := 5, cells := 0, slots := 0, locals := 118 })
theorem ml_X6_mixDrops : ML mX6_mixDrops 1 := ⟨tb_34, tb_626, by decide +kernel, rfl, rfl, by decide +kernel⟩
def mX6_mix : Mt := (yX6_mix, cX6_mix, 4, (some .long), { frames := 0, cells := 0, slots := 0, locals := 0 })
theorem ml_X6_mix : ML mX6_mix 2 := ⟨tb_34, tb_619, by decide +kernel, rfl, rfl, by decide +kernel⟩
def mX6_hasStreet : Mt := (yX6_hasStreet, cX6_hasStreet, 1, (some .boolean), { frames := 0, cells := 0, slots := 0, locals := 0 })
theorem ml_X6_hasStreet : ML mX6_hasStreet 0 := ⟨tb_34, tb_390, by decide +kernel, rfl, rfl, by decide +kernel⟩
def mX6_isGutter : Mt := (yX6_isGutter, cX6_isGutter, 2, (some .boolean), { frames := 1, cells := 0, slots := 0, locals := 20 })
theorem ml_X6_isGutter : ML mX6_isGutter 1 := ⟨tb_34, tb_386, by decide +kernel, rfl, rfl, by decide +kernel⟩
def mX6_isDrop : Mt := (yX6_isDrop, cX6_isDrop, 2, (some .boolean), { frames := 0, cells := 0, slots := 0, locals := 0 })
theorem ml_X6_isDrop : ML mX6_isDrop 1 := ⟨tb_34, tb_431, by decide +kernel, rfl, rfl, by decide +kernel⟩
def mX6_isLetter : Mt := (yX6_isLetter, cX6_isLetter, 1, (some .boolean), { frames := 0, cells := 0, slots := 0, locals := 0 })
theorem ml_X6_isLetter : ML mX6_isLetter 1 := ⟨tb_34, tb_356, by decide +kernel, rfl, rfl, by decide +kernel⟩
def mX6_nextSeed : Mt := (yX6_nextSeed, cX6_nextSeed, 1, (some .int), { frames := 0, cells := 0, slots := 0, locals := 0 })
theorem ml_X6_nextSeed : ML mX6_nextSeed 1 := ⟨tb_34, tb_565, by decide +kernel, rfl, rfl, by decide +kernel⟩
def mX6_seekTurns : Mt := (yX6_seekTurns, cX6_seekTurns, 4, none, { frames := 4, cells := 0, slots := 0, locals := 95 })
theorem ml_X6_seekTurns : ML mX6_seekTurns 1 := ⟨tb_34, tb_451, by decide +kernel, rfl, rfl, by decide +kernel⟩
def mX6_countWords : Mt := (yX6_countWords, cX6_countWords, 6, (some .int), { frames := 4, cells := 0, slots := 0, locals := 97 })
theorem ml_X6_countWords : ML mX6_countWords 1 := ⟨tb_34, tb_508, by decide +kernel, rfl, rfl, by decide +kernel⟩
def mX6_runMixed : Mt := (yX6_runMixed, cX6_runMixed, 7, none, { frames := 3, cells := 0, slots := 0, locals := 71 })
theorem ml_X6_runMixed : ML mX6_runMixed 2 := ⟨tb_34, tb_514, by decide +kernel, rfl, rfl, by decide +kernel⟩
def mX6_noteWord : Mt := (yX6_noteWord, cX6_noteWord, 4, (some .boolean), { frames := 0, cells := 0, slots := 0, locals := 0 })
theorem ml_X6_noteWord : ML mX6_noteWord 1 := ⟨tb_34, tb_522, by decide +kernel, rfl, rfl, by decide +kernel⟩
def mX7_in : Mt := (yX7_in, cX7_in, 6, (some .boolean), { frames := 0, cells := 0, slots := 0, locals := 0 })
theorem ml_X7_in : ML mX7_in 3 := ⟨tb_42, tb_735, by decide +kernel, rfl, rfl, by decide +kernel⟩
def mX7_copy : Mt := (yX7_copy, cX7_copy, 3, none, { frames := 0, cells := 0, slots := 0, locals := 0 })
theorem ml_X7_copy : ML mX7_copy 2 := ⟨tb_42, tb_826, by decide +kernel, rfl, rfl, by decide +kernel⟩
def mX7_letter : Mt := (yX7_letter, cX7_letter, 2, (some .int), { frames := 1, cells := 0, slots := 0, locals := 25 })
theorem ml_X7_letter : ML mX7_letter 1 := ⟨tb_42, tb_731, by decide +kernel, rfl, rfl, by decide +kernel⟩
def mX7_blank : Mt := (yX7_blank, cX7_blank, 2, (some .int), { frames := 0, cells := 0, slots := 0, locals := 0 })
theorem ml_X7_blank : ML mX7_blank 0 := ⟨tb_42, tb_739, by decide +kernel, rfl, rfl, by decide +kernel⟩
def mX7_kindBy : Mt := (yX7_kindBy, cX7_kindBy, 1, (some .int), { frames := 0, cells := 0, slots := 0, locals := 0 })
theorem ml_X7_kindBy : ML mX7_kindBy 1 := ⟨tb_42, tb_753, by decide +kernel, rfl, rfl, by decide +kernel⟩
def mX7_isGood : Mt := (yX7_isGood, cX7_isGood, 3, (some .boolean), { frames := 1, cells := 0, slots := 0, locals := 25 })
theorem ml_X7_isGood : ML mX7_isGood 2 := ⟨tb_42, tb_750, by decide +kernel, rfl, rfl, by decide +kernel⟩
def mX7_faultOf : Mt := (yX7_faultOf, cX7_faultOf, 3, (some .int), { frames := 2, cells := 0, slots := 0, locals := 47 })
theorem ml_X7_faultOf : ML mX7_faultOf 1 := ⟨tb_42, tb_747, by decide +kernel, rfl, rfl, by decide +kernel⟩
def mX7_fault : Mt := (yX7_fault, cX7_fault, 2, (some .int), { frames := 3, cells := 0, slots := 0, locals := 69 })
theorem ml_X7_fault : ML mX7_fault 1 := ⟨tb_42, tb_743, by decide +kernel, rfl, rfl, by decide +kernel⟩
def mX7_dryRows : Mt := (yX7_dryRows, cX7_dryRows, 3, none, { frames := 0, cells := 0, slots := 0, locals := 0 })
theorem ml_X7_dryRows : ML mX7_dryRows 1 := ⟨tb_42, tb_763, by decide +kernel, rfl, rfl, by decide +kernel⟩
def mX7_outs : Mt := (yX7_outs, cX7_outs, 3, (some .int), { frames := 0, cells := 0, slots := 0, locals := 0 })
theorem ml_X7_outs : ML mX7_outs 0 := ⟨tb_42, tb_767, by decide +kernel, rfl, rfl, by decide +kernel⟩
def mX7_street : Mt := (yX7_street, cX7_street, 2, (some .int), { frames := 3, cells := 0, slots := 0, locals := 69 })
theorem ml_X7_street : ML mX7_street 0 := ⟨tb_42, tb_760, by decide +kernel, rfl, rfl, by decide +kernel⟩
def mX7_isGutter : Mt := (yX7_isGutter, cX7_isGutter, 2, (some .boolean), { frames := 1, cells := 0, slots := 0, locals := 25 })
theorem ml_X7_isGutter : ML mX7_isGutter 1 := ⟨tb_42, tb_775, by decide +kernel, rfl, rfl, by decide +kernel⟩
def mX7_tell : Mt := (yX7_tell, cX7_tell, 3, (some .int), { frames := 0, cells := 0, slots := 0, locals := 0 })
theorem ml_X7_tell : ML mX7_tell 2 := ⟨tb_42, tb_779, by decide +kernel, rfl, rfl, by decide +kernel⟩
def mX7_about : Mt := (yX7_about, cX7_about, 3, (some .int), { frames := 2, cells := 0, slots := 0, locals := 46 })
theorem ml_X7_about : ML mX7_about 2 := ⟨tb_42, tb_771, by decide +kernel, rfl, rfl, by decide +kernel⟩
def mX7_as : Mt := (yX7_as, cX7_as, 4, (some .int), { frames := 2, cells := 0, slots := 0, locals := 46 })
theorem ml_X7_as : ML mX7_as 2 := ⟨tb_42, tb_783, by decide +kernel, rfl, rfl, by decide +kernel⟩
def mX7_word : Mt := (yX7_word, cX7_word, 3, (some .int), { frames := 2, cells := 0, slots := 0, locals := 46 })
theorem ml_X7_word : ML mX7_word 2 := ⟨tb_42, tb_788, by decide +kernel, rfl, rfl, by decide +kernel⟩
def mX7_through : Mt := (yX7_through, cX7_through, 7, (some .int), { frames := 0, cells := 0, slots := 0, locals := 0 })
theorem ml_X7_through : ML mX7_through 4 := ⟨tb_42, tb_798, by decide +kernel, rfl, rfl, by decide +kernel⟩
def mX7_runs : Mt := (yX7_runs, cX7_runs, 8, (some .int), { frames := 1, cells := 0, slots := 0, locals := 26 })
theorem ml_X7_runs : ML mX7_runs 5 := ⟨tb_42, tb_795, by decide +kernel, rfl, rfl, by decide +kernel⟩
def mX7_drop : Mt := (yX7_drop, cX7_drop, 3, (some .int), { frames := 2, cells := 0, slots := 0, locals := 53 })
theorem ml_X7_drop : ML mX7_drop 2 := ⟨tb_42, tb_792, by decide +kernel, rfl, rfl, by decide +kernel⟩
def mX7_rain : Mt := (yX7_rain, cX7_rain, 3, (some .int), { frames := 1, cells := 0, slots := 0, locals := 25 })
theorem ml_X7_rain : ML mX7_rain 2 := ⟨tb_42, tb_802, by decide +kernel, rfl, rfl, by decide +kernel⟩
def mX7_dry : Mt := (yX7_dry, cX7_dry, 2, (some .int), { frames := 1, cells := 0, slots := 0, locals := 22 })
theorem ml_X7_dry : ML mX7_dry 0 := ⟨tb_42, tb_806, by decide +kernel, rfl, rfl, by decide +kernel⟩
def mX7_turn : Mt := (yX7_turn, cX7_turn, 4, (some .int), { frames := 2, cells := 0, slots := 0, locals := 46 })
theorem ml_X7_turn : ML mX7_turn 2 := ⟨tb_42, tb_810, by decide +kernel, rfl, rfl, by decide +kernel⟩
def mX7_asItIs : Mt := (yX7_asItIs, cX7_asItIs, 1, none, { frames := 1, cells := 0, slots := 0, locals := 22 })
theorem ml_X7_asItIs : ML mX7_asItIs 0 := ⟨tb_42, tb_823, by decide +kernel, rfl, rfl, by decide +kernel⟩
def mX7_fallsAgain : Mt := (yX7_fallsAgain, cX7_fallsAgain, 3, none, { frames := 2, cells := 0, slots := 0, locals := 53 })
theorem ml_X7_fallsAgain : ML mX7_fallsAgain 0 := ⟨tb_42, tb_837, by decide +kernel, rfl, rfl, by decide +kernel⟩
def mX7_isPageWord : Mt := (yX7_isPageWord, cX7_isPageWord, 1, (some .boolean), { frames := 3, cells := 0, slots := 0, locals := 69 })
theorem ml_X7_isPageWord : ML mX7_isPageWord 0 := ⟨tb_42, tb_819, by decide +kernel, rfl, rfl, by decide +kernel⟩
def mX7_hasPage : Mt := (yX7_hasPage, cX7_hasPage, 4, (some .boolean), { frames := 0, cells := 0, slots := 0, locals := 0 })
theorem ml_X7_hasPage : ML mX7_hasPage 1 := ⟨tb_42, tb_841, by decide +kernel, rfl, rfl, by decide +kernel⟩
def mX7_layWays : Mt := (yX7_layWays, cX7_layWays, 7, (some .int), { frames := 0, cells := 0, slots := 0, locals := 0 })
theorem ml_X7_layWays : ML mX7_layWays 1 := ⟨tb_42, tb_830, by decide +kernel, rfl, rfl, by decide +kernel⟩
def mX7_ones : Mt := (yX7_ones, cX7_ones, 3, (some .int), { frames := 0, cells := 0, slots := 0, locals := 0 })
theorem ml_X7_ones : ML mX7_ones 1 := ⟨tb_42, tb_833, by decide +kernel, rfl, rfl, by decide +kernel⟩
def mX7_fewTurns : Mt := (yX7_fewTurns, cX7_fewTurns, 9, (some .int), { frames := 4, cells := 0, slots := 0, locals := 89 })
theorem ml_X7_fewTurns : ML mX7_fewTurns 2 := ⟨tb_42, tb_814, by decide +kernel, rfl, rfl, by decide +kernel⟩
def mX7_wordOf : Mt := (yX7_wordOf, cX7_wordOf, 4, (some .int), { frames := 0, cells := 0, slots := 0, locals := 0 })
theorem ml_X7_wordOf : ML mX7_wordOf 1 := ⟨tb_42, tb_853, by decide +kernel, rfl, rfl, by decide +kernel⟩
def mX7_isOrder : Mt := (yX7_isOrder, cX7_isOrder, 6, (some .boolean), { frames := 0, cells := 0, slots := 0, locals := 0 })
theorem ml_X7_isOrder : ML mX7_isOrder 2 := ⟨tb_42, tb_849, by decide +kernel, rfl, rfl, by decide +kernel⟩
def mX7_orders : Mt := (yX7_orders, cX7_orders, 8, (some .int), { frames := 2, cells := 0, slots := 0, locals := 53 })
theorem ml_X7_orders : ML mX7_orders 1 := ⟨tb_42, tb_845, by decide +kernel, rfl, rfl, by decide +kernel⟩
def mX7_outOf : Mt := (yX7_outOf, cX7_outOf, 3, (some .int), { frames := 0, cells := 0, slots := 0, locals := 0 })
theorem ml_X7_outOf : ML mX7_outOf 1 := ⟨tb_42, tb_860, by decide +kernel, rfl, rfl, by decide +kernel⟩
def mX7_bestDrop : Mt := (yX7_bestDrop, cX7_bestDrop, 6, (some .int), { frames := 3, cells := 0, slots := 0, locals := 75 })
theorem ml_X7_bestDrop : ML mX7_bestDrop 1 := ⟨tb_42, tb_857, by decide +kernel, rfl, rfl, by decide +kernel⟩
def mX7_founds : Mt := (yX7_founds, cX7_founds, 3, (some .int), { frames := 0, cells := 0, slots := 0, locals := 0 })
theorem ml_X7_founds : ML mX7_founds 0 := ⟨tb_42, tb_868, by decide +kernel, rfl, rfl, by decide +kernel⟩
def mX7_found : Mt := (yX7_found, cX7_found, 3, (some .int), { frames := 4, cells := 0, slots := 0, locals := 89 })
theorem ml_X7_found : ML mX7_found 1 := ⟨tb_42, tb_864, by decide +kernel, rfl, rfl, by decide +kernel⟩
def mX7_forget : Mt := (yX7_forget, cX7_forget, 3, (some .int), { frames := 1, cells := 0, slots := 0, locals := 22 })
theorem ml_X7_forget : ML mX7_forget 0 := ⟨tb_42, tb_872, by decide +kernel, rfl, rfl, by decide +kernel⟩
def mX7_isFound : Mt := (yX7_isFound, cX7_isFound, 4, (some .boolean), { frames := 3, cells := 0, slots := 0, locals := 75 })
theorem ml_X7_isFound : ML mX7_isFound 0 := ⟨tb_42, tb_884, by decide +kernel, rfl, rfl, by decide +kernel⟩
def mX7_kindBits : Mt := (yX7_kindBits, cX7_kindBits, 4, (some .int), { frames := 4, cells := 0, slots := 0, locals := 98 })
theorem ml_X7_kindBits : ML mX7_kindBits 1 := ⟨tb_42, tb_880, by decide +kernel, rfl, rfl, by decide +kernel⟩
def mX7_kindOf : Mt := (yX7_kindOf, cX7_kindOf, 2, (some .int), { frames := 5, cells := 0, slots := 0, locals := 121 })
theorem ml_X7_kindOf : ML mX7_kindOf 1 := ⟨tb_42, tb_876, by decide +kernel, rfl, rfl, by decide +kernel⟩
def mX7_letterBits : Mt := (yX7_letterBits, cX7_letterBits, 4, (some .int), { frames := 4, cells := 0, slots := 0, locals := 98 })
theorem ml_X7_letterBits : ML mX7_letterBits 1 := ⟨tb_42, tb_892, by decide +kernel, rfl, rfl, by decide +kernel⟩
def mX7_letterOf : Mt := (yX7_letterOf, cX7_letterOf, 2, (some .int), { frames := 5, cells := 0, slots := 0, locals := 121 })
theorem ml_X7_letterOf : ML mX7_letterOf 1 := ⟨tb_42, tb_888, by decide +kernel, rfl, rfl, by decide +kernel⟩
def mX7_draw : Mt := (yX7_draw, cX7_draw, 2, (some .int), { frames := 0, cells := 0, slots := 0, locals := 0 })
theorem ml_X7_draw : ML mX7_draw 1 := ⟨tb_42, tb_901, by decide +kernel, rfl, rfl, by decide +kernel⟩
def mX7_mornings : Mt := (yX7_mornings, cX7_mornings, 10, (some .int), { frames := 2, cells := 0, slots := 0, locals := 53 })
theorem ml_X7_mornings : ML mX7_mornings 3 := ⟨tb_42, tb_896, by decide +kernel, rfl, rfl, by decide +kernel⟩
def mX7_image : Mt := (yX7_image, cX7_image, 1, (some .int), { frames := 1, cells := 0, slots := 0, locals := 22 })
theorem ml_X7_image : ML mX7_image 0 := ⟨tb_42, tb_909, by decide +kernel, rfl, rfl, by decide +kernel⟩
def mX7_restore : Mt := (yX7_restore, cX7_restore, 1, (some .int), { frames := 1, cells := 0, slots := 0, locals := 22 })
theorem ml_X7_restore : ML mX7_restore 0 := ⟨tb_42, tb_913, by decide +kernel, rfl, rfl, by decide +kernel⟩
def mX7_countOf : Mt := (yX7_countOf, cX7_countOf, 5, (some .int), { frames := 1, cells := 0, slots := 0, locals := 22 })
theorem ml_X7_countOf : ML mX7_countOf 1 := ⟨tb_42, tb_921, by decide +kernel, rfl, rfl, by decide +kernel⟩
def mX7_count : Mt := (yX7_count, cX7_count, 2, (some .int), { frames := 2, cells := 0, slots := 0, locals := 46 })
theorem ml_X7_count : ML mX7_count 1 := ⟨tb_42, tb_917, by decide +kernel, rfl, rfl, by decide +kernel⟩
def mX7_say : Mt := (yX7_say, cX7_say, 3, none, { frames := 0, cells := 0, slots := 0, locals := 0 })
theorem ml_X7_say : ML mX7_say 1 := ⟨tb_42, tb_934, by decide +kernel, rfl, rfl, by decide +kernel⟩
def mX7_sayGutter : Mt := (yX7_sayGutter, cX7_sayGutter, 3, none, { frames := 5, cells := 0, slots := 0, locals := 121 })
theorem ml_X7_sayGutter : ML mX7_sayGutter 1 := ⟨tb_42, tb_930, by decide +kernel, rfl, rfl, by decide +kernel⟩
def mX7_digest : Mt := (yX7_digest, cX7_digest, 2, (some .long), { frames := 6, cells := 0, slots := 0, locals := 143 })
theorem ml_X7_digest : ML mX7_digest 0 := ⟨tb_42, tb_925, by decide +kernel, rfl, rfl, by decide +kernel⟩
def mJ6_bitCount_0f7a4 : Mt := (yJ6_bitCount_0f7a4, cJ6_bitCount_0f7a4, 1, (some .int), { frames := 0, cells := 0, slots := 0, locals := 0 })
theorem ml_J6_bitCount_0f7a4 : ML mJ6_bitCount_0f7a4 1 := ⟨tb_50, tb_478, by decide +kernel, rfl, rfl, by decide +kernel⟩
def mJ0_length_8abf5 : Mt := (yJ0_length_8abf5, cJ0_length_8abf5, 1, (some .int), { frames := 1, cells := 0, slots := 0, locals := 20 })
theorem ml_J0_length_8abf5 : ML mJ0_length_8abf5 0 := ⟨tb_43, tb_277, by decide +kernel, rfl, rfl, by decide +kernel⟩
def mJ0_indexOf_0f7a4 : Mt := (yJ0_indexOf_0f7a4, cJ0_indexOf_0f7a4, 2, (some .int), { frames := 3, cells := 0, slots := 0, locals := 70 })
theorem ml_J0_indexOf_0f7a4 : ML mJ0_indexOf_0f7a4 1 := ⟨tb_43, tb_263, by decide +kernel, rfl, rfl, by decide +kernel⟩
def mJ0_indexOf_7cf53 : Mt := (yJ0_indexOf_7cf53, cJ0_indexOf_7cf53, 3, (some .int), { frames := 2, cells := 0, slots := 0, locals := 48 })
theorem ml_J0_indexOf_7cf53 : ML mJ0_indexOf_7cf53 2 := ⟨tb_43, tb_267, by decide +kernel, rfl, rfl, by decide +kernel⟩
def mJ0_coder_7d493 : Mt := (yJ0_coder_7d493, cJ0_coder_7d493, 1, (some .byte), { frames := 0, cells := 0, slots := 0, locals := 0 })
theorem ml_J0_coder_7d493 : ML mJ0_coder_7d493 0 := ⟨tb_43, tb_281, by decide +kernel, rfl, rfl, by decide +kernel⟩
def mJ0_isLatin1_aae02 : Mt := (yJ0_isLatin1_aae02, cJ0_isLatin1_aae02, 1, (some .boolean), { frames := 0, cells := 0, slots := 0, locals := 0 })
theorem ml_J0_isLatin1_aae02 : ML mJ0_isLatin1_aae02 0 := ⟨tb_43, tb_271, by decide +kernel, rfl, rfl, by decide +kernel⟩
def mJ1_canEncode_9a6ad : Mt := (yJ1_canEncode_9a6ad, cJ1_canEncode_9a6ad, 1, (some .boolean), { frames := 0, cells := 0, slots := 0, locals := 0 })
theorem ml_J1_canEncode_9a6ad : ML mJ1_canEncode_9a6ad 1 := ⟨tb_44, tb_287, by decide +kernel, rfl, rfl, by decide +kernel⟩
def mJ1_indexOf_4cfef : Mt := (yJ1_indexOf_4cfef, cJ1_indexOf_4cfef, 4, (some .int), { frames := 1, cells := 0, slots := 0, locals := 25 })
theorem ml_J1_indexOf_4cfef : ML mJ1_indexOf_4cfef 4 := ⟨tb_44, tb_284, by decide +kernel, rfl, rfl, by decide +kernel⟩
def mJ1_indexOfChar_4cfef : Mt := (yJ1_indexOfChar_4cfef, cJ1_indexOfChar_4cfef, 6, (some .int), { frames := 0, cells := 0, slots := 0, locals := 0 })
theorem ml_J1_indexOfChar_4cfef : ML mJ1_indexOfChar_4cfef 4 := ⟨tb_44, tb_296, by decide +kernel, rfl, rfl, by decide +kernel⟩
def mJ7_fill_53178 : Mt := (yJ7_fill_53178, cJ7_fill_53178, 4, none, { frames := 0, cells := 0, slots := 0, locals := 0 })
theorem ml_J7_fill_53178 : ML mJ7_fill_53178 2 := ⟨tb_40, tb_156, by decide +kernel, rfl, rfl, by decide +kernel⟩
theorem uw_0 : ∀ x ∈ u_ws RX0 TX0 3, x ∈ tb := by decide +kernel
theorem uw_1 : ∀ x ∈ u_ws RX1 TX1 2, x ∈ tb := by decide +kernel
theorem uw_2 : ∀ x ∈ u_ws RX2 TX2 2, x ∈ tb := by decide +kernel
theorem uw_3 : ∀ x ∈ u_ws RX3 TX3 3, x ∈ tb := by decide +kernel
theorem uw_4 : ∀ x ∈ u_ws RX4 TX4 8, x ∈ tb := by decide +kernel
theorem uw_5 : ∀ x ∈ u_ws RX5 TX5 3, x ∈ tb := by decide +kernel
theorem uw_6 : ∀ x ∈ u_ws RX6 TX6 12, x ∈ tb := by decide +kernel
theorem uw_7 : ∀ x ∈ u_ws RX7 TX7 30, x ∈ tb := by decide +kernel
theorem fl_X0_18 : FL RX0 18 0 2 := ⟨RX0, TX0, 3, rfl, uw_0, by decide, tb_133⟩
theorem fl_X0_9 : FL RX0 9 0 0 := ⟨RX0, TX0, 3, rfl, uw_0, by decide, tb_127⟩
theorem fl_X0_15 : FL RX0 15 0 1 := ⟨RX0, TX0, 3, rfl, uw_0, by decide, tb_130⟩
theorem fp_X0_18 : FP RX0 18 0 2 .int := ⟨RX0, TX0, 3, tyX0, rfl, uw_0, by decide, tb_133, tyX0_ok, nmX0, rfl, by decide +kernel⟩
theorem ac_X0_22 : AC RX0 22 := ⟨tb_585, tb_466, tb_465, tb_49⟩
theorem vl_X1_20 : VL RX1 20 mX1_clear := ⟨tb_150, tb_151, tb_152⟩
theorem fl_X1_16 : FL RX1 16 1 1 := ⟨RX1, TX1, 2, rfl, uw_1, by decide, tb_159⟩
theorem sl_X1_23 : SL RX1 23 mJ7_fill_53178 := ⟨tb_154, tb_155⟩
theorem fl_X1_11 : FL RX1 11 1 0 := ⟨RX1, TX1, 2, rfl, uw_1, by decide, tb_157⟩
theorem vl_X1_29 : VL RX1 29 mX4_wordIs := ⟨tb_554, tb_488, tb_489⟩
theorem ac_X1_35 : AC RX1 35 := ⟨tb_590, tb_466, tb_465, tb_49⟩
theorem fl_X2_15 : FL RX2 15 2 1 := ⟨RX2, TX2, 2, rfl, uw_2, by decide, tb_67⟩
theorem vl_X2_19 : VL RX2 19 mX2_fitsStreet := ⟨tb_251, tb_253, tb_0⟩
theorem vl_X2_23 : VL RX2 23 mX2_fitsWord := ⟨tb_350, tb_352, tb_1⟩
theorem vl_X2_26 : VL RX2 26 mX2_firstFault := ⟨tb_366, tb_248, tb_249⟩
theorem fl_X2_9 : FL RX2 9 2 0 := ⟨RX2, TX2, 2, rfl, uw_2, by decide, tb_65⟩
theorem vl_X2_32 : VL RX2 32 mJ0_indexOf_0f7a4 := ⟨tb_260, tb_261, tb_262⟩
theorem vl_X2_37 : VL RX2 37 mX2_kindAt := ⟨tb_255, tb_256, tb_257⟩
theorem vl_X2_40 : VL RX2 40 mX2_flowAt := ⟨tb_346, tb_347, tb_348⟩
theorem st_X6_isLetter : Cond.static yX6_isLetter ∈ tb := tb_355
theorem fl_X3_10 : FL RX3 10 3 0 := ⟨RX3, TX3, 3, rfl, uw_3, by decide, tb_166⟩
theorem vl_X3_30 : VL RX3 30 mX4_takeAll := ⟨tb_576, tb_577, tb_578⟩
theorem fl_X3_19 : FL RX3 19 3 1 := ⟨RX3, TX3, 3, rfl, uw_3, by decide, tb_168⟩
theorem vl_X3_34 : VL RX3 34 mX0_takeAll := ⟨tb_581, tb_582, tb_583⟩
theorem fl_X3_26 : FL RX3 26 3 2 := ⟨RX3, TX3, 3, rfl, uw_3, by decide, tb_170⟩
theorem vl_X3_37 : VL RX3 37 mX1_takeAll := ⟨tb_586, tb_587, tb_588⟩
theorem fl_X4_18 : FL RX4 18 4 2 := ⟨RX4, TX4, 8, rfl, uw_4, by decide, tb_93⟩
theorem sl_X4_38 : SL RX4 38 mJ7_fill_53178 := ⟨tb_373, tb_155⟩
theorem fl_X4_21 : FL RX4 21 4 3 := ⟨RX4, TX4, 8, rfl, uw_4, by decide, tb_95⟩
theorem fl_X4_24 : FL RX4 24 4 4 := ⟨RX4, TX4, 8, rfl, uw_4, by decide, tb_96⟩
theorem fl_X4_27 : FL RX4 27 4 5 := ⟨RX4, TX4, 8, rfl, uw_4, by decide, tb_98⟩
theorem fl_X4_30 : FL RX4 30 4 6 := ⟨RX4, TX4, 8, rfl, uw_4, by decide, tb_100⟩
theorem fl_X4_9 : FL RX4 9 4 0 := ⟨RX4, TX4, 8, rfl, uw_4, by decide, tb_89⟩
theorem ac_X4_44 : AC RX4 44 := ⟨tb_464, tb_466, tb_465, tb_49⟩
theorem fl_X4_15 : FL RX4 15 4 1 := ⟨RX4, TX4, 8, rfl, uw_4, by decide, tb_91⟩
theorem vl_X4_50 : VL RX4 50 mX4_clear := ⟨tb_467, tb_370, tb_371⟩
theorem vl_X4_53 : VL RX4 53 mX4_layLike := ⟨tb_580, tb_461, tb_462⟩
theorem fl_X4_35 : FL RX4 35 4 7 := ⟨RX4, TX4, 8, rfl, uw_4, by decide, tb_102⟩
theorem fl_X4_57 : FL RX4 57 0 2 := ⟨RX0, TX0, 3, rfl, uw_0, by decide, tb_135⟩
theorem fl_X4_63 : FL RX4 63 0 0 := ⟨RX0, TX0, 3, rfl, uw_0, by decide, tb_128⟩
theorem fl_X4_66 : FL RX4 66 0 1 := ⟨RX0, TX0, 3, rfl, uw_0, by decide, tb_131⟩
theorem vl_X4_69 : VL RX4 69 mX4_run := ⟨tb_486, tb_409, tb_410⟩
theorem vl_X4_73 : VL RX4 73 mX4_passOn := ⟨tb_412, tb_414, tb_4⟩
theorem vl_X4_76 : VL RX4 76 mX4_runOut := ⟨tb_420, tb_422, tb_6⟩
theorem sl_X4_80 : SL RX4 80 mX4_sum := ⟨tb_531, tb_532⟩
theorem vl_X4_84 : VL RX4 84 mX4_letsThrough := ⟨tb_416, tb_418, tb_5⟩
theorem fp_X5_9 : FP RX5 9 5 0 .int := ⟨RX5, TX5, 3, tyX5, rfl, uw_5, by decide, tb_187, tyX5_ok, nmX5, rfl, by decide +kernel⟩
theorem fp_X5_15 : FP RX5 15 5 1 .int := ⟨RX5, TX5, 3, tyX5, rfl, uw_5, by decide, tb_189, tyX5_ok, nmX5, rfl, by decide +kernel⟩
theorem fp_X5_18 : FP RX5 18 5 2 .int := ⟨RX5, TX5, 3, tyX5, rfl, uw_5, by decide, tb_190, tyX5_ok, nmX5, rfl, by decide +kernel⟩
theorem sl_X5_21 : SL RX5 21 mJ6_bitCount_0f7a4 := ⟨tb_495, tb_477⟩
theorem fl_X5_18 : FL RX5 18 5 2 := ⟨RX5, TX5, 3, rfl, uw_5, by decide, tb_190⟩
theorem fl_X5_9 : FL RX5 9 5 0 := ⟨RX5, TX5, 3, rfl, uw_5, by decide, tb_187⟩
theorem fl_X5_15 : FL RX5 15 5 1 := ⟨RX5, TX5, 3, rfl, uw_5, by decide, tb_189⟩
theorem mm_X5_27 : Cond.methodLink RX5 27 Lib.Math.min.name ∈ tb := tb_496
theorem fl_X6_10 : FL RX6 10 6 0 := ⟨RX6, TX6, 12, rfl, uw_6, by decide, tb_198⟩
theorem fl_X6_50 : FL RX6 50 2 1 := ⟨RX2, TX2, 2, rfl, uw_2, by decide, tb_68⟩
theorem fl_X6_54 : FL RX6 54 2 0 := ⟨RX2, TX2, 2, rfl, uw_2, by decide, tb_66⟩
theorem fp_X6_50 : FP RX6 50 2 1 .int := ⟨RX2, TX2, 2, tyX2, rfl, uw_2, by decide, tb_68, tyX2_ok, nmX2, rfl, by decide +kernel⟩
theorem vl_X6_57 : VL RX6 57 mX2_firstFault := ⟨tb_247, tb_248, tb_249⟩
theorem vl_X6_61 : VL RX6 61 mX2_isStreet := ⟨tb_362, tb_363, tb_364⟩
theorem fl_X6_19 : FL RX6 19 6 1 := ⟨RX6, TX6, 12, rfl, uw_6, by decide, tb_199⟩
theorem fl_X6_65 : FL RX6 65 3 0 := ⟨RX3, TX3, 3, rfl, uw_3, by decide, tb_167⟩
theorem fl_X6_68 : FL RX6 68 4 0 := ⟨RX4, TX4, 8, rfl, uw_4, by decide, tb_90⟩
theorem vl_X6_71 : VL RX6 71 mX2_kindAt := ⟨tb_367, tb_256, tb_257⟩
theorem fl_X6_74 : FL RX6 74 4 1 := ⟨RX4, TX4, 8, rfl, uw_4, by decide, tb_92⟩
theorem vl_X6_77 : VL RX6 77 mX2_flowAt := ⟨tb_368, tb_347, tb_348⟩
theorem vl_X6_81 : VL RX6 81 mX4_clear := ⟨tb_369, tb_370, tb_371⟩
theorem fl_X6_84 : FL RX6 84 3 1 := ⟨RX3, TX3, 3, rfl, uw_3, by decide, tb_169⟩
theorem fp_X6_88 : FP RX6 88 0 2 .int := ⟨RX0, TX0, 3, tyX0, rfl, uw_0, by decide, tb_134, tyX0_ok, nmX0, rfl, by decide +kernel⟩
theorem fl_X6_91 : FL RX6 91 3 2 := ⟨RX3, TX3, 3, rfl, uw_3, by decide, tb_171⟩
theorem vl_X6_95 : VL RX6 95 mX1_clear := ⟨tb_374, tb_151, tb_152⟩
theorem fp_X6_98 : FP RX6 98 6 8 .boolean := ⟨RX6, TX6, 12, tyX6, rfl, uw_6, by decide, tb_206, tyX6_ok, nmX6, rfl, by decide +kernel⟩
theorem fl_X6_102 : FL RX6 102 6 9 := ⟨RX6, TX6, 12, rfl, uw_6, by decide, tb_207⟩
theorem fp_X6_102 : FP RX6 102 6 9 .int := ⟨RX6, TX6, 12, tyX6, rfl, uw_6, by decide, tb_207, tyX6_ok, nmX6, rfl, by decide +kernel⟩
theorem vl_X6_105 : VL RX6 105 mX4_countOut := ⟨tb_375, tb_376, tb_377⟩
theorem vl_X6_109 : VL RX6 109 mX6_isGutter := ⟨tb_383, tb_385, tb_2⟩
theorem fl_X6_113 : FL RX6 113 4 4 := ⟨RX4, TX4, 8, rfl, uw_4, by decide, tb_97⟩
theorem fl_X6_116 : FL RX6 116 4 2 := ⟨RX4, TX4, 8, rfl, uw_4, by decide, tb_94⟩
theorem fl_X6_119 : FL RX6 119 4 6 := ⟨RX4, TX4, 8, rfl, uw_4, by decide, tb_101⟩
theorem fl_X6_122 : FL RX6 122 4 5 := ⟨RX4, TX4, 8, rfl, uw_4, by decide, tb_99⟩
theorem fl_X6_125 : FL RX6 125 4 7 := ⟨RX4, TX4, 8, rfl, uw_4, by decide, tb_103⟩
theorem sl_X6_129 : SL RX6 129 mX6_isLetter := ⟨tb_403, tb_355⟩
theorem fl_X6_88 : FL RX6 88 0 2 := ⟨RX0, TX0, 3, rfl, uw_0, by decide, tb_134⟩
theorem vl_X6_132 : VL RX6 132 mX0_add := ⟨tb_404, tb_405, tb_406⟩
theorem vl_X6_136 : VL RX6 136 mX4_run := ⟨tb_408, tb_409, tb_410⟩
theorem vl_X6_139 : VL RX6 139 mX6_isDrop := ⟨tb_428, tb_430, tb_7⟩
theorem fl_X6_142 : FL RX6 142 0 0 := ⟨RX0, TX0, 3, rfl, uw_0, by decide, tb_129⟩
theorem fl_X6_145 : FL RX6 145 0 1 := ⟨RX0, TX0, 3, rfl, uw_0, by decide, tb_132⟩
theorem vl_X6_148 : VL RX6 148 mX6_hasStreet := ⟨tb_387, tb_389, tb_3⟩
theorem vl_X6_151 : VL RX6 151 mX2_isWord := ⟨tb_444, tb_445, tb_446⟩
theorem fl_X6_154 : FL RX6 154 6 10 := ⟨RX6, TX6, 12, rfl, uw_6, by decide, tb_208⟩
theorem fp_X6_154 : FP RX6 154 6 10 .int := ⟨RX6, TX6, 12, tyX6, rfl, uw_6, by decide, tb_208, tyX6_ok, nmX6, rfl, by decide +kernel⟩
theorem vl_X6_157 : VL RX6 157 mX6_seekTurns := ⟨tb_448, tb_450, tb_8⟩
theorem fl_X6_36 : FL RX6 36 6 4 := ⟨RX6, TX6, 12, rfl, uw_6, by decide, tb_202⟩
theorem vl_X6_161 : VL RX6 161 mX5_tell := ⟨tb_497, tb_498, tb_499⟩
theorem fl_X6_164 : FL RX6 164 6 11 := ⟨RX6, TX6, 12, rfl, uw_6, by decide, tb_209⟩
theorem fp_X6_164 : FP RX6 164 6 11 .int := ⟨RX6, TX6, 12, tyX6, rfl, uw_6, by decide, tb_209, tyX6_ok, nmX6, rfl, by decide +kernel⟩
theorem vl_X6_167 : VL RX6 167 mX6_countWords := ⟨tb_505, tb_507, tb_9⟩
theorem fl_X6_29 : FL RX6 29 6 3 := ⟨RX6, TX6, 12, rfl, uw_6, by decide, tb_201⟩
theorem vl_X6_170 : VL RX6 170 mX4_layLike := ⟨tb_460, tb_461, tb_462⟩
theorem vl_X6_174 : VL RX6 174 mX4_runAll := ⟨tb_482, tb_483, tb_484⟩
theorem vl_X6_178 : VL RX6 178 mX4_lettersOut := ⟨tb_527, tb_528, tb_529⟩
theorem fl_X6_181 : FL RX6 181 1 0 := ⟨RX1, TX1, 2, rfl, uw_1, by decide, tb_158⟩
theorem vl_X6_182 : VL RX6 182 mX2_copyLetters := ⟨tb_452, tb_453, tb_454⟩
theorem fl_X6_186 : FL RX6 186 1 1 := ⟨RX1, TX1, 2, rfl, uw_1, by decide, tb_160⟩
theorem vl_X6_187 : VL RX6 187 mX1_countFound := ⟨tb_538, tb_539, tb_540⟩
theorem vl_X6_190 : VL RX6 190 mX1_fit := ⟨tb_550, tb_551, tb_552⟩
theorem sl_X6_194 : SL RX6 194 mX6_nextSeed := ⟨tb_563, tb_564⟩
theorem fl_X6_23 : FL RX6 23 6 2 := ⟨RX6, TX6, 12, rfl, uw_6, by decide, tb_200⟩
theorem vl_X6_197 : VL RX6 197 mX3_takeAll := ⟨tb_572, tb_573, tb_574⟩
theorem fl_X6_98 : FL RX6 98 6 8 := ⟨RX6, TX6, 12, rfl, uw_6, by decide, tb_206⟩
theorem vl_X6_201 : VL RX6 201 mX4_lettersLost := ⟨tb_599, tb_600, tb_601⟩
theorem vl_X6_204 : VL RX6 204 mX4_fullBowls := ⟨tb_603, tb_604, tb_605⟩
theorem cl_X6_207 : Cond.constantLong RX6 207 (821) ∈ tb := tb_611
theorem vl_X6_209 : VL RX6 209 mX6_mixGutters := ⟨tb_612, tb_614, tb_12⟩
theorem vl_X6_213 : VL RX6 213 mX6_mixDrops := ⟨tb_623, tb_625, tb_13⟩
theorem sl_X6_216 : SL RX6 216 mX6_mix := ⟨tb_617, tb_618⟩
theorem vl_X6_220 : VL RX6 220 mX6_count := ⟨tb_629, tb_596, tb_597⟩
theorem vl_X6_223 : VL RX6 223 mX6_about := ⟨tb_616, tb_380, tb_381⟩
theorem vl_X6_226 : VL RX6 226 mX6_word := ⟨tb_621, tb_396, tb_397⟩
theorem vl_X6_229 : VL RX6 229 mX6_kindOf := ⟨tb_622, tb_547, tb_548⟩
theorem vl_X6_232 : VL RX6 232 mX6_rain := ⟨tb_627, tb_425, tb_426⟩
theorem vl_X6_235 : VL RX6 235 mX6_letterOf := ⟨tb_628, tb_556, tb_557⟩
theorem cl_X6_238 : Cond.constantLong RX6 238 (31) ∈ tb := tb_620
theorem ck_X6_240 : Cond.constant RX6 240 (1103515245) ∈ tb := tb_566
theorem ck_X6_241 : Cond.constant RX6 241 (2147483647) ∈ tb := tb_567
theorem fl_X6_40 : FL RX6 40 6 5 := ⟨RX6, TX6, 12, rfl, uw_6, by decide, tb_203⟩
theorem vl_X6_242 : VL RX6 242 mX5_clear := ⟨tb_456, tb_457, tb_458⟩
theorem vl_X6_243 : VL RX6 243 mX4_flowBy := ⟨tb_468, tb_469, tb_470⟩
theorem vl_X6_246 : VL RX6 246 mX4_unlikeFlows := ⟨tb_472, tb_473, tb_474⟩
theorem sl_X6_250 : SL RX6 250 mJ6_bitCount_0f7a4 := ⟨tb_476, tb_477⟩
theorem fl_X6_255 : FL RX6 255 5 0 := ⟨RX5, TX5, 3, rfl, uw_5, by decide, tb_188⟩
theorem vl_X6_258 : VL RX6 258 mX4_wordIs := ⟨tb_487, tb_488, tb_489⟩
theorem vl_X6_262 : VL RX6 262 mX5_add := ⟨tb_491, tb_492, tb_493⟩
theorem mm_X6_264 : Cond.methodLink RX6 264 Lib.Math.min.name ∈ tb := tb_509
theorem fl_X6_47 : FL RX6 47 6 7 := ⟨RX6, TX6, 12, rfl, uw_6, by decide, tb_205⟩
theorem sl_X6_269 : SL RX6 269 mJ7_fill_53178 := ⟨tb_510, tb_155⟩
theorem vl_X6_275 : VL RX6 275 mX6_runMixed := ⟨tb_511, tb_513, tb_10⟩
theorem vl_X6_278 : VL RX6 278 mX4_wordCode := ⟨tb_515, tb_516, tb_517⟩
theorem vl_X6_281 : VL RX6 281 mX6_noteWord := ⟨tb_519, tb_521, tb_11⟩
theorem fl_X6_44 : FL RX6 44 6 6 := ⟨RX6, TX6, 12, rfl, uw_6, by decide, tb_204⟩
theorem ck_X7_40 : Cond.constant RX7 40 (55987) ∈ tb := tb_636
theorem fp_X7_71 : FP RX7 71 7 21 .int := ⟨RX7, TX7, 30, tyX7, rfl, uw_7, by decide, tb_658, tyX7_ok, nmX7, rfl, by decide +kernel⟩
theorem cl_X7_75 : Cond.constantLong RX7 75 (126) ∈ tb := tb_732
theorem sl_X7_77 : SL RX7 77 mX7_in := ⟨tb_733, tb_734⟩
theorem fl_X7_81 : FL RX7 81 7 1 := ⟨RX7, TX7, 30, rfl, uw_7, by decide, tb_638⟩
theorem fl_X7_7 : FL RX7 7 7 0 := ⟨RX7, TX7, 30, rfl, uw_7, by decide, tb_637⟩
theorem fp_X7_81 : FP RX7 81 7 1 .int := ⟨RX7, TX7, 30, tyX7, rfl, uw_7, by decide, tb_638, tyX7_ok, nmX7, rfl, by decide +kernel⟩
theorem sl_X7_84 : SL RX7 84 mX7_kindBy := ⟨tb_751, tb_752⟩
theorem cl_X7_88 : Cond.constantLong RX7 88 (5) ∈ tb := tb_754
theorem sl_X7_90 : SL RX7 90 mX7_isGood := ⟨tb_748, tb_749⟩
theorem cl_X7_94 : Cond.constantLong RX7 94 (97) ∈ tb := tb_755
theorem cl_X7_96 : Cond.constantLong RX7 96 (101) ∈ tb := tb_756
theorem vl_X7_98 : VL RX7 98 mX7_faultOf := ⟨tb_744, tb_746, tb_14⟩
theorem fl_X7_101 : FL RX7 101 7 2 := ⟨RX7, TX7, 30, rfl, uw_7, by decide, tb_639⟩
theorem fl_X7_16 : FL RX7 16 7 5 := ⟨RX7, TX7, 30, rfl, uw_7, by decide, tb_642⟩
theorem fl_X7_13 : FL RX7 13 7 4 := ⟨RX7, TX7, 30, rfl, uw_7, by decide, tb_641⟩
theorem fl_X7_47 : FL RX7 47 7 18 := ⟨RX7, TX7, 30, rfl, uw_7, by decide, tb_655⟩
theorem fl_X7_19 : FL RX7 19 7 6 := ⟨RX7, TX7, 30, rfl, uw_7, by decide, tb_643⟩
theorem sl_X7_105 : SL RX7 105 mX7_dryRows := ⟨tb_761, tb_762⟩
theorem fp_X7_109 : FP RX7 109 7 7 .int := ⟨RX7, TX7, 30, tyX7, rfl, uw_7, by decide, tb_644, tyX7_ok, nmX7, rfl, by decide +kernel⟩
theorem fp_X7_101 : FP RX7 101 7 2 .boolean := ⟨RX7, TX7, 30, tyX7, rfl, uw_7, by decide, tb_639, tyX7_ok, nmX7, rfl, by decide +kernel⟩
theorem fl_X7_112 : FL RX7 112 7 3 := ⟨RX7, TX7, 30, rfl, uw_7, by decide, tb_640⟩
theorem fp_X7_112 : FP RX7 112 7 3 .int := ⟨RX7, TX7, 30, tyX7, rfl, uw_7, by decide, tb_640, tyX7_ok, nmX7, rfl, by decide +kernel⟩
theorem vl_X7_115 : VL RX7 115 mX7_outs := ⟨tb_764, tb_766, tb_15⟩
theorem vl_X7_119 : VL RX7 119 mX7_isGutter := ⟨tb_772, tb_774, tb_16⟩
theorem vl_X7_123 : VL RX7 123 mX7_tell := ⟨tb_776, tb_778, tb_17⟩
theorem cl_X7_127 : Cond.constantLong RX7 127 (4) ∈ tb := tb_784
theorem sl_X7_129 : SL RX7 129 mX7_through := ⟨tb_796, tb_797⟩
theorem fl_X7_109 : FL RX7 109 7 7 := ⟨RX7, TX7, 30, rfl, uw_7, by decide, tb_644⟩
theorem fl_X7_22 : FL RX7 22 7 8 := ⟨RX7, TX7, 30, rfl, uw_7, by decide, tb_645⟩
theorem fl_X7_25 : FL RX7 25 7 9 := ⟨RX7, TX7, 30, rfl, uw_7, by decide, tb_646⟩
theorem sl_X7_133 : SL RX7 133 mX7_runs := ⟨tb_793, tb_794⟩
theorem fl_X7_31 : FL RX7 31 7 11 := ⟨RX7, TX7, 30, rfl, uw_7, by decide, tb_648⟩
theorem sl_X7_137 : SL RX7 137 mX7_copy := ⟨tb_824, tb_825⟩
theorem fl_X7_34 : FL RX7 34 7 12 := ⟨RX7, TX7, 30, rfl, uw_7, by decide, tb_649⟩
theorem fl_X7_37 : FL RX7 37 7 13 := ⟨RX7, TX7, 30, rfl, uw_7, by decide, tb_650⟩
theorem fl_X7_28 : FL RX7 28 7 10 := ⟨RX7, TX7, 30, rfl, uw_7, by decide, tb_647⟩
theorem cl_X7_141 : Cond.constantLong RX7 141 (2) ∈ tb := tb_815
theorem vl_X7_143 : VL RX7 143 mX7_isPageWord := ⟨tb_816, tb_818, tb_18⟩
theorem fl_X7_147 : FL RX7 147 7 14 := ⟨RX7, TX7, 30, rfl, uw_7, by decide, tb_651⟩
theorem fp_X7_147 : FP RX7 147 7 14 .int := ⟨RX7, TX7, 30, tyX7, rfl, uw_7, by decide, tb_651, tyX7_ok, nmX7, rfl, by decide +kernel⟩
theorem vl_X7_150 : VL RX7 150 mX7_asItIs := ⟨tb_820, tb_822, tb_19⟩
theorem vl_X7_153 : VL RX7 153 mX7_layWays := ⟨tb_827, tb_829, tb_20⟩
theorem sl_X7_156 : SL RX7 156 mX7_ones := ⟨tb_831, tb_832⟩
theorem vl_X7_159 : VL RX7 159 mX7_fallsAgain := ⟨tb_834, tb_836, tb_21⟩
theorem vl_X7_162 : VL RX7 162 mX7_hasPage := ⟨tb_838, tb_840, tb_22⟩
theorem fl_X7_44 : FL RX7 44 7 17 := ⟨RX7, TX7, 30, rfl, uw_7, by decide, tb_654⟩
theorem fl_X7_165 : FL RX7 165 7 15 := ⟨RX7, TX7, 30, rfl, uw_7, by decide, tb_652⟩
theorem fp_X7_165 : FP RX7 165 7 15 .int := ⟨RX7, TX7, 30, tyX7, rfl, uw_7, by decide, tb_652, tyX7_ok, nmX7, rfl, by decide +kernel⟩
theorem fl_X7_41 : FL RX7 41 7 16 := ⟨RX7, TX7, 30, rfl, uw_7, by decide, tb_653⟩
theorem vl_X7_168 : VL RX7 168 mX7_isOrder := ⟨tb_846, tb_848, tb_23⟩
theorem vl_X7_171 : VL RX7 171 mX7_wordOf := ⟨tb_850, tb_852, tb_24⟩
theorem sl_X7_174 : SL RX7 174 mX7_outOf := ⟨tb_858, tb_859⟩
theorem fl_X7_50 : FL RX7 50 7 19 := ⟨RX7, TX7, 30, rfl, uw_7, by decide, tb_656⟩
theorem vl_X7_178 : VL RX7 178 mX7_founds := ⟨tb_865, tb_867, tb_25⟩
theorem vl_X7_181 : VL RX7 181 mX7_isFound := ⟨tb_881, tb_883, tb_27⟩
theorem vl_X7_184 : VL RX7 184 mX7_kindBits := ⟨tb_877, tb_879, tb_26⟩
theorem vl_X7_187 : VL RX7 187 mX7_letterBits := ⟨tb_889, tb_891, tb_28⟩
theorem cl_X7_190 : Cond.constantLong RX7 190 (1103515245) ∈ tb := tb_902
theorem fl_X7_192 : FL RX7 192 7 20 := ⟨RX7, TX7, 30, rfl, uw_7, by decide, tb_657⟩
theorem cl_X7_195 : Cond.constantLong RX7 195 (12345) ∈ tb := tb_903
theorem cl_X7_197 : Cond.constantLong RX7 197 (2147483647) ∈ tb := tb_904
theorem fp_X7_192 : FP RX7 192 7 20 .int := ⟨RX7, TX7, 30, tyX7, rfl, uw_7, by decide, tb_657, tyX7_ok, nmX7, rfl, by decide +kernel⟩
theorem ck_X7_199 : Cond.constant RX7 199 (65536) ∈ tb := tb_905
theorem cl_X7_200 : Cond.constantLong RX7 200 (40) ∈ tb := tb_897
theorem vl_X7_202 : VL RX7 202 mX7_draw := ⟨tb_898, tb_900, tb_29⟩
theorem fl_X7_53 : FL RX7 53 7 23 := ⟨RX7, TX7, 30, rfl, uw_7, by decide, tb_660⟩
theorem fl_X7_56 : FL RX7 56 7 24 := ⟨RX7, TX7, 30, rfl, uw_7, by decide, tb_661⟩
theorem fl_X7_59 : FL RX7 59 7 25 := ⟨RX7, TX7, 30, rfl, uw_7, by decide, tb_662⟩
theorem fl_X7_62 : FL RX7 62 7 26 := ⟨RX7, TX7, 30, rfl, uw_7, by decide, tb_663⟩
theorem fl_X7_65 : FL RX7 65 7 27 := ⟨RX7, TX7, 30, rfl, uw_7, by decide, tb_664⟩
theorem fl_X7_68 : FL RX7 68 7 28 := ⟨RX7, TX7, 30, rfl, uw_7, by decide, tb_665⟩
theorem fp_X7_205 : FP RX7 205 7 22 .int := ⟨RX7, TX7, 30, tyX7, rfl, uw_7, by decide, tb_659, tyX7_ok, nmX7, rfl, by decide +kernel⟩
theorem fl_X7_71 : FL RX7 71 7 21 := ⟨RX7, TX7, 30, rfl, uw_7, by decide, tb_658⟩
theorem fl_X7_205 : FL RX7 205 7 22 := ⟨RX7, TX7, 30, rfl, uw_7, by decide, tb_659⟩
theorem vl_X7_208 : VL RX7 208 mX7_countOf := ⟨tb_918, tb_920, tb_30⟩
theorem cl_X7_211 : Cond.constantLong RX7 211 (31) ∈ tb := tb_935
theorem fl_X7_213 : FL RX7 213 7 29 := ⟨RX7, TX7, 30, rfl, uw_7, by decide, tb_666⟩
theorem fp_X7_213 : FP RX7 213 7 29 .long := ⟨RX7, TX7, 30, tyX7, rfl, uw_7, by decide, tb_666, tyX7_ok, nmX7, rfl, by decide +kernel⟩
theorem vl_X7_217 : VL RX7 217 mX7_say := ⟨tb_931, tb_933, tb_32⟩
theorem cl_X7_221 : Cond.constantLong RX7 221 (821) ∈ tb := tb_926
theorem vl_X7_223 : VL RX7 223 mX7_sayGutter := ⟨tb_927, tb_929, tb_31⟩
theorem vl_J0_335 : VL RJ0 335 mJ0_coder_7d493 := ⟨tb_278, tb_279, tb_280⟩
theorem vl_J0_633 : VL RJ0 633 mJ0_indexOf_7cf53 := ⟨tb_264, tb_265, tb_266⟩
theorem vl_J0_492 : VL RJ0 492 mJ0_isLatin1_aae02 := ⟨tb_268, tb_269, tb_270⟩
theorem vl_J0_505 : VL RJ0 505 mJ0_length_8abf5 := ⟨tb_274, tb_275, tb_276⟩
theorem sl_J0_637 : SL RJ0 637 mJ1_indexOf_4cfef := ⟨tb_282, tb_283⟩
theorem sl_J1_88 : SL RJ1 88 mJ1_canEncode_9a6ad := ⟨tb_285, tb_286⟩
theorem mm_J1_92 : Cond.methodLink RJ1 92 Lib.Math.max.name ∈ tb := tb_288
theorem mm_J1_38 : Cond.methodLink RJ1 38 Lib.Math.min.name ∈ tb := tb_291
theorem sl_J1_95 : SL RJ1 95 mJ1_indexOfChar_4cfef := ⟨tb_294, tb_295⟩
theorem mmin_w : Cond.static Lib.Math.min.name ∈ tb ∧ Cond.initialized "java/lang/Math" ∈ tb ∧ Cond.code Lib.Math.min.name Lib.Math.min.code 2 (some .int) ∈ tb := ⟨tb_292, tb_45, tb_293⟩
theorem mmax_w : Cond.static Lib.Math.max.name ∈ tb ∧ Cond.initialized "java/lang/Math" ∈ tb ∧ Cond.code Lib.Math.max.name Lib.Math.max.code 2 (some .int) ∈ tb := ⟨tb_289, tb_45, tb_290⟩
