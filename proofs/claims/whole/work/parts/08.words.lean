def WL : List Cond := lw_tbl.filter goodWord
theorem WL_t : ∀ w ∈ WL, w ∈ lw_tbl := fun _ h => (List.mem_filter.mp h).1
theorem WL_g : ∀ w ∈ WL, goodWord w = true := fun _ h => (List.mem_filter.mp h).2
theorem WL_0 {w : Cond} (h : w ∈ tables_1) (g : goodWord w = true) : w ∈ WL := List.mem_filter.mpr ⟨List.mem_append_right _ h, g⟩
theorem WL_1 {w : Cond} (h : w ∈ tables_1_1) (g : goodWord w = true) : w ∈ WL := WL_0 (List.mem_append_left _ h) g
theorem WL_2 {w : Cond} (h : w ∈ tables_1_2) (g : goodWord w = true) : w ∈ WL := WL_0 (List.mem_append_right _ (List.mem_append_left _ h)) g
theorem WL_3 {w : Cond} (h : w ∈ tables_1_3) (g : goodWord w = true) : w ∈ WL := WL_0 (List.mem_append_right _ (List.mem_append_right _ (List.mem_append_left _ h))) g
theorem WL_4 {w : Cond} (h : w ∈ tables_1_4) (g : goodWord w = true) : w ∈ WL := WL_0 (List.mem_append_right _ (List.mem_append_right _ (List.mem_append_right _ (List.mem_append_left _ h)))) g
theorem WL_5 {w : Cond} (h : w ∈ tables_1_5) (g : goodWord w = true) : w ∈ WL := WL_0 (List.mem_append_right _ (List.mem_append_right _ (List.mem_append_right _ (List.mem_append_right _ h)))) g
theorem WL_s {q : MethodName × Nat} (h : q ∈ lw_privs) : Cond.selects q.1.cls q.1 q.1 ∈ WL := List.mem_filter.mpr ⟨List.mem_append_left _ (List.mem_map.mpr ⟨q, h, rfl⟩), rfl⟩
theorem WL_in {ws : List Cond} (h : ∀ w ∈ ws, w ∈ WL) : GoodIn WL ws := fun w hw => ⟨h w hw, good_of_word (WL_g w (h w hw))⟩
theorem k1_0 : Cond.initialized RL ∈ WL := WL_1 (List.mem_of_getElem? (i := 0) rfl) rfl
theorem k1_1 : Cond.initialized RX5 ∈ WL := WL_1 (List.mem_of_getElem? (i := 1) rfl) rfl
theorem k1_2 : Cond.initialized RX1 ∈ WL := WL_1 (List.mem_of_getElem? (i := 2) rfl) rfl
theorem k1_3 : Cond.initialized RX0 ∈ WL := WL_1 (List.mem_of_getElem? (i := 3) rfl) rfl
theorem k1_4 : Cond.initialized RX3 ∈ WL := WL_1 (List.mem_of_getElem? (i := 4) rfl) rfl
theorem k1_5 : Cond.initialized RX4 ∈ WL := WL_1 (List.mem_of_getElem? (i := 5) rfl) rfl
theorem k1_6 : Cond.initialized RX2 ∈ WL := WL_1 (List.mem_of_getElem? (i := 6) rfl) rfl
theorem k1_7 : Cond.initialized RX6 ∈ WL := WL_1 (List.mem_of_getElem? (i := 7) rfl) rfl
theorem k1_8 : Cond.initialized "java/lang/Throwable" ∈ WL := WL_1 (List.mem_of_getElem? (i := 8) rfl) rfl
theorem k1_9 : Cond.initialized "java/lang/Exception" ∈ WL := WL_1 (List.mem_of_getElem? (i := 9) rfl) rfl
theorem k1_10 : Cond.initialized "java/lang/RuntimeException" ∈ WL := WL_1 (List.mem_of_getElem? (i := 10) rfl) rfl
theorem k1_11 : Cond.initialized "java/lang/IllegalArgumentException" ∈ WL := WL_1 (List.mem_of_getElem? (i := 11) rfl) rfl
theorem k1_12 : Cond.initialized "java/lang/IllegalStateException" ∈ WL := WL_1 (List.mem_of_getElem? (i := 12) rfl) rfl
theorem k1_13 : Cond.initialized "java/lang/IndexOutOfBoundsException" ∈ WL := WL_1 (List.mem_of_getElem? (i := 13) rfl) rfl
theorem k1_14 : Cond.initialized RJxe99ae ∈ WL := WL_1 (List.mem_of_getElem? (i := 14) rfl) rfl
theorem k1_15 : Cond.classLink RL 8 RX5 ∈ WL := WL_1 (List.mem_of_getElem? (i := 15) rfl) rfl
theorem k1_16 : Cond.instantiable RX5 8 ∈ WL := WL_1 (List.mem_of_getElem? (i := 16) rfl) rfl
theorem k1_17 : Cond.methodLink RL 85 yX5_init ∈ WL := WL_1 (List.mem_of_getElem? (i := 17) rfl) rfl
theorem k1_18 : Cond.instanceMethod yX5_init ∈ WL := WL_1 (List.mem_of_getElem? (i := 18) rfl) rfl
theorem k1_19 : Cond.code yX5_init cX5_init 1 (Option.none : Option Jvm.ClassFile.FieldType) ∈ WL := WL_1 (List.mem_of_getElem? (i := 19) rfl) rfl
theorem k1_20 : Cond.methodLink RX5 1 (⟨"java/lang/Object", "<init>", "()V"⟩ : MethodName) ∈ WL := WL_1 (List.mem_of_getElem? (i := 20) rfl) rfl
theorem k1_21 : Cond.instanceMethod (⟨"java/lang/Object", "<init>", "()V"⟩ : MethodName) ∈ WL := WL_1 (List.mem_of_getElem? (i := 21) rfl) rfl
theorem k1_22 : Cond.code (⟨"java/lang/Object", "<init>", "()V"⟩ : MethodName) object_method_1_code 1 (Option.none : Option Jvm.ClassFile.FieldType) ∈ WL := WL_1 (List.mem_of_getElem? (i := 22) rfl) rfl
theorem k1_23 : Cond.classLink RX5 7 RX1 ∈ WL := WL_1 (List.mem_of_getElem? (i := 23) rfl) rfl
theorem k1_24 : Cond.instantiable RX1 2 ∈ WL := WL_1 (List.mem_of_getElem? (i := 24) rfl) rfl
theorem k1_25 : Cond.methodLinkNest RX5 9 yX1_init "SignRanks" ∈ tables_1_1 := List.mem_of_getElem? (i := 25) rfl
theorem k1_26 : Cond.instanceMethod yX1_init ∈ WL := WL_1 (List.mem_of_getElem? (i := 26) rfl) rfl
theorem k1_27 : Cond.code yX1_init cX1_init 1 (Option.none : Option Jvm.ClassFile.FieldType) ∈ WL := WL_1 (List.mem_of_getElem? (i := 27) rfl) rfl
theorem k1_28 : Cond.methodLink RX1 3 (⟨"java/lang/Object", "<init>", "()V"⟩ : MethodName) ∈ WL := WL_1 (List.mem_of_getElem? (i := 28) rfl) rfl
theorem k1_29 : Cond.fieldLink RX1 9 "SignRanks$Row" "signs" "[I" ∈ WL := WL_1 (List.mem_of_getElem? (i := 29) rfl) rfl
theorem k1_30 : Cond.fieldLink RX1 15 "SignRanks$Row" "length" "I" ∈ WL := WL_1 (List.mem_of_getElem? (i := 30) rfl) rfl
theorem k1_31 : Cond.laysFinal "SignRanks$Row" "SignRanks$Row" "signs" "[I" ∈ WL := WL_1 (List.mem_of_getElem? (i := 31) rfl) rfl
theorem k1_33 : Cond.lays "SignRanks$Row" "SignRanks$Row" "length" "I" ∈ WL := WL_1 (List.mem_of_getElem? (i := 33) rfl) rfl
theorem k1_36 : Cond.arrayClass .int ∈ WL := WL_1 (List.mem_of_getElem? (i := 36) rfl) rfl
theorem k1_37 : Cond.classLink RX5 22 RX0 ∈ WL := WL_1 (List.mem_of_getElem? (i := 37) rfl) rfl
theorem k1_38 : Cond.instantiable RX0 2 ∈ WL := WL_1 (List.mem_of_getElem? (i := 38) rfl) rfl
theorem k1_39 : Cond.methodLinkNest RX5 24 yX0_init "SignRanks" ∈ tables_1_1 := List.mem_of_getElem? (i := 39) rfl
theorem k1_40 : Cond.instanceMethod yX0_init ∈ WL := WL_1 (List.mem_of_getElem? (i := 40) rfl) rfl
theorem k1_41 : Cond.code yX0_init cX0_init 1 (Option.none : Option Jvm.ClassFile.FieldType) ∈ WL := WL_1 (List.mem_of_getElem? (i := 41) rfl) rfl
theorem k1_42 : Cond.methodLink RX0 3 (⟨"java/lang/Object", "<init>", "()V"⟩ : MethodName) ∈ WL := WL_1 (List.mem_of_getElem? (i := 42) rfl) rfl
theorem k1_43 : Cond.fieldLink RX0 9 "SignRanks$Bag" "often" "[I" ∈ WL := WL_1 (List.mem_of_getElem? (i := 43) rfl) rfl
theorem k1_44 : Cond.fieldLink RX0 15 "SignRanks$Bag" "total" "I" ∈ WL := WL_1 (List.mem_of_getElem? (i := 44) rfl) rfl
theorem k1_45 : Cond.laysFinal "SignRanks$Bag" "SignRanks$Bag" "often" "[I" ∈ WL := WL_1 (List.mem_of_getElem? (i := 45) rfl) rfl
theorem k1_47 : Cond.lays "SignRanks$Bag" "SignRanks$Bag" "total" "I" ∈ WL := WL_1 (List.mem_of_getElem? (i := 47) rfl) rfl
theorem k1_50 : Cond.classLink RX5 29 RX3 ∈ WL := WL_1 (List.mem_of_getElem? (i := 50) rfl) rfl
theorem k1_51 : Cond.instantiable RX3 5 ∈ WL := WL_1 (List.mem_of_getElem? (i := 51) rfl) rfl
theorem k1_52 : Cond.methodLinkNest RX5 31 yX3_init "SignRanks" ∈ tables_1_1 := List.mem_of_getElem? (i := 52) rfl
theorem k1_53 : Cond.instanceMethod yX3_init ∈ WL := WL_1 (List.mem_of_getElem? (i := 53) rfl) rfl
theorem k1_54 : Cond.code yX3_init cX3_init 1 (Option.none : Option Jvm.ClassFile.FieldType) ∈ WL := WL_1 (List.mem_of_getElem? (i := 54) rfl) rfl
theorem k1_55 : Cond.methodLink RX3 3 (⟨"java/lang/Object", "<init>", "()V"⟩ : MethodName) ∈ WL := WL_1 (List.mem_of_getElem? (i := 55) rfl) rfl
theorem k1_56 : Cond.fieldLink RX3 9 "SignRanks$SmoothTable" "madeFor" "[I" ∈ WL := WL_1 (List.mem_of_getElem? (i := 56) rfl) rfl
theorem k1_57 : Cond.fieldLink RX3 15 "SignRanks$SmoothTable" "weight" "[I" ∈ WL := WL_1 (List.mem_of_getElem? (i := 57) rfl) rfl
theorem k1_58 : Cond.fieldLink RX3 18 "SignRanks$SmoothTable" "inCell" "[I" ∈ WL := WL_1 (List.mem_of_getElem? (i := 58) rfl) rfl
theorem k1_59 : Cond.fieldLink RX3 21 "SignRanks$SmoothTable" "all" "[I" ∈ WL := WL_1 (List.mem_of_getElem? (i := 59) rfl) rfl
theorem k1_60 : Cond.fieldLink RX3 24 "SignRanks$SmoothTable" "starting" "[I" ∈ WL := WL_1 (List.mem_of_getElem? (i := 60) rfl) rfl
theorem k1_61 : Cond.laysFinal "SignRanks$SmoothTable" "SignRanks$SmoothTable" "madeFor" "[I" ∈ WL := WL_1 (List.mem_of_getElem? (i := 61) rfl) rfl
theorem k1_63 : Cond.laysFinal "SignRanks$SmoothTable" "SignRanks$SmoothTable" "weight" "[I" ∈ WL := WL_1 (List.mem_of_getElem? (i := 63) rfl) rfl
theorem k1_65 : Cond.laysFinal "SignRanks$SmoothTable" "SignRanks$SmoothTable" "inCell" "[I" ∈ WL := WL_1 (List.mem_of_getElem? (i := 65) rfl) rfl
theorem k1_67 : Cond.laysFinal "SignRanks$SmoothTable" "SignRanks$SmoothTable" "all" "[I" ∈ WL := WL_1 (List.mem_of_getElem? (i := 67) rfl) rfl
theorem k1_69 : Cond.laysFinal "SignRanks$SmoothTable" "SignRanks$SmoothTable" "starting" "[I" ∈ WL := WL_1 (List.mem_of_getElem? (i := 69) rfl) rfl
theorem k1_72 : Cond.classLink RX5 36 RX4 ∈ WL := WL_1 (List.mem_of_getElem? (i := 72) rfl) rfl
theorem k1_73 : Cond.instantiable RX4 2 ∈ WL := WL_1 (List.mem_of_getElem? (i := 73) rfl) rfl
theorem k1_74 : Cond.methodLinkNest RX5 38 yX4_init "SignRanks" ∈ tables_1_1 := List.mem_of_getElem? (i := 74) rfl
theorem k1_75 : Cond.instanceMethod yX4_init ∈ WL := WL_1 (List.mem_of_getElem? (i := 75) rfl) rfl
theorem k1_76 : Cond.code yX4_init cX4_init 1 (Option.none : Option Jvm.ClassFile.FieldType) ∈ WL := WL_1 (List.mem_of_getElem? (i := 76) rfl) rfl
theorem k1_77 : Cond.methodLink RX4 3 (⟨"java/lang/Object", "<init>", "()V"⟩ : MethodName) ∈ WL := WL_1 (List.mem_of_getElem? (i := 77) rfl) rfl
theorem k1_78 : Cond.fieldLink RX4 9 "SignRanks$Text" "codes" "[I" ∈ WL := WL_1 (List.mem_of_getElem? (i := 78) rfl) rfl
theorem k1_79 : Cond.fieldLink RX4 15 "SignRanks$Text" "length" "I" ∈ WL := WL_1 (List.mem_of_getElem? (i := 79) rfl) rfl
theorem k1_80 : Cond.laysFinal "SignRanks$Text" "SignRanks$Text" "codes" "[I" ∈ WL := WL_1 (List.mem_of_getElem? (i := 80) rfl) rfl
theorem k1_82 : Cond.lays "SignRanks$Text" "SignRanks$Text" "length" "I" ∈ WL := WL_1 (List.mem_of_getElem? (i := 82) rfl) rfl
theorem k1_85 : Cond.classLink RX5 43 RX2 ∈ WL := WL_1 (List.mem_of_getElem? (i := 85) rfl) rfl
theorem k1_86 : Cond.instantiable RX2 2 ∈ WL := WL_1 (List.mem_of_getElem? (i := 86) rfl) rfl
theorem k1_87 : Cond.methodLinkNest RX5 45 yX2_init "SignRanks" ∈ tables_1_1 := List.mem_of_getElem? (i := 87) rfl
theorem k1_88 : Cond.instanceMethod yX2_init ∈ WL := WL_1 (List.mem_of_getElem? (i := 88) rfl) rfl
theorem k1_89 : Cond.code yX2_init cX2_init 1 (Option.none : Option Jvm.ClassFile.FieldType) ∈ WL := WL_1 (List.mem_of_getElem? (i := 89) rfl) rfl
theorem k1_90 : Cond.methodLink RX2 3 (⟨"java/lang/Object", "<init>", "()V"⟩ : MethodName) ∈ WL := WL_1 (List.mem_of_getElem? (i := 90) rfl) rfl
theorem k1_91 : Cond.fieldLink RX2 11 "SignRanks$Saves" "slots" "[I" ∈ WL := WL_1 (List.mem_of_getElem? (i := 91) rfl) rfl
theorem k1_92 : Cond.fieldLink RX2 15 "SignRanks$Saves" "held" "I" ∈ WL := WL_1 (List.mem_of_getElem? (i := 92) rfl) rfl
theorem k1_93 : Cond.laysFinal "SignRanks$Saves" "SignRanks$Saves" "slots" "[I" ∈ WL := WL_1 (List.mem_of_getElem? (i := 93) rfl) rfl
theorem k1_95 : Cond.lays "SignRanks$Saves" "SignRanks$Saves" "held" "I" ∈ WL := WL_1 (List.mem_of_getElem? (i := 95) rfl) rfl
theorem k1_98 : Cond.methodLink RX5 50 yX1_add ∈ WL := WL_1 (List.mem_of_getElem? (i := 98) rfl) rfl
theorem k1_99 : Cond.instanceMethod yX1_add ∈ WL := WL_1 (List.mem_of_getElem? (i := 99) rfl) rfl
theorem k1_100 : Cond.selects RX1 yX1_add yX1_add ∈ WL := WL_1 (List.mem_of_getElem? (i := 100) rfl) rfl
theorem k1_101 : Cond.code yX1_add cX1_add 2 (Option.none : Option Jvm.ClassFile.FieldType) ∈ WL := WL_1 (List.mem_of_getElem? (i := 101) rfl) rfl
theorem k1_102 : Cond.methodLink RX1 19 yX1_set ∈ WL := WL_1 (List.mem_of_getElem? (i := 102) rfl) rfl
theorem k1_104 : Cond.instanceMethod yX1_set ∈ WL := WL_1 (List.mem_of_getElem? (i := 104) rfl) rfl
theorem k1_105 : Cond.code yX1_set cX1_set 3 (Option.none : Option Jvm.ClassFile.FieldType) ∈ WL := WL_1 (List.mem_of_getElem? (i := 105) rfl) rfl
theorem k1_106 : Cond.fieldLink RX5 10 "SignRanks" "row" "LSignRanks$Row;" ∈ WL := WL_1 (List.mem_of_getElem? (i := 106) rfl) rfl
theorem k1_107 : Cond.fieldLink RX5 16 "SignRanks" "work" "LSignRanks$Row;" ∈ WL := WL_1 (List.mem_of_getElem? (i := 107) rfl) rfl
theorem k1_108 : Cond.fieldLink RX5 19 "SignRanks" "rest" "LSignRanks$Row;" ∈ WL := WL_1 (List.mem_of_getElem? (i := 108) rfl) rfl
theorem k1_109 : Cond.fieldLink RX5 25 "SignRanks" "bag" "LSignRanks$Bag;" ∈ WL := WL_1 (List.mem_of_getElem? (i := 109) rfl) rfl
theorem k1_110 : Cond.fieldLink RX5 32 "SignRanks" "smooth" "LSignRanks$SmoothTable;" ∈ WL := WL_1 (List.mem_of_getElem? (i := 110) rfl) rfl
theorem k1_111 : Cond.fieldLink RX5 39 "SignRanks" "text" "LSignRanks$Text;" ∈ WL := WL_1 (List.mem_of_getElem? (i := 111) rfl) rfl
theorem k1_112 : Cond.fieldLink RX5 46 "SignRanks" "saves" "LSignRanks$Saves;" ∈ WL := WL_1 (List.mem_of_getElem? (i := 112) rfl) rfl
theorem k1_113 : Cond.fieldLink RX5 167 "SignRanks" "gone" "I" ∈ WL := WL_1 (List.mem_of_getElem? (i := 113) rfl) rfl
theorem k1_114 : Cond.laysFinal "SignRanks" "SignRanks" "row" "LSignRanks$Row;" ∈ WL := WL_1 (List.mem_of_getElem? (i := 114) rfl) rfl
theorem k1_116 : Cond.laysFinal "SignRanks" "SignRanks" "work" "LSignRanks$Row;" ∈ WL := WL_1 (List.mem_of_getElem? (i := 116) rfl) rfl
theorem k1_118 : Cond.laysFinal "SignRanks" "SignRanks" "rest" "LSignRanks$Row;" ∈ WL := WL_1 (List.mem_of_getElem? (i := 118) rfl) rfl
theorem k1_120 : Cond.laysFinal "SignRanks" "SignRanks" "bag" "LSignRanks$Bag;" ∈ WL := WL_1 (List.mem_of_getElem? (i := 120) rfl) rfl
theorem k1_122 : Cond.laysFinal "SignRanks" "SignRanks" "smooth" "LSignRanks$SmoothTable;" ∈ WL := WL_1 (List.mem_of_getElem? (i := 122) rfl) rfl
theorem k1_124 : Cond.laysFinal "SignRanks" "SignRanks" "text" "LSignRanks$Text;" ∈ WL := WL_1 (List.mem_of_getElem? (i := 124) rfl) rfl
theorem k1_126 : Cond.laysFinal "SignRanks" "SignRanks" "saves" "LSignRanks$Saves;" ∈ WL := WL_1 (List.mem_of_getElem? (i := 126) rfl) rfl
theorem k1_128 : Cond.lays "SignRanks" "SignRanks" "gone" "I" ∈ WL := WL_1 (List.mem_of_getElem? (i := 128) rfl) rfl
theorem k1_131 : Cond.methodLink RL 101 yX5_next ∈ WL := WL_1 (List.mem_of_getElem? (i := 131) rfl) rfl
theorem k1_132 : Cond.instanceMethod yX5_next ∈ WL := WL_1 (List.mem_of_getElem? (i := 132) rfl) rfl
theorem k1_133 : Cond.selects RX5 yX5_next yX5_next ∈ WL := WL_1 (List.mem_of_getElem? (i := 133) rfl) rfl
theorem k1_134 : Cond.code yX5_next cX5_next 2 (some .int) ∈ WL := WL_1 (List.mem_of_getElem? (i := 134) rfl) rfl
theorem k1_135 : Cond.methodLink RX5 57 yX5_rankOf ∈ WL := WL_1 (List.mem_of_getElem? (i := 135) rfl) rfl
theorem k1_137 : Cond.instanceMethod yX5_rankOf ∈ WL := WL_1 (List.mem_of_getElem? (i := 137) rfl) rfl
theorem k1_138 : Cond.code yX5_rankOf cX5_rankOf 2 (some .int) ∈ WL := WL_1 (List.mem_of_getElem? (i := 138) rfl) rfl
theorem k1_139 : Cond.methodLink RX5 79 yX1_length ∈ WL := WL_1 (List.mem_of_getElem? (i := 139) rfl) rfl
theorem k1_140 : Cond.instanceMethod yX1_length ∈ WL := WL_1 (List.mem_of_getElem? (i := 140) rfl) rfl
theorem k1_141 : Cond.selects RX1 yX1_length yX1_length ∈ WL := WL_1 (List.mem_of_getElem? (i := 141) rfl) rfl
theorem k1_142 : Cond.code yX1_length cX1_length 1 (some .int) ∈ WL := WL_1 (List.mem_of_getElem? (i := 142) rfl) rfl
theorem k1_143 : Cond.methodLink RX5 181 yX5_lowestRank ∈ WL := WL_1 (List.mem_of_getElem? (i := 143) rfl) rfl
theorem k1_145 : Cond.instanceMethod yX5_lowestRank ∈ WL := WL_1 (List.mem_of_getElem? (i := 145) rfl) rfl
theorem k1_146 : Cond.code yX5_lowestRank cX5_lowestRank 7 (some .int) ∈ WL := WL_1 (List.mem_of_getElem? (i := 146) rfl) rfl
theorem k1_147 : Cond.methodLink RX5 171 yX0_fill ∈ WL := WL_1 (List.mem_of_getElem? (i := 147) rfl) rfl
theorem k1_148 : Cond.instanceMethod yX0_fill ∈ WL := WL_1 (List.mem_of_getElem? (i := 148) rfl) rfl
theorem k1_149 : Cond.selects RX0 yX0_fill yX0_fill ∈ WL := WL_1 (List.mem_of_getElem? (i := 149) rfl) rfl
theorem k1_150 : Cond.code yX0_fill cX0_fill 4 (Option.none : Option Jvm.ClassFile.FieldType) ∈ WL := WL_1 (List.mem_of_getElem? (i := 150) rfl) rfl
theorem k1_151 : Cond.methodLink RX0 19 yX1_length ∈ WL := WL_1 (List.mem_of_getElem? (i := 151) rfl) rfl
theorem k1_152 : Cond.methodLink RX0 25 yX1_at ∈ WL := WL_1 (List.mem_of_getElem? (i := 152) rfl) rfl
theorem k1_153 : Cond.instanceMethod yX1_at ∈ WL := WL_1 (List.mem_of_getElem? (i := 153) rfl) rfl
theorem k1_154 : Cond.selects RX1 yX1_at yX1_at ∈ WL := WL_1 (List.mem_of_getElem? (i := 154) rfl) rfl
theorem k1_155 : Cond.code yX1_at cX1_at 2 (some .int) ∈ WL := WL_1 (List.mem_of_getElem? (i := 155) rfl) rfl
theorem k1_156 : Cond.methodLink RX0 29 yX0_add ∈ WL := WL_1 (List.mem_of_getElem? (i := 156) rfl) rfl
theorem k1_158 : Cond.instanceMethod yX0_add ∈ WL := WL_1 (List.mem_of_getElem? (i := 158) rfl) rfl
theorem k1_159 : Cond.code yX0_add cX0_add 2 (Option.none : Option Jvm.ClassFile.FieldType) ∈ WL := WL_1 (List.mem_of_getElem? (i := 159) rfl) rfl
theorem k1_160 : Cond.methodLink RX5 289 yX0_ways ∈ WL := WL_1 (List.mem_of_getElem? (i := 160) rfl) rfl
theorem k1_161 : Cond.instanceMethod yX0_ways ∈ WL := WL_1 (List.mem_of_getElem? (i := 161) rfl) rfl
theorem k1_162 : Cond.selects RX0 yX0_ways yX0_ways ∈ WL := WL_1 (List.mem_of_getElem? (i := 162) rfl) rfl
theorem k1_163 : Cond.code yX0_ways cX0_ways 4 (some .int) ∈ WL := WL_1 (List.mem_of_getElem? (i := 163) rfl) rfl
theorem k1_164 : Cond.methodLink RX0 36 yX0_factorial ∈ WL := WL_1 (List.mem_of_getElem? (i := 164) rfl) rfl
theorem k1_165 : Cond.static yX0_factorial ∈ WL := WL_1 (List.mem_of_getElem? (i := 165) rfl) rfl
theorem k1_166 : Cond.code yX0_factorial cX0_factorial 1 (some .int) ∈ WL := WL_1 (List.mem_of_getElem? (i := 166) rfl) rfl
theorem k1_167 : Cond.fieldLink RX0 45 "SignRanks$Bag" "FACTORIALS" "[I" ∈ WL := WL_1 (List.mem_of_getElem? (i := 167) rfl) rfl
theorem k1_169 : Cond.methodLink RX5 137 yX1_at ∈ WL := WL_1 (List.mem_of_getElem? (i := 169) rfl) rfl
theorem k1_170 : Cond.methodLink RX5 292 yX0_below ∈ WL := WL_1 (List.mem_of_getElem? (i := 170) rfl) rfl
theorem k1_171 : Cond.instanceMethod yX0_below ∈ WL := WL_1 (List.mem_of_getElem? (i := 171) rfl) rfl
theorem k1_172 : Cond.selects RX0 yX0_below yX0_below ∈ WL := WL_1 (List.mem_of_getElem? (i := 172) rfl) rfl
theorem k1_173 : Cond.code yX0_below cX0_below 4 (some .int) ∈ WL := WL_1 (List.mem_of_getElem? (i := 173) rfl) rfl
theorem k1_174 : Cond.methodLink RX0 33 yX0_of ∈ WL := WL_1 (List.mem_of_getElem? (i := 174) rfl) rfl
theorem k1_175 : Cond.instanceMethod yX0_of ∈ WL := WL_1 (List.mem_of_getElem? (i := 175) rfl) rfl
theorem k1_176 : Cond.selects RX0 yX0_of yX0_of ∈ WL := WL_1 (List.mem_of_getElem? (i := 176) rfl) rfl
theorem k1_177 : Cond.code yX0_of cX0_of 2 (some .int) ∈ WL := WL_1 (List.mem_of_getElem? (i := 177) rfl) rfl
theorem k1_178 : Cond.methodLink RX5 295 yX0_total ∈ WL := WL_1 (List.mem_of_getElem? (i := 178) rfl) rfl
theorem k1_179 : Cond.instanceMethod yX0_total ∈ WL := WL_1 (List.mem_of_getElem? (i := 179) rfl) rfl
theorem k1_180 : Cond.selects RX0 yX0_total yX0_total ∈ WL := WL_1 (List.mem_of_getElem? (i := 180) rfl) rfl
theorem k1_181 : Cond.code yX0_total cX0_total 1 (some .int) ∈ WL := WL_1 (List.mem_of_getElem? (i := 181) rfl) rfl
theorem k1_182 : Cond.methodLink RX5 298 yX5_part ∈ WL := WL_1 (List.mem_of_getElem? (i := 182) rfl) rfl
theorem k1_183 : Cond.static yX5_part ∈ WL := WL_1 (List.mem_of_getElem? (i := 183) rfl) rfl
theorem k1_184 : Cond.code yX5_part cX5_part 3 (some .int) ∈ WL := WL_1 (List.mem_of_getElem? (i := 184) rfl) rfl
theorem k1_185 : Cond.methodLink RX5 178 yX0_of ∈ WL := WL_1 (List.mem_of_getElem? (i := 185) rfl) rfl
theorem k1_186 : Cond.methodLink RX5 301 yX0_drop ∈ WL := WL_1 (List.mem_of_getElem? (i := 186) rfl) rfl
theorem k1_187 : Cond.instanceMethod yX0_drop ∈ WL := WL_1 (List.mem_of_getElem? (i := 187) rfl) rfl
theorem k1_188 : Cond.selects RX0 yX0_drop yX0_drop ∈ WL := WL_1 (List.mem_of_getElem? (i := 188) rfl) rfl
theorem k1_189 : Cond.code yX0_drop cX0_drop 2 (Option.none : Option Jvm.ClassFile.FieldType) ∈ WL := WL_1 (List.mem_of_getElem? (i := 189) rfl) rfl
theorem k1_190 : Cond.methodLink RX5 65 yX5_all ∈ WL := WL_1 (List.mem_of_getElem? (i := 190) rfl) rfl
theorem k1_192 : Cond.instanceMethod yX5_all ∈ WL := WL_1 (List.mem_of_getElem? (i := 192) rfl) rfl
theorem k1_193 : Cond.code yX5_all cX5_all 1 (some .int) ∈ WL := WL_1 (List.mem_of_getElem? (i := 193) rfl) rfl
theorem k1_194 : Cond.methodLink RX5 185 yX5_blockSize ∈ WL := WL_1 (List.mem_of_getElem? (i := 194) rfl) rfl
theorem k1_196 : Cond.instanceMethod yX5_blockSize ∈ WL := WL_1 (List.mem_of_getElem? (i := 196) rfl) rfl
theorem k1_197 : Cond.code yX5_blockSize cX5_blockSize 2 (some .int) ∈ WL := WL_1 (List.mem_of_getElem? (i := 197) rfl) rfl
theorem k1_198 : Cond.methodLink RX5 61 yX5_goToRank ∈ WL := WL_1 (List.mem_of_getElem? (i := 198) rfl) rfl
theorem k1_200 : Cond.instanceMethod yX5_goToRank ∈ WL := WL_1 (List.mem_of_getElem? (i := 200) rfl) rfl
theorem k1_201 : Cond.code yX5_goToRank cX5_goToRank 3 (some .int) ∈ WL := WL_1 (List.mem_of_getElem? (i := 201) rfl) rfl
theorem k1_202 : Cond.methodLink RX5 213 yX5_layOut ∈ WL := WL_1 (List.mem_of_getElem? (i := 202) rfl) rfl
theorem k1_204 : Cond.instanceMethod yX5_layOut ∈ WL := WL_1 (List.mem_of_getElem? (i := 204) rfl) rfl
theorem k1_205 : Cond.code yX5_layOut cX5_layOut 7 (Option.none : Option Jvm.ClassFile.FieldType) ∈ WL := WL_1 (List.mem_of_getElem? (i := 205) rfl) rfl
theorem k1_206 : Cond.methodLink RX5 307 yX1_clear ∈ WL := WL_1 (List.mem_of_getElem? (i := 206) rfl) rfl
theorem k1_207 : Cond.instanceMethod yX1_clear ∈ WL := WL_1 (List.mem_of_getElem? (i := 207) rfl) rfl
theorem k1_208 : Cond.selects RX1 yX1_clear yX1_clear ∈ WL := WL_1 (List.mem_of_getElem? (i := 208) rfl) rfl
theorem k1_209 : Cond.code yX1_clear cX1_clear 1 (Option.none : Option Jvm.ClassFile.FieldType) ∈ WL := WL_1 (List.mem_of_getElem? (i := 209) rfl) rfl
theorem k1_210 : Cond.methodLink RX5 283 yX1_placesUnlike ∈ WL := WL_1 (List.mem_of_getElem? (i := 210) rfl) rfl
theorem k1_211 : Cond.instanceMethod yX1_placesUnlike ∈ WL := WL_1 (List.mem_of_getElem? (i := 211) rfl) rfl
theorem k1_212 : Cond.selects RX1 yX1_placesUnlike yX1_placesUnlike ∈ WL := WL_1 (List.mem_of_getElem? (i := 212) rfl) rfl
theorem k1_213 : Cond.code yX1_placesUnlike cX1_placesUnlike 4 (some .int) ∈ WL := WL_1 (List.mem_of_getElem? (i := 213) rfl) rfl
theorem k1_214 : Cond.methodLink RX1 30 yX1_at ∈ WL := WL_1 (List.mem_of_getElem? (i := 214) rfl) rfl
theorem k1_215 : Cond.methodLink RX5 94 yX5_arrive ∈ WL := WL_1 (List.mem_of_getElem? (i := 215) rfl) rfl
theorem k1_217 : Cond.instanceMethod yX5_arrive ∈ WL := WL_1 (List.mem_of_getElem? (i := 217) rfl) rfl
theorem k1_218 : Cond.code yX5_arrive cX5_arrive 1 (some .int) ∈ WL := WL_1 (List.mem_of_getElem? (i := 218) rfl) rfl
theorem k1_219 : Cond.methodLink RX5 105 yX5_save ∈ WL := WL_1 (List.mem_of_getElem? (i := 219) rfl) rfl
theorem k1_221 : Cond.instanceMethod yX5_save ∈ WL := WL_1 (List.mem_of_getElem? (i := 221) rfl) rfl
theorem k1_222 : Cond.code yX5_save cX5_save 1 (Option.none : Option Jvm.ClassFile.FieldType) ∈ WL := WL_1 (List.mem_of_getElem? (i := 222) rfl) rfl
theorem k1_223 : Cond.methodLink RX5 280 yX2_keep ∈ WL := WL_1 (List.mem_of_getElem? (i := 223) rfl) rfl
theorem k1_224 : Cond.instanceMethod yX2_keep ∈ WL := WL_1 (List.mem_of_getElem? (i := 224) rfl) rfl
theorem k1_225 : Cond.selects RX2 yX2_keep yX2_keep ∈ WL := WL_1 (List.mem_of_getElem? (i := 225) rfl) rfl
theorem k1_226 : Cond.code yX2_keep cX2_keep 5 (Option.none : Option Jvm.ClassFile.FieldType) ∈ WL := WL_1 (List.mem_of_getElem? (i := 226) rfl) rfl
theorem k1_227 : Cond.methodLink RX2 19 yX2_dropOldest ∈ WL := WL_1 (List.mem_of_getElem? (i := 227) rfl) rfl
theorem k1_229 : Cond.instanceMethod yX2_dropOldest ∈ WL := WL_1 (List.mem_of_getElem? (i := 229) rfl) rfl
theorem k1_230 : Cond.code yX2_dropOldest cX2_dropOldest 2 (Option.none : Option Jvm.ClassFile.FieldType) ∈ WL := WL_1 (List.mem_of_getElem? (i := 230) rfl) rfl
theorem k1_231 : Cond.methodLink RX2 36 yX2_slot ∈ WL := WL_1 (List.mem_of_getElem? (i := 231) rfl) rfl
theorem k1_233 : Cond.instanceMethod yX2_slot ∈ WL := WL_1 (List.mem_of_getElem? (i := 233) rfl) rfl
theorem k1_234 : Cond.code yX2_slot cX2_slot 2 (some .int) ∈ WL := WL_1 (List.mem_of_getElem? (i := 234) rfl) rfl
theorem k1_235 : Cond.methodLink RX2 22 yX2_setSlot ∈ WL := WL_1 (List.mem_of_getElem? (i := 235) rfl) rfl
theorem k1_237 : Cond.instanceMethod yX2_setSlot ∈ WL := WL_1 (List.mem_of_getElem? (i := 237) rfl) rfl
theorem k1_238 : Cond.code yX2_setSlot cX2_setSlot 3 (Option.none : Option Jvm.ClassFile.FieldType) ∈ WL := WL_1 (List.mem_of_getElem? (i := 238) rfl) rfl
theorem k1_239 : Cond.methodLink RX2 26 yX1_length ∈ WL := WL_1 (List.mem_of_getElem? (i := 239) rfl) rfl
theorem k2_0 : Cond.methodLink RX2 32 yX1_at ∈ WL := WL_2 (List.mem_of_getElem? (i := 0) rfl) rfl
theorem k2_1 : Cond.methodLink RX5 220 yX1_become ∈ WL := WL_2 (List.mem_of_getElem? (i := 1) rfl) rfl
theorem k2_2 : Cond.instanceMethod yX1_become ∈ WL := WL_2 (List.mem_of_getElem? (i := 2) rfl) rfl
theorem k2_3 : Cond.selects RX1 yX1_become yX1_become ∈ WL := WL_2 (List.mem_of_getElem? (i := 3) rfl) rfl
theorem k2_4 : Cond.code yX1_become cX1_become 3 (Option.none : Option Jvm.ClassFile.FieldType) ∈ WL := WL_2 (List.mem_of_getElem? (i := 4) rfl) rfl
theorem k2_5 : Cond.methodLink RX1 23 yX1_add ∈ WL := WL_2 (List.mem_of_getElem? (i := 5) rfl) rfl
theorem k2_6 : Cond.methodLink RL 105 yX5_previous ∈ WL := WL_2 (List.mem_of_getElem? (i := 6) rfl) rfl
theorem k2_7 : Cond.instanceMethod yX5_previous ∈ WL := WL_2 (List.mem_of_getElem? (i := 7) rfl) rfl
theorem k2_8 : Cond.selects RX5 yX5_previous yX5_previous ∈ WL := WL_2 (List.mem_of_getElem? (i := 8) rfl) rfl
theorem k2_9 : Cond.code yX5_previous cX5_previous 2 (some .int) ∈ WL := WL_2 (List.mem_of_getElem? (i := 9) rfl) rfl
theorem k2_10 : Cond.methodLink RL 135 yX5_clearBuffer ∈ WL := WL_2 (List.mem_of_getElem? (i := 10) rfl) rfl
theorem k2_11 : Cond.instanceMethod yX5_clearBuffer ∈ WL := WL_2 (List.mem_of_getElem? (i := 11) rfl) rfl
theorem k2_12 : Cond.selects RX5 yX5_clearBuffer yX5_clearBuffer ∈ WL := WL_2 (List.mem_of_getElem? (i := 12) rfl) rfl
theorem k2_13 : Cond.code yX5_clearBuffer cX5_clearBuffer 2 (some .int) ∈ WL := WL_2 (List.mem_of_getElem? (i := 13) rfl) rfl
theorem k2_14 : Cond.methodLink RX5 143 yX4_length ∈ WL := WL_2 (List.mem_of_getElem? (i := 14) rfl) rfl
theorem k2_15 : Cond.instanceMethod yX4_length ∈ WL := WL_2 (List.mem_of_getElem? (i := 15) rfl) rfl
theorem k2_16 : Cond.selects RX4 yX4_length yX4_length ∈ WL := WL_2 (List.mem_of_getElem? (i := 16) rfl) rfl
theorem k2_17 : Cond.code yX4_length cX4_length 1 (some .int) ∈ WL := WL_2 (List.mem_of_getElem? (i := 17) rfl) rfl
theorem k2_18 : Cond.methodLink RX5 147 yX4_clear ∈ WL := WL_2 (List.mem_of_getElem? (i := 18) rfl) rfl
theorem k2_19 : Cond.instanceMethod yX4_clear ∈ WL := WL_2 (List.mem_of_getElem? (i := 19) rfl) rfl
theorem k2_20 : Cond.selects RX4 yX4_clear yX4_clear ∈ WL := WL_2 (List.mem_of_getElem? (i := 20) rfl) rfl
theorem k2_21 : Cond.code yX4_clear cX4_clear 1 (Option.none : Option Jvm.ClassFile.FieldType) ∈ WL := WL_2 (List.mem_of_getElem? (i := 21) rfl) rfl
theorem k2_22 : Cond.methodLink RL 139 yX5_firstError ∈ WL := WL_2 (List.mem_of_getElem? (i := 22) rfl) rfl
theorem k2_23 : Cond.instanceMethod yX5_firstError ∈ WL := WL_2 (List.mem_of_getElem? (i := 23) rfl) rfl
theorem k2_24 : Cond.selects RX5 yX5_firstError yX5_firstError ∈ WL := WL_2 (List.mem_of_getElem? (i := 24) rfl) rfl
theorem k2_25 : Cond.code yX5_firstError cX5_firstError 1 (some .int) ∈ WL := WL_2 (List.mem_of_getElem? (i := 25) rfl) rfl
theorem k2_26 : Cond.methodLink RX5 150 yX4_firstBad ∈ WL := WL_2 (List.mem_of_getElem? (i := 26) rfl) rfl
theorem k2_27 : Cond.instanceMethod yX4_firstBad ∈ WL := WL_2 (List.mem_of_getElem? (i := 27) rfl) rfl
theorem k2_28 : Cond.selects RX4 yX4_firstBad yX4_firstBad ∈ WL := WL_2 (List.mem_of_getElem? (i := 28) rfl) rfl
theorem k2_29 : Cond.code yX4_firstBad cX4_firstBad 4 (some .int) ∈ WL := WL_2 (List.mem_of_getElem? (i := 29) rfl) rfl
theorem k2_30 : Cond.methodLink RX4 27 yX4_adds ∈ WL := WL_2 (List.mem_of_getElem? (i := 30) rfl) rfl
theorem k2_32 : Cond.instanceMethod yX4_adds ∈ WL := WL_2 (List.mem_of_getElem? (i := 32) rfl) rfl
theorem k2_33 : Cond.code yX4_adds cX4_adds 3 (some .int) ∈ WL := WL_2 (List.mem_of_getElem? (i := 33) rfl) rfl
theorem k2_34 : Cond.methodLink RX4 23 yX4_isLetter ∈ WL := WL_2 (List.mem_of_getElem? (i := 34) rfl) rfl
theorem k2_36 : Cond.instanceMethod yX4_isLetter ∈ WL := WL_2 (List.mem_of_getElem? (i := 36) rfl) rfl
theorem k2_37 : Cond.code yX4_isLetter cX4_isLetter 2 (some .boolean) ∈ WL := WL_2 (List.mem_of_getElem? (i := 37) rfl) rfl
theorem k2_38 : Cond.methodLink RX4 19 yX4_at ∈ WL := WL_2 (List.mem_of_getElem? (i := 38) rfl) rfl
theorem k2_39 : Cond.instanceMethod yX4_at ∈ WL := WL_2 (List.mem_of_getElem? (i := 39) rfl) rfl
theorem k2_40 : Cond.selects RX4 yX4_at yX4_at ∈ WL := WL_2 (List.mem_of_getElem? (i := 40) rfl) rfl
theorem k2_41 : Cond.code yX4_at cX4_at 2 (some .int) ∈ WL := WL_2 (List.mem_of_getElem? (i := 41) rfl) rfl
theorem k2_42 : Cond.methodLink RL 180 yX5_share ∈ WL := WL_2 (List.mem_of_getElem? (i := 42) rfl) rfl
theorem k2_43 : Cond.instanceMethod yX5_share ∈ WL := WL_2 (List.mem_of_getElem? (i := 43) rfl) rfl
theorem k2_44 : Cond.selects RX5 yX5_share yX5_share ∈ WL := WL_2 (List.mem_of_getElem? (i := 44) rfl) rfl
theorem k2_45 : Cond.code yX5_share cX5_share 2 (some .double) ∈ WL := WL_2 (List.mem_of_getElem? (i := 45) rfl) rfl
theorem k2_46 : Cond.methodLink RL 185 yX5_digest ∈ WL := WL_2 (List.mem_of_getElem? (i := 46) rfl) rfl
theorem k2_47 : Cond.instanceMethod yX5_digest ∈ WL := WL_2 (List.mem_of_getElem? (i := 47) rfl) rfl
theorem k2_48 : Cond.selects RX5 yX5_digest yX5_digest ∈ WL := WL_2 (List.mem_of_getElem? (i := 48) rfl) rfl
theorem k2_49 : Cond.code yX5_digest cX5_digest 6 (some .long) ∈ WL := WL_2 (List.mem_of_getElem? (i := 49) rfl) rfl
theorem k2_50 : Cond.constantLong RX5 229 (2579 : Int64) ∈ WL := WL_2 (List.mem_of_getElem? (i := 50) rfl) rfl
theorem k2_51 : Cond.methodLink RX5 231 yX5_count ∈ WL := WL_2 (List.mem_of_getElem? (i := 51) rfl) rfl
theorem k2_52 : Cond.instanceMethod yX5_count ∈ WL := WL_2 (List.mem_of_getElem? (i := 52) rfl) rfl
theorem k2_53 : Cond.selects RX5 yX5_count yX5_count ∈ WL := WL_2 (List.mem_of_getElem? (i := 53) rfl) rfl
theorem k2_54 : Cond.code yX5_count cX5_count 2 (some .int) ∈ WL := WL_2 (List.mem_of_getElem? (i := 54) rfl) rfl
theorem k2_55 : Cond.methodLink RX5 112 yX5_need ∈ WL := WL_2 (List.mem_of_getElem? (i := 55) rfl) rfl
theorem k2_56 : Cond.static yX5_need ∈ WL := WL_2 (List.mem_of_getElem? (i := 56) rfl) rfl
theorem k2_57 : Cond.code yX5_need cX5_need 1 (Option.none : Option Jvm.ClassFile.FieldType) ∈ WL := WL_2 (List.mem_of_getElem? (i := 57) rfl) rfl
theorem k2_58 : Cond.classLink RX5 97 "java/lang/IllegalArgumentException" ∈ WL := WL_2 (List.mem_of_getElem? (i := 58) rfl) rfl
theorem k2_59 : Cond.instantiable "java/lang/IllegalArgumentException" 6 ∈ WL := WL_2 (List.mem_of_getElem? (i := 59) rfl) rfl
theorem k2_67 : Cond.selects "java/lang/IllegalArgumentException" (⟨"java/lang/Throwable", "fillInStackTrace", "(I)Ljava/lang/Throwable;"⟩ : MethodName) (⟨"java/lang/Throwable", "fillInStackTrace", "(I)Ljava/lang/Throwable;"⟩ : MethodName) ∈ WL := WL_2 (List.mem_of_getElem? (i := 67) rfl) rfl
theorem k2_68 : Cond.selects "java/lang/IllegalArgumentException" (⟨"java/lang/Throwable", "fillInStackTrace", "()Ljava/lang/Throwable;"⟩ : MethodName) (⟨"java/lang/Throwable", "fillInStackTrace", "()Ljava/lang/Throwable;"⟩ : MethodName) ∈ WL := WL_2 (List.mem_of_getElem? (i := 68) rfl) rfl
theorem k2_69 : Cond.lays "java/lang/IllegalArgumentException" "java/lang/Throwable" "cause" "Ljava/lang/Throwable;" ∈ WL := WL_2 (List.mem_of_getElem? (i := 69) rfl) rfl
theorem k2_70 : Cond.lays "java/lang/Throwable" "java/lang/Throwable" "cause" "Ljava/lang/Throwable;" ∈ WL := WL_2 (List.mem_of_getElem? (i := 70) rfl) rfl
theorem k2_71 : Cond.lays "java/lang/IllegalArgumentException" "java/lang/Throwable" "stackTrace" "[Ljava/lang/StackTraceElement;" ∈ WL := WL_2 (List.mem_of_getElem? (i := 71) rfl) rfl
theorem k2_72 : Cond.lays "java/lang/Throwable" "java/lang/Throwable" "stackTrace" "[Ljava/lang/StackTraceElement;" ∈ WL := WL_2 (List.mem_of_getElem? (i := 72) rfl) rfl
theorem k2_73 : Cond.lays "java/lang/IllegalArgumentException" "java/lang/Throwable" "suppressedExceptions" "Ljava/util/List;" ∈ WL := WL_2 (List.mem_of_getElem? (i := 73) rfl) rfl
theorem k2_74 : Cond.lays "java/lang/Throwable" "java/lang/Throwable" "suppressedExceptions" "Ljava/util/List;" ∈ WL := WL_2 (List.mem_of_getElem? (i := 74) rfl) rfl
theorem k2_75 : Cond.lays "java/lang/IllegalArgumentException" "java/lang/Throwable" "detailMessage" "Ljava/lang/String;" ∈ WL := WL_2 (List.mem_of_getElem? (i := 75) rfl) rfl
theorem k2_76 : Cond.lays "java/lang/Throwable" "java/lang/Throwable" "detailMessage" "Ljava/lang/String;" ∈ WL := WL_2 (List.mem_of_getElem? (i := 76) rfl) rfl
theorem k2_77 : Cond.lays "java/lang/IllegalArgumentException" "java/lang/Throwable" "backtrace" "Ljava/lang/Object;" ∈ WL := WL_2 (List.mem_of_getElem? (i := 77) rfl) rfl
theorem k2_78 : Cond.lays "java/lang/Throwable" "java/lang/Throwable" "backtrace" "Ljava/lang/Object;" ∈ WL := WL_2 (List.mem_of_getElem? (i := 78) rfl) rfl
theorem k2_79 : Cond.fieldLink "java/lang/Throwable" 198 "java/lang/Throwable" "backtrace" "Ljava/lang/Object;" ∈ WL := WL_2 (List.mem_of_getElem? (i := 79) rfl) rfl
theorem k2_81 : Cond.instanceMethod (⟨"java/lang/Throwable", "<init>", "()V"⟩ : MethodName) ∈ WL := WL_2 (List.mem_of_getElem? (i := 81) rfl) rfl
theorem k2_82 : Cond.code (⟨"java/lang/Throwable", "<init>", "()V"⟩ : MethodName) prog_16_method_1_code 1 (Option.none : Option Jvm.ClassFile.FieldType) ∈ WL := WL_2 (List.mem_of_getElem? (i := 82) rfl) rfl
theorem k2_83 : Cond.methodLink "java/lang/Throwable" 1 (⟨"java/lang/Object", "<init>", "()V"⟩ : MethodName) ∈ WL := WL_2 (List.mem_of_getElem? (i := 83) rfl) rfl
theorem k2_84 : Cond.fieldLink "java/lang/Throwable" 13 "java/lang/Throwable" "UNASSIGNED_STACK" "[Ljava/lang/StackTraceElement;" ∈ WL := WL_2 (List.mem_of_getElem? (i := 84) rfl) rfl
theorem k2_86 : Cond.fieldLink "java/lang/Throwable" 20 "java/lang/Throwable" "SUPPRESSED_SENTINEL" "Ljava/util/List;" ∈ WL := WL_2 (List.mem_of_getElem? (i := 86) rfl) rfl
theorem k2_88 : Cond.methodLink "java/lang/Throwable" 27 (⟨"java/lang/Throwable", "fillInStackTrace", "()Ljava/lang/Throwable;"⟩ : MethodName) ∈ WL := WL_2 (List.mem_of_getElem? (i := 88) rfl) rfl
theorem k2_89 : Cond.instanceMethod (⟨"java/lang/Throwable", "fillInStackTrace", "()Ljava/lang/Throwable;"⟩ : MethodName) ∈ WL := WL_2 (List.mem_of_getElem? (i := 89) rfl) rfl
theorem k2_91 : Cond.selects "java/lang/IllegalStateException" (⟨"java/lang/Throwable", "fillInStackTrace", "()Ljava/lang/Throwable;"⟩ : MethodName) (⟨"java/lang/Throwable", "fillInStackTrace", "()Ljava/lang/Throwable;"⟩ : MethodName) ∈ WL := WL_2 (List.mem_of_getElem? (i := 91) rfl) rfl
theorem k2_92 : Cond.selects "java/lang/IndexOutOfBoundsException" (⟨"java/lang/Throwable", "fillInStackTrace", "()Ljava/lang/Throwable;"⟩ : MethodName) (⟨"java/lang/Throwable", "fillInStackTrace", "()Ljava/lang/Throwable;"⟩ : MethodName) ∈ WL := WL_2 (List.mem_of_getElem? (i := 92) rfl) rfl
theorem k2_94 : Cond.methodLink "java/lang/Throwable" 202 (⟨"java/lang/Throwable", "fillInStackTrace", "(I)Ljava/lang/Throwable;"⟩ : MethodName) ∈ WL := WL_2 (List.mem_of_getElem? (i := 94) rfl) rfl
theorem k2_96 : Cond.instanceMethod (⟨"java/lang/Throwable", "fillInStackTrace", "(I)Ljava/lang/Throwable;"⟩ : MethodName) ∈ WL := WL_2 (List.mem_of_getElem? (i := 96) rfl) rfl
theorem k2_97 : Cond.instantiable "java/lang/Throwable" 6 ∈ WL := WL_2 (List.mem_of_getElem? (i := 97) rfl) rfl
theorem k2_98 : Cond.native (⟨"java/lang/Throwable", "fillInStackTrace", "(I)Ljava/lang/Throwable;"⟩ : MethodName) ∈ WL := WL_2 (List.mem_of_getElem? (i := 98) rfl) rfl
theorem k2_100 : Cond.methodLink RX5 101 (⟨"java/lang/IllegalArgumentException", "<init>", "(Ljava/lang/String;)V"⟩ : MethodName) ∈ WL := WL_2 (List.mem_of_getElem? (i := 100) rfl) rfl
theorem k2_101 : Cond.instanceMethod (⟨"java/lang/IllegalArgumentException", "<init>", "(Ljava/lang/String;)V"⟩ : MethodName) ∈ WL := WL_2 (List.mem_of_getElem? (i := 101) rfl) rfl
theorem k2_102 : Cond.code (⟨"java/lang/IllegalArgumentException", "<init>", "(Ljava/lang/String;)V"⟩ : MethodName) prog_11_method_2_code 2 (Option.none : Option Jvm.ClassFile.FieldType) ∈ WL := WL_2 (List.mem_of_getElem? (i := 102) rfl) rfl
theorem k2_103 : Cond.methodLink "java/lang/IllegalArgumentException" 7 (⟨"java/lang/RuntimeException", "<init>", "(Ljava/lang/String;)V"⟩ : MethodName) ∈ WL := WL_2 (List.mem_of_getElem? (i := 103) rfl) rfl
theorem k2_104 : Cond.instanceMethod (⟨"java/lang/RuntimeException", "<init>", "(Ljava/lang/String;)V"⟩ : MethodName) ∈ WL := WL_2 (List.mem_of_getElem? (i := 104) rfl) rfl
theorem k2_105 : Cond.code (⟨"java/lang/RuntimeException", "<init>", "(Ljava/lang/String;)V"⟩ : MethodName) prog_14_method_2_code 2 (Option.none : Option Jvm.ClassFile.FieldType) ∈ WL := WL_2 (List.mem_of_getElem? (i := 105) rfl) rfl
theorem k2_106 : Cond.methodLink "java/lang/RuntimeException" 7 (⟨"java/lang/Exception", "<init>", "(Ljava/lang/String;)V"⟩ : MethodName) ∈ WL := WL_2 (List.mem_of_getElem? (i := 106) rfl) rfl
theorem k2_107 : Cond.instanceMethod (⟨"java/lang/Exception", "<init>", "(Ljava/lang/String;)V"⟩ : MethodName) ∈ WL := WL_2 (List.mem_of_getElem? (i := 107) rfl) rfl
theorem k2_108 : Cond.code (⟨"java/lang/Exception", "<init>", "(Ljava/lang/String;)V"⟩ : MethodName) prog_10_method_2_code 2 (Option.none : Option Jvm.ClassFile.FieldType) ∈ WL := WL_2 (List.mem_of_getElem? (i := 108) rfl) rfl
theorem k2_109 : Cond.methodLink "java/lang/Exception" 7 (⟨"java/lang/Throwable", "<init>", "(Ljava/lang/String;)V"⟩ : MethodName) ∈ WL := WL_2 (List.mem_of_getElem? (i := 109) rfl) rfl
theorem k2_110 : Cond.instanceMethod (⟨"java/lang/Throwable", "<init>", "(Ljava/lang/String;)V"⟩ : MethodName) ∈ WL := WL_2 (List.mem_of_getElem? (i := 110) rfl) rfl
theorem k2_111 : Cond.code (⟨"java/lang/Throwable", "<init>", "(Ljava/lang/String;)V"⟩ : MethodName) prog_16_method_2_code 2 (Option.none : Option Jvm.ClassFile.FieldType) ∈ WL := WL_2 (List.mem_of_getElem? (i := 111) rfl) rfl
theorem k2_113 : Cond.fieldLink "java/lang/Throwable" 31 "java/lang/Throwable" "detailMessage" "Ljava/lang/String;" ∈ WL := WL_2 (List.mem_of_getElem? (i := 113) rfl) rfl
theorem k2_114 : Cond.fieldLink "java/lang/Throwable" 7 "java/lang/Throwable" "cause" "Ljava/lang/Throwable;" ∈ WL := WL_2 (List.mem_of_getElem? (i := 114) rfl) rfl
theorem k2_115 : Cond.fieldLink "java/lang/Throwable" 17 "java/lang/Throwable" "stackTrace" "[Ljava/lang/StackTraceElement;" ∈ WL := WL_2 (List.mem_of_getElem? (i := 115) rfl) rfl
theorem k2_116 : Cond.fieldLink "java/lang/Throwable" 24 "java/lang/Throwable" "suppressedExceptions" "Ljava/util/List;" ∈ WL := WL_2 (List.mem_of_getElem? (i := 116) rfl) rfl
theorem k2_121 : Cond.lays "java/lang/IllegalArgumentException" "java/lang/Throwable" "depth" "I" ∈ WL := WL_2 (List.mem_of_getElem? (i := 121) rfl) rfl
theorem k2_125 : Cond.arrayClass .byte ∈ WL := WL_2 (List.mem_of_getElem? (i := 125) rfl) rfl
theorem k2_126 : Cond.methodLink RX5 191 yX5_unlikeSigns ∈ WL := WL_2 (List.mem_of_getElem? (i := 126) rfl) rfl
theorem k2_128 : Cond.instanceMethod yX5_unlikeSigns ∈ WL := WL_2 (List.mem_of_getElem? (i := 128) rfl) rfl
theorem k2_129 : Cond.code yX5_unlikeSigns cX5_unlikeSigns 1 (some .int) ∈ WL := WL_2 (List.mem_of_getElem? (i := 129) rfl) rfl
theorem k2_130 : Cond.methodLink RX5 175 yX0_unlikeBelow ∈ WL := WL_2 (List.mem_of_getElem? (i := 130) rfl) rfl
theorem k2_131 : Cond.instanceMethod yX0_unlikeBelow ∈ WL := WL_2 (List.mem_of_getElem? (i := 131) rfl) rfl
theorem k2_132 : Cond.selects RX0 yX0_unlikeBelow yX0_unlikeBelow ∈ WL := WL_2 (List.mem_of_getElem? (i := 132) rfl) rfl
theorem k2_133 : Cond.code yX0_unlikeBelow cX0_unlikeBelow 4 (some .int) ∈ WL := WL_2 (List.mem_of_getElem? (i := 133) rfl) rfl
theorem k2_134 : Cond.methodLink RX5 86 yX5_allSmooth ∈ WL := WL_2 (List.mem_of_getElem? (i := 134) rfl) rfl
theorem k2_136 : Cond.instanceMethod yX5_allSmooth ∈ WL := WL_2 (List.mem_of_getElem? (i := 136) rfl) rfl
theorem k2_137 : Cond.code yX5_allSmooth cX5_allSmooth 1 (some .int) ∈ WL := WL_2 (List.mem_of_getElem? (i := 137) rfl) rfl
theorem k2_138 : Cond.methodLink RX5 188 yX5_smoothInBlock ∈ WL := WL_2 (List.mem_of_getElem? (i := 138) rfl) rfl
theorem k2_140 : Cond.instanceMethod yX5_smoothInBlock ∈ WL := WL_2 (List.mem_of_getElem? (i := 140) rfl) rfl
theorem k2_141 : Cond.code yX5_smoothInBlock cX5_smoothInBlock 2 (some .int) ∈ WL := WL_2 (List.mem_of_getElem? (i := 141) rfl) rfl
theorem k2_142 : Cond.methodLink RX5 82 yX1_isSmooth ∈ WL := WL_2 (List.mem_of_getElem? (i := 142) rfl) rfl
theorem k2_143 : Cond.instanceMethod yX1_isSmooth ∈ WL := WL_2 (List.mem_of_getElem? (i := 143) rfl) rfl
theorem k2_144 : Cond.selects RX1 yX1_isSmooth yX1_isSmooth ∈ WL := WL_2 (List.mem_of_getElem? (i := 144) rfl) rfl
theorem k2_145 : Cond.code yX1_isSmooth cX1_isSmooth 3 (some .boolean) ∈ WL := WL_2 (List.mem_of_getElem? (i := 145) rfl) rfl
theorem k2_146 : Cond.methodLink RX5 311 yX5_prepareSmooth ∈ WL := WL_2 (List.mem_of_getElem? (i := 146) rfl) rfl
theorem k2_148 : Cond.instanceMethod yX5_prepareSmooth ∈ WL := WL_2 (List.mem_of_getElem? (i := 148) rfl) rfl
theorem k2_149 : Cond.code yX5_prepareSmooth cX5_prepareSmooth 1 (Option.none : Option Jvm.ClassFile.FieldType) ∈ WL := WL_2 (List.mem_of_getElem? (i := 149) rfl) rfl
theorem k2_150 : Cond.methodLink RX5 321 yX3_prepare ∈ WL := WL_2 (List.mem_of_getElem? (i := 150) rfl) rfl
theorem k2_151 : Cond.instanceMethod yX3_prepare ∈ WL := WL_2 (List.mem_of_getElem? (i := 151) rfl) rfl
theorem k2_152 : Cond.selects RX3 yX3_prepare yX3_prepare ∈ WL := WL_2 (List.mem_of_getElem? (i := 152) rfl) rfl
theorem k2_153 : Cond.code yX3_prepare cX3_prepare 5 (Option.none : Option Jvm.ClassFile.FieldType) ∈ WL := WL_2 (List.mem_of_getElem? (i := 153) rfl) rfl
theorem k2_154 : Cond.methodLink RX3 27 yX0_of ∈ WL := WL_2 (List.mem_of_getElem? (i := 154) rfl) rfl
theorem k2_155 : Cond.methodLink RX3 33 yX3_weigh ∈ WL := WL_2 (List.mem_of_getElem? (i := 155) rfl) rfl
theorem k2_157 : Cond.instanceMethod yX3_weigh ∈ WL := WL_2 (List.mem_of_getElem? (i := 157) rfl) rfl
theorem k2_158 : Cond.code yX3_weigh cX3_weigh 3 (some .int) ∈ WL := WL_2 (List.mem_of_getElem? (i := 158) rfl) rfl
theorem k2_159 : Cond.methodLink RX3 37 yX3_fillCell ∈ WL := WL_2 (List.mem_of_getElem? (i := 159) rfl) rfl
theorem k2_161 : Cond.instanceMethod yX3_fillCell ∈ WL := WL_2 (List.mem_of_getElem? (i := 161) rfl) rfl
theorem k2_162 : Cond.code yX3_fillCell cX3_fillCell 6 (Option.none : Option Jvm.ClassFile.FieldType) ∈ WL := WL_2 (List.mem_of_getElem? (i := 162) rfl) rfl
theorem k2_163 : Cond.methodLink RX3 44 yX3_allOf ∈ WL := WL_2 (List.mem_of_getElem? (i := 163) rfl) rfl
theorem k2_165 : Cond.instanceMethod yX3_allOf ∈ WL := WL_2 (List.mem_of_getElem? (i := 165) rfl) rfl
theorem k2_166 : Cond.code yX3_allOf cX3_allOf 2 (some .int) ∈ WL := WL_2 (List.mem_of_getElem? (i := 166) rfl) rfl
theorem k2_167 : Cond.methodLink RX3 47 yX3_startingOf ∈ WL := WL_2 (List.mem_of_getElem? (i := 167) rfl) rfl
theorem k2_169 : Cond.instanceMethod yX3_startingOf ∈ WL := WL_2 (List.mem_of_getElem? (i := 169) rfl) rfl
theorem k2_170 : Cond.code yX3_startingOf cX3_startingOf 4 (some .int) ∈ WL := WL_2 (List.mem_of_getElem? (i := 170) rfl) rfl
theorem k2_171 : Cond.methodLink RX3 41 yX3_goOn ∈ WL := WL_2 (List.mem_of_getElem? (i := 171) rfl) rfl
theorem k2_173 : Cond.instanceMethod yX3_goOn ∈ WL := WL_2 (List.mem_of_getElem? (i := 173) rfl) rfl
theorem k2_174 : Cond.code yX3_goOn cX3_goOn 2 (Option.none : Option Jvm.ClassFile.FieldType) ∈ WL := WL_2 (List.mem_of_getElem? (i := 174) rfl) rfl
theorem k2_175 : Cond.methodLink RX5 314 yX3_behind ∈ WL := WL_2 (List.mem_of_getElem? (i := 175) rfl) rfl
theorem k2_176 : Cond.instanceMethod yX3_behind ∈ WL := WL_2 (List.mem_of_getElem? (i := 176) rfl) rfl
theorem k2_177 : Cond.selects RX3 yX3_behind yX3_behind ∈ WL := WL_2 (List.mem_of_getElem? (i := 177) rfl) rfl
theorem k2_178 : Cond.code yX3_behind cX3_behind 4 (some .int) ∈ WL := WL_2 (List.mem_of_getElem? (i := 178) rfl) rfl
theorem k2_179 : Cond.methodLink RX3 51 yX3_cellOf ∈ WL := WL_2 (List.mem_of_getElem? (i := 179) rfl) rfl
theorem k2_181 : Cond.instanceMethod yX3_cellOf ∈ WL := WL_2 (List.mem_of_getElem? (i := 181) rfl) rfl
theorem k2_182 : Cond.code yX3_cellOf cX3_cellOf 4 (some .int) ∈ WL := WL_2 (List.mem_of_getElem? (i := 182) rfl) rfl
theorem k2_183 : Cond.methodLink RX5 76 yX5_smoothRank ∈ WL := WL_2 (List.mem_of_getElem? (i := 183) rfl) rfl
theorem k2_185 : Cond.instanceMethod yX5_smoothRank ∈ WL := WL_2 (List.mem_of_getElem? (i := 185) rfl) rfl
theorem k2_186 : Cond.code yX5_smoothRank cX5_smoothRank 6 (some .int) ∈ WL := WL_2 (List.mem_of_getElem? (i := 186) rfl) rfl
theorem k2_187 : Cond.methodLink RX5 318 yX3_startingWith ∈ WL := WL_2 (List.mem_of_getElem? (i := 187) rfl) rfl
theorem k2_188 : Cond.instanceMethod yX3_startingWith ∈ WL := WL_2 (List.mem_of_getElem? (i := 188) rfl) rfl
theorem k2_189 : Cond.selects RX3 yX3_startingWith yX3_startingWith ∈ WL := WL_2 (List.mem_of_getElem? (i := 189) rfl) rfl
theorem k2_190 : Cond.code yX3_startingWith cX3_startingWith 3 (some .int) ∈ WL := WL_2 (List.mem_of_getElem? (i := 190) rfl) rfl
theorem k2_191 : Cond.methodLink RX5 194 yX1_inversions ∈ WL := WL_2 (List.mem_of_getElem? (i := 191) rfl) rfl
theorem k2_192 : Cond.instanceMethod yX1_inversions ∈ WL := WL_2 (List.mem_of_getElem? (i := 192) rfl) rfl
theorem k2_193 : Cond.selects RX1 yX1_inversions yX1_inversions ∈ WL := WL_2 (List.mem_of_getElem? (i := 193) rfl) rfl
theorem k2_194 : Cond.code yX1_inversions cX1_inversions 4 (some .int) ∈ WL := WL_2 (List.mem_of_getElem? (i := 194) rfl) rfl
theorem k2_195 : Cond.methodLink RX5 197 yX1_descents ∈ WL := WL_2 (List.mem_of_getElem? (i := 195) rfl) rfl
theorem k2_196 : Cond.instanceMethod yX1_descents ∈ WL := WL_2 (List.mem_of_getElem? (i := 196) rfl) rfl
theorem k2_197 : Cond.selects RX1 yX1_descents yX1_descents ∈ WL := WL_2 (List.mem_of_getElem? (i := 197) rfl) rfl
theorem k2_198 : Cond.code yX1_descents cX1_descents 3 (some .int) ∈ WL := WL_2 (List.mem_of_getElem? (i := 198) rfl) rfl
theorem k2_199 : Cond.methodLink RX1 41 yX1_fallsBehind ∈ WL := WL_2 (List.mem_of_getElem? (i := 199) rfl) rfl
theorem k2_201 : Cond.instanceMethod yX1_fallsBehind ∈ WL := WL_2 (List.mem_of_getElem? (i := 201) rfl) rfl
theorem k2_202 : Cond.code yX1_fallsBehind cX1_fallsBehind 2 (some .boolean) ∈ WL := WL_2 (List.mem_of_getElem? (i := 202) rfl) rfl
theorem k2_203 : Cond.methodLink RX5 200 yX1_majorIndex ∈ WL := WL_2 (List.mem_of_getElem? (i := 203) rfl) rfl
theorem k2_204 : Cond.instanceMethod yX1_majorIndex ∈ WL := WL_2 (List.mem_of_getElem? (i := 204) rfl) rfl
theorem k2_205 : Cond.selects RX1 yX1_majorIndex yX1_majorIndex ∈ WL := WL_2 (List.mem_of_getElem? (i := 205) rfl) rfl
theorem k2_206 : Cond.code yX1_majorIndex cX1_majorIndex 3 (some .int) ∈ WL := WL_2 (List.mem_of_getElem? (i := 206) rfl) rfl
theorem k2_207 : Cond.methodLink RX5 203 yX5_rankTurnedAround ∈ WL := WL_2 (List.mem_of_getElem? (i := 207) rfl) rfl
theorem k2_209 : Cond.instanceMethod yX5_rankTurnedAround ∈ WL := WL_2 (List.mem_of_getElem? (i := 209) rfl) rfl
theorem k2_210 : Cond.code yX5_rankTurnedAround cX5_rankTurnedAround 1 (some .int) ∈ WL := WL_2 (List.mem_of_getElem? (i := 210) rfl) rfl
theorem k2_211 : Cond.methodLink RX5 116 yX1_reverse ∈ WL := WL_2 (List.mem_of_getElem? (i := 211) rfl) rfl
theorem k2_212 : Cond.instanceMethod yX1_reverse ∈ WL := WL_2 (List.mem_of_getElem? (i := 212) rfl) rfl
theorem k2_213 : Cond.selects RX1 yX1_reverse yX1_reverse ∈ WL := WL_2 (List.mem_of_getElem? (i := 213) rfl) rfl
theorem k2_214 : Cond.code yX1_reverse cX1_reverse 5 (Option.none : Option Jvm.ClassFile.FieldType) ∈ WL := WL_2 (List.mem_of_getElem? (i := 214) rfl) rfl
theorem k2_215 : Cond.methodLink RX1 38 yX1_exchange ∈ WL := WL_2 (List.mem_of_getElem? (i := 215) rfl) rfl
theorem k2_216 : Cond.instanceMethod yX1_exchange ∈ WL := WL_2 (List.mem_of_getElem? (i := 216) rfl) rfl
theorem k2_217 : Cond.selects RX1 yX1_exchange yX1_exchange ∈ WL := WL_2 (List.mem_of_getElem? (i := 217) rfl) rfl
theorem k2_218 : Cond.code yX1_exchange cX1_exchange 4 (Option.none : Option Jvm.ClassFile.FieldType) ∈ WL := WL_2 (List.mem_of_getElem? (i := 218) rfl) rfl
theorem k2_219 : Cond.methodLink RX5 206 yX5_rankBySecondWay ∈ WL := WL_2 (List.mem_of_getElem? (i := 219) rfl) rfl
theorem k2_221 : Cond.instanceMethod yX5_rankBySecondWay ∈ WL := WL_2 (List.mem_of_getElem? (i := 221) rfl) rfl
theorem k2_222 : Cond.code yX5_rankBySecondWay cX5_rankBySecondWay 4 (some .int) ∈ WL := WL_2 (List.mem_of_getElem? (i := 222) rfl) rfl
theorem k2_223 : Cond.methodLink RX5 304 yX0_waysBehind ∈ WL := WL_2 (List.mem_of_getElem? (i := 223) rfl) rfl
theorem k2_224 : Cond.instanceMethod yX0_waysBehind ∈ WL := WL_2 (List.mem_of_getElem? (i := 224) rfl) rfl
theorem k2_225 : Cond.selects RX0 yX0_waysBehind yX0_waysBehind ∈ WL := WL_2 (List.mem_of_getElem? (i := 225) rfl) rfl
theorem k2_226 : Cond.code yX0_waysBehind cX0_waysBehind 3 (some .int) ∈ WL := WL_2 (List.mem_of_getElem? (i := 226) rfl) rfl
theorem k2_227 : Cond.methodLink RX0 39 yX0_drop ∈ WL := WL_2 (List.mem_of_getElem? (i := 227) rfl) rfl
theorem k2_228 : Cond.methodLink RX0 42 yX0_ways ∈ WL := WL_2 (List.mem_of_getElem? (i := 228) rfl) rfl
theorem k2_229 : Cond.methodLink RX5 159 yX2_held ∈ WL := WL_2 (List.mem_of_getElem? (i := 229) rfl) rfl
theorem k2_230 : Cond.instanceMethod yX2_held ∈ WL := WL_2 (List.mem_of_getElem? (i := 230) rfl) rfl
theorem k2_231 : Cond.selects RX2 yX2_held yX2_held ∈ WL := WL_2 (List.mem_of_getElem? (i := 231) rfl) rfl
theorem k2_232 : Cond.code yX2_held cX2_held 1 (some .int) ∈ WL := WL_2 (List.mem_of_getElem? (i := 232) rfl) rfl
theorem k2_233 : Cond.methodLink RX5 234 yX5_mixed ∈ WL := WL_2 (List.mem_of_getElem? (i := 233) rfl) rfl
theorem k2_234 : Cond.static yX5_mixed ∈ WL := WL_2 (List.mem_of_getElem? (i := 234) rfl) rfl
theorem k2_235 : Cond.code yX5_mixed cX5_mixed 4 (some .long) ∈ WL := WL_2 (List.mem_of_getElem? (i := 235) rfl) rfl
theorem k2_236 : Cond.constantLong RX5 325 (31 : Int64) ∈ WL := WL_2 (List.mem_of_getElem? (i := 236) rfl) rfl
theorem k2_237 : Cond.methodLink RX5 238 yX5_sign ∈ WL := WL_2 (List.mem_of_getElem? (i := 237) rfl) rfl
theorem k2_238 : Cond.instanceMethod yX5_sign ∈ WL := WL_2 (List.mem_of_getElem? (i := 238) rfl) rfl
theorem k2_239 : Cond.selects RX5 yX5_sign yX5_sign ∈ WL := WL_2 (List.mem_of_getElem? (i := 239) rfl) rfl
theorem k3_0 : Cond.code yX5_sign cX5_sign 2 (some .int) ∈ WL := WL_3 (List.mem_of_getElem? (i := 0) rfl) rfl
theorem k3_1 : Cond.methodLink RX5 102 yX5_needPlace ∈ WL := WL_3 (List.mem_of_getElem? (i := 1) rfl) rfl
theorem k3_3 : Cond.instanceMethod yX5_needPlace ∈ WL := WL_3 (List.mem_of_getElem? (i := 3) rfl) rfl
theorem k3_4 : Cond.code yX5_needPlace cX5_needPlace 2 (Option.none : Option Jvm.ClassFile.FieldType) ∈ WL := WL_3 (List.mem_of_getElem? (i := 4) rfl) rfl
theorem k3_5 : Cond.methodLink RX5 277 yX1_has ∈ WL := WL_3 (List.mem_of_getElem? (i := 5) rfl) rfl
theorem k3_6 : Cond.instanceMethod yX1_has ∈ WL := WL_3 (List.mem_of_getElem? (i := 6) rfl) rfl
theorem k3_7 : Cond.selects RX1 yX1_has yX1_has ∈ WL := WL_3 (List.mem_of_getElem? (i := 7) rfl) rfl
theorem k3_8 : Cond.code yX1_has cX1_has 2 (some .boolean) ∈ WL := WL_3 (List.mem_of_getElem? (i := 8) rfl) rfl
theorem k3_9 : Cond.classLink RX5 122 "java/lang/IndexOutOfBoundsException" ∈ WL := WL_3 (List.mem_of_getElem? (i := 9) rfl) rfl
theorem k3_10 : Cond.instantiable "java/lang/IndexOutOfBoundsException" 6 ∈ WL := WL_3 (List.mem_of_getElem? (i := 10) rfl) rfl
theorem k3_12 : Cond.selects "java/lang/IndexOutOfBoundsException" (⟨"java/lang/Throwable", "fillInStackTrace", "(I)Ljava/lang/Throwable;"⟩ : MethodName) (⟨"java/lang/Throwable", "fillInStackTrace", "(I)Ljava/lang/Throwable;"⟩ : MethodName) ∈ WL := WL_3 (List.mem_of_getElem? (i := 12) rfl) rfl
theorem k3_13 : Cond.lays "java/lang/IndexOutOfBoundsException" "java/lang/Throwable" "cause" "Ljava/lang/Throwable;" ∈ WL := WL_3 (List.mem_of_getElem? (i := 13) rfl) rfl
theorem k3_14 : Cond.lays "java/lang/IndexOutOfBoundsException" "java/lang/Throwable" "stackTrace" "[Ljava/lang/StackTraceElement;" ∈ WL := WL_3 (List.mem_of_getElem? (i := 14) rfl) rfl
theorem k3_15 : Cond.lays "java/lang/IndexOutOfBoundsException" "java/lang/Throwable" "suppressedExceptions" "Ljava/util/List;" ∈ WL := WL_3 (List.mem_of_getElem? (i := 15) rfl) rfl
theorem k3_16 : Cond.lays "java/lang/IndexOutOfBoundsException" "java/lang/Throwable" "detailMessage" "Ljava/lang/String;" ∈ WL := WL_3 (List.mem_of_getElem? (i := 16) rfl) rfl
theorem k3_17 : Cond.lays "java/lang/IndexOutOfBoundsException" "java/lang/Throwable" "backtrace" "Ljava/lang/Object;" ∈ WL := WL_3 (List.mem_of_getElem? (i := 17) rfl) rfl
theorem k3_19 : Cond.methodLink RX5 126 (⟨"java/lang/IndexOutOfBoundsException", "<init>", "(Ljava/lang/String;)V"⟩ : MethodName) ∈ WL := WL_3 (List.mem_of_getElem? (i := 19) rfl) rfl
theorem k3_20 : Cond.instanceMethod (⟨"java/lang/IndexOutOfBoundsException", "<init>", "(Ljava/lang/String;)V"⟩ : MethodName) ∈ WL := WL_3 (List.mem_of_getElem? (i := 20) rfl) rfl
theorem k3_21 : Cond.code (⟨"java/lang/IndexOutOfBoundsException", "<init>", "(Ljava/lang/String;)V"⟩ : MethodName) prog_13_method_2_code 2 (Option.none : Option Jvm.ClassFile.FieldType) ∈ WL := WL_3 (List.mem_of_getElem? (i := 21) rfl) rfl
theorem k3_22 : Cond.methodLink "java/lang/IndexOutOfBoundsException" 7 (⟨"java/lang/RuntimeException", "<init>", "(Ljava/lang/String;)V"⟩ : MethodName) ∈ WL := WL_3 (List.mem_of_getElem? (i := 22) rfl) rfl
theorem k3_23 : Cond.lays "java/lang/IndexOutOfBoundsException" "java/lang/Throwable" "depth" "I" ∈ WL := WL_3 (List.mem_of_getElem? (i := 23) rfl) rfl
theorem k3_25 : Cond.methodLink RX5 241 yX5_digit ∈ WL := WL_3 (List.mem_of_getElem? (i := 25) rfl) rfl
theorem k3_26 : Cond.instanceMethod yX5_digit ∈ WL := WL_3 (List.mem_of_getElem? (i := 26) rfl) rfl
theorem k3_27 : Cond.selects RX5 yX5_digit yX5_digit ∈ WL := WL_3 (List.mem_of_getElem? (i := 27) rfl) rfl
theorem k3_28 : Cond.code yX5_digit cX5_digit 2 (some .int) ∈ WL := WL_3 (List.mem_of_getElem? (i := 28) rfl) rfl
theorem k3_29 : Cond.methodLink RX5 244 yX5_block ∈ WL := WL_3 (List.mem_of_getElem? (i := 29) rfl) rfl
theorem k3_30 : Cond.instanceMethod yX5_block ∈ WL := WL_3 (List.mem_of_getElem? (i := 30) rfl) rfl
theorem k3_31 : Cond.selects RX5 yX5_block yX5_block ∈ WL := WL_3 (List.mem_of_getElem? (i := 31) rfl) rfl
theorem k3_32 : Cond.code yX5_block cX5_block 3 (some .int) ∈ WL := WL_3 (List.mem_of_getElem? (i := 32) rfl) rfl
theorem k3_33 : Cond.methodLink RX5 247 yX5_ifSwapped ∈ WL := WL_3 (List.mem_of_getElem? (i := 33) rfl) rfl
theorem k3_34 : Cond.instanceMethod yX5_ifSwapped ∈ WL := WL_3 (List.mem_of_getElem? (i := 34) rfl) rfl
theorem k3_35 : Cond.selects RX5 yX5_ifSwapped yX5_ifSwapped ∈ WL := WL_3 (List.mem_of_getElem? (i := 35) rfl) rfl
theorem k3_36 : Cond.code yX5_ifSwapped cX5_ifSwapped 3 (some .int) ∈ WL := WL_3 (List.mem_of_getElem? (i := 36) rfl) rfl
theorem k3_37 : Cond.methodLink RX5 209 yX5_rankIfExchanged ∈ WL := WL_3 (List.mem_of_getElem? (i := 37) rfl) rfl
theorem k3_39 : Cond.instanceMethod yX5_rankIfExchanged ∈ WL := WL_3 (List.mem_of_getElem? (i := 39) rfl) rfl
theorem k3_40 : Cond.code yX5_rankIfExchanged cX5_rankIfExchanged 3 (some .int) ∈ WL := WL_3 (List.mem_of_getElem? (i := 40) rfl) rfl
theorem k3_41 : Cond.methodLink RX5 108 yX1_exchange ∈ WL := WL_3 (List.mem_of_getElem? (i := 41) rfl) rfl
theorem k3_42 : Cond.methodLink RX5 250 yX5_having ∈ WL := WL_3 (List.mem_of_getElem? (i := 42) rfl) rfl
theorem k3_43 : Cond.instanceMethod yX5_having ∈ WL := WL_3 (List.mem_of_getElem? (i := 43) rfl) rfl
theorem k3_44 : Cond.selects RX5 yX5_having yX5_having ∈ WL := WL_3 (List.mem_of_getElem? (i := 44) rfl) rfl
theorem k3_45 : Cond.code yX5_having cX5_having 5 (some .int) ∈ WL := WL_3 (List.mem_of_getElem? (i := 45) rfl) rfl
theorem k3_46 : Cond.methodLink RX5 127 yX5_needSign ∈ WL := WL_3 (List.mem_of_getElem? (i := 46) rfl) rfl
theorem k3_47 : Cond.static yX5_needSign ∈ WL := WL_3 (List.mem_of_getElem? (i := 47) rfl) rfl
theorem k3_48 : Cond.code yX5_needSign cX5_needSign 1 (Option.none : Option Jvm.ClassFile.FieldType) ∈ WL := WL_3 (List.mem_of_getElem? (i := 48) rfl) rfl
theorem k3_49 : Cond.methodLink RX5 216 yX5_havingBelow ∈ WL := WL_3 (List.mem_of_getElem? (i := 49) rfl) rfl
theorem k3_51 : Cond.instanceMethod yX5_havingBelow ∈ WL := WL_3 (List.mem_of_getElem? (i := 51) rfl) rfl
theorem k3_52 : Cond.code yX5_havingBelow cX5_havingBelow 8 (some .int) ∈ WL := WL_3 (List.mem_of_getElem? (i := 52) rfl) rfl
theorem k3_53 : Cond.methodLink RX5 308 yX5_havingBehind ∈ WL := WL_3 (List.mem_of_getElem? (i := 53) rfl) rfl
theorem k3_55 : Cond.instanceMethod yX5_havingBehind ∈ WL := WL_3 (List.mem_of_getElem? (i := 55) rfl) rfl
theorem k3_56 : Cond.code yX5_havingBehind cX5_havingBehind 7 (some .int) ∈ WL := WL_3 (List.mem_of_getElem? (i := 56) rfl) rfl
theorem k3_57 : Cond.methodLink RX5 254 yX5_many ∈ WL := WL_3 (List.mem_of_getElem? (i := 57) rfl) rfl
theorem k3_58 : Cond.instanceMethod yX5_many ∈ WL := WL_3 (List.mem_of_getElem? (i := 58) rfl) rfl
theorem k3_59 : Cond.selects RX5 yX5_many yX5_many ∈ WL := WL_3 (List.mem_of_getElem? (i := 59) rfl) rfl
theorem k3_60 : Cond.code yX5_many cX5_many 2 (some .int) ∈ WL := WL_3 (List.mem_of_getElem? (i := 60) rfl) rfl
theorem k3_61 : Cond.methodLink RX5 257 yX5_signOf ∈ WL := WL_3 (List.mem_of_getElem? (i := 61) rfl) rfl
theorem k3_62 : Cond.instanceMethod yX5_signOf ∈ WL := WL_3 (List.mem_of_getElem? (i := 62) rfl) rfl
theorem k3_63 : Cond.selects RX5 yX5_signOf yX5_signOf ∈ WL := WL_3 (List.mem_of_getElem? (i := 63) rfl) rfl
theorem k3_64 : Cond.code yX5_signOf cX5_signOf 3 (some .int) ∈ WL := WL_3 (List.mem_of_getElem? (i := 64) rfl) rfl
theorem k3_65 : Cond.methodLink RX5 54 yX5_needRank ∈ WL := WL_3 (List.mem_of_getElem? (i := 65) rfl) rfl
theorem k3_67 : Cond.instanceMethod yX5_needRank ∈ WL := WL_3 (List.mem_of_getElem? (i := 67) rfl) rfl
theorem k3_68 : Cond.code yX5_needRank cX5_needRank 2 (Option.none : Option Jvm.ClassFile.FieldType) ∈ WL := WL_3 (List.mem_of_getElem? (i := 68) rfl) rfl
theorem k3_69 : Cond.methodLink RX5 260 yX5_stepsTo ∈ WL := WL_3 (List.mem_of_getElem? (i := 69) rfl) rfl
theorem k3_70 : Cond.instanceMethod yX5_stepsTo ∈ WL := WL_3 (List.mem_of_getElem? (i := 70) rfl) rfl
theorem k3_71 : Cond.selects RX5 yX5_stepsTo yX5_stepsTo ∈ WL := WL_3 (List.mem_of_getElem? (i := 71) rfl) rfl
theorem k3_72 : Cond.code yX5_stepsTo cX5_stepsTo 5 (some .int) ∈ WL := WL_3 (List.mem_of_getElem? (i := 72) rfl) rfl
theorem k3_73 : Cond.methodLink RX5 223 yX1_find ∈ WL := WL_3 (List.mem_of_getElem? (i := 73) rfl) rfl
theorem k3_74 : Cond.instanceMethod yX1_find ∈ WL := WL_3 (List.mem_of_getElem? (i := 74) rfl) rfl
theorem k3_75 : Cond.selects RX1 yX1_find yX1_find ∈ WL := WL_3 (List.mem_of_getElem? (i := 75) rfl) rfl
theorem k3_76 : Cond.code yX1_find cX1_find 4 (some .int) ∈ WL := WL_3 (List.mem_of_getElem? (i := 76) rfl) rfl
theorem k3_77 : Cond.methodLink RX5 226 yX1_bringAhead ∈ WL := WL_3 (List.mem_of_getElem? (i := 77) rfl) rfl
theorem k3_78 : Cond.instanceMethod yX1_bringAhead ∈ WL := WL_3 (List.mem_of_getElem? (i := 78) rfl) rfl
theorem k3_79 : Cond.selects RX1 yX1_bringAhead yX1_bringAhead ∈ WL := WL_3 (List.mem_of_getElem? (i := 79) rfl) rfl
theorem k3_80 : Cond.code yX1_bringAhead cX1_bringAhead 4 (Option.none : Option Jvm.ClassFile.FieldType) ∈ WL := WL_3 (List.mem_of_getElem? (i := 80) rfl) rfl
theorem k3_81 : Cond.methodLink RX5 263 yX5_bestSwap ∈ WL := WL_3 (List.mem_of_getElem? (i := 81) rfl) rfl
theorem k3_82 : Cond.instanceMethod yX5_bestSwap ∈ WL := WL_3 (List.mem_of_getElem? (i := 82) rfl) rfl
theorem k3_83 : Cond.selects RX5 yX5_bestSwap yX5_bestSwap ∈ WL := WL_3 (List.mem_of_getElem? (i := 83) rfl) rfl
theorem k3_84 : Cond.code yX5_bestSwap cX5_bestSwap 8 (some .int) ∈ WL := WL_3 (List.mem_of_getElem? (i := 84) rfl) rfl
theorem k3_85 : Cond.methodLink RX5 266 yX5_share ∈ WL := WL_3 (List.mem_of_getElem? (i := 85) rfl) rfl
theorem k3_86 : Cond.methodLink RX5 270 yX5_bitsOf ∈ WL := WL_3 (List.mem_of_getElem? (i := 86) rfl) rfl
theorem k3_87 : Cond.static yX5_bitsOf ∈ WL := WL_3 (List.mem_of_getElem? (i := 87) rfl) rfl
theorem k3_88 : Cond.code yX5_bitsOf cX5_bitsOf 7 (some .long) ∈ WL := WL_3 (List.mem_of_getElem? (i := 88) rfl) rfl
theorem k3_89 : Cond.constantDouble RX5 327 (4611686018427387904 : UInt64) ∈ WL := WL_3 (List.mem_of_getElem? (i := 89) rfl) rfl
theorem k3_90 : Cond.constantDouble RX5 329 (4841369599423283200 : UInt64) ∈ WL := WL_3 (List.mem_of_getElem? (i := 90) rfl) rfl
theorem k3_91 : Cond.methodLink RX5 274 yX4_at ∈ WL := WL_3 (List.mem_of_getElem? (i := 91) rfl) rfl
theorem k3_92 : Cond.methodLink RL 89 yL_goTo ∈ WL := WL_3 (List.mem_of_getElem? (i := 92) rfl) rfl
theorem k3_93 : Cond.static yL_goTo ∈ WL := WL_3 (List.mem_of_getElem? (i := 93) rfl) rfl
theorem k3_94 : Cond.codeWith yL_goTo cL_goTo 4 (some .int) [(0, 9, 12, 13)] ∈ WL := WL_3 (List.mem_of_getElem? (i := 94) rfl) rfl
theorem k3_95 : Cond.classLink RL 13 "java/lang/IllegalArgumentException" ∈ WL := WL_3 (List.mem_of_getElem? (i := 95) rfl) rfl
theorem k3_96 : Cond.methodLink RL 7 yX5_goTo ∈ WL := WL_3 (List.mem_of_getElem? (i := 96) rfl) rfl
theorem k3_97 : Cond.instanceMethod yX5_goTo ∈ WL := WL_3 (List.mem_of_getElem? (i := 97) rfl) rfl
theorem k3_98 : Cond.selects RX5 yX5_goTo yX5_goTo ∈ WL := WL_3 (List.mem_of_getElem? (i := 98) rfl) rfl
theorem k3_99 : Cond.code yX5_goTo cX5_goTo 3 (some .int) ∈ WL := WL_3 (List.mem_of_getElem? (i := 99) rfl) rfl
theorem k3_100 : Cond.methodLink RL 98 yL_jump ∈ WL := WL_3 (List.mem_of_getElem? (i := 100) rfl) rfl
theorem k3_101 : Cond.static yL_jump ∈ WL := WL_3 (List.mem_of_getElem? (i := 101) rfl) rfl
theorem k3_102 : Cond.codeWith yL_jump cL_jump 4 (some .int) [(0, 9, 12, 18)] ∈ WL := WL_3 (List.mem_of_getElem? (i := 102) rfl) rfl
theorem k3_103 : Cond.classLink RL 18 "java/lang/IllegalStateException" ∈ WL := WL_3 (List.mem_of_getElem? (i := 103) rfl) rfl
theorem k3_104 : Cond.methodLink RL 15 yX5_jump ∈ WL := WL_3 (List.mem_of_getElem? (i := 104) rfl) rfl
theorem k3_105 : Cond.instanceMethod yX5_jump ∈ WL := WL_3 (List.mem_of_getElem? (i := 105) rfl) rfl
theorem k3_106 : Cond.selects RX5 yX5_jump yX5_jump ∈ WL := WL_3 (List.mem_of_getElem? (i := 106) rfl) rfl
theorem k3_107 : Cond.code yX5_jump cX5_jump 4 (some .int) ∈ WL := WL_3 (List.mem_of_getElem? (i := 107) rfl) rfl
theorem k3_108 : Cond.classLink RX5 69 "java/lang/IllegalStateException" ∈ WL := WL_3 (List.mem_of_getElem? (i := 108) rfl) rfl
theorem k3_109 : Cond.instantiable "java/lang/IllegalStateException" 6 ∈ WL := WL_3 (List.mem_of_getElem? (i := 109) rfl) rfl
theorem k3_111 : Cond.selects "java/lang/IllegalStateException" (⟨"java/lang/Throwable", "fillInStackTrace", "(I)Ljava/lang/Throwable;"⟩ : MethodName) (⟨"java/lang/Throwable", "fillInStackTrace", "(I)Ljava/lang/Throwable;"⟩ : MethodName) ∈ WL := WL_3 (List.mem_of_getElem? (i := 111) rfl) rfl
theorem k3_112 : Cond.lays "java/lang/IllegalStateException" "java/lang/Throwable" "cause" "Ljava/lang/Throwable;" ∈ WL := WL_3 (List.mem_of_getElem? (i := 112) rfl) rfl
theorem k3_113 : Cond.lays "java/lang/IllegalStateException" "java/lang/Throwable" "stackTrace" "[Ljava/lang/StackTraceElement;" ∈ WL := WL_3 (List.mem_of_getElem? (i := 113) rfl) rfl
theorem k3_114 : Cond.lays "java/lang/IllegalStateException" "java/lang/Throwable" "suppressedExceptions" "Ljava/util/List;" ∈ WL := WL_3 (List.mem_of_getElem? (i := 114) rfl) rfl
theorem k3_115 : Cond.lays "java/lang/IllegalStateException" "java/lang/Throwable" "detailMessage" "Ljava/lang/String;" ∈ WL := WL_3 (List.mem_of_getElem? (i := 115) rfl) rfl
theorem k3_116 : Cond.lays "java/lang/IllegalStateException" "java/lang/Throwable" "backtrace" "Ljava/lang/Object;" ∈ WL := WL_3 (List.mem_of_getElem? (i := 116) rfl) rfl
theorem k3_118 : Cond.methodLink RX5 73 (⟨"java/lang/IllegalStateException", "<init>", "(Ljava/lang/String;)V"⟩ : MethodName) ∈ WL := WL_3 (List.mem_of_getElem? (i := 118) rfl) rfl
theorem k3_119 : Cond.instanceMethod (⟨"java/lang/IllegalStateException", "<init>", "(Ljava/lang/String;)V"⟩ : MethodName) ∈ WL := WL_3 (List.mem_of_getElem? (i := 119) rfl) rfl
theorem k3_120 : Cond.code (⟨"java/lang/IllegalStateException", "<init>", "(Ljava/lang/String;)V"⟩ : MethodName) prog_12_method_2_code 2 (Option.none : Option Jvm.ClassFile.FieldType) ∈ WL := WL_3 (List.mem_of_getElem? (i := 120) rfl) rfl
theorem k3_121 : Cond.methodLink "java/lang/IllegalStateException" 7 (⟨"java/lang/RuntimeException", "<init>", "(Ljava/lang/String;)V"⟩ : MethodName) ∈ WL := WL_3 (List.mem_of_getElem? (i := 121) rfl) rfl
theorem k3_122 : Cond.lays "java/lang/IllegalStateException" "java/lang/Throwable" "depth" "I" ∈ WL := WL_3 (List.mem_of_getElem? (i := 122) rfl) rfl
theorem k3_124 : Cond.methodLink RL 109 yL_nextSmooth ∈ WL := WL_3 (List.mem_of_getElem? (i := 124) rfl) rfl
theorem k3_125 : Cond.static yL_nextSmooth ∈ WL := WL_3 (List.mem_of_getElem? (i := 125) rfl) rfl
theorem k3_126 : Cond.codeWith yL_nextSmooth cL_nextSmooth 3 (some .int) [(0, 8, 11, 18)] ∈ WL := WL_3 (List.mem_of_getElem? (i := 126) rfl) rfl
theorem k3_127 : Cond.methodLink RL 20 yX5_nextSmooth ∈ WL := WL_3 (List.mem_of_getElem? (i := 127) rfl) rfl
theorem k3_128 : Cond.instanceMethod yX5_nextSmooth ∈ WL := WL_3 (List.mem_of_getElem? (i := 128) rfl) rfl
theorem k3_129 : Cond.selects RX5 yX5_nextSmooth yX5_nextSmooth ∈ WL := WL_3 (List.mem_of_getElem? (i := 129) rfl) rfl
theorem k3_130 : Cond.code yX5_nextSmooth cX5_nextSmooth 2 (some .int) ∈ WL := WL_3 (List.mem_of_getElem? (i := 130) rfl) rfl
theorem k3_132 : Cond.methodLink RX5 91 yX5_layOutSmooth ∈ WL := WL_3 (List.mem_of_getElem? (i := 132) rfl) rfl
theorem k3_134 : Cond.instanceMethod yX5_layOutSmooth ∈ WL := WL_3 (List.mem_of_getElem? (i := 134) rfl) rfl
theorem k3_135 : Cond.code yX5_layOutSmooth cX5_layOutSmooth 7 (Option.none : Option Jvm.ClassFile.FieldType) ∈ WL := WL_3 (List.mem_of_getElem? (i := 135) rfl) rfl
theorem k3_136 : Cond.methodLink RL 113 yL_goToSmooth ∈ WL := WL_3 (List.mem_of_getElem? (i := 136) rfl) rfl
theorem k3_137 : Cond.static yL_goToSmooth ∈ WL := WL_3 (List.mem_of_getElem? (i := 137) rfl) rfl
theorem k3_138 : Cond.codeWith yL_goToSmooth cL_goToSmooth 4 (some .int) [(0, 9, 12, 13)] ∈ WL := WL_3 (List.mem_of_getElem? (i := 138) rfl) rfl
theorem k3_139 : Cond.methodLink RL 24 yX5_goToSmooth ∈ WL := WL_3 (List.mem_of_getElem? (i := 139) rfl) rfl
theorem k3_140 : Cond.instanceMethod yX5_goToSmooth ∈ WL := WL_3 (List.mem_of_getElem? (i := 140) rfl) rfl
theorem k3_141 : Cond.selects RX5 yX5_goToSmooth yX5_goToSmooth ∈ WL := WL_3 (List.mem_of_getElem? (i := 141) rfl) rfl
theorem k3_142 : Cond.code yX5_goToSmooth cX5_goToSmooth 2 (some .int) ∈ WL := WL_3 (List.mem_of_getElem? (i := 142) rfl) rfl
theorem k3_144 : Cond.methodLink RL 116 yL_swap ∈ WL := WL_3 (List.mem_of_getElem? (i := 144) rfl) rfl
theorem k3_145 : Cond.static yL_swap ∈ WL := WL_3 (List.mem_of_getElem? (i := 145) rfl) rfl
theorem k3_146 : Cond.codeWith yL_swap cL_swap 5 (some .int) [(0, 10, 13, 31)] ∈ WL := WL_3 (List.mem_of_getElem? (i := 146) rfl) rfl
theorem k3_147 : Cond.classLink RL 31 "java/lang/IndexOutOfBoundsException" ∈ WL := WL_3 (List.mem_of_getElem? (i := 147) rfl) rfl
theorem k3_148 : Cond.methodLink RL 27 yX5_swap ∈ WL := WL_3 (List.mem_of_getElem? (i := 148) rfl) rfl
theorem k3_149 : Cond.instanceMethod yX5_swap ∈ WL := WL_3 (List.mem_of_getElem? (i := 149) rfl) rfl
theorem k3_150 : Cond.selects RX5 yX5_swap yX5_swap ∈ WL := WL_3 (List.mem_of_getElem? (i := 150) rfl) rfl
theorem k3_151 : Cond.code yX5_swap cX5_swap 3 (some .int) ∈ WL := WL_3 (List.mem_of_getElem? (i := 151) rfl) rfl
theorem k3_152 : Cond.methodLink RL 120 yL_turn ∈ WL := WL_3 (List.mem_of_getElem? (i := 152) rfl) rfl
theorem k3_153 : Cond.static yL_turn ∈ WL := WL_3 (List.mem_of_getElem? (i := 153) rfl) rfl
theorem k3_154 : Cond.codeWith yL_turn cL_turn 5 (some .int) [(0, 10, 13, 31), (0, 10, 17, 13)] ∈ WL := WL_3 (List.mem_of_getElem? (i := 154) rfl) rfl
theorem k3_155 : Cond.methodLink RL 33 yX5_turn ∈ WL := WL_3 (List.mem_of_getElem? (i := 155) rfl) rfl
theorem k3_156 : Cond.instanceMethod yX5_turn ∈ WL := WL_3 (List.mem_of_getElem? (i := 156) rfl) rfl
theorem k3_157 : Cond.selects RX5 yX5_turn yX5_turn ∈ WL := WL_3 (List.mem_of_getElem? (i := 157) rfl) rfl
theorem k3_158 : Cond.code yX5_turn cX5_turn 3 (some .int) ∈ WL := WL_3 (List.mem_of_getElem? (i := 158) rfl) rfl
theorem k3_159 : Cond.methodLink RL 123 yL_carry ∈ WL := WL_3 (List.mem_of_getElem? (i := 159) rfl) rfl
theorem k3_160 : Cond.static yL_carry ∈ WL := WL_3 (List.mem_of_getElem? (i := 160) rfl) rfl
theorem k3_161 : Cond.codeWith yL_carry cL_carry 5 (some .int) [(0, 10, 13, 31), (0, 10, 17, 13)] ∈ WL := WL_3 (List.mem_of_getElem? (i := 161) rfl) rfl
theorem k3_162 : Cond.methodLink RL 36 yX5_carry ∈ WL := WL_3 (List.mem_of_getElem? (i := 162) rfl) rfl
theorem k3_163 : Cond.instanceMethod yX5_carry ∈ WL := WL_3 (List.mem_of_getElem? (i := 163) rfl) rfl
theorem k3_164 : Cond.selects RX5 yX5_carry yX5_carry ∈ WL := WL_3 (List.mem_of_getElem? (i := 164) rfl) rfl
theorem k3_165 : Cond.code yX5_carry cX5_carry 5 (some .int) ∈ WL := WL_3 (List.mem_of_getElem? (i := 165) rfl) rfl
theorem k3_166 : Cond.methodLink RX5 119 yX5_carryOne ∈ WL := WL_3 (List.mem_of_getElem? (i := 166) rfl) rfl
theorem k3_168 : Cond.instanceMethod yX5_carryOne ∈ WL := WL_3 (List.mem_of_getElem? (i := 168) rfl) rfl
theorem k3_169 : Cond.code yX5_carryOne cX5_carryOne 2 (some .int) ∈ WL := WL_3 (List.mem_of_getElem? (i := 169) rfl) rfl
theorem k3_170 : Cond.methodLink RX5 286 yX1_roll ∈ WL := WL_3 (List.mem_of_getElem? (i := 170) rfl) rfl
theorem k3_171 : Cond.instanceMethod yX1_roll ∈ WL := WL_3 (List.mem_of_getElem? (i := 171) rfl) rfl
theorem k3_172 : Cond.selects RX1 yX1_roll yX1_roll ∈ WL := WL_3 (List.mem_of_getElem? (i := 172) rfl) rfl
theorem k3_173 : Cond.code yX1_roll cX1_roll 1 (Option.none : Option Jvm.ClassFile.FieldType) ∈ WL := WL_3 (List.mem_of_getElem? (i := 173) rfl) rfl
theorem k3_174 : Cond.methodLink RX1 27 yX1_bringAhead ∈ WL := WL_3 (List.mem_of_getElem? (i := 174) rfl) rfl
theorem k3_175 : Cond.methodLink RL 126 yL_put ∈ WL := WL_3 (List.mem_of_getElem? (i := 175) rfl) rfl
theorem k3_176 : Cond.static yL_put ∈ WL := WL_3 (List.mem_of_getElem? (i := 176) rfl) rfl
theorem k3_177 : Cond.codeWith yL_put cL_put 5 (some .int) [(0, 10, 13, 31), (0, 10, 17, 13), (0, 10, 21, 18)] ∈ WL := WL_3 (List.mem_of_getElem? (i := 177) rfl) rfl
theorem k3_178 : Cond.methodLink RL 39 yX5_put ∈ WL := WL_3 (List.mem_of_getElem? (i := 178) rfl) rfl
theorem k3_179 : Cond.instanceMethod yX5_put ∈ WL := WL_3 (List.mem_of_getElem? (i := 179) rfl) rfl
theorem k3_180 : Cond.selects RX5 yX5_put yX5_put ∈ WL := WL_3 (List.mem_of_getElem? (i := 180) rfl) rfl
theorem k3_181 : Cond.code yX5_put cX5_put 3 (some .int) ∈ WL := WL_3 (List.mem_of_getElem? (i := 181) rfl) rfl
theorem k3_183 : Cond.methodLink RX5 132 yX1_insert ∈ WL := WL_3 (List.mem_of_getElem? (i := 183) rfl) rfl
theorem k3_184 : Cond.instanceMethod yX1_insert ∈ WL := WL_3 (List.mem_of_getElem? (i := 184) rfl) rfl
theorem k3_185 : Cond.selects RX1 yX1_insert yX1_insert ∈ WL := WL_3 (List.mem_of_getElem? (i := 185) rfl) rfl
theorem k3_186 : Cond.code yX1_insert cX1_insert 3 (Option.none : Option Jvm.ClassFile.FieldType) ∈ WL := WL_3 (List.mem_of_getElem? (i := 186) rfl) rfl
theorem k3_187 : Cond.methodLink RL 129 yL_take ∈ WL := WL_3 (List.mem_of_getElem? (i := 187) rfl) rfl
theorem k3_188 : Cond.static yL_take ∈ WL := WL_3 (List.mem_of_getElem? (i := 188) rfl) rfl
theorem k3_189 : Cond.codeWith yL_take cL_take 4 (some .int) [(0, 9, 12, 31), (0, 9, 15, 18)] ∈ WL := WL_3 (List.mem_of_getElem? (i := 189) rfl) rfl
theorem k3_190 : Cond.methodLink RL 42 yX5_take ∈ WL := WL_3 (List.mem_of_getElem? (i := 190) rfl) rfl
theorem k3_191 : Cond.instanceMethod yX5_take ∈ WL := WL_3 (List.mem_of_getElem? (i := 191) rfl) rfl
theorem k3_192 : Cond.selects RX5 yX5_take yX5_take ∈ WL := WL_3 (List.mem_of_getElem? (i := 192) rfl) rfl
theorem k3_193 : Cond.code yX5_take cX5_take 3 (some .int) ∈ WL := WL_3 (List.mem_of_getElem? (i := 193) rfl) rfl
theorem k3_195 : Cond.methodLink RX5 140 yX1_remove ∈ WL := WL_3 (List.mem_of_getElem? (i := 195) rfl) rfl
theorem k3_196 : Cond.instanceMethod yX1_remove ∈ WL := WL_3 (List.mem_of_getElem? (i := 196) rfl) rfl
theorem k3_197 : Cond.selects RX1 yX1_remove yX1_remove ∈ WL := WL_3 (List.mem_of_getElem? (i := 197) rfl) rfl
theorem k3_198 : Cond.code yX1_remove cX1_remove 3 (Option.none : Option Jvm.ClassFile.FieldType) ∈ WL := WL_3 (List.mem_of_getElem? (i := 198) rfl) rfl
theorem k3_199 : Cond.methodLink RX1 34 yX1_has ∈ WL := WL_3 (List.mem_of_getElem? (i := 199) rfl) rfl
theorem k3_200 : Cond.methodLink RL 132 yL_append ∈ WL := WL_3 (List.mem_of_getElem? (i := 200) rfl) rfl
theorem k3_201 : Cond.static yL_append ∈ WL := WL_3 (List.mem_of_getElem? (i := 201) rfl) rfl
theorem k3_202 : Cond.codeWith yL_append cL_append 4 (some .int) [(0, 9, 12, 13), (0, 9, 15, 18)] ∈ WL := WL_3 (List.mem_of_getElem? (i := 202) rfl) rfl
theorem k3_203 : Cond.methodLink RL 45 yX5_append ∈ WL := WL_3 (List.mem_of_getElem? (i := 203) rfl) rfl
theorem k3_204 : Cond.instanceMethod yX5_append ∈ WL := WL_3 (List.mem_of_getElem? (i := 204) rfl) rfl
theorem k3_205 : Cond.selects RX5 yX5_append yX5_append ∈ WL := WL_3 (List.mem_of_getElem? (i := 205) rfl) rfl
theorem k3_206 : Cond.code yX5_append cX5_append 2 (some .int) ∈ WL := WL_3 (List.mem_of_getElem? (i := 206) rfl) rfl
theorem k3_208 : Cond.methodLink RX5 146 yX4_add ∈ WL := WL_3 (List.mem_of_getElem? (i := 208) rfl) rfl
theorem k3_209 : Cond.instanceMethod yX4_add ∈ WL := WL_3 (List.mem_of_getElem? (i := 209) rfl) rfl
theorem k3_210 : Cond.selects RX4 yX4_add yX4_add ∈ WL := WL_3 (List.mem_of_getElem? (i := 210) rfl) rfl
theorem k3_211 : Cond.code yX4_add cX4_add 2 (Option.none : Option Jvm.ClassFile.FieldType) ∈ WL := WL_3 (List.mem_of_getElem? (i := 211) rfl) rfl
theorem k3_212 : Cond.methodLink RL 143 yL_read ∈ WL := WL_3 (List.mem_of_getElem? (i := 212) rfl) rfl
theorem k3_213 : Cond.static yL_read ∈ WL := WL_3 (List.mem_of_getElem? (i := 213) rfl) rfl
theorem k3_214 : Cond.codeWith yL_read cL_read 3 (some .int) [(0, 8, 11, 13)] ∈ WL := WL_3 (List.mem_of_getElem? (i := 214) rfl) rfl
theorem k3_215 : Cond.methodLink RL 48 yX5_read ∈ WL := WL_3 (List.mem_of_getElem? (i := 215) rfl) rfl
theorem k3_216 : Cond.instanceMethod yX5_read ∈ WL := WL_3 (List.mem_of_getElem? (i := 216) rfl) rfl
theorem k3_217 : Cond.selects RX5 yX5_read yX5_read ∈ WL := WL_3 (List.mem_of_getElem? (i := 217) rfl) rfl
theorem k3_218 : Cond.code yX5_read cX5_read 1 (some .int) ∈ WL := WL_3 (List.mem_of_getElem? (i := 218) rfl) rfl
theorem k3_220 : Cond.methodLink RX5 155 yX4_writeTo ∈ WL := WL_3 (List.mem_of_getElem? (i := 220) rfl) rfl
theorem k3_221 : Cond.instanceMethod yX4_writeTo ∈ WL := WL_3 (List.mem_of_getElem? (i := 221) rfl) rfl
theorem k3_222 : Cond.selects RX4 yX4_writeTo yX4_writeTo ∈ WL := WL_3 (List.mem_of_getElem? (i := 222) rfl) rfl
theorem k3_223 : Cond.code yX4_writeTo cX4_writeTo 6 (Option.none : Option Jvm.ClassFile.FieldType) ∈ WL := WL_3 (List.mem_of_getElem? (i := 223) rfl) rfl
theorem k3_224 : Cond.methodLink RX4 30 yX1_clear ∈ WL := WL_3 (List.mem_of_getElem? (i := 224) rfl) rfl
theorem k3_225 : Cond.methodLink RX4 35 yX1_add ∈ WL := WL_3 (List.mem_of_getElem? (i := 225) rfl) rfl
theorem k3_226 : Cond.methodLink RL 146 yL_undo ∈ WL := WL_3 (List.mem_of_getElem? (i := 226) rfl) rfl
theorem k3_227 : Cond.static yL_undo ∈ WL := WL_3 (List.mem_of_getElem? (i := 227) rfl) rfl
theorem k3_228 : Cond.codeWith yL_undo cL_undo 3 (some .int) [(0, 8, 11, 18)] ∈ WL := WL_3 (List.mem_of_getElem? (i := 228) rfl) rfl
theorem k3_229 : Cond.methodLink RL 51 yX5_undo ∈ WL := WL_3 (List.mem_of_getElem? (i := 229) rfl) rfl
theorem k3_230 : Cond.instanceMethod yX5_undo ∈ WL := WL_3 (List.mem_of_getElem? (i := 230) rfl) rfl
theorem k3_231 : Cond.selects RX5 yX5_undo yX5_undo ∈ WL := WL_3 (List.mem_of_getElem? (i := 231) rfl) rfl
theorem k3_232 : Cond.code yX5_undo cX5_undo 1 (some .int) ∈ WL := WL_3 (List.mem_of_getElem? (i := 232) rfl) rfl
theorem k3_234 : Cond.methodLink RX5 164 yX2_restore ∈ WL := WL_3 (List.mem_of_getElem? (i := 234) rfl) rfl
theorem k3_235 : Cond.instanceMethod yX2_restore ∈ WL := WL_3 (List.mem_of_getElem? (i := 235) rfl) rfl
theorem k3_236 : Cond.selects RX2 yX2_restore yX2_restore ∈ WL := WL_3 (List.mem_of_getElem? (i := 236) rfl) rfl
theorem k3_237 : Cond.code yX2_restore cX2_restore 5 (some .int) ∈ WL := WL_3 (List.mem_of_getElem? (i := 237) rfl) rfl
theorem k3_238 : Cond.methodLink RX2 39 yX1_clear ∈ WL := WL_3 (List.mem_of_getElem? (i := 238) rfl) rfl
theorem k3_239 : Cond.methodLink RX2 42 yX1_add ∈ WL := WL_3 (List.mem_of_getElem? (i := 239) rfl) rfl
theorem k4_0 : Cond.methodLink RL 149 yL_sign ∈ WL := WL_4 (List.mem_of_getElem? (i := 0) rfl) rfl
theorem k4_1 : Cond.static yL_sign ∈ WL := WL_4 (List.mem_of_getElem? (i := 1) rfl) rfl
theorem k4_2 : Cond.codeWith yL_sign cL_sign 4 (some .int) [(0, 9, 12, 31)] ∈ WL := WL_4 (List.mem_of_getElem? (i := 2) rfl) rfl
theorem k4_3 : Cond.methodLink RL 54 yX5_sign ∈ WL := WL_4 (List.mem_of_getElem? (i := 3) rfl) rfl
theorem k4_4 : Cond.methodLink RL 152 yL_digit ∈ WL := WL_4 (List.mem_of_getElem? (i := 4) rfl) rfl
theorem k4_5 : Cond.static yL_digit ∈ WL := WL_4 (List.mem_of_getElem? (i := 5) rfl) rfl
theorem k4_6 : Cond.codeWith yL_digit cL_digit 4 (some .int) [(0, 9, 12, 31)] ∈ WL := WL_4 (List.mem_of_getElem? (i := 6) rfl) rfl
theorem k4_7 : Cond.methodLink RL 57 yX5_digit ∈ WL := WL_4 (List.mem_of_getElem? (i := 7) rfl) rfl
theorem k4_8 : Cond.methodLink RL 155 yL_many ∈ WL := WL_4 (List.mem_of_getElem? (i := 8) rfl) rfl
theorem k4_9 : Cond.static yL_many ∈ WL := WL_4 (List.mem_of_getElem? (i := 9) rfl) rfl
theorem k4_10 : Cond.codeWith yL_many cL_many 4 (some .int) [(0, 9, 12, 13)] ∈ WL := WL_4 (List.mem_of_getElem? (i := 10) rfl) rfl
theorem k4_11 : Cond.methodLink RL 60 yX5_many ∈ WL := WL_4 (List.mem_of_getElem? (i := 11) rfl) rfl
theorem k4_12 : Cond.methodLink RL 158 yL_block ∈ WL := WL_4 (List.mem_of_getElem? (i := 12) rfl) rfl
theorem k4_13 : Cond.static yL_block ∈ WL := WL_4 (List.mem_of_getElem? (i := 13) rfl) rfl
theorem k4_14 : Cond.codeWith yL_block cL_block 5 (some .int) [(0, 10, 13, 13)] ∈ WL := WL_4 (List.mem_of_getElem? (i := 14) rfl) rfl
theorem k4_15 : Cond.methodLink RL 63 yX5_block ∈ WL := WL_4 (List.mem_of_getElem? (i := 15) rfl) rfl
theorem k4_16 : Cond.methodLink RL 161 yL_count ∈ WL := WL_4 (List.mem_of_getElem? (i := 16) rfl) rfl
theorem k4_17 : Cond.static yL_count ∈ WL := WL_4 (List.mem_of_getElem? (i := 17) rfl) rfl
theorem k4_18 : Cond.codeWith yL_count cL_count 4 (some .int) [(0, 9, 12, 13)] ∈ WL := WL_4 (List.mem_of_getElem? (i := 18) rfl) rfl
theorem k4_19 : Cond.methodLink RL 66 yX5_count ∈ WL := WL_4 (List.mem_of_getElem? (i := 19) rfl) rfl
theorem k4_20 : Cond.methodLink RL 164 yL_ifSwapped ∈ WL := WL_4 (List.mem_of_getElem? (i := 20) rfl) rfl
theorem k4_21 : Cond.static yL_ifSwapped ∈ WL := WL_4 (List.mem_of_getElem? (i := 21) rfl) rfl
theorem k4_22 : Cond.codeWith yL_ifSwapped cL_ifSwapped 5 (some .int) [(0, 10, 13, 31)] ∈ WL := WL_4 (List.mem_of_getElem? (i := 22) rfl) rfl
theorem k4_23 : Cond.methodLink RL 69 yX5_ifSwapped ∈ WL := WL_4 (List.mem_of_getElem? (i := 23) rfl) rfl
theorem k4_24 : Cond.methodLink RL 167 yL_signOf ∈ WL := WL_4 (List.mem_of_getElem? (i := 24) rfl) rfl
theorem k4_25 : Cond.static yL_signOf ∈ WL := WL_4 (List.mem_of_getElem? (i := 25) rfl) rfl
theorem k4_26 : Cond.codeWith yL_signOf cL_signOf 5 (some .int) [(0, 10, 13, 31), (0, 10, 17, 13)] ∈ WL := WL_4 (List.mem_of_getElem? (i := 26) rfl) rfl
theorem k4_27 : Cond.methodLink RL 72 yX5_signOf ∈ WL := WL_4 (List.mem_of_getElem? (i := 27) rfl) rfl
theorem k4_28 : Cond.methodLink RL 170 yL_having ∈ WL := WL_4 (List.mem_of_getElem? (i := 28) rfl) rfl
theorem k4_29 : Cond.static yL_having ∈ WL := WL_4 (List.mem_of_getElem? (i := 29) rfl) rfl
theorem k4_30 : Cond.codeWith yL_having cL_having 7 (some .int) [(0, 14, 17, 31), (0, 14, 21, 13)] ∈ WL := WL_4 (List.mem_of_getElem? (i := 30) rfl) rfl
theorem k4_31 : Cond.methodLink RL 75 yX5_having ∈ WL := WL_4 (List.mem_of_getElem? (i := 31) rfl) rfl
theorem k4_32 : Cond.methodLink RL 174 yL_stepsTo ∈ WL := WL_4 (List.mem_of_getElem? (i := 32) rfl) rfl
theorem k4_33 : Cond.static yL_stepsTo ∈ WL := WL_4 (List.mem_of_getElem? (i := 33) rfl) rfl
theorem k4_34 : Cond.codeWith yL_stepsTo cL_stepsTo 4 (some .int) [(0, 9, 12, 13)] ∈ WL := WL_4 (List.mem_of_getElem? (i := 34) rfl) rfl
theorem k4_35 : Cond.methodLink RL 79 yX5_stepsTo ∈ WL := WL_4 (List.mem_of_getElem? (i := 35) rfl) rfl
theorem k4_36 : Cond.methodLink RL 177 yL_bestSwap ∈ WL := WL_4 (List.mem_of_getElem? (i := 36) rfl) rfl
theorem k4_37 : Cond.static yL_bestSwap ∈ WL := WL_4 (List.mem_of_getElem? (i := 37) rfl) rfl
theorem k4_38 : Cond.codeWith yL_bestSwap cL_bestSwap 4 (some .int) [(0, 9, 12, 13)] ∈ WL := WL_4 (List.mem_of_getElem? (i := 38) rfl) rfl
theorem k4_39 : Cond.methodLink RL 82 yX5_bestSwap ∈ WL := WL_4 (List.mem_of_getElem? (i := 39) rfl) rfl
theorem k4_40 : Cond.classLink RL 86 RX6 ∈ WL := WL_4 (List.mem_of_getElem? (i := 40) rfl) rfl
theorem k4_41 : Cond.instantiable RX6 16 ∈ WL := WL_4 (List.mem_of_getElem? (i := 41) rfl) rfl
theorem k4_42 : Cond.methodLink RL 88 yX6_init ∈ WL := WL_4 (List.mem_of_getElem? (i := 42) rfl) rfl
theorem k4_43 : Cond.instanceMethod yX6_init ∈ WL := WL_4 (List.mem_of_getElem? (i := 43) rfl) rfl
theorem k4_44 : Cond.code yX6_init cX6_init 1 (Option.none : Option Jvm.ClassFile.FieldType) ∈ WL := WL_4 (List.mem_of_getElem? (i := 44) rfl) rfl
theorem k4_45 : Cond.methodLink RX6 1 (⟨"java/lang/Object", "<init>", "()V"⟩ : MethodName) ∈ WL := WL_4 (List.mem_of_getElem? (i := 45) rfl) rfl
theorem k4_46 : Cond.fieldLink RX6 7 "SignRanksModel" "z" "[I" ∈ WL := WL_4 (List.mem_of_getElem? (i := 46) rfl) rfl
theorem k4_47 : Cond.fieldLink RX6 41 "SignRanksModel" "states" "I" ∈ WL := WL_4 (List.mem_of_getElem? (i := 47) rfl) rfl
theorem k4_48 : Cond.fieldLink RX6 13 "SignRanksModel" "history" "[I" ∈ WL := WL_4 (List.mem_of_getElem? (i := 48) rfl) rfl
theorem k4_49 : Cond.fieldLink RX6 142 "SignRanksModel" "length" "I" ∈ WL := WL_4 (List.mem_of_getElem? (i := 49) rfl) rfl
theorem k4_50 : Cond.fieldLink RX6 16 "SignRanksModel" "text" "[I" ∈ WL := WL_4 (List.mem_of_getElem? (i := 50) rfl) rfl
theorem k4_51 : Cond.fieldLink RX6 37 "SignRanksModel" "thrown" "I" ∈ WL := WL_4 (List.mem_of_getElem? (i := 51) rfl) rfl
theorem k4_52 : Cond.fieldLink RX6 19 "SignRanksModel" "left" "[I" ∈ WL := WL_4 (List.mem_of_getElem? (i := 52) rfl) rfl
theorem k4_53 : Cond.fieldLink RX6 22 "SignRanksModel" "other" "[I" ∈ WL := WL_4 (List.mem_of_getElem? (i := 53) rfl) rfl
theorem k4_54 : Cond.fieldLink RX6 25 "SignRanksModel" "smooth" "[I" ∈ WL := WL_4 (List.mem_of_getElem? (i := 54) rfl) rfl
theorem k4_55 : Cond.fieldLink RX6 28 "SignRanksModel" "weights" "[I" ∈ WL := WL_4 (List.mem_of_getElem? (i := 55) rfl) rfl
theorem k4_56 : Cond.fieldLink RX6 74 "SignRanksModel" "codes" "I" ∈ WL := WL_4 (List.mem_of_getElem? (i := 56) rfl) rfl
theorem k4_57 : Cond.fieldLink RX6 31 "SignRanksModel" "signs" "[I" ∈ WL := WL_4 (List.mem_of_getElem? (i := 57) rfl) rfl
theorem k4_58 : Cond.fieldLink RX6 145 "SignRanksModel" "read" "I" ∈ WL := WL_4 (List.mem_of_getElem? (i := 58) rfl) rfl
theorem k4_59 : Cond.fieldLink RX6 148 "SignRanksModel" "isOpen" "Z" ∈ WL := WL_4 (List.mem_of_getElem? (i := 59) rfl) rfl
theorem k4_60 : Cond.fieldLink RX6 34 "SignRanksModel" "worked" "[I" ∈ WL := WL_4 (List.mem_of_getElem? (i := 60) rfl) rfl
theorem k4_61 : Cond.fieldLink RX6 212 "SignRanksModel" "hash" "J" ∈ WL := WL_4 (List.mem_of_getElem? (i := 61) rfl) rfl
theorem k4_62 : Cond.laysFinal "SignRanksModel" "SignRanksModel" "z" "[I" ∈ WL := WL_4 (List.mem_of_getElem? (i := 62) rfl) rfl
theorem k4_64 : Cond.lays "SignRanksModel" "SignRanksModel" "states" "I" ∈ WL := WL_4 (List.mem_of_getElem? (i := 64) rfl) rfl
theorem k4_66 : Cond.laysFinal "SignRanksModel" "SignRanksModel" "history" "[I" ∈ WL := WL_4 (List.mem_of_getElem? (i := 66) rfl) rfl
theorem k4_68 : Cond.lays "SignRanksModel" "SignRanksModel" "length" "I" ∈ WL := WL_4 (List.mem_of_getElem? (i := 68) rfl) rfl
theorem k4_70 : Cond.laysFinal "SignRanksModel" "SignRanksModel" "text" "[I" ∈ WL := WL_4 (List.mem_of_getElem? (i := 70) rfl) rfl
theorem k4_72 : Cond.lays "SignRanksModel" "SignRanksModel" "thrown" "I" ∈ WL := WL_4 (List.mem_of_getElem? (i := 72) rfl) rfl
theorem k4_74 : Cond.laysFinal "SignRanksModel" "SignRanksModel" "left" "[I" ∈ WL := WL_4 (List.mem_of_getElem? (i := 74) rfl) rfl
theorem k4_76 : Cond.laysFinal "SignRanksModel" "SignRanksModel" "other" "[I" ∈ WL := WL_4 (List.mem_of_getElem? (i := 76) rfl) rfl
theorem k4_78 : Cond.laysFinal "SignRanksModel" "SignRanksModel" "smooth" "[I" ∈ WL := WL_4 (List.mem_of_getElem? (i := 78) rfl) rfl
theorem k4_80 : Cond.laysFinal "SignRanksModel" "SignRanksModel" "weights" "[I" ∈ WL := WL_4 (List.mem_of_getElem? (i := 80) rfl) rfl
theorem k4_82 : Cond.lays "SignRanksModel" "SignRanksModel" "codes" "I" ∈ WL := WL_4 (List.mem_of_getElem? (i := 82) rfl) rfl
theorem k4_84 : Cond.laysFinal "SignRanksModel" "SignRanksModel" "signs" "[I" ∈ WL := WL_4 (List.mem_of_getElem? (i := 84) rfl) rfl
theorem k4_86 : Cond.lays "SignRanksModel" "SignRanksModel" "read" "I" ∈ WL := WL_4 (List.mem_of_getElem? (i := 86) rfl) rfl
theorem k4_88 : Cond.lays "SignRanksModel" "SignRanksModel" "isOpen" "Z" ∈ WL := WL_4 (List.mem_of_getElem? (i := 88) rfl) rfl
theorem k4_90 : Cond.laysFinal "SignRanksModel" "SignRanksModel" "worked" "[I" ∈ WL := WL_4 (List.mem_of_getElem? (i := 90) rfl) rfl
theorem k4_92 : Cond.lays "SignRanksModel" "SignRanksModel" "hash" "J" ∈ WL := WL_4 (List.mem_of_getElem? (i := 92) rfl) rfl
theorem k4_95 : Cond.methodLink RL 95 yX6_thrown ∈ WL := WL_4 (List.mem_of_getElem? (i := 95) rfl) rfl
theorem k4_96 : Cond.instanceMethod yX6_thrown ∈ WL := WL_4 (List.mem_of_getElem? (i := 96) rfl) rfl
theorem k4_97 : Cond.selects RX6 yX6_thrown yX6_thrown ∈ WL := WL_4 (List.mem_of_getElem? (i := 97) rfl) rfl
theorem k4_98 : Cond.code yX6_thrown cX6_thrown 1 (some .int) ∈ WL := WL_4 (List.mem_of_getElem? (i := 98) rfl) rfl
theorem k4_99 : Cond.methodLink RL 94 yX6_goTo ∈ WL := WL_4 (List.mem_of_getElem? (i := 99) rfl) rfl
theorem k4_100 : Cond.instanceMethod yX6_goTo ∈ WL := WL_4 (List.mem_of_getElem? (i := 100) rfl) rfl
theorem k4_101 : Cond.selects RX6 yX6_goTo yX6_goTo ∈ WL := WL_4 (List.mem_of_getElem? (i := 101) rfl) rfl
theorem k4_102 : Cond.code yX6_goTo cX6_goTo 4 (some .int) ∈ WL := WL_4 (List.mem_of_getElem? (i := 102) rfl) rfl
theorem k4_103 : Cond.methodLink RX6 93 yX6_isRank ∈ WL := WL_4 (List.mem_of_getElem? (i := 103) rfl) rfl
theorem k4_105 : Cond.instanceMethod yX6_isRank ∈ WL := WL_4 (List.mem_of_getElem? (i := 105) rfl) rfl
theorem k4_106 : Cond.code yX6_isRank cX6_isRank 2 (some .boolean) ∈ WL := WL_4 (List.mem_of_getElem? (i := 106) rfl) rfl
theorem k4_107 : Cond.methodLink RX6 71 yX6_allRows ∈ WL := WL_4 (List.mem_of_getElem? (i := 107) rfl) rfl
theorem k4_109 : Cond.instanceMethod yX6_allRows ∈ WL := WL_4 (List.mem_of_getElem? (i := 109) rfl) rfl
theorem k4_110 : Cond.code yX6_allRows cX6_allRows 1 (some .int) ∈ WL := WL_4 (List.mem_of_getElem? (i := 110) rfl) rfl
theorem k4_111 : Cond.methodLink RX6 56 yX6_countAll ∈ WL := WL_4 (List.mem_of_getElem? (i := 111) rfl) rfl
theorem k4_113 : Cond.instanceMethod yX6_countAll ∈ WL := WL_4 (List.mem_of_getElem? (i := 113) rfl) rfl
theorem k4_114 : Cond.code yX6_countAll cX6_countAll 2 (Option.none : Option Jvm.ClassFile.FieldType) ∈ WL := WL_4 (List.mem_of_getElem? (i := 114) rfl) rfl
theorem k4_115 : Cond.methodLink RX6 52 yX6_rows ∈ WL := WL_4 (List.mem_of_getElem? (i := 115) rfl) rfl
theorem k4_117 : Cond.instanceMethod yX6_rows ∈ WL := WL_4 (List.mem_of_getElem? (i := 117) rfl) rfl
theorem k4_118 : Cond.code yX6_rows cX6_rows 4 (some .int) ∈ WL := WL_4 (List.mem_of_getElem? (i := 118) rfl) rfl
theorem k4_119 : Cond.methodLink RX6 48 yX6_factorial ∈ WL := WL_4 (List.mem_of_getElem? (i := 119) rfl) rfl
theorem k4_120 : Cond.static yX6_factorial ∈ WL := WL_4 (List.mem_of_getElem? (i := 120) rfl) rfl
theorem k4_121 : Cond.code yX6_factorial cX6_factorial 3 (some .int) ∈ WL := WL_4 (List.mem_of_getElem? (i := 121) rfl) rfl
theorem k4_122 : Cond.methodLink RX6 97 yX6_rankNow ∈ WL := WL_4 (List.mem_of_getElem? (i := 122) rfl) rfl
theorem k4_124 : Cond.instanceMethod yX6_rankNow ∈ WL := WL_4 (List.mem_of_getElem? (i := 124) rfl) rfl
theorem k4_125 : Cond.code yX6_rankNow cX6_rankNow 1 (some .int) ∈ WL := WL_4 (List.mem_of_getElem? (i := 125) rfl) rfl
theorem k4_126 : Cond.methodLink RX6 65 yX6_copyRow ∈ WL := WL_4 (List.mem_of_getElem? (i := 126) rfl) rfl
theorem k4_128 : Cond.instanceMethod yX6_copyRow ∈ WL := WL_4 (List.mem_of_getElem? (i := 128) rfl) rfl
theorem k4_129 : Cond.code yX6_copyRow cX6_copyRow 2 (Option.none : Option Jvm.ClassFile.FieldType) ∈ WL := WL_4 (List.mem_of_getElem? (i := 129) rfl) rfl
theorem k4_130 : Cond.methodLink RX6 68 yX6_rankOfOther ∈ WL := WL_4 (List.mem_of_getElem? (i := 130) rfl) rfl
theorem k4_132 : Cond.instanceMethod yX6_rankOfOther ∈ WL := WL_4 (List.mem_of_getElem? (i := 132) rfl) rfl
theorem k4_133 : Cond.code yX6_rankOfOther cX6_rankOfOther 1 (some .int) ∈ WL := WL_4 (List.mem_of_getElem? (i := 133) rfl) rfl
theorem k4_134 : Cond.methodLink RX6 62 yX6_lowestRank ∈ WL := WL_4 (List.mem_of_getElem? (i := 134) rfl) rfl
theorem k4_136 : Cond.instanceMethod yX6_lowestRank ∈ WL := WL_4 (List.mem_of_getElem? (i := 136) rfl) rfl
theorem k4_137 : Cond.code yX6_lowestRank cX6_lowestRank 5 (some .int) ∈ WL := WL_4 (List.mem_of_getElem? (i := 137) rfl) rfl
theorem k4_138 : Cond.methodLink RX6 59 yX6_rowsWith ∈ WL := WL_4 (List.mem_of_getElem? (i := 138) rfl) rfl
theorem k4_140 : Cond.instanceMethod yX6_rowsWith ∈ WL := WL_4 (List.mem_of_getElem? (i := 140) rfl) rfl
theorem k4_141 : Cond.code yX6_rowsWith cX6_rowsWith 3 (some .int) ∈ WL := WL_4 (List.mem_of_getElem? (i := 141) rfl) rfl
theorem k4_142 : Cond.methodLink RX6 100 yX6_save ∈ WL := WL_4 (List.mem_of_getElem? (i := 142) rfl) rfl
theorem k4_144 : Cond.instanceMethod yX6_save ∈ WL := WL_4 (List.mem_of_getElem? (i := 144) rfl) rfl
theorem k4_145 : Cond.code yX6_save cX6_save 2 (Option.none : Option Jvm.ClassFile.FieldType) ∈ WL := WL_4 (List.mem_of_getElem? (i := 145) rfl) rfl
theorem k4_146 : Cond.methodLink RX6 103 yX6_layRank ∈ WL := WL_4 (List.mem_of_getElem? (i := 146) rfl) rfl
theorem k4_148 : Cond.instanceMethod yX6_layRank ∈ WL := WL_4 (List.mem_of_getElem? (i := 148) rfl) rfl
theorem k4_149 : Cond.code yX6_layRank cX6_layRank 5 (Option.none : Option Jvm.ClassFile.FieldType) ∈ WL := WL_4 (List.mem_of_getElem? (i := 149) rfl) rfl
theorem k4_150 : Cond.methodLink RX6 107 yX6_goes ∈ WL := WL_4 (List.mem_of_getElem? (i := 150) rfl) rfl
theorem k4_152 : Cond.instanceMethod yX6_goes ∈ WL := WL_4 (List.mem_of_getElem? (i := 152) rfl) rfl
theorem k4_153 : Cond.code yX6_goes cX6_goes 1 (some .int) ∈ WL := WL_4 (List.mem_of_getElem? (i := 153) rfl) rfl
theorem k4_154 : Cond.methodLink RX6 90 yX6_takeOther ∈ WL := WL_4 (List.mem_of_getElem? (i := 154) rfl) rfl
theorem k4_156 : Cond.instanceMethod yX6_takeOther ∈ WL := WL_4 (List.mem_of_getElem? (i := 156) rfl) rfl
theorem k4_157 : Cond.code yX6_takeOther cX6_takeOther 3 (some .int) ∈ WL := WL_4 (List.mem_of_getElem? (i := 157) rfl) rfl
theorem k4_158 : Cond.methodLink RL 100 yX6_jump ∈ WL := WL_4 (List.mem_of_getElem? (i := 158) rfl) rfl
theorem k4_159 : Cond.instanceMethod yX6_jump ∈ WL := WL_4 (List.mem_of_getElem? (i := 159) rfl) rfl
theorem k4_160 : Cond.selects RX6 yX6_jump yX6_jump ∈ WL := WL_4 (List.mem_of_getElem? (i := 160) rfl) rfl
theorem k4_161 : Cond.code yX6_jump cX6_jump 5 (some .int) ∈ WL := WL_4 (List.mem_of_getElem? (i := 161) rfl) rfl
theorem k4_162 : Cond.methodLink RL 104 yX6_next ∈ WL := WL_4 (List.mem_of_getElem? (i := 162) rfl) rfl
theorem k4_163 : Cond.instanceMethod yX6_next ∈ WL := WL_4 (List.mem_of_getElem? (i := 163) rfl) rfl
theorem k4_164 : Cond.selects RX6 yX6_next yX6_next ∈ WL := WL_4 (List.mem_of_getElem? (i := 164) rfl) rfl
theorem k4_165 : Cond.code yX6_next cX6_next 1 (some .int) ∈ WL := WL_4 (List.mem_of_getElem? (i := 165) rfl) rfl
theorem k4_166 : Cond.methodLink RX6 110 yX6_goesBy ∈ WL := WL_4 (List.mem_of_getElem? (i := 166) rfl) rfl
theorem k4_168 : Cond.instanceMethod yX6_goesBy ∈ WL := WL_4 (List.mem_of_getElem? (i := 168) rfl) rfl
theorem k4_169 : Cond.code yX6_goesBy cX6_goesBy 4 (some .int) ∈ WL := WL_4 (List.mem_of_getElem? (i := 169) rfl) rfl
theorem k4_170 : Cond.methodLink RL 108 yX6_previous ∈ WL := WL_4 (List.mem_of_getElem? (i := 170) rfl) rfl
theorem k4_171 : Cond.instanceMethod yX6_previous ∈ WL := WL_4 (List.mem_of_getElem? (i := 171) rfl) rfl
theorem k4_172 : Cond.selects RX6 yX6_previous yX6_previous ∈ WL := WL_4 (List.mem_of_getElem? (i := 172) rfl) rfl
theorem k4_173 : Cond.code yX6_previous cX6_previous 1 (some .int) ∈ WL := WL_4 (List.mem_of_getElem? (i := 173) rfl) rfl
theorem k4_174 : Cond.methodLink RL 112 yX6_nextSmooth ∈ WL := WL_4 (List.mem_of_getElem? (i := 174) rfl) rfl
theorem k4_175 : Cond.instanceMethod yX6_nextSmooth ∈ WL := WL_4 (List.mem_of_getElem? (i := 175) rfl) rfl
theorem k4_176 : Cond.selects RX6 yX6_nextSmooth yX6_nextSmooth ∈ WL := WL_4 (List.mem_of_getElem? (i := 176) rfl) rfl
theorem k4_177 : Cond.code yX6_nextSmooth cX6_nextSmooth 3 (some .int) ∈ WL := WL_4 (List.mem_of_getElem? (i := 177) rfl) rfl
theorem k4_178 : Cond.methodLink RX6 113 yX6_smoothRank ∈ WL := WL_4 (List.mem_of_getElem? (i := 178) rfl) rfl
theorem k4_180 : Cond.instanceMethod yX6_smoothRank ∈ WL := WL_4 (List.mem_of_getElem? (i := 180) rfl) rfl
theorem k4_181 : Cond.code yX6_smoothRank cX6_smoothRank 1 (some .int) ∈ WL := WL_4 (List.mem_of_getElem? (i := 181) rfl) rfl
theorem k4_182 : Cond.methodLink RX6 80 yX6_smoothAhead ∈ WL := WL_4 (List.mem_of_getElem? (i := 182) rfl) rfl
theorem k4_184 : Cond.instanceMethod yX6_smoothAhead ∈ WL := WL_4 (List.mem_of_getElem? (i := 184) rfl) rfl
theorem k4_185 : Cond.code yX6_smoothAhead cX6_smoothAhead 9 (some .int) ∈ WL := WL_4 (List.mem_of_getElem? (i := 185) rfl) rfl
theorem k4_186 : Cond.methodLink RX6 77 yX6_laySmooth ∈ WL := WL_4 (List.mem_of_getElem? (i := 186) rfl) rfl
theorem k4_188 : Cond.instanceMethod yX6_laySmooth ∈ WL := WL_4 (List.mem_of_getElem? (i := 188) rfl) rfl
theorem k4_189 : Cond.code yX6_laySmooth cX6_laySmooth 6 (Option.none : Option Jvm.ClassFile.FieldType) ∈ WL := WL_4 (List.mem_of_getElem? (i := 189) rfl) rfl
theorem k4_190 : Cond.methodLink RX6 116 yX6_isSmooth ∈ WL := WL_4 (List.mem_of_getElem? (i := 190) rfl) rfl
theorem k4_192 : Cond.instanceMethod yX6_isSmooth ∈ WL := WL_4 (List.mem_of_getElem? (i := 192) rfl) rfl
theorem k4_193 : Cond.code yX6_isSmooth cX6_isSmooth 1 (some .boolean) ∈ WL := WL_4 (List.mem_of_getElem? (i := 193) rfl) rfl
theorem k4_194 : Cond.methodLink RX6 83 yX6_smoothWith ∈ WL := WL_4 (List.mem_of_getElem? (i := 194) rfl) rfl
theorem k4_196 : Cond.instanceMethod yX6_smoothWith ∈ WL := WL_4 (List.mem_of_getElem? (i := 196) rfl) rfl
theorem k4_197 : Cond.code yX6_smoothWith cX6_smoothWith 6 (some .int) ∈ WL := WL_4 (List.mem_of_getElem? (i := 197) rfl) rfl
theorem k4_198 : Cond.methodLink RX6 120 yX6_allSmooth ∈ WL := WL_4 (List.mem_of_getElem? (i := 198) rfl) rfl
theorem k4_200 : Cond.instanceMethod yX6_allSmooth ∈ WL := WL_4 (List.mem_of_getElem? (i := 200) rfl) rfl
theorem k4_201 : Cond.code yX6_allSmooth cX6_allSmooth 1 (some .int) ∈ WL := WL_4 (List.mem_of_getElem? (i := 201) rfl) rfl
theorem k4_202 : Cond.methodLink RX6 123 yX6_laySmoothRank ∈ WL := WL_4 (List.mem_of_getElem? (i := 202) rfl) rfl
theorem k4_204 : Cond.instanceMethod yX6_laySmoothRank ∈ WL := WL_4 (List.mem_of_getElem? (i := 204) rfl) rfl
theorem k4_205 : Cond.code yX6_laySmoothRank cX6_laySmoothRank 8 (Option.none : Option Jvm.ClassFile.FieldType) ∈ WL := WL_4 (List.mem_of_getElem? (i := 205) rfl) rfl
theorem k4_206 : Cond.methodLink RX6 86 yX6_smoothBehind ∈ WL := WL_4 (List.mem_of_getElem? (i := 206) rfl) rfl
theorem k4_208 : Cond.instanceMethod yX6_smoothBehind ∈ WL := WL_4 (List.mem_of_getElem? (i := 208) rfl) rfl
theorem k4_209 : Cond.code yX6_smoothBehind cX6_smoothBehind 5 (some .int) ∈ WL := WL_4 (List.mem_of_getElem? (i := 209) rfl) rfl
theorem k4_210 : Cond.methodLink RL 115 yX6_goToSmooth ∈ WL := WL_4 (List.mem_of_getElem? (i := 210) rfl) rfl
theorem k4_211 : Cond.instanceMethod yX6_goToSmooth ∈ WL := WL_4 (List.mem_of_getElem? (i := 211) rfl) rfl
theorem k4_212 : Cond.selects RX6 yX6_goToSmooth yX6_goToSmooth ∈ WL := WL_4 (List.mem_of_getElem? (i := 212) rfl) rfl
theorem k4_213 : Cond.code yX6_goToSmooth cX6_goToSmooth 3 (some .int) ∈ WL := WL_4 (List.mem_of_getElem? (i := 213) rfl) rfl
theorem k4_214 : Cond.methodLink RL 119 yX6_swap ∈ WL := WL_4 (List.mem_of_getElem? (i := 214) rfl) rfl
theorem k4_215 : Cond.instanceMethod yX6_swap ∈ WL := WL_4 (List.mem_of_getElem? (i := 215) rfl) rfl
theorem k4_216 : Cond.selects RX6 yX6_swap yX6_swap ∈ WL := WL_4 (List.mem_of_getElem? (i := 216) rfl) rfl
theorem k4_217 : Cond.code yX6_swap cX6_swap 3 (some .int) ∈ WL := WL_4 (List.mem_of_getElem? (i := 217) rfl) rfl
theorem k4_218 : Cond.methodLink RX6 126 yX6_isPlace ∈ WL := WL_4 (List.mem_of_getElem? (i := 218) rfl) rfl
theorem k4_220 : Cond.instanceMethod yX6_isPlace ∈ WL := WL_4 (List.mem_of_getElem? (i := 220) rfl) rfl
theorem k4_221 : Cond.code yX6_isPlace cX6_isPlace 2 (some .boolean) ∈ WL := WL_4 (List.mem_of_getElem? (i := 221) rfl) rfl
theorem k4_222 : Cond.methodLink RX6 44 yX6_within ∈ WL := WL_4 (List.mem_of_getElem? (i := 222) rfl) rfl
theorem k4_223 : Cond.static yX6_within ∈ WL := WL_4 (List.mem_of_getElem? (i := 223) rfl) rfl
theorem k4_224 : Cond.code yX6_within cX6_within 3 (some .boolean) ∈ WL := WL_4 (List.mem_of_getElem? (i := 224) rfl) rfl
theorem k4_225 : Cond.methodLink RX6 129 yX6_exchange ∈ WL := WL_4 (List.mem_of_getElem? (i := 225) rfl) rfl
theorem k4_227 : Cond.instanceMethod yX6_exchange ∈ WL := WL_4 (List.mem_of_getElem? (i := 227) rfl) rfl
theorem k4_228 : Cond.code yX6_exchange cX6_exchange 4 (Option.none : Option Jvm.ClassFile.FieldType) ∈ WL := WL_4 (List.mem_of_getElem? (i := 228) rfl) rfl
theorem k4_229 : Cond.methodLink RL 122 yX6_turn ∈ WL := WL_4 (List.mem_of_getElem? (i := 229) rfl) rfl
theorem k4_230 : Cond.instanceMethod yX6_turn ∈ WL := WL_4 (List.mem_of_getElem? (i := 230) rfl) rfl
theorem k4_231 : Cond.selects RX6 yX6_turn yX6_turn ∈ WL := WL_4 (List.mem_of_getElem? (i := 231) rfl) rfl
theorem k4_232 : Cond.code yX6_turn cX6_turn 3 (some .int) ∈ WL := WL_4 (List.mem_of_getElem? (i := 232) rfl) rfl
theorem k4_233 : Cond.methodLink RX6 133 yX6_turnAround ∈ WL := WL_4 (List.mem_of_getElem? (i := 233) rfl) rfl
theorem k4_235 : Cond.instanceMethod yX6_turnAround ∈ WL := WL_4 (List.mem_of_getElem? (i := 235) rfl) rfl
theorem k4_236 : Cond.code yX6_turnAround cX6_turnAround 4 (Option.none : Option Jvm.ClassFile.FieldType) ∈ WL := WL_4 (List.mem_of_getElem? (i := 236) rfl) rfl
theorem k4_237 : Cond.methodLink RL 125 yX6_carry ∈ WL := WL_4 (List.mem_of_getElem? (i := 237) rfl) rfl
theorem k4_238 : Cond.instanceMethod yX6_carry ∈ WL := WL_4 (List.mem_of_getElem? (i := 238) rfl) rfl
theorem k4_239 : Cond.selects RX6 yX6_carry yX6_carry ∈ WL := WL_4 (List.mem_of_getElem? (i := 239) rfl) rfl
theorem k5_0 : Cond.code yX6_carry cX6_carry 5 (some .int) ∈ WL := WL_5 (List.mem_of_getElem? (i := 0) rfl) rfl
theorem k5_1 : Cond.methodLink RX6 136 yX6_step ∈ WL := WL_5 (List.mem_of_getElem? (i := 1) rfl) rfl
theorem k5_3 : Cond.instanceMethod yX6_step ∈ WL := WL_5 (List.mem_of_getElem? (i := 3) rfl) rfl
theorem k5_4 : Cond.code yX6_step cX6_step 3 (some .int) ∈ WL := WL_5 (List.mem_of_getElem? (i := 4) rfl) rfl
theorem k5_5 : Cond.methodLink RL 128 yX6_put ∈ WL := WL_5 (List.mem_of_getElem? (i := 5) rfl) rfl
theorem k5_6 : Cond.instanceMethod yX6_put ∈ WL := WL_5 (List.mem_of_getElem? (i := 6) rfl) rfl
theorem k5_7 : Cond.selects RX6 yX6_put yX6_put ∈ WL := WL_5 (List.mem_of_getElem? (i := 7) rfl) rfl
theorem k5_8 : Cond.code yX6_put cX6_put 4 (some .int) ∈ WL := WL_5 (List.mem_of_getElem? (i := 8) rfl) rfl
theorem k5_9 : Cond.methodLink RX6 139 yX6_isSign ∈ WL := WL_5 (List.mem_of_getElem? (i := 9) rfl) rfl
theorem k5_10 : Cond.static yX6_isSign ∈ WL := WL_5 (List.mem_of_getElem? (i := 10) rfl) rfl
theorem k5_11 : Cond.code yX6_isSign cX6_isSign 1 (some .boolean) ∈ WL := WL_5 (List.mem_of_getElem? (i := 11) rfl) rfl
theorem k5_12 : Cond.methodLink RL 131 yX6_take ∈ WL := WL_5 (List.mem_of_getElem? (i := 12) rfl) rfl
theorem k5_13 : Cond.instanceMethod yX6_take ∈ WL := WL_5 (List.mem_of_getElem? (i := 13) rfl) rfl
theorem k5_14 : Cond.selects RX6 yX6_take yX6_take ∈ WL := WL_5 (List.mem_of_getElem? (i := 14) rfl) rfl
theorem k5_15 : Cond.code yX6_take cX6_take 4 (some .int) ∈ WL := WL_5 (List.mem_of_getElem? (i := 15) rfl) rfl
theorem k5_16 : Cond.methodLink RL 134 yX6_append ∈ WL := WL_5 (List.mem_of_getElem? (i := 16) rfl) rfl
theorem k5_17 : Cond.instanceMethod yX6_append ∈ WL := WL_5 (List.mem_of_getElem? (i := 17) rfl) rfl
theorem k5_18 : Cond.selects RX6 yX6_append yX6_append ∈ WL := WL_5 (List.mem_of_getElem? (i := 18) rfl) rfl
theorem k5_19 : Cond.code yX6_append cX6_append 2 (some .int) ∈ WL := WL_5 (List.mem_of_getElem? (i := 19) rfl) rfl
theorem k5_20 : Cond.methodLink RL 138 yX6_clearBuffer ∈ WL := WL_5 (List.mem_of_getElem? (i := 20) rfl) rfl
theorem k5_21 : Cond.instanceMethod yX6_clearBuffer ∈ WL := WL_5 (List.mem_of_getElem? (i := 21) rfl) rfl
theorem k5_22 : Cond.selects RX6 yX6_clearBuffer yX6_clearBuffer ∈ WL := WL_5 (List.mem_of_getElem? (i := 22) rfl) rfl
theorem k5_23 : Cond.code yX6_clearBuffer cX6_clearBuffer 2 (some .int) ∈ WL := WL_5 (List.mem_of_getElem? (i := 23) rfl) rfl
theorem k5_24 : Cond.methodLink RL 142 yX6_firstError ∈ WL := WL_5 (List.mem_of_getElem? (i := 24) rfl) rfl
theorem k5_25 : Cond.instanceMethod yX6_firstError ∈ WL := WL_5 (List.mem_of_getElem? (i := 25) rfl) rfl
theorem k5_26 : Cond.selects RX6 yX6_firstError yX6_firstError ∈ WL := WL_5 (List.mem_of_getElem? (i := 26) rfl) rfl
theorem k5_27 : Cond.code yX6_firstError cX6_firstError 1 (some .int) ∈ WL := WL_5 (List.mem_of_getElem? (i := 27) rfl) rfl
theorem k5_28 : Cond.methodLink RX6 155 yX6_rightUpTo ∈ WL := WL_5 (List.mem_of_getElem? (i := 28) rfl) rfl
theorem k5_30 : Cond.instanceMethod yX6_rightUpTo ∈ WL := WL_5 (List.mem_of_getElem? (i := 30) rfl) rfl
theorem k5_31 : Cond.code yX6_rightUpTo cX6_rightUpTo 2 (some .int) ∈ WL := WL_5 (List.mem_of_getElem? (i := 31) rfl) rfl
theorem k5_32 : Cond.methodLink RX6 152 yX6_takes ∈ WL := WL_5 (List.mem_of_getElem? (i := 32) rfl) rfl
theorem k5_34 : Cond.instanceMethod yX6_takes ∈ WL := WL_5 (List.mem_of_getElem? (i := 34) rfl) rfl
theorem k5_35 : Cond.code yX6_takes cX6_takes 4 (some .boolean) ∈ WL := WL_5 (List.mem_of_getElem? (i := 35) rfl) rfl
theorem k5_36 : Cond.methodLink RL 145 yX6_read ∈ WL := WL_5 (List.mem_of_getElem? (i := 36) rfl) rfl
theorem k5_37 : Cond.instanceMethod yX6_read ∈ WL := WL_5 (List.mem_of_getElem? (i := 37) rfl) rfl
theorem k5_38 : Cond.selects RX6 yX6_read yX6_read ∈ WL := WL_5 (List.mem_of_getElem? (i := 38) rfl) rfl
theorem k5_39 : Cond.code yX6_read cX6_read 2 (some .int) ∈ WL := WL_5 (List.mem_of_getElem? (i := 39) rfl) rfl
theorem k5_40 : Cond.methodLink RL 148 yX6_undo ∈ WL := WL_5 (List.mem_of_getElem? (i := 40) rfl) rfl
theorem k5_41 : Cond.instanceMethod yX6_undo ∈ WL := WL_5 (List.mem_of_getElem? (i := 41) rfl) rfl
theorem k5_42 : Cond.selects RX6 yX6_undo yX6_undo ∈ WL := WL_5 (List.mem_of_getElem? (i := 42) rfl) rfl
theorem k5_43 : Cond.code yX6_undo cX6_undo 2 (some .int) ∈ WL := WL_5 (List.mem_of_getElem? (i := 43) rfl) rfl
theorem k5_44 : Cond.methodLink RL 151 yX6_sign ∈ WL := WL_5 (List.mem_of_getElem? (i := 44) rfl) rfl
theorem k5_45 : Cond.instanceMethod yX6_sign ∈ WL := WL_5 (List.mem_of_getElem? (i := 45) rfl) rfl
theorem k5_46 : Cond.selects RX6 yX6_sign yX6_sign ∈ WL := WL_5 (List.mem_of_getElem? (i := 46) rfl) rfl
theorem k5_47 : Cond.code yX6_sign cX6_sign 2 (some .int) ∈ WL := WL_5 (List.mem_of_getElem? (i := 47) rfl) rfl
theorem k5_48 : Cond.methodLink RL 154 yX6_digit ∈ WL := WL_5 (List.mem_of_getElem? (i := 48) rfl) rfl
theorem k5_49 : Cond.instanceMethod yX6_digit ∈ WL := WL_5 (List.mem_of_getElem? (i := 49) rfl) rfl
theorem k5_50 : Cond.selects RX6 yX6_digit yX6_digit ∈ WL := WL_5 (List.mem_of_getElem? (i := 50) rfl) rfl
theorem k5_51 : Cond.code yX6_digit cX6_digit 2 (some .int) ∈ WL := WL_5 (List.mem_of_getElem? (i := 51) rfl) rfl
theorem k5_52 : Cond.methodLink RX6 158 yX6_digitAt ∈ WL := WL_5 (List.mem_of_getElem? (i := 52) rfl) rfl
theorem k5_54 : Cond.instanceMethod yX6_digitAt ∈ WL := WL_5 (List.mem_of_getElem? (i := 54) rfl) rfl
theorem k5_55 : Cond.code yX6_digitAt cX6_digitAt 6 (some .int) ∈ WL := WL_5 (List.mem_of_getElem? (i := 55) rfl) rfl
theorem k5_56 : Cond.methodLink RL 157 yX6_many ∈ WL := WL_5 (List.mem_of_getElem? (i := 56) rfl) rfl
theorem k5_57 : Cond.instanceMethod yX6_many ∈ WL := WL_5 (List.mem_of_getElem? (i := 57) rfl) rfl
theorem k5_58 : Cond.selects RX6 yX6_many yX6_many ∈ WL := WL_5 (List.mem_of_getElem? (i := 58) rfl) rfl
theorem k5_59 : Cond.code yX6_many cX6_many 2 (some .int) ∈ WL := WL_5 (List.mem_of_getElem? (i := 59) rfl) rfl
theorem k5_60 : Cond.methodLink RX6 161 yX6_manyOf ∈ WL := WL_5 (List.mem_of_getElem? (i := 60) rfl) rfl
theorem k5_62 : Cond.instanceMethod yX6_manyOf ∈ WL := WL_5 (List.mem_of_getElem? (i := 62) rfl) rfl
theorem k5_63 : Cond.code yX6_manyOf cX6_manyOf 2 (some .int) ∈ WL := WL_5 (List.mem_of_getElem? (i := 63) rfl) rfl
theorem k5_64 : Cond.methodLink RL 160 yX6_block ∈ WL := WL_5 (List.mem_of_getElem? (i := 64) rfl) rfl
theorem k5_65 : Cond.instanceMethod yX6_block ∈ WL := WL_5 (List.mem_of_getElem? (i := 65) rfl) rfl
theorem k5_66 : Cond.selects RX6 yX6_block yX6_block ∈ WL := WL_5 (List.mem_of_getElem? (i := 66) rfl) rfl
theorem k5_67 : Cond.code yX6_block cX6_block 3 (some .int) ∈ WL := WL_5 (List.mem_of_getElem? (i := 67) rfl) rfl
theorem k5_68 : Cond.methodLink RX6 164 yX6_blockNow ∈ WL := WL_5 (List.mem_of_getElem? (i := 68) rfl) rfl
theorem k5_70 : Cond.instanceMethod yX6_blockNow ∈ WL := WL_5 (List.mem_of_getElem? (i := 70) rfl) rfl
theorem k5_71 : Cond.code yX6_blockNow cX6_blockNow 4 (some .int) ∈ WL := WL_5 (List.mem_of_getElem? (i := 71) rfl) rfl
theorem k5_72 : Cond.methodLink RL 163 yX6_count ∈ WL := WL_5 (List.mem_of_getElem? (i := 72) rfl) rfl
theorem k5_73 : Cond.instanceMethod yX6_count ∈ WL := WL_5 (List.mem_of_getElem? (i := 73) rfl) rfl
theorem k5_74 : Cond.selects RX6 yX6_count yX6_count ∈ WL := WL_5 (List.mem_of_getElem? (i := 74) rfl) rfl
theorem k5_75 : Cond.code yX6_count cX6_count 2 (some .int) ∈ WL := WL_5 (List.mem_of_getElem? (i := 75) rfl) rfl
theorem k5_76 : Cond.methodLink RX6 181 yX6_counted ∈ WL := WL_5 (List.mem_of_getElem? (i := 76) rfl) rfl
theorem k5_78 : Cond.instanceMethod yX6_counted ∈ WL := WL_5 (List.mem_of_getElem? (i := 78) rfl) rfl
theorem k5_79 : Cond.code yX6_counted cX6_counted 2 (some .int) ∈ WL := WL_5 (List.mem_of_getElem? (i := 79) rfl) rfl
theorem k5_80 : Cond.methodLink RX6 168 yX6_unlike ∈ WL := WL_5 (List.mem_of_getElem? (i := 80) rfl) rfl
theorem k5_82 : Cond.instanceMethod yX6_unlike ∈ WL := WL_5 (List.mem_of_getElem? (i := 82) rfl) rfl
theorem k5_83 : Cond.code yX6_unlike cX6_unlike 3 (some .int) ∈ WL := WL_5 (List.mem_of_getElem? (i := 83) rfl) rfl
theorem k5_84 : Cond.methodLink RX6 171 yX6_inversions ∈ WL := WL_5 (List.mem_of_getElem? (i := 84) rfl) rfl
theorem k5_86 : Cond.instanceMethod yX6_inversions ∈ WL := WL_5 (List.mem_of_getElem? (i := 86) rfl) rfl
theorem k5_87 : Cond.code yX6_inversions cX6_inversions 4 (some .int) ∈ WL := WL_5 (List.mem_of_getElem? (i := 87) rfl) rfl
theorem k5_88 : Cond.methodLink RX6 174 yX6_descents ∈ WL := WL_5 (List.mem_of_getElem? (i := 88) rfl) rfl
theorem k5_90 : Cond.instanceMethod yX6_descents ∈ WL := WL_5 (List.mem_of_getElem? (i := 90) rfl) rfl
theorem k5_91 : Cond.code yX6_descents cX6_descents 5 (some .int) ∈ WL := WL_5 (List.mem_of_getElem? (i := 91) rfl) rfl
theorem k5_92 : Cond.methodLink RX6 178 yX6_turnedRank ∈ WL := WL_5 (List.mem_of_getElem? (i := 92) rfl) rfl
theorem k5_94 : Cond.instanceMethod yX6_turnedRank ∈ WL := WL_5 (List.mem_of_getElem? (i := 94) rfl) rfl
theorem k5_95 : Cond.code yX6_turnedRank cX6_turnedRank 2 (some .int) ∈ WL := WL_5 (List.mem_of_getElem? (i := 95) rfl) rfl
theorem k5_96 : Cond.methodLink RL 166 yX6_ifSwapped ∈ WL := WL_5 (List.mem_of_getElem? (i := 96) rfl) rfl
theorem k5_97 : Cond.instanceMethod yX6_ifSwapped ∈ WL := WL_5 (List.mem_of_getElem? (i := 97) rfl) rfl
theorem k5_98 : Cond.selects RX6 yX6_ifSwapped yX6_ifSwapped ∈ WL := WL_5 (List.mem_of_getElem? (i := 98) rfl) rfl
theorem k5_99 : Cond.code yX6_ifSwapped cX6_ifSwapped 3 (some .int) ∈ WL := WL_5 (List.mem_of_getElem? (i := 99) rfl) rfl
theorem k5_100 : Cond.methodLink RX6 184 yX6_swappedRank ∈ WL := WL_5 (List.mem_of_getElem? (i := 100) rfl) rfl
theorem k5_102 : Cond.instanceMethod yX6_swappedRank ∈ WL := WL_5 (List.mem_of_getElem? (i := 102) rfl) rfl
theorem k5_103 : Cond.code yX6_swappedRank cX6_swappedRank 3 (some .int) ∈ WL := WL_5 (List.mem_of_getElem? (i := 103) rfl) rfl
theorem k5_104 : Cond.methodLink RL 169 yX6_signOf ∈ WL := WL_5 (List.mem_of_getElem? (i := 104) rfl) rfl
theorem k5_105 : Cond.instanceMethod yX6_signOf ∈ WL := WL_5 (List.mem_of_getElem? (i := 105) rfl) rfl
theorem k5_106 : Cond.selects RX6 yX6_signOf yX6_signOf ∈ WL := WL_5 (List.mem_of_getElem? (i := 106) rfl) rfl
theorem k5_107 : Cond.code yX6_signOf cX6_signOf 3 (some .int) ∈ WL := WL_5 (List.mem_of_getElem? (i := 107) rfl) rfl
theorem k5_108 : Cond.methodLink RX6 187 yX6_signAt ∈ WL := WL_5 (List.mem_of_getElem? (i := 108) rfl) rfl
theorem k5_110 : Cond.instanceMethod yX6_signAt ∈ WL := WL_5 (List.mem_of_getElem? (i := 110) rfl) rfl
theorem k5_111 : Cond.code yX6_signAt cX6_signAt 3 (some .int) ∈ WL := WL_5 (List.mem_of_getElem? (i := 111) rfl) rfl
theorem k5_112 : Cond.methodLink RL 173 yX6_having ∈ WL := WL_5 (List.mem_of_getElem? (i := 112) rfl) rfl
theorem k5_113 : Cond.instanceMethod yX6_having ∈ WL := WL_5 (List.mem_of_getElem? (i := 113) rfl) rfl
theorem k5_114 : Cond.selects RX6 yX6_having yX6_having ∈ WL := WL_5 (List.mem_of_getElem? (i := 114) rfl) rfl
theorem k5_115 : Cond.code yX6_having cX6_having 6 (some .int) ∈ WL := WL_5 (List.mem_of_getElem? (i := 115) rfl) rfl
theorem k5_116 : Cond.methodLink RX6 196 yX6_havingIn ∈ WL := WL_5 (List.mem_of_getElem? (i := 116) rfl) rfl
theorem k5_118 : Cond.instanceMethod yX6_havingIn ∈ WL := WL_5 (List.mem_of_getElem? (i := 118) rfl) rfl
theorem k5_119 : Cond.code yX6_havingIn cX6_havingIn 6 (some .int) ∈ WL := WL_5 (List.mem_of_getElem? (i := 119) rfl) rfl
theorem k5_120 : Cond.methodLink RX6 193 yX6_havingBelow ∈ WL := WL_5 (List.mem_of_getElem? (i := 120) rfl) rfl
theorem k5_122 : Cond.instanceMethod yX6_havingBelow ∈ WL := WL_5 (List.mem_of_getElem? (i := 122) rfl) rfl
theorem k5_123 : Cond.code yX6_havingBelow cX6_havingBelow 8 (some .int) ∈ WL := WL_5 (List.mem_of_getElem? (i := 123) rfl) rfl
theorem k5_124 : Cond.methodLink RX6 190 yX6_rowsWithBoth ∈ WL := WL_5 (List.mem_of_getElem? (i := 124) rfl) rfl
theorem k5_126 : Cond.instanceMethod yX6_rowsWithBoth ∈ WL := WL_5 (List.mem_of_getElem? (i := 126) rfl) rfl
theorem k5_127 : Cond.code yX6_rowsWithBoth cX6_rowsWithBoth 4 (some .int) ∈ WL := WL_5 (List.mem_of_getElem? (i := 127) rfl) rfl
theorem k5_128 : Cond.methodLink RL 176 yX6_stepsTo ∈ WL := WL_5 (List.mem_of_getElem? (i := 128) rfl) rfl
theorem k5_129 : Cond.instanceMethod yX6_stepsTo ∈ WL := WL_5 (List.mem_of_getElem? (i := 129) rfl) rfl
theorem k5_130 : Cond.selects RX6 yX6_stepsTo yX6_stepsTo ∈ WL := WL_5 (List.mem_of_getElem? (i := 130) rfl) rfl
theorem k5_131 : Cond.code yX6_stepsTo cX6_stepsTo 2 (some .int) ∈ WL := WL_5 (List.mem_of_getElem? (i := 131) rfl) rfl
theorem k5_132 : Cond.methodLink RX6 200 yX6_stepsNow ∈ WL := WL_5 (List.mem_of_getElem? (i := 132) rfl) rfl
theorem k5_134 : Cond.instanceMethod yX6_stepsNow ∈ WL := WL_5 (List.mem_of_getElem? (i := 134) rfl) rfl
theorem k5_135 : Cond.code yX6_stepsNow cX6_stepsNow 6 (some .int) ∈ WL := WL_5 (List.mem_of_getElem? (i := 135) rfl) rfl
theorem k5_136 : Cond.methodLink RL 179 yX6_bestSwap ∈ WL := WL_5 (List.mem_of_getElem? (i := 136) rfl) rfl
theorem k5_137 : Cond.instanceMethod yX6_bestSwap ∈ WL := WL_5 (List.mem_of_getElem? (i := 137) rfl) rfl
theorem k5_138 : Cond.selects RX6 yX6_bestSwap yX6_bestSwap ∈ WL := WL_5 (List.mem_of_getElem? (i := 138) rfl) rfl
theorem k5_139 : Cond.code yX6_bestSwap cX6_bestSwap 2 (some .int) ∈ WL := WL_5 (List.mem_of_getElem? (i := 139) rfl) rfl
theorem k5_140 : Cond.methodLink RX6 203 yX6_bestNow ∈ WL := WL_5 (List.mem_of_getElem? (i := 140) rfl) rfl
theorem k5_142 : Cond.instanceMethod yX6_bestNow ∈ WL := WL_5 (List.mem_of_getElem? (i := 142) rfl) rfl
theorem k5_143 : Cond.code yX6_bestNow cX6_bestNow 9 (some .int) ∈ WL := WL_5 (List.mem_of_getElem? (i := 143) rfl) rfl
theorem k5_144 : Cond.methodLink RL 184 yX6_share ∈ WL := WL_5 (List.mem_of_getElem? (i := 144) rfl) rfl
theorem k5_145 : Cond.instanceMethod yX6_share ∈ WL := WL_5 (List.mem_of_getElem? (i := 145) rfl) rfl
theorem k5_146 : Cond.selects RX6 yX6_share yX6_share ∈ WL := WL_5 (List.mem_of_getElem? (i := 146) rfl) rfl
theorem k5_147 : Cond.code yX6_share cX6_share 1 (some .double) ∈ WL := WL_5 (List.mem_of_getElem? (i := 147) rfl) rfl
theorem k5_148 : Cond.methodLink RX6 206 yX6_shareNow ∈ WL := WL_5 (List.mem_of_getElem? (i := 148) rfl) rfl
theorem k5_150 : Cond.instanceMethod yX6_shareNow ∈ WL := WL_5 (List.mem_of_getElem? (i := 150) rfl) rfl
theorem k5_151 : Cond.code yX6_shareNow cX6_shareNow 1 (some .double) ∈ WL := WL_5 (List.mem_of_getElem? (i := 151) rfl) rfl
theorem k5_152 : Cond.methodLink RL 189 yX6_digest ∈ WL := WL_5 (List.mem_of_getElem? (i := 152) rfl) rfl
theorem k5_153 : Cond.instanceMethod yX6_digest ∈ WL := WL_5 (List.mem_of_getElem? (i := 153) rfl) rfl
theorem k5_154 : Cond.selects RX6 yX6_digest yX6_digest ∈ WL := WL_5 (List.mem_of_getElem? (i := 154) rfl) rfl
theorem k5_155 : Cond.code yX6_digest cX6_digest 2 (some .long) ∈ WL := WL_5 (List.mem_of_getElem? (i := 155) rfl) rfl
theorem k5_156 : Cond.constantLong RX6 220 (2579 : Int64) ∈ WL := WL_5 (List.mem_of_getElem? (i := 156) rfl) rfl
theorem k5_157 : Cond.methodLink RX6 216 yX6_mix ∈ WL := WL_5 (List.mem_of_getElem? (i := 157) rfl) rfl
theorem k5_159 : Cond.instanceMethod yX6_mix ∈ WL := WL_5 (List.mem_of_getElem? (i := 159) rfl) rfl
theorem k5_160 : Cond.code yX6_mix cX6_mix 3 (Option.none : Option Jvm.ClassFile.FieldType) ∈ WL := WL_5 (List.mem_of_getElem? (i := 160) rfl) rfl
theorem k5_161 : Cond.constantLong RX6 210 (31 : Int64) ∈ WL := WL_5 (List.mem_of_getElem? (i := 161) rfl) rfl
theorem k5_162 : Cond.methodLink RX6 222 yX6_mixPlace ∈ WL := WL_5 (List.mem_of_getElem? (i := 162) rfl) rfl
theorem k5_164 : Cond.instanceMethod yX6_mixPlace ∈ WL := WL_5 (List.mem_of_getElem? (i := 164) rfl) rfl
theorem k5_165 : Cond.code yX6_mixPlace cX6_mixPlace 3 (Option.none : Option Jvm.ClassFile.FieldType) ∈ WL := WL_5 (List.mem_of_getElem? (i := 165) rfl) rfl
theorem k5_166 : Cond.methodLink RX6 225 yJxe99ae_doubleToLongBits_ccdee ∈ WL := WL_5 (List.mem_of_getElem? (i := 166) rfl) rfl
theorem k5_167 : Cond.static yJxe99ae_doubleToLongBits_ccdee ∈ WL := WL_5 (List.mem_of_getElem? (i := 167) rfl) rfl
theorem k5_168 : Cond.code yJxe99ae_doubleToLongBits_ccdee cJxe99ae_doubleToLongBits_ccdee 2 (some .long) ∈ WL := WL_5 (List.mem_of_getElem? (i := 168) rfl) rfl
theorem k5_169 : Cond.methodLink RJxe99ae 122 yJxe99ae_isNaN_b9ae7 ∈ WL := WL_5 (List.mem_of_getElem? (i := 169) rfl) rfl
theorem k5_170 : Cond.static yJxe99ae_isNaN_b9ae7 ∈ WL := WL_5 (List.mem_of_getElem? (i := 170) rfl) rfl
theorem k5_171 : Cond.code yJxe99ae_isNaN_b9ae7 cJxe99ae_isNaN_b9ae7 2 (some .boolean) ∈ WL := WL_5 (List.mem_of_getElem? (i := 171) rfl) rfl
theorem k5_172 : Cond.methodLink RJxe99ae 134 (⟨"java/lang/Double", "doubleToRawLongBits", "(D)J"⟩ : MethodName) ∈ WL := WL_5 (List.mem_of_getElem? (i := 172) rfl) rfl
theorem k5_173 : Cond.static (⟨"java/lang/Double", "doubleToRawLongBits", "(D)J"⟩ : MethodName) ∈ WL := WL_5 (List.mem_of_getElem? (i := 173) rfl) rfl
theorem k5_174 : Cond.native (⟨"java/lang/Double", "doubleToRawLongBits", "(D)J"⟩ : MethodName) ∈ WL := WL_5 (List.mem_of_getElem? (i := 174) rfl) rfl
theorem k5_175 : Cond.constantLong RJxe99ae 137 (9221120237041090560 : Int64) ∈ WL := WL_5 (List.mem_of_getElem? (i := 175) rfl) rfl
theorem k5_176 : Cond.arrayClass .long ∈ WL := WL_5 (List.mem_of_getElem? (i := 176) rfl) rfl
theorem ks_0 : Cond.selects RX1 yX1_set yX1_set ∈ WL := WL_s (q := (yX1_set, 2)) (List.mem_append_left _ (List.mem_of_getElem? (i := 0) rfl))
theorem ks_1 : Cond.selects RX5 yX5_rankOf yX5_rankOf ∈ WL := WL_s (q := (yX5_rankOf, 8)) (List.mem_append_left _ (List.mem_of_getElem? (i := 1) rfl))
theorem ks_2 : Cond.selects RX5 yX5_lowestRank yX5_lowestRank ∈ WL := WL_s (q := (yX5_lowestRank, 8)) (List.mem_append_left _ (List.mem_of_getElem? (i := 2) rfl))
theorem ks_3 : Cond.selects RX0 yX0_add yX0_add ∈ WL := WL_s (q := (yX0_add, 2)) (List.mem_append_left _ (List.mem_of_getElem? (i := 3) rfl))
theorem ks_4 : Cond.selects RX5 yX5_all yX5_all ∈ WL := WL_s (q := (yX5_all, 8)) (List.mem_append_left _ (List.mem_of_getElem? (i := 4) rfl))
theorem ks_5 : Cond.selects RX5 yX5_blockSize yX5_blockSize ∈ WL := WL_s (q := (yX5_blockSize, 8)) (List.mem_append_left _ (List.mem_of_getElem? (i := 5) rfl))
theorem ks_6 : Cond.selects RX5 yX5_goToRank yX5_goToRank ∈ WL := WL_s (q := (yX5_goToRank, 8)) (List.mem_append_left _ (List.mem_of_getElem? (i := 6) rfl))
theorem ks_7 : Cond.selects RX5 yX5_layOut yX5_layOut ∈ WL := WL_s (q := (yX5_layOut, 8)) (List.mem_append_left _ (List.mem_of_getElem? (i := 7) rfl))
theorem ks_8 : Cond.selects RX5 yX5_arrive yX5_arrive ∈ WL := WL_s (q := (yX5_arrive, 8)) (List.mem_append_left _ (List.mem_of_getElem? (i := 8) rfl))
theorem ks_9 : Cond.selects RX5 yX5_save yX5_save ∈ WL := WL_s (q := (yX5_save, 8)) (List.mem_append_left _ (List.mem_of_getElem? (i := 9) rfl))
theorem ks_10 : Cond.selects RX2 yX2_dropOldest yX2_dropOldest ∈ WL := WL_s (q := (yX2_dropOldest, 2)) (List.mem_append_left _ (List.mem_of_getElem? (i := 10) rfl))
theorem ks_11 : Cond.selects RX2 yX2_slot yX2_slot ∈ WL := WL_s (q := (yX2_slot, 2)) (List.mem_append_left _ (List.mem_of_getElem? (i := 11) rfl))
theorem ks_12 : Cond.selects RX2 yX2_setSlot yX2_setSlot ∈ WL := WL_s (q := (yX2_setSlot, 2)) (List.mem_append_left _ (List.mem_of_getElem? (i := 12) rfl))
theorem ks_13 : Cond.selects RX4 yX4_adds yX4_adds ∈ WL := WL_s (q := (yX4_adds, 2)) (List.mem_append_left _ (List.mem_of_getElem? (i := 13) rfl))
theorem ks_14 : Cond.selects RX4 yX4_isLetter yX4_isLetter ∈ WL := WL_s (q := (yX4_isLetter, 2)) (List.mem_append_left _ (List.mem_of_getElem? (i := 14) rfl))
theorem ks_16 : Cond.selects RX5 yX5_unlikeSigns yX5_unlikeSigns ∈ WL := WL_s (q := (yX5_unlikeSigns, 8)) (List.mem_append_right _ (List.mem_append_left _ (List.mem_of_getElem? (i := 0) rfl)))
theorem ks_17 : Cond.selects RX5 yX5_allSmooth yX5_allSmooth ∈ WL := WL_s (q := (yX5_allSmooth, 8)) (List.mem_append_right _ (List.mem_append_left _ (List.mem_of_getElem? (i := 1) rfl)))
theorem ks_18 : Cond.selects RX5 yX5_smoothInBlock yX5_smoothInBlock ∈ WL := WL_s (q := (yX5_smoothInBlock, 8)) (List.mem_append_right _ (List.mem_append_left _ (List.mem_of_getElem? (i := 2) rfl)))
theorem ks_19 : Cond.selects RX5 yX5_prepareSmooth yX5_prepareSmooth ∈ WL := WL_s (q := (yX5_prepareSmooth, 8)) (List.mem_append_right _ (List.mem_append_left _ (List.mem_of_getElem? (i := 3) rfl)))
theorem ks_20 : Cond.selects RX3 yX3_weigh yX3_weigh ∈ WL := WL_s (q := (yX3_weigh, 5)) (List.mem_append_right _ (List.mem_append_left _ (List.mem_of_getElem? (i := 4) rfl)))
theorem ks_21 : Cond.selects RX3 yX3_fillCell yX3_fillCell ∈ WL := WL_s (q := (yX3_fillCell, 5)) (List.mem_append_right _ (List.mem_append_left _ (List.mem_of_getElem? (i := 5) rfl)))
theorem ks_22 : Cond.selects RX3 yX3_allOf yX3_allOf ∈ WL := WL_s (q := (yX3_allOf, 5)) (List.mem_append_right _ (List.mem_append_left _ (List.mem_of_getElem? (i := 6) rfl)))
theorem ks_23 : Cond.selects RX3 yX3_startingOf yX3_startingOf ∈ WL := WL_s (q := (yX3_startingOf, 5)) (List.mem_append_right _ (List.mem_append_left _ (List.mem_of_getElem? (i := 7) rfl)))
theorem ks_24 : Cond.selects RX3 yX3_goOn yX3_goOn ∈ WL := WL_s (q := (yX3_goOn, 5)) (List.mem_append_right _ (List.mem_append_left _ (List.mem_of_getElem? (i := 8) rfl)))
theorem ks_25 : Cond.selects RX3 yX3_cellOf yX3_cellOf ∈ WL := WL_s (q := (yX3_cellOf, 5)) (List.mem_append_right _ (List.mem_append_left _ (List.mem_of_getElem? (i := 9) rfl)))
theorem ks_26 : Cond.selects RX5 yX5_smoothRank yX5_smoothRank ∈ WL := WL_s (q := (yX5_smoothRank, 8)) (List.mem_append_right _ (List.mem_append_left _ (List.mem_of_getElem? (i := 10) rfl)))
theorem ks_27 : Cond.selects RX1 yX1_fallsBehind yX1_fallsBehind ∈ WL := WL_s (q := (yX1_fallsBehind, 2)) (List.mem_append_right _ (List.mem_append_left _ (List.mem_of_getElem? (i := 11) rfl)))
theorem ks_28 : Cond.selects RX5 yX5_rankTurnedAround yX5_rankTurnedAround ∈ WL := WL_s (q := (yX5_rankTurnedAround, 8)) (List.mem_append_right _ (List.mem_append_left _ (List.mem_of_getElem? (i := 12) rfl)))
theorem ks_29 : Cond.selects RX5 yX5_rankBySecondWay yX5_rankBySecondWay ∈ WL := WL_s (q := (yX5_rankBySecondWay, 8)) (List.mem_append_right _ (List.mem_append_left _ (List.mem_of_getElem? (i := 13) rfl)))
theorem ks_30 : Cond.selects RX5 yX5_needPlace yX5_needPlace ∈ WL := WL_s (q := (yX5_needPlace, 8)) (List.mem_append_right _ (List.mem_append_left _ (List.mem_of_getElem? (i := 14) rfl)))
theorem ks_31 : Cond.selects RX5 yX5_rankIfExchanged yX5_rankIfExchanged ∈ WL := WL_s (q := (yX5_rankIfExchanged, 8)) (List.mem_append_right _ (List.mem_append_left _ (List.mem_of_getElem? (i := 15) rfl)))
theorem ks_32 : Cond.selects RX5 yX5_havingBelow yX5_havingBelow ∈ WL := WL_s (q := (yX5_havingBelow, 8)) (List.mem_append_right _ (List.mem_append_right _ (List.mem_append_left _ (List.mem_of_getElem? (i := 0) rfl))))
theorem ks_33 : Cond.selects RX5 yX5_havingBehind yX5_havingBehind ∈ WL := WL_s (q := (yX5_havingBehind, 8)) (List.mem_append_right _ (List.mem_append_right _ (List.mem_append_left _ (List.mem_of_getElem? (i := 1) rfl))))
theorem ks_34 : Cond.selects RX5 yX5_needRank yX5_needRank ∈ WL := WL_s (q := (yX5_needRank, 8)) (List.mem_append_right _ (List.mem_append_right _ (List.mem_append_left _ (List.mem_of_getElem? (i := 2) rfl))))
theorem ks_35 : Cond.selects RX5 yX5_layOutSmooth yX5_layOutSmooth ∈ WL := WL_s (q := (yX5_layOutSmooth, 8)) (List.mem_append_right _ (List.mem_append_right _ (List.mem_append_left _ (List.mem_of_getElem? (i := 3) rfl))))
theorem ks_36 : Cond.selects RX5 yX5_carryOne yX5_carryOne ∈ WL := WL_s (q := (yX5_carryOne, 8)) (List.mem_append_right _ (List.mem_append_right _ (List.mem_append_left _ (List.mem_of_getElem? (i := 4) rfl))))
theorem ks_37 : Cond.selects RX6 yX6_isRank yX6_isRank ∈ WL := WL_s (q := (yX6_isRank, 16)) (List.mem_append_right _ (List.mem_append_right _ (List.mem_append_left _ (List.mem_of_getElem? (i := 5) rfl))))
theorem ks_38 : Cond.selects RX6 yX6_allRows yX6_allRows ∈ WL := WL_s (q := (yX6_allRows, 16)) (List.mem_append_right _ (List.mem_append_right _ (List.mem_append_left _ (List.mem_of_getElem? (i := 6) rfl))))
theorem ks_39 : Cond.selects RX6 yX6_countAll yX6_countAll ∈ WL := WL_s (q := (yX6_countAll, 16)) (List.mem_append_right _ (List.mem_append_right _ (List.mem_append_left _ (List.mem_of_getElem? (i := 7) rfl))))
theorem ks_40 : Cond.selects RX6 yX6_rows yX6_rows ∈ WL := WL_s (q := (yX6_rows, 16)) (List.mem_append_right _ (List.mem_append_right _ (List.mem_append_left _ (List.mem_of_getElem? (i := 8) rfl))))
theorem ks_41 : Cond.selects RX6 yX6_rankNow yX6_rankNow ∈ WL := WL_s (q := (yX6_rankNow, 16)) (List.mem_append_right _ (List.mem_append_right _ (List.mem_append_left _ (List.mem_of_getElem? (i := 9) rfl))))
theorem ks_42 : Cond.selects RX6 yX6_copyRow yX6_copyRow ∈ WL := WL_s (q := (yX6_copyRow, 16)) (List.mem_append_right _ (List.mem_append_right _ (List.mem_append_left _ (List.mem_of_getElem? (i := 10) rfl))))
theorem ks_43 : Cond.selects RX6 yX6_rankOfOther yX6_rankOfOther ∈ WL := WL_s (q := (yX6_rankOfOther, 16)) (List.mem_append_right _ (List.mem_append_right _ (List.mem_append_left _ (List.mem_of_getElem? (i := 11) rfl))))
theorem ks_44 : Cond.selects RX6 yX6_lowestRank yX6_lowestRank ∈ WL := WL_s (q := (yX6_lowestRank, 16)) (List.mem_append_right _ (List.mem_append_right _ (List.mem_append_left _ (List.mem_of_getElem? (i := 12) rfl))))
theorem ks_45 : Cond.selects RX6 yX6_rowsWith yX6_rowsWith ∈ WL := WL_s (q := (yX6_rowsWith, 16)) (List.mem_append_right _ (List.mem_append_right _ (List.mem_append_left _ (List.mem_of_getElem? (i := 13) rfl))))
theorem ks_46 : Cond.selects RX6 yX6_save yX6_save ∈ WL := WL_s (q := (yX6_save, 16)) (List.mem_append_right _ (List.mem_append_right _ (List.mem_append_left _ (List.mem_of_getElem? (i := 14) rfl))))
theorem ks_47 : Cond.selects RX6 yX6_layRank yX6_layRank ∈ WL := WL_s (q := (yX6_layRank, 16)) (List.mem_append_right _ (List.mem_append_right _ (List.mem_append_left _ (List.mem_of_getElem? (i := 15) rfl))))
theorem ks_48 : Cond.selects RX6 yX6_goes yX6_goes ∈ WL := WL_s (q := (yX6_goes, 16)) (List.mem_append_right _ (List.mem_append_right _ (List.mem_append_right _ (List.mem_append_left _ (List.mem_of_getElem? (i := 0) rfl)))))
theorem ks_49 : Cond.selects RX6 yX6_takeOther yX6_takeOther ∈ WL := WL_s (q := (yX6_takeOther, 16)) (List.mem_append_right _ (List.mem_append_right _ (List.mem_append_right _ (List.mem_append_left _ (List.mem_of_getElem? (i := 1) rfl)))))
theorem ks_50 : Cond.selects RX6 yX6_goesBy yX6_goesBy ∈ WL := WL_s (q := (yX6_goesBy, 16)) (List.mem_append_right _ (List.mem_append_right _ (List.mem_append_right _ (List.mem_append_left _ (List.mem_of_getElem? (i := 2) rfl)))))
theorem ks_51 : Cond.selects RX6 yX6_smoothRank yX6_smoothRank ∈ WL := WL_s (q := (yX6_smoothRank, 16)) (List.mem_append_right _ (List.mem_append_right _ (List.mem_append_right _ (List.mem_append_left _ (List.mem_of_getElem? (i := 3) rfl)))))
theorem ks_52 : Cond.selects RX6 yX6_smoothAhead yX6_smoothAhead ∈ WL := WL_s (q := (yX6_smoothAhead, 16)) (List.mem_append_right _ (List.mem_append_right _ (List.mem_append_right _ (List.mem_append_left _ (List.mem_of_getElem? (i := 4) rfl)))))
theorem ks_53 : Cond.selects RX6 yX6_laySmooth yX6_laySmooth ∈ WL := WL_s (q := (yX6_laySmooth, 16)) (List.mem_append_right _ (List.mem_append_right _ (List.mem_append_right _ (List.mem_append_left _ (List.mem_of_getElem? (i := 5) rfl)))))
theorem ks_54 : Cond.selects RX6 yX6_isSmooth yX6_isSmooth ∈ WL := WL_s (q := (yX6_isSmooth, 16)) (List.mem_append_right _ (List.mem_append_right _ (List.mem_append_right _ (List.mem_append_left _ (List.mem_of_getElem? (i := 6) rfl)))))
theorem ks_55 : Cond.selects RX6 yX6_smoothWith yX6_smoothWith ∈ WL := WL_s (q := (yX6_smoothWith, 16)) (List.mem_append_right _ (List.mem_append_right _ (List.mem_append_right _ (List.mem_append_left _ (List.mem_of_getElem? (i := 7) rfl)))))
theorem ks_56 : Cond.selects RX6 yX6_allSmooth yX6_allSmooth ∈ WL := WL_s (q := (yX6_allSmooth, 16)) (List.mem_append_right _ (List.mem_append_right _ (List.mem_append_right _ (List.mem_append_left _ (List.mem_of_getElem? (i := 8) rfl)))))
theorem ks_57 : Cond.selects RX6 yX6_laySmoothRank yX6_laySmoothRank ∈ WL := WL_s (q := (yX6_laySmoothRank, 16)) (List.mem_append_right _ (List.mem_append_right _ (List.mem_append_right _ (List.mem_append_left _ (List.mem_of_getElem? (i := 9) rfl)))))
theorem ks_58 : Cond.selects RX6 yX6_smoothBehind yX6_smoothBehind ∈ WL := WL_s (q := (yX6_smoothBehind, 16)) (List.mem_append_right _ (List.mem_append_right _ (List.mem_append_right _ (List.mem_append_left _ (List.mem_of_getElem? (i := 10) rfl)))))
theorem ks_59 : Cond.selects RX6 yX6_isPlace yX6_isPlace ∈ WL := WL_s (q := (yX6_isPlace, 16)) (List.mem_append_right _ (List.mem_append_right _ (List.mem_append_right _ (List.mem_append_left _ (List.mem_of_getElem? (i := 11) rfl)))))
theorem ks_60 : Cond.selects RX6 yX6_exchange yX6_exchange ∈ WL := WL_s (q := (yX6_exchange, 16)) (List.mem_append_right _ (List.mem_append_right _ (List.mem_append_right _ (List.mem_append_left _ (List.mem_of_getElem? (i := 12) rfl)))))
theorem ks_61 : Cond.selects RX6 yX6_turnAround yX6_turnAround ∈ WL := WL_s (q := (yX6_turnAround, 16)) (List.mem_append_right _ (List.mem_append_right _ (List.mem_append_right _ (List.mem_append_left _ (List.mem_of_getElem? (i := 13) rfl)))))
theorem ks_62 : Cond.selects RX6 yX6_step yX6_step ∈ WL := WL_s (q := (yX6_step, 16)) (List.mem_append_right _ (List.mem_append_right _ (List.mem_append_right _ (List.mem_append_left _ (List.mem_of_getElem? (i := 14) rfl)))))
theorem ks_63 : Cond.selects RX6 yX6_rightUpTo yX6_rightUpTo ∈ WL := WL_s (q := (yX6_rightUpTo, 16)) (List.mem_append_right _ (List.mem_append_right _ (List.mem_append_right _ (List.mem_append_left _ (List.mem_of_getElem? (i := 15) rfl)))))
theorem ks_64 : Cond.selects RX6 yX6_takes yX6_takes ∈ WL := WL_s (q := (yX6_takes, 16)) (List.mem_append_right _ (List.mem_append_right _ (List.mem_append_right _ (List.mem_append_right _ (List.mem_append_left _ (List.mem_of_getElem? (i := 0) rfl))))))
theorem ks_65 : Cond.selects RX6 yX6_digitAt yX6_digitAt ∈ WL := WL_s (q := (yX6_digitAt, 16)) (List.mem_append_right _ (List.mem_append_right _ (List.mem_append_right _ (List.mem_append_right _ (List.mem_append_left _ (List.mem_of_getElem? (i := 1) rfl))))))
theorem ks_66 : Cond.selects RX6 yX6_manyOf yX6_manyOf ∈ WL := WL_s (q := (yX6_manyOf, 16)) (List.mem_append_right _ (List.mem_append_right _ (List.mem_append_right _ (List.mem_append_right _ (List.mem_append_left _ (List.mem_of_getElem? (i := 2) rfl))))))
theorem ks_67 : Cond.selects RX6 yX6_blockNow yX6_blockNow ∈ WL := WL_s (q := (yX6_blockNow, 16)) (List.mem_append_right _ (List.mem_append_right _ (List.mem_append_right _ (List.mem_append_right _ (List.mem_append_left _ (List.mem_of_getElem? (i := 3) rfl))))))
theorem ks_68 : Cond.selects RX6 yX6_counted yX6_counted ∈ WL := WL_s (q := (yX6_counted, 16)) (List.mem_append_right _ (List.mem_append_right _ (List.mem_append_right _ (List.mem_append_right _ (List.mem_append_left _ (List.mem_of_getElem? (i := 4) rfl))))))
theorem ks_69 : Cond.selects RX6 yX6_unlike yX6_unlike ∈ WL := WL_s (q := (yX6_unlike, 16)) (List.mem_append_right _ (List.mem_append_right _ (List.mem_append_right _ (List.mem_append_right _ (List.mem_append_left _ (List.mem_of_getElem? (i := 5) rfl))))))
theorem ks_70 : Cond.selects RX6 yX6_inversions yX6_inversions ∈ WL := WL_s (q := (yX6_inversions, 16)) (List.mem_append_right _ (List.mem_append_right _ (List.mem_append_right _ (List.mem_append_right _ (List.mem_append_left _ (List.mem_of_getElem? (i := 6) rfl))))))
theorem ks_71 : Cond.selects RX6 yX6_descents yX6_descents ∈ WL := WL_s (q := (yX6_descents, 16)) (List.mem_append_right _ (List.mem_append_right _ (List.mem_append_right _ (List.mem_append_right _ (List.mem_append_left _ (List.mem_of_getElem? (i := 7) rfl))))))
theorem ks_72 : Cond.selects RX6 yX6_turnedRank yX6_turnedRank ∈ WL := WL_s (q := (yX6_turnedRank, 16)) (List.mem_append_right _ (List.mem_append_right _ (List.mem_append_right _ (List.mem_append_right _ (List.mem_append_left _ (List.mem_of_getElem? (i := 8) rfl))))))
theorem ks_73 : Cond.selects RX6 yX6_swappedRank yX6_swappedRank ∈ WL := WL_s (q := (yX6_swappedRank, 16)) (List.mem_append_right _ (List.mem_append_right _ (List.mem_append_right _ (List.mem_append_right _ (List.mem_append_left _ (List.mem_of_getElem? (i := 9) rfl))))))
theorem ks_74 : Cond.selects RX6 yX6_signAt yX6_signAt ∈ WL := WL_s (q := (yX6_signAt, 16)) (List.mem_append_right _ (List.mem_append_right _ (List.mem_append_right _ (List.mem_append_right _ (List.mem_append_left _ (List.mem_of_getElem? (i := 10) rfl))))))
theorem ks_75 : Cond.selects RX6 yX6_havingIn yX6_havingIn ∈ WL := WL_s (q := (yX6_havingIn, 16)) (List.mem_append_right _ (List.mem_append_right _ (List.mem_append_right _ (List.mem_append_right _ (List.mem_append_left _ (List.mem_of_getElem? (i := 11) rfl))))))
theorem ks_76 : Cond.selects RX6 yX6_havingBelow yX6_havingBelow ∈ WL := WL_s (q := (yX6_havingBelow, 16)) (List.mem_append_right _ (List.mem_append_right _ (List.mem_append_right _ (List.mem_append_right _ (List.mem_append_left _ (List.mem_of_getElem? (i := 12) rfl))))))
theorem ks_77 : Cond.selects RX6 yX6_rowsWithBoth yX6_rowsWithBoth ∈ WL := WL_s (q := (yX6_rowsWithBoth, 16)) (List.mem_append_right _ (List.mem_append_right _ (List.mem_append_right _ (List.mem_append_right _ (List.mem_append_left _ (List.mem_of_getElem? (i := 13) rfl))))))
theorem ks_78 : Cond.selects RX6 yX6_stepsNow yX6_stepsNow ∈ WL := WL_s (q := (yX6_stepsNow, 16)) (List.mem_append_right _ (List.mem_append_right _ (List.mem_append_right _ (List.mem_append_right _ (List.mem_append_left _ (List.mem_of_getElem? (i := 14) rfl))))))
theorem ks_79 : Cond.selects RX6 yX6_bestNow yX6_bestNow ∈ WL := WL_s (q := (yX6_bestNow, 16)) (List.mem_append_right _ (List.mem_append_right _ (List.mem_append_right _ (List.mem_append_right _ (List.mem_append_left _ (List.mem_of_getElem? (i := 15) rfl))))))
theorem ks_80 : Cond.selects RX6 yX6_shareNow yX6_shareNow ∈ WL := WL_s (q := (yX6_shareNow, 16)) (List.mem_append_right _ (List.mem_append_right _ (List.mem_append_right _ (List.mem_append_right _ (List.mem_append_right _ (List.mem_of_getElem? (i := 0) rfl))))))
theorem ks_81 : Cond.selects RX6 yX6_mix yX6_mix ∈ WL := WL_s (q := (yX6_mix, 16)) (List.mem_append_right _ (List.mem_append_right _ (List.mem_append_right _ (List.mem_append_right _ (List.mem_append_right _ (List.mem_of_getElem? (i := 1) rfl))))))
theorem ks_82 : Cond.selects RX6 yX6_mixPlace yX6_mixPlace ∈ WL := WL_s (q := (yX6_mixPlace, 16)) (List.mem_append_right _ (List.mem_append_right _ (List.mem_append_right _ (List.mem_append_right _ (List.mem_append_right _ (List.mem_of_getElem? (i := 2) rfl))))))
theorem inW_X0 : ∀ w ∈ u_ws RX0 TX0 2, w ∈ WL := List.forall_mem_cons.mpr ⟨k1_45, List.forall_mem_cons.mpr ⟨k1_47, fun _ h => nomatch h⟩⟩
theorem inW_X1 : ∀ w ∈ u_ws RX1 TX1 2, w ∈ WL := List.forall_mem_cons.mpr ⟨k1_31, List.forall_mem_cons.mpr ⟨k1_33, fun _ h => nomatch h⟩⟩
theorem inW_X2 : ∀ w ∈ u_ws RX2 TX2 2, w ∈ WL := List.forall_mem_cons.mpr ⟨k1_93, List.forall_mem_cons.mpr ⟨k1_95, fun _ h => nomatch h⟩⟩
theorem inW_X3 : ∀ w ∈ u_ws RX3 TX3 5, w ∈ WL := List.forall_mem_cons.mpr ⟨k1_61, List.forall_mem_cons.mpr ⟨k1_63, List.forall_mem_cons.mpr ⟨k1_65, List.forall_mem_cons.mpr ⟨k1_67, List.forall_mem_cons.mpr ⟨k1_69, fun _ h => nomatch h⟩⟩⟩⟩⟩
theorem inW_X4 : ∀ w ∈ u_ws RX4 TX4 2, w ∈ WL := List.forall_mem_cons.mpr ⟨k1_80, List.forall_mem_cons.mpr ⟨k1_82, fun _ h => nomatch h⟩⟩
theorem inW_X5 : ∀ w ∈ u_ws RX5 TX5 8, w ∈ WL := List.forall_mem_cons.mpr ⟨k1_114, List.forall_mem_cons.mpr ⟨k1_116, List.forall_mem_cons.mpr ⟨k1_118, List.forall_mem_cons.mpr ⟨k1_120, List.forall_mem_cons.mpr ⟨k1_122, List.forall_mem_cons.mpr ⟨k1_124, List.forall_mem_cons.mpr ⟨k1_126, List.forall_mem_cons.mpr ⟨k1_128, fun _ h => nomatch h⟩⟩⟩⟩⟩⟩⟩⟩
theorem inW_X6 : ∀ w ∈ u_ws RX6 TX6 16, w ∈ WL := List.forall_mem_cons.mpr ⟨k4_62, List.forall_mem_cons.mpr ⟨k4_64, List.forall_mem_cons.mpr ⟨k4_66, List.forall_mem_cons.mpr ⟨k4_68, List.forall_mem_cons.mpr ⟨k4_70, List.forall_mem_cons.mpr ⟨k4_72, List.forall_mem_cons.mpr ⟨k4_74, List.forall_mem_cons.mpr ⟨k4_76, List.forall_mem_cons.mpr ⟨k4_78, List.forall_mem_cons.mpr ⟨k4_80, List.forall_mem_cons.mpr ⟨k4_82, List.forall_mem_cons.mpr ⟨k4_84, List.forall_mem_cons.mpr ⟨k4_86, List.forall_mem_cons.mpr ⟨k4_88, List.forall_mem_cons.mpr ⟨k4_90, List.forall_mem_cons.mpr ⟨k4_92, fun _ h => nomatch h⟩⟩⟩⟩⟩⟩⟩⟩⟩⟩⟩⟩⟩⟩⟩⟩
