theorem am_m1 {w : Cond} (i : Nat) (h : tables_1_1[i]? = some w) : w ∈ lw_tbl := List.mem_append_right _ (List.mem_append_left _ (List.mem_of_getElem? h))
theorem am_m2 {w : Cond} (i : Nat) (h : tables_1_2[i]? = some w) : w ∈ lw_tbl := List.mem_append_right _ (List.mem_append_right _ (List.mem_append_left _ (List.mem_of_getElem? h)))
theorem am_m3 {w : Cond} (i : Nat) (h : tables_1_3[i]? = some w) : w ∈ lw_tbl := List.mem_append_right _ (List.mem_append_right _ (List.mem_append_right _ (List.mem_append_left _ (List.mem_of_getElem? h))))
theorem am_m4 {w : Cond} (i : Nat) (h : tables_1_4[i]? = some w) : w ∈ lw_tbl := List.mem_append_right _ (List.mem_append_right _ (List.mem_append_right _ (List.mem_append_right _ (List.mem_append_left _ (List.mem_of_getElem? h)))))
theorem am_m5 {w : Cond} (i : Nat) (h : tables_1_5[i]? = some w) : w ∈ lw_tbl := List.mem_append_right _ (List.mem_append_right _ (List.mem_append_right _ (List.mem_append_right _ (List.mem_append_right _ (List.mem_append_left _ (List.mem_of_getElem? h))))))
theorem am_m6 {w : Cond} (i : Nat) (h : tables_1_6[i]? = some w) : w ∈ lw_tbl := List.mem_append_right _ (List.mem_append_right _ (List.mem_append_right _ (List.mem_append_right _ (List.mem_append_right _ (List.mem_append_right _ (List.mem_append_left _ (List.mem_of_getElem? h)))))))
theorem am_m7 {w : Cond} (i : Nat) (h : tables_1_7[i]? = some w) : w ∈ lw_tbl := List.mem_append_right _ (List.mem_append_right _ (List.mem_append_right _ (List.mem_append_right _ (List.mem_append_right _ (List.mem_append_right _ (List.mem_append_right _ (List.mem_append_left _ (List.mem_of_getElem? h))))))))
theorem am_m8 {w : Cond} (i : Nat) (h : tables_1_8[i]? = some w) : w ∈ lw_tbl := List.mem_append_right _ (List.mem_append_right _ (List.mem_append_right _ (List.mem_append_right _ (List.mem_append_right _ (List.mem_append_right _ (List.mem_append_right _ (List.mem_append_right _ (List.mem_append_left _ (List.mem_of_getElem? h)))))))))
theorem am_m9 {w : Cond} (i : Nat) (h : tables_1_9[i]? = some w) : w ∈ lw_tbl := List.mem_append_right _ (List.mem_append_right _ (List.mem_append_right _ (List.mem_append_right _ (List.mem_append_right _ (List.mem_append_right _ (List.mem_append_right _ (List.mem_append_right _ (List.mem_append_right _ (List.mem_append_left _ (List.mem_of_getElem? h))))))))))
theorem am_m10 {w : Cond} (i : Nat) (h : tables_1_10[i]? = some w) : w ∈ lw_tbl := List.mem_append_right _ (List.mem_append_right _ (List.mem_append_right _ (List.mem_append_right _ (List.mem_append_right _ (List.mem_append_right _ (List.mem_append_right _ (List.mem_append_right _ (List.mem_append_right _ (List.mem_append_right _ (List.mem_of_getElem? h))))))))))
theorem am_wtl (ws : List Cond) (ps : List Nat) (hp : ws = ps.filterMap (fun i => lw_tbl[i]?)) (h : ws.all goodWord = true) : ∀ w ∈ ws, w ∈ am_WT := fun w hw => am_wt ((goodIn_r ws ps hp h) w hw).1 (List.all_eq_true.mp h w hw)
theorem w_0 : (Jvm.Cond.initialized "SlotMatLaw") ∈ am_WT := am_wt (am_m1 0 rfl) rfl
theorem w_1 : (Jvm.Cond.initialized "SlotMat") ∈ am_WT := am_wt (am_m1 1 rfl) rfl
theorem w_2 : (Jvm.Cond.initialized "SlotMat$CityReader") ∈ am_WT := am_wt (am_m1 2 rfl) rfl
theorem w_3 : (Jvm.Cond.initialized "SlotMat$Tokens") ∈ am_WT := am_wt (am_m1 3 rfl) rfl
theorem w_4 : (Jvm.Cond.initialized "SlotMat$RuleReader") ∈ am_WT := am_wt (am_m1 4 rfl) rfl
theorem w_5 : (Jvm.Cond.initialized "SlotMat$City") ∈ am_WT := am_wt (am_m1 5 rfl) rfl
theorem w_6 : (Jvm.Cond.initialized "SlotMat$Rule") ∈ am_WT := am_wt (am_m1 6 rfl) rfl
theorem w_7 : (Jvm.Cond.initialized "SlotMat$State") ∈ am_WT := am_wt (am_m1 7 rfl) rfl
theorem w_8 : (Jvm.Cond.initialized "java/util/Arrays") ∈ am_WT := am_wt (am_m1 8 rfl) rfl
theorem w_9 : (Jvm.Cond.initialized "java/lang/Throwable") ∈ am_WT := am_wt (am_m1 9 rfl) rfl
theorem w_10 : (Jvm.Cond.initialized "java/lang/Exception") ∈ am_WT := am_wt (am_m1 10 rfl) rfl
theorem w_11 : (Jvm.Cond.initialized "java/lang/RuntimeException") ∈ am_WT := am_wt (am_m1 11 rfl) rfl
theorem w_12 : (Jvm.Cond.initialized "java/lang/IllegalArgumentException") ∈ am_WT := am_wt (am_m1 12 rfl) rfl
theorem w_13 : (Jvm.Cond.initialized "java/lang/AbstractStringBuilder") ∈ am_WT := am_wt (am_m1 13 rfl) rfl
theorem w_14 : (Jvm.Cond.initialized "java/lang/StringBuilder") ∈ am_WT := am_wt (am_m1 14 rfl) rfl
theorem w_15 : (Jvm.Cond.initialized "java/lang/String") ∈ am_WT := am_wt (am_m1 15 rfl) rfl
theorem w_16 : (Jvm.Cond.initialized "java/lang/StringUTF16") ∈ am_WT := am_wt (am_m1 16 rfl) rfl
theorem w_17 : (Jvm.Cond.initialized "jdk/internal/util/ArraysSupport") ∈ am_WT := am_wt (am_m1 17 rfl) rfl
theorem w_18 : (Jvm.Cond.initialized "java/lang/Math") ∈ am_WT := am_wt (am_m1 18 rfl) rfl
theorem w_19 : (Jvm.Cond.initialized "java/lang/System") ∈ am_WT := am_wt (am_m1 19 rfl) rfl
theorem w_20 : (Jvm.Cond.initialized "jdk/internal/util/Preconditions") ∈ am_WT := am_wt (am_m1 20 rfl) rfl
theorem w_21 : (Jvm.Cond.initialized "java/lang/StringLatin1") ∈ am_WT := am_wt (am_m1 21 rfl) rfl
theorem w_22 : (Jvm.Cond.initialized "java/lang/Number") ∈ am_WT := am_wt (am_m1 22 rfl) rfl
theorem w_23 : (Jvm.Cond.initialized "java/lang/Integer") ∈ am_WT := am_wt (am_m1 23 rfl) rfl
theorem w_24 : (Jvm.Cond.initialized "SlotMat$Acts") ∈ am_WT := am_wt (am_m1 24 rfl) rfl
theorem w_25 : (Jvm.Cond.initialized "SlotMat$Notes") ∈ am_WT := am_wt (am_m1 25 rfl) rfl
theorem w_26 : (Jvm.Cond.initialized "SlotMat$OrderSearch") ∈ am_WT := am_wt (am_m1 26 rfl) rfl
theorem w_27 : (Jvm.Cond.initialized "SlotMatModel") ∈ am_WT := am_wt (am_m1 27 rfl) rfl
theorem w_28 : (Jvm.Cond.initialized "java/util/NoSuchElementException") ∈ am_WT := am_wt (am_m1 28 rfl) rfl
theorem w_29 : (Jvm.Cond.classLink "SlotMatLaw" (8 : Nat) "SlotMat") ∈ am_WT := am_wt (am_m1 29 rfl) rfl
theorem w_30 : (Jvm.Cond.instantiable "SlotMat" (19 : Nat)) ∈ am_WT := am_wt (am_m1 30 rfl) rfl
theorem w_31 : (Jvm.Cond.methodLink "SlotMatLaw" (110 : Nat) ({ cls := "SlotMat", name := "<init>", desc := "()V" } : Jvm.MethodName)) ∈ am_WT := am_wt (am_m1 31 rfl) rfl
theorem w_32 : (Jvm.Cond.instanceMethod ({ cls := "SlotMat", name := "<init>", desc := "()V" } : Jvm.MethodName)) ∈ am_WT := am_wt (am_m1 32 rfl) rfl
theorem w_33 : (Jvm.Cond.code ({ cls := "SlotMat", name := "<init>", desc := "()V" } : Jvm.MethodName) prog_1_method_1_code (1 : Nat) (Option.none : Option Jvm.ClassFile.FieldType)) ∈ am_WT := am_wt (am_m1 33 rfl) rfl
theorem w_34 : (Jvm.Cond.methodLink "SlotMat" (3 : Nat) ({ cls := "java/lang/Object", name := "<init>", desc := "()V" } : Jvm.MethodName)) ∈ am_WT := am_wt (am_m1 34 rfl) rfl
theorem w_35 : (Jvm.Cond.instanceMethod ({ cls := "java/lang/Object", name := "<init>", desc := "()V" } : Jvm.MethodName)) ∈ am_WT := am_wt (am_m1 35 rfl) rfl
theorem w_36 : (Jvm.Cond.code ({ cls := "java/lang/Object", name := "<init>", desc := "()V" } : Jvm.MethodName) object_method_1_code (1 : Nat) (Option.none : Option Jvm.ClassFile.FieldType)) ∈ am_WT := am_wt (am_m1 36 rfl) rfl
theorem w_37 : (Jvm.Cond.classLink "SlotMat" (17 : Nat) "SlotMat$CityReader") ∈ am_WT := am_wt (am_m1 37 rfl) rfl
theorem w_38 : (Jvm.Cond.instantiable "SlotMat$CityReader" (2 : Nat)) ∈ am_WT := am_wt (am_m1 38 rfl) rfl
theorem n_39 : (Jvm.Cond.methodLinkNest "SlotMat" (19 : Nat) ({ cls := "SlotMat$CityReader", name := "<init>", desc := "()V" } : Jvm.MethodName) "SlotMat") ∈ am_nest := List.mem_filter.mpr ⟨am_m1 39 rfl, rfl⟩
theorem w_40 : (Jvm.Cond.instanceMethod ({ cls := "SlotMat$CityReader", name := "<init>", desc := "()V" } : Jvm.MethodName)) ∈ am_WT := am_wt (am_m1 40 rfl) rfl
theorem w_41 : (Jvm.Cond.code ({ cls := "SlotMat$CityReader", name := "<init>", desc := "()V" } : Jvm.MethodName) prog_4_method_1_code (1 : Nat) (Option.none : Option Jvm.ClassFile.FieldType)) ∈ am_WT := am_wt (am_m1 41 rfl) rfl
theorem w_42 : (Jvm.Cond.methodLink "SlotMat$CityReader" (3 : Nat) ({ cls := "java/lang/Object", name := "<init>", desc := "()V" } : Jvm.MethodName)) ∈ am_WT := am_wt (am_m1 42 rfl) rfl
theorem w_43 : (Jvm.Cond.classLink "SlotMat$CityReader" (9 : Nat) "SlotMat$Tokens") ∈ am_WT := am_wt (am_m1 43 rfl) rfl
theorem w_44 : (Jvm.Cond.instantiable "SlotMat$Tokens" (7 : Nat)) ∈ am_WT := am_wt (am_m1 44 rfl) rfl
theorem n_45 : (Jvm.Cond.methodLinkNest "SlotMat$CityReader" (11 : Nat) ({ cls := "SlotMat$Tokens", name := "<init>", desc := "()V" } : Jvm.MethodName) "SlotMat") ∈ am_nest := List.mem_filter.mpr ⟨am_m1 45 rfl, rfl⟩
theorem w_46 : (Jvm.Cond.instanceMethod ({ cls := "SlotMat$Tokens", name := "<init>", desc := "()V" } : Jvm.MethodName)) ∈ am_WT := am_wt (am_m1 46 rfl) rfl
theorem w_47 : (Jvm.Cond.code ({ cls := "SlotMat$Tokens", name := "<init>", desc := "()V" } : Jvm.MethodName) prog_10_method_1_code (1 : Nat) (Option.none : Option Jvm.ClassFile.FieldType)) ∈ am_WT := am_wt (am_m1 47 rfl) rfl
theorem w_48 : (Jvm.Cond.methodLink "SlotMat$Tokens" (3 : Nat) ({ cls := "java/lang/Object", name := "<init>", desc := "()V" } : Jvm.MethodName)) ∈ am_WT := am_wt (am_m1 48 rfl) rfl
theorem w_49 : (Jvm.Cond.fieldLink "SlotMat$Tokens" (9 : Nat) "SlotMat$Tokens" "text" "[B") ∈ am_WT := am_wt (am_m1 49 rfl) rfl
theorem w_50 : (Jvm.Cond.fieldLink "SlotMat$Tokens" (15 : Nat) "SlotMat$Tokens" "length" "I") ∈ am_WT := am_wt (am_m1 50 rfl) rfl
theorem w_51 : (Jvm.Cond.fieldLink "SlotMat$Tokens" (19 : Nat) "SlotMat$Tokens" "begin" "I") ∈ am_WT := am_wt (am_m1 51 rfl) rfl
theorem n_52 : (Jvm.Cond.fieldLinkNest "SlotMat$CityReader" (52 : Nat) "SlotMat$Tokens" "begin" "I" "SlotMat") ∈ am_nest := List.mem_filter.mpr ⟨am_m1 52 rfl, rfl⟩
theorem w_53 : (Jvm.Cond.fieldLink "SlotMat$Tokens" (22 : Nat) "SlotMat$Tokens" "end" "I") ∈ am_WT := am_wt (am_m1 53 rfl) rfl
theorem w_54 : (Jvm.Cond.fieldLink "SlotMat$Tokens" (25 : Nat) "SlotMat$Tokens" "kind" "I") ∈ am_WT := am_wt (am_m1 54 rfl) rfl
theorem n_55 : (Jvm.Cond.fieldLinkNest "SlotMat$CityReader" (38 : Nat) "SlotMat$Tokens" "kind" "I" "SlotMat") ∈ am_nest := List.mem_filter.mpr ⟨am_m1 55 rfl, rfl⟩
theorem n_56 : (Jvm.Cond.fieldLinkNest "SlotMat$RuleReader" (69 : Nat) "SlotMat$Tokens" "kind" "I" "SlotMat") ∈ am_nest := List.mem_filter.mpr ⟨am_m1 56 rfl, rfl⟩
theorem w_57 : (Jvm.Cond.fieldLink "SlotMat$Tokens" (28 : Nat) "SlotMat$Tokens" "number" "I") ∈ am_WT := am_wt (am_m1 57 rfl) rfl
theorem n_58 : (Jvm.Cond.fieldLinkNest "SlotMat$RuleReader" (72 : Nat) "SlotMat$Tokens" "number" "I" "SlotMat") ∈ am_nest := List.mem_filter.mpr ⟨am_m1 58 rfl, rfl⟩
theorem n_59 : (Jvm.Cond.fieldLinkNest "SlotMat$CityReader" (125 : Nat) "SlotMat$Tokens" "number" "I" "SlotMat") ∈ am_nest := List.mem_filter.mpr ⟨am_m1 59 rfl, rfl⟩
theorem w_60 : (Jvm.Cond.fieldLink "SlotMat$Tokens" (31 : Nat) "SlotMat$Tokens" "fault" "I") ∈ am_WT := am_wt (am_m1 60 rfl) rfl
theorem n_61 : (Jvm.Cond.fieldLinkNest "SlotMat$CityReader" (49 : Nat) "SlotMat$Tokens" "fault" "I" "SlotMat") ∈ am_nest := List.mem_filter.mpr ⟨am_m1 61 rfl, rfl⟩
theorem w_77 : (Jvm.Cond.arrayClass Jvm.ClassFile.FieldType.byte) ∈ am_WT := am_wt (am_m1 77 rfl) rfl
theorem w_78 : (Jvm.Cond.classLink "SlotMat$CityReader" (18 : Nat) "SlotMat$RuleReader") ∈ am_WT := am_wt (am_m1 78 rfl) rfl
theorem w_79 : (Jvm.Cond.instantiable "SlotMat$RuleReader" (6 : Nat)) ∈ am_WT := am_wt (am_m1 79 rfl) rfl
theorem n_80 : (Jvm.Cond.methodLinkNest "SlotMat$CityReader" (20 : Nat) ({ cls := "SlotMat$RuleReader", name := "<init>", desc := "()V" } : Jvm.MethodName) "SlotMat") ∈ am_nest := List.mem_filter.mpr ⟨am_m1 80 rfl, rfl⟩
theorem w_81 : (Jvm.Cond.instanceMethod ({ cls := "SlotMat$RuleReader", name := "<init>", desc := "()V" } : Jvm.MethodName)) ∈ am_WT := am_wt (am_m1 81 rfl) rfl
theorem w_82 : (Jvm.Cond.code ({ cls := "SlotMat$RuleReader", name := "<init>", desc := "()V" } : Jvm.MethodName) prog_8_method_1_code (1 : Nat) (Option.none : Option Jvm.ClassFile.FieldType)) ∈ am_WT := am_wt (am_m1 82 rfl) rfl
theorem w_83 : (Jvm.Cond.methodLink "SlotMat$RuleReader" (5 : Nat) ({ cls := "java/lang/Object", name := "<init>", desc := "()V" } : Jvm.MethodName)) ∈ am_WT := am_wt (am_m1 83 rfl) rfl
theorem w_84 : (Jvm.Cond.fieldLink "SlotMat$RuleReader" (11 : Nat) "SlotMat$RuleReader" "waiting" "[I") ∈ am_WT := am_wt (am_m1 84 rfl) rfl
theorem w_85 : (Jvm.Cond.fieldLink "SlotMat$RuleReader" (15 : Nat) "SlotMat$RuleReader" "top" "I") ∈ am_WT := am_wt (am_m1 85 rfl) rfl
theorem w_86 : (Jvm.Cond.fieldLink "SlotMat$RuleReader" (19 : Nat) "SlotMat$RuleReader" "within" "I") ∈ am_WT := am_wt (am_m1 86 rfl) rfl
theorem w_87 : (Jvm.Cond.fieldLink "SlotMat$RuleReader" (22 : Nat) "SlotMat$RuleReader" "nots" "I") ∈ am_WT := am_wt (am_m1 87 rfl) rfl
theorem w_88 : (Jvm.Cond.fieldLink "SlotMat$RuleReader" (25 : Nat) "SlotMat$RuleReader" "wantsPart" "Z") ∈ am_WT := am_wt (am_m1 88 rfl) rfl
theorem w_89 : (Jvm.Cond.fieldLink "SlotMat$RuleReader" (29 : Nat) "SlotMat$RuleReader" "mayNot" "Z") ∈ am_WT := am_wt (am_m1 89 rfl) rfl
theorem w_103 : (Jvm.Cond.arrayClass Jvm.ClassFile.FieldType.int) ∈ am_WT := am_wt (am_m1 103 rfl) rfl
theorem w_104 : (Jvm.Cond.fieldLink "SlotMat$CityReader" (12 : Nat) "SlotMat$CityReader" "tokens" "LSlotMat$Tokens;") ∈ am_WT := am_wt (am_m1 104 rfl) rfl
theorem w_105 : (Jvm.Cond.fieldLink "SlotMat$CityReader" (21 : Nat) "SlotMat$CityReader" "rules" "LSlotMat$RuleReader;") ∈ am_WT := am_wt (am_m1 105 rfl) rfl
theorem w_111 : (Jvm.Cond.classLink "SlotMat" (31 : Nat) "SlotMat$City") ∈ am_WT := am_wt (am_m1 111 rfl) rfl
theorem w_112 : (Jvm.Cond.instantiable "SlotMat$City" (15 : Nat)) ∈ am_WT := am_wt (am_m1 112 rfl) rfl
theorem n_113 : (Jvm.Cond.methodLinkNest "SlotMat" (33 : Nat) ({ cls := "SlotMat$City", name := "<init>", desc := "()V" } : Jvm.MethodName) "SlotMat") ∈ am_nest := List.mem_filter.mpr ⟨am_m1 113 rfl, rfl⟩
theorem w_114 : (Jvm.Cond.instanceMethod ({ cls := "SlotMat$City", name := "<init>", desc := "()V" } : Jvm.MethodName)) ∈ am_WT := am_wt (am_m1 114 rfl) rfl
theorem w_115 : (Jvm.Cond.code ({ cls := "SlotMat$City", name := "<init>", desc := "()V" } : Jvm.MethodName) prog_3_method_1_code (1 : Nat) (Option.none : Option Jvm.ClassFile.FieldType)) ∈ am_WT := am_wt (am_m1 115 rfl) rfl
theorem w_116 : (Jvm.Cond.methodLink "SlotMat$City" (3 : Nat) ({ cls := "java/lang/Object", name := "<init>", desc := "()V" } : Jvm.MethodName)) ∈ am_WT := am_wt (am_m1 116 rfl) rfl
theorem w_117 : (Jvm.Cond.classLink "SlotMat$City" (49 : Nat) "SlotMat$Rule") ∈ am_WT := am_wt (am_m1 117 rfl) rfl
theorem w_118 : (Jvm.Cond.instantiable "SlotMat$Rule" (3 : Nat)) ∈ am_WT := am_wt (am_m1 118 rfl) rfl
theorem n_119 : (Jvm.Cond.methodLinkNest "SlotMat$City" (51 : Nat) ({ cls := "SlotMat$Rule", name := "<init>", desc := "()V" } : Jvm.MethodName) "SlotMat") ∈ am_nest := List.mem_filter.mpr ⟨am_m1 119 rfl, rfl⟩
theorem w_120 : (Jvm.Cond.instanceMethod ({ cls := "SlotMat$Rule", name := "<init>", desc := "()V" } : Jvm.MethodName)) ∈ am_WT := am_wt (am_m1 120 rfl) rfl
theorem w_121 : (Jvm.Cond.code ({ cls := "SlotMat$Rule", name := "<init>", desc := "()V" } : Jvm.MethodName) prog_7_method_1_code (1 : Nat) (Option.none : Option Jvm.ClassFile.FieldType)) ∈ am_WT := am_wt (am_m1 121 rfl) rfl
theorem w_122 : (Jvm.Cond.methodLink "SlotMat$Rule" (3 : Nat) ({ cls := "java/lang/Object", name := "<init>", desc := "()V" } : Jvm.MethodName)) ∈ am_WT := am_wt (am_m1 122 rfl) rfl
theorem w_123 : (Jvm.Cond.fieldLink "SlotMat$Rule" (9 : Nat) "SlotMat$Rule" "steps" "[I") ∈ am_WT := am_wt (am_m1 123 rfl) rfl
theorem w_124 : (Jvm.Cond.fieldLink "SlotMat$Rule" (15 : Nat) "SlotMat$Rule" "length" "I") ∈ am_WT := am_wt (am_m1 124 rfl) rfl
theorem w_125 : (Jvm.Cond.fieldLink "SlotMat$Rule" (19 : Nat) "SlotMat$Rule" "stack" "[I") ∈ am_WT := am_wt (am_m1 125 rfl) rfl
theorem w_133 : (Jvm.Cond.fieldLink "SlotMat$City" (9 : Nat) "SlotMat$City" "boxes" "I") ∈ am_WT := am_wt (am_m1 133 rfl) rfl
theorem n_134 : (Jvm.Cond.fieldLinkNest "SlotMat$CityReader" (99 : Nat) "SlotMat$City" "boxes" "I" "SlotMat") ∈ am_nest := List.mem_filter.mpr ⟨am_m1 134 rfl, rfl⟩
theorem n_135 : (Jvm.Cond.fieldLinkNest "SlotMat$OrderSearch" (49 : Nat) "SlotMat$City" "boxes" "I" "SlotMat") ∈ am_nest := List.mem_filter.mpr ⟨am_m1 135 rfl, rfl⟩
theorem n_136 : (Jvm.Cond.fieldLinkNest "SlotMat" (122 : Nat) "SlotMat$City" "boxes" "I" "SlotMat") ∈ am_nest := List.mem_filter.mpr ⟨am_m1 136 rfl, rfl⟩
theorem w_137 : (Jvm.Cond.fieldLink "SlotMat$City" (15 : Nat) "SlotMat$City" "boxPlace" "[I") ∈ am_WT := am_wt (am_m1 137 rfl) rfl
theorem n_138 : (Jvm.Cond.fieldLinkNest "SlotMat" (167 : Nat) "SlotMat$City" "boxPlace" "[I" "SlotMat") ∈ am_nest := List.mem_filter.mpr ⟨am_m1 138 rfl, rfl⟩
theorem w_139 : (Jvm.Cond.fieldLink "SlotMat$City" (19 : Nat) "SlotMat$City" "boxRed" "[I") ∈ am_WT := am_wt (am_m1 139 rfl) rfl
theorem n_140 : (Jvm.Cond.fieldLinkNest "SlotMat$State" (24 : Nat) "SlotMat$City" "boxRed" "[I" "SlotMat") ∈ am_nest := List.mem_filter.mpr ⟨am_m1 140 rfl, rfl⟩
theorem w_141 : (Jvm.Cond.fieldLink "SlotMat$City" (22 : Nat) "SlotMat$City" "people" "I") ∈ am_WT := am_wt (am_m1 141 rfl) rfl
theorem n_142 : (Jvm.Cond.fieldLinkNest "SlotMat$CityReader" (113 : Nat) "SlotMat$City" "people" "I" "SlotMat") ∈ am_nest := List.mem_filter.mpr ⟨am_m1 142 rfl, rfl⟩
theorem n_143 : (Jvm.Cond.fieldLinkNest "SlotMat" (125 : Nat) "SlotMat$City" "people" "I" "SlotMat") ∈ am_nest := List.mem_filter.mpr ⟨am_m1 143 rfl, rfl⟩
theorem w_144 : (Jvm.Cond.fieldLink "SlotMat$City" (25 : Nat) "SlotMat$City" "place" "[I") ∈ am_WT := am_wt (am_m1 144 rfl) rfl
theorem n_145 : (Jvm.Cond.fieldLinkNest "SlotMat" (185 : Nat) "SlotMat$City" "place" "[I" "SlotMat") ∈ am_nest := List.mem_filter.mpr ⟨am_m1 145 rfl, rfl⟩
theorem w_146 : (Jvm.Cond.fieldLink "SlotMat$City" (28 : Nat) "SlotMat$City" "pensive" "[I") ∈ am_WT := am_wt (am_m1 146 rfl) rfl
theorem n_147 : (Jvm.Cond.fieldLinkNest "SlotMat" (188 : Nat) "SlotMat$City" "pensive" "[I" "SlotMat") ∈ am_nest := List.mem_filter.mpr ⟨am_m1 147 rfl, rfl⟩
theorem w_148 : (Jvm.Cond.fieldLink "SlotMat$City" (31 : Nat) "SlotMat$City" "at" "[I") ∈ am_WT := am_wt (am_m1 148 rfl) rfl
theorem n_149 : (Jvm.Cond.fieldLinkNest "SlotMat$State" (35 : Nat) "SlotMat$City" "at" "[I" "SlotMat") ∈ am_nest := List.mem_filter.mpr ⟨am_m1 149 rfl, rfl⟩
theorem w_150 : (Jvm.Cond.fieldLink "SlotMat$City" (34 : Nat) "SlotMat$City" "nearest" "[I") ∈ am_WT := am_wt (am_m1 150 rfl) rfl
theorem n_151 : (Jvm.Cond.fieldLinkNest "SlotMat" (200 : Nat) "SlotMat$City" "nearest" "[I" "SlotMat") ∈ am_nest := List.mem_filter.mpr ⟨am_m1 151 rfl, rfl⟩
theorem w_152 : (Jvm.Cond.fieldLink "SlotMat$City" (37 : Nat) "SlotMat$City" "rounds" "I") ∈ am_WT := am_wt (am_m1 152 rfl) rfl
theorem n_153 : (Jvm.Cond.fieldLinkNest "SlotMat$CityReader" (128 : Nat) "SlotMat$City" "rounds" "I" "SlotMat") ∈ am_nest := List.mem_filter.mpr ⟨am_m1 153 rfl, rfl⟩
theorem w_154 : (Jvm.Cond.fieldLink "SlotMat$City" (40 : Nat) "SlotMat$City" "round" "[I") ∈ am_WT := am_wt (am_m1 154 rfl) rfl
theorem w_155 : (Jvm.Cond.fieldLink "SlotMat$City" (43 : Nat) "SlotMat$City" "wets" "I") ∈ am_WT := am_wt (am_m1 155 rfl) rfl
theorem n_156 : (Jvm.Cond.fieldLinkNest "SlotMat$CityReader" (142 : Nat) "SlotMat$City" "wets" "I" "SlotMat") ∈ am_nest := List.mem_filter.mpr ⟨am_m1 156 rfl, rfl⟩
theorem w_157 : (Jvm.Cond.fieldLink "SlotMat$City" (46 : Nat) "SlotMat$City" "wet" "[I") ∈ am_WT := am_wt (am_m1 157 rfl) rfl
theorem w_158 : (Jvm.Cond.fieldLink "SlotMat$City" (52 : Nat) "SlotMat$City" "thinks" "LSlotMat$Rule;") ∈ am_WT := am_wt (am_m1 158 rfl) rfl
theorem n_159 : (Jvm.Cond.fieldLinkNest "SlotMat$CityReader" (81 : Nat) "SlotMat$City" "thinks" "LSlotMat$Rule;" "SlotMat") ∈ am_nest := List.mem_filter.mpr ⟨am_m1 159 rfl, rfl⟩
theorem w_160 : (Jvm.Cond.fieldLink "SlotMat$City" (56 : Nat) "SlotMat$City" "sounds" "LSlotMat$Rule;") ∈ am_WT := am_wt (am_m1 160 rfl) rfl
theorem n_161 : (Jvm.Cond.fieldLinkNest "SlotMat$CityReader" (90 : Nat) "SlotMat$City" "sounds" "LSlotMat$Rule;" "SlotMat") ∈ am_nest := List.mem_filter.mpr ⟨am_m1 161 rfl, rfl⟩
theorem w_162 : (Jvm.Cond.fieldLink "SlotMat$City" (59 : Nat) "SlotMat$City" "values" "[I") ∈ am_WT := am_wt (am_m1 162 rfl) rfl
theorem w_194 : (Jvm.Cond.classLink "SlotMat" (41 : Nat) "SlotMat$State") ∈ am_WT := am_wt (am_m1 194 rfl) rfl
theorem w_195 : (Jvm.Cond.instantiable "SlotMat$State" (1 : Nat)) ∈ am_WT := am_wt (am_m1 195 rfl) rfl
theorem w_196 : (Jvm.Cond.methodLink "SlotMat" (43 : Nat) ({ cls := "SlotMat$State", name := "<init>", desc := "()V" } : Jvm.MethodName)) ∈ am_WT := am_wt (am_m1 196 rfl) rfl
theorem w_197 : (Jvm.Cond.instanceMethod ({ cls := "SlotMat$State", name := "<init>", desc := "()V" } : Jvm.MethodName)) ∈ am_WT := am_wt (am_m1 197 rfl) rfl
theorem w_198 : (Jvm.Cond.code ({ cls := "SlotMat$State", name := "<init>", desc := "()V" } : Jvm.MethodName) prog_9_method_1_code (1 : Nat) (Option.none : Option Jvm.ClassFile.FieldType)) ∈ am_WT := am_wt (am_m1 198 rfl) rfl
theorem w_199 : (Jvm.Cond.methodLink "SlotMat$State" (3 : Nat) ({ cls := "java/lang/Object", name := "<init>", desc := "()V" } : Jvm.MethodName)) ∈ am_WT := am_wt (am_m1 199 rfl) rfl
theorem w_200 : (Jvm.Cond.methodLink "SlotMat$State" (15 : Nat) ({ cls := "java/util/Arrays", name := "fill", desc := "([IIII)V" } : Jvm.MethodName)) ∈ am_WT := am_wt (am_m1 200 rfl) rfl
theorem w_201 : (Jvm.Cond.static ({ cls := "java/util/Arrays", name := "fill", desc := "([IIII)V" } : Jvm.MethodName)) ∈ am_WT := am_wt (am_m1 201 rfl) rfl
theorem w_202 : (Jvm.Cond.code ({ cls := "java/util/Arrays", name := "fill", desc := "([IIII)V" } : Jvm.MethodName) prog_33_method_104_code (5 : Nat) (Option.none : Option Jvm.ClassFile.FieldType)) ∈ am_WT := am_wt (am_m1 202 rfl) rfl
theorem w_203 : (Jvm.Cond.methodLink "java/util/Arrays" (13 : Nat) ({ cls := "java/util/Arrays", name := "rangeCheck", desc := "(III)V" } : Jvm.MethodName)) ∈ am_WT := am_wt (am_m1 203 rfl) rfl
theorem w_204 : (Jvm.Cond.static ({ cls := "java/util/Arrays", name := "rangeCheck", desc := "(III)V" } : Jvm.MethodName)) ∈ am_WT := am_wt (am_m1 204 rfl) rfl
theorem w_205 : (Jvm.Cond.code ({ cls := "java/util/Arrays", name := "rangeCheck", desc := "(III)V" } : Jvm.MethodName) prog_33_method_30_code (3 : Nat) (Option.none : Option Jvm.ClassFile.FieldType)) ∈ am_WT := am_wt (am_m1 205 rfl) rfl
theorem w_206 : (Jvm.Cond.classLink "java/util/Arrays" (43 : Nat) "java/lang/IllegalArgumentException") ∈ am_WT := am_wt (am_m1 206 rfl) rfl
theorem w_207 : (Jvm.Cond.instantiable "java/lang/IllegalArgumentException" (6 : Nat)) ∈ am_WT := am_wt (am_m1 207 rfl) rfl
theorem e_208 : (Jvm.Cond.castable "java/lang/IllegalArgumentException" "java/lang/IllegalArgumentException") ∈ am_ext := List.mem_filter.mpr ⟨am_m1 208 rfl, rfl⟩
theorem e_209 : (Jvm.Cond.declares ({ cls := "java/lang/RuntimeException", name := "<init>", desc := "()V" } : Jvm.MethodName)) ∈ am_ext := List.mem_filter.mpr ⟨am_m1 209 rfl, rfl⟩
theorem e_210 : (Jvm.Cond.declares ({ cls := "java/lang/RuntimeException", name := "<init>", desc := "(Ljava/lang/String;)V" } : Jvm.MethodName)) ∈ am_ext := List.mem_filter.mpr ⟨am_m1 210 rfl, rfl⟩
theorem e_211 : (Jvm.Cond.declares ({ cls := "java/lang/Exception", name := "<init>", desc := "()V" } : Jvm.MethodName)) ∈ am_ext := List.mem_filter.mpr ⟨am_m1 211 rfl, rfl⟩
theorem e_212 : (Jvm.Cond.declares ({ cls := "java/lang/Exception", name := "<init>", desc := "(Ljava/lang/String;)V" } : Jvm.MethodName)) ∈ am_ext := List.mem_filter.mpr ⟨am_m1 212 rfl, rfl⟩
theorem e_213 : (Jvm.Cond.declares ({ cls := "java/lang/Throwable", name := "<init>", desc := "()V" } : Jvm.MethodName)) ∈ am_ext := List.mem_filter.mpr ⟨am_m1 213 rfl, rfl⟩
theorem e_214 : (Jvm.Cond.declares ({ cls := "java/lang/Throwable", name := "<init>", desc := "(Ljava/lang/String;)V" } : Jvm.MethodName)) ∈ am_ext := List.mem_filter.mpr ⟨am_m1 214 rfl, rfl⟩
theorem w_215 : (Jvm.Cond.selects "java/lang/IllegalArgumentException" ({ cls := "java/lang/Throwable", name := "fillInStackTrace", desc := "(I)Ljava/lang/Throwable;" } : Jvm.MethodName) ({ cls := "java/lang/Throwable", name := "fillInStackTrace", desc := "(I)Ljava/lang/Throwable;" } : Jvm.MethodName)) ∈ am_WT := am_wt (am_m1 215 rfl) rfl
theorem w_216 : (Jvm.Cond.selects "java/lang/IllegalArgumentException" ({ cls := "java/lang/Throwable", name := "fillInStackTrace", desc := "()Ljava/lang/Throwable;" } : Jvm.MethodName) ({ cls := "java/lang/Throwable", name := "fillInStackTrace", desc := "()Ljava/lang/Throwable;" } : Jvm.MethodName)) ∈ am_WT := am_wt (am_m1 216 rfl) rfl
theorem w_227 : (Jvm.Cond.fieldLink "java/lang/Throwable" (198 : Nat) "java/lang/Throwable" "backtrace" "Ljava/lang/Object;") ∈ am_WT := am_wt (am_m1 227 rfl) rfl
theorem w_231 : (Jvm.Cond.methodLink "java/lang/Throwable" (1 : Nat) ({ cls := "java/lang/Object", name := "<init>", desc := "()V" } : Jvm.MethodName)) ∈ am_WT := am_wt (am_m1 231 rfl) rfl
theorem w_239 : (Jvm.Cond.selects "java/util/NoSuchElementException" ({ cls := "java/lang/Throwable", name := "fillInStackTrace", desc := "()Ljava/lang/Throwable;" } : Jvm.MethodName) ({ cls := "java/lang/Throwable", name := "fillInStackTrace", desc := "()Ljava/lang/Throwable;" } : Jvm.MethodName)) ∈ am_WT := am_wt (am_m1 239 rfl) rfl
theorem w_246 : (Jvm.Cond.classLink "java/util/Arrays" (45 : Nat) "java/lang/StringBuilder") ∈ am_WT := am_wt (am_m2 6 rfl) rfl
theorem w_247 : (Jvm.Cond.instantiable "java/lang/StringBuilder" (4 : Nat)) ∈ am_WT := am_wt (am_m2 7 rfl) rfl
theorem w_248 : (Jvm.Cond.methodLink "java/util/Arrays" (47 : Nat) ({ cls := "java/lang/StringBuilder", name := "<init>", desc := "()V" } : Jvm.MethodName)) ∈ am_WT := am_wt (am_m2 8 rfl) rfl
theorem w_249 : (Jvm.Cond.instanceMethod ({ cls := "java/lang/StringBuilder", name := "<init>", desc := "()V" } : Jvm.MethodName)) ∈ am_WT := am_wt (am_m2 9 rfl) rfl
theorem w_250 : (Jvm.Cond.code ({ cls := "java/lang/StringBuilder", name := "<init>", desc := "()V" } : Jvm.MethodName) prog_26_method_1_code (1 : Nat) (Option.none : Option Jvm.ClassFile.FieldType)) ∈ am_WT := am_wt (am_m2 10 rfl) rfl
theorem w_251 : (Jvm.Cond.methodLink "java/lang/StringBuilder" (1 : Nat) ({ cls := "java/lang/AbstractStringBuilder", name := "<init>", desc := "(I)V" } : Jvm.MethodName)) ∈ am_WT := am_wt (am_m2 11 rfl) rfl
theorem w_254 : (Jvm.Cond.methodLink "java/lang/AbstractStringBuilder" (3 : Nat) ({ cls := "java/lang/Object", name := "<init>", desc := "()V" } : Jvm.MethodName)) ∈ am_WT := am_wt (am_m2 14 rfl) rfl
theorem w_255 : (Jvm.Cond.fieldLink "java/lang/AbstractStringBuilder" (18 : Nat) "java/lang/String" "COMPACT_STRINGS" "Z") ∈ am_WT := am_wt (am_m2 15 rfl) rfl
theorem w_257 : (Jvm.Cond.methodLink "java/lang/AbstractStringBuilder" (26 : Nat) ({ cls := "java/lang/StringUTF16", name := "newBytesFor", desc := "(I)[B" } : Jvm.MethodName)) ∈ am_WT := am_wt (am_m2 17 rfl) rfl
theorem w_258 : (Jvm.Cond.static ({ cls := "java/lang/StringUTF16", name := "newBytesFor", desc := "(I)[B" } : Jvm.MethodName)) ∈ am_WT := am_wt (am_m2 18 rfl) rfl
theorem w_259 : (Jvm.Cond.code ({ cls := "java/lang/StringUTF16", name := "newBytesFor", desc := "(I)[B" } : Jvm.MethodName) prog_28_method_2_code (1 : Nat) (Option.some (Jvm.ClassFile.FieldType.array Jvm.ClassFile.FieldType.byte))) ∈ am_WT := am_wt (am_m2 19 rfl) rfl
theorem w_260 : (Jvm.Cond.methodLink "java/lang/StringUTF16" (11 : Nat) ({ cls := "java/lang/StringUTF16", name := "newBytesLength", desc := "(I)I" } : Jvm.MethodName)) ∈ am_WT := am_wt (am_m2 20 rfl) rfl
theorem w_261 : (Jvm.Cond.static ({ cls := "java/lang/StringUTF16", name := "newBytesLength", desc := "(I)I" } : Jvm.MethodName)) ∈ am_WT := am_wt (am_m2 21 rfl) rfl
theorem w_262 : (Jvm.Cond.code ({ cls := "java/lang/StringUTF16", name := "newBytesLength", desc := "(I)I" } : Jvm.MethodName) prog_28_method_3_code (1 : Nat) (Option.some Jvm.ClassFile.FieldType.int)) ∈ am_WT := am_wt (am_m2 22 rfl) rfl
theorem w_263 : (Jvm.Cond.constant "java/lang/StringUTF16" (20 : Nat) (1073741823 : Int32)) ∈ am_WT := am_wt (am_m2 23 rfl) rfl
theorem w_266 : (Jvm.Cond.fieldLink "java/lang/String" (1048 : Nat) "java/lang/AbstractStringBuilder" "maybeLatin1" "Z") ∈ am_WT := am_wt (am_m2 26 rfl) rfl
theorem w_278 : (Jvm.Cond.methodLink "java/util/Arrays" (50 : Nat) ({ cls := "java/lang/StringBuilder", name := "append", desc := "(Ljava/lang/String;)Ljava/lang/StringBuilder;" } : Jvm.MethodName)) ∈ am_WT := am_wt (am_m2 38 rfl) rfl
theorem w_279 : (Jvm.Cond.instanceMethod ({ cls := "java/lang/StringBuilder", name := "append", desc := "(Ljava/lang/String;)Ljava/lang/StringBuilder;" } : Jvm.MethodName)) ∈ am_WT := am_wt (am_m2 39 rfl) rfl
theorem w_280 : (Jvm.Cond.selects "java/lang/StringBuilder" ({ cls := "java/lang/StringBuilder", name := "append", desc := "(Ljava/lang/String;)Ljava/lang/StringBuilder;" } : Jvm.MethodName) ({ cls := "java/lang/StringBuilder", name := "append", desc := "(Ljava/lang/String;)Ljava/lang/StringBuilder;" } : Jvm.MethodName)) ∈ am_WT := am_wt (am_m2 40 rfl) rfl
theorem w_281 : (Jvm.Cond.code ({ cls := "java/lang/StringBuilder", name := "append", desc := "(Ljava/lang/String;)Ljava/lang/StringBuilder;" } : Jvm.MethodName) prog_26_method_7_code (2 : Nat) (Option.some (Jvm.ClassFile.FieldType.object "java/lang/StringBuilder"))) ∈ am_WT := am_wt (am_m2 41 rfl) rfl
theorem w_282 : (Jvm.Cond.methodLink "java/lang/StringBuilder" (29 : Nat) ({ cls := "java/lang/AbstractStringBuilder", name := "append", desc := "(Ljava/lang/String;)Ljava/lang/AbstractStringBuilder;" } : Jvm.MethodName)) ∈ am_WT := am_wt (am_m2 42 rfl) rfl
theorem w_283 : (Jvm.Cond.instanceMethod ({ cls := "java/lang/AbstractStringBuilder", name := "append", desc := "(Ljava/lang/String;)Ljava/lang/AbstractStringBuilder;" } : Jvm.MethodName)) ∈ am_WT := am_wt (am_m2 43 rfl) rfl
theorem w_284 : (Jvm.Cond.code ({ cls := "java/lang/AbstractStringBuilder", name := "append", desc := "(Ljava/lang/String;)Ljava/lang/AbstractStringBuilder;" } : Jvm.MethodName) prog_14_method_22_code (3 : Nat) (Option.some (Jvm.ClassFile.FieldType.object "java/lang/AbstractStringBuilder"))) ∈ am_WT := am_wt (am_m2 44 rfl) rfl
theorem w_300 : (Jvm.Cond.methodLink "jdk/internal/util/ArraysSupport" (194 : Nat) ({ cls := "java/lang/Math", name := "max", desc := "(II)I" } : Jvm.MethodName)) ∈ am_WT := am_wt (am_m2 60 rfl) rfl
theorem w_301 : (Jvm.Cond.static ({ cls := "java/lang/Math", name := "max", desc := "(II)I" } : Jvm.MethodName)) ∈ am_WT := am_wt (am_m2 61 rfl) rfl
theorem w_302 : (Jvm.Cond.code ({ cls := "java/lang/Math", name := "max", desc := "(II)I" } : Jvm.MethodName) prog_22_method_65_code (2 : Nat) (Option.some Jvm.ClassFile.FieldType.int)) ∈ am_WT := am_wt (am_m2 62 rfl) rfl
theorem w_308 : (Jvm.Cond.methodLink "java/lang/AbstractStringBuilder" (108 : Nat) ({ cls := "java/util/Arrays", name := "copyOf", desc := "([BI)[B" } : Jvm.MethodName)) ∈ am_WT := am_wt (am_m2 68 rfl) rfl
theorem w_309 : (Jvm.Cond.static ({ cls := "java/util/Arrays", name := "copyOf", desc := "([BI)[B" } : Jvm.MethodName)) ∈ am_WT := am_wt (am_m2 69 rfl) rfl
theorem w_310 : (Jvm.Cond.code ({ cls := "java/util/Arrays", name := "copyOf", desc := "([BI)[B" } : Jvm.MethodName) prog_33_method_121_code (3 : Nat) (Option.some (Jvm.ClassFile.FieldType.array Jvm.ClassFile.FieldType.byte))) ∈ am_WT := am_wt (am_m2 70 rfl) rfl
theorem w_311 : (Jvm.Cond.methodLink "java/util/Arrays" (310 : Nat) ({ cls := "[B", name := "clone", desc := "()Ljava/lang/Object;" } : Jvm.MethodName)) ∈ am_WT := am_wt (am_m2 71 rfl) rfl
theorem w_313 : (Jvm.Cond.native ({ cls := "java/lang/Object", name := "clone", desc := "()Ljava/lang/Object;" } : Jvm.MethodName)) ∈ am_WT := am_wt (am_m2 73 rfl) rfl
theorem w_314 : (Jvm.Cond.instanceMethod ({ cls := "java/lang/Object", name := "clone", desc := "()Ljava/lang/Object;" } : Jvm.MethodName)) ∈ am_WT := am_wt (am_m2 74 rfl) rfl
theorem w_315 : (Jvm.Cond.selects "[B" ({ cls := "[B", name := "clone", desc := "()Ljava/lang/Object;" } : Jvm.MethodName) ({ cls := "java/lang/Object", name := "clone", desc := "()Ljava/lang/Object;" } : Jvm.MethodName)) ∈ am_WT := am_wt (am_m2 75 rfl) rfl
theorem e_316 : (Jvm.Cond.castable "[B" "java/lang/Cloneable") ∈ am_ext := List.mem_filter.mpr ⟨am_m2 76 rfl, rfl⟩
theorem w_317 : (Jvm.Cond.classLink "java/util/Arrays" (311 : Nat) "[B") ∈ am_WT := am_wt (am_m2 77 rfl) rfl
theorem w_318 : (Jvm.Cond.methodLink "java/util/Arrays" (304 : Nat) ({ cls := "java/lang/Math", name := "min", desc := "(II)I" } : Jvm.MethodName)) ∈ am_WT := am_wt (am_m2 78 rfl) rfl
theorem w_319 : (Jvm.Cond.static ({ cls := "java/lang/Math", name := "min", desc := "(II)I" } : Jvm.MethodName)) ∈ am_WT := am_wt (am_m2 79 rfl) rfl
theorem w_320 : (Jvm.Cond.code ({ cls := "java/lang/Math", name := "min", desc := "(II)I" } : Jvm.MethodName) prog_22_method_69_code (2 : Nat) (Option.some Jvm.ClassFile.FieldType.int)) ∈ am_WT := am_wt (am_m2 80 rfl) rfl
theorem w_321 : (Jvm.Cond.methodLink "java/util/Arrays" (150 : Nat) ({ cls := "java/lang/System", name := "arraycopy", desc := "(Ljava/lang/Object;ILjava/lang/Object;II)V" } : Jvm.MethodName)) ∈ am_WT := am_wt (am_m2 81 rfl) rfl
theorem w_322 : (Jvm.Cond.static ({ cls := "java/lang/System", name := "arraycopy", desc := "(Ljava/lang/Object;ILjava/lang/Object;II)V" } : Jvm.MethodName)) ∈ am_WT := am_wt (am_m2 82 rfl) rfl
theorem w_323 : (Jvm.Cond.native ({ cls := "java/lang/System", name := "arraycopy", desc := "(Ljava/lang/Object;ILjava/lang/Object;II)V" } : Jvm.MethodName)) ∈ am_WT := am_wt (am_m2 83 rfl) rfl
theorem w_327 : (Jvm.Cond.selects "java/lang/StringBuilder" ({ cls := "java/lang/AbstractStringBuilder", name := "isLatin1", desc := "()Z" } : Jvm.MethodName) ({ cls := "java/lang/AbstractStringBuilder", name := "isLatin1", desc := "()Z" } : Jvm.MethodName)) ∈ am_WT := am_wt (am_m2 87 rfl) rfl
theorem w_329 : (Jvm.Cond.methodLink "java/lang/AbstractStringBuilder" (226 : Nat) ({ cls := "java/lang/StringUTF16", name := "putCharsAt", desc := "([BICCCC)I" } : Jvm.MethodName)) ∈ am_WT := am_wt (am_m2 89 rfl) rfl
theorem w_330 : (Jvm.Cond.static ({ cls := "java/lang/StringUTF16", name := "putCharsAt", desc := "([BICCCC)I" } : Jvm.MethodName)) ∈ am_WT := am_wt (am_m2 90 rfl) rfl
theorem w_331 : (Jvm.Cond.code ({ cls := "java/lang/StringUTF16", name := "putCharsAt", desc := "([BICCCC)I" } : Jvm.MethodName) prog_28_method_81_code (7 : Nat) (Option.some Jvm.ClassFile.FieldType.int)) ∈ am_WT := am_wt (am_m2 91 rfl) rfl
theorem w_332 : (Jvm.Cond.methodLink "java/lang/StringUTF16" (96 : Nat) ({ cls := "java/lang/StringUTF16", name := "checkBoundsBeginEnd", desc := "(II[B)V" } : Jvm.MethodName)) ∈ am_WT := am_wt (am_m2 92 rfl) rfl
theorem w_333 : (Jvm.Cond.static ({ cls := "java/lang/StringUTF16", name := "checkBoundsBeginEnd", desc := "(II[B)V" } : Jvm.MethodName)) ∈ am_WT := am_wt (am_m2 93 rfl) rfl
theorem w_334 : (Jvm.Cond.code ({ cls := "java/lang/StringUTF16", name := "checkBoundsBeginEnd", desc := "(II[B)V" } : Jvm.MethodName) prog_28_method_93_code (3 : Nat) (Option.none : Option Jvm.ClassFile.FieldType)) ∈ am_WT := am_wt (am_m2 94 rfl) rfl
theorem w_335 : (Jvm.Cond.methodLink "java/lang/StringUTF16" (48 : Nat) ({ cls := "java/lang/StringUTF16", name := "length", desc := "([B)I" } : Jvm.MethodName)) ∈ am_WT := am_wt (am_m2 95 rfl) rfl
theorem w_336 : (Jvm.Cond.static ({ cls := "java/lang/StringUTF16", name := "length", desc := "([B)I" } : Jvm.MethodName)) ∈ am_WT := am_wt (am_m2 96 rfl) rfl
theorem w_337 : (Jvm.Cond.code ({ cls := "java/lang/StringUTF16", name := "length", desc := "([B)I" } : Jvm.MethodName) prog_28_method_6_code (1 : Nat) (Option.some Jvm.ClassFile.FieldType.int)) ∈ am_WT := am_wt (am_m2 97 rfl) rfl
theorem w_338 : (Jvm.Cond.methodLink "java/lang/StringUTF16" (241 : Nat) ({ cls := "java/lang/String", name := "checkBoundsBeginEnd", desc := "(III)V" } : Jvm.MethodName)) ∈ am_WT := am_wt (am_m2 98 rfl) rfl
theorem w_339 : (Jvm.Cond.static ({ cls := "java/lang/String", name := "checkBoundsBeginEnd", desc := "(III)V" } : Jvm.MethodName)) ∈ am_WT := am_wt (am_m2 99 rfl) rfl
theorem w_340 : (Jvm.Cond.code ({ cls := "java/lang/String", name := "checkBoundsBeginEnd", desc := "(III)V" } : Jvm.MethodName) prog_25_method_158_code (3 : Nat) (Option.none : Option Jvm.ClassFile.FieldType)) ∈ am_WT := am_wt (am_m2 100 rfl) rfl
theorem w_341 : (Jvm.Cond.fieldLink "java/lang/String" (1053 : Nat) "jdk/internal/util/Preconditions" "SIOOBE_FORMATTER" "Ljava/util/function/BiFunction;") ∈ am_WT := am_wt (am_m2 101 rfl) rfl
theorem w_343 : (Jvm.Cond.methodLink "java/lang/String" (1062 : Nat) ({ cls := "jdk/internal/util/Preconditions", name := "checkFromToIndex", desc := "(IIILjava/util/function/BiFunction;)I" } : Jvm.MethodName)) ∈ am_WT := am_wt (am_m2 103 rfl) rfl
theorem w_344 : (Jvm.Cond.static ({ cls := "jdk/internal/util/Preconditions", name := "checkFromToIndex", desc := "(IIILjava/util/function/BiFunction;)I" } : Jvm.MethodName)) ∈ am_WT := am_wt (am_m2 104 rfl) rfl
theorem w_345 : (Jvm.Cond.code ({ cls := "jdk/internal/util/Preconditions", name := "checkFromToIndex", desc := "(IIILjava/util/function/BiFunction;)I" } : Jvm.MethodName) prog_36_method_12_code (4 : Nat) (Option.some Jvm.ClassFile.FieldType.int)) ∈ am_WT := am_wt (am_m2 105 rfl) rfl
theorem w_346 : (Jvm.Cond.methodLink "java/lang/StringUTF16" (111 : Nat) ({ cls := "java/lang/StringUTF16", name := "putChar", desc := "([BII)V" } : Jvm.MethodName)) ∈ am_WT := am_wt (am_m2 106 rfl) rfl
theorem w_347 : (Jvm.Cond.static ({ cls := "java/lang/StringUTF16", name := "putChar", desc := "([BII)V" } : Jvm.MethodName)) ∈ am_WT := am_wt (am_m2 107 rfl) rfl
theorem w_348 : (Jvm.Cond.code ({ cls := "java/lang/StringUTF16", name := "putChar", desc := "([BII)V" } : Jvm.MethodName) prog_28_method_4_code (3 : Nat) (Option.none : Option Jvm.ClassFile.FieldType)) ∈ am_WT := am_wt (am_m2 108 rfl) rfl
theorem w_349 : (Jvm.Cond.fieldLink "java/lang/StringUTF16" (44 : Nat) "java/lang/StringUTF16" "$assertionsDisabled" "Z") ∈ am_WT := am_wt (am_m2 109 rfl) rfl
theorem w_351 : (Jvm.Cond.fieldLink "java/lang/StringUTF16" (59 : Nat) "java/lang/StringUTF16" "HI_BYTE_SHIFT" "I") ∈ am_WT := am_wt (am_m2 111 rfl) rfl
theorem w_353 : (Jvm.Cond.fieldLink "java/lang/StringUTF16" (63 : Nat) "java/lang/StringUTF16" "LO_BYTE_SHIFT" "I") ∈ am_WT := am_wt (am_m2 113 rfl) rfl
theorem w_355 : (Jvm.Cond.methodLink "java/lang/AbstractStringBuilder" (32 : Nat) ({ cls := "java/lang/String", name := "length", desc := "()I" } : Jvm.MethodName)) ∈ am_WT := am_wt (am_m2 115 rfl) rfl
theorem w_356 : (Jvm.Cond.instanceMethod ({ cls := "java/lang/String", name := "length", desc := "()I" } : Jvm.MethodName)) ∈ am_WT := am_wt (am_m2 116 rfl) rfl
theorem w_357 : (Jvm.Cond.selects "java/lang/String" ({ cls := "java/lang/String", name := "length", desc := "()I" } : Jvm.MethodName) ({ cls := "java/lang/String", name := "length", desc := "()I" } : Jvm.MethodName)) ∈ am_WT := am_wt (am_m2 117 rfl) rfl
theorem w_358 : (Jvm.Cond.code ({ cls := "java/lang/String", name := "length", desc := "()I" } : Jvm.MethodName) prog_25_method_54_code (1 : Nat) (Option.some Jvm.ClassFile.FieldType.int)) ∈ am_WT := am_wt (am_m2 118 rfl) rfl
theorem w_359 : (Jvm.Cond.methodLink "java/lang/String" (335 : Nat) ({ cls := "java/lang/String", name := "coder", desc := "()B" } : Jvm.MethodName)) ∈ am_WT := am_wt (am_m2 119 rfl) rfl
theorem w_360 : (Jvm.Cond.instanceMethod ({ cls := "java/lang/String", name := "coder", desc := "()B" } : Jvm.MethodName)) ∈ am_WT := am_wt (am_m2 120 rfl) rfl
theorem w_361 : (Jvm.Cond.selects "java/lang/String" ({ cls := "java/lang/String", name := "coder", desc := "()B" } : Jvm.MethodName) ({ cls := "java/lang/String", name := "coder", desc := "()B" } : Jvm.MethodName)) ∈ am_WT := am_wt (am_m2 121 rfl) rfl
theorem w_362 : (Jvm.Cond.code ({ cls := "java/lang/String", name := "coder", desc := "()B" } : Jvm.MethodName) prog_25_method_152_code (1 : Nat) (Option.some Jvm.ClassFile.FieldType.byte)) ∈ am_WT := am_wt (am_m2 122 rfl) rfl
theorem w_363 : (Jvm.Cond.fieldLink "java/lang/String" (38 : Nat) "java/lang/String" "COMPACT_STRINGS" "Z") ∈ am_WT := am_wt (am_m2 123 rfl) rfl
theorem w_364 : (Jvm.Cond.methodLink "java/lang/AbstractStringBuilder" (208 : Nat) ({ cls := "java/lang/AbstractStringBuilder", name := "putStringAt", desc := "(ILjava/lang/String;)V" } : Jvm.MethodName)) ∈ am_WT := am_wt (am_m2 124 rfl) rfl
theorem w_366 : (Jvm.Cond.instanceMethod ({ cls := "java/lang/AbstractStringBuilder", name := "putStringAt", desc := "(ILjava/lang/String;)V" } : Jvm.MethodName)) ∈ am_WT := am_wt (am_m2 126 rfl) rfl
theorem w_367 : (Jvm.Cond.code ({ cls := "java/lang/AbstractStringBuilder", name := "putStringAt", desc := "(ILjava/lang/String;)V" } : Jvm.MethodName) prog_14_method_73_code (3 : Nat) (Option.none : Option Jvm.ClassFile.FieldType)) ∈ am_WT := am_wt (am_m2 127 rfl) rfl
theorem w_368 : (Jvm.Cond.methodLink "java/lang/AbstractStringBuilder" (397 : Nat) ({ cls := "java/lang/AbstractStringBuilder", name := "inflateIfNeededFor", desc := "(Ljava/lang/String;)V" } : Jvm.MethodName)) ∈ am_WT := am_wt (am_m2 128 rfl) rfl
theorem w_370 : (Jvm.Cond.instanceMethod ({ cls := "java/lang/AbstractStringBuilder", name := "inflateIfNeededFor", desc := "(Ljava/lang/String;)V" } : Jvm.MethodName)) ∈ am_WT := am_wt (am_m2 130 rfl) rfl
theorem w_371 : (Jvm.Cond.code ({ cls := "java/lang/AbstractStringBuilder", name := "inflateIfNeededFor", desc := "(Ljava/lang/String;)V" } : Jvm.MethodName) prog_14_method_71_code (2 : Nat) (Option.none : Option Jvm.ClassFile.FieldType)) ∈ am_WT := am_wt (am_m2 131 rfl) rfl
theorem w_372 : (Jvm.Cond.methodLink "java/lang/AbstractStringBuilder" (40 : Nat) ({ cls := "java/lang/String", name := "coder", desc := "()B" } : Jvm.MethodName)) ∈ am_WT := am_wt (am_m2 132 rfl) rfl
theorem w_377 : (Jvm.Cond.methodLink "java/lang/AbstractStringBuilder" (125 : Nat) ({ cls := "java/lang/StringLatin1", name := "inflate", desc := "([BI[BII)V" } : Jvm.MethodName)) ∈ am_WT := am_wt (am_m2 137 rfl) rfl
theorem w_378 : (Jvm.Cond.static ({ cls := "java/lang/StringLatin1", name := "inflate", desc := "([BI[BII)V" } : Jvm.MethodName)) ∈ am_WT := am_wt (am_m2 138 rfl) rfl
theorem w_379 : (Jvm.Cond.code ({ cls := "java/lang/StringLatin1", name := "inflate", desc := "([BI[BII)V" } : Jvm.MethodName) prog_27_method_50_code (5 : Nat) (Option.none : Option Jvm.ClassFile.FieldType)) ∈ am_WT := am_wt (am_m2 139 rfl) rfl
theorem w_380 : (Jvm.Cond.methodLink "java/lang/StringLatin1" (240 : Nat) ({ cls := "java/lang/StringUTF16", name := "inflate", desc := "([BI[BII)V" } : Jvm.MethodName)) ∈ am_WT := am_wt (am_m2 140 rfl) rfl
theorem w_381 : (Jvm.Cond.static ({ cls := "java/lang/StringUTF16", name := "inflate", desc := "([BI[BII)V" } : Jvm.MethodName)) ∈ am_WT := am_wt (am_m2 141 rfl) rfl
theorem w_382 : (Jvm.Cond.code ({ cls := "java/lang/StringUTF16", name := "inflate", desc := "([BI[BII)V" } : Jvm.MethodName) prog_28_method_86_code (6 : Nat) (Option.none : Option Jvm.ClassFile.FieldType)) ∈ am_WT := am_wt (am_m2 142 rfl) rfl
theorem w_383 : (Jvm.Cond.methodLink "java/lang/StringUTF16" (173 : Nat) ({ cls := "java/lang/StringUTF16", name := "checkBoundsOffCount", desc := "(II[B)V" } : Jvm.MethodName)) ∈ am_WT := am_wt (am_m2 143 rfl) rfl
theorem w_384 : (Jvm.Cond.static ({ cls := "java/lang/StringUTF16", name := "checkBoundsOffCount", desc := "(II[B)V" } : Jvm.MethodName)) ∈ am_WT := am_wt (am_m2 144 rfl) rfl
theorem w_385 : (Jvm.Cond.code ({ cls := "java/lang/StringUTF16", name := "checkBoundsOffCount", desc := "(II[B)V" } : Jvm.MethodName) prog_28_method_94_code (3 : Nat) (Option.none : Option Jvm.ClassFile.FieldType)) ∈ am_WT := am_wt (am_m2 145 rfl) rfl
theorem w_386 : (Jvm.Cond.methodLink "java/lang/StringUTF16" (419 : Nat) ({ cls := "java/lang/String", name := "checkBoundsOffCount", desc := "(III)I" } : Jvm.MethodName)) ∈ am_WT := am_wt (am_m2 146 rfl) rfl
theorem w_387 : (Jvm.Cond.static ({ cls := "java/lang/String", name := "checkBoundsOffCount", desc := "(III)I" } : Jvm.MethodName)) ∈ am_WT := am_wt (am_m2 147 rfl) rfl
theorem w_388 : (Jvm.Cond.code ({ cls := "java/lang/String", name := "checkBoundsOffCount", desc := "(III)I" } : Jvm.MethodName) prog_25_method_157_code (3 : Nat) (Option.some Jvm.ClassFile.FieldType.int)) ∈ am_WT := am_wt (am_m2 148 rfl) rfl
theorem w_389 : (Jvm.Cond.methodLink "java/lang/String" (1065 : Nat) ({ cls := "jdk/internal/util/Preconditions", name := "checkFromIndexSize", desc := "(IIILjava/util/function/BiFunction;)I" } : Jvm.MethodName)) ∈ am_WT := am_wt (am_m2 149 rfl) rfl
theorem w_390 : (Jvm.Cond.static ({ cls := "jdk/internal/util/Preconditions", name := "checkFromIndexSize", desc := "(IIILjava/util/function/BiFunction;)I" } : Jvm.MethodName)) ∈ am_WT := am_wt (am_m2 150 rfl) rfl
theorem w_391 : (Jvm.Cond.code ({ cls := "jdk/internal/util/Preconditions", name := "checkFromIndexSize", desc := "(IIILjava/util/function/BiFunction;)I" } : Jvm.MethodName) prog_36_method_13_code (4 : Nat) (Option.some Jvm.ClassFile.FieldType.int)) ∈ am_WT := am_wt (am_m2 151 rfl) rfl
theorem w_392 : (Jvm.Cond.methodLink "java/lang/AbstractStringBuilder" (399 : Nat) ({ cls := "java/lang/String", name := "getBytes", desc := "([BIB)V" } : Jvm.MethodName)) ∈ am_WT := am_wt (am_m2 152 rfl) rfl
theorem w_393 : (Jvm.Cond.instanceMethod ({ cls := "java/lang/String", name := "getBytes", desc := "([BIB)V" } : Jvm.MethodName)) ∈ am_WT := am_wt (am_m2 153 rfl) rfl
theorem w_394 : (Jvm.Cond.selects "java/lang/String" ({ cls := "java/lang/String", name := "getBytes", desc := "([BIB)V" } : Jvm.MethodName) ({ cls := "java/lang/String", name := "getBytes", desc := "([BIB)V" } : Jvm.MethodName)) ∈ am_WT := am_wt (am_m2 154 rfl) rfl
theorem w_395 : (Jvm.Cond.code ({ cls := "java/lang/String", name := "getBytes", desc := "([BIB)V" } : Jvm.MethodName) prog_25_method_147_code (4 : Nat) (Option.none : Option Jvm.ClassFile.FieldType)) ∈ am_WT := am_wt (am_m2 155 rfl) rfl
theorem w_396 : (Jvm.Cond.methodLink "java/lang/String" (212 : Nat) ({ cls := "java/lang/System", name := "arraycopy", desc := "(Ljava/lang/Object;ILjava/lang/Object;II)V" } : Jvm.MethodName)) ∈ am_WT := am_wt (am_m2 156 rfl) rfl
theorem w_397 : (Jvm.Cond.methodLink "java/lang/String" (106 : Nat) ({ cls := "java/lang/StringLatin1", name := "inflate", desc := "([BI[BII)V" } : Jvm.MethodName)) ∈ am_WT := am_wt (am_m2 157 rfl) rfl
theorem w_398 : (Jvm.Cond.methodLink "java/util/Arrays" (54 : Nat) ({ cls := "java/lang/StringBuilder", name := "append", desc := "(I)Ljava/lang/StringBuilder;" } : Jvm.MethodName)) ∈ am_WT := am_wt (am_m2 158 rfl) rfl
theorem w_399 : (Jvm.Cond.instanceMethod ({ cls := "java/lang/StringBuilder", name := "append", desc := "(I)Ljava/lang/StringBuilder;" } : Jvm.MethodName)) ∈ am_WT := am_wt (am_m2 159 rfl) rfl
theorem w_400 : (Jvm.Cond.selects "java/lang/StringBuilder" ({ cls := "java/lang/StringBuilder", name := "append", desc := "(I)Ljava/lang/StringBuilder;" } : Jvm.MethodName) ({ cls := "java/lang/StringBuilder", name := "append", desc := "(I)Ljava/lang/StringBuilder;" } : Jvm.MethodName)) ∈ am_WT := am_wt (am_m2 160 rfl) rfl
theorem w_401 : (Jvm.Cond.code ({ cls := "java/lang/StringBuilder", name := "append", desc := "(I)Ljava/lang/StringBuilder;" } : Jvm.MethodName) prog_26_method_15_code (2 : Nat) (Option.some (Jvm.ClassFile.FieldType.object "java/lang/StringBuilder"))) ∈ am_WT := am_wt (am_m2 161 rfl) rfl
theorem w_402 : (Jvm.Cond.methodLink "java/lang/StringBuilder" (53 : Nat) ({ cls := "java/lang/AbstractStringBuilder", name := "append", desc := "(I)Ljava/lang/AbstractStringBuilder;" } : Jvm.MethodName)) ∈ am_WT := am_wt (am_m2 162 rfl) rfl
theorem w_405 : (Jvm.Cond.methodLink "java/lang/AbstractStringBuilder" (245 : Nat) ({ cls := "java/lang/Integer", name := "stringSize", desc := "(I)I" } : Jvm.MethodName)) ∈ am_WT := am_wt (am_m2 165 rfl) rfl
theorem w_406 : (Jvm.Cond.static ({ cls := "java/lang/Integer", name := "stringSize", desc := "(I)I" } : Jvm.MethodName)) ∈ am_WT := am_wt (am_m2 166 rfl) rfl
theorem w_407 : (Jvm.Cond.code ({ cls := "java/lang/Integer", name := "stringSize", desc := "(I)I" } : Jvm.MethodName) prog_21_method_13_code (4 : Nat) (Option.some Jvm.ClassFile.FieldType.int)) ∈ am_WT := am_wt (am_m2 167 rfl) rfl
theorem w_408 : (Jvm.Cond.methodLink "java/lang/AbstractStringBuilder" (248 : Nat) ({ cls := "java/lang/Integer", name := "getChars", desc := "(II[B)I" } : Jvm.MethodName)) ∈ am_WT := am_wt (am_m2 168 rfl) rfl
theorem w_409 : (Jvm.Cond.static ({ cls := "java/lang/Integer", name := "getChars", desc := "(II[B)I" } : Jvm.MethodName)) ∈ am_WT := am_wt (am_m2 169 rfl) rfl
theorem w_410 : (Jvm.Cond.code ({ cls := "java/lang/Integer", name := "getChars", desc := "(II[B)I" } : Jvm.MethodName) prog_21_method_12_code (7 : Nat) (Option.some Jvm.ClassFile.FieldType.int)) ∈ am_WT := am_wt (am_m2 170 rfl) rfl
theorem w_411 : (Jvm.Cond.fieldLink "java/lang/Integer" (83 : Nat) "java/lang/Integer" "DigitOnes" "[B") ∈ am_WT := am_wt (am_m2 171 rfl) rfl
theorem w_413 : (Jvm.Cond.fieldLink "java/lang/Integer" (87 : Nat) "java/lang/Integer" "DigitTens" "[B") ∈ am_WT := am_wt (am_m2 173 rfl) rfl
theorem w_415 : (Jvm.Cond.methodLink "java/lang/AbstractStringBuilder" (251 : Nat) ({ cls := "java/lang/StringUTF16", name := "getChars", desc := "(III[B)I" } : Jvm.MethodName)) ∈ am_WT := am_wt (am_m2 175 rfl) rfl
theorem w_416 : (Jvm.Cond.static ({ cls := "java/lang/StringUTF16", name := "getChars", desc := "(III[B)I" } : Jvm.MethodName)) ∈ am_WT := am_wt (am_m2 176 rfl) rfl
theorem w_417 : (Jvm.Cond.code ({ cls := "java/lang/StringUTF16", name := "getChars", desc := "(III[B)I" } : Jvm.MethodName) prog_28_method_77_code (5 : Nat) (Option.some Jvm.ClassFile.FieldType.int)) ∈ am_WT := am_wt (am_m2 177 rfl) rfl
theorem w_418 : (Jvm.Cond.methodLink "java/lang/StringUTF16" (393 : Nat) ({ cls := "java/lang/StringUTF16", name := "getChars", desc := "(II[B)I" } : Jvm.MethodName)) ∈ am_WT := am_wt (am_m2 178 rfl) rfl
theorem w_419 : (Jvm.Cond.static ({ cls := "java/lang/StringUTF16", name := "getChars", desc := "(II[B)I" } : Jvm.MethodName)) ∈ am_WT := am_wt (am_m2 179 rfl) rfl
theorem w_420 : (Jvm.Cond.code ({ cls := "java/lang/StringUTF16", name := "getChars", desc := "(II[B)I" } : Jvm.MethodName) prog_28_method_89_code (7 : Nat) (Option.some Jvm.ClassFile.FieldType.int)) ∈ am_WT := am_wt (am_m2 180 rfl) rfl
theorem w_421 : (Jvm.Cond.fieldLink "java/lang/StringUTF16" (403 : Nat) "java/lang/Integer" "DigitOnes" "[B") ∈ am_WT := am_wt (am_m2 181 rfl) rfl
theorem w_422 : (Jvm.Cond.fieldLink "java/lang/StringUTF16" (407 : Nat) "java/lang/Integer" "DigitTens" "[B") ∈ am_WT := am_wt (am_m2 182 rfl) rfl
theorem w_425 : (Jvm.Cond.methodLink "java/util/Arrays" (61 : Nat) ({ cls := "java/lang/StringBuilder", name := "toString", desc := "()Ljava/lang/String;" } : Jvm.MethodName)) ∈ am_WT := am_wt (am_m2 185 rfl) rfl
theorem w_426 : (Jvm.Cond.instanceMethod ({ cls := "java/lang/StringBuilder", name := "toString", desc := "()Ljava/lang/String;" } : Jvm.MethodName)) ∈ am_WT := am_wt (am_m2 186 rfl) rfl
theorem w_427 : (Jvm.Cond.selects "java/lang/StringBuilder" ({ cls := "java/lang/StringBuilder", name := "toString", desc := "()Ljava/lang/String;" } : Jvm.MethodName) ({ cls := "java/lang/StringBuilder", name := "toString", desc := "()Ljava/lang/String;" } : Jvm.MethodName)) ∈ am_WT := am_wt (am_m2 187 rfl) rfl
theorem w_428 : (Jvm.Cond.code ({ cls := "java/lang/StringBuilder", name := "toString", desc := "()Ljava/lang/String;" } : Jvm.MethodName) prog_26_method_42_code (1 : Nat) (Option.some (Jvm.ClassFile.FieldType.object "java/lang/String"))) ∈ am_WT := am_wt (am_m2 188 rfl) rfl
theorem w_429 : (Jvm.Cond.classLink "java/lang/StringBuilder" (18 : Nat) "java/lang/String") ∈ am_WT := am_wt (am_m2 189 rfl) rfl
theorem w_430 : (Jvm.Cond.instantiable "java/lang/String" (4 : Nat)) ∈ am_WT := am_wt (am_m2 190 rfl) rfl
theorem w_431 : (Jvm.Cond.methodLink "java/lang/StringBuilder" (137 : Nat) ({ cls := "java/lang/String", name := "<init>", desc := "(Ljava/lang/StringBuilder;)V" } : Jvm.MethodName)) ∈ am_WT := am_wt (am_m2 191 rfl) rfl
theorem w_432 : (Jvm.Cond.instanceMethod ({ cls := "java/lang/String", name := "<init>", desc := "(Ljava/lang/StringBuilder;)V" } : Jvm.MethodName)) ∈ am_WT := am_wt (am_m2 192 rfl) rfl
theorem w_433 : (Jvm.Cond.code ({ cls := "java/lang/String", name := "<init>", desc := "(Ljava/lang/StringBuilder;)V" } : Jvm.MethodName) prog_25_method_53_code (2 : Nat) (Option.none : Option Jvm.ClassFile.FieldType)) ∈ am_WT := am_wt (am_m2 193 rfl) rfl
theorem w_434 : (Jvm.Cond.methodLink "java/lang/String" (489 : Nat) ({ cls := "java/lang/String", name := "<init>", desc := "(Ljava/lang/AbstractStringBuilder;Ljava/lang/Void;)V" } : Jvm.MethodName)) ∈ am_WT := am_wt (am_m2 194 rfl) rfl
theorem w_435 : (Jvm.Cond.instanceMethod ({ cls := "java/lang/String", name := "<init>", desc := "(Ljava/lang/AbstractStringBuilder;Ljava/lang/Void;)V" } : Jvm.MethodName)) ∈ am_WT := am_wt (am_m2 195 rfl) rfl
theorem w_436 : (Jvm.Cond.code ({ cls := "java/lang/String", name := "<init>", desc := "(Ljava/lang/AbstractStringBuilder;Ljava/lang/Void;)V" } : Jvm.MethodName) prog_25_method_150_code (5 : Nat) (Option.none : Option Jvm.ClassFile.FieldType)) ∈ am_WT := am_wt (am_m2 196 rfl) rfl
theorem w_437 : (Jvm.Cond.methodLink "java/lang/String" (1 : Nat) ({ cls := "java/lang/Object", name := "<init>", desc := "()V" } : Jvm.MethodName)) ∈ am_WT := am_wt (am_m2 197 rfl) rfl
theorem w_438 : (Jvm.Cond.methodLink "java/lang/String" (552 : Nat) ({ cls := "java/lang/AbstractStringBuilder", name := "getValue", desc := "()[B" } : Jvm.MethodName)) ∈ am_WT := am_wt (am_m2 198 rfl) rfl
theorem w_441 : (Jvm.Cond.selects "java/lang/StringBuilder" ({ cls := "java/lang/AbstractStringBuilder", name := "getValue", desc := "()[B" } : Jvm.MethodName) ({ cls := "java/lang/AbstractStringBuilder", name := "getValue", desc := "()[B" } : Jvm.MethodName)) ∈ am_WT := am_wt (am_m2 201 rfl) rfl
theorem w_443 : (Jvm.Cond.methodLink "java/lang/String" (549 : Nat) ({ cls := "java/lang/AbstractStringBuilder", name := "length", desc := "()I" } : Jvm.MethodName)) ∈ am_WT := am_wt (am_m2 203 rfl) rfl
theorem w_446 : (Jvm.Cond.selects "java/lang/StringBuilder" ({ cls := "java/lang/AbstractStringBuilder", name := "length", desc := "()I" } : Jvm.MethodName) ({ cls := "java/lang/StringBuilder", name := "length", desc := "()I" } : Jvm.MethodName)) ∈ am_WT := am_wt (am_m2 206 rfl) rfl
theorem w_447 : (Jvm.Cond.instanceMethod ({ cls := "java/lang/StringBuilder", name := "length", desc := "()I" } : Jvm.MethodName)) ∈ am_WT := am_wt (am_m2 207 rfl) rfl
theorem w_448 : (Jvm.Cond.code ({ cls := "java/lang/StringBuilder", name := "length", desc := "()I" } : Jvm.MethodName) prog_26_method_93_code (1 : Nat) (Option.some Jvm.ClassFile.FieldType.int)) ∈ am_WT := am_wt (am_m2 208 rfl) rfl
theorem w_449 : (Jvm.Cond.methodLink "java/lang/StringBuilder" (343 : Nat) ({ cls := "java/lang/AbstractStringBuilder", name := "length", desc := "()I" } : Jvm.MethodName)) ∈ am_WT := am_wt (am_m2 209 rfl) rfl
theorem w_451 : (Jvm.Cond.methodLink "java/lang/String" (1047 : Nat) ({ cls := "java/lang/AbstractStringBuilder", name := "isLatin1", desc := "()Z" } : Jvm.MethodName)) ∈ am_WT := am_wt (am_m2 211 rfl) rfl
theorem w_452 : (Jvm.Cond.methodLink "java/lang/String" (54 : Nat) ({ cls := "java/util/Arrays", name := "copyOfRange", desc := "([BII)[B" } : Jvm.MethodName)) ∈ am_WT := am_wt (am_m2 212 rfl) rfl
theorem w_453 : (Jvm.Cond.static ({ cls := "java/util/Arrays", name := "copyOfRange", desc := "([BII)[B" } : Jvm.MethodName)) ∈ am_WT := am_wt (am_m2 213 rfl) rfl
theorem w_454 : (Jvm.Cond.code ({ cls := "java/util/Arrays", name := "copyOfRange", desc := "([BII)[B" } : Jvm.MethodName) prog_33_method_132_code (3 : Nat) (Option.some (Jvm.ClassFile.FieldType.array Jvm.ClassFile.FieldType.byte))) ∈ am_WT := am_wt (am_m2 214 rfl) rfl
theorem w_455 : (Jvm.Cond.methodLink "java/util/Arrays" (339 : Nat) ({ cls := "java/util/Arrays", name := "copyOfRangeByte", desc := "([BII)[B" } : Jvm.MethodName)) ∈ am_WT := am_wt (am_m2 215 rfl) rfl
theorem w_456 : (Jvm.Cond.static ({ cls := "java/util/Arrays", name := "copyOfRangeByte", desc := "([BII)[B" } : Jvm.MethodName)) ∈ am_WT := am_wt (am_m2 216 rfl) rfl
theorem w_457 : (Jvm.Cond.code ({ cls := "java/util/Arrays", name := "copyOfRangeByte", desc := "([BII)[B" } : Jvm.MethodName) prog_33_method_133_code (5 : Nat) (Option.some (Jvm.ClassFile.FieldType.array Jvm.ClassFile.FieldType.byte))) ∈ am_WT := am_wt (am_m2 217 rfl) rfl
theorem w_458 : (Jvm.Cond.methodLink "java/util/Arrays" (343 : Nat) ({ cls := "java/util/Arrays", name := "checkLength", desc := "(II)V" } : Jvm.MethodName)) ∈ am_WT := am_wt (am_m2 218 rfl) rfl
theorem w_459 : (Jvm.Cond.static ({ cls := "java/util/Arrays", name := "checkLength", desc := "(II)V" } : Jvm.MethodName)) ∈ am_WT := am_wt (am_m2 219 rfl) rfl
theorem w_460 : (Jvm.Cond.code ({ cls := "java/util/Arrays", name := "checkLength", desc := "(II)V" } : Jvm.MethodName) prog_33_method_131_code (2 : Nat) (Option.none : Option Jvm.ClassFile.FieldType)) ∈ am_WT := am_wt (am_m2 220 rfl) rfl
theorem w_462 : (Jvm.Cond.methodLink "java/util/Arrays" (65 : Nat) ({ cls := "java/lang/IllegalArgumentException", name := "<init>", desc := "(Ljava/lang/String;)V" } : Jvm.MethodName)) ∈ am_WT := am_wt (am_m2 222 rfl) rfl
theorem w_463 : (Jvm.Cond.instanceMethod ({ cls := "java/lang/IllegalArgumentException", name := "<init>", desc := "(Ljava/lang/String;)V" } : Jvm.MethodName)) ∈ am_WT := am_wt (am_m2 223 rfl) rfl
theorem w_464 : (Jvm.Cond.code ({ cls := "java/lang/IllegalArgumentException", name := "<init>", desc := "(Ljava/lang/String;)V" } : Jvm.MethodName) prog_20_method_2_code (2 : Nat) (Option.none : Option Jvm.ClassFile.FieldType)) ∈ am_WT := am_wt (am_m2 224 rfl) rfl
theorem w_465 : (Jvm.Cond.methodLink "java/lang/IllegalArgumentException" (7 : Nat) ({ cls := "java/lang/RuntimeException", name := "<init>", desc := "(Ljava/lang/String;)V" } : Jvm.MethodName)) ∈ am_WT := am_wt (am_m2 225 rfl) rfl
theorem w_466 : (Jvm.Cond.instanceMethod ({ cls := "java/lang/RuntimeException", name := "<init>", desc := "(Ljava/lang/String;)V" } : Jvm.MethodName)) ∈ am_WT := am_wt (am_m2 226 rfl) rfl
theorem w_467 : (Jvm.Cond.code ({ cls := "java/lang/RuntimeException", name := "<init>", desc := "(Ljava/lang/String;)V" } : Jvm.MethodName) prog_24_method_2_code (2 : Nat) (Option.none : Option Jvm.ClassFile.FieldType)) ∈ am_WT := am_wt (am_m2 227 rfl) rfl
theorem w_468 : (Jvm.Cond.methodLink "java/lang/RuntimeException" (7 : Nat) ({ cls := "java/lang/Exception", name := "<init>", desc := "(Ljava/lang/String;)V" } : Jvm.MethodName)) ∈ am_WT := am_wt (am_m2 228 rfl) rfl
theorem w_469 : (Jvm.Cond.instanceMethod ({ cls := "java/lang/Exception", name := "<init>", desc := "(Ljava/lang/String;)V" } : Jvm.MethodName)) ∈ am_WT := am_wt (am_m2 229 rfl) rfl
theorem w_470 : (Jvm.Cond.code ({ cls := "java/lang/Exception", name := "<init>", desc := "(Ljava/lang/String;)V" } : Jvm.MethodName) prog_19_method_2_code (2 : Nat) (Option.none : Option Jvm.ClassFile.FieldType)) ∈ am_WT := am_wt (am_m2 230 rfl) rfl
theorem w_471 : (Jvm.Cond.methodLink "java/lang/Exception" (7 : Nat) ({ cls := "java/lang/Throwable", name := "<init>", desc := "(Ljava/lang/String;)V" } : Jvm.MethodName)) ∈ am_WT := am_wt (am_m2 231 rfl) rfl
theorem w_472 : (Jvm.Cond.instanceMethod ({ cls := "java/lang/Throwable", name := "<init>", desc := "(Ljava/lang/String;)V" } : Jvm.MethodName)) ∈ am_WT := am_wt (am_m2 232 rfl) rfl
theorem w_473 : (Jvm.Cond.code ({ cls := "java/lang/Throwable", name := "<init>", desc := "(Ljava/lang/String;)V" } : Jvm.MethodName) prog_30_method_2_code (2 : Nat) (Option.none : Option Jvm.ClassFile.FieldType)) ∈ am_WT := am_wt (am_m2 233 rfl) rfl
theorem w_474 : (Jvm.Cond.fieldLink "java/lang/Throwable" (198 : Nat) "java/lang/Throwable" "backtrace" "Ljava/lang/Object;") ∈ am_WT := am_wt (am_m2 234 rfl) rfl
theorem w_475 : (Jvm.Cond.fieldLink "java/lang/Throwable" (31 : Nat) "java/lang/Throwable" "detailMessage" "Ljava/lang/String;") ∈ am_WT := am_wt (am_m2 235 rfl) rfl
theorem w_487 : (Jvm.Cond.methodLink "java/lang/String" (1051 : Nat) ({ cls := "java/lang/StringUTF16", name := "compress", desc := "([BII)[B" } : Jvm.MethodName)) ∈ am_WT := am_wt (am_m3 7 rfl) rfl
theorem w_488 : (Jvm.Cond.static ({ cls := "java/lang/StringUTF16", name := "compress", desc := "([BII)[B" } : Jvm.MethodName)) ∈ am_WT := am_wt (am_m3 8 rfl) rfl
theorem w_489 : (Jvm.Cond.code ({ cls := "java/lang/StringUTF16", name := "compress", desc := "([BII)[B" } : Jvm.MethodName) prog_28_method_17_code (6 : Nat) (Option.some (Jvm.ClassFile.FieldType.array Jvm.ClassFile.FieldType.byte))) ∈ am_WT := am_wt (am_m3 9 rfl) rfl
theorem w_490 : (Jvm.Cond.methodLink "java/lang/StringUTF16" (123 : Nat) ({ cls := "java/lang/StringUTF16", name := "compress", desc := "([BI[BII)I" } : Jvm.MethodName)) ∈ am_WT := am_wt (am_m3 10 rfl) rfl
theorem w_491 : (Jvm.Cond.static ({ cls := "java/lang/StringUTF16", name := "compress", desc := "([BI[BII)I" } : Jvm.MethodName)) ∈ am_WT := am_wt (am_m3 11 rfl) rfl
theorem w_492 : (Jvm.Cond.code ({ cls := "java/lang/StringUTF16", name := "compress", desc := "([BI[BII)I" } : Jvm.MethodName) prog_28_method_22_code (7 : Nat) (Option.some Jvm.ClassFile.FieldType.int)) ∈ am_WT := am_wt (am_m3 12 rfl) rfl
theorem w_493 : (Jvm.Cond.methodLink "java/lang/StringUTF16" (71 : Nat) ({ cls := "java/lang/StringUTF16", name := "getChar", desc := "([BI)C" } : Jvm.MethodName)) ∈ am_WT := am_wt (am_m3 13 rfl) rfl
theorem w_494 : (Jvm.Cond.static ({ cls := "java/lang/StringUTF16", name := "getChar", desc := "([BI)C" } : Jvm.MethodName)) ∈ am_WT := am_wt (am_m3 14 rfl) rfl
theorem w_495 : (Jvm.Cond.code ({ cls := "java/lang/StringUTF16", name := "getChar", desc := "([BI)C" } : Jvm.MethodName) prog_28_method_5_code (2 : Nat) (Option.some Jvm.ClassFile.FieldType.char)) ∈ am_WT := am_wt (am_m3 15 rfl) rfl
theorem w_496 : (Jvm.Cond.methodLink "java/lang/StringUTF16" (126 : Nat) ({ cls := "java/util/Arrays", name := "copyOfRange", desc := "([BII)[B" } : Jvm.MethodName)) ∈ am_WT := am_wt (am_m3 16 rfl) rfl
theorem w_497 : (Jvm.Cond.methodLink "java/lang/String" (47 : Nat) ({ cls := "java/lang/StringUTF16", name := "coderFromArrayLen", desc := "([BI)B" } : Jvm.MethodName)) ∈ am_WT := am_wt (am_m3 17 rfl) rfl
theorem w_498 : (Jvm.Cond.static ({ cls := "java/lang/StringUTF16", name := "coderFromArrayLen", desc := "([BI)B" } : Jvm.MethodName)) ∈ am_WT := am_wt (am_m3 18 rfl) rfl
theorem w_499 : (Jvm.Cond.code ({ cls := "java/lang/StringUTF16", name := "coderFromArrayLen", desc := "([BI)B" } : Jvm.MethodName) prog_28_method_15_code (2 : Nat) (Option.some Jvm.ClassFile.FieldType.byte)) ∈ am_WT := am_wt (am_m3 19 rfl) rfl
theorem w_500 : (Jvm.Cond.fieldLink "java/lang/String" (9 : Nat) "java/lang/String" "value" "[B") ∈ am_WT := am_wt (am_m3 20 rfl) rfl
theorem w_501 : (Jvm.Cond.fieldLink "java/lang/String" (15 : Nat) "java/lang/String" "coder" "B") ∈ am_WT := am_wt (am_m3 21 rfl) rfl
theorem w_511 : (Jvm.Cond.fieldLink "SlotMat$State" (9 : Nat) "SlotMat$State" "cells" "[I") ∈ am_WT := am_wt (am_m3 31 rfl) rfl
theorem n_512 : (Jvm.Cond.fieldLinkNest "SlotMat$Acts" (22 : Nat) "SlotMat$State" "cells" "[I" "SlotMat") ∈ am_nest := List.mem_filter.mpr ⟨am_m3 32 rfl, rfl⟩
theorem w_516 : (Jvm.Cond.classLink "SlotMat" (51 : Nat) "SlotMat$Acts") ∈ am_WT := am_wt (am_m3 36 rfl) rfl
theorem w_517 : (Jvm.Cond.instantiable "SlotMat$Acts" (3 : Nat)) ∈ am_WT := am_wt (am_m3 37 rfl) rfl
theorem n_518 : (Jvm.Cond.methodLinkNest "SlotMat" (53 : Nat) ({ cls := "SlotMat$Acts", name := "<init>", desc := "()V" } : Jvm.MethodName) "SlotMat") ∈ am_nest := List.mem_filter.mpr ⟨am_m3 38 rfl, rfl⟩
theorem w_519 : (Jvm.Cond.instanceMethod ({ cls := "SlotMat$Acts", name := "<init>", desc := "()V" } : Jvm.MethodName)) ∈ am_WT := am_wt (am_m3 39 rfl) rfl
theorem w_520 : (Jvm.Cond.code ({ cls := "SlotMat$Acts", name := "<init>", desc := "()V" } : Jvm.MethodName) prog_2_method_1_code (1 : Nat) (Option.none : Option Jvm.ClassFile.FieldType)) ∈ am_WT := am_wt (am_m3 40 rfl) rfl
theorem w_521 : (Jvm.Cond.methodLink "SlotMat$Acts" (3 : Nat) ({ cls := "java/lang/Object", name := "<init>", desc := "()V" } : Jvm.MethodName)) ∈ am_WT := am_wt (am_m3 41 rfl) rfl
theorem w_522 : (Jvm.Cond.fieldLink "SlotMat$Acts" (9 : Nat) "SlotMat$Acts" "rows" "[I") ∈ am_WT := am_wt (am_m3 42 rfl) rfl
theorem w_523 : (Jvm.Cond.fieldLink "SlotMat$Acts" (15 : Nat) "SlotMat$Acts" "many" "I") ∈ am_WT := am_wt (am_m3 43 rfl) rfl
theorem n_524 : (Jvm.Cond.fieldLinkNest "SlotMat" (155 : Nat) "SlotMat$Acts" "many" "I" "SlotMat") ∈ am_nest := List.mem_filter.mpr ⟨am_m3 44 rfl, rfl⟩
theorem w_525 : (Jvm.Cond.fieldLink "SlotMat$Acts" (19 : Nat) "SlotMat$Acts" "next" "I") ∈ am_WT := am_wt (am_m3 45 rfl) rfl
theorem w_533 : (Jvm.Cond.classLink "SlotMat" (58 : Nat) "SlotMat$Notes") ∈ am_WT := am_wt (am_m3 53 rfl) rfl
theorem w_534 : (Jvm.Cond.instantiable "SlotMat$Notes" (4 : Nat)) ∈ am_WT := am_wt (am_m3 54 rfl) rfl
theorem n_535 : (Jvm.Cond.methodLinkNest "SlotMat" (60 : Nat) ({ cls := "SlotMat$Notes", name := "<init>", desc := "()V" } : Jvm.MethodName) "SlotMat") ∈ am_nest := List.mem_filter.mpr ⟨am_m3 55 rfl, rfl⟩
theorem w_536 : (Jvm.Cond.instanceMethod ({ cls := "SlotMat$Notes", name := "<init>", desc := "()V" } : Jvm.MethodName)) ∈ am_WT := am_wt (am_m3 56 rfl) rfl
theorem w_537 : (Jvm.Cond.code ({ cls := "SlotMat$Notes", name := "<init>", desc := "()V" } : Jvm.MethodName) prog_5_method_1_code (1 : Nat) (Option.none : Option Jvm.ClassFile.FieldType)) ∈ am_WT := am_wt (am_m3 57 rfl) rfl
theorem w_538 : (Jvm.Cond.methodLink "SlotMat$Notes" (3 : Nat) ({ cls := "java/lang/Object", name := "<init>", desc := "()V" } : Jvm.MethodName)) ∈ am_WT := am_wt (am_m3 58 rfl) rfl
theorem w_539 : (Jvm.Cond.fieldLink "SlotMat$Notes" (9 : Nat) "SlotMat$Notes" "who" "[I") ∈ am_WT := am_wt (am_m3 59 rfl) rfl
theorem w_540 : (Jvm.Cond.fieldLink "SlotMat$Notes" (15 : Nat) "SlotMat$Notes" "behind" "[I") ∈ am_WT := am_wt (am_m3 60 rfl) rfl
theorem w_541 : (Jvm.Cond.fieldLink "SlotMat$Notes" (18 : Nat) "SlotMat$Notes" "sum" "[I") ∈ am_WT := am_wt (am_m3 61 rfl) rfl
theorem w_542 : (Jvm.Cond.fieldLink "SlotMat$Notes" (21 : Nat) "SlotMat$Notes" "many" "I") ∈ am_WT := am_wt (am_m3 62 rfl) rfl
theorem n_543 : (Jvm.Cond.fieldLinkNest "SlotMat" (158 : Nat) "SlotMat$Notes" "many" "I" "SlotMat") ∈ am_nest := List.mem_filter.mpr ⟨am_m3 63 rfl, rfl⟩
theorem w_553 : (Jvm.Cond.classLink "SlotMat" (78 : Nat) "SlotMat$OrderSearch") ∈ am_WT := am_wt (am_m3 73 rfl) rfl
theorem w_554 : (Jvm.Cond.instantiable "SlotMat$OrderSearch" (5 : Nat)) ∈ am_WT := am_wt (am_m3 74 rfl) rfl
theorem w_555 : (Jvm.Cond.methodLink "SlotMat" (80 : Nat) ({ cls := "SlotMat$OrderSearch", name := "<init>", desc := "()V" } : Jvm.MethodName)) ∈ am_WT := am_wt (am_m3 75 rfl) rfl
theorem w_556 : (Jvm.Cond.instanceMethod ({ cls := "SlotMat$OrderSearch", name := "<init>", desc := "()V" } : Jvm.MethodName)) ∈ am_WT := am_wt (am_m3 76 rfl) rfl
theorem w_557 : (Jvm.Cond.code ({ cls := "SlotMat$OrderSearch", name := "<init>", desc := "()V" } : Jvm.MethodName) prog_6_method_1_code (2 : Nat) (Option.none : Option Jvm.ClassFile.FieldType)) ∈ am_WT := am_wt (am_m3 77 rfl) rfl
theorem w_558 : (Jvm.Cond.methodLink "SlotMat$OrderSearch" (3 : Nat) ({ cls := "java/lang/Object", name := "<init>", desc := "()V" } : Jvm.MethodName)) ∈ am_WT := am_wt (am_m3 78 rfl) rfl
theorem w_559 : (Jvm.Cond.classLink "SlotMat$OrderSearch" (9 : Nat) "SlotMat$State") ∈ am_WT := am_wt (am_m3 79 rfl) rfl
theorem w_561 : (Jvm.Cond.methodLink "SlotMat$OrderSearch" (32 : Nat) ({ cls := "SlotMat$State", name := "<init>", desc := "()V" } : Jvm.MethodName)) ∈ am_WT := am_wt (am_m3 81 rfl) rfl
theorem w_562 : (Jvm.Cond.fieldLink "SlotMat$OrderSearch" (11 : Nat) "SlotMat$OrderSearch" "levels" "[LSlotMat$State;") ∈ am_WT := am_wt (am_m3 82 rfl) rfl
theorem w_563 : (Jvm.Cond.fieldLink "SlotMat$OrderSearch" (17 : Nat) "SlotMat$OrderSearch" "row" "[I") ∈ am_WT := am_wt (am_m3 83 rfl) rfl
theorem w_564 : (Jvm.Cond.fieldLink "SlotMat$OrderSearch" (21 : Nat) "SlotMat$OrderSearch" "best" "[I") ∈ am_WT := am_wt (am_m3 84 rfl) rfl
theorem w_565 : (Jvm.Cond.fieldLink "SlotMat$OrderSearch" (24 : Nat) "SlotMat$OrderSearch" "mostHeard" "I") ∈ am_WT := am_wt (am_m3 85 rfl) rfl
theorem w_566 : (Jvm.Cond.fieldLink "SlotMat$OrderSearch" (28 : Nat) "SlotMat$OrderSearch" "known" "Z") ∈ am_WT := am_wt (am_m3 86 rfl) rfl
theorem w_578 : (Jvm.Cond.fieldLink "SlotMat" (9 : Nat) "SlotMat" "tape" "[B") ∈ am_WT := am_wt (am_m3 98 rfl) rfl
theorem w_579 : (Jvm.Cond.fieldLink "SlotMat" (13 : Nat) "SlotMat" "tapeBytes" "I") ∈ am_WT := am_wt (am_m3 99 rfl) rfl
theorem w_580 : (Jvm.Cond.fieldLink "SlotMat" (20 : Nat) "SlotMat" "reader" "LSlotMat$CityReader;") ∈ am_WT := am_wt (am_m3 100 rfl) rfl
theorem w_581 : (Jvm.Cond.fieldLink "SlotMat" (24 : Nat) "SlotMat" "faultPlace" "I") ∈ am_WT := am_wt (am_m3 101 rfl) rfl
theorem w_582 : (Jvm.Cond.fieldLink "SlotMat" (27 : Nat) "SlotMat" "refused" "[I") ∈ am_WT := am_wt (am_m3 102 rfl) rfl
theorem w_583 : (Jvm.Cond.fieldLink "SlotMat" (34 : Nat) "SlotMat" "town" "LSlotMat$City;") ∈ am_WT := am_wt (am_m3 103 rfl) rfl
theorem w_584 : (Jvm.Cond.fieldLink "SlotMat" (38 : Nat) "SlotMat" "nextTown" "LSlotMat$City;") ∈ am_WT := am_wt (am_m3 104 rfl) rfl
theorem w_585 : (Jvm.Cond.fieldLink "SlotMat" (44 : Nat) "SlotMat" "now" "LSlotMat$State;") ∈ am_WT := am_wt (am_m3 105 rfl) rfl
theorem w_586 : (Jvm.Cond.fieldLink "SlotMat" (48 : Nat) "SlotMat" "future" "LSlotMat$State;") ∈ am_WT := am_wt (am_m3 106 rfl) rfl
theorem w_587 : (Jvm.Cond.fieldLink "SlotMat" (54 : Nat) "SlotMat" "acts" "LSlotMat$Acts;") ∈ am_WT := am_wt (am_m3 107 rfl) rfl
theorem w_588 : (Jvm.Cond.fieldLink "SlotMat" (61 : Nat) "SlotMat" "notes" "LSlotMat$Notes;") ∈ am_WT := am_wt (am_m3 108 rfl) rfl
theorem w_589 : (Jvm.Cond.fieldLink "SlotMat" (65 : Nat) "SlotMat" "hasImage" "Z") ∈ am_WT := am_wt (am_m3 109 rfl) rfl
theorem w_590 : (Jvm.Cond.fieldLink "SlotMat" (69 : Nat) "SlotMat" "imageNow" "LSlotMat$State;") ∈ am_WT := am_wt (am_m3 110 rfl) rfl
theorem w_591 : (Jvm.Cond.fieldLink "SlotMat" (72 : Nat) "SlotMat" "imageActs" "LSlotMat$Acts;") ∈ am_WT := am_wt (am_m3 111 rfl) rfl
theorem w_592 : (Jvm.Cond.fieldLink "SlotMat" (75 : Nat) "SlotMat" "imageNotes" "LSlotMat$Notes;") ∈ am_WT := am_wt (am_m3 112 rfl) rfl
theorem w_593 : (Jvm.Cond.fieldLink "SlotMat" (81 : Nat) "SlotMat" "orders" "LSlotMat$OrderSearch;") ∈ am_WT := am_wt (am_m3 113 rfl) rfl
theorem w_594 : (Jvm.Cond.fieldLink "SlotMat" (85 : Nat) "SlotMat" "heardByThoughts" "[I") ∈ am_WT := am_wt (am_m3 114 rfl) rfl
theorem w_595 : (Jvm.Cond.fieldLink "SlotMat" (88 : Nat) "SlotMat" "gains" "[I") ∈ am_WT := am_wt (am_m3 115 rfl) rfl
theorem w_596 : (Jvm.Cond.fieldLink "SlotMat" (91 : Nat) "SlotMat" "seedNow" "I") ∈ am_WT := am_wt (am_m3 116 rfl) rfl
theorem w_636 : (Jvm.Cond.methodLink "SlotMatLaw" (114 : Nat) ({ cls := "SlotMat", name := "feed", desc := "(IIIII)I" } : Jvm.MethodName)) ∈ am_WT := am_wt (am_m3 156 rfl) rfl
theorem w_637 : (Jvm.Cond.instanceMethod ({ cls := "SlotMat", name := "feed", desc := "(IIIII)I" } : Jvm.MethodName)) ∈ am_WT := am_wt (am_m3 157 rfl) rfl
theorem w_638 : (Jvm.Cond.selects "SlotMat" ({ cls := "SlotMat", name := "feed", desc := "(IIIII)I" } : Jvm.MethodName) ({ cls := "SlotMat", name := "feed", desc := "(IIIII)I" } : Jvm.MethodName)) ∈ am_WT := am_wt (am_m3 158 rfl) rfl
theorem w_639 : (Jvm.Cond.code ({ cls := "SlotMat", name := "feed", desc := "(IIIII)I" } : Jvm.MethodName) prog_1_method_2_code (6 : Nat) (Option.some Jvm.ClassFile.FieldType.int)) ∈ am_WT := am_wt (am_m3 159 rfl) rfl
theorem w_640 : (Jvm.Cond.methodLink "SlotMat" (94 : Nat) ({ cls := "SlotMat", name := "putBytes", desc := "(I)V" } : Jvm.MethodName)) ∈ am_WT := am_wt (am_m3 160 rfl) rfl
theorem w_642 : (Jvm.Cond.instanceMethod ({ cls := "SlotMat", name := "putBytes", desc := "(I)V" } : Jvm.MethodName)) ∈ am_WT := am_wt (am_m3 162 rfl) rfl
theorem w_643 : (Jvm.Cond.code ({ cls := "SlotMat", name := "putBytes", desc := "(I)V" } : Jvm.MethodName) prog_1_method_3_code (3 : Nat) (Option.none : Option Jvm.ClassFile.FieldType)) ∈ am_WT := am_wt (am_m3 163 rfl) rfl
theorem w_644 : (Jvm.Cond.methodLink "SlotMatLaw" (129 : Nat) ({ cls := "SlotMat", name := "fault", desc := "()I" } : Jvm.MethodName)) ∈ am_WT := am_wt (am_m3 164 rfl) rfl
theorem w_645 : (Jvm.Cond.instanceMethod ({ cls := "SlotMat", name := "fault", desc := "()I" } : Jvm.MethodName)) ∈ am_WT := am_wt (am_m3 165 rfl) rfl
theorem w_646 : (Jvm.Cond.selects "SlotMat" ({ cls := "SlotMat", name := "fault", desc := "()I" } : Jvm.MethodName) ({ cls := "SlotMat", name := "fault", desc := "()I" } : Jvm.MethodName)) ∈ am_WT := am_wt (am_m3 166 rfl) rfl
theorem w_647 : (Jvm.Cond.code ({ cls := "SlotMat", name := "fault", desc := "()I" } : Jvm.MethodName) prog_1_method_5_code (1 : Nat) (Option.some Jvm.ClassFile.FieldType.int)) ∈ am_WT := am_wt (am_m3 167 rfl) rfl
theorem w_648 : (Jvm.Cond.methodLink "SlotMatLaw" (146 : Nat) ({ cls := "SlotMat", name := "days", desc := "(I)I" } : Jvm.MethodName)) ∈ am_WT := am_wt (am_m3 168 rfl) rfl
theorem w_649 : (Jvm.Cond.instanceMethod ({ cls := "SlotMat", name := "days", desc := "(I)I" } : Jvm.MethodName)) ∈ am_WT := am_wt (am_m3 169 rfl) rfl
theorem w_650 : (Jvm.Cond.selects "SlotMat" ({ cls := "SlotMat", name := "days", desc := "(I)I" } : Jvm.MethodName) ({ cls := "SlotMat", name := "days", desc := "(I)I" } : Jvm.MethodName)) ∈ am_WT := am_wt (am_m3 170 rfl) rfl
theorem w_651 : (Jvm.Cond.code ({ cls := "SlotMat", name := "days", desc := "(I)I" } : Jvm.MethodName) prog_1_method_10_code (3 : Nat) (Option.some Jvm.ClassFile.FieldType.int)) ∈ am_WT := am_wt (am_m3 171 rfl) rfl
theorem w_652 : (Jvm.Cond.methodLink "SlotMat" (128 : Nat) ({ cls := "SlotMat$State", name := "dayNow", desc := "()I" } : Jvm.MethodName)) ∈ am_WT := am_wt (am_m3 172 rfl) rfl
theorem w_653 : (Jvm.Cond.instanceMethod ({ cls := "SlotMat$State", name := "dayNow", desc := "()I" } : Jvm.MethodName)) ∈ am_WT := am_wt (am_m3 173 rfl) rfl
theorem w_654 : (Jvm.Cond.selects "SlotMat$State" ({ cls := "SlotMat$State", name := "dayNow", desc := "()I" } : Jvm.MethodName) ({ cls := "SlotMat$State", name := "dayNow", desc := "()I" } : Jvm.MethodName)) ∈ am_WT := am_wt (am_m3 174 rfl) rfl
theorem w_655 : (Jvm.Cond.code ({ cls := "SlotMat$State", name := "dayNow", desc := "()I" } : Jvm.MethodName) prog_9_method_5_code (1 : Nat) (Option.some Jvm.ClassFile.FieldType.int)) ∈ am_WT := am_wt (am_m3 175 rfl) rfl
theorem w_656 : (Jvm.Cond.methodLink "SlotMat" (214 : Nat) ({ cls := "SlotMat$Acts", name := "keep", desc := "(LSlotMat$State;)V" } : Jvm.MethodName)) ∈ am_WT := am_wt (am_m3 176 rfl) rfl
theorem w_657 : (Jvm.Cond.instanceMethod ({ cls := "SlotMat$Acts", name := "keep", desc := "(LSlotMat$State;)V" } : Jvm.MethodName)) ∈ am_WT := am_wt (am_m3 177 rfl) rfl
theorem w_658 : (Jvm.Cond.selects "SlotMat$Acts" ({ cls := "SlotMat$Acts", name := "keep", desc := "(LSlotMat$State;)V" } : Jvm.MethodName) ({ cls := "SlotMat$Acts", name := "keep", desc := "(LSlotMat$State;)V" } : Jvm.MethodName)) ∈ am_WT := am_wt (am_m3 178 rfl) rfl
theorem w_659 : (Jvm.Cond.code ({ cls := "SlotMat$Acts", name := "keep", desc := "(LSlotMat$State;)V" } : Jvm.MethodName) prog_2_method_3_code (2 : Nat) (Option.none : Option Jvm.ClassFile.FieldType)) ∈ am_WT := am_wt (am_m3 179 rfl) rfl
theorem w_660 : (Jvm.Cond.methodLink "SlotMat$Acts" (27 : Nat) ({ cls := "java/lang/System", name := "arraycopy", desc := "(Ljava/lang/Object;ILjava/lang/Object;II)V" } : Jvm.MethodName)) ∈ am_WT := am_wt (am_m3 180 rfl) rfl
theorem w_661 : (Jvm.Cond.methodLink "SlotMat$Acts" (33 : Nat) ({ cls := "java/lang/Math", name := "min", desc := "(II)I" } : Jvm.MethodName)) ∈ am_WT := am_wt (am_m3 181 rfl) rfl
theorem w_662 : (Jvm.Cond.methodLink "SlotMat" (218 : Nat) ({ cls := "SlotMat$City", name := "passDay", desc := "(LSlotMat$State;)I" } : Jvm.MethodName)) ∈ am_WT := am_wt (am_m3 182 rfl) rfl
theorem w_663 : (Jvm.Cond.instanceMethod ({ cls := "SlotMat$City", name := "passDay", desc := "(LSlotMat$State;)I" } : Jvm.MethodName)) ∈ am_WT := am_wt (am_m3 183 rfl) rfl
theorem w_664 : (Jvm.Cond.selects "SlotMat$City" ({ cls := "SlotMat$City", name := "passDay", desc := "(LSlotMat$State;)I" } : Jvm.MethodName) ({ cls := "SlotMat$City", name := "passDay", desc := "(LSlotMat$State;)I" } : Jvm.MethodName)) ∈ am_WT := am_wt (am_m3 184 rfl) rfl
theorem w_665 : (Jvm.Cond.code ({ cls := "SlotMat$City", name := "passDay", desc := "(LSlotMat$State;)I" } : Jvm.MethodName) prog_3_method_11_code (2 : Nat) (Option.some Jvm.ClassFile.FieldType.int)) ∈ am_WT := am_wt (am_m3 185 rfl) rfl
theorem w_666 : (Jvm.Cond.methodLink "SlotMat$City" (88 : Nat) ({ cls := "SlotMat$State", name := "dayNow", desc := "()I" } : Jvm.MethodName)) ∈ am_WT := am_wt (am_m3 186 rfl) rfl
theorem w_667 : (Jvm.Cond.methodLink "SlotMat$City" (94 : Nat) ({ cls := "SlotMat$City", name := "wetOn", desc := "(I)I" } : Jvm.MethodName)) ∈ am_WT := am_wt (am_m3 187 rfl) rfl
theorem w_668 : (Jvm.Cond.instanceMethod ({ cls := "SlotMat$City", name := "wetOn", desc := "(I)I" } : Jvm.MethodName)) ∈ am_WT := am_wt (am_m3 188 rfl) rfl
theorem w_669 : (Jvm.Cond.selects "SlotMat$City" ({ cls := "SlotMat$City", name := "wetOn", desc := "(I)I" } : Jvm.MethodName) ({ cls := "SlotMat$City", name := "wetOn", desc := "(I)I" } : Jvm.MethodName)) ∈ am_WT := am_wt (am_m3 189 rfl) rfl
theorem w_670 : (Jvm.Cond.code ({ cls := "SlotMat$City", name := "wetOn", desc := "(I)I" } : Jvm.MethodName) prog_3_method_9_code (2 : Nat) (Option.some Jvm.ClassFile.FieldType.int)) ∈ am_WT := am_wt (am_m3 190 rfl) rfl
theorem w_671 : (Jvm.Cond.methodLink "SlotMat$City" (84 : Nat) ({ cls := "java/lang/Math", name := "floorMod", desc := "(II)I" } : Jvm.MethodName)) ∈ am_WT := am_wt (am_m3 191 rfl) rfl
theorem w_672 : (Jvm.Cond.static ({ cls := "java/lang/Math", name := "floorMod", desc := "(II)I" } : Jvm.MethodName)) ∈ am_WT := am_wt (am_m3 192 rfl) rfl
theorem w_673 : (Jvm.Cond.code ({ cls := "java/lang/Math", name := "floorMod", desc := "(II)I" } : Jvm.MethodName) prog_22_method_50_code (3 : Nat) (Option.some Jvm.ClassFile.FieldType.int)) ∈ am_WT := am_wt (am_m3 193 rfl) rfl
theorem w_674 : (Jvm.Cond.methodLink "SlotMat$City" (97 : Nat) ({ cls := "SlotMat$City", name := "boxOn", desc := "(I)I" } : Jvm.MethodName)) ∈ am_WT := am_wt (am_m3 194 rfl) rfl
theorem w_675 : (Jvm.Cond.instanceMethod ({ cls := "SlotMat$City", name := "boxOn", desc := "(I)I" } : Jvm.MethodName)) ∈ am_WT := am_wt (am_m3 195 rfl) rfl
theorem w_676 : (Jvm.Cond.selects "SlotMat$City" ({ cls := "SlotMat$City", name := "boxOn", desc := "(I)I" } : Jvm.MethodName) ({ cls := "SlotMat$City", name := "boxOn", desc := "(I)I" } : Jvm.MethodName)) ∈ am_WT := am_wt (am_m3 196 rfl) rfl
theorem w_677 : (Jvm.Cond.code ({ cls := "SlotMat$City", name := "boxOn", desc := "(I)I" } : Jvm.MethodName) prog_3_method_10_code (2 : Nat) (Option.some Jvm.ClassFile.FieldType.int)) ∈ am_WT := am_wt (am_m3 197 rfl) rfl
theorem w_678 : (Jvm.Cond.methodLink "SlotMat$City" (100 : Nat) ({ cls := "SlotMat$City", name := "passDayWith", desc := "(LSlotMat$State;II)I" } : Jvm.MethodName)) ∈ am_WT := am_wt (am_m3 198 rfl) rfl
theorem w_679 : (Jvm.Cond.instanceMethod ({ cls := "SlotMat$City", name := "passDayWith", desc := "(LSlotMat$State;II)I" } : Jvm.MethodName)) ∈ am_WT := am_wt (am_m3 199 rfl) rfl
theorem w_680 : (Jvm.Cond.selects "SlotMat$City" ({ cls := "SlotMat$City", name := "passDayWith", desc := "(LSlotMat$State;II)I" } : Jvm.MethodName) ({ cls := "SlotMat$City", name := "passDayWith", desc := "(LSlotMat$State;II)I" } : Jvm.MethodName)) ∈ am_WT := am_wt (am_m3 200 rfl) rfl
theorem w_681 : (Jvm.Cond.code ({ cls := "SlotMat$City", name := "passDayWith", desc := "(LSlotMat$State;II)I" } : Jvm.MethodName) prog_3_method_12_code (6 : Nat) (Option.some Jvm.ClassFile.FieldType.int)) ∈ am_WT := am_wt (am_m3 201 rfl) rfl
theorem w_682 : (Jvm.Cond.methodLink "SlotMat$City" (104 : Nat) ({ cls := "SlotMat$City", name := "thoughtsOf", desc := "(LSlotMat$State;II)I" } : Jvm.MethodName)) ∈ am_WT := am_wt (am_m3 202 rfl) rfl
theorem w_684 : (Jvm.Cond.instanceMethod ({ cls := "SlotMat$City", name := "thoughtsOf", desc := "(LSlotMat$State;II)I" } : Jvm.MethodName)) ∈ am_WT := am_wt (am_m3 204 rfl) rfl
theorem w_685 : (Jvm.Cond.code ({ cls := "SlotMat$City", name := "thoughtsOf", desc := "(LSlotMat$State;II)I" } : Jvm.MethodName) prog_3_method_13_code (4 : Nat) (Option.some Jvm.ClassFile.FieldType.int)) ∈ am_WT := am_wt (am_m3 205 rfl) rfl
theorem w_686 : (Jvm.Cond.methodLink "SlotMat$City" (131 : Nat) ({ cls := "SlotMat$Rule", name := "isUntold", desc := "()Z" } : Jvm.MethodName)) ∈ am_WT := am_wt (am_m3 206 rfl) rfl
theorem w_687 : (Jvm.Cond.instanceMethod ({ cls := "SlotMat$Rule", name := "isUntold", desc := "()Z" } : Jvm.MethodName)) ∈ am_WT := am_wt (am_m3 207 rfl) rfl
theorem w_688 : (Jvm.Cond.selects "SlotMat$Rule" ({ cls := "SlotMat$Rule", name := "isUntold", desc := "()Z" } : Jvm.MethodName) ({ cls := "SlotMat$Rule", name := "isUntold", desc := "()Z" } : Jvm.MethodName)) ∈ am_WT := am_wt (am_m3 208 rfl) rfl
theorem w_689 : (Jvm.Cond.code ({ cls := "SlotMat$Rule", name := "isUntold", desc := "()Z" } : Jvm.MethodName) prog_7_method_3_code (1 : Nat) (Option.some Jvm.ClassFile.FieldType.boolean)) ∈ am_WT := am_wt (am_m3 209 rfl) rfl
theorem w_690 : (Jvm.Cond.methodLink "SlotMat$City" (134 : Nat) ({ cls := "SlotMat$State", name := "regretOf", desc := "(I)I" } : Jvm.MethodName)) ∈ am_WT := am_wt (am_m3 210 rfl) rfl
theorem w_691 : (Jvm.Cond.instanceMethod ({ cls := "SlotMat$State", name := "regretOf", desc := "(I)I" } : Jvm.MethodName)) ∈ am_WT := am_wt (am_m3 211 rfl) rfl
theorem w_692 : (Jvm.Cond.selects "SlotMat$State" ({ cls := "SlotMat$State", name := "regretOf", desc := "(I)I" } : Jvm.MethodName) ({ cls := "SlotMat$State", name := "regretOf", desc := "(I)I" } : Jvm.MethodName)) ∈ am_WT := am_wt (am_m3 212 rfl) rfl
theorem w_693 : (Jvm.Cond.code ({ cls := "SlotMat$State", name := "regretOf", desc := "(I)I" } : Jvm.MethodName) prog_9_method_12_code (2 : Nat) (Option.some Jvm.ClassFile.FieldType.int)) ∈ am_WT := am_wt (am_m3 213 rfl) rfl
theorem w_694 : (Jvm.Cond.methodLink "SlotMat$City" (137 : Nat) ({ cls := "SlotMat$State", name := "heardBy", desc := "(I)I" } : Jvm.MethodName)) ∈ am_WT := am_wt (am_m3 214 rfl) rfl
theorem w_695 : (Jvm.Cond.instanceMethod ({ cls := "SlotMat$State", name := "heardBy", desc := "(I)I" } : Jvm.MethodName)) ∈ am_WT := am_wt (am_m3 215 rfl) rfl
theorem w_696 : (Jvm.Cond.selects "SlotMat$State" ({ cls := "SlotMat$State", name := "heardBy", desc := "(I)I" } : Jvm.MethodName) ({ cls := "SlotMat$State", name := "heardBy", desc := "(I)I" } : Jvm.MethodName)) ∈ am_WT := am_wt (am_m3 216 rfl) rfl
theorem w_697 : (Jvm.Cond.code ({ cls := "SlotMat$State", name := "heardBy", desc := "(I)I" } : Jvm.MethodName) prog_9_method_14_code (2 : Nat) (Option.some Jvm.ClassFile.FieldType.int)) ∈ am_WT := am_wt (am_m3 217 rfl) rfl
theorem w_698 : (Jvm.Cond.methodLink "SlotMat$City" (118 : Nat) ({ cls := "SlotMat$State", name := "redOf", desc := "(I)I" } : Jvm.MethodName)) ∈ am_WT := am_wt (am_m3 218 rfl) rfl
theorem w_699 : (Jvm.Cond.instanceMethod ({ cls := "SlotMat$State", name := "redOf", desc := "(I)I" } : Jvm.MethodName)) ∈ am_WT := am_wt (am_m3 219 rfl) rfl
theorem w_700 : (Jvm.Cond.selects "SlotMat$State" ({ cls := "SlotMat$State", name := "redOf", desc := "(I)I" } : Jvm.MethodName) ({ cls := "SlotMat$State", name := "redOf", desc := "(I)I" } : Jvm.MethodName)) ∈ am_WT := am_wt (am_m3 220 rfl) rfl
theorem w_701 : (Jvm.Cond.code ({ cls := "SlotMat$State", name := "redOf", desc := "(I)I" } : Jvm.MethodName) prog_9_method_9_code (2 : Nat) (Option.some Jvm.ClassFile.FieldType.int)) ∈ am_WT := am_wt (am_m3 221 rfl) rfl
theorem w_702 : (Jvm.Cond.methodLink "SlotMat$City" (121 : Nat) ({ cls := "SlotMat$State", name := "heldIn", desc := "(I)I" } : Jvm.MethodName)) ∈ am_WT := am_wt (am_m3 222 rfl) rfl
theorem w_703 : (Jvm.Cond.instanceMethod ({ cls := "SlotMat$State", name := "heldIn", desc := "(I)I" } : Jvm.MethodName)) ∈ am_WT := am_wt (am_m3 223 rfl) rfl
theorem w_704 : (Jvm.Cond.selects "SlotMat$State" ({ cls := "SlotMat$State", name := "heldIn", desc := "(I)I" } : Jvm.MethodName) ({ cls := "SlotMat$State", name := "heldIn", desc := "(I)I" } : Jvm.MethodName)) ∈ am_WT := am_wt (am_m3 224 rfl) rfl
theorem w_705 : (Jvm.Cond.code ({ cls := "SlotMat$State", name := "heldIn", desc := "(I)I" } : Jvm.MethodName) prog_9_method_20_code (2 : Nat) (Option.some Jvm.ClassFile.FieldType.int)) ∈ am_WT := am_wt (am_m3 225 rfl) rfl
theorem w_706 : (Jvm.Cond.methodLink "SlotMat$State" (38 : Nat) ({ cls := "SlotMat$State", name := "sumOf", desc := "(II)I" } : Jvm.MethodName)) ∈ am_WT := am_wt (am_m3 226 rfl) rfl
theorem w_708 : (Jvm.Cond.instanceMethod ({ cls := "SlotMat$State", name := "sumOf", desc := "(II)I" } : Jvm.MethodName)) ∈ am_WT := am_wt (am_m3 228 rfl) rfl
theorem w_709 : (Jvm.Cond.code ({ cls := "SlotMat$State", name := "sumOf", desc := "(II)I" } : Jvm.MethodName) prog_9_method_25_code (5 : Nat) (Option.some Jvm.ClassFile.FieldType.int)) ∈ am_WT := am_wt (am_m3 229 rfl) rfl
theorem w_710 : (Jvm.Cond.methodLink "SlotMat$City" (140 : Nat) ({ cls := "SlotMat$Rule", name := "worth", desc := "([I)I" } : Jvm.MethodName)) ∈ am_WT := am_wt (am_m3 230 rfl) rfl
theorem w_711 : (Jvm.Cond.instanceMethod ({ cls := "SlotMat$Rule", name := "worth", desc := "([I)I" } : Jvm.MethodName)) ∈ am_WT := am_wt (am_m3 231 rfl) rfl
theorem w_712 : (Jvm.Cond.selects "SlotMat$Rule" ({ cls := "SlotMat$Rule", name := "worth", desc := "([I)I" } : Jvm.MethodName) ({ cls := "SlotMat$Rule", name := "worth", desc := "([I)I" } : Jvm.MethodName)) ∈ am_WT := am_wt (am_m3 232 rfl) rfl
theorem w_713 : (Jvm.Cond.code ({ cls := "SlotMat$Rule", name := "worth", desc := "([I)I" } : Jvm.MethodName) prog_7_method_5_code (5 : Nat) (Option.some Jvm.ClassFile.FieldType.int)) ∈ am_WT := am_wt (am_m3 233 rfl) rfl
theorem w_714 : (Jvm.Cond.methodLink "SlotMat$Rule" (22 : Nat) ({ cls := "SlotMat$Rule", name := "joined", desc := "(III)I" } : Jvm.MethodName)) ∈ am_WT := am_wt (am_m3 234 rfl) rfl
theorem w_715 : (Jvm.Cond.static ({ cls := "SlotMat$Rule", name := "joined", desc := "(III)I" } : Jvm.MethodName)) ∈ am_WT := am_wt (am_m3 235 rfl) rfl
theorem w_716 : (Jvm.Cond.code ({ cls := "SlotMat$Rule", name := "joined", desc := "(III)I" } : Jvm.MethodName) prog_7_method_6_code (3 : Nat) (Option.some Jvm.ClassFile.FieldType.int)) ∈ am_WT := am_wt (am_m3 236 rfl) rfl
theorem n_717 : (Jvm.Cond.methodLinkNest "SlotMat$City" (144 : Nat) ({ cls := "SlotMat", name := "keptWithin", desc := "(III)I" } : Jvm.MethodName) "SlotMat") ∈ am_nest := List.mem_filter.mpr ⟨am_m3 237 rfl, rfl⟩
theorem w_718 : (Jvm.Cond.static ({ cls := "SlotMat", name := "keptWithin", desc := "(III)I" } : Jvm.MethodName)) ∈ am_WT := am_wt (am_m3 238 rfl) rfl
theorem w_719 : (Jvm.Cond.code ({ cls := "SlotMat", name := "keptWithin", desc := "(III)I" } : Jvm.MethodName) prog_1_method_61_code (3 : Nat) (Option.some Jvm.ClassFile.FieldType.int)) ∈ am_WT := am_wt (am_m3 239 rfl) rfl
theorem w_720 : (Jvm.Cond.methodLink "SlotMat$City" (107 : Nat) ({ cls := "SlotMat$State", name := "think", desc := "(III)V" } : Jvm.MethodName)) ∈ am_WT := am_wt (am_m4 0 rfl) rfl
theorem w_721 : (Jvm.Cond.instanceMethod ({ cls := "SlotMat$State", name := "think", desc := "(III)V" } : Jvm.MethodName)) ∈ am_WT := am_wt (am_m4 1 rfl) rfl
theorem w_722 : (Jvm.Cond.selects "SlotMat$State" ({ cls := "SlotMat$State", name := "think", desc := "(III)V" } : Jvm.MethodName) ({ cls := "SlotMat$State", name := "think", desc := "(III)V" } : Jvm.MethodName)) ∈ am_WT := am_wt (am_m4 2 rfl) rfl
theorem w_723 : (Jvm.Cond.code ({ cls := "SlotMat$State", name := "think", desc := "(III)V" } : Jvm.MethodName) prog_9_method_22_code (5 : Nat) (Option.none : Option Jvm.ClassFile.FieldType)) ∈ am_WT := am_wt (am_m4 3 rfl) rfl
theorem w_724 : (Jvm.Cond.methodLink "SlotMat$State" (42 : Nat) ({ cls := "java/lang/Math", name := "min", desc := "(II)I" } : Jvm.MethodName)) ∈ am_WT := am_wt (am_m4 4 rfl) rfl
theorem w_725 : (Jvm.Cond.methodLink "SlotMat$City" (111 : Nat) ({ cls := "SlotMat$State", name := "onStrike", desc := "()Z" } : Jvm.MethodName)) ∈ am_WT := am_wt (am_m4 5 rfl) rfl
theorem w_726 : (Jvm.Cond.instanceMethod ({ cls := "SlotMat$State", name := "onStrike", desc := "()Z" } : Jvm.MethodName)) ∈ am_WT := am_wt (am_m4 6 rfl) rfl
theorem w_727 : (Jvm.Cond.selects "SlotMat$State" ({ cls := "SlotMat$State", name := "onStrike", desc := "()Z" } : Jvm.MethodName) ({ cls := "SlotMat$State", name := "onStrike", desc := "()Z" } : Jvm.MethodName)) ∈ am_WT := am_wt (am_m4 7 rfl) rfl
theorem w_728 : (Jvm.Cond.code ({ cls := "SlotMat$State", name := "onStrike", desc := "()Z" } : Jvm.MethodName) prog_9_method_7_code (1 : Nat) (Option.some Jvm.ClassFile.FieldType.boolean)) ∈ am_WT := am_wt (am_m4 8 rfl) rfl
theorem w_729 : (Jvm.Cond.methodLink "SlotMat$City" (115 : Nat) ({ cls := "SlotMat$City", name := "fetchAll", desc := "(LSlotMat$State;II)I" } : Jvm.MethodName)) ∈ am_WT := am_wt (am_m4 9 rfl) rfl
theorem w_731 : (Jvm.Cond.instanceMethod ({ cls := "SlotMat$City", name := "fetchAll", desc := "(LSlotMat$State;II)I" } : Jvm.MethodName)) ∈ am_WT := am_wt (am_m4 11 rfl) rfl
theorem w_732 : (Jvm.Cond.code ({ cls := "SlotMat$City", name := "fetchAll", desc := "(LSlotMat$State;II)I" } : Jvm.MethodName) prog_3_method_14_code (10 : Nat) (Option.some Jvm.ClassFile.FieldType.int)) ∈ am_WT := am_wt (am_m4 12 rfl) rfl
theorem w_733 : (Jvm.Cond.methodLink "SlotMat$City" (148 : Nat) ({ cls := "SlotMat$State", name := "heldOf", desc := "(II)I" } : Jvm.MethodName)) ∈ am_WT := am_wt (am_m4 13 rfl) rfl
theorem w_734 : (Jvm.Cond.instanceMethod ({ cls := "SlotMat$State", name := "heldOf", desc := "(II)I" } : Jvm.MethodName)) ∈ am_WT := am_wt (am_m4 14 rfl) rfl
theorem w_735 : (Jvm.Cond.selects "SlotMat$State" ({ cls := "SlotMat$State", name := "heldOf", desc := "(II)I" } : Jvm.MethodName) ({ cls := "SlotMat$State", name := "heldOf", desc := "(II)I" } : Jvm.MethodName)) ∈ am_WT := am_wt (am_m4 15 rfl) rfl
theorem w_736 : (Jvm.Cond.code ({ cls := "SlotMat$State", name := "heldOf", desc := "(II)I" } : Jvm.MethodName) prog_9_method_19_code (3 : Nat) (Option.some Jvm.ClassFile.FieldType.int)) ∈ am_WT := am_wt (am_m4 16 rfl) rfl
theorem w_737 : (Jvm.Cond.methodLink "SlotMat$City" (151 : Nat) ({ cls := "SlotMat$State", name := "atOf", desc := "(I)I" } : Jvm.MethodName)) ∈ am_WT := am_wt (am_m4 17 rfl) rfl
theorem w_738 : (Jvm.Cond.instanceMethod ({ cls := "SlotMat$State", name := "atOf", desc := "(I)I" } : Jvm.MethodName)) ∈ am_WT := am_wt (am_m4 18 rfl) rfl
theorem w_739 : (Jvm.Cond.selects "SlotMat$State" ({ cls := "SlotMat$State", name := "atOf", desc := "(I)I" } : Jvm.MethodName) ({ cls := "SlotMat$State", name := "atOf", desc := "(I)I" } : Jvm.MethodName)) ∈ am_WT := am_wt (am_m4 19 rfl) rfl
theorem w_740 : (Jvm.Cond.code ({ cls := "SlotMat$State", name := "atOf", desc := "(I)I" } : Jvm.MethodName) prog_9_method_17_code (2 : Nat) (Option.some Jvm.ClassFile.FieldType.int)) ∈ am_WT := am_wt (am_m4 20 rfl) rfl
theorem w_741 : (Jvm.Cond.methodLink "SlotMat$City" (79 : Nat) ({ cls := "java/lang/Math", name := "abs", desc := "(I)I" } : Jvm.MethodName)) ∈ am_WT := am_wt (am_m4 21 rfl) rfl
theorem w_742 : (Jvm.Cond.static ({ cls := "java/lang/Math", name := "abs", desc := "(I)I" } : Jvm.MethodName)) ∈ am_WT := am_wt (am_m4 22 rfl) rfl
theorem w_743 : (Jvm.Cond.code ({ cls := "java/lang/Math", name := "abs", desc := "(I)I" } : Jvm.MethodName) prog_22_method_59_code (1 : Nat) (Option.some Jvm.ClassFile.FieldType.int)) ∈ am_WT := am_wt (am_m4 23 rfl) rfl
theorem w_744 : (Jvm.Cond.methodLink "SlotMat$City" (154 : Nat) ({ cls := "SlotMat$State", name := "hear", desc := "(II)V" } : Jvm.MethodName)) ∈ am_WT := am_wt (am_m4 24 rfl) rfl
theorem w_745 : (Jvm.Cond.instanceMethod ({ cls := "SlotMat$State", name := "hear", desc := "(II)V" } : Jvm.MethodName)) ∈ am_WT := am_wt (am_m4 25 rfl) rfl
theorem w_746 : (Jvm.Cond.selects "SlotMat$State" ({ cls := "SlotMat$State", name := "hear", desc := "(II)V" } : Jvm.MethodName) ({ cls := "SlotMat$State", name := "hear", desc := "(II)V" } : Jvm.MethodName)) ∈ am_WT := am_wt (am_m4 26 rfl) rfl
theorem w_747 : (Jvm.Cond.code ({ cls := "SlotMat$State", name := "hear", desc := "(II)V" } : Jvm.MethodName) prog_9_method_16_code (3 : Nat) (Option.none : Option Jvm.ClassFile.FieldType)) ∈ am_WT := am_wt (am_m4 27 rfl) rfl
theorem w_748 : (Jvm.Cond.methodLink "SlotMat$City" (157 : Nat) ({ cls := "SlotMat$State", name := "letGo", desc := "(II)V" } : Jvm.MethodName)) ∈ am_WT := am_wt (am_m4 28 rfl) rfl
theorem w_749 : (Jvm.Cond.instanceMethod ({ cls := "SlotMat$State", name := "letGo", desc := "(II)V" } : Jvm.MethodName)) ∈ am_WT := am_wt (am_m4 29 rfl) rfl
theorem w_750 : (Jvm.Cond.selects "SlotMat$State" ({ cls := "SlotMat$State", name := "letGo", desc := "(II)V" } : Jvm.MethodName) ({ cls := "SlotMat$State", name := "letGo", desc := "(II)V" } : Jvm.MethodName)) ∈ am_WT := am_wt (am_m4 30 rfl) rfl
theorem w_751 : (Jvm.Cond.code ({ cls := "SlotMat$State", name := "letGo", desc := "(II)V" } : Jvm.MethodName) prog_9_method_23_code (4 : Nat) (Option.none : Option Jvm.ClassFile.FieldType)) ∈ am_WT := am_wt (am_m4 31 rfl) rfl
theorem w_752 : (Jvm.Cond.methodLink "SlotMat$State" (47 : Nat) ({ cls := "java/lang/Math", name := "max", desc := "(II)I" } : Jvm.MethodName)) ∈ am_WT := am_wt (am_m4 32 rfl) rfl
theorem w_753 : (Jvm.Cond.methodLink "SlotMat$City" (124 : Nat) ({ cls := "SlotMat$State", name := "setRed", desc := "(II)V" } : Jvm.MethodName)) ∈ am_WT := am_wt (am_m4 33 rfl) rfl
theorem w_754 : (Jvm.Cond.instanceMethod ({ cls := "SlotMat$State", name := "setRed", desc := "(II)V" } : Jvm.MethodName)) ∈ am_WT := am_wt (am_m4 34 rfl) rfl
theorem w_755 : (Jvm.Cond.selects "SlotMat$State" ({ cls := "SlotMat$State", name := "setRed", desc := "(II)V" } : Jvm.MethodName) ({ cls := "SlotMat$State", name := "setRed", desc := "(II)V" } : Jvm.MethodName)) ∈ am_WT := am_wt (am_m4 35 rfl) rfl
theorem w_756 : (Jvm.Cond.code ({ cls := "SlotMat$State", name := "setRed", desc := "(II)V" } : Jvm.MethodName) prog_9_method_10_code (3 : Nat) (Option.none : Option Jvm.ClassFile.FieldType)) ∈ am_WT := am_wt (am_m4 36 rfl) rfl
theorem w_757 : (Jvm.Cond.methodLink "SlotMat$City" (128 : Nat) ({ cls := "SlotMat$State", name := "nextDay", desc := "()V" } : Jvm.MethodName)) ∈ am_WT := am_wt (am_m4 37 rfl) rfl
theorem w_758 : (Jvm.Cond.instanceMethod ({ cls := "SlotMat$State", name := "nextDay", desc := "()V" } : Jvm.MethodName)) ∈ am_WT := am_wt (am_m4 38 rfl) rfl
theorem w_759 : (Jvm.Cond.selects "SlotMat$State" ({ cls := "SlotMat$State", name := "nextDay", desc := "()V" } : Jvm.MethodName) ({ cls := "SlotMat$State", name := "nextDay", desc := "()V" } : Jvm.MethodName)) ∈ am_WT := am_wt (am_m4 39 rfl) rfl
theorem w_760 : (Jvm.Cond.code ({ cls := "SlotMat$State", name := "nextDay", desc := "()V" } : Jvm.MethodName) prog_9_method_6_code (1 : Nat) (Option.none : Option Jvm.ClassFile.FieldType)) ∈ am_WT := am_wt (am_m4 40 rfl) rfl
theorem w_761 : (Jvm.Cond.methodLink "SlotMatLaw" (159 : Nat) ({ cls := "SlotMat", name := "strike", desc := "(Z)Z" } : Jvm.MethodName)) ∈ am_WT := am_wt (am_m4 41 rfl) rfl
theorem w_762 : (Jvm.Cond.instanceMethod ({ cls := "SlotMat", name := "strike", desc := "(Z)Z" } : Jvm.MethodName)) ∈ am_WT := am_wt (am_m4 42 rfl) rfl
theorem w_763 : (Jvm.Cond.selects "SlotMat" ({ cls := "SlotMat", name := "strike", desc := "(Z)Z" } : Jvm.MethodName) ({ cls := "SlotMat", name := "strike", desc := "(Z)Z" } : Jvm.MethodName)) ∈ am_WT := am_wt (am_m4 43 rfl) rfl
theorem w_764 : (Jvm.Cond.code ({ cls := "SlotMat", name := "strike", desc := "(Z)Z" } : Jvm.MethodName) prog_1_method_14_code (2 : Nat) (Option.some Jvm.ClassFile.FieldType.boolean)) ∈ am_WT := am_wt (am_m4 44 rfl) rfl
theorem w_765 : (Jvm.Cond.methodLink "SlotMat" (135 : Nat) ({ cls := "SlotMat$State", name := "onStrike", desc := "()Z" } : Jvm.MethodName)) ∈ am_WT := am_wt (am_m4 45 rfl) rfl
theorem w_766 : (Jvm.Cond.methodLink "SlotMat" (231 : Nat) ({ cls := "SlotMat$State", name := "setStrike", desc := "(Z)V" } : Jvm.MethodName)) ∈ am_WT := am_wt (am_m4 46 rfl) rfl
theorem w_767 : (Jvm.Cond.instanceMethod ({ cls := "SlotMat$State", name := "setStrike", desc := "(Z)V" } : Jvm.MethodName)) ∈ am_WT := am_wt (am_m4 47 rfl) rfl
theorem w_768 : (Jvm.Cond.selects "SlotMat$State" ({ cls := "SlotMat$State", name := "setStrike", desc := "(Z)V" } : Jvm.MethodName) ({ cls := "SlotMat$State", name := "setStrike", desc := "(Z)V" } : Jvm.MethodName)) ∈ am_WT := am_wt (am_m4 48 rfl) rfl
theorem w_769 : (Jvm.Cond.code ({ cls := "SlotMat$State", name := "setStrike", desc := "(Z)V" } : Jvm.MethodName) prog_9_method_8_code (2 : Nat) (Option.none : Option Jvm.ClassFile.FieldType)) ∈ am_WT := am_wt (am_m4 49 rfl) rfl
theorem w_770 : (Jvm.Cond.methodLink "SlotMatLaw" (164 : Nat) ({ cls := "SlotMat", name := "undo", desc := "()I" } : Jvm.MethodName)) ∈ am_WT := am_wt (am_m4 50 rfl) rfl
theorem w_771 : (Jvm.Cond.instanceMethod ({ cls := "SlotMat", name := "undo", desc := "()I" } : Jvm.MethodName)) ∈ am_WT := am_wt (am_m4 51 rfl) rfl
theorem w_772 : (Jvm.Cond.selects "SlotMat" ({ cls := "SlotMat", name := "undo", desc := "()I" } : Jvm.MethodName) ({ cls := "SlotMat", name := "undo", desc := "()I" } : Jvm.MethodName)) ∈ am_WT := am_wt (am_m4 52 rfl) rfl
theorem w_773 : (Jvm.Cond.code ({ cls := "SlotMat", name := "undo", desc := "()I" } : Jvm.MethodName) prog_1_method_15_code (1 : Nat) (Option.some Jvm.ClassFile.FieldType.int)) ∈ am_WT := am_wt (am_m4 53 rfl) rfl
theorem w_774 : (Jvm.Cond.methodLink "SlotMat" (235 : Nat) ({ cls := "SlotMat$Acts", name := "takeBack", desc := "(LSlotMat$State;)V" } : Jvm.MethodName)) ∈ am_WT := am_wt (am_m4 54 rfl) rfl
theorem w_775 : (Jvm.Cond.instanceMethod ({ cls := "SlotMat$Acts", name := "takeBack", desc := "(LSlotMat$State;)V" } : Jvm.MethodName)) ∈ am_WT := am_wt (am_m4 55 rfl) rfl
theorem w_776 : (Jvm.Cond.selects "SlotMat$Acts" ({ cls := "SlotMat$Acts", name := "takeBack", desc := "(LSlotMat$State;)V" } : Jvm.MethodName) ({ cls := "SlotMat$Acts", name := "takeBack", desc := "(LSlotMat$State;)V" } : Jvm.MethodName)) ∈ am_WT := am_wt (am_m4 56 rfl) rfl
theorem w_777 : (Jvm.Cond.code ({ cls := "SlotMat$Acts", name := "takeBack", desc := "(LSlotMat$State;)V" } : Jvm.MethodName) prog_2_method_4_code (2 : Nat) (Option.none : Option Jvm.ClassFile.FieldType)) ∈ am_WT := am_wt (am_m4 57 rfl) rfl
theorem w_778 : (Jvm.Cond.methodLink "SlotMatLaw" (202 : Nat) ({ cls := "SlotMat", name := "forget", desc := "()V" } : Jvm.MethodName)) ∈ am_WT := am_wt (am_m4 58 rfl) rfl
theorem w_779 : (Jvm.Cond.instanceMethod ({ cls := "SlotMat", name := "forget", desc := "()V" } : Jvm.MethodName)) ∈ am_WT := am_wt (am_m4 59 rfl) rfl
theorem w_780 : (Jvm.Cond.selects "SlotMat" ({ cls := "SlotMat", name := "forget", desc := "()V" } : Jvm.MethodName) ({ cls := "SlotMat", name := "forget", desc := "()V" } : Jvm.MethodName)) ∈ am_WT := am_wt (am_m4 60 rfl) rfl
theorem w_781 : (Jvm.Cond.code ({ cls := "SlotMat", name := "forget", desc := "()V" } : Jvm.MethodName) prog_1_method_28_code (1 : Nat) (Option.none : Option Jvm.ClassFile.FieldType)) ∈ am_WT := am_wt (am_m4 61 rfl) rfl
theorem w_782 : (Jvm.Cond.methodLink "SlotMat" (120 : Nat) ({ cls := "SlotMat$Notes", name := "clearAll", desc := "()V" } : Jvm.MethodName)) ∈ am_WT := am_wt (am_m4 62 rfl) rfl
theorem w_783 : (Jvm.Cond.instanceMethod ({ cls := "SlotMat$Notes", name := "clearAll", desc := "()V" } : Jvm.MethodName)) ∈ am_WT := am_wt (am_m4 63 rfl) rfl
theorem w_784 : (Jvm.Cond.selects "SlotMat$Notes" ({ cls := "SlotMat$Notes", name := "clearAll", desc := "()V" } : Jvm.MethodName) ({ cls := "SlotMat$Notes", name := "clearAll", desc := "()V" } : Jvm.MethodName)) ∈ am_WT := am_wt (am_m4 64 rfl) rfl
theorem w_785 : (Jvm.Cond.code ({ cls := "SlotMat$Notes", name := "clearAll", desc := "()V" } : Jvm.MethodName) prog_5_method_2_code (1 : Nat) (Option.none : Option Jvm.ClassFile.FieldType)) ∈ am_WT := am_wt (am_m4 65 rfl) rfl
theorem w_786 : (Jvm.Cond.methodLink "SlotMatLaw" (234 : Nat) ({ cls := "SlotMat", name := "middle", desc := "()I" } : Jvm.MethodName)) ∈ am_WT := am_wt (am_m4 66 rfl) rfl
theorem w_787 : (Jvm.Cond.instanceMethod ({ cls := "SlotMat", name := "middle", desc := "()I" } : Jvm.MethodName)) ∈ am_WT := am_wt (am_m4 67 rfl) rfl
theorem w_788 : (Jvm.Cond.selects "SlotMat" ({ cls := "SlotMat", name := "middle", desc := "()I" } : Jvm.MethodName) ({ cls := "SlotMat", name := "middle", desc := "()I" } : Jvm.MethodName)) ∈ am_WT := am_wt (am_m4 68 rfl) rfl
theorem w_789 : (Jvm.Cond.code ({ cls := "SlotMat", name := "middle", desc := "()I" } : Jvm.MethodName) prog_1_method_51_code (1 : Nat) (Option.some Jvm.ClassFile.FieldType.int)) ∈ am_WT := am_wt (am_m4 69 rfl) rfl
theorem w_790 : (Jvm.Cond.methodLink "SlotMat" (269 : Nat) ({ cls := "SlotMat$City", name := "bestPlace", desc := "(Z)I" } : Jvm.MethodName)) ∈ am_WT := am_wt (am_m4 70 rfl) rfl
theorem w_791 : (Jvm.Cond.instanceMethod ({ cls := "SlotMat$City", name := "bestPlace", desc := "(Z)I" } : Jvm.MethodName)) ∈ am_WT := am_wt (am_m4 71 rfl) rfl
theorem w_792 : (Jvm.Cond.selects "SlotMat$City" ({ cls := "SlotMat$City", name := "bestPlace", desc := "(Z)I" } : Jvm.MethodName) ({ cls := "SlotMat$City", name := "bestPlace", desc := "(Z)I" } : Jvm.MethodName)) ∈ am_WT := am_wt (am_m4 72 rfl) rfl
theorem w_793 : (Jvm.Cond.code ({ cls := "SlotMat$City", name := "bestPlace", desc := "(Z)I" } : Jvm.MethodName) prog_3_method_29_code (6 : Nat) (Option.some Jvm.ClassFile.FieldType.int)) ∈ am_WT := am_wt (am_m4 73 rfl) rfl
theorem w_794 : (Jvm.Cond.methodLink "SlotMat$City" (180 : Nat) ({ cls := "SlotMat$City", name := "waysWith", desc := "(IZ)I" } : Jvm.MethodName)) ∈ am_WT := am_wt (am_m4 74 rfl) rfl
theorem w_795 : (Jvm.Cond.instanceMethod ({ cls := "SlotMat$City", name := "waysWith", desc := "(IZ)I" } : Jvm.MethodName)) ∈ am_WT := am_wt (am_m4 75 rfl) rfl
theorem w_796 : (Jvm.Cond.selects "SlotMat$City" ({ cls := "SlotMat$City", name := "waysWith", desc := "(IZ)I" } : Jvm.MethodName) ({ cls := "SlotMat$City", name := "waysWith", desc := "(IZ)I" } : Jvm.MethodName)) ∈ am_WT := am_wt (am_m4 76 rfl) rfl
theorem w_797 : (Jvm.Cond.code ({ cls := "SlotMat$City", name := "waysWith", desc := "(IZ)I" } : Jvm.MethodName) prog_3_method_30_code (7 : Nat) (Option.some Jvm.ClassFile.FieldType.int)) ∈ am_WT := am_wt (am_m4 77 rfl) rfl
theorem w_798 : (Jvm.Cond.methodLink "SlotMat$City" (184 : Nat) ({ cls := "java/lang/Math", name := "min", desc := "(II)I" } : Jvm.MethodName)) ∈ am_WT := am_wt (am_m4 78 rfl) rfl
theorem w_799 : (Jvm.Cond.methodLink "SlotMatLaw" (247 : Nat) ({ cls := "SlotMat", name := "image", desc := "()V" } : Jvm.MethodName)) ∈ am_WT := am_wt (am_m4 79 rfl) rfl
theorem w_800 : (Jvm.Cond.instanceMethod ({ cls := "SlotMat", name := "image", desc := "()V" } : Jvm.MethodName)) ∈ am_WT := am_wt (am_m4 80 rfl) rfl
theorem w_801 : (Jvm.Cond.selects "SlotMat" ({ cls := "SlotMat", name := "image", desc := "()V" } : Jvm.MethodName) ({ cls := "SlotMat", name := "image", desc := "()V" } : Jvm.MethodName)) ∈ am_WT := am_wt (am_m4 81 rfl) rfl
theorem w_802 : (Jvm.Cond.code ({ cls := "SlotMat", name := "image", desc := "()V" } : Jvm.MethodName) prog_1_method_55_code (1 : Nat) (Option.none : Option Jvm.ClassFile.FieldType)) ∈ am_WT := am_wt (am_m4 82 rfl) rfl
theorem w_803 : (Jvm.Cond.methodLink "SlotMat" (248 : Nat) ({ cls := "SlotMat$State", name := "copyFrom", desc := "(LSlotMat$State;)V" } : Jvm.MethodName)) ∈ am_WT := am_wt (am_m4 83 rfl) rfl
theorem w_804 : (Jvm.Cond.instanceMethod ({ cls := "SlotMat$State", name := "copyFrom", desc := "(LSlotMat$State;)V" } : Jvm.MethodName)) ∈ am_WT := am_wt (am_m4 84 rfl) rfl
theorem w_805 : (Jvm.Cond.selects "SlotMat$State" ({ cls := "SlotMat$State", name := "copyFrom", desc := "(LSlotMat$State;)V" } : Jvm.MethodName) ({ cls := "SlotMat$State", name := "copyFrom", desc := "(LSlotMat$State;)V" } : Jvm.MethodName)) ∈ am_WT := am_wt (am_m4 85 rfl) rfl
theorem w_806 : (Jvm.Cond.code ({ cls := "SlotMat$State", name := "copyFrom", desc := "(LSlotMat$State;)V" } : Jvm.MethodName) prog_9_method_3_code (2 : Nat) (Option.none : Option Jvm.ClassFile.FieldType)) ∈ am_WT := am_wt (am_m4 86 rfl) rfl
theorem w_807 : (Jvm.Cond.methodLink "SlotMat$State" (29 : Nat) ({ cls := "java/lang/System", name := "arraycopy", desc := "(Ljava/lang/Object;ILjava/lang/Object;II)V" } : Jvm.MethodName)) ∈ am_WT := am_wt (am_m4 87 rfl) rfl
theorem w_808 : (Jvm.Cond.methodLink "SlotMat" (357 : Nat) ({ cls := "SlotMat$Acts", name := "copyFrom", desc := "(LSlotMat$Acts;)V" } : Jvm.MethodName)) ∈ am_WT := am_wt (am_m4 88 rfl) rfl
theorem w_809 : (Jvm.Cond.instanceMethod ({ cls := "SlotMat$Acts", name := "copyFrom", desc := "(LSlotMat$Acts;)V" } : Jvm.MethodName)) ∈ am_WT := am_wt (am_m4 89 rfl) rfl
theorem w_810 : (Jvm.Cond.selects "SlotMat$Acts" ({ cls := "SlotMat$Acts", name := "copyFrom", desc := "(LSlotMat$Acts;)V" } : Jvm.MethodName) ({ cls := "SlotMat$Acts", name := "copyFrom", desc := "(LSlotMat$Acts;)V" } : Jvm.MethodName)) ∈ am_WT := am_wt (am_m4 90 rfl) rfl
theorem w_811 : (Jvm.Cond.code ({ cls := "SlotMat$Acts", name := "copyFrom", desc := "(LSlotMat$Acts;)V" } : Jvm.MethodName) prog_2_method_5_code (2 : Nat) (Option.none : Option Jvm.ClassFile.FieldType)) ∈ am_WT := am_wt (am_m4 91 rfl) rfl
theorem w_812 : (Jvm.Cond.methodLink "SlotMat" (360 : Nat) ({ cls := "SlotMat$Notes", name := "copyFrom", desc := "(LSlotMat$Notes;)V" } : Jvm.MethodName)) ∈ am_WT := am_wt (am_m4 92 rfl) rfl
theorem w_813 : (Jvm.Cond.instanceMethod ({ cls := "SlotMat$Notes", name := "copyFrom", desc := "(LSlotMat$Notes;)V" } : Jvm.MethodName)) ∈ am_WT := am_wt (am_m4 93 rfl) rfl
theorem w_814 : (Jvm.Cond.selects "SlotMat$Notes" ({ cls := "SlotMat$Notes", name := "copyFrom", desc := "(LSlotMat$Notes;)V" } : Jvm.MethodName) ({ cls := "SlotMat$Notes", name := "copyFrom", desc := "(LSlotMat$Notes;)V" } : Jvm.MethodName)) ∈ am_WT := am_wt (am_m4 94 rfl) rfl
theorem w_815 : (Jvm.Cond.code ({ cls := "SlotMat$Notes", name := "copyFrom", desc := "(LSlotMat$Notes;)V" } : Jvm.MethodName) prog_5_method_4_code (2 : Nat) (Option.none : Option Jvm.ClassFile.FieldType)) ∈ am_WT := am_wt (am_m4 95 rfl) rfl
theorem w_816 : (Jvm.Cond.methodLink "SlotMat$Notes" (25 : Nat) ({ cls := "java/lang/System", name := "arraycopy", desc := "(Ljava/lang/Object;ILjava/lang/Object;II)V" } : Jvm.MethodName)) ∈ am_WT := am_wt (am_m4 96 rfl) rfl
theorem w_817 : (Jvm.Cond.methodLink "SlotMatLaw" (251 : Nat) ({ cls := "SlotMat", name := "restore", desc := "()Z" } : Jvm.MethodName)) ∈ am_WT := am_wt (am_m4 97 rfl) rfl
theorem w_818 : (Jvm.Cond.instanceMethod ({ cls := "SlotMat", name := "restore", desc := "()Z" } : Jvm.MethodName)) ∈ am_WT := am_wt (am_m4 98 rfl) rfl
theorem w_819 : (Jvm.Cond.selects "SlotMat" ({ cls := "SlotMat", name := "restore", desc := "()Z" } : Jvm.MethodName) ({ cls := "SlotMat", name := "restore", desc := "()Z" } : Jvm.MethodName)) ∈ am_WT := am_wt (am_m4 99 rfl) rfl
theorem w_820 : (Jvm.Cond.code ({ cls := "SlotMat", name := "restore", desc := "()Z" } : Jvm.MethodName) prog_1_method_56_code (1 : Nat) (Option.some Jvm.ClassFile.FieldType.boolean)) ∈ am_WT := am_wt (am_m4 100 rfl) rfl
theorem w_821 : (Jvm.Cond.methodLink "SlotMatLaw" (119 : Nat) ({ cls := "SlotMatLaw", name := "city", desc := "(LSlotMat;I[J)I" } : Jvm.MethodName)) ∈ am_WT := am_wt (am_m4 101 rfl) rfl
theorem w_822 : (Jvm.Cond.static ({ cls := "SlotMatLaw", name := "city", desc := "(LSlotMat;I[J)I" } : Jvm.MethodName)) ∈ am_WT := am_wt (am_m4 102 rfl) rfl
theorem w_823 : (Jvm.Cond.codeWith ({ cls := "SlotMatLaw", name := "city", desc := "(LSlotMat;I[J)I" } : Jvm.MethodName) method_3_code (4 : Nat) (Option.some Jvm.ClassFile.FieldType.int) [((0 : Nat), (9 : Nat), (12 : Nat), (13 : Nat))]) ∈ am_WT := am_wt (am_m4 103 rfl) rfl
theorem w_824 : (Jvm.Cond.classLink "SlotMatLaw" (13 : Nat) "java/lang/IllegalArgumentException") ∈ am_WT := am_wt (am_m4 104 rfl) rfl
theorem w_825 : (Jvm.Cond.methodLink "SlotMatLaw" (7 : Nat) ({ cls := "SlotMat", name := "city", desc := "(I)I" } : Jvm.MethodName)) ∈ am_WT := am_wt (am_m4 105 rfl) rfl
theorem w_826 : (Jvm.Cond.instanceMethod ({ cls := "SlotMat", name := "city", desc := "(I)I" } : Jvm.MethodName)) ∈ am_WT := am_wt (am_m4 106 rfl) rfl
theorem w_827 : (Jvm.Cond.selects "SlotMat" ({ cls := "SlotMat", name := "city", desc := "(I)I" } : Jvm.MethodName) ({ cls := "SlotMat", name := "city", desc := "(I)I" } : Jvm.MethodName)) ∈ am_WT := am_wt (am_m4 107 rfl) rfl
theorem w_828 : (Jvm.Cond.code ({ cls := "SlotMat", name := "city", desc := "(I)I" } : Jvm.MethodName) prog_1_method_4_code (4 : Nat) (Option.some Jvm.ClassFile.FieldType.int)) ∈ am_WT := am_wt (am_m4 108 rfl) rfl
theorem w_829 : (Jvm.Cond.classLink "SlotMat" (98 : Nat) "java/lang/IllegalArgumentException") ∈ am_WT := am_wt (am_m4 109 rfl) rfl
theorem w_831 : (Jvm.Cond.methodLink "SlotMat" (102 : Nat) ({ cls := "java/lang/IllegalArgumentException", name := "<init>", desc := "(Ljava/lang/String;)V" } : Jvm.MethodName)) ∈ am_WT := am_wt (am_m4 111 rfl) rfl
theorem w_832 : (Jvm.Cond.methodLink "SlotMat" (105 : Nat) ({ cls := "SlotMat$CityReader", name := "read", desc := "([BILSlotMat$City;)I" } : Jvm.MethodName)) ∈ am_WT := am_wt (am_m4 112 rfl) rfl
theorem w_833 : (Jvm.Cond.instanceMethod ({ cls := "SlotMat$CityReader", name := "read", desc := "([BILSlotMat$City;)I" } : Jvm.MethodName)) ∈ am_WT := am_wt (am_m4 113 rfl) rfl
theorem w_834 : (Jvm.Cond.selects "SlotMat$CityReader" ({ cls := "SlotMat$CityReader", name := "read", desc := "([BILSlotMat$City;)I" } : Jvm.MethodName) ({ cls := "SlotMat$CityReader", name := "read", desc := "([BILSlotMat$City;)I" } : Jvm.MethodName)) ∈ am_WT := am_wt (am_m4 114 rfl) rfl
theorem w_835 : (Jvm.Cond.code ({ cls := "SlotMat$CityReader", name := "read", desc := "([BILSlotMat$City;)I" } : Jvm.MethodName) prog_4_method_2_code (5 : Nat) (Option.some Jvm.ClassFile.FieldType.int)) ∈ am_WT := am_wt (am_m4 115 rfl) rfl
theorem w_836 : (Jvm.Cond.methodLink "SlotMat$CityReader" (25 : Nat) ({ cls := "SlotMat$City", name := "clearAll", desc := "()V" } : Jvm.MethodName)) ∈ am_WT := am_wt (am_m4 116 rfl) rfl
theorem w_837 : (Jvm.Cond.instanceMethod ({ cls := "SlotMat$City", name := "clearAll", desc := "()V" } : Jvm.MethodName)) ∈ am_WT := am_wt (am_m4 117 rfl) rfl
theorem w_838 : (Jvm.Cond.selects "SlotMat$City" ({ cls := "SlotMat$City", name := "clearAll", desc := "()V" } : Jvm.MethodName) ({ cls := "SlotMat$City", name := "clearAll", desc := "()V" } : Jvm.MethodName)) ∈ am_WT := am_wt (am_m4 118 rfl) rfl
theorem w_839 : (Jvm.Cond.code ({ cls := "SlotMat$City", name := "clearAll", desc := "()V" } : Jvm.MethodName) prog_3_method_2_code (1 : Nat) (Option.none : Option Jvm.ClassFile.FieldType)) ∈ am_WT := am_wt (am_m4 119 rfl) rfl
theorem w_840 : (Jvm.Cond.methodLink "SlotMat$City" (62 : Nat) ({ cls := "java/util/Arrays", name := "fill", desc := "([II)V" } : Jvm.MethodName)) ∈ am_WT := am_wt (am_m4 120 rfl) rfl
theorem w_841 : (Jvm.Cond.static ({ cls := "java/util/Arrays", name := "fill", desc := "([II)V" } : Jvm.MethodName)) ∈ am_WT := am_wt (am_m4 121 rfl) rfl
theorem w_842 : (Jvm.Cond.code ({ cls := "java/util/Arrays", name := "fill", desc := "([II)V" } : Jvm.MethodName) prog_33_method_103_code (4 : Nat) (Option.none : Option Jvm.ClassFile.FieldType)) ∈ am_WT := am_wt (am_m4 122 rfl) rfl
theorem w_843 : (Jvm.Cond.methodLink "SlotMat$City" (68 : Nat) ({ cls := "SlotMat$Rule", name := "clearAll", desc := "()V" } : Jvm.MethodName)) ∈ am_WT := am_wt (am_m4 123 rfl) rfl
theorem w_844 : (Jvm.Cond.instanceMethod ({ cls := "SlotMat$Rule", name := "clearAll", desc := "()V" } : Jvm.MethodName)) ∈ am_WT := am_wt (am_m4 124 rfl) rfl
theorem w_845 : (Jvm.Cond.selects "SlotMat$Rule" ({ cls := "SlotMat$Rule", name := "clearAll", desc := "()V" } : Jvm.MethodName) ({ cls := "SlotMat$Rule", name := "clearAll", desc := "()V" } : Jvm.MethodName)) ∈ am_WT := am_wt (am_m4 125 rfl) rfl
theorem w_846 : (Jvm.Cond.code ({ cls := "SlotMat$Rule", name := "clearAll", desc := "()V" } : Jvm.MethodName) prog_7_method_2_code (1 : Nat) (Option.none : Option Jvm.ClassFile.FieldType)) ∈ am_WT := am_wt (am_m4 126 rfl) rfl
theorem w_847 : (Jvm.Cond.methodLink "SlotMat$CityReader" (30 : Nat) ({ cls := "SlotMat$Tokens", name := "start", desc := "([BI)V" } : Jvm.MethodName)) ∈ am_WT := am_wt (am_m4 127 rfl) rfl
theorem w_848 : (Jvm.Cond.instanceMethod ({ cls := "SlotMat$Tokens", name := "start", desc := "([BI)V" } : Jvm.MethodName)) ∈ am_WT := am_wt (am_m4 128 rfl) rfl
theorem w_849 : (Jvm.Cond.selects "SlotMat$Tokens" ({ cls := "SlotMat$Tokens", name := "start", desc := "([BI)V" } : Jvm.MethodName) ({ cls := "SlotMat$Tokens", name := "start", desc := "([BI)V" } : Jvm.MethodName)) ∈ am_WT := am_wt (am_m4 129 rfl) rfl
theorem w_850 : (Jvm.Cond.code ({ cls := "SlotMat$Tokens", name := "start", desc := "([BI)V" } : Jvm.MethodName) prog_10_method_2_code (3 : Nat) (Option.none : Option Jvm.ClassFile.FieldType)) ∈ am_WT := am_wt (am_m4 130 rfl) rfl
theorem w_851 : (Jvm.Cond.methodLink "SlotMat$Tokens" (34 : Nat) ({ cls := "java/lang/Math", name := "min", desc := "(II)I" } : Jvm.MethodName)) ∈ am_WT := am_wt (am_m4 131 rfl) rfl
theorem w_852 : (Jvm.Cond.methodLink "SlotMat$Tokens" (40 : Nat) ({ cls := "SlotMat$Tokens", name := "step", desc := "()V" } : Jvm.MethodName)) ∈ am_WT := am_wt (am_m4 132 rfl) rfl
theorem w_853 : (Jvm.Cond.instanceMethod ({ cls := "SlotMat$Tokens", name := "step", desc := "()V" } : Jvm.MethodName)) ∈ am_WT := am_wt (am_m4 133 rfl) rfl
theorem w_854 : (Jvm.Cond.selects "SlotMat$Tokens" ({ cls := "SlotMat$Tokens", name := "step", desc := "()V" } : Jvm.MethodName) ({ cls := "SlotMat$Tokens", name := "step", desc := "()V" } : Jvm.MethodName)) ∈ am_WT := am_wt (am_m4 134 rfl) rfl
theorem w_855 : (Jvm.Cond.code ({ cls := "SlotMat$Tokens", name := "step", desc := "()V" } : Jvm.MethodName) prog_10_method_5_code (1 : Nat) (Option.none : Option Jvm.ClassFile.FieldType)) ∈ am_WT := am_wt (am_m4 135 rfl) rfl
theorem w_856 : (Jvm.Cond.methodLink "SlotMat$Tokens" (43 : Nat) ({ cls := "SlotMat$Tokens", name := "kindOf", desc := "(I)I" } : Jvm.MethodName)) ∈ am_WT := am_wt (am_m4 136 rfl) rfl
theorem w_857 : (Jvm.Cond.static ({ cls := "SlotMat$Tokens", name := "kindOf", desc := "(I)I" } : Jvm.MethodName)) ∈ am_WT := am_wt (am_m4 137 rfl) rfl
theorem w_858 : (Jvm.Cond.code ({ cls := "SlotMat$Tokens", name := "kindOf", desc := "(I)I" } : Jvm.MethodName) prog_10_method_10_code (1 : Nat) (Option.some Jvm.ClassFile.FieldType.int)) ∈ am_WT := am_wt (am_m4 138 rfl) rfl
theorem w_859 : (Jvm.Cond.methodLink "SlotMat$Tokens" (47 : Nat) ({ cls := "SlotMat$Tokens", name := "numberHere", desc := "()I" } : Jvm.MethodName)) ∈ am_WT := am_wt (am_m4 139 rfl) rfl
theorem w_861 : (Jvm.Cond.instanceMethod ({ cls := "SlotMat$Tokens", name := "numberHere", desc := "()I" } : Jvm.MethodName)) ∈ am_WT := am_wt (am_m4 141 rfl) rfl
theorem w_862 : (Jvm.Cond.code ({ cls := "SlotMat$Tokens", name := "numberHere", desc := "()I" } : Jvm.MethodName) prog_10_method_6_code (3 : Nat) (Option.some Jvm.ClassFile.FieldType.int)) ∈ am_WT := am_wt (am_m4 142 rfl) rfl
theorem w_863 : (Jvm.Cond.methodLink "SlotMat$CityReader" (34 : Nat) ({ cls := "SlotMat$Tokens", name := "isFine", desc := "()Z" } : Jvm.MethodName)) ∈ am_WT := am_wt (am_m4 143 rfl) rfl
theorem w_864 : (Jvm.Cond.instanceMethod ({ cls := "SlotMat$Tokens", name := "isFine", desc := "()Z" } : Jvm.MethodName)) ∈ am_WT := am_wt (am_m4 144 rfl) rfl
theorem w_865 : (Jvm.Cond.selects "SlotMat$Tokens" ({ cls := "SlotMat$Tokens", name := "isFine", desc := "()Z" } : Jvm.MethodName) ({ cls := "SlotMat$Tokens", name := "isFine", desc := "()Z" } : Jvm.MethodName)) ∈ am_WT := am_wt (am_m4 145 rfl) rfl
theorem w_866 : (Jvm.Cond.code ({ cls := "SlotMat$Tokens", name := "isFine", desc := "()Z" } : Jvm.MethodName) prog_10_method_4_code (1 : Nat) (Option.some Jvm.ClassFile.FieldType.boolean)) ∈ am_WT := am_wt (am_m4 146 rfl) rfl
theorem w_867 : (Jvm.Cond.methodLink "SlotMat$CityReader" (42 : Nat) ({ cls := "SlotMat$CityReader", name := "readLine", desc := "(LSlotMat$City;)V" } : Jvm.MethodName)) ∈ am_WT := am_wt (am_m4 147 rfl) rfl
theorem w_869 : (Jvm.Cond.instanceMethod ({ cls := "SlotMat$CityReader", name := "readLine", desc := "(LSlotMat$City;)V" } : Jvm.MethodName)) ∈ am_WT := am_wt (am_m4 149 rfl) rfl
theorem w_870 : (Jvm.Cond.code ({ cls := "SlotMat$CityReader", name := "readLine", desc := "(LSlotMat$City;)V" } : Jvm.MethodName) prog_4_method_4_code (2 : Nat) (Option.none : Option Jvm.ClassFile.FieldType)) ∈ am_WT := am_wt (am_m4 150 rfl) rfl
theorem w_872 : (Jvm.Cond.methodLink "SlotMat$CityReader" (57 : Nat) ({ cls := "SlotMat$Tokens", name := "isWord", desc := "(Ljava/lang/String;)Z" } : Jvm.MethodName)) ∈ am_WT := am_wt (am_m4 152 rfl) rfl
theorem w_873 : (Jvm.Cond.instanceMethod ({ cls := "SlotMat$Tokens", name := "isWord", desc := "(Ljava/lang/String;)Z" } : Jvm.MethodName)) ∈ am_WT := am_wt (am_m4 153 rfl) rfl
theorem w_874 : (Jvm.Cond.selects "SlotMat$Tokens" ({ cls := "SlotMat$Tokens", name := "isWord", desc := "(Ljava/lang/String;)Z" } : Jvm.MethodName) ({ cls := "SlotMat$Tokens", name := "isWord", desc := "(Ljava/lang/String;)Z" } : Jvm.MethodName)) ∈ am_WT := am_wt (am_m4 154 rfl) rfl
theorem w_875 : (Jvm.Cond.code ({ cls := "SlotMat$Tokens", name := "isWord", desc := "(Ljava/lang/String;)Z" } : Jvm.MethodName) prog_10_method_7_code (3 : Nat) (Option.some Jvm.ClassFile.FieldType.boolean)) ∈ am_WT := am_wt (am_m4 155 rfl) rfl
theorem w_876 : (Jvm.Cond.methodLink "SlotMat$Tokens" (51 : Nat) ({ cls := "java/lang/String", name := "length", desc := "()I" } : Jvm.MethodName)) ∈ am_WT := am_wt (am_m4 156 rfl) rfl
theorem w_877 : (Jvm.Cond.methodLink "SlotMat$Tokens" (55 : Nat) ({ cls := "java/lang/String", name := "charAt", desc := "(I)C" } : Jvm.MethodName)) ∈ am_WT := am_wt (am_m4 157 rfl) rfl
theorem w_878 : (Jvm.Cond.instanceMethod ({ cls := "java/lang/String", name := "charAt", desc := "(I)C" } : Jvm.MethodName)) ∈ am_WT := am_wt (am_m4 158 rfl) rfl
theorem w_879 : (Jvm.Cond.selects "java/lang/String" ({ cls := "java/lang/String", name := "charAt", desc := "(I)C" } : Jvm.MethodName) ({ cls := "java/lang/String", name := "charAt", desc := "(I)C" } : Jvm.MethodName)) ∈ am_WT := am_wt (am_m4 159 rfl) rfl
theorem w_880 : (Jvm.Cond.code ({ cls := "java/lang/String", name := "charAt", desc := "(I)C" } : Jvm.MethodName) prog_25_method_56_code (2 : Nat) (Option.some Jvm.ClassFile.FieldType.char)) ∈ am_WT := am_wt (am_m4 160 rfl) rfl
theorem w_881 : (Jvm.Cond.methodLink "java/lang/String" (492 : Nat) ({ cls := "java/lang/String", name := "isLatin1", desc := "()Z" } : Jvm.MethodName)) ∈ am_WT := am_wt (am_m4 161 rfl) rfl
theorem w_882 : (Jvm.Cond.instanceMethod ({ cls := "java/lang/String", name := "isLatin1", desc := "()Z" } : Jvm.MethodName)) ∈ am_WT := am_wt (am_m4 162 rfl) rfl
theorem w_883 : (Jvm.Cond.selects "java/lang/String" ({ cls := "java/lang/String", name := "isLatin1", desc := "()Z" } : Jvm.MethodName) ({ cls := "java/lang/String", name := "isLatin1", desc := "()Z" } : Jvm.MethodName)) ∈ am_WT := am_wt (am_m4 163 rfl) rfl
theorem w_884 : (Jvm.Cond.code ({ cls := "java/lang/String", name := "isLatin1", desc := "()Z" } : Jvm.MethodName) prog_25_method_154_code (1 : Nat) (Option.some Jvm.ClassFile.FieldType.boolean)) ∈ am_WT := am_wt (am_m4 164 rfl) rfl
theorem w_885 : (Jvm.Cond.methodLink "java/lang/String" (495 : Nat) ({ cls := "java/lang/StringLatin1", name := "charAt", desc := "([BI)C" } : Jvm.MethodName)) ∈ am_WT := am_wt (am_m4 165 rfl) rfl
theorem w_886 : (Jvm.Cond.static ({ cls := "java/lang/StringLatin1", name := "charAt", desc := "([BI)C" } : Jvm.MethodName)) ∈ am_WT := am_wt (am_m4 166 rfl) rfl
theorem w_887 : (Jvm.Cond.code ({ cls := "java/lang/StringLatin1", name := "charAt", desc := "([BI)C" } : Jvm.MethodName) prog_27_method_2_code (2 : Nat) (Option.some Jvm.ClassFile.FieldType.char)) ∈ am_WT := am_wt (am_m4 167 rfl) rfl
theorem w_888 : (Jvm.Cond.methodLink "java/lang/StringLatin1" (9 : Nat) ({ cls := "java/lang/String", name := "checkIndex", desc := "(II)V" } : Jvm.MethodName)) ∈ am_WT := am_wt (am_m4 168 rfl) rfl
theorem w_889 : (Jvm.Cond.static ({ cls := "java/lang/String", name := "checkIndex", desc := "(II)V" } : Jvm.MethodName)) ∈ am_WT := am_wt (am_m4 169 rfl) rfl
theorem w_890 : (Jvm.Cond.code ({ cls := "java/lang/String", name := "checkIndex", desc := "(II)V" } : Jvm.MethodName) prog_25_method_155_code (2 : Nat) (Option.none : Option Jvm.ClassFile.FieldType)) ∈ am_WT := am_wt (am_m4 170 rfl) rfl
theorem w_891 : (Jvm.Cond.methodLink "java/lang/String" (1059 : Nat) ({ cls := "jdk/internal/util/Preconditions", name := "checkIndex", desc := "(IILjava/util/function/BiFunction;)I" } : Jvm.MethodName)) ∈ am_WT := am_wt (am_m4 171 rfl) rfl
theorem w_892 : (Jvm.Cond.static ({ cls := "jdk/internal/util/Preconditions", name := "checkIndex", desc := "(IILjava/util/function/BiFunction;)I" } : Jvm.MethodName)) ∈ am_WT := am_wt (am_m4 172 rfl) rfl
theorem w_893 : (Jvm.Cond.code ({ cls := "jdk/internal/util/Preconditions", name := "checkIndex", desc := "(IILjava/util/function/BiFunction;)I" } : Jvm.MethodName) prog_36_method_11_code (3 : Nat) (Option.some Jvm.ClassFile.FieldType.int)) ∈ am_WT := am_wt (am_m4 173 rfl) rfl
theorem w_894 : (Jvm.Cond.methodLink "java/lang/String" (498 : Nat) ({ cls := "java/lang/StringUTF16", name := "charAt", desc := "([BI)C" } : Jvm.MethodName)) ∈ am_WT := am_wt (am_m4 174 rfl) rfl
theorem w_895 : (Jvm.Cond.static ({ cls := "java/lang/StringUTF16", name := "charAt", desc := "([BI)C" } : Jvm.MethodName)) ∈ am_WT := am_wt (am_m4 175 rfl) rfl
theorem w_896 : (Jvm.Cond.code ({ cls := "java/lang/StringUTF16", name := "charAt", desc := "([BI)C" } : Jvm.MethodName) prog_28_method_83_code (2 : Nat) (Option.some Jvm.ClassFile.FieldType.char)) ∈ am_WT := am_wt (am_m4 176 rfl) rfl
theorem w_897 : (Jvm.Cond.methodLink "java/lang/StringUTF16" (67 : Nat) ({ cls := "java/lang/StringUTF16", name := "checkIndex", desc := "(I[B)V" } : Jvm.MethodName)) ∈ am_WT := am_wt (am_m4 177 rfl) rfl
theorem w_898 : (Jvm.Cond.static ({ cls := "java/lang/StringUTF16", name := "checkIndex", desc := "(I[B)V" } : Jvm.MethodName)) ∈ am_WT := am_wt (am_m4 178 rfl) rfl
theorem w_899 : (Jvm.Cond.code ({ cls := "java/lang/StringUTF16", name := "checkIndex", desc := "(I[B)V" } : Jvm.MethodName) prog_28_method_91_code (2 : Nat) (Option.none : Option Jvm.ClassFile.FieldType)) ∈ am_WT := am_wt (am_m4 179 rfl) rfl
theorem w_900 : (Jvm.Cond.methodLink "java/lang/StringUTF16" (414 : Nat) ({ cls := "java/lang/String", name := "checkIndex", desc := "(II)V" } : Jvm.MethodName)) ∈ am_WT := am_wt (am_m4 180 rfl) rfl
theorem w_901 : (Jvm.Cond.methodLink "SlotMat$CityReader" (61 : Nat) ({ cls := "SlotMat$CityReader", name := "readBox", desc := "(LSlotMat$City;)V" } : Jvm.MethodName)) ∈ am_WT := am_wt (am_m4 181 rfl) rfl
theorem w_903 : (Jvm.Cond.instanceMethod ({ cls := "SlotMat$CityReader", name := "readBox", desc := "(LSlotMat$City;)V" } : Jvm.MethodName)) ∈ am_WT := am_wt (am_m4 183 rfl) rfl
theorem w_904 : (Jvm.Cond.code ({ cls := "SlotMat$CityReader", name := "readBox", desc := "(LSlotMat$City;)V" } : Jvm.MethodName) prog_4_method_5_code (4 : Nat) (Option.none : Option Jvm.ClassFile.FieldType)) ∈ am_WT := am_wt (am_m4 184 rfl) rfl
theorem w_905 : (Jvm.Cond.methodLink "SlotMat$CityReader" (92 : Nat) ({ cls := "SlotMat$Tokens", name := "fail", desc := "(I)V" } : Jvm.MethodName)) ∈ am_WT := am_wt (am_m4 185 rfl) rfl
theorem w_906 : (Jvm.Cond.instanceMethod ({ cls := "SlotMat$Tokens", name := "fail", desc := "(I)V" } : Jvm.MethodName)) ∈ am_WT := am_wt (am_m4 186 rfl) rfl
theorem w_907 : (Jvm.Cond.selects "SlotMat$Tokens" ({ cls := "SlotMat$Tokens", name := "fail", desc := "(I)V" } : Jvm.MethodName) ({ cls := "SlotMat$Tokens", name := "fail", desc := "(I)V" } : Jvm.MethodName)) ∈ am_WT := am_wt (am_m4 187 rfl) rfl
theorem w_908 : (Jvm.Cond.code ({ cls := "SlotMat$Tokens", name := "fail", desc := "(I)V" } : Jvm.MethodName) prog_10_method_3_code (2 : Nat) (Option.none : Option Jvm.ClassFile.FieldType)) ∈ am_WT := am_wt (am_m4 188 rfl) rfl
theorem w_909 : (Jvm.Cond.methodLink "SlotMat$CityReader" (102 : Nat) ({ cls := "SlotMat$Tokens", name := "step", desc := "()V" } : Jvm.MethodName)) ∈ am_WT := am_wt (am_m4 189 rfl) rfl
theorem w_910 : (Jvm.Cond.methodLink "SlotMat$CityReader" (105 : Nat) ({ cls := "SlotMat$Tokens", name := "takeNumber", desc := "(I)I" } : Jvm.MethodName)) ∈ am_WT := am_wt (am_m4 190 rfl) rfl
theorem w_911 : (Jvm.Cond.instanceMethod ({ cls := "SlotMat$Tokens", name := "takeNumber", desc := "(I)I" } : Jvm.MethodName)) ∈ am_WT := am_wt (am_m4 191 rfl) rfl
theorem w_912 : (Jvm.Cond.selects "SlotMat$Tokens" ({ cls := "SlotMat$Tokens", name := "takeNumber", desc := "(I)I" } : Jvm.MethodName) ({ cls := "SlotMat$Tokens", name := "takeNumber", desc := "(I)I" } : Jvm.MethodName)) ∈ am_WT := am_wt (am_m4 192 rfl) rfl
theorem w_913 : (Jvm.Cond.code ({ cls := "SlotMat$Tokens", name := "takeNumber", desc := "(I)I" } : Jvm.MethodName) prog_10_method_8_code (3 : Nat) (Option.some Jvm.ClassFile.FieldType.int)) ∈ am_WT := am_wt (am_m4 193 rfl) rfl
theorem w_914 : (Jvm.Cond.methodLink "SlotMat$Tokens" (59 : Nat) ({ cls := "SlotMat$Tokens", name := "fail", desc := "(I)V" } : Jvm.MethodName)) ∈ am_WT := am_wt (am_m4 194 rfl) rfl
theorem w_915 : (Jvm.Cond.methodLink "SlotMat$CityReader" (109 : Nat) ({ cls := "SlotMat$City", name := "addBox", desc := "(II)V" } : Jvm.MethodName)) ∈ am_WT := am_wt (am_m4 195 rfl) rfl
theorem w_916 : (Jvm.Cond.instanceMethod ({ cls := "SlotMat$City", name := "addBox", desc := "(II)V" } : Jvm.MethodName)) ∈ am_WT := am_wt (am_m4 196 rfl) rfl
theorem w_917 : (Jvm.Cond.selects "SlotMat$City" ({ cls := "SlotMat$City", name := "addBox", desc := "(II)V" } : Jvm.MethodName) ({ cls := "SlotMat$City", name := "addBox", desc := "(II)V" } : Jvm.MethodName)) ∈ am_WT := am_wt (am_m4 197 rfl) rfl
theorem w_918 : (Jvm.Cond.code ({ cls := "SlotMat$City", name := "addBox", desc := "(II)V" } : Jvm.MethodName) prog_3_method_3_code (3 : Nat) (Option.none : Option Jvm.ClassFile.FieldType)) ∈ am_WT := am_wt (am_m4 198 rfl) rfl
theorem w_920 : (Jvm.Cond.methodLink "SlotMat$CityReader" (66 : Nat) ({ cls := "SlotMat$CityReader", name := "readPerson", desc := "(LSlotMat$City;)V" } : Jvm.MethodName)) ∈ am_WT := am_wt (am_m4 200 rfl) rfl
theorem w_922 : (Jvm.Cond.instanceMethod ({ cls := "SlotMat$CityReader", name := "readPerson", desc := "(LSlotMat$City;)V" } : Jvm.MethodName)) ∈ am_WT := am_wt (am_m4 202 rfl) rfl
theorem w_923 : (Jvm.Cond.code ({ cls := "SlotMat$CityReader", name := "readPerson", desc := "(LSlotMat$City;)V" } : Jvm.MethodName) prog_4_method_6_code (5 : Nat) (Option.none : Option Jvm.ClassFile.FieldType)) ∈ am_WT := am_wt (am_m4 203 rfl) rfl
theorem w_925 : (Jvm.Cond.methodLink "SlotMat$CityReader" (118 : Nat) ({ cls := "SlotMat$CityReader", name := "readAt", desc := "(I)I" } : Jvm.MethodName)) ∈ am_WT := am_wt (am_m4 205 rfl) rfl
theorem w_927 : (Jvm.Cond.instanceMethod ({ cls := "SlotMat$CityReader", name := "readAt", desc := "(I)I" } : Jvm.MethodName)) ∈ am_WT := am_wt (am_m4 207 rfl) rfl
theorem w_928 : (Jvm.Cond.code ({ cls := "SlotMat$CityReader", name := "readAt", desc := "(I)I" } : Jvm.MethodName) prog_4_method_7_code (2 : Nat) (Option.some Jvm.ClassFile.FieldType.int)) ∈ am_WT := am_wt (am_m4 208 rfl) rfl
theorem w_929 : (Jvm.Cond.methodLink "SlotMat$CityReader" (121 : Nat) ({ cls := "SlotMat$City", name := "addPerson", desc := "(III)V" } : Jvm.MethodName)) ∈ am_WT := am_wt (am_m4 209 rfl) rfl
theorem w_930 : (Jvm.Cond.instanceMethod ({ cls := "SlotMat$City", name := "addPerson", desc := "(III)V" } : Jvm.MethodName)) ∈ am_WT := am_wt (am_m4 210 rfl) rfl
theorem w_931 : (Jvm.Cond.selects "SlotMat$City" ({ cls := "SlotMat$City", name := "addPerson", desc := "(III)V" } : Jvm.MethodName) ({ cls := "SlotMat$City", name := "addPerson", desc := "(III)V" } : Jvm.MethodName)) ∈ am_WT := am_wt (am_m4 211 rfl) rfl
theorem w_932 : (Jvm.Cond.code ({ cls := "SlotMat$City", name := "addPerson", desc := "(III)V" } : Jvm.MethodName) prog_3_method_4_code (4 : Nat) (Option.none : Option Jvm.ClassFile.FieldType)) ∈ am_WT := am_wt (am_m4 212 rfl) rfl
theorem w_934 : (Jvm.Cond.methodLink "SlotMat$CityReader" (71 : Nat) ({ cls := "SlotMat$CityReader", name := "readRound", desc := "(LSlotMat$City;)V" } : Jvm.MethodName)) ∈ am_WT := am_wt (am_m4 214 rfl) rfl
theorem w_936 : (Jvm.Cond.instanceMethod ({ cls := "SlotMat$CityReader", name := "readRound", desc := "(LSlotMat$City;)V" } : Jvm.MethodName)) ∈ am_WT := am_wt (am_m4 216 rfl) rfl
theorem w_937 : (Jvm.Cond.code ({ cls := "SlotMat$CityReader", name := "readRound", desc := "(LSlotMat$City;)V" } : Jvm.MethodName) prog_4_method_8_code (4 : Nat) (Option.none : Option Jvm.ClassFile.FieldType)) ∈ am_WT := am_wt (am_m4 217 rfl) rfl
theorem w_938 : (Jvm.Cond.methodLink "SlotMat$CityReader" (131 : Nat) ({ cls := "SlotMat$CityReader", name := "moreNumbers", desc := "(I)Z" } : Jvm.MethodName)) ∈ am_WT := am_wt (am_m4 218 rfl) rfl
theorem w_940 : (Jvm.Cond.instanceMethod ({ cls := "SlotMat$CityReader", name := "moreNumbers", desc := "(I)Z" } : Jvm.MethodName)) ∈ am_WT := am_wt (am_m4 220 rfl) rfl
theorem w_941 : (Jvm.Cond.code ({ cls := "SlotMat$CityReader", name := "moreNumbers", desc := "(I)Z" } : Jvm.MethodName) prog_4_method_10_code (2 : Nat) (Option.some Jvm.ClassFile.FieldType.boolean)) ∈ am_WT := am_wt (am_m4 221 rfl) rfl
theorem w_942 : (Jvm.Cond.methodLink "SlotMat$CityReader" (135 : Nat) ({ cls := "SlotMat$CityReader", name := "readInRow", desc := "(IIII)I" } : Jvm.MethodName)) ∈ am_WT := am_wt (am_m4 222 rfl) rfl
theorem w_944 : (Jvm.Cond.instanceMethod ({ cls := "SlotMat$CityReader", name := "readInRow", desc := "(IIII)I" } : Jvm.MethodName)) ∈ am_WT := am_wt (am_m4 224 rfl) rfl
theorem w_945 : (Jvm.Cond.code ({ cls := "SlotMat$CityReader", name := "readInRow", desc := "(IIII)I" } : Jvm.MethodName) prog_4_method_11_code (5 : Nat) (Option.some Jvm.ClassFile.FieldType.int)) ∈ am_WT := am_wt (am_m4 225 rfl) rfl
theorem w_946 : (Jvm.Cond.methodLink "SlotMat$CityReader" (139 : Nat) ({ cls := "SlotMat$City", name := "addRound", desc := "(I)V" } : Jvm.MethodName)) ∈ am_WT := am_wt (am_m4 226 rfl) rfl
theorem w_947 : (Jvm.Cond.instanceMethod ({ cls := "SlotMat$City", name := "addRound", desc := "(I)V" } : Jvm.MethodName)) ∈ am_WT := am_wt (am_m4 227 rfl) rfl
theorem w_948 : (Jvm.Cond.selects "SlotMat$City" ({ cls := "SlotMat$City", name := "addRound", desc := "(I)V" } : Jvm.MethodName) ({ cls := "SlotMat$City", name := "addRound", desc := "(I)V" } : Jvm.MethodName)) ∈ am_WT := am_wt (am_m4 228 rfl) rfl
theorem w_949 : (Jvm.Cond.code ({ cls := "SlotMat$City", name := "addRound", desc := "(I)V" } : Jvm.MethodName) prog_3_method_5_code (2 : Nat) (Option.none : Option Jvm.ClassFile.FieldType)) ∈ am_WT := am_wt (am_m4 229 rfl) rfl
theorem w_951 : (Jvm.Cond.methodLink "SlotMat$CityReader" (76 : Nat) ({ cls := "SlotMat$CityReader", name := "readWet", desc := "(LSlotMat$City;)V" } : Jvm.MethodName)) ∈ am_WT := am_wt (am_m4 231 rfl) rfl
theorem w_953 : (Jvm.Cond.instanceMethod ({ cls := "SlotMat$CityReader", name := "readWet", desc := "(LSlotMat$City;)V" } : Jvm.MethodName)) ∈ am_WT := am_wt (am_m4 233 rfl) rfl
theorem w_954 : (Jvm.Cond.code ({ cls := "SlotMat$CityReader", name := "readWet", desc := "(LSlotMat$City;)V" } : Jvm.MethodName) prog_4_method_9_code (4 : Nat) (Option.none : Option Jvm.ClassFile.FieldType)) ∈ am_WT := am_wt (am_m4 234 rfl) rfl
theorem w_955 : (Jvm.Cond.methodLink "SlotMat$CityReader" (145 : Nat) ({ cls := "SlotMat$City", name := "addWet", desc := "(I)V" } : Jvm.MethodName)) ∈ am_WT := am_wt (am_m4 235 rfl) rfl
theorem w_956 : (Jvm.Cond.instanceMethod ({ cls := "SlotMat$City", name := "addWet", desc := "(I)V" } : Jvm.MethodName)) ∈ am_WT := am_wt (am_m4 236 rfl) rfl
theorem w_957 : (Jvm.Cond.selects "SlotMat$City" ({ cls := "SlotMat$City", name := "addWet", desc := "(I)V" } : Jvm.MethodName) ({ cls := "SlotMat$City", name := "addWet", desc := "(I)V" } : Jvm.MethodName)) ∈ am_WT := am_wt (am_m4 237 rfl) rfl
theorem w_958 : (Jvm.Cond.code ({ cls := "SlotMat$City", name := "addWet", desc := "(I)V" } : Jvm.MethodName) prog_3_method_6_code (2 : Nat) (Option.none : Option Jvm.ClassFile.FieldType)) ∈ am_WT := am_wt (am_m4 238 rfl) rfl
theorem w_960 : (Jvm.Cond.methodLink "SlotMat$CityReader" (84 : Nat) ({ cls := "SlotMat$RuleReader", name := "read", desc := "(LSlotMat$Tokens;LSlotMat$Rule;Z)V" } : Jvm.MethodName)) ∈ am_WT := am_wt (am_m5 0 rfl) rfl
theorem w_961 : (Jvm.Cond.instanceMethod ({ cls := "SlotMat$RuleReader", name := "read", desc := "(LSlotMat$Tokens;LSlotMat$Rule;Z)V" } : Jvm.MethodName)) ∈ am_WT := am_wt (am_m5 1 rfl) rfl
theorem w_962 : (Jvm.Cond.selects "SlotMat$RuleReader" ({ cls := "SlotMat$RuleReader", name := "read", desc := "(LSlotMat$Tokens;LSlotMat$Rule;Z)V" } : Jvm.MethodName) ({ cls := "SlotMat$RuleReader", name := "read", desc := "(LSlotMat$Tokens;LSlotMat$Rule;Z)V" } : Jvm.MethodName)) ∈ am_WT := am_wt (am_m5 2 rfl) rfl
theorem w_963 : (Jvm.Cond.code ({ cls := "SlotMat$RuleReader", name := "read", desc := "(LSlotMat$Tokens;LSlotMat$Rule;Z)V" } : Jvm.MethodName) prog_8_method_2_code (5 : Nat) (Option.none : Option Jvm.ClassFile.FieldType)) ∈ am_WT := am_wt (am_m5 3 rfl) rfl
theorem w_964 : (Jvm.Cond.methodLink "SlotMat$RuleReader" (32 : Nat) ({ cls := "SlotMat$Rule", name := "isUntold", desc := "()Z" } : Jvm.MethodName)) ∈ am_WT := am_wt (am_m5 4 rfl) rfl
theorem w_965 : (Jvm.Cond.methodLink "SlotMat$RuleReader" (40 : Nat) ({ cls := "SlotMat$Tokens", name := "fail", desc := "(I)V" } : Jvm.MethodName)) ∈ am_WT := am_wt (am_m5 5 rfl) rfl
theorem w_966 : (Jvm.Cond.methodLink "SlotMat$RuleReader" (44 : Nat) ({ cls := "SlotMat$Tokens", name := "step", desc := "()V" } : Jvm.MethodName)) ∈ am_WT := am_wt (am_m5 6 rfl) rfl
theorem w_967 : (Jvm.Cond.methodLink "SlotMat$RuleReader" (47 : Nat) ({ cls := "SlotMat$RuleReader", name := "beginExpression", desc := "()V" } : Jvm.MethodName)) ∈ am_WT := am_wt (am_m5 7 rfl) rfl
theorem w_969 : (Jvm.Cond.instanceMethod ({ cls := "SlotMat$RuleReader", name := "beginExpression", desc := "()V" } : Jvm.MethodName)) ∈ am_WT := am_wt (am_m5 9 rfl) rfl
theorem w_970 : (Jvm.Cond.code ({ cls := "SlotMat$RuleReader", name := "beginExpression", desc := "()V" } : Jvm.MethodName) prog_8_method_4_code (1 : Nat) (Option.none : Option Jvm.ClassFile.FieldType)) ∈ am_WT := am_wt (am_m5 10 rfl) rfl
theorem w_971 : (Jvm.Cond.methodLink "SlotMat$RuleReader" (50 : Nat) ({ cls := "SlotMat$Tokens", name := "isFine", desc := "()Z" } : Jvm.MethodName)) ∈ am_WT := am_wt (am_m5 11 rfl) rfl
theorem w_972 : (Jvm.Cond.methodLink "SlotMat$RuleReader" (53 : Nat) ({ cls := "SlotMat$RuleReader", name := "isEnd", desc := "(LSlotMat$Tokens;)Z" } : Jvm.MethodName)) ∈ am_WT := am_wt (am_m5 12 rfl) rfl
theorem w_974 : (Jvm.Cond.instanceMethod ({ cls := "SlotMat$RuleReader", name := "isEnd", desc := "(LSlotMat$Tokens;)Z" } : Jvm.MethodName)) ∈ am_WT := am_wt (am_m5 14 rfl) rfl
theorem w_975 : (Jvm.Cond.code ({ cls := "SlotMat$RuleReader", name := "isEnd", desc := "(LSlotMat$Tokens;)Z" } : Jvm.MethodName) prog_8_method_3_code (2 : Nat) (Option.some Jvm.ClassFile.FieldType.boolean)) ∈ am_WT := am_wt (am_m5 15 rfl) rfl
theorem w_976 : (Jvm.Cond.methodLink "SlotMat$RuleReader" (57 : Nat) ({ cls := "SlotMat$RuleReader", name := "readPart", desc := "(LSlotMat$Tokens;LSlotMat$Rule;Z)V" } : Jvm.MethodName)) ∈ am_WT := am_wt (am_m5 16 rfl) rfl
theorem w_978 : (Jvm.Cond.instanceMethod ({ cls := "SlotMat$RuleReader", name := "readPart", desc := "(LSlotMat$Tokens;LSlotMat$Rule;Z)V" } : Jvm.MethodName)) ∈ am_WT := am_wt (am_m5 18 rfl) rfl
theorem w_979 : (Jvm.Cond.code ({ cls := "SlotMat$RuleReader", name := "readPart", desc := "(LSlotMat$Tokens;LSlotMat$Rule;Z)V" } : Jvm.MethodName) prog_8_method_5_code (6 : Nat) (Option.none : Option Jvm.ClassFile.FieldType)) ∈ am_WT := am_wt (am_m5 19 rfl) rfl
theorem w_980 : (Jvm.Cond.methodLink "SlotMat$RuleReader" (75 : Nat) ({ cls := "SlotMat$RuleReader", name := "push", desc := "(I)V" } : Jvm.MethodName)) ∈ am_WT := am_wt (am_m5 20 rfl) rfl
theorem w_982 : (Jvm.Cond.instanceMethod ({ cls := "SlotMat$RuleReader", name := "push", desc := "(I)V" } : Jvm.MethodName)) ∈ am_WT := am_wt (am_m5 22 rfl) rfl
theorem w_983 : (Jvm.Cond.code ({ cls := "SlotMat$RuleReader", name := "push", desc := "(I)V" } : Jvm.MethodName) prog_8_method_14_code (2 : Nat) (Option.none : Option Jvm.ClassFile.FieldType)) ∈ am_WT := am_wt (am_m5 23 rfl) rfl
theorem w_984 : (Jvm.Cond.methodLink "SlotMat$RuleReader" (78 : Nat) ({ cls := "SlotMat$Rule", name := "addStep", desc := "(I)V" } : Jvm.MethodName)) ∈ am_WT := am_wt (am_m5 24 rfl) rfl
theorem w_985 : (Jvm.Cond.instanceMethod ({ cls := "SlotMat$Rule", name := "addStep", desc := "(I)V" } : Jvm.MethodName)) ∈ am_WT := am_wt (am_m5 25 rfl) rfl
theorem w_986 : (Jvm.Cond.selects "SlotMat$Rule" ({ cls := "SlotMat$Rule", name := "addStep", desc := "(I)V" } : Jvm.MethodName) ({ cls := "SlotMat$Rule", name := "addStep", desc := "(I)V" } : Jvm.MethodName)) ∈ am_WT := am_wt (am_m5 26 rfl) rfl
theorem w_987 : (Jvm.Cond.code ({ cls := "SlotMat$Rule", name := "addStep", desc := "(I)V" } : Jvm.MethodName) prog_7_method_4_code (2 : Nat) (Option.none : Option Jvm.ClassFile.FieldType)) ∈ am_WT := am_wt (am_m5 27 rfl) rfl
theorem w_989 : (Jvm.Cond.methodLink "SlotMat$RuleReader" (83 : Nat) ({ cls := "SlotMat$Tokens", name := "isWord", desc := "(Ljava/lang/String;)Z" } : Jvm.MethodName)) ∈ am_WT := am_wt (am_m5 29 rfl) rfl
theorem w_990 : (Jvm.Cond.methodLink "SlotMat$RuleReader" (87 : Nat) ({ cls := "SlotMat$RuleReader", name := "readNot", desc := "(LSlotMat$Tokens;)V" } : Jvm.MethodName)) ∈ am_WT := am_wt (am_m5 30 rfl) rfl
theorem w_992 : (Jvm.Cond.instanceMethod ({ cls := "SlotMat$RuleReader", name := "readNot", desc := "(LSlotMat$Tokens;)V" } : Jvm.MethodName)) ∈ am_WT := am_wt (am_m5 32 rfl) rfl
theorem w_993 : (Jvm.Cond.code ({ cls := "SlotMat$RuleReader", name := "readNot", desc := "(LSlotMat$Tokens;)V" } : Jvm.MethodName) prog_8_method_6_code (2 : Nat) (Option.none : Option Jvm.ClassFile.FieldType)) ∈ am_WT := am_wt (am_m5 33 rfl) rfl
theorem w_994 : (Jvm.Cond.methodLink "SlotMat$RuleReader" (91 : Nat) ({ cls := "SlotMat$RuleReader", name := "valueOfThinks", desc := "(LSlotMat$Tokens;)I" } : Jvm.MethodName)) ∈ am_WT := am_wt (am_m5 34 rfl) rfl
theorem w_995 : (Jvm.Cond.static ({ cls := "SlotMat$RuleReader", name := "valueOfThinks", desc := "(LSlotMat$Tokens;)I" } : Jvm.MethodName)) ∈ am_WT := am_wt (am_m5 35 rfl) rfl
theorem w_996 : (Jvm.Cond.code ({ cls := "SlotMat$RuleReader", name := "valueOfThinks", desc := "(LSlotMat$Tokens;)I" } : Jvm.MethodName) prog_8_method_8_code (1 : Nat) (Option.some Jvm.ClassFile.FieldType.int)) ∈ am_WT := am_wt (am_m5 36 rfl) rfl
theorem w_1003 : (Jvm.Cond.methodLink "SlotMat$RuleReader" (95 : Nat) ({ cls := "SlotMat$RuleReader", name := "valueOfSounds", desc := "(LSlotMat$Tokens;)I" } : Jvm.MethodName)) ∈ am_WT := am_wt (am_m5 43 rfl) rfl
theorem w_1004 : (Jvm.Cond.static ({ cls := "SlotMat$RuleReader", name := "valueOfSounds", desc := "(LSlotMat$Tokens;)I" } : Jvm.MethodName)) ∈ am_WT := am_wt (am_m5 44 rfl) rfl
theorem w_1005 : (Jvm.Cond.code ({ cls := "SlotMat$RuleReader", name := "valueOfSounds", desc := "(LSlotMat$Tokens;)I" } : Jvm.MethodName) prog_8_method_9_code (1 : Nat) (Option.some Jvm.ClassFile.FieldType.int)) ∈ am_WT := am_wt (am_m5 45 rfl) rfl
theorem w_1009 : (Jvm.Cond.methodLink "SlotMat$RuleReader" (98 : Nat) ({ cls := "SlotMat$RuleReader", name := "putValue", desc := "(LSlotMat$Tokens;LSlotMat$Rule;I)V" } : Jvm.MethodName)) ∈ am_WT := am_wt (am_m5 49 rfl) rfl
theorem w_1011 : (Jvm.Cond.instanceMethod ({ cls := "SlotMat$RuleReader", name := "putValue", desc := "(LSlotMat$Tokens;LSlotMat$Rule;I)V" } : Jvm.MethodName)) ∈ am_WT := am_wt (am_m5 51 rfl) rfl
theorem w_1012 : (Jvm.Cond.code ({ cls := "SlotMat$RuleReader", name := "putValue", desc := "(LSlotMat$Tokens;LSlotMat$Rule;I)V" } : Jvm.MethodName) prog_8_method_7_code (4 : Nat) (Option.none : Option Jvm.ClassFile.FieldType)) ∈ am_WT := am_wt (am_m5 52 rfl) rfl
theorem w_1013 : (Jvm.Cond.methodLink "SlotMat$RuleReader" (61 : Nat) ({ cls := "SlotMat$RuleReader", name := "readBehindPart", desc := "(LSlotMat$Tokens;LSlotMat$Rule;)V" } : Jvm.MethodName)) ∈ am_WT := am_wt (am_m5 53 rfl) rfl
theorem w_1015 : (Jvm.Cond.instanceMethod ({ cls := "SlotMat$RuleReader", name := "readBehindPart", desc := "(LSlotMat$Tokens;LSlotMat$Rule;)V" } : Jvm.MethodName)) ∈ am_WT := am_wt (am_m5 55 rfl) rfl
theorem w_1016 : (Jvm.Cond.code ({ cls := "SlotMat$RuleReader", name := "readBehindPart", desc := "(LSlotMat$Tokens;LSlotMat$Rule;)V" } : Jvm.MethodName) prog_8_method_10_code (4 : Nat) (Option.none : Option Jvm.ClassFile.FieldType)) ∈ am_WT := am_wt (am_m5 56 rfl) rfl
theorem w_1017 : (Jvm.Cond.methodLink "SlotMat$RuleReader" (120 : Nat) ({ cls := "SlotMat$RuleReader", name := "operatorOf", desc := "(LSlotMat$Tokens;)I" } : Jvm.MethodName)) ∈ am_WT := am_wt (am_m5 57 rfl) rfl
theorem w_1018 : (Jvm.Cond.static ({ cls := "SlotMat$RuleReader", name := "operatorOf", desc := "(LSlotMat$Tokens;)I" } : Jvm.MethodName)) ∈ am_WT := am_wt (am_m5 58 rfl) rfl
theorem w_1019 : (Jvm.Cond.code ({ cls := "SlotMat$RuleReader", name := "operatorOf", desc := "(LSlotMat$Tokens;)I" } : Jvm.MethodName) prog_8_method_16_code (1 : Nat) (Option.some Jvm.ClassFile.FieldType.int)) ∈ am_WT := am_wt (am_m5 59 rfl) rfl
theorem w_1022 : (Jvm.Cond.methodLink "SlotMat$RuleReader" (65 : Nat) ({ cls := "SlotMat$RuleReader", name := "release", desc := "(LSlotMat$Rule;I)V" } : Jvm.MethodName)) ∈ am_WT := am_wt (am_m5 62 rfl) rfl
theorem w_1024 : (Jvm.Cond.instanceMethod ({ cls := "SlotMat$RuleReader", name := "release", desc := "(LSlotMat$Rule;I)V" } : Jvm.MethodName)) ∈ am_WT := am_wt (am_m5 64 rfl) rfl
theorem w_1025 : (Jvm.Cond.code ({ cls := "SlotMat$RuleReader", name := "release", desc := "(LSlotMat$Rule;I)V" } : Jvm.MethodName) prog_8_method_13_code (3 : Nat) (Option.none : Option Jvm.ClassFile.FieldType)) ∈ am_WT := am_wt (am_m5 65 rfl) rfl
theorem w_1026 : (Jvm.Cond.fieldLink "SlotMat$RuleReader" (126 : Nat) "SlotMat$RuleReader" "RANK" "[I") ∈ am_WT := am_wt (am_m5 66 rfl) rfl
theorem w_1028 : (Jvm.Cond.methodLink "SlotMat$RuleReader" (123 : Nat) ({ cls := "SlotMat$RuleReader", name := "pop", desc := "()V" } : Jvm.MethodName)) ∈ am_WT := am_wt (am_m5 68 rfl) rfl
theorem w_1030 : (Jvm.Cond.instanceMethod ({ cls := "SlotMat$RuleReader", name := "pop", desc := "()V" } : Jvm.MethodName)) ∈ am_WT := am_wt (am_m5 70 rfl) rfl
theorem w_1031 : (Jvm.Cond.code ({ cls := "SlotMat$RuleReader", name := "pop", desc := "()V" } : Jvm.MethodName) prog_8_method_15_code (1 : Nat) (Option.none : Option Jvm.ClassFile.FieldType)) ∈ am_WT := am_wt (am_m5 71 rfl) rfl
theorem w_1032 : (Jvm.Cond.methodLink "SlotMat$RuleReader" (129 : Nat) ({ cls := "SlotMat$RuleReader", name := "readTest", desc := "(LSlotMat$Tokens;LSlotMat$Rule;I)V" } : Jvm.MethodName)) ∈ am_WT := am_wt (am_m5 72 rfl) rfl
theorem w_1034 : (Jvm.Cond.instanceMethod ({ cls := "SlotMat$RuleReader", name := "readTest", desc := "(LSlotMat$Tokens;LSlotMat$Rule;I)V" } : Jvm.MethodName)) ∈ am_WT := am_wt (am_m5 74 rfl) rfl
theorem w_1035 : (Jvm.Cond.code ({ cls := "SlotMat$RuleReader", name := "readTest", desc := "(LSlotMat$Tokens;LSlotMat$Rule;I)V" } : Jvm.MethodName) prog_8_method_11_code (4 : Nat) (Option.none : Option Jvm.ClassFile.FieldType)) ∈ am_WT := am_wt (am_m5 75 rfl) rfl
theorem w_1036 : (Jvm.Cond.methodLink "SlotMat$RuleReader" (132 : Nat) ({ cls := "SlotMat$RuleReader", name := "letWait", desc := "(I)V" } : Jvm.MethodName)) ∈ am_WT := am_wt (am_m5 76 rfl) rfl
theorem w_1038 : (Jvm.Cond.instanceMethod ({ cls := "SlotMat$RuleReader", name := "letWait", desc := "(I)V" } : Jvm.MethodName)) ∈ am_WT := am_wt (am_m5 78 rfl) rfl
theorem w_1039 : (Jvm.Cond.code ({ cls := "SlotMat$RuleReader", name := "letWait", desc := "(I)V" } : Jvm.MethodName) prog_8_method_12_code (2 : Nat) (Option.none : Option Jvm.ClassFile.FieldType)) ∈ am_WT := am_wt (am_m5 79 rfl) rfl
theorem w_1041 : (Jvm.Cond.methodLink "SlotMat$CityReader" (96 : Nat) ({ cls := "SlotMat$Tokens", name := "takeSign", desc := "(I)V" } : Jvm.MethodName)) ∈ am_WT := am_wt (am_m5 81 rfl) rfl
theorem w_1042 : (Jvm.Cond.instanceMethod ({ cls := "SlotMat$Tokens", name := "takeSign", desc := "(I)V" } : Jvm.MethodName)) ∈ am_WT := am_wt (am_m5 82 rfl) rfl
theorem w_1043 : (Jvm.Cond.selects "SlotMat$Tokens" ({ cls := "SlotMat$Tokens", name := "takeSign", desc := "(I)V" } : Jvm.MethodName) ({ cls := "SlotMat$Tokens", name := "takeSign", desc := "(I)V" } : Jvm.MethodName)) ∈ am_WT := am_wt (am_m5 83 rfl) rfl
theorem w_1044 : (Jvm.Cond.code ({ cls := "SlotMat$Tokens", name := "takeSign", desc := "(I)V" } : Jvm.MethodName) prog_10_method_9_code (2 : Nat) (Option.none : Option Jvm.ClassFile.FieldType)) ∈ am_WT := am_wt (am_m5 84 rfl) rfl
theorem w_1045 : (Jvm.Cond.methodLink "SlotMat$CityReader" (46 : Nat) ({ cls := "SlotMat$City", name := "settle", desc := "()V" } : Jvm.MethodName)) ∈ am_WT := am_wt (am_m5 85 rfl) rfl
theorem w_1046 : (Jvm.Cond.instanceMethod ({ cls := "SlotMat$City", name := "settle", desc := "()V" } : Jvm.MethodName)) ∈ am_WT := am_wt (am_m5 86 rfl) rfl
theorem w_1047 : (Jvm.Cond.selects "SlotMat$City" ({ cls := "SlotMat$City", name := "settle", desc := "()V" } : Jvm.MethodName) ({ cls := "SlotMat$City", name := "settle", desc := "()V" } : Jvm.MethodName)) ∈ am_WT := am_wt (am_m5 87 rfl) rfl
theorem w_1048 : (Jvm.Cond.code ({ cls := "SlotMat$City", name := "settle", desc := "()V" } : Jvm.MethodName) prog_3_method_7_code (2 : Nat) (Option.none : Option Jvm.ClassFile.FieldType)) ∈ am_WT := am_wt (am_m5 88 rfl) rfl
theorem w_1049 : (Jvm.Cond.methodLink "SlotMat$City" (71 : Nat) ({ cls := "SlotMat$City", name := "nearestTo", desc := "(I)I" } : Jvm.MethodName)) ∈ am_WT := am_wt (am_m5 89 rfl) rfl
theorem w_1051 : (Jvm.Cond.instanceMethod ({ cls := "SlotMat$City", name := "nearestTo", desc := "(I)I" } : Jvm.MethodName)) ∈ am_WT := am_wt (am_m5 91 rfl) rfl
theorem w_1052 : (Jvm.Cond.code ({ cls := "SlotMat$City", name := "nearestTo", desc := "(I)I" } : Jvm.MethodName) prog_3_method_8_code (6 : Nat) (Option.some Jvm.ClassFile.FieldType.int)) ∈ am_WT := am_wt (am_m5 92 rfl) rfl
theorem w_1053 : (Jvm.Cond.methodLink "SlotMat$City" (75 : Nat) ({ cls := "SlotMat$City", name := "addRound", desc := "(I)V" } : Jvm.MethodName)) ∈ am_WT := am_wt (am_m5 93 rfl) rfl
theorem w_1054 : (Jvm.Cond.methodLink "SlotMat" (109 : Nat) ({ cls := "SlotMat$CityReader", name := "placeOfFault", desc := "()I" } : Jvm.MethodName)) ∈ am_WT := am_wt (am_m5 94 rfl) rfl
theorem w_1055 : (Jvm.Cond.instanceMethod ({ cls := "SlotMat$CityReader", name := "placeOfFault", desc := "()I" } : Jvm.MethodName)) ∈ am_WT := am_wt (am_m5 95 rfl) rfl
theorem w_1056 : (Jvm.Cond.selects "SlotMat$CityReader" ({ cls := "SlotMat$CityReader", name := "placeOfFault", desc := "()I" } : Jvm.MethodName) ({ cls := "SlotMat$CityReader", name := "placeOfFault", desc := "()I" } : Jvm.MethodName)) ∈ am_WT := am_wt (am_m5 96 rfl) rfl
theorem w_1057 : (Jvm.Cond.code ({ cls := "SlotMat$CityReader", name := "placeOfFault", desc := "()I" } : Jvm.MethodName) prog_4_method_3_code (1 : Nat) (Option.some Jvm.ClassFile.FieldType.int)) ∈ am_WT := am_wt (am_m5 97 rfl) rfl
theorem w_1058 : (Jvm.Cond.methodLink "SlotMat" (113 : Nat) ({ cls := "SlotMat$State", name := "begin", desc := "(LSlotMat$City;)V" } : Jvm.MethodName)) ∈ am_WT := am_wt (am_m5 98 rfl) rfl
theorem w_1059 : (Jvm.Cond.instanceMethod ({ cls := "SlotMat$State", name := "begin", desc := "(LSlotMat$City;)V" } : Jvm.MethodName)) ∈ am_WT := am_wt (am_m5 99 rfl) rfl
theorem w_1060 : (Jvm.Cond.selects "SlotMat$State" ({ cls := "SlotMat$State", name := "begin", desc := "(LSlotMat$City;)V" } : Jvm.MethodName) ({ cls := "SlotMat$State", name := "begin", desc := "(LSlotMat$City;)V" } : Jvm.MethodName)) ∈ am_WT := am_wt (am_m5 100 rfl) rfl
theorem w_1061 : (Jvm.Cond.code ({ cls := "SlotMat$State", name := "begin", desc := "(LSlotMat$City;)V" } : Jvm.MethodName) prog_9_method_2_code (2 : Nat) (Option.none : Option Jvm.ClassFile.FieldType)) ∈ am_WT := am_wt (am_m5 101 rfl) rfl
theorem w_1062 : (Jvm.Cond.methodLink "SlotMat$State" (21 : Nat) ({ cls := "java/util/Arrays", name := "fill", desc := "([II)V" } : Jvm.MethodName)) ∈ am_WT := am_wt (am_m5 102 rfl) rfl
theorem w_1063 : (Jvm.Cond.methodLink "SlotMat" (117 : Nat) ({ cls := "SlotMat$Acts", name := "clearAll", desc := "()V" } : Jvm.MethodName)) ∈ am_WT := am_wt (am_m5 103 rfl) rfl
theorem w_1064 : (Jvm.Cond.instanceMethod ({ cls := "SlotMat$Acts", name := "clearAll", desc := "()V" } : Jvm.MethodName)) ∈ am_WT := am_wt (am_m5 104 rfl) rfl
theorem w_1065 : (Jvm.Cond.selects "SlotMat$Acts" ({ cls := "SlotMat$Acts", name := "clearAll", desc := "()V" } : Jvm.MethodName) ({ cls := "SlotMat$Acts", name := "clearAll", desc := "()V" } : Jvm.MethodName)) ∈ am_WT := am_wt (am_m5 105 rfl) rfl
theorem w_1066 : (Jvm.Cond.code ({ cls := "SlotMat$Acts", name := "clearAll", desc := "()V" } : Jvm.MethodName) prog_2_method_2_code (1 : Nat) (Option.none : Option Jvm.ClassFile.FieldType)) ∈ am_WT := am_wt (am_m5 106 rfl) rfl
theorem w_1067 : (Jvm.Cond.methodLink "SlotMat" (121 : Nat) ({ cls := "SlotMat$OrderSearch", name := "clearAll", desc := "()V" } : Jvm.MethodName)) ∈ am_WT := am_wt (am_m5 107 rfl) rfl
theorem w_1068 : (Jvm.Cond.instanceMethod ({ cls := "SlotMat$OrderSearch", name := "clearAll", desc := "()V" } : Jvm.MethodName)) ∈ am_WT := am_wt (am_m5 108 rfl) rfl
theorem w_1069 : (Jvm.Cond.selects "SlotMat$OrderSearch" ({ cls := "SlotMat$OrderSearch", name := "clearAll", desc := "()V" } : Jvm.MethodName) ({ cls := "SlotMat$OrderSearch", name := "clearAll", desc := "()V" } : Jvm.MethodName)) ∈ am_WT := am_wt (am_m5 109 rfl) rfl
theorem w_1070 : (Jvm.Cond.code ({ cls := "SlotMat$OrderSearch", name := "clearAll", desc := "()V" } : Jvm.MethodName) prog_6_method_2_code (1 : Nat) (Option.none : Option Jvm.ClassFile.FieldType)) ∈ am_WT := am_wt (am_m5 110 rfl) rfl
theorem w_1071 : (Jvm.Cond.methodLink "SlotMatLaw" (133 : Nat) ({ cls := "SlotMatLaw", name := "count", desc := "(LSlotMat;I[J)I" } : Jvm.MethodName)) ∈ am_WT := am_wt (am_m5 111 rfl) rfl
theorem w_1072 : (Jvm.Cond.static ({ cls := "SlotMatLaw", name := "count", desc := "(LSlotMat;I[J)I" } : Jvm.MethodName)) ∈ am_WT := am_wt (am_m5 112 rfl) rfl
theorem w_1073 : (Jvm.Cond.codeWith ({ cls := "SlotMatLaw", name := "count", desc := "(LSlotMat;I[J)I" } : Jvm.MethodName) method_4_code (4 : Nat) (Option.some Jvm.ClassFile.FieldType.int) [((0 : Nat), (9 : Nat), (12 : Nat), (18 : Nat))]) ∈ am_WT := am_wt (am_m5 113 rfl) rfl
theorem w_1074 : (Jvm.Cond.classLink "SlotMatLaw" (18 : Nat) "java/util/NoSuchElementException") ∈ am_WT := am_wt (am_m5 114 rfl) rfl
theorem w_1075 : (Jvm.Cond.methodLink "SlotMatLaw" (15 : Nat) ({ cls := "SlotMat", name := "count", desc := "(I)I" } : Jvm.MethodName)) ∈ am_WT := am_wt (am_m5 115 rfl) rfl
theorem w_1076 : (Jvm.Cond.instanceMethod ({ cls := "SlotMat", name := "count", desc := "(I)I" } : Jvm.MethodName)) ∈ am_WT := am_wt (am_m5 116 rfl) rfl
theorem w_1077 : (Jvm.Cond.selects "SlotMat" ({ cls := "SlotMat", name := "count", desc := "(I)I" } : Jvm.MethodName) ({ cls := "SlotMat", name := "count", desc := "(I)I" } : Jvm.MethodName)) ∈ am_WT := am_wt (am_m5 117 rfl) rfl
theorem w_1078 : (Jvm.Cond.code ({ cls := "SlotMat", name := "count", desc := "(I)I" } : Jvm.MethodName) prog_1_method_6_code (2 : Nat) (Option.some Jvm.ClassFile.FieldType.int)) ∈ am_WT := am_wt (am_m5 118 rfl) rfl
theorem w_1079 : (Jvm.Cond.methodLink "SlotMat" (131 : Nat) ({ cls := "SlotMat$City", name := "wetOn", desc := "(I)I" } : Jvm.MethodName)) ∈ am_WT := am_wt (am_m5 119 rfl) rfl
theorem w_1080 : (Jvm.Cond.methodLink "SlotMat" (139 : Nat) ({ cls := "SlotMat$City", name := "boxOn", desc := "(I)I" } : Jvm.MethodName)) ∈ am_WT := am_wt (am_m5 120 rfl) rfl
theorem w_1081 : (Jvm.Cond.methodLink "SlotMat" (142 : Nat) ({ cls := "SlotMat$State", name := "heldInAll", desc := "()I" } : Jvm.MethodName)) ∈ am_WT := am_wt (am_m5 121 rfl) rfl
theorem w_1082 : (Jvm.Cond.instanceMethod ({ cls := "SlotMat$State", name := "heldInAll", desc := "()I" } : Jvm.MethodName)) ∈ am_WT := am_wt (am_m5 122 rfl) rfl
theorem w_1083 : (Jvm.Cond.selects "SlotMat$State" ({ cls := "SlotMat$State", name := "heldInAll", desc := "()I" } : Jvm.MethodName) ({ cls := "SlotMat$State", name := "heldInAll", desc := "()I" } : Jvm.MethodName)) ∈ am_WT := am_wt (am_m5 123 rfl) rfl
theorem w_1084 : (Jvm.Cond.code ({ cls := "SlotMat$State", name := "heldInAll", desc := "()I" } : Jvm.MethodName) prog_9_method_21_code (1 : Nat) (Option.some Jvm.ClassFile.FieldType.int)) ∈ am_WT := am_wt (am_m5 124 rfl) rfl
theorem w_1085 : (Jvm.Cond.methodLink "SlotMat" (145 : Nat) ({ cls := "SlotMat$State", name := "heardByAll", desc := "()I" } : Jvm.MethodName)) ∈ am_WT := am_wt (am_m5 125 rfl) rfl
theorem w_1086 : (Jvm.Cond.instanceMethod ({ cls := "SlotMat$State", name := "heardByAll", desc := "()I" } : Jvm.MethodName)) ∈ am_WT := am_wt (am_m5 126 rfl) rfl
theorem w_1087 : (Jvm.Cond.selects "SlotMat$State" ({ cls := "SlotMat$State", name := "heardByAll", desc := "()I" } : Jvm.MethodName) ({ cls := "SlotMat$State", name := "heardByAll", desc := "()I" } : Jvm.MethodName)) ∈ am_WT := am_wt (am_m5 127 rfl) rfl
theorem w_1088 : (Jvm.Cond.code ({ cls := "SlotMat$State", name := "heardByAll", desc := "()I" } : Jvm.MethodName) prog_9_method_15_code (1 : Nat) (Option.some Jvm.ClassFile.FieldType.int)) ∈ am_WT := am_wt (am_m5 128 rfl) rfl
theorem w_1089 : (Jvm.Cond.methodLink "SlotMat" (148 : Nat) ({ cls := "SlotMat$City", name := "mutualCouples", desc := "(LSlotMat$State;)I" } : Jvm.MethodName)) ∈ am_WT := am_wt (am_m5 129 rfl) rfl
theorem w_1090 : (Jvm.Cond.instanceMethod ({ cls := "SlotMat$City", name := "mutualCouples", desc := "(LSlotMat$State;)I" } : Jvm.MethodName)) ∈ am_WT := am_wt (am_m5 130 rfl) rfl
theorem w_1091 : (Jvm.Cond.selects "SlotMat$City" ({ cls := "SlotMat$City", name := "mutualCouples", desc := "(LSlotMat$State;)I" } : Jvm.MethodName) ({ cls := "SlotMat$City", name := "mutualCouples", desc := "(LSlotMat$State;)I" } : Jvm.MethodName)) ∈ am_WT := am_wt (am_m5 131 rfl) rfl
theorem w_1092 : (Jvm.Cond.code ({ cls := "SlotMat$City", name := "mutualCouples", desc := "(LSlotMat$State;)I" } : Jvm.MethodName) prog_3_method_21_code (5 : Nat) (Option.some Jvm.ClassFile.FieldType.int)) ∈ am_WT := am_wt (am_m5 132 rfl) rfl
theorem w_1093 : (Jvm.Cond.methodLink "SlotMat" (152 : Nat) ({ cls := "SlotMat$City", name := "unthoughtBits", desc := "(LSlotMat$State;)I" } : Jvm.MethodName)) ∈ am_WT := am_wt (am_m5 133 rfl) rfl
theorem w_1094 : (Jvm.Cond.instanceMethod ({ cls := "SlotMat$City", name := "unthoughtBits", desc := "(LSlotMat$State;)I" } : Jvm.MethodName)) ∈ am_WT := am_wt (am_m5 134 rfl) rfl
theorem w_1095 : (Jvm.Cond.selects "SlotMat$City" ({ cls := "SlotMat$City", name := "unthoughtBits", desc := "(LSlotMat$State;)I" } : Jvm.MethodName) ({ cls := "SlotMat$City", name := "unthoughtBits", desc := "(LSlotMat$State;)I" } : Jvm.MethodName)) ∈ am_WT := am_wt (am_m5 135 rfl) rfl
theorem w_1096 : (Jvm.Cond.code ({ cls := "SlotMat$City", name := "unthoughtBits", desc := "(LSlotMat$State;)I" } : Jvm.MethodName) prog_3_method_20_code (4 : Nat) (Option.some Jvm.ClassFile.FieldType.int)) ∈ am_WT := am_wt (am_m5 136 rfl) rfl
theorem w_1097 : (Jvm.Cond.methodLink "SlotMat$City" (160 : Nat) ({ cls := "SlotMat$City", name := "fanBits", desc := "(LSlotMat$State;I)I" } : Jvm.MethodName)) ∈ am_WT := am_wt (am_m5 137 rfl) rfl
theorem w_1098 : (Jvm.Cond.instanceMethod ({ cls := "SlotMat$City", name := "fanBits", desc := "(LSlotMat$State;I)I" } : Jvm.MethodName)) ∈ am_WT := am_wt (am_m5 138 rfl) rfl
theorem w_1099 : (Jvm.Cond.selects "SlotMat$City" ({ cls := "SlotMat$City", name := "fanBits", desc := "(LSlotMat$State;I)I" } : Jvm.MethodName) ({ cls := "SlotMat$City", name := "fanBits", desc := "(LSlotMat$State;I)I" } : Jvm.MethodName)) ∈ am_WT := am_wt (am_m5 139 rfl) rfl
theorem w_1100 : (Jvm.Cond.code ({ cls := "SlotMat$City", name := "fanBits", desc := "(LSlotMat$State;I)I" } : Jvm.MethodName) prog_3_method_19_code (5 : Nat) (Option.some Jvm.ClassFile.FieldType.int)) ∈ am_WT := am_wt (am_m5 140 rfl) rfl
theorem w_1101 : (Jvm.Cond.classLink "SlotMat" (159 : Nat) "java/util/NoSuchElementException") ∈ am_WT := am_wt (am_m5 141 rfl) rfl
theorem w_1102 : (Jvm.Cond.instantiable "java/util/NoSuchElementException" (6 : Nat)) ∈ am_WT := am_wt (am_m5 142 rfl) rfl
theorem e_1103 : (Jvm.Cond.castable "java/util/NoSuchElementException" "java/util/NoSuchElementException") ∈ am_ext := List.mem_filter.mpr ⟨am_m5 143 rfl, rfl⟩
theorem w_1104 : (Jvm.Cond.selects "java/util/NoSuchElementException" ({ cls := "java/lang/Throwable", name := "fillInStackTrace", desc := "(I)Ljava/lang/Throwable;" } : Jvm.MethodName) ({ cls := "java/lang/Throwable", name := "fillInStackTrace", desc := "(I)Ljava/lang/Throwable;" } : Jvm.MethodName)) ∈ am_WT := am_wt (am_m5 144 rfl) rfl
theorem w_1111 : (Jvm.Cond.methodLink "SlotMat" (163 : Nat) ({ cls := "java/util/NoSuchElementException", name := "<init>", desc := "(Ljava/lang/String;)V" } : Jvm.MethodName)) ∈ am_WT := am_wt (am_m5 151 rfl) rfl
theorem w_1112 : (Jvm.Cond.instanceMethod ({ cls := "java/util/NoSuchElementException", name := "<init>", desc := "(Ljava/lang/String;)V" } : Jvm.MethodName)) ∈ am_WT := am_wt (am_m5 152 rfl) rfl
theorem w_1113 : (Jvm.Cond.code ({ cls := "java/util/NoSuchElementException", name := "<init>", desc := "(Ljava/lang/String;)V" } : Jvm.MethodName) prog_34_method_4_code (2 : Nat) (Option.none : Option Jvm.ClassFile.FieldType)) ∈ am_WT := am_wt (am_m5 153 rfl) rfl
theorem w_1114 : (Jvm.Cond.methodLink "java/util/NoSuchElementException" (13 : Nat) ({ cls := "java/lang/RuntimeException", name := "<init>", desc := "(Ljava/lang/String;)V" } : Jvm.MethodName)) ∈ am_WT := am_wt (am_m5 154 rfl) rfl
theorem w_1117 : (Jvm.Cond.methodLink "SlotMatLaw" (136 : Nat) ({ cls := "SlotMatLaw", name := "box", desc := "(LSlotMat;II[J)I" } : Jvm.MethodName)) ∈ am_WT := am_wt (am_m5 157 rfl) rfl
theorem w_1118 : (Jvm.Cond.static ({ cls := "SlotMatLaw", name := "box", desc := "(LSlotMat;II[J)I" } : Jvm.MethodName)) ∈ am_WT := am_wt (am_m5 158 rfl) rfl
theorem w_1119 : (Jvm.Cond.codeWith ({ cls := "SlotMatLaw", name := "box", desc := "(LSlotMat;II[J)I" } : Jvm.MethodName) method_5_code (5 : Nat) (Option.some Jvm.ClassFile.FieldType.int) [((0 : Nat), (10 : Nat), (13 : Nat), (18 : Nat))]) ∈ am_WT := am_wt (am_m5 159 rfl) rfl
theorem w_1120 : (Jvm.Cond.methodLink "SlotMatLaw" (20 : Nat) ({ cls := "SlotMat", name := "box", desc := "(II)I" } : Jvm.MethodName)) ∈ am_WT := am_wt (am_m5 160 rfl) rfl
theorem w_1121 : (Jvm.Cond.instanceMethod ({ cls := "SlotMat", name := "box", desc := "(II)I" } : Jvm.MethodName)) ∈ am_WT := am_wt (am_m5 161 rfl) rfl
theorem w_1122 : (Jvm.Cond.selects "SlotMat" ({ cls := "SlotMat", name := "box", desc := "(II)I" } : Jvm.MethodName) ({ cls := "SlotMat", name := "box", desc := "(II)I" } : Jvm.MethodName)) ∈ am_WT := am_wt (am_m5 162 rfl) rfl
theorem w_1123 : (Jvm.Cond.code ({ cls := "SlotMat", name := "box", desc := "(II)I" } : Jvm.MethodName) prog_1_method_7_code (3 : Nat) (Option.some Jvm.ClassFile.FieldType.int)) ∈ am_WT := am_wt (am_m5 163 rfl) rfl
theorem w_1124 : (Jvm.Cond.methodLink "SlotMat" (164 : Nat) ({ cls := "SlotMat", name := "needBox", desc := "(I)V" } : Jvm.MethodName)) ∈ am_WT := am_wt (am_m5 164 rfl) rfl
theorem w_1126 : (Jvm.Cond.instanceMethod ({ cls := "SlotMat", name := "needBox", desc := "(I)V" } : Jvm.MethodName)) ∈ am_WT := am_wt (am_m5 166 rfl) rfl
theorem w_1127 : (Jvm.Cond.code ({ cls := "SlotMat", name := "needBox", desc := "(I)V" } : Jvm.MethodName) prog_1_method_57_code (2 : Nat) (Option.none : Option Jvm.ClassFile.FieldType)) ∈ am_WT := am_wt (am_m5 167 rfl) rfl
theorem w_1129 : (Jvm.Cond.methodLink "SlotMat" (170 : Nat) ({ cls := "SlotMat$State", name := "redOf", desc := "(I)I" } : Jvm.MethodName)) ∈ am_WT := am_wt (am_m5 169 rfl) rfl
theorem w_1130 : (Jvm.Cond.methodLink "SlotMat" (173 : Nat) ({ cls := "SlotMat$State", name := "heldIn", desc := "(I)I" } : Jvm.MethodName)) ∈ am_WT := am_wt (am_m5 170 rfl) rfl
theorem w_1131 : (Jvm.Cond.methodLink "SlotMat" (176 : Nat) ({ cls := "SlotMat$City", name := "nearBits", desc := "(I)I" } : Jvm.MethodName)) ∈ am_WT := am_wt (am_m5 171 rfl) rfl
theorem w_1132 : (Jvm.Cond.instanceMethod ({ cls := "SlotMat$City", name := "nearBits", desc := "(I)I" } : Jvm.MethodName)) ∈ am_WT := am_wt (am_m5 172 rfl) rfl
theorem w_1133 : (Jvm.Cond.selects "SlotMat$City" ({ cls := "SlotMat$City", name := "nearBits", desc := "(I)I" } : Jvm.MethodName) ({ cls := "SlotMat$City", name := "nearBits", desc := "(I)I" } : Jvm.MethodName)) ∈ am_WT := am_wt (am_m5 173 rfl) rfl
theorem w_1134 : (Jvm.Cond.code ({ cls := "SlotMat$City", name := "nearBits", desc := "(I)I" } : Jvm.MethodName) prog_3_method_23_code (4 : Nat) (Option.some Jvm.ClassFile.FieldType.int)) ∈ am_WT := am_wt (am_m5 174 rfl) rfl
theorem w_1135 : (Jvm.Cond.methodLink "SlotMat" (179 : Nat) ({ cls := "SlotMat$City", name := "farthestFrom", desc := "(I)I" } : Jvm.MethodName)) ∈ am_WT := am_wt (am_m5 175 rfl) rfl
theorem w_1136 : (Jvm.Cond.instanceMethod ({ cls := "SlotMat$City", name := "farthestFrom", desc := "(I)I" } : Jvm.MethodName)) ∈ am_WT := am_wt (am_m5 176 rfl) rfl
theorem w_1137 : (Jvm.Cond.selects "SlotMat$City" ({ cls := "SlotMat$City", name := "farthestFrom", desc := "(I)I" } : Jvm.MethodName) ({ cls := "SlotMat$City", name := "farthestFrom", desc := "(I)I" } : Jvm.MethodName)) ∈ am_WT := am_wt (am_m5 177 rfl) rfl
theorem w_1138 : (Jvm.Cond.code ({ cls := "SlotMat$City", name := "farthestFrom", desc := "(I)I" } : Jvm.MethodName) prog_3_method_25_code (6 : Nat) (Option.some Jvm.ClassFile.FieldType.int)) ∈ am_WT := am_wt (am_m5 178 rfl) rfl
theorem w_1139 : (Jvm.Cond.methodLink "SlotMatLaw" (140 : Nat) ({ cls := "SlotMatLaw", name := "person", desc := "(LSlotMat;II[J)I" } : Jvm.MethodName)) ∈ am_WT := am_wt (am_m5 179 rfl) rfl
theorem w_1140 : (Jvm.Cond.static ({ cls := "SlotMatLaw", name := "person", desc := "(LSlotMat;II[J)I" } : Jvm.MethodName)) ∈ am_WT := am_wt (am_m5 180 rfl) rfl
theorem w_1141 : (Jvm.Cond.codeWith ({ cls := "SlotMatLaw", name := "person", desc := "(LSlotMat;II[J)I" } : Jvm.MethodName) method_6_code (5 : Nat) (Option.some Jvm.ClassFile.FieldType.int) [((0 : Nat), (10 : Nat), (13 : Nat), (18 : Nat))]) ∈ am_WT := am_wt (am_m5 181 rfl) rfl
theorem w_1142 : (Jvm.Cond.methodLink "SlotMatLaw" (24 : Nat) ({ cls := "SlotMat", name := "person", desc := "(II)I" } : Jvm.MethodName)) ∈ am_WT := am_wt (am_m5 182 rfl) rfl
theorem w_1143 : (Jvm.Cond.instanceMethod ({ cls := "SlotMat", name := "person", desc := "(II)I" } : Jvm.MethodName)) ∈ am_WT := am_wt (am_m5 183 rfl) rfl
theorem w_1144 : (Jvm.Cond.selects "SlotMat" ({ cls := "SlotMat", name := "person", desc := "(II)I" } : Jvm.MethodName) ({ cls := "SlotMat", name := "person", desc := "(II)I" } : Jvm.MethodName)) ∈ am_WT := am_wt (am_m5 184 rfl) rfl
theorem w_1145 : (Jvm.Cond.code ({ cls := "SlotMat", name := "person", desc := "(II)I" } : Jvm.MethodName) prog_1_method_8_code (3 : Nat) (Option.some Jvm.ClassFile.FieldType.int)) ∈ am_WT := am_wt (am_m5 185 rfl) rfl
theorem w_1146 : (Jvm.Cond.methodLink "SlotMat" (182 : Nat) ({ cls := "SlotMat", name := "needPerson", desc := "(I)V" } : Jvm.MethodName)) ∈ am_WT := am_wt (am_m5 186 rfl) rfl
theorem w_1148 : (Jvm.Cond.instanceMethod ({ cls := "SlotMat", name := "needPerson", desc := "(I)V" } : Jvm.MethodName)) ∈ am_WT := am_wt (am_m5 188 rfl) rfl
theorem w_1149 : (Jvm.Cond.code ({ cls := "SlotMat", name := "needPerson", desc := "(I)V" } : Jvm.MethodName) prog_1_method_58_code (2 : Nat) (Option.none : Option Jvm.ClassFile.FieldType)) ∈ am_WT := am_wt (am_m5 189 rfl) rfl
theorem w_1151 : (Jvm.Cond.methodLink "SlotMat" (191 : Nat) ({ cls := "SlotMat$State", name := "atOf", desc := "(I)I" } : Jvm.MethodName)) ∈ am_WT := am_wt (am_m5 191 rfl) rfl
theorem w_1152 : (Jvm.Cond.methodLink "SlotMat" (194 : Nat) ({ cls := "SlotMat$State", name := "regretOf", desc := "(I)I" } : Jvm.MethodName)) ∈ am_WT := am_wt (am_m5 192 rfl) rfl
theorem w_1153 : (Jvm.Cond.methodLink "SlotMat" (197 : Nat) ({ cls := "SlotMat$State", name := "heardBy", desc := "(I)I" } : Jvm.MethodName)) ∈ am_WT := am_wt (am_m5 193 rfl) rfl
theorem w_1154 : (Jvm.Cond.methodLink "SlotMat" (203 : Nat) ({ cls := "SlotMat$City", name := "fanBits", desc := "(LSlotMat$State;I)I" } : Jvm.MethodName)) ∈ am_WT := am_wt (am_m5 194 rfl) rfl
theorem w_1155 : (Jvm.Cond.methodLink "SlotMat" (207 : Nat) ({ cls := "SlotMat$City", name := "neighbourBits", desc := "(I)I" } : Jvm.MethodName)) ∈ am_WT := am_wt (am_m5 195 rfl) rfl
theorem w_1156 : (Jvm.Cond.instanceMethod ({ cls := "SlotMat$City", name := "neighbourBits", desc := "(I)I" } : Jvm.MethodName)) ∈ am_WT := am_wt (am_m5 196 rfl) rfl
theorem w_1157 : (Jvm.Cond.selects "SlotMat$City" ({ cls := "SlotMat$City", name := "neighbourBits", desc := "(I)I" } : Jvm.MethodName) ({ cls := "SlotMat$City", name := "neighbourBits", desc := "(I)I" } : Jvm.MethodName)) ∈ am_WT := am_wt (am_m5 197 rfl) rfl
theorem w_1158 : (Jvm.Cond.code ({ cls := "SlotMat$City", name := "neighbourBits", desc := "(I)I" } : Jvm.MethodName) prog_3_method_24_code (3 : Nat) (Option.some Jvm.ClassFile.FieldType.int)) ∈ am_WT := am_wt (am_m5 198 rfl) rfl
theorem w_1159 : (Jvm.Cond.methodLink "SlotMat$City" (164 : Nat) ({ cls := "SlotMat$City", name := "nearBits", desc := "(I)I" } : Jvm.MethodName)) ∈ am_WT := am_wt (am_m5 199 rfl) rfl
theorem w_1160 : (Jvm.Cond.methodLink "SlotMatLaw" (143 : Nat) ({ cls := "SlotMatLaw", name := "held", desc := "(LSlotMat;II[J)I" } : Jvm.MethodName)) ∈ am_WT := am_wt (am_m5 200 rfl) rfl
theorem w_1161 : (Jvm.Cond.static ({ cls := "SlotMatLaw", name := "held", desc := "(LSlotMat;II[J)I" } : Jvm.MethodName)) ∈ am_WT := am_wt (am_m5 201 rfl) rfl
theorem w_1162 : (Jvm.Cond.codeWith ({ cls := "SlotMatLaw", name := "held", desc := "(LSlotMat;II[J)I" } : Jvm.MethodName) method_7_code (5 : Nat) (Option.some Jvm.ClassFile.FieldType.int) [((0 : Nat), (10 : Nat), (13 : Nat), (18 : Nat))]) ∈ am_WT := am_wt (am_m5 202 rfl) rfl
theorem w_1163 : (Jvm.Cond.methodLink "SlotMatLaw" (27 : Nat) ({ cls := "SlotMat", name := "held", desc := "(II)I" } : Jvm.MethodName)) ∈ am_WT := am_wt (am_m5 203 rfl) rfl
theorem w_1164 : (Jvm.Cond.instanceMethod ({ cls := "SlotMat", name := "held", desc := "(II)I" } : Jvm.MethodName)) ∈ am_WT := am_wt (am_m5 204 rfl) rfl
theorem w_1165 : (Jvm.Cond.selects "SlotMat" ({ cls := "SlotMat", name := "held", desc := "(II)I" } : Jvm.MethodName) ({ cls := "SlotMat", name := "held", desc := "(II)I" } : Jvm.MethodName)) ∈ am_WT := am_wt (am_m5 205 rfl) rfl
theorem w_1166 : (Jvm.Cond.code ({ cls := "SlotMat", name := "held", desc := "(II)I" } : Jvm.MethodName) prog_1_method_9_code (3 : Nat) (Option.some Jvm.ClassFile.FieldType.int)) ∈ am_WT := am_wt (am_m5 206 rfl) rfl
theorem w_1167 : (Jvm.Cond.methodLink "SlotMat" (210 : Nat) ({ cls := "SlotMat$State", name := "heldOf", desc := "(II)I" } : Jvm.MethodName)) ∈ am_WT := am_wt (am_m5 207 rfl) rfl
theorem w_1168 : (Jvm.Cond.methodLink "SlotMatLaw" (150 : Nat) ({ cls := "SlotMatLaw", name := "write", desc := "(LSlotMat;I[J)I" } : Jvm.MethodName)) ∈ am_WT := am_wt (am_m5 208 rfl) rfl
theorem w_1169 : (Jvm.Cond.static ({ cls := "SlotMatLaw", name := "write", desc := "(LSlotMat;I[J)I" } : Jvm.MethodName)) ∈ am_WT := am_wt (am_m5 209 rfl) rfl
theorem w_1170 : (Jvm.Cond.codeWith ({ cls := "SlotMatLaw", name := "write", desc := "(LSlotMat;I[J)I" } : Jvm.MethodName) method_8_code (4 : Nat) (Option.some Jvm.ClassFile.FieldType.int) [((0 : Nat), (9 : Nat), (12 : Nat), (18 : Nat))]) ∈ am_WT := am_wt (am_m5 210 rfl) rfl
theorem w_1171 : (Jvm.Cond.methodLink "SlotMatLaw" (30 : Nat) ({ cls := "SlotMat", name := "write", desc := "(I)I" } : Jvm.MethodName)) ∈ am_WT := am_wt (am_m5 211 rfl) rfl
theorem w_1172 : (Jvm.Cond.instanceMethod ({ cls := "SlotMat", name := "write", desc := "(I)I" } : Jvm.MethodName)) ∈ am_WT := am_wt (am_m5 212 rfl) rfl
theorem w_1173 : (Jvm.Cond.selects "SlotMat" ({ cls := "SlotMat", name := "write", desc := "(I)I" } : Jvm.MethodName) ({ cls := "SlotMat", name := "write", desc := "(I)I" } : Jvm.MethodName)) ∈ am_WT := am_wt (am_m5 213 rfl) rfl
theorem w_1174 : (Jvm.Cond.code ({ cls := "SlotMat", name := "write", desc := "(I)I" } : Jvm.MethodName) prog_1_method_11_code (3 : Nat) (Option.some Jvm.ClassFile.FieldType.int)) ∈ am_WT := am_wt (am_m5 214 rfl) rfl
theorem w_1175 : (Jvm.Cond.methodLink "SlotMat" (221 : Nat) ({ cls := "SlotMat$State", name := "sendLetter", desc := "(I)V" } : Jvm.MethodName)) ∈ am_WT := am_wt (am_m5 215 rfl) rfl
theorem w_1176 : (Jvm.Cond.instanceMethod ({ cls := "SlotMat$State", name := "sendLetter", desc := "(I)V" } : Jvm.MethodName)) ∈ am_WT := am_wt (am_m5 216 rfl) rfl
theorem w_1177 : (Jvm.Cond.selects "SlotMat$State" ({ cls := "SlotMat$State", name := "sendLetter", desc := "(I)V" } : Jvm.MethodName) ({ cls := "SlotMat$State", name := "sendLetter", desc := "(I)V" } : Jvm.MethodName)) ∈ am_WT := am_wt (am_m5 217 rfl) rfl
theorem w_1178 : (Jvm.Cond.code ({ cls := "SlotMat$State", name := "sendLetter", desc := "(I)V" } : Jvm.MethodName) prog_9_method_24_code (5 : Nat) (Option.none : Option Jvm.ClassFile.FieldType)) ∈ am_WT := am_wt (am_m5 218 rfl) rfl
theorem w_1179 : (Jvm.Cond.methodLink "SlotMat$State" (50 : Nat) ({ cls := "SlotMat$State", name := "atOf", desc := "(I)I" } : Jvm.MethodName)) ∈ am_WT := am_wt (am_m5 219 rfl) rfl
theorem w_1180 : (Jvm.Cond.methodLink "SlotMat$State" (54 : Nat) ({ cls := "SlotMat$State", name := "heldOf", desc := "(II)I" } : Jvm.MethodName)) ∈ am_WT := am_wt (am_m5 220 rfl) rfl
theorem w_1181 : (Jvm.Cond.methodLink "SlotMat$State" (57 : Nat) ({ cls := "SlotMat$State", name := "hear", desc := "(II)V" } : Jvm.MethodName)) ∈ am_WT := am_wt (am_m5 221 rfl) rfl
theorem w_1182 : (Jvm.Cond.methodLink "SlotMatLaw" (153 : Nat) ({ cls := "SlotMatLaw", name := "paint", desc := "(LSlotMat;I[J)I" } : Jvm.MethodName)) ∈ am_WT := am_wt (am_m5 222 rfl) rfl
theorem w_1183 : (Jvm.Cond.static ({ cls := "SlotMatLaw", name := "paint", desc := "(LSlotMat;I[J)I" } : Jvm.MethodName)) ∈ am_WT := am_wt (am_m5 223 rfl) rfl
theorem w_1184 : (Jvm.Cond.codeWith ({ cls := "SlotMatLaw", name := "paint", desc := "(LSlotMat;I[J)I" } : Jvm.MethodName) method_9_code (4 : Nat) (Option.some Jvm.ClassFile.FieldType.int) [((0 : Nat), (9 : Nat), (12 : Nat), (18 : Nat))]) ∈ am_WT := am_wt (am_m5 224 rfl) rfl
theorem w_1185 : (Jvm.Cond.methodLink "SlotMatLaw" (33 : Nat) ({ cls := "SlotMat", name := "paint", desc := "(I)I" } : Jvm.MethodName)) ∈ am_WT := am_wt (am_m5 225 rfl) rfl
theorem w_1186 : (Jvm.Cond.instanceMethod ({ cls := "SlotMat", name := "paint", desc := "(I)I" } : Jvm.MethodName)) ∈ am_WT := am_wt (am_m5 226 rfl) rfl
theorem w_1187 : (Jvm.Cond.selects "SlotMat" ({ cls := "SlotMat", name := "paint", desc := "(I)I" } : Jvm.MethodName) ({ cls := "SlotMat", name := "paint", desc := "(I)I" } : Jvm.MethodName)) ∈ am_WT := am_wt (am_m5 227 rfl) rfl
theorem w_1188 : (Jvm.Cond.code ({ cls := "SlotMat", name := "paint", desc := "(I)I" } : Jvm.MethodName) prog_1_method_12_code (3 : Nat) (Option.some Jvm.ClassFile.FieldType.int)) ∈ am_WT := am_wt (am_m5 228 rfl) rfl
theorem w_1189 : (Jvm.Cond.methodLink "SlotMat" (224 : Nat) ({ cls := "SlotMat$State", name := "setRed", desc := "(II)V" } : Jvm.MethodName)) ∈ am_WT := am_wt (am_m5 229 rfl) rfl
theorem w_1190 : (Jvm.Cond.methodLink "SlotMatLaw" (156 : Nat) ({ cls := "SlotMatLaw", name := "turn", desc := "(LSlotMat;II[J)I" } : Jvm.MethodName)) ∈ am_WT := am_wt (am_m5 230 rfl) rfl
theorem w_1191 : (Jvm.Cond.static ({ cls := "SlotMatLaw", name := "turn", desc := "(LSlotMat;II[J)I" } : Jvm.MethodName)) ∈ am_WT := am_wt (am_m5 231 rfl) rfl
theorem w_1192 : (Jvm.Cond.codeWith ({ cls := "SlotMatLaw", name := "turn", desc := "(LSlotMat;II[J)I" } : Jvm.MethodName) method_10_code (5 : Nat) (Option.some Jvm.ClassFile.FieldType.int) [((0 : Nat), (10 : Nat), (13 : Nat), (18 : Nat))]) ∈ am_WT := am_wt (am_m5 232 rfl) rfl
theorem w_1193 : (Jvm.Cond.methodLink "SlotMatLaw" (36 : Nat) ({ cls := "SlotMat", name := "turn", desc := "(II)I" } : Jvm.MethodName)) ∈ am_WT := am_wt (am_m5 233 rfl) rfl
theorem w_1194 : (Jvm.Cond.instanceMethod ({ cls := "SlotMat", name := "turn", desc := "(II)I" } : Jvm.MethodName)) ∈ am_WT := am_wt (am_m5 234 rfl) rfl
theorem w_1195 : (Jvm.Cond.selects "SlotMat" ({ cls := "SlotMat", name := "turn", desc := "(II)I" } : Jvm.MethodName) ({ cls := "SlotMat", name := "turn", desc := "(II)I" } : Jvm.MethodName)) ∈ am_WT := am_wt (am_m5 235 rfl) rfl
theorem w_1196 : (Jvm.Cond.code ({ cls := "SlotMat", name := "turn", desc := "(II)I" } : Jvm.MethodName) prog_1_method_13_code (4 : Nat) (Option.some Jvm.ClassFile.FieldType.int)) ∈ am_WT := am_wt (am_m5 236 rfl) rfl
theorem w_1197 : (Jvm.Cond.methodLink "SlotMat" (228 : Nat) ({ cls := "SlotMat$State", name := "turnTo", desc := "(II)V" } : Jvm.MethodName)) ∈ am_WT := am_wt (am_m5 237 rfl) rfl
theorem w_1198 : (Jvm.Cond.instanceMethod ({ cls := "SlotMat$State", name := "turnTo", desc := "(II)V" } : Jvm.MethodName)) ∈ am_WT := am_wt (am_m5 238 rfl) rfl
theorem w_1199 : (Jvm.Cond.selects "SlotMat$State" ({ cls := "SlotMat$State", name := "turnTo", desc := "(II)V" } : Jvm.MethodName) ({ cls := "SlotMat$State", name := "turnTo", desc := "(II)V" } : Jvm.MethodName)) ∈ am_WT := am_wt (am_m5 239 rfl) rfl
theorem w_1200 : (Jvm.Cond.code ({ cls := "SlotMat$State", name := "turnTo", desc := "(II)V" } : Jvm.MethodName) prog_9_method_18_code (3 : Nat) (Option.none : Option Jvm.ClassFile.FieldType)) ∈ am_WT := am_wt (am_m6 0 rfl) rfl
theorem w_1201 : (Jvm.Cond.methodLink "SlotMatLaw" (168 : Nat) ({ cls := "SlotMatLaw", name := "then", desc := "(LSlotMat;III[J)I" } : Jvm.MethodName)) ∈ am_WT := am_wt (am_m6 1 rfl) rfl
theorem w_1202 : (Jvm.Cond.static ({ cls := "SlotMatLaw", name := "then", desc := "(LSlotMat;III[J)I" } : Jvm.MethodName)) ∈ am_WT := am_wt (am_m6 2 rfl) rfl
theorem w_1203 : (Jvm.Cond.codeWith ({ cls := "SlotMatLaw", name := "then", desc := "(LSlotMat;III[J)I" } : Jvm.MethodName) method_11_code (6 : Nat) (Option.some Jvm.ClassFile.FieldType.int) [((0 : Nat), (12 : Nat), (15 : Nat), (18 : Nat)), ((0 : Nat), (12 : Nat), (19 : Nat), (13 : Nat))]) ∈ am_WT := am_wt (am_m6 3 rfl) rfl
theorem w_1204 : (Jvm.Cond.methodLink "SlotMatLaw" (39 : Nat) ({ cls := "SlotMat", name := "then", desc := "(III)I" } : Jvm.MethodName)) ∈ am_WT := am_wt (am_m6 4 rfl) rfl
theorem w_1205 : (Jvm.Cond.instanceMethod ({ cls := "SlotMat", name := "then", desc := "(III)I" } : Jvm.MethodName)) ∈ am_WT := am_wt (am_m6 5 rfl) rfl
theorem w_1206 : (Jvm.Cond.selects "SlotMat" ({ cls := "SlotMat", name := "then", desc := "(III)I" } : Jvm.MethodName) ({ cls := "SlotMat", name := "then", desc := "(III)I" } : Jvm.MethodName)) ∈ am_WT := am_wt (am_m6 6 rfl) rfl
theorem w_1207 : (Jvm.Cond.code ({ cls := "SlotMat", name := "then", desc := "(III)I" } : Jvm.MethodName) prog_1_method_16_code (4 : Nat) (Option.some Jvm.ClassFile.FieldType.int)) ∈ am_WT := am_wt (am_m6 7 rfl) rfl
theorem w_1208 : (Jvm.Cond.methodLink "SlotMat" (238 : Nat) ({ cls := "SlotMat", name := "needWhat", desc := "(II)V" } : Jvm.MethodName)) ∈ am_WT := am_wt (am_m6 8 rfl) rfl
theorem w_1209 : (Jvm.Cond.static ({ cls := "SlotMat", name := "needWhat", desc := "(II)V" } : Jvm.MethodName)) ∈ am_WT := am_wt (am_m6 9 rfl) rfl
theorem w_1210 : (Jvm.Cond.code ({ cls := "SlotMat", name := "needWhat", desc := "(II)V" } : Jvm.MethodName) prog_1_method_59_code (2 : Nat) (Option.none : Option Jvm.ClassFile.FieldType)) ∈ am_WT := am_wt (am_m6 10 rfl) rfl
theorem w_1211 : (Jvm.Cond.methodLink "SlotMat" (241 : Nat) ({ cls := "SlotMat", name := "needRange", desc := "(III)V" } : Jvm.MethodName)) ∈ am_WT := am_wt (am_m6 11 rfl) rfl
theorem w_1212 : (Jvm.Cond.static ({ cls := "SlotMat", name := "needRange", desc := "(III)V" } : Jvm.MethodName)) ∈ am_WT := am_wt (am_m6 12 rfl) rfl
theorem w_1213 : (Jvm.Cond.code ({ cls := "SlotMat", name := "needRange", desc := "(III)V" } : Jvm.MethodName) prog_1_method_60_code (3 : Nat) (Option.none : Option Jvm.ClassFile.FieldType)) ∈ am_WT := am_wt (am_m6 13 rfl) rfl
theorem w_1215 : (Jvm.Cond.methodLink "SlotMat" (245 : Nat) ({ cls := "SlotMat", name := "lookAhead", desc := "(I)I" } : Jvm.MethodName)) ∈ am_WT := am_wt (am_m6 15 rfl) rfl
theorem w_1217 : (Jvm.Cond.instanceMethod ({ cls := "SlotMat", name := "lookAhead", desc := "(I)I" } : Jvm.MethodName)) ∈ am_WT := am_wt (am_m6 17 rfl) rfl
theorem w_1218 : (Jvm.Cond.code ({ cls := "SlotMat", name := "lookAhead", desc := "(I)I" } : Jvm.MethodName) prog_1_method_21_code (4 : Nat) (Option.some Jvm.ClassFile.FieldType.int)) ∈ am_WT := am_wt (am_m6 18 rfl) rfl
theorem w_1219 : (Jvm.Cond.methodLink "SlotMatLaw" (172 : Nat) ({ cls := "SlotMatLaw", name := "later", desc := "(LSlotMat;III[J)I" } : Jvm.MethodName)) ∈ am_WT := am_wt (am_m6 19 rfl) rfl
theorem w_1220 : (Jvm.Cond.static ({ cls := "SlotMatLaw", name := "later", desc := "(LSlotMat;III[J)I" } : Jvm.MethodName)) ∈ am_WT := am_wt (am_m6 20 rfl) rfl
theorem w_1221 : (Jvm.Cond.codeWith ({ cls := "SlotMatLaw", name := "later", desc := "(LSlotMat;III[J)I" } : Jvm.MethodName) method_12_code (6 : Nat) (Option.some Jvm.ClassFile.FieldType.int) [((0 : Nat), (12 : Nat), (15 : Nat), (18 : Nat)), ((0 : Nat), (12 : Nat), (19 : Nat), (13 : Nat))]) ∈ am_WT := am_wt (am_m6 21 rfl) rfl
theorem w_1222 : (Jvm.Cond.methodLink "SlotMatLaw" (43 : Nat) ({ cls := "SlotMat", name := "later", desc := "(III)I" } : Jvm.MethodName)) ∈ am_WT := am_wt (am_m6 22 rfl) rfl
theorem w_1223 : (Jvm.Cond.instanceMethod ({ cls := "SlotMat", name := "later", desc := "(III)I" } : Jvm.MethodName)) ∈ am_WT := am_wt (am_m6 23 rfl) rfl
theorem w_1224 : (Jvm.Cond.selects "SlotMat" ({ cls := "SlotMat", name := "later", desc := "(III)I" } : Jvm.MethodName) ({ cls := "SlotMat", name := "later", desc := "(III)I" } : Jvm.MethodName)) ∈ am_WT := am_wt (am_m6 24 rfl) rfl
theorem w_1225 : (Jvm.Cond.code ({ cls := "SlotMat", name := "later", desc := "(III)I" } : Jvm.MethodName) prog_1_method_17_code (4 : Nat) (Option.some Jvm.ClassFile.FieldType.int)) ∈ am_WT := am_wt (am_m6 25 rfl) rfl
theorem w_1226 : (Jvm.Cond.methodLink "SlotMatLaw" (175 : Nat) ({ cls := "SlotMatLaw", name := "first", desc := "(LSlotMat;I[J)I" } : Jvm.MethodName)) ∈ am_WT := am_wt (am_m6 26 rfl) rfl
theorem w_1227 : (Jvm.Cond.static ({ cls := "SlotMatLaw", name := "first", desc := "(LSlotMat;I[J)I" } : Jvm.MethodName)) ∈ am_WT := am_wt (am_m6 27 rfl) rfl
theorem w_1228 : (Jvm.Cond.codeWith ({ cls := "SlotMatLaw", name := "first", desc := "(LSlotMat;I[J)I" } : Jvm.MethodName) method_13_code (4 : Nat) (Option.some Jvm.ClassFile.FieldType.int) [((0 : Nat), (9 : Nat), (12 : Nat), (18 : Nat))]) ∈ am_WT := am_wt (am_m6 28 rfl) rfl
theorem w_1229 : (Jvm.Cond.methodLink "SlotMatLaw" (46 : Nat) ({ cls := "SlotMat", name := "first", desc := "(I)I" } : Jvm.MethodName)) ∈ am_WT := am_wt (am_m6 29 rfl) rfl
theorem w_1230 : (Jvm.Cond.instanceMethod ({ cls := "SlotMat", name := "first", desc := "(I)I" } : Jvm.MethodName)) ∈ am_WT := am_wt (am_m6 30 rfl) rfl
theorem w_1231 : (Jvm.Cond.selects "SlotMat" ({ cls := "SlotMat", name := "first", desc := "(I)I" } : Jvm.MethodName) ({ cls := "SlotMat", name := "first", desc := "(I)I" } : Jvm.MethodName)) ∈ am_WT := am_wt (am_m6 31 rfl) rfl
theorem w_1232 : (Jvm.Cond.code ({ cls := "SlotMat", name := "first", desc := "(I)I" } : Jvm.MethodName) prog_1_method_18_code (3 : Nat) (Option.some Jvm.ClassFile.FieldType.int)) ∈ am_WT := am_wt (am_m6 32 rfl) rfl
theorem w_1233 : (Jvm.Cond.methodLink "SlotMatLaw" (178 : Nat) ({ cls := "SlotMatLaw", name := "full", desc := "(LSlotMat;II[J)I" } : Jvm.MethodName)) ∈ am_WT := am_wt (am_m6 33 rfl) rfl
theorem w_1234 : (Jvm.Cond.static ({ cls := "SlotMatLaw", name := "full", desc := "(LSlotMat;II[J)I" } : Jvm.MethodName)) ∈ am_WT := am_wt (am_m6 34 rfl) rfl
theorem w_1235 : (Jvm.Cond.codeWith ({ cls := "SlotMatLaw", name := "full", desc := "(LSlotMat;II[J)I" } : Jvm.MethodName) method_14_code (5 : Nat) (Option.some Jvm.ClassFile.FieldType.int) [((0 : Nat), (10 : Nat), (13 : Nat), (18 : Nat)), ((0 : Nat), (10 : Nat), (17 : Nat), (13 : Nat))]) ∈ am_WT := am_wt (am_m6 35 rfl) rfl
theorem w_1236 : (Jvm.Cond.methodLink "SlotMatLaw" (49 : Nat) ({ cls := "SlotMat", name := "full", desc := "(II)I" } : Jvm.MethodName)) ∈ am_WT := am_wt (am_m6 36 rfl) rfl
theorem w_1237 : (Jvm.Cond.instanceMethod ({ cls := "SlotMat", name := "full", desc := "(II)I" } : Jvm.MethodName)) ∈ am_WT := am_wt (am_m6 37 rfl) rfl
theorem w_1238 : (Jvm.Cond.selects "SlotMat" ({ cls := "SlotMat", name := "full", desc := "(II)I" } : Jvm.MethodName) ({ cls := "SlotMat", name := "full", desc := "(II)I" } : Jvm.MethodName)) ∈ am_WT := am_wt (am_m6 38 rfl) rfl
theorem w_1239 : (Jvm.Cond.code ({ cls := "SlotMat", name := "full", desc := "(II)I" } : Jvm.MethodName) prog_1_method_19_code (4 : Nat) (Option.some Jvm.ClassFile.FieldType.int)) ∈ am_WT := am_wt (am_m6 39 rfl) rfl
theorem w_1240 : (Jvm.Cond.methodLink "SlotMatLaw" (181 : Nat) ({ cls := "SlotMatLaw", name := "most", desc := "(LSlotMat;II[J)I" } : Jvm.MethodName)) ∈ am_WT := am_wt (am_m6 40 rfl) rfl
theorem w_1241 : (Jvm.Cond.static ({ cls := "SlotMatLaw", name := "most", desc := "(LSlotMat;II[J)I" } : Jvm.MethodName)) ∈ am_WT := am_wt (am_m6 41 rfl) rfl
theorem w_1242 : (Jvm.Cond.codeWith ({ cls := "SlotMatLaw", name := "most", desc := "(LSlotMat;II[J)I" } : Jvm.MethodName) method_15_code (5 : Nat) (Option.some Jvm.ClassFile.FieldType.int) [((0 : Nat), (10 : Nat), (13 : Nat), (18 : Nat)), ((0 : Nat), (10 : Nat), (17 : Nat), (13 : Nat))]) ∈ am_WT := am_wt (am_m6 42 rfl) rfl
theorem w_1243 : (Jvm.Cond.methodLink "SlotMatLaw" (52 : Nat) ({ cls := "SlotMat", name := "most", desc := "(II)I" } : Jvm.MethodName)) ∈ am_WT := am_wt (am_m6 43 rfl) rfl
theorem w_1244 : (Jvm.Cond.instanceMethod ({ cls := "SlotMat", name := "most", desc := "(II)I" } : Jvm.MethodName)) ∈ am_WT := am_wt (am_m6 44 rfl) rfl
theorem w_1245 : (Jvm.Cond.selects "SlotMat" ({ cls := "SlotMat", name := "most", desc := "(II)I" } : Jvm.MethodName) ({ cls := "SlotMat", name := "most", desc := "(II)I" } : Jvm.MethodName)) ∈ am_WT := am_wt (am_m6 45 rfl) rfl
theorem w_1246 : (Jvm.Cond.code ({ cls := "SlotMat", name := "most", desc := "(II)I" } : Jvm.MethodName) prog_1_method_20_code (4 : Nat) (Option.some Jvm.ClassFile.FieldType.int)) ∈ am_WT := am_wt (am_m6 46 rfl) rfl
theorem w_1247 : (Jvm.Cond.methodLink "SlotMat" (251 : Nat) ({ cls := "SlotMat$City", name := "fullestBox", desc := "(LSlotMat$State;)I" } : Jvm.MethodName)) ∈ am_WT := am_wt (am_m6 47 rfl) rfl
theorem w_1248 : (Jvm.Cond.instanceMethod ({ cls := "SlotMat$City", name := "fullestBox", desc := "(LSlotMat$State;)I" } : Jvm.MethodName)) ∈ am_WT := am_wt (am_m6 48 rfl) rfl
theorem w_1249 : (Jvm.Cond.selects "SlotMat$City" ({ cls := "SlotMat$City", name := "fullestBox", desc := "(LSlotMat$State;)I" } : Jvm.MethodName) ({ cls := "SlotMat$City", name := "fullestBox", desc := "(LSlotMat$State;)I" } : Jvm.MethodName)) ∈ am_WT := am_wt (am_m6 49 rfl) rfl
theorem w_1250 : (Jvm.Cond.code ({ cls := "SlotMat$City", name := "fullestBox", desc := "(LSlotMat$State;)I" } : Jvm.MethodName) prog_3_method_15_code (4 : Nat) (Option.some Jvm.ClassFile.FieldType.int)) ∈ am_WT := am_wt (am_m6 50 rfl) rfl
theorem w_1251 : (Jvm.Cond.methodLink "SlotMat" (254 : Nat) ({ cls := "SlotMat$City", name := "loudestPerson", desc := "(LSlotMat$State;)I" } : Jvm.MethodName)) ∈ am_WT := am_wt (am_m6 51 rfl) rfl
theorem w_1252 : (Jvm.Cond.instanceMethod ({ cls := "SlotMat$City", name := "loudestPerson", desc := "(LSlotMat$State;)I" } : Jvm.MethodName)) ∈ am_WT := am_wt (am_m6 52 rfl) rfl
theorem w_1253 : (Jvm.Cond.selects "SlotMat$City" ({ cls := "SlotMat$City", name := "loudestPerson", desc := "(LSlotMat$State;)I" } : Jvm.MethodName) ({ cls := "SlotMat$City", name := "loudestPerson", desc := "(LSlotMat$State;)I" } : Jvm.MethodName)) ∈ am_WT := am_wt (am_m6 53 rfl) rfl
theorem w_1254 : (Jvm.Cond.code ({ cls := "SlotMat$City", name := "loudestPerson", desc := "(LSlotMat$State;)I" } : Jvm.MethodName) prog_3_method_16_code (4 : Nat) (Option.some Jvm.ClassFile.FieldType.int)) ∈ am_WT := am_wt (am_m6 54 rfl) rfl
theorem w_1255 : (Jvm.Cond.methodLink "SlotMat" (257 : Nat) ({ cls := "SlotMat$City", name := "saddestPerson", desc := "(LSlotMat$State;)I" } : Jvm.MethodName)) ∈ am_WT := am_wt (am_m6 55 rfl) rfl
theorem w_1256 : (Jvm.Cond.instanceMethod ({ cls := "SlotMat$City", name := "saddestPerson", desc := "(LSlotMat$State;)I" } : Jvm.MethodName)) ∈ am_WT := am_wt (am_m6 56 rfl) rfl
theorem w_1257 : (Jvm.Cond.selects "SlotMat$City" ({ cls := "SlotMat$City", name := "saddestPerson", desc := "(LSlotMat$State;)I" } : Jvm.MethodName) ({ cls := "SlotMat$City", name := "saddestPerson", desc := "(LSlotMat$State;)I" } : Jvm.MethodName)) ∈ am_WT := am_wt (am_m6 57 rfl) rfl
theorem w_1258 : (Jvm.Cond.code ({ cls := "SlotMat$City", name := "saddestPerson", desc := "(LSlotMat$State;)I" } : Jvm.MethodName) prog_3_method_17_code (4 : Nat) (Option.some Jvm.ClassFile.FieldType.int)) ∈ am_WT := am_wt (am_m6 58 rfl) rfl
theorem w_1259 : (Jvm.Cond.methodLink "SlotMat" (260 : Nat) ({ cls := "SlotMat$City", name := "emptyBits", desc := "(LSlotMat$State;)I" } : Jvm.MethodName)) ∈ am_WT := am_wt (am_m6 59 rfl) rfl
theorem w_1260 : (Jvm.Cond.instanceMethod ({ cls := "SlotMat$City", name := "emptyBits", desc := "(LSlotMat$State;)I" } : Jvm.MethodName)) ∈ am_WT := am_wt (am_m6 60 rfl) rfl
theorem w_1261 : (Jvm.Cond.selects "SlotMat$City" ({ cls := "SlotMat$City", name := "emptyBits", desc := "(LSlotMat$State;)I" } : Jvm.MethodName) ({ cls := "SlotMat$City", name := "emptyBits", desc := "(LSlotMat$State;)I" } : Jvm.MethodName)) ∈ am_WT := am_wt (am_m6 61 rfl) rfl
theorem w_1262 : (Jvm.Cond.code ({ cls := "SlotMat$City", name := "emptyBits", desc := "(LSlotMat$State;)I" } : Jvm.MethodName) prog_3_method_18_code (4 : Nat) (Option.some Jvm.ClassFile.FieldType.int)) ∈ am_WT := am_wt (am_m6 62 rfl) rfl
theorem w_1263 : (Jvm.Cond.methodLink "SlotMatLaw" (184 : Nat) ({ cls := "SlotMatLaw", name := "ring", desc := "(LSlotMat;I[J)I" } : Jvm.MethodName)) ∈ am_WT := am_wt (am_m6 63 rfl) rfl
theorem w_1264 : (Jvm.Cond.static ({ cls := "SlotMatLaw", name := "ring", desc := "(LSlotMat;I[J)I" } : Jvm.MethodName)) ∈ am_WT := am_wt (am_m6 64 rfl) rfl
theorem w_1265 : (Jvm.Cond.codeWith ({ cls := "SlotMatLaw", name := "ring", desc := "(LSlotMat;I[J)I" } : Jvm.MethodName) method_16_code (4 : Nat) (Option.some Jvm.ClassFile.FieldType.int) [((0 : Nat), (9 : Nat), (12 : Nat), (18 : Nat))]) ∈ am_WT := am_wt (am_m6 65 rfl) rfl
theorem w_1266 : (Jvm.Cond.methodLink "SlotMatLaw" (55 : Nat) ({ cls := "SlotMat", name := "ring", desc := "(I)I" } : Jvm.MethodName)) ∈ am_WT := am_wt (am_m6 66 rfl) rfl
theorem w_1267 : (Jvm.Cond.instanceMethod ({ cls := "SlotMat", name := "ring", desc := "(I)I" } : Jvm.MethodName)) ∈ am_WT := am_wt (am_m6 67 rfl) rfl
theorem w_1268 : (Jvm.Cond.selects "SlotMat" ({ cls := "SlotMat", name := "ring", desc := "(I)I" } : Jvm.MethodName) ({ cls := "SlotMat", name := "ring", desc := "(I)I" } : Jvm.MethodName)) ∈ am_WT := am_wt (am_m6 68 rfl) rfl
theorem w_1269 : (Jvm.Cond.code ({ cls := "SlotMat", name := "ring", desc := "(I)I" } : Jvm.MethodName) prog_1_method_22_code (3 : Nat) (Option.some Jvm.ClassFile.FieldType.int)) ∈ am_WT := am_wt (am_m6 69 rfl) rfl
theorem w_1270 : (Jvm.Cond.methodLink "SlotMat" (263 : Nat) ({ cls := "SlotMat$City", name := "reachedBits", desc := "(LSlotMat$State;I)I" } : Jvm.MethodName)) ∈ am_WT := am_wt (am_m6 70 rfl) rfl
theorem w_1271 : (Jvm.Cond.instanceMethod ({ cls := "SlotMat$City", name := "reachedBits", desc := "(LSlotMat$State;I)I" } : Jvm.MethodName)) ∈ am_WT := am_wt (am_m6 71 rfl) rfl
theorem w_1272 : (Jvm.Cond.selects "SlotMat$City" ({ cls := "SlotMat$City", name := "reachedBits", desc := "(LSlotMat$State;I)I" } : Jvm.MethodName) ({ cls := "SlotMat$City", name := "reachedBits", desc := "(LSlotMat$State;I)I" } : Jvm.MethodName)) ∈ am_WT := am_wt (am_m6 72 rfl) rfl
theorem w_1273 : (Jvm.Cond.code ({ cls := "SlotMat$City", name := "reachedBits", desc := "(LSlotMat$State;I)I" } : Jvm.MethodName) prog_3_method_22_code (6 : Nat) (Option.some Jvm.ClassFile.FieldType.int)) ∈ am_WT := am_wt (am_m6 73 rfl) rfl
theorem w_1274 : (Jvm.Cond.methodLink "SlotMatLaw" (187 : Nat) ({ cls := "SlotMatLaw", name := "comesTo", desc := "(LSlotMat;I[J)I" } : Jvm.MethodName)) ∈ am_WT := am_wt (am_m6 74 rfl) rfl
theorem w_1275 : (Jvm.Cond.static ({ cls := "SlotMatLaw", name := "comesTo", desc := "(LSlotMat;I[J)I" } : Jvm.MethodName)) ∈ am_WT := am_wt (am_m6 75 rfl) rfl
theorem w_1276 : (Jvm.Cond.codeWith ({ cls := "SlotMatLaw", name := "comesTo", desc := "(LSlotMat;I[J)I" } : Jvm.MethodName) method_17_code (4 : Nat) (Option.some Jvm.ClassFile.FieldType.int) [((0 : Nat), (9 : Nat), (12 : Nat), (18 : Nat))]) ∈ am_WT := am_wt (am_m6 76 rfl) rfl
theorem w_1277 : (Jvm.Cond.methodLink "SlotMatLaw" (58 : Nat) ({ cls := "SlotMat", name := "comesTo", desc := "(I)I" } : Jvm.MethodName)) ∈ am_WT := am_wt (am_m6 77 rfl) rfl
theorem w_1278 : (Jvm.Cond.instanceMethod ({ cls := "SlotMat", name := "comesTo", desc := "(I)I" } : Jvm.MethodName)) ∈ am_WT := am_wt (am_m6 78 rfl) rfl
theorem w_1279 : (Jvm.Cond.selects "SlotMat" ({ cls := "SlotMat", name := "comesTo", desc := "(I)I" } : Jvm.MethodName) ({ cls := "SlotMat", name := "comesTo", desc := "(I)I" } : Jvm.MethodName)) ∈ am_WT := am_wt (am_m6 79 rfl) rfl
theorem w_1280 : (Jvm.Cond.code ({ cls := "SlotMat", name := "comesTo", desc := "(I)I" } : Jvm.MethodName) prog_1_method_23_code (2 : Nat) (Option.some Jvm.ClassFile.FieldType.int)) ∈ am_WT := am_wt (am_m6 80 rfl) rfl
theorem w_1281 : (Jvm.Cond.methodLink "SlotMatLaw" (190 : Nat) ({ cls := "SlotMatLaw", name := "toCover", desc := "(LSlotMat;I[J)I" } : Jvm.MethodName)) ∈ am_WT := am_wt (am_m6 81 rfl) rfl
theorem w_1282 : (Jvm.Cond.static ({ cls := "SlotMatLaw", name := "toCover", desc := "(LSlotMat;I[J)I" } : Jvm.MethodName)) ∈ am_WT := am_wt (am_m6 82 rfl) rfl
theorem w_1283 : (Jvm.Cond.codeWith ({ cls := "SlotMatLaw", name := "toCover", desc := "(LSlotMat;I[J)I" } : Jvm.MethodName) method_18_code (4 : Nat) (Option.some Jvm.ClassFile.FieldType.int) [((0 : Nat), (9 : Nat), (12 : Nat), (13 : Nat))]) ∈ am_WT := am_wt (am_m6 83 rfl) rfl
theorem w_1284 : (Jvm.Cond.methodLink "SlotMatLaw" (61 : Nat) ({ cls := "SlotMat", name := "toCover", desc := "(I)I" } : Jvm.MethodName)) ∈ am_WT := am_wt (am_m6 84 rfl) rfl
theorem w_1285 : (Jvm.Cond.instanceMethod ({ cls := "SlotMat", name := "toCover", desc := "(I)I" } : Jvm.MethodName)) ∈ am_WT := am_wt (am_m6 85 rfl) rfl
theorem w_1286 : (Jvm.Cond.selects "SlotMat" ({ cls := "SlotMat", name := "toCover", desc := "(I)I" } : Jvm.MethodName) ({ cls := "SlotMat", name := "toCover", desc := "(I)I" } : Jvm.MethodName)) ∈ am_WT := am_wt (am_m6 86 rfl) rfl
theorem w_1287 : (Jvm.Cond.code ({ cls := "SlotMat", name := "toCover", desc := "(I)I" } : Jvm.MethodName) prog_1_method_24_code (2 : Nat) (Option.some Jvm.ClassFile.FieldType.int)) ∈ am_WT := am_wt (am_m6 87 rfl) rfl
theorem w_1288 : (Jvm.Cond.methodLink "SlotMat" (266 : Nat) ({ cls := "SlotMat$City", name := "fewestCovering", desc := "(I)I" } : Jvm.MethodName)) ∈ am_WT := am_wt (am_m6 88 rfl) rfl
theorem w_1289 : (Jvm.Cond.instanceMethod ({ cls := "SlotMat$City", name := "fewestCovering", desc := "(I)I" } : Jvm.MethodName)) ∈ am_WT := am_wt (am_m6 89 rfl) rfl
theorem w_1290 : (Jvm.Cond.selects "SlotMat$City" ({ cls := "SlotMat$City", name := "fewestCovering", desc := "(I)I" } : Jvm.MethodName) ({ cls := "SlotMat$City", name := "fewestCovering", desc := "(I)I" } : Jvm.MethodName)) ∈ am_WT := am_wt (am_m6 90 rfl) rfl
theorem w_1291 : (Jvm.Cond.code ({ cls := "SlotMat$City", name := "fewestCovering", desc := "(I)I" } : Jvm.MethodName) prog_3_method_26_code (5 : Nat) (Option.some Jvm.ClassFile.FieldType.int)) ∈ am_WT := am_wt (am_m6 91 rfl) rfl
theorem w_1292 : (Jvm.Cond.methodLink "SlotMat$City" (167 : Nat) ({ cls := "java/lang/Integer", name := "bitCount", desc := "(I)I" } : Jvm.MethodName)) ∈ am_WT := am_wt (am_m6 92 rfl) rfl
theorem w_1293 : (Jvm.Cond.static ({ cls := "java/lang/Integer", name := "bitCount", desc := "(I)I" } : Jvm.MethodName)) ∈ am_WT := am_wt (am_m6 93 rfl) rfl
theorem w_1294 : (Jvm.Cond.code ({ cls := "java/lang/Integer", name := "bitCount", desc := "(I)I" } : Jvm.MethodName) prog_21_method_49_code (1 : Nat) (Option.some Jvm.ClassFile.FieldType.int)) ∈ am_WT := am_wt (am_m6 94 rfl) rfl
theorem w_1295 : (Jvm.Cond.constant "java/lang/Integer" (265 : Nat) (1431655765 : Int32)) ∈ am_WT := am_wt (am_m6 95 rfl) rfl
theorem w_1296 : (Jvm.Cond.constant "java/lang/Integer" (266 : Nat) (858993459 : Int32)) ∈ am_WT := am_wt (am_m6 96 rfl) rfl
theorem w_1297 : (Jvm.Cond.constant "java/lang/Integer" (267 : Nat) (252645135 : Int32)) ∈ am_WT := am_wt (am_m6 97 rfl) rfl
theorem w_1298 : (Jvm.Cond.methodLink "SlotMat$City" (172 : Nat) ({ cls := "SlotMat$City", name := "coversAll", desc := "(II)Z" } : Jvm.MethodName)) ∈ am_WT := am_wt (am_m6 98 rfl) rfl
theorem w_1300 : (Jvm.Cond.instanceMethod ({ cls := "SlotMat$City", name := "coversAll", desc := "(II)Z" } : Jvm.MethodName)) ∈ am_WT := am_wt (am_m6 100 rfl) rfl
theorem w_1301 : (Jvm.Cond.code ({ cls := "SlotMat$City", name := "coversAll", desc := "(II)Z" } : Jvm.MethodName) prog_3_method_27_code (4 : Nat) (Option.some Jvm.ClassFile.FieldType.boolean)) ∈ am_WT := am_wt (am_m6 101 rfl) rfl
theorem w_1302 : (Jvm.Cond.methodLink "SlotMat$City" (176 : Nat) ({ cls := "SlotMat$City", name := "covers", desc := "(III)Z" } : Jvm.MethodName)) ∈ am_WT := am_wt (am_m6 102 rfl) rfl
theorem w_1304 : (Jvm.Cond.instanceMethod ({ cls := "SlotMat$City", name := "covers", desc := "(III)Z" } : Jvm.MethodName)) ∈ am_WT := am_wt (am_m6 104 rfl) rfl
theorem w_1305 : (Jvm.Cond.code ({ cls := "SlotMat$City", name := "covers", desc := "(III)Z" } : Jvm.MethodName) prog_3_method_28_code (5 : Nat) (Option.some Jvm.ClassFile.FieldType.boolean)) ∈ am_WT := am_wt (am_m6 105 rfl) rfl
theorem w_1306 : (Jvm.Cond.methodLink "SlotMatLaw" (193 : Nat) ({ cls := "SlotMatLaw", name := "oneMore", desc := "(LSlotMat;I[J)I" } : Jvm.MethodName)) ∈ am_WT := am_wt (am_m6 106 rfl) rfl
theorem w_1307 : (Jvm.Cond.static ({ cls := "SlotMatLaw", name := "oneMore", desc := "(LSlotMat;I[J)I" } : Jvm.MethodName)) ∈ am_WT := am_wt (am_m6 107 rfl) rfl
theorem w_1308 : (Jvm.Cond.codeWith ({ cls := "SlotMatLaw", name := "oneMore", desc := "(LSlotMat;I[J)I" } : Jvm.MethodName) method_19_code (4 : Nat) (Option.some Jvm.ClassFile.FieldType.int) [((0 : Nat), (9 : Nat), (12 : Nat), (18 : Nat))]) ∈ am_WT := am_wt (am_m6 108 rfl) rfl
theorem w_1309 : (Jvm.Cond.methodLink "SlotMatLaw" (64 : Nat) ({ cls := "SlotMat", name := "oneMore", desc := "(I)I" } : Jvm.MethodName)) ∈ am_WT := am_wt (am_m6 109 rfl) rfl
theorem w_1310 : (Jvm.Cond.instanceMethod ({ cls := "SlotMat", name := "oneMore", desc := "(I)I" } : Jvm.MethodName)) ∈ am_WT := am_wt (am_m6 110 rfl) rfl
theorem w_1311 : (Jvm.Cond.selects "SlotMat" ({ cls := "SlotMat", name := "oneMore", desc := "(I)I" } : Jvm.MethodName) ({ cls := "SlotMat", name := "oneMore", desc := "(I)I" } : Jvm.MethodName)) ∈ am_WT := am_wt (am_m6 111 rfl) rfl
theorem w_1312 : (Jvm.Cond.code ({ cls := "SlotMat", name := "oneMore", desc := "(I)I" } : Jvm.MethodName) prog_1_method_25_code (3 : Nat) (Option.some Jvm.ClassFile.FieldType.int)) ∈ am_WT := am_wt (am_m6 112 rfl) rfl
theorem w_1313 : (Jvm.Cond.methodLink "SlotMat" (273 : Nat) ({ cls := "SlotMat$City", name := "waysWith", desc := "(IZ)I" } : Jvm.MethodName)) ∈ am_WT := am_wt (am_m6 113 rfl) rfl
theorem w_1314 : (Jvm.Cond.methodLink "SlotMatLaw" (196 : Nat) ({ cls := "SlotMatLaw", name := "order", desc := "(LSlotMat;I[J)I" } : Jvm.MethodName)) ∈ am_WT := am_wt (am_m6 114 rfl) rfl
theorem w_1315 : (Jvm.Cond.static ({ cls := "SlotMatLaw", name := "order", desc := "(LSlotMat;I[J)I" } : Jvm.MethodName)) ∈ am_WT := am_wt (am_m6 115 rfl) rfl
theorem w_1316 : (Jvm.Cond.codeWith ({ cls := "SlotMatLaw", name := "order", desc := "(LSlotMat;I[J)I" } : Jvm.MethodName) method_20_code (4 : Nat) (Option.some Jvm.ClassFile.FieldType.int) [((0 : Nat), (9 : Nat), (12 : Nat), (18 : Nat))]) ∈ am_WT := am_wt (am_m6 116 rfl) rfl
theorem w_1317 : (Jvm.Cond.methodLink "SlotMatLaw" (67 : Nat) ({ cls := "SlotMat", name := "order", desc := "(I)I" } : Jvm.MethodName)) ∈ am_WT := am_wt (am_m6 117 rfl) rfl
theorem w_1318 : (Jvm.Cond.instanceMethod ({ cls := "SlotMat", name := "order", desc := "(I)I" } : Jvm.MethodName)) ∈ am_WT := am_wt (am_m6 118 rfl) rfl
theorem w_1319 : (Jvm.Cond.selects "SlotMat" ({ cls := "SlotMat", name := "order", desc := "(I)I" } : Jvm.MethodName) ({ cls := "SlotMat", name := "order", desc := "(I)I" } : Jvm.MethodName)) ∈ am_WT := am_wt (am_m6 119 rfl) rfl
theorem w_1320 : (Jvm.Cond.code ({ cls := "SlotMat", name := "order", desc := "(I)I" } : Jvm.MethodName) prog_1_method_26_code (2 : Nat) (Option.some Jvm.ClassFile.FieldType.int)) ∈ am_WT := am_wt (am_m6 120 rfl) rfl
theorem w_1321 : (Jvm.Cond.methodLink "SlotMat" (277 : Nat) ({ cls := "SlotMat$OrderSearch", name := "search", desc := "(LSlotMat$City;LSlotMat$State;)V" } : Jvm.MethodName)) ∈ am_WT := am_wt (am_m6 121 rfl) rfl
theorem w_1322 : (Jvm.Cond.instanceMethod ({ cls := "SlotMat$OrderSearch", name := "search", desc := "(LSlotMat$City;LSlotMat$State;)V" } : Jvm.MethodName)) ∈ am_WT := am_wt (am_m6 122 rfl) rfl
theorem w_1323 : (Jvm.Cond.selects "SlotMat$OrderSearch" ({ cls := "SlotMat$OrderSearch", name := "search", desc := "(LSlotMat$City;LSlotMat$State;)V" } : Jvm.MethodName) ({ cls := "SlotMat$OrderSearch", name := "search", desc := "(LSlotMat$City;LSlotMat$State;)V" } : Jvm.MethodName)) ∈ am_WT := am_wt (am_m6 123 rfl) rfl
theorem w_1324 : (Jvm.Cond.code ({ cls := "SlotMat$OrderSearch", name := "search", desc := "(LSlotMat$City;LSlotMat$State;)V" } : Jvm.MethodName) prog_6_method_5_code (3 : Nat) (Option.none : Option Jvm.ClassFile.FieldType)) ∈ am_WT := am_wt (am_m6 124 rfl) rfl
theorem w_1325 : (Jvm.Cond.methodLink "SlotMat$OrderSearch" (37 : Nat) ({ cls := "SlotMat$State", name := "isLike", desc := "(LSlotMat$State;)Z" } : Jvm.MethodName)) ∈ am_WT := am_wt (am_m6 125 rfl) rfl
theorem w_1326 : (Jvm.Cond.instanceMethod ({ cls := "SlotMat$State", name := "isLike", desc := "(LSlotMat$State;)Z" } : Jvm.MethodName)) ∈ am_WT := am_wt (am_m6 126 rfl) rfl
theorem w_1327 : (Jvm.Cond.selects "SlotMat$State" ({ cls := "SlotMat$State", name := "isLike", desc := "(LSlotMat$State;)Z" } : Jvm.MethodName) ({ cls := "SlotMat$State", name := "isLike", desc := "(LSlotMat$State;)Z" } : Jvm.MethodName)) ∈ am_WT := am_wt (am_m6 127 rfl) rfl
theorem w_1328 : (Jvm.Cond.code ({ cls := "SlotMat$State", name := "isLike", desc := "(LSlotMat$State;)Z" } : Jvm.MethodName) prog_9_method_4_code (3 : Nat) (Option.some Jvm.ClassFile.FieldType.boolean)) ∈ am_WT := am_wt (am_m6 128 rfl) rfl
theorem w_1329 : (Jvm.Cond.methodLink "SlotMat$OrderSearch" (41 : Nat) ({ cls := "SlotMat$State", name := "copyFrom", desc := "(LSlotMat$State;)V" } : Jvm.MethodName)) ∈ am_WT := am_wt (am_m6 129 rfl) rfl
theorem w_1330 : (Jvm.Cond.methodLink "SlotMat$OrderSearch" (45 : Nat) ({ cls := "SlotMat$OrderSearch", name := "tryRows", desc := "(LSlotMat$City;II)V" } : Jvm.MethodName)) ∈ am_WT := am_wt (am_m6 130 rfl) rfl
theorem w_1332 : (Jvm.Cond.instanceMethod ({ cls := "SlotMat$OrderSearch", name := "tryRows", desc := "(LSlotMat$City;II)V" } : Jvm.MethodName)) ∈ am_WT := am_wt (am_m6 132 rfl) rfl
theorem w_1333 : (Jvm.Cond.code ({ cls := "SlotMat$OrderSearch", name := "tryRows", desc := "(LSlotMat$City;II)V" } : Jvm.MethodName) prog_6_method_6_code (6 : Nat) (Option.none : Option Jvm.ClassFile.FieldType)) ∈ am_WT := am_wt (am_m6 133 rfl) rfl
theorem w_1334 : (Jvm.Cond.methodLink "SlotMat$OrderSearch" (33 : Nat) ({ cls := "SlotMat$State", name := "heardByAll", desc := "()I" } : Jvm.MethodName)) ∈ am_WT := am_wt (am_m6 134 rfl) rfl
theorem w_1335 : (Jvm.Cond.methodLink "SlotMat$OrderSearch" (54 : Nat) ({ cls := "SlotMat$OrderSearch", name := "weighRow", desc := "(I)V" } : Jvm.MethodName)) ∈ am_WT := am_wt (am_m6 135 rfl) rfl
theorem w_1337 : (Jvm.Cond.instanceMethod ({ cls := "SlotMat$OrderSearch", name := "weighRow", desc := "(I)V" } : Jvm.MethodName)) ∈ am_WT := am_wt (am_m6 137 rfl) rfl
theorem w_1338 : (Jvm.Cond.code ({ cls := "SlotMat$OrderSearch", name := "weighRow", desc := "(I)V" } : Jvm.MethodName) prog_6_method_7_code (2 : Nat) (Option.none : Option Jvm.ClassFile.FieldType)) ∈ am_WT := am_wt (am_m6 138 rfl) rfl
theorem w_1339 : (Jvm.Cond.methodLink "SlotMat$OrderSearch" (69 : Nat) ({ cls := "java/lang/System", name := "arraycopy", desc := "(Ljava/lang/Object;ILjava/lang/Object;II)V" } : Jvm.MethodName)) ∈ am_WT := am_wt (am_m6 139 rfl) rfl
theorem w_1340 : (Jvm.Cond.methodLink "SlotMat$OrderSearch" (58 : Nat) ({ cls := "SlotMat$State", name := "dayNow", desc := "()I" } : Jvm.MethodName)) ∈ am_WT := am_wt (am_m6 140 rfl) rfl
theorem w_1341 : (Jvm.Cond.methodLink "SlotMat$OrderSearch" (61 : Nat) ({ cls := "SlotMat$City", name := "wetOn", desc := "(I)I" } : Jvm.MethodName)) ∈ am_WT := am_wt (am_m6 141 rfl) rfl
theorem w_1342 : (Jvm.Cond.methodLink "SlotMat$OrderSearch" (65 : Nat) ({ cls := "SlotMat$City", name := "passDayWith", desc := "(LSlotMat$State;II)I" } : Jvm.MethodName)) ∈ am_WT := am_wt (am_m6 142 rfl) rfl
theorem w_1343 : (Jvm.Cond.methodLink "SlotMat" (281 : Nat) ({ cls := "SlotMat$OrderSearch", name := "gained", desc := "()I" } : Jvm.MethodName)) ∈ am_WT := am_wt (am_m6 143 rfl) rfl
theorem w_1344 : (Jvm.Cond.instanceMethod ({ cls := "SlotMat$OrderSearch", name := "gained", desc := "()I" } : Jvm.MethodName)) ∈ am_WT := am_wt (am_m6 144 rfl) rfl
theorem w_1345 : (Jvm.Cond.selects "SlotMat$OrderSearch" ({ cls := "SlotMat$OrderSearch", name := "gained", desc := "()I" } : Jvm.MethodName) ({ cls := "SlotMat$OrderSearch", name := "gained", desc := "()I" } : Jvm.MethodName)) ∈ am_WT := am_wt (am_m6 145 rfl) rfl
theorem w_1346 : (Jvm.Cond.code ({ cls := "SlotMat$OrderSearch", name := "gained", desc := "()I" } : Jvm.MethodName) prog_6_method_3_code (1 : Nat) (Option.some Jvm.ClassFile.FieldType.int)) ∈ am_WT := am_wt (am_m6 146 rfl) rfl
theorem w_1347 : (Jvm.Cond.methodLink "SlotMat" (284 : Nat) ({ cls := "SlotMat$OrderSearch", name := "boxAt", desc := "(I)I" } : Jvm.MethodName)) ∈ am_WT := am_wt (am_m6 147 rfl) rfl
theorem w_1348 : (Jvm.Cond.instanceMethod ({ cls := "SlotMat$OrderSearch", name := "boxAt", desc := "(I)I" } : Jvm.MethodName)) ∈ am_WT := am_wt (am_m6 148 rfl) rfl
theorem w_1349 : (Jvm.Cond.selects "SlotMat$OrderSearch" ({ cls := "SlotMat$OrderSearch", name := "boxAt", desc := "(I)I" } : Jvm.MethodName) ({ cls := "SlotMat$OrderSearch", name := "boxAt", desc := "(I)I" } : Jvm.MethodName)) ∈ am_WT := am_wt (am_m6 149 rfl) rfl
theorem w_1350 : (Jvm.Cond.code ({ cls := "SlotMat$OrderSearch", name := "boxAt", desc := "(I)I" } : Jvm.MethodName) prog_6_method_4_code (2 : Nat) (Option.some Jvm.ClassFile.FieldType.int)) ∈ am_WT := am_wt (am_m6 150 rfl) rfl
theorem w_1351 : (Jvm.Cond.methodLink "SlotMatLaw" (199 : Nat) ({ cls := "SlotMatLaw", name := "note", desc := "(LSlotMat;III[J)I" } : Jvm.MethodName)) ∈ am_WT := am_wt (am_m6 151 rfl) rfl
theorem w_1352 : (Jvm.Cond.static ({ cls := "SlotMatLaw", name := "note", desc := "(LSlotMat;III[J)I" } : Jvm.MethodName)) ∈ am_WT := am_wt (am_m6 152 rfl) rfl
theorem w_1353 : (Jvm.Cond.codeWith ({ cls := "SlotMatLaw", name := "note", desc := "(LSlotMat;III[J)I" } : Jvm.MethodName) method_21_code (6 : Nat) (Option.some Jvm.ClassFile.FieldType.int) [((0 : Nat), (12 : Nat), (15 : Nat), (18 : Nat))]) ∈ am_WT := am_wt (am_m6 153 rfl) rfl
theorem w_1354 : (Jvm.Cond.methodLink "SlotMatLaw" (70 : Nat) ({ cls := "SlotMat", name := "note", desc := "(III)I" } : Jvm.MethodName)) ∈ am_WT := am_wt (am_m6 154 rfl) rfl
theorem w_1355 : (Jvm.Cond.instanceMethod ({ cls := "SlotMat", name := "note", desc := "(III)I" } : Jvm.MethodName)) ∈ am_WT := am_wt (am_m6 155 rfl) rfl
theorem w_1356 : (Jvm.Cond.selects "SlotMat" ({ cls := "SlotMat", name := "note", desc := "(III)I" } : Jvm.MethodName) ({ cls := "SlotMat", name := "note", desc := "(III)I" } : Jvm.MethodName)) ∈ am_WT := am_wt (am_m6 156 rfl) rfl
theorem w_1357 : (Jvm.Cond.code ({ cls := "SlotMat", name := "note", desc := "(III)I" } : Jvm.MethodName) prog_1_method_27_code (4 : Nat) (Option.some Jvm.ClassFile.FieldType.int)) ∈ am_WT := am_wt (am_m6 157 rfl) rfl
theorem w_1358 : (Jvm.Cond.methodLink "SlotMat" (287 : Nat) ({ cls := "SlotMat$Notes", name := "put", desc := "(III)V" } : Jvm.MethodName)) ∈ am_WT := am_wt (am_m6 158 rfl) rfl
theorem w_1359 : (Jvm.Cond.instanceMethod ({ cls := "SlotMat$Notes", name := "put", desc := "(III)V" } : Jvm.MethodName)) ∈ am_WT := am_wt (am_m6 159 rfl) rfl
theorem w_1360 : (Jvm.Cond.selects "SlotMat$Notes" ({ cls := "SlotMat$Notes", name := "put", desc := "(III)V" } : Jvm.MethodName) ({ cls := "SlotMat$Notes", name := "put", desc := "(III)V" } : Jvm.MethodName)) ∈ am_WT := am_wt (am_m6 160 rfl) rfl
theorem w_1361 : (Jvm.Cond.code ({ cls := "SlotMat$Notes", name := "put", desc := "(III)V" } : Jvm.MethodName) prog_5_method_3_code (4 : Nat) (Option.none : Option Jvm.ClassFile.FieldType)) ∈ am_WT := am_wt (am_m6 161 rfl) rfl
theorem w_1362 : (Jvm.Cond.methodLink "SlotMatLaw" (206 : Nat) ({ cls := "SlotMatLaw", name := "thought", desc := "(LSlotMat;I[J)I" } : Jvm.MethodName)) ∈ am_WT := am_wt (am_m6 162 rfl) rfl
theorem w_1363 : (Jvm.Cond.static ({ cls := "SlotMatLaw", name := "thought", desc := "(LSlotMat;I[J)I" } : Jvm.MethodName)) ∈ am_WT := am_wt (am_m6 163 rfl) rfl
theorem w_1364 : (Jvm.Cond.codeWith ({ cls := "SlotMatLaw", name := "thought", desc := "(LSlotMat;I[J)I" } : Jvm.MethodName) method_22_code (4 : Nat) (Option.some Jvm.ClassFile.FieldType.int) [((0 : Nat), (9 : Nat), (12 : Nat), (18 : Nat))]) ∈ am_WT := am_wt (am_m6 164 rfl) rfl
theorem w_1365 : (Jvm.Cond.methodLink "SlotMatLaw" (73 : Nat) ({ cls := "SlotMat", name := "thought", desc := "(I)I" } : Jvm.MethodName)) ∈ am_WT := am_wt (am_m6 165 rfl) rfl
theorem w_1366 : (Jvm.Cond.instanceMethod ({ cls := "SlotMat", name := "thought", desc := "(I)I" } : Jvm.MethodName)) ∈ am_WT := am_wt (am_m6 166 rfl) rfl
theorem w_1367 : (Jvm.Cond.selects "SlotMat" ({ cls := "SlotMat", name := "thought", desc := "(I)I" } : Jvm.MethodName) ({ cls := "SlotMat", name := "thought", desc := "(I)I" } : Jvm.MethodName)) ∈ am_WT := am_wt (am_m6 167 rfl) rfl
theorem w_1368 : (Jvm.Cond.code ({ cls := "SlotMat", name := "thought", desc := "(I)I" } : Jvm.MethodName) prog_1_method_29_code (6 : Nat) (Option.some Jvm.ClassFile.FieldType.int)) ∈ am_WT := am_wt (am_m6 168 rfl) rfl
theorem w_1369 : (Jvm.Cond.methodLink "SlotMat" (290 : Nat) ({ cls := "SlotMat", name := "futureAgrees", desc := "()Z" } : Jvm.MethodName)) ∈ am_WT := am_wt (am_m6 169 rfl) rfl
theorem w_1371 : (Jvm.Cond.instanceMethod ({ cls := "SlotMat", name := "futureAgrees", desc := "()Z" } : Jvm.MethodName)) ∈ am_WT := am_wt (am_m6 171 rfl) rfl
theorem w_1372 : (Jvm.Cond.code ({ cls := "SlotMat", name := "futureAgrees", desc := "()Z" } : Jvm.MethodName) prog_1_method_31_code (3 : Nat) (Option.some Jvm.ClassFile.FieldType.boolean)) ∈ am_WT := am_wt (am_m6 172 rfl) rfl
theorem w_1373 : (Jvm.Cond.methodLink "SlotMat" (297 : Nat) ({ cls := "SlotMat$Notes", name := "lastDay", desc := "()I" } : Jvm.MethodName)) ∈ am_WT := am_wt (am_m6 173 rfl) rfl
theorem w_1374 : (Jvm.Cond.instanceMethod ({ cls := "SlotMat$Notes", name := "lastDay", desc := "()I" } : Jvm.MethodName)) ∈ am_WT := am_wt (am_m6 174 rfl) rfl
theorem w_1375 : (Jvm.Cond.selects "SlotMat$Notes" ({ cls := "SlotMat$Notes", name := "lastDay", desc := "()I" } : Jvm.MethodName) ({ cls := "SlotMat$Notes", name := "lastDay", desc := "()I" } : Jvm.MethodName)) ∈ am_WT := am_wt (am_m6 175 rfl) rfl
theorem w_1376 : (Jvm.Cond.code ({ cls := "SlotMat$Notes", name := "lastDay", desc := "()I" } : Jvm.MethodName) prog_5_method_5_code (3 : Nat) (Option.some Jvm.ClassFile.FieldType.int)) ∈ am_WT := am_wt (am_m6 176 rfl) rfl
theorem w_1377 : (Jvm.Cond.methodLink "SlotMat$Notes" (31 : Nat) ({ cls := "java/lang/Math", name := "max", desc := "(II)I" } : Jvm.MethodName)) ∈ am_WT := am_wt (am_m6 177 rfl) rfl
theorem w_1378 : (Jvm.Cond.methodLink "SlotMat" (300 : Nat) ({ cls := "SlotMat$Notes", name := "agree", desc := "(ILSlotMat$State;)Z" } : Jvm.MethodName)) ∈ am_WT := am_wt (am_m6 178 rfl) rfl
theorem w_1379 : (Jvm.Cond.instanceMethod ({ cls := "SlotMat$Notes", name := "agree", desc := "(ILSlotMat$State;)Z" } : Jvm.MethodName)) ∈ am_WT := am_wt (am_m6 179 rfl) rfl
theorem w_1380 : (Jvm.Cond.selects "SlotMat$Notes" ({ cls := "SlotMat$Notes", name := "agree", desc := "(ILSlotMat$State;)Z" } : Jvm.MethodName) ({ cls := "SlotMat$Notes", name := "agree", desc := "(ILSlotMat$State;)Z" } : Jvm.MethodName)) ∈ am_WT := am_wt (am_m6 180 rfl) rfl
theorem w_1381 : (Jvm.Cond.code ({ cls := "SlotMat$Notes", name := "agree", desc := "(ILSlotMat$State;)Z" } : Jvm.MethodName) prog_5_method_6_code (4 : Nat) (Option.some Jvm.ClassFile.FieldType.boolean)) ∈ am_WT := am_wt (am_m6 181 rfl) rfl
theorem w_1382 : (Jvm.Cond.methodLink "SlotMat$Notes" (37 : Nat) ({ cls := "SlotMat$State", name := "heardBy", desc := "(I)I" } : Jvm.MethodName)) ∈ am_WT := am_wt (am_m6 182 rfl) rfl
theorem w_1383 : (Jvm.Cond.methodLink "SlotMat" (293 : Nat) ({ cls := "SlotMat", name := "turnFuture", desc := "(II)Z" } : Jvm.MethodName)) ∈ am_WT := am_wt (am_m6 183 rfl) rfl
theorem w_1385 : (Jvm.Cond.instanceMethod ({ cls := "SlotMat", name := "turnFuture", desc := "(II)Z" } : Jvm.MethodName)) ∈ am_WT := am_wt (am_m6 185 rfl) rfl
theorem w_1386 : (Jvm.Cond.code ({ cls := "SlotMat", name := "turnFuture", desc := "(II)Z" } : Jvm.MethodName) prog_1_method_30_code (3 : Nat) (Option.some Jvm.ClassFile.FieldType.boolean)) ∈ am_WT := am_wt (am_m6 186 rfl) rfl
theorem w_1387 : (Jvm.Cond.methodLink "SlotMatLaw" (209 : Nat) ({ cls := "SlotMatLaw", name := "ask", desc := "(LSlotMat;I[J)I" } : Jvm.MethodName)) ∈ am_WT := am_wt (am_m6 187 rfl) rfl
theorem w_1388 : (Jvm.Cond.static ({ cls := "SlotMatLaw", name := "ask", desc := "(LSlotMat;I[J)I" } : Jvm.MethodName)) ∈ am_WT := am_wt (am_m6 188 rfl) rfl
theorem w_1389 : (Jvm.Cond.codeWith ({ cls := "SlotMatLaw", name := "ask", desc := "(LSlotMat;I[J)I" } : Jvm.MethodName) method_23_code (4 : Nat) (Option.some Jvm.ClassFile.FieldType.int) [((0 : Nat), (9 : Nat), (12 : Nat), (18 : Nat))]) ∈ am_WT := am_wt (am_m6 189 rfl) rfl
theorem w_1390 : (Jvm.Cond.methodLink "SlotMatLaw" (76 : Nat) ({ cls := "SlotMat", name := "ask", desc := "(I)I" } : Jvm.MethodName)) ∈ am_WT := am_wt (am_m6 190 rfl) rfl
theorem w_1391 : (Jvm.Cond.instanceMethod ({ cls := "SlotMat", name := "ask", desc := "(I)I" } : Jvm.MethodName)) ∈ am_WT := am_wt (am_m6 191 rfl) rfl
theorem w_1392 : (Jvm.Cond.selects "SlotMat" ({ cls := "SlotMat", name := "ask", desc := "(I)I" } : Jvm.MethodName) ({ cls := "SlotMat", name := "ask", desc := "(I)I" } : Jvm.MethodName)) ∈ am_WT := am_wt (am_m6 192 rfl) rfl
theorem w_1393 : (Jvm.Cond.code ({ cls := "SlotMat", name := "ask", desc := "(I)I" } : Jvm.MethodName) prog_1_method_32_code (7 : Nat) (Option.some Jvm.ClassFile.FieldType.int)) ∈ am_WT := am_wt (am_m6 193 rfl) rfl
theorem w_1394 : (Jvm.Cond.methodLink "SlotMat" (304 : Nat) ({ cls := "SlotMat", name := "gatherHeardByThoughts", desc := "()I" } : Jvm.MethodName)) ∈ am_WT := am_wt (am_m6 194 rfl) rfl
theorem w_1396 : (Jvm.Cond.instanceMethod ({ cls := "SlotMat", name := "gatherHeardByThoughts", desc := "()I" } : Jvm.MethodName)) ∈ am_WT := am_wt (am_m6 196 rfl) rfl
theorem w_1397 : (Jvm.Cond.code ({ cls := "SlotMat", name := "gatherHeardByThoughts", desc := "()I" } : Jvm.MethodName) prog_1_method_33_code (5 : Nat) (Option.some Jvm.ClassFile.FieldType.int)) ∈ am_WT := am_wt (am_m6 197 rfl) rfl
theorem w_1398 : (Jvm.Cond.methodLink "SlotMat" (310 : Nat) ({ cls := "SlotMat", name := "lookAheadTurned", desc := "(III)V" } : Jvm.MethodName)) ∈ am_WT := am_wt (am_m6 198 rfl) rfl
theorem w_1400 : (Jvm.Cond.instanceMethod ({ cls := "SlotMat", name := "lookAheadTurned", desc := "(III)V" } : Jvm.MethodName)) ∈ am_WT := am_wt (am_m6 200 rfl) rfl
theorem w_1401 : (Jvm.Cond.code ({ cls := "SlotMat", name := "lookAheadTurned", desc := "(III)V" } : Jvm.MethodName) prog_1_method_34_code (5 : Nat) (Option.none : Option Jvm.ClassFile.FieldType)) ∈ am_WT := am_wt (am_m6 201 rfl) rfl
theorem w_1402 : (Jvm.Cond.methodLink "SlotMat" (307 : Nat) ({ cls := "SlotMat", name := "countUnlike", desc := "(II)I" } : Jvm.MethodName)) ∈ am_WT := am_wt (am_m6 202 rfl) rfl
theorem w_1404 : (Jvm.Cond.instanceMethod ({ cls := "SlotMat", name := "countUnlike", desc := "(II)I" } : Jvm.MethodName)) ∈ am_WT := am_wt (am_m6 204 rfl) rfl
theorem w_1405 : (Jvm.Cond.code ({ cls := "SlotMat", name := "countUnlike", desc := "(II)I" } : Jvm.MethodName) prog_1_method_35_code (5 : Nat) (Option.some Jvm.ClassFile.FieldType.int)) ∈ am_WT := am_wt (am_m6 205 rfl) rfl
theorem w_1406 : (Jvm.Cond.methodLink "SlotMat" (313 : Nat) ({ cls := "SlotMat", name := "isNewSum", desc := "(II)Z" } : Jvm.MethodName)) ∈ am_WT := am_wt (am_m6 206 rfl) rfl
theorem w_1408 : (Jvm.Cond.instanceMethod ({ cls := "SlotMat", name := "isNewSum", desc := "(II)Z" } : Jvm.MethodName)) ∈ am_WT := am_wt (am_m6 208 rfl) rfl
theorem w_1409 : (Jvm.Cond.code ({ cls := "SlotMat", name := "isNewSum", desc := "(II)Z" } : Jvm.MethodName) prog_1_method_36_code (5 : Nat) (Option.some Jvm.ClassFile.FieldType.boolean)) ∈ am_WT := am_wt (am_m6 209 rfl) rfl
theorem w_1410 : (Jvm.Cond.methodLink "SlotMatLaw" (212 : Nat) ({ cls := "SlotMatLaw", name := "wetNights", desc := "(LSlotMat;IIII[J)I" } : Jvm.MethodName)) ∈ am_WT := am_wt (am_m6 210 rfl) rfl
theorem w_1411 : (Jvm.Cond.static ({ cls := "SlotMatLaw", name := "wetNights", desc := "(LSlotMat;IIII[J)I" } : Jvm.MethodName)) ∈ am_WT := am_wt (am_m6 211 rfl) rfl
theorem w_1412 : (Jvm.Cond.codeWith ({ cls := "SlotMatLaw", name := "wetNights", desc := "(LSlotMat;IIII[J)I" } : Jvm.MethodName) method_24_code (7 : Nat) (Option.some Jvm.ClassFile.FieldType.int) [((0 : Nat), (14 : Nat), (17 : Nat), (18 : Nat)), ((0 : Nat), (14 : Nat), (21 : Nat), (13 : Nat))]) ∈ am_WT := am_wt (am_m6 212 rfl) rfl
theorem w_1413 : (Jvm.Cond.methodLink "SlotMatLaw" (79 : Nat) ({ cls := "SlotMat", name := "wetNights", desc := "(IIII)I" } : Jvm.MethodName)) ∈ am_WT := am_wt (am_m6 213 rfl) rfl
theorem w_1414 : (Jvm.Cond.instanceMethod ({ cls := "SlotMat", name := "wetNights", desc := "(IIII)I" } : Jvm.MethodName)) ∈ am_WT := am_wt (am_m6 214 rfl) rfl
theorem w_1415 : (Jvm.Cond.selects "SlotMat" ({ cls := "SlotMat", name := "wetNights", desc := "(IIII)I" } : Jvm.MethodName) ({ cls := "SlotMat", name := "wetNights", desc := "(IIII)I" } : Jvm.MethodName)) ∈ am_WT := am_wt (am_m6 215 rfl) rfl
theorem w_1416 : (Jvm.Cond.code ({ cls := "SlotMat", name := "wetNights", desc := "(IIII)I" } : Jvm.MethodName) prog_1_method_37_code (8 : Nat) (Option.some Jvm.ClassFile.FieldType.int)) ∈ am_WT := am_wt (am_m6 216 rfl) rfl
theorem w_1417 : (Jvm.Cond.methodLink "SlotMat" (316 : Nat) ({ cls := "SlotMat", name := "weightOf", desc := "(III)I" } : Jvm.MethodName)) ∈ am_WT := am_wt (am_m6 217 rfl) rfl
theorem w_1418 : (Jvm.Cond.static ({ cls := "SlotMat", name := "weightOf", desc := "(III)I" } : Jvm.MethodName)) ∈ am_WT := am_wt (am_m6 218 rfl) rfl
theorem w_1419 : (Jvm.Cond.code ({ cls := "SlotMat", name := "weightOf", desc := "(III)I" } : Jvm.MethodName) prog_1_method_38_code (5 : Nat) (Option.some Jvm.ClassFile.FieldType.int)) ∈ am_WT := am_wt (am_m6 219 rfl) rfl
theorem w_1420 : (Jvm.Cond.methodLink "SlotMat" (320 : Nat) ({ cls := "SlotMat", name := "heardByNights", desc := "(III)I" } : Jvm.MethodName)) ∈ am_WT := am_wt (am_m6 220 rfl) rfl
theorem w_1422 : (Jvm.Cond.instanceMethod ({ cls := "SlotMat", name := "heardByNights", desc := "(III)I" } : Jvm.MethodName)) ∈ am_WT := am_wt (am_m6 222 rfl) rfl
theorem w_1423 : (Jvm.Cond.code ({ cls := "SlotMat", name := "heardByNights", desc := "(III)I" } : Jvm.MethodName) prog_1_method_39_code (6 : Nat) (Option.some Jvm.ClassFile.FieldType.int)) ∈ am_WT := am_wt (am_m6 223 rfl) rfl
theorem w_1424 : (Jvm.Cond.methodLink "SlotMat" (323 : Nat) ({ cls := "SlotMat$City", name := "passDayWith", desc := "(LSlotMat$State;II)I" } : Jvm.MethodName)) ∈ am_WT := am_wt (am_m6 224 rfl) rfl
theorem w_1425 : (Jvm.Cond.methodLink "SlotMatLaw" (216 : Nat) ({ cls := "SlotMatLaw", name := "game", desc := "(LSlotMat;III[J)I" } : Jvm.MethodName)) ∈ am_WT := am_wt (am_m6 225 rfl) rfl
theorem w_1426 : (Jvm.Cond.static ({ cls := "SlotMatLaw", name := "game", desc := "(LSlotMat;III[J)I" } : Jvm.MethodName)) ∈ am_WT := am_wt (am_m6 226 rfl) rfl
theorem w_1427 : (Jvm.Cond.codeWith ({ cls := "SlotMatLaw", name := "game", desc := "(LSlotMat;III[J)I" } : Jvm.MethodName) method_25_code (6 : Nat) (Option.some Jvm.ClassFile.FieldType.int) [((0 : Nat), (12 : Nat), (15 : Nat), (18 : Nat)), ((0 : Nat), (12 : Nat), (19 : Nat), (13 : Nat))]) ∈ am_WT := am_wt (am_m6 227 rfl) rfl
theorem w_1428 : (Jvm.Cond.methodLink "SlotMatLaw" (83 : Nat) ({ cls := "SlotMat", name := "game", desc := "(III)I" } : Jvm.MethodName)) ∈ am_WT := am_wt (am_m6 228 rfl) rfl
theorem w_1429 : (Jvm.Cond.instanceMethod ({ cls := "SlotMat", name := "game", desc := "(III)I" } : Jvm.MethodName)) ∈ am_WT := am_wt (am_m6 229 rfl) rfl
theorem w_1430 : (Jvm.Cond.selects "SlotMat" ({ cls := "SlotMat", name := "game", desc := "(III)I" } : Jvm.MethodName) ({ cls := "SlotMat", name := "game", desc := "(III)I" } : Jvm.MethodName)) ∈ am_WT := am_wt (am_m6 230 rfl) rfl
theorem w_1431 : (Jvm.Cond.code ({ cls := "SlotMat", name := "game", desc := "(III)I" } : Jvm.MethodName) prog_1_method_40_code (7 : Nat) (Option.some Jvm.ClassFile.FieldType.int)) ∈ am_WT := am_wt (am_m6 231 rfl) rfl
theorem w_1433 : (Jvm.Cond.methodLink "SlotMat" (329 : Nat) ({ cls := "SlotMat", name := "weighCouple", desc := "(III)V" } : Jvm.MethodName)) ∈ am_WT := am_wt (am_m6 233 rfl) rfl
theorem w_1435 : (Jvm.Cond.instanceMethod ({ cls := "SlotMat", name := "weighCouple", desc := "(III)V" } : Jvm.MethodName)) ∈ am_WT := am_wt (am_m6 235 rfl) rfl
theorem w_1436 : (Jvm.Cond.code ({ cls := "SlotMat", name := "weighCouple", desc := "(III)V" } : Jvm.MethodName) prog_1_method_41_code (7 : Nat) (Option.none : Option Jvm.ClassFile.FieldType)) ∈ am_WT := am_wt (am_m6 236 rfl) rfl
theorem w_1437 : (Jvm.Cond.methodLink "SlotMat" (336 : Nat) ({ cls := "SlotMat", name := "gainOf", desc := "(II)I" } : Jvm.MethodName)) ∈ am_WT := am_wt (am_m6 237 rfl) rfl
theorem w_1439 : (Jvm.Cond.instanceMethod ({ cls := "SlotMat", name := "gainOf", desc := "(II)I" } : Jvm.MethodName)) ∈ am_WT := am_wt (am_m6 239 rfl) rfl
theorem w_1440 : (Jvm.Cond.code ({ cls := "SlotMat", name := "gainOf", desc := "(II)I" } : Jvm.MethodName) prog_1_method_42_code (3 : Nat) (Option.some Jvm.ClassFile.FieldType.int)) ∈ am_WT := am_wt (am_m7 0 rfl) rfl
theorem w_1441 : (Jvm.Cond.methodLink "SlotMat" (332 : Nat) ({ cls := "SlotMat", name := "coupleRests", desc := "(I)Z" } : Jvm.MethodName)) ∈ am_WT := am_wt (am_m7 1 rfl) rfl
theorem w_1443 : (Jvm.Cond.instanceMethod ({ cls := "SlotMat", name := "coupleRests", desc := "(I)Z" } : Jvm.MethodName)) ∈ am_WT := am_wt (am_m7 3 rfl) rfl
theorem w_1444 : (Jvm.Cond.code ({ cls := "SlotMat", name := "coupleRests", desc := "(I)Z" } : Jvm.MethodName) prog_1_method_43_code (4 : Nat) (Option.some Jvm.ClassFile.FieldType.boolean)) ∈ am_WT := am_wt (am_m7 4 rfl) rfl
theorem w_1445 : (Jvm.Cond.methodLink "SlotMatLaw" (219 : Nat) ({ cls := "SlotMatLaw", name := "years", desc := "(LSlotMat;III[J)I" } : Jvm.MethodName)) ∈ am_WT := am_wt (am_m7 5 rfl) rfl
theorem w_1446 : (Jvm.Cond.static ({ cls := "SlotMatLaw", name := "years", desc := "(LSlotMat;III[J)I" } : Jvm.MethodName)) ∈ am_WT := am_wt (am_m7 6 rfl) rfl
theorem w_1447 : (Jvm.Cond.codeWith ({ cls := "SlotMatLaw", name := "years", desc := "(LSlotMat;III[J)I" } : Jvm.MethodName) method_26_code (6 : Nat) (Option.some Jvm.ClassFile.FieldType.int) [((0 : Nat), (12 : Nat), (15 : Nat), (18 : Nat)), ((0 : Nat), (12 : Nat), (19 : Nat), (13 : Nat))]) ∈ am_WT := am_wt (am_m7 7 rfl) rfl
theorem w_1448 : (Jvm.Cond.methodLink "SlotMatLaw" (86 : Nat) ({ cls := "SlotMat", name := "years", desc := "(III)I" } : Jvm.MethodName)) ∈ am_WT := am_wt (am_m7 8 rfl) rfl
theorem w_1449 : (Jvm.Cond.instanceMethod ({ cls := "SlotMat", name := "years", desc := "(III)I" } : Jvm.MethodName)) ∈ am_WT := am_wt (am_m7 9 rfl) rfl
theorem w_1450 : (Jvm.Cond.selects "SlotMat" ({ cls := "SlotMat", name := "years", desc := "(III)I" } : Jvm.MethodName) ({ cls := "SlotMat", name := "years", desc := "(III)I" } : Jvm.MethodName)) ∈ am_WT := am_wt (am_m7 10 rfl) rfl
theorem w_1451 : (Jvm.Cond.code ({ cls := "SlotMat", name := "years", desc := "(III)I" } : Jvm.MethodName) prog_1_method_44_code (6 : Nat) (Option.some Jvm.ClassFile.FieldType.int)) ∈ am_WT := am_wt (am_m7 11 rfl) rfl
theorem w_1452 : (Jvm.Cond.methodLink "SlotMat" (339 : Nat) ({ cls := "SlotMat", name := "draw", desc := "(I)I" } : Jvm.MethodName)) ∈ am_WT := am_wt (am_m7 12 rfl) rfl
theorem w_1454 : (Jvm.Cond.instanceMethod ({ cls := "SlotMat", name := "draw", desc := "(I)I" } : Jvm.MethodName)) ∈ am_WT := am_wt (am_m7 14 rfl) rfl
theorem w_1455 : (Jvm.Cond.code ({ cls := "SlotMat", name := "draw", desc := "(I)I" } : Jvm.MethodName) prog_1_method_46_code (2 : Nat) (Option.some Jvm.ClassFile.FieldType.int)) ∈ am_WT := am_wt (am_m7 15 rfl) rfl
theorem w_1456 : (Jvm.Cond.constant "SlotMat" (348 : Nat) (1103515245 : Int32)) ∈ am_WT := am_wt (am_m7 16 rfl) rfl
theorem w_1457 : (Jvm.Cond.methodLink "SlotMat" (342 : Nat) ({ cls := "SlotMat", name := "drawAct", desc := "()V" } : Jvm.MethodName)) ∈ am_WT := am_wt (am_m7 17 rfl) rfl
theorem w_1459 : (Jvm.Cond.instanceMethod ({ cls := "SlotMat", name := "drawAct", desc := "()V" } : Jvm.MethodName)) ∈ am_WT := am_wt (am_m7 19 rfl) rfl
theorem w_1460 : (Jvm.Cond.code ({ cls := "SlotMat", name := "drawAct", desc := "()V" } : Jvm.MethodName) prog_1_method_45_code (4 : Nat) (Option.none : Option Jvm.ClassFile.FieldType)) ∈ am_WT := am_wt (am_m7 20 rfl) rfl
theorem w_1461 : (Jvm.Cond.methodLink "SlotMat" (345 : Nat) ({ cls := "SlotMat$State", name := "regretOfAll", desc := "()I" } : Jvm.MethodName)) ∈ am_WT := am_wt (am_m7 21 rfl) rfl
theorem w_1462 : (Jvm.Cond.instanceMethod ({ cls := "SlotMat$State", name := "regretOfAll", desc := "()I" } : Jvm.MethodName)) ∈ am_WT := am_wt (am_m7 22 rfl) rfl
theorem w_1463 : (Jvm.Cond.selects "SlotMat$State" ({ cls := "SlotMat$State", name := "regretOfAll", desc := "()I" } : Jvm.MethodName) ({ cls := "SlotMat$State", name := "regretOfAll", desc := "()I" } : Jvm.MethodName)) ∈ am_WT := am_wt (am_m7 23 rfl) rfl
theorem w_1464 : (Jvm.Cond.code ({ cls := "SlotMat$State", name := "regretOfAll", desc := "()I" } : Jvm.MethodName) prog_9_method_13_code (1 : Nat) (Option.some Jvm.ClassFile.FieldType.int)) ∈ am_WT := am_wt (am_m7 24 rfl) rfl
theorem w_1465 : (Jvm.Cond.methodLink "SlotMatLaw" (222 : Nat) ({ cls := "SlotMatLaw", name := "pale", desc := "(LSlotMat;II[J)I" } : Jvm.MethodName)) ∈ am_WT := am_wt (am_m7 25 rfl) rfl
theorem w_1466 : (Jvm.Cond.static ({ cls := "SlotMatLaw", name := "pale", desc := "(LSlotMat;II[J)I" } : Jvm.MethodName)) ∈ am_WT := am_wt (am_m7 26 rfl) rfl
theorem w_1467 : (Jvm.Cond.codeWith ({ cls := "SlotMatLaw", name := "pale", desc := "(LSlotMat;II[J)I" } : Jvm.MethodName) method_27_code (5 : Nat) (Option.some Jvm.ClassFile.FieldType.int) [((0 : Nat), (10 : Nat), (13 : Nat), (18 : Nat)), ((0 : Nat), (10 : Nat), (17 : Nat), (13 : Nat))]) ∈ am_WT := am_wt (am_m7 27 rfl) rfl
theorem w_1468 : (Jvm.Cond.methodLink "SlotMatLaw" (89 : Nat) ({ cls := "SlotMat", name := "pale", desc := "(II)I" } : Jvm.MethodName)) ∈ am_WT := am_wt (am_m7 28 rfl) rfl
theorem w_1469 : (Jvm.Cond.instanceMethod ({ cls := "SlotMat", name := "pale", desc := "(II)I" } : Jvm.MethodName)) ∈ am_WT := am_wt (am_m7 29 rfl) rfl
theorem w_1470 : (Jvm.Cond.selects "SlotMat" ({ cls := "SlotMat", name := "pale", desc := "(II)I" } : Jvm.MethodName) ({ cls := "SlotMat", name := "pale", desc := "(II)I" } : Jvm.MethodName)) ∈ am_WT := am_wt (am_m7 30 rfl) rfl
theorem w_1471 : (Jvm.Cond.code ({ cls := "SlotMat", name := "pale", desc := "(II)I" } : Jvm.MethodName) prog_1_method_47_code (4 : Nat) (Option.some Jvm.ClassFile.FieldType.int)) ∈ am_WT := am_wt (am_m7 31 rfl) rfl
theorem w_1472 : (Jvm.Cond.methodLink "SlotMatLaw" (225 : Nat) ({ cls := "SlotMatLaw", name := "visits", desc := "(LSlotMat;II[J)I" } : Jvm.MethodName)) ∈ am_WT := am_wt (am_m7 32 rfl) rfl
theorem w_1473 : (Jvm.Cond.static ({ cls := "SlotMatLaw", name := "visits", desc := "(LSlotMat;II[J)I" } : Jvm.MethodName)) ∈ am_WT := am_wt (am_m7 33 rfl) rfl
theorem w_1474 : (Jvm.Cond.codeWith ({ cls := "SlotMatLaw", name := "visits", desc := "(LSlotMat;II[J)I" } : Jvm.MethodName) method_28_code (5 : Nat) (Option.some Jvm.ClassFile.FieldType.int) [((0 : Nat), (10 : Nat), (13 : Nat), (18 : Nat)), ((0 : Nat), (10 : Nat), (17 : Nat), (13 : Nat))]) ∈ am_WT := am_wt (am_m7 34 rfl) rfl
theorem w_1475 : (Jvm.Cond.methodLink "SlotMatLaw" (92 : Nat) ({ cls := "SlotMat", name := "visits", desc := "(II)I" } : Jvm.MethodName)) ∈ am_WT := am_wt (am_m7 35 rfl) rfl
theorem w_1476 : (Jvm.Cond.instanceMethod ({ cls := "SlotMat", name := "visits", desc := "(II)I" } : Jvm.MethodName)) ∈ am_WT := am_wt (am_m7 36 rfl) rfl
theorem w_1477 : (Jvm.Cond.selects "SlotMat" ({ cls := "SlotMat", name := "visits", desc := "(II)I" } : Jvm.MethodName) ({ cls := "SlotMat", name := "visits", desc := "(II)I" } : Jvm.MethodName)) ∈ am_WT := am_wt (am_m7 37 rfl) rfl
theorem w_1478 : (Jvm.Cond.code ({ cls := "SlotMat", name := "visits", desc := "(II)I" } : Jvm.MethodName) prog_1_method_48_code (5 : Nat) (Option.some Jvm.ClassFile.FieldType.int)) ∈ am_WT := am_wt (am_m7 38 rfl) rfl
theorem w_1479 : (Jvm.Cond.methodLink "SlotMatLaw" (228 : Nat) ({ cls := "SlotMatLaw", name := "steps", desc := "(LSlotMat;II[J)I" } : Jvm.MethodName)) ∈ am_WT := am_wt (am_m7 39 rfl) rfl
theorem w_1480 : (Jvm.Cond.static ({ cls := "SlotMatLaw", name := "steps", desc := "(LSlotMat;II[J)I" } : Jvm.MethodName)) ∈ am_WT := am_wt (am_m7 40 rfl) rfl
theorem w_1481 : (Jvm.Cond.codeWith ({ cls := "SlotMatLaw", name := "steps", desc := "(LSlotMat;II[J)I" } : Jvm.MethodName) method_29_code (5 : Nat) (Option.some Jvm.ClassFile.FieldType.int) [((0 : Nat), (10 : Nat), (13 : Nat), (18 : Nat))]) ∈ am_WT := am_wt (am_m7 41 rfl) rfl
theorem w_1482 : (Jvm.Cond.methodLink "SlotMatLaw" (95 : Nat) ({ cls := "SlotMat", name := "steps", desc := "(II)I" } : Jvm.MethodName)) ∈ am_WT := am_wt (am_m7 42 rfl) rfl
theorem w_1483 : (Jvm.Cond.instanceMethod ({ cls := "SlotMat", name := "steps", desc := "(II)I" } : Jvm.MethodName)) ∈ am_WT := am_wt (am_m7 43 rfl) rfl
theorem w_1484 : (Jvm.Cond.selects "SlotMat" ({ cls := "SlotMat", name := "steps", desc := "(II)I" } : Jvm.MethodName) ({ cls := "SlotMat", name := "steps", desc := "(II)I" } : Jvm.MethodName)) ∈ am_WT := am_wt (am_m7 44 rfl) rfl
theorem w_1485 : (Jvm.Cond.code ({ cls := "SlotMat", name := "steps", desc := "(II)I" } : Jvm.MethodName) prog_1_method_49_code (5 : Nat) (Option.some Jvm.ClassFile.FieldType.int)) ∈ am_WT := am_wt (am_m7 45 rfl) rfl
theorem w_1486 : (Jvm.Cond.methodLink "SlotMatLaw" (231 : Nat) ({ cls := "SlotMatLaw", name := "quiet", desc := "(LSlotMat;II[J)I" } : Jvm.MethodName)) ∈ am_WT := am_wt (am_m7 46 rfl) rfl
theorem w_1487 : (Jvm.Cond.static ({ cls := "SlotMatLaw", name := "quiet", desc := "(LSlotMat;II[J)I" } : Jvm.MethodName)) ∈ am_WT := am_wt (am_m7 47 rfl) rfl
theorem w_1488 : (Jvm.Cond.codeWith ({ cls := "SlotMatLaw", name := "quiet", desc := "(LSlotMat;II[J)I" } : Jvm.MethodName) method_30_code (5 : Nat) (Option.some Jvm.ClassFile.FieldType.int) [((0 : Nat), (10 : Nat), (13 : Nat), (18 : Nat)), ((0 : Nat), (10 : Nat), (17 : Nat), (13 : Nat))]) ∈ am_WT := am_wt (am_m7 48 rfl) rfl
theorem w_1489 : (Jvm.Cond.methodLink "SlotMatLaw" (98 : Nat) ({ cls := "SlotMat", name := "quiet", desc := "(II)I" } : Jvm.MethodName)) ∈ am_WT := am_wt (am_m7 49 rfl) rfl
theorem w_1490 : (Jvm.Cond.instanceMethod ({ cls := "SlotMat", name := "quiet", desc := "(II)I" } : Jvm.MethodName)) ∈ am_WT := am_wt (am_m7 50 rfl) rfl
theorem w_1491 : (Jvm.Cond.selects "SlotMat" ({ cls := "SlotMat", name := "quiet", desc := "(II)I" } : Jvm.MethodName) ({ cls := "SlotMat", name := "quiet", desc := "(II)I" } : Jvm.MethodName)) ∈ am_WT := am_wt (am_m7 51 rfl) rfl
theorem w_1492 : (Jvm.Cond.code ({ cls := "SlotMat", name := "quiet", desc := "(II)I" } : Jvm.MethodName) prog_1_method_50_code (7 : Nat) (Option.some Jvm.ClassFile.FieldType.int)) ∈ am_WT := am_wt (am_m7 52 rfl) rfl
theorem w_1493 : (Jvm.Cond.methodLink "SlotMat" (349 : Nat) ({ cls := "java/lang/Math", name := "max", desc := "(II)I" } : Jvm.MethodName)) ∈ am_WT := am_wt (am_m7 53 rfl) rfl
theorem w_1494 : (Jvm.Cond.methodLink "SlotMatLaw" (238 : Nat) ({ cls := "SlotMatLaw", name := "bestAt", desc := "(LSlotMat;II[J)I" } : Jvm.MethodName)) ∈ am_WT := am_wt (am_m7 54 rfl) rfl
theorem w_1495 : (Jvm.Cond.static ({ cls := "SlotMatLaw", name := "bestAt", desc := "(LSlotMat;II[J)I" } : Jvm.MethodName)) ∈ am_WT := am_wt (am_m7 55 rfl) rfl
theorem w_1496 : (Jvm.Cond.codeWith ({ cls := "SlotMatLaw", name := "bestAt", desc := "(LSlotMat;II[J)I" } : Jvm.MethodName) method_31_code (5 : Nat) (Option.some Jvm.ClassFile.FieldType.int) [((0 : Nat), (10 : Nat), (13 : Nat), (18 : Nat)), ((0 : Nat), (10 : Nat), (17 : Nat), (13 : Nat))]) ∈ am_WT := am_wt (am_m7 56 rfl) rfl
theorem w_1497 : (Jvm.Cond.methodLink "SlotMatLaw" (101 : Nat) ({ cls := "SlotMat", name := "bestAt", desc := "(II)I" } : Jvm.MethodName)) ∈ am_WT := am_wt (am_m7 57 rfl) rfl
theorem w_1498 : (Jvm.Cond.instanceMethod ({ cls := "SlotMat", name := "bestAt", desc := "(II)I" } : Jvm.MethodName)) ∈ am_WT := am_wt (am_m7 58 rfl) rfl
theorem w_1499 : (Jvm.Cond.selects "SlotMat" ({ cls := "SlotMat", name := "bestAt", desc := "(II)I" } : Jvm.MethodName) ({ cls := "SlotMat", name := "bestAt", desc := "(II)I" } : Jvm.MethodName)) ∈ am_WT := am_wt (am_m7 59 rfl) rfl
theorem w_1500 : (Jvm.Cond.code ({ cls := "SlotMat", name := "bestAt", desc := "(II)I" } : Jvm.MethodName) prog_1_method_52_code (6 : Nat) (Option.some Jvm.ClassFile.FieldType.int)) ∈ am_WT := am_wt (am_m7 60 rfl) rfl
theorem w_1501 : (Jvm.Cond.methodLink "SlotMatLaw" (241 : Nat) ({ cls := "SlotMatLaw", name := "reds", desc := "(LSlotMat;I[J)I" } : Jvm.MethodName)) ∈ am_WT := am_wt (am_m7 61 rfl) rfl
theorem w_1502 : (Jvm.Cond.static ({ cls := "SlotMatLaw", name := "reds", desc := "(LSlotMat;I[J)I" } : Jvm.MethodName)) ∈ am_WT := am_wt (am_m7 62 rfl) rfl
theorem w_1503 : (Jvm.Cond.codeWith ({ cls := "SlotMatLaw", name := "reds", desc := "(LSlotMat;I[J)I" } : Jvm.MethodName) method_32_code (4 : Nat) (Option.some Jvm.ClassFile.FieldType.int) [((0 : Nat), (9 : Nat), (12 : Nat), (13 : Nat))]) ∈ am_WT := am_wt (am_m7 63 rfl) rfl
theorem w_1504 : (Jvm.Cond.methodLink "SlotMatLaw" (104 : Nat) ({ cls := "SlotMat", name := "reds", desc := "(I)I" } : Jvm.MethodName)) ∈ am_WT := am_wt (am_m7 64 rfl) rfl
theorem w_1505 : (Jvm.Cond.instanceMethod ({ cls := "SlotMat", name := "reds", desc := "(I)I" } : Jvm.MethodName)) ∈ am_WT := am_wt (am_m7 65 rfl) rfl
theorem w_1506 : (Jvm.Cond.selects "SlotMat" ({ cls := "SlotMat", name := "reds", desc := "(I)I" } : Jvm.MethodName) ({ cls := "SlotMat", name := "reds", desc := "(I)I" } : Jvm.MethodName)) ∈ am_WT := am_wt (am_m7 66 rfl) rfl
theorem w_1507 : (Jvm.Cond.code ({ cls := "SlotMat", name := "reds", desc := "(I)I" } : Jvm.MethodName) prog_1_method_53_code (2 : Nat) (Option.some Jvm.ClassFile.FieldType.int)) ∈ am_WT := am_wt (am_m7 67 rfl) rfl
theorem w_1508 : (Jvm.Cond.methodLink "SlotMat" (354 : Nat) ({ cls := "SlotMat$State", name := "redOfAll", desc := "()I" } : Jvm.MethodName)) ∈ am_WT := am_wt (am_m7 68 rfl) rfl
theorem w_1509 : (Jvm.Cond.instanceMethod ({ cls := "SlotMat$State", name := "redOfAll", desc := "()I" } : Jvm.MethodName)) ∈ am_WT := am_wt (am_m7 69 rfl) rfl
theorem w_1510 : (Jvm.Cond.selects "SlotMat$State" ({ cls := "SlotMat$State", name := "redOfAll", desc := "()I" } : Jvm.MethodName) ({ cls := "SlotMat$State", name := "redOfAll", desc := "()I" } : Jvm.MethodName)) ∈ am_WT := am_wt (am_m7 70 rfl) rfl
theorem w_1511 : (Jvm.Cond.code ({ cls := "SlotMat$State", name := "redOfAll", desc := "()I" } : Jvm.MethodName) prog_9_method_11_code (1 : Nat) (Option.some Jvm.ClassFile.FieldType.int)) ∈ am_WT := am_wt (am_m7 71 rfl) rfl
theorem w_1512 : (Jvm.Cond.methodLink "SlotMatLaw" (244 : Nat) ({ cls := "SlotMatLaw", name := "whose", desc := "(LSlotMat;I[J)I" } : Jvm.MethodName)) ∈ am_WT := am_wt (am_m7 72 rfl) rfl
theorem w_1513 : (Jvm.Cond.static ({ cls := "SlotMatLaw", name := "whose", desc := "(LSlotMat;I[J)I" } : Jvm.MethodName)) ∈ am_WT := am_wt (am_m7 73 rfl) rfl
theorem w_1514 : (Jvm.Cond.codeWith ({ cls := "SlotMatLaw", name := "whose", desc := "(LSlotMat;I[J)I" } : Jvm.MethodName) method_33_code (4 : Nat) (Option.some Jvm.ClassFile.FieldType.int) [((0 : Nat), (9 : Nat), (12 : Nat), (18 : Nat))]) ∈ am_WT := am_wt (am_m7 74 rfl) rfl
theorem w_1515 : (Jvm.Cond.methodLink "SlotMatLaw" (107 : Nat) ({ cls := "SlotMat", name := "whose", desc := "(I)I" } : Jvm.MethodName)) ∈ am_WT := am_wt (am_m7 75 rfl) rfl
theorem w_1516 : (Jvm.Cond.instanceMethod ({ cls := "SlotMat", name := "whose", desc := "(I)I" } : Jvm.MethodName)) ∈ am_WT := am_wt (am_m7 76 rfl) rfl
theorem w_1517 : (Jvm.Cond.selects "SlotMat" ({ cls := "SlotMat", name := "whose", desc := "(I)I" } : Jvm.MethodName) ({ cls := "SlotMat", name := "whose", desc := "(I)I" } : Jvm.MethodName)) ∈ am_WT := am_wt (am_m7 77 rfl) rfl
theorem w_1518 : (Jvm.Cond.code ({ cls := "SlotMat", name := "whose", desc := "(I)I" } : Jvm.MethodName) prog_1_method_54_code (5 : Nat) (Option.some Jvm.ClassFile.FieldType.int)) ∈ am_WT := am_wt (am_m7 78 rfl) rfl
theorem w_1519 : (Jvm.Cond.classLink "SlotMatLaw" (111 : Nat) "SlotMatModel") ∈ am_WT := am_wt (am_m7 79 rfl) rfl
theorem w_1520 : (Jvm.Cond.instantiable "SlotMatModel" (67 : Nat)) ∈ am_WT := am_wt (am_m7 80 rfl) rfl
theorem w_1521 : (Jvm.Cond.methodLink "SlotMatLaw" (113 : Nat) ({ cls := "SlotMatModel", name := "<init>", desc := "()V" } : Jvm.MethodName)) ∈ am_WT := am_wt (am_m7 81 rfl) rfl
theorem w_1522 : (Jvm.Cond.instanceMethod ({ cls := "SlotMatModel", name := "<init>", desc := "()V" } : Jvm.MethodName)) ∈ am_WT := am_wt (am_m7 82 rfl) rfl
theorem w_1523 : (Jvm.Cond.code ({ cls := "SlotMatModel", name := "<init>", desc := "()V" } : Jvm.MethodName) prog_12_method_1_code (1 : Nat) (Option.none : Option Jvm.ClassFile.FieldType)) ∈ am_WT := am_wt (am_m7 83 rfl) rfl
theorem w_1524 : (Jvm.Cond.methodLink "SlotMatModel" (1 : Nat) ({ cls := "java/lang/Object", name := "<init>", desc := "()V" } : Jvm.MethodName)) ∈ am_WT := am_wt (am_m7 84 rfl) rfl
theorem w_1525 : (Jvm.Cond.fieldLink "SlotMatModel" (111 : Nat) "SlotMatModel" "thrown" "I") ∈ am_WT := am_wt (am_m7 85 rfl) rfl
theorem w_1526 : (Jvm.Cond.fieldLink "SlotMatModel" (285 : Nat) "SlotMatModel" "boxes" "I") ∈ am_WT := am_wt (am_m7 86 rfl) rfl
theorem w_1527 : (Jvm.Cond.fieldLink "SlotMatModel" (288 : Nat) "SlotMatModel" "people" "I") ∈ am_WT := am_wt (am_m7 87 rfl) rfl
theorem w_1528 : (Jvm.Cond.fieldLink "SlotMatModel" (291 : Nat) "SlotMatModel" "roundLong" "I") ∈ am_WT := am_wt (am_m7 88 rfl) rfl
theorem w_1529 : (Jvm.Cond.fieldLink "SlotMatModel" (294 : Nat) "SlotMatModel" "numbers" "I") ∈ am_WT := am_wt (am_m7 89 rfl) rfl
theorem w_1530 : (Jvm.Cond.fieldLink "SlotMatModel" (9 : Nat) "SlotMatModel" "thinksAt" "I") ∈ am_WT := am_wt (am_m7 90 rfl) rfl
theorem w_1531 : (Jvm.Cond.fieldLink "SlotMatModel" (13 : Nat) "SlotMatModel" "soundsAt" "I") ∈ am_WT := am_wt (am_m7 91 rfl) rfl
theorem w_1532 : (Jvm.Cond.fieldLink "SlotMatModel" (16 : Nat) "SlotMatModel" "boxAt" "[I") ∈ am_WT := am_wt (am_m7 92 rfl) rfl
theorem w_1533 : (Jvm.Cond.fieldLink "SlotMatModel" (20 : Nat) "SlotMatModel" "personAt" "[I") ∈ am_WT := am_wt (am_m7 93 rfl) rfl
theorem w_1534 : (Jvm.Cond.fieldLink "SlotMatModel" (23 : Nat) "SlotMatModel" "pensive" "[I") ∈ am_WT := am_wt (am_m7 94 rfl) rfl
theorem w_1535 : (Jvm.Cond.fieldLink "SlotMatModel" (26 : Nat) "SlotMatModel" "round" "[I") ∈ am_WT := am_wt (am_m7 95 rfl) rfl
theorem w_1536 : (Jvm.Cond.fieldLink "SlotMatModel" (29 : Nat) "SlotMatModel" "wets" "[I") ∈ am_WT := am_wt (am_m7 96 rfl) rfl
theorem w_1537 : (Jvm.Cond.fieldLink "SlotMatModel" (32 : Nat) "SlotMatModel" "code" "[I") ∈ am_WT := am_wt (am_m7 97 rfl) rfl
theorem w_1538 : (Jvm.Cond.fieldLink "SlotMatModel" (35 : Nat) "SlotMatModel" "tape" "[I") ∈ am_WT := am_wt (am_m7 98 rfl) rfl
theorem w_1539 : (Jvm.Cond.fieldLink "SlotMatModel" (114 : Nat) "SlotMatModel" "taped" "I") ∈ am_WT := am_wt (am_m7 99 rfl) rfl
theorem w_1540 : (Jvm.Cond.fieldLink "SlotMatModel" (167 : Nat) "SlotMatModel" "faultKind" "I") ∈ am_WT := am_wt (am_m7 100 rfl) rfl
theorem w_1541 : (Jvm.Cond.fieldLink "SlotMatModel" (38 : Nat) "SlotMatModel" "faultPlace" "I") ∈ am_WT := am_wt (am_m7 101 rfl) rfl
theorem w_1542 : (Jvm.Cond.fieldLink "SlotMatModel" (41 : Nat) "SlotMatModel" "refused" "[I") ∈ am_WT := am_wt (am_m7 102 rfl) rfl
theorem w_1543 : (Jvm.Cond.fieldLink "SlotMatModel" (121 : Nat) "SlotMatModel" "long1" "I") ∈ am_WT := am_wt (am_m7 103 rfl) rfl
theorem w_1544 : (Jvm.Cond.fieldLink "SlotMatModel" (124 : Nat) "SlotMatModel" "next0" "I") ∈ am_WT := am_wt (am_m7 104 rfl) rfl
theorem w_1545 : (Jvm.Cond.fieldLink "SlotMatModel" (144 : Nat) "SlotMatModel" "sort" "I") ∈ am_WT := am_wt (am_m7 105 rfl) rfl
theorem w_1546 : (Jvm.Cond.fieldLink "SlotMatModel" (131 : Nat) "SlotMatModel" "place" "I") ∈ am_WT := am_wt (am_m7 106 rfl) rfl
theorem w_1547 : (Jvm.Cond.fieldLink "SlotMatModel" (154 : Nat) "SlotMatModel" "long0" "I") ∈ am_WT := am_wt (am_m7 107 rfl) rfl
theorem w_1548 : (Jvm.Cond.fieldLink "SlotMatModel" (138 : Nat) "SlotMatModel" "value" "I") ∈ am_WT := am_wt (am_m7 108 rfl) rfl
theorem w_1549 : (Jvm.Cond.fieldLink "SlotMatModel" (141 : Nat) "SlotMatModel" "sign" "I") ∈ am_WT := am_wt (am_m7 109 rfl) rfl
theorem w_1550 : (Jvm.Cond.fieldLink "SlotMatModel" (134 : Nat) "SlotMatModel" "word" "J") ∈ am_WT := am_wt (am_m7 110 rfl) rfl
theorem w_1551 : (Jvm.Cond.fieldLink "SlotMatModel" (233 : Nat) "SlotMatModel" "newBoxes" "I") ∈ am_WT := am_wt (am_m7 111 rfl) rfl
theorem w_1552 : (Jvm.Cond.fieldLink "SlotMatModel" (240 : Nat) "SlotMatModel" "newPeople" "I") ∈ am_WT := am_wt (am_m7 112 rfl) rfl
theorem w_1553 : (Jvm.Cond.fieldLink "SlotMatModel" (243 : Nat) "SlotMatModel" "newRoundLong" "I") ∈ am_WT := am_wt (am_m7 113 rfl) rfl
theorem w_1554 : (Jvm.Cond.fieldLink "SlotMatModel" (246 : Nat) "SlotMatModel" "newNumbers" "I") ∈ am_WT := am_wt (am_m7 114 rfl) rfl
theorem w_1555 : (Jvm.Cond.fieldLink "SlotMatModel" (265 : Nat) "SlotMatModel" "newThinksAt" "I") ∈ am_WT := am_wt (am_m7 115 rfl) rfl
theorem w_1556 : (Jvm.Cond.fieldLink "SlotMatModel" (272 : Nat) "SlotMatModel" "newSoundsAt" "I") ∈ am_WT := am_wt (am_m7 116 rfl) rfl
theorem w_1557 : (Jvm.Cond.fieldLink "SlotMatModel" (180 : Nat) "SlotMatModel" "top" "I") ∈ am_WT := am_wt (am_m7 117 rfl) rfl
theorem w_1558 : (Jvm.Cond.fieldLink "SlotMatModel" (199 : Nat) "SlotMatModel" "firstValue" "I") ∈ am_WT := am_wt (am_m7 118 rfl) rfl
theorem w_1559 : (Jvm.Cond.fieldLink "SlotMatModel" (202 : Nat) "SlotMatModel" "lastValue" "I") ∈ am_WT := am_wt (am_m7 119 rfl) rfl
theorem w_1560 : (Jvm.Cond.fieldLink "SlotMatModel" (183 : Nat) "SlotMatModel" "waiting" "I") ∈ am_WT := am_wt (am_m7 120 rfl) rfl
theorem w_1561 : (Jvm.Cond.fieldLink "SlotMatModel" (205 : Nat) "SlotMatModel" "depth" "I") ∈ am_WT := am_wt (am_m7 121 rfl) rfl
theorem w_1562 : (Jvm.Cond.fieldLink "SlotMatModel" (44 : Nat) "SlotMatModel" "newBoxAt" "[I") ∈ am_WT := am_wt (am_m7 122 rfl) rfl
theorem w_1563 : (Jvm.Cond.fieldLink "SlotMatModel" (47 : Nat) "SlotMatModel" "newPersonAt" "[I") ∈ am_WT := am_wt (am_m7 123 rfl) rfl
theorem w_1564 : (Jvm.Cond.fieldLink "SlotMatModel" (50 : Nat) "SlotMatModel" "newPensive" "[I") ∈ am_WT := am_wt (am_m7 124 rfl) rfl
theorem w_1565 : (Jvm.Cond.fieldLink "SlotMatModel" (53 : Nat) "SlotMatModel" "newRound" "[I") ∈ am_WT := am_wt (am_m7 125 rfl) rfl
theorem w_1566 : (Jvm.Cond.fieldLink "SlotMatModel" (56 : Nat) "SlotMatModel" "newWets" "[I") ∈ am_WT := am_wt (am_m7 126 rfl) rfl
theorem w_1567 : (Jvm.Cond.fieldLink "SlotMatModel" (59 : Nat) "SlotMatModel" "newRow" "[I") ∈ am_WT := am_wt (am_m7 127 rfl) rfl
theorem w_1568 : (Jvm.Cond.fieldLink "SlotMatModel" (62 : Nat) "SlotMatModel" "readCode" "[I") ∈ am_WT := am_wt (am_m7 128 rfl) rfl
theorem w_1569 : (Jvm.Cond.fieldLink "SlotMatModel" (65 : Nat) "SlotMatModel" "waits" "[I") ∈ am_WT := am_wt (am_m7 129 rfl) rfl
theorem w_1570 : (Jvm.Cond.fieldLink "SlotMatModel" (68 : Nat) "SlotMatModel" "tested" "[Z") ∈ am_WT := am_wt (am_m7 130 rfl) rfl
theorem w_1571 : (Jvm.Cond.fieldLink "SlotMatModel" (72 : Nat) "SlotMatModel" "rows" "[I") ∈ am_WT := am_wt (am_m7 131 rfl) rfl
theorem w_1572 : (Jvm.Cond.fieldLink "SlotMatModel" (75 : Nat) "SlotMatModel" "ahead" "[I") ∈ am_WT := am_wt (am_m7 132 rfl) rfl
theorem w_1573 : (Jvm.Cond.fieldLink "SlotMatModel" (301 : Nat) "SlotMatModel" "acts" "I") ∈ am_WT := am_wt (am_m7 133 rfl) rfl
theorem w_1574 : (Jvm.Cond.fieldLink "SlotMatModel" (78 : Nat) "SlotMatModel" "told" "[I") ∈ am_WT := am_wt (am_m7 134 rfl) rfl
theorem w_1575 : (Jvm.Cond.fieldLink "SlotMatModel" (81 : Nat) "SlotMatModel" "pile" "[I") ∈ am_WT := am_wt (am_m7 135 rfl) rfl
theorem w_1576 : (Jvm.Cond.fieldLink "SlotMatModel" (84 : Nat) "SlotMatModel" "otherWet" "I") ∈ am_WT := am_wt (am_m7 136 rfl) rfl
theorem w_1577 : (Jvm.Cond.fieldLink "SlotMatModel" (315 : Nat) "SlotMatModel" "isOrdered" "Z") ∈ am_WT := am_wt (am_m7 137 rfl) rfl
theorem w_1578 : (Jvm.Cond.fieldLink "SlotMatModel" (87 : Nat) "SlotMatModel" "order0" "[I") ∈ am_WT := am_wt (am_m7 138 rfl) rfl
theorem w_1579 : (Jvm.Cond.fieldLink "SlotMatModel" (350 : Nat) "SlotMatModel" "fetched" "I") ∈ am_WT := am_wt (am_m7 139 rfl) rfl
theorem w_1580 : (Jvm.Cond.fieldLink "SlotMatModel" (90 : Nat) "SlotMatModel" "bestOrder" "[I") ∈ am_WT := am_wt (am_m7 140 rfl) rfl
theorem w_1581 : (Jvm.Cond.fieldLink "SlotMatModel" (304 : Nat) "SlotMatModel" "notedMany" "I") ∈ am_WT := am_wt (am_m7 141 rfl) rfl
theorem w_1582 : (Jvm.Cond.fieldLink "SlotMatModel" (93 : Nat) "SlotMatModel" "noted" "[I") ∈ am_WT := am_wt (am_m7 142 rfl) rfl
theorem w_1583 : (Jvm.Cond.fieldLink "SlotMatModel" (96 : Nat) "SlotMatModel" "soon" "[I") ∈ am_WT := am_wt (am_m7 143 rfl) rfl
theorem w_1584 : (Jvm.Cond.fieldLink "SlotMatModel" (99 : Nat) "SlotMatModel" "soonAll" "[I") ∈ am_WT := am_wt (am_m7 144 rfl) rfl
theorem w_1585 : (Jvm.Cond.fieldLink "SlotMatModel" (462 : Nat) "SlotMatModel" "its0" "I") ∈ am_WT := am_wt (am_m7 145 rfl) rfl
theorem w_1586 : (Jvm.Cond.fieldLink "SlotMatModel" (307 : Nat) "SlotMatModel" "hasImage" "Z") ∈ am_WT := am_wt (am_m7 146 rfl) rfl
theorem w_1587 : (Jvm.Cond.fieldLink "SlotMatModel" (472 : Nat) "SlotMatModel" "imageActs" "I") ∈ am_WT := am_wt (am_m7 147 rfl) rfl
theorem w_1588 : (Jvm.Cond.fieldLink "SlotMatModel" (475 : Nat) "SlotMatModel" "imageNoted" "I") ∈ am_WT := am_wt (am_m7 148 rfl) rfl
theorem w_1589 : (Jvm.Cond.fieldLink "SlotMatModel" (102 : Nat) "SlotMatModel" "imageRow" "[I") ∈ am_WT := am_wt (am_m7 149 rfl) rfl
theorem w_1590 : (Jvm.Cond.fieldLink "SlotMatModel" (105 : Nat) "SlotMatModel" "imageAhead" "[I") ∈ am_WT := am_wt (am_m7 150 rfl) rfl
theorem w_1591 : (Jvm.Cond.fieldLink "SlotMatModel" (108 : Nat) "SlotMatModel" "imageNotes" "[I") ∈ am_WT := am_wt (am_m7 151 rfl) rfl
theorem w_1727 : (Jvm.Cond.arrayClass Jvm.ClassFile.FieldType.boolean) ∈ am_WT := am_wt (am_m8 47 rfl) rfl
theorem w_1728 : (Jvm.Cond.methodLink "SlotMatLaw" (125 : Nat) ({ cls := "SlotMatModel", name := "thrown", desc := "()I" } : Jvm.MethodName)) ∈ am_WT := am_wt (am_m8 48 rfl) rfl
theorem w_1729 : (Jvm.Cond.instanceMethod ({ cls := "SlotMatModel", name := "thrown", desc := "()I" } : Jvm.MethodName)) ∈ am_WT := am_wt (am_m8 49 rfl) rfl
theorem w_1730 : (Jvm.Cond.selects "SlotMatModel" ({ cls := "SlotMatModel", name := "thrown", desc := "()I" } : Jvm.MethodName) ({ cls := "SlotMatModel", name := "thrown", desc := "()I" } : Jvm.MethodName)) ∈ am_WT := am_wt (am_m8 50 rfl) rfl
theorem w_1731 : (Jvm.Cond.code ({ cls := "SlotMatModel", name := "thrown", desc := "()I" } : Jvm.MethodName) prog_12_method_2_code (1 : Nat) (Option.some Jvm.ClassFile.FieldType.int)) ∈ am_WT := am_wt (am_m8 51 rfl) rfl
theorem w_1732 : (Jvm.Cond.methodLink "SlotMatLaw" (118 : Nat) ({ cls := "SlotMatModel", name := "feed", desc := "(IIIII)I" } : Jvm.MethodName)) ∈ am_WT := am_wt (am_m8 52 rfl) rfl
theorem w_1733 : (Jvm.Cond.instanceMethod ({ cls := "SlotMatModel", name := "feed", desc := "(IIIII)I" } : Jvm.MethodName)) ∈ am_WT := am_wt (am_m8 53 rfl) rfl
theorem w_1734 : (Jvm.Cond.selects "SlotMatModel" ({ cls := "SlotMatModel", name := "feed", desc := "(IIIII)I" } : Jvm.MethodName) ({ cls := "SlotMatModel", name := "feed", desc := "(IIIII)I" } : Jvm.MethodName)) ∈ am_WT := am_wt (am_m8 54 rfl) rfl
theorem w_1735 : (Jvm.Cond.code ({ cls := "SlotMatModel", name := "feed", desc := "(IIIII)I" } : Jvm.MethodName) prog_12_method_10_code (6 : Nat) (Option.some Jvm.ClassFile.FieldType.int)) ∈ am_WT := am_wt (am_m8 55 rfl) rfl
theorem w_1736 : (Jvm.Cond.methodLink "SlotMatModel" (117 : Nat) ({ cls := "SlotMatModel", name := "lays", desc := "(I)V" } : Jvm.MethodName)) ∈ am_WT := am_wt (am_m8 56 rfl) rfl
theorem w_1738 : (Jvm.Cond.instanceMethod ({ cls := "SlotMatModel", name := "lays", desc := "(I)V" } : Jvm.MethodName)) ∈ am_WT := am_wt (am_m8 58 rfl) rfl
theorem w_1739 : (Jvm.Cond.code ({ cls := "SlotMatModel", name := "lays", desc := "(I)V" } : Jvm.MethodName) prog_12_method_11_code (3 : Nat) (Option.none : Option Jvm.ClassFile.FieldType)) ∈ am_WT := am_wt (am_m8 59 rfl) rfl
theorem w_1740 : (Jvm.Cond.methodLink "SlotMatLaw" (124 : Nat) ({ cls := "SlotMatModel", name := "city", desc := "(I)I" } : Jvm.MethodName)) ∈ am_WT := am_wt (am_m8 60 rfl) rfl
theorem w_1741 : (Jvm.Cond.instanceMethod ({ cls := "SlotMatModel", name := "city", desc := "(I)I" } : Jvm.MethodName)) ∈ am_WT := am_wt (am_m8 61 rfl) rfl
theorem w_1742 : (Jvm.Cond.selects "SlotMatModel" ({ cls := "SlotMatModel", name := "city", desc := "(I)I" } : Jvm.MethodName) ({ cls := "SlotMatModel", name := "city", desc := "(I)I" } : Jvm.MethodName)) ∈ am_WT := am_wt (am_m8 62 rfl) rfl
theorem w_1743 : (Jvm.Cond.code ({ cls := "SlotMatModel", name := "city", desc := "(I)I" } : Jvm.MethodName) prog_12_method_41_code (3 : Nat) (Option.some Jvm.ClassFile.FieldType.int)) ∈ am_WT := am_wt (am_m8 63 rfl) rfl
theorem w_1744 : (Jvm.Cond.methodLink "SlotMatModel" (278 : Nat) ({ cls := "SlotMatModel", name := "right", desc := "(ZI)Z" } : Jvm.MethodName)) ∈ am_WT := am_wt (am_m8 64 rfl) rfl
theorem w_1746 : (Jvm.Cond.instanceMethod ({ cls := "SlotMatModel", name := "right", desc := "(ZI)Z" } : Jvm.MethodName)) ∈ am_WT := am_wt (am_m8 66 rfl) rfl
theorem w_1747 : (Jvm.Cond.code ({ cls := "SlotMatModel", name := "right", desc := "(ZI)Z" } : Jvm.MethodName) prog_12_method_3_code (3 : Nat) (Option.some Jvm.ClassFile.FieldType.boolean)) ∈ am_WT := am_wt (am_m8 67 rfl) rfl
theorem w_1748 : (Jvm.Cond.methodLink "SlotMatModel" (174 : Nat) ({ cls := "SlotMatModel", name := "goes", desc := "()V" } : Jvm.MethodName)) ∈ am_WT := am_wt (am_m8 68 rfl) rfl
theorem w_1750 : (Jvm.Cond.instanceMethod ({ cls := "SlotMatModel", name := "goes", desc := "()V" } : Jvm.MethodName)) ∈ am_WT := am_wt (am_m8 70 rfl) rfl
theorem w_1751 : (Jvm.Cond.code ({ cls := "SlotMatModel", name := "goes", desc := "()V" } : Jvm.MethodName) prog_12_method_15_code (2 : Nat) (Option.none : Option Jvm.ClassFile.FieldType)) ∈ am_WT := am_wt (am_m8 71 rfl) rfl
theorem w_1752 : (Jvm.Cond.methodLink "SlotMatModel" (127 : Nat) ({ cls := "SlotMatModel", name := "byteAt", desc := "(I)I" } : Jvm.MethodName)) ∈ am_WT := am_wt (am_m8 72 rfl) rfl
theorem w_1754 : (Jvm.Cond.instanceMethod ({ cls := "SlotMatModel", name := "byteAt", desc := "(I)I" } : Jvm.MethodName)) ∈ am_WT := am_wt (am_m8 74 rfl) rfl
theorem w_1755 : (Jvm.Cond.code ({ cls := "SlotMatModel", name := "byteAt", desc := "(I)I" } : Jvm.MethodName) prog_12_method_12_code (2 : Nat) (Option.some Jvm.ClassFile.FieldType.int)) ∈ am_WT := am_wt (am_m8 75 rfl) rfl
theorem w_1756 : (Jvm.Cond.methodLink "SlotMatModel" (147 : Nat) ({ cls := "SlotMatModel", name := "isLetter", desc := "(I)Z" } : Jvm.MethodName)) ∈ am_WT := am_wt (am_m8 76 rfl) rfl
theorem w_1757 : (Jvm.Cond.static ({ cls := "SlotMatModel", name := "isLetter", desc := "(I)Z" } : Jvm.MethodName)) ∈ am_WT := am_wt (am_m8 77 rfl) rfl
theorem w_1758 : (Jvm.Cond.code ({ cls := "SlotMatModel", name := "isLetter", desc := "(I)Z" } : Jvm.MethodName) prog_12_method_13_code (1 : Nat) (Option.some Jvm.ClassFile.FieldType.boolean)) ∈ am_WT := am_wt (am_m8 78 rfl) rfl
theorem w_1759 : (Jvm.Cond.methodLink "SlotMatModel" (151 : Nat) ({ cls := "SlotMatModel", name := "isDigit", desc := "(I)Z" } : Jvm.MethodName)) ∈ am_WT := am_wt (am_m8 79 rfl) rfl
theorem w_1760 : (Jvm.Cond.static ({ cls := "SlotMatModel", name := "isDigit", desc := "(I)Z" } : Jvm.MethodName)) ∈ am_WT := am_wt (am_m8 80 rfl) rfl
theorem w_1761 : (Jvm.Cond.code ({ cls := "SlotMatModel", name := "isDigit", desc := "(I)Z" } : Jvm.MethodName) prog_12_method_14_code (1 : Nat) (Option.some Jvm.ClassFile.FieldType.boolean)) ∈ am_WT := am_wt (am_m8 81 rfl) rfl
theorem w_1762 : (Jvm.Cond.methodLink "SlotMatModel" (170 : Nat) ({ cls := "SlotMatModel", name := "isGood", desc := "()Z" } : Jvm.MethodName)) ∈ am_WT := am_wt (am_m8 82 rfl) rfl
theorem w_1764 : (Jvm.Cond.instanceMethod ({ cls := "SlotMatModel", name := "isGood", desc := "()Z" } : Jvm.MethodName)) ∈ am_WT := am_wt (am_m8 84 rfl) rfl
theorem w_1765 : (Jvm.Cond.code ({ cls := "SlotMatModel", name := "isGood", desc := "()Z" } : Jvm.MethodName) prog_12_method_20_code (1 : Nat) (Option.some Jvm.ClassFile.FieldType.boolean)) ∈ am_WT := am_wt (am_m8 85 rfl) rfl
theorem w_1766 : (Jvm.Cond.methodLink "SlotMatModel" (282 : Nat) ({ cls := "SlotMatModel", name := "line", desc := "()V" } : Jvm.MethodName)) ∈ am_WT := am_wt (am_m8 86 rfl) rfl
theorem w_1768 : (Jvm.Cond.instanceMethod ({ cls := "SlotMatModel", name := "line", desc := "()V" } : Jvm.MethodName)) ∈ am_WT := am_wt (am_m8 88 rfl) rfl
theorem w_1769 : (Jvm.Cond.code ({ cls := "SlotMatModel", name := "line", desc := "()V" } : Jvm.MethodName) prog_12_method_40_code (2 : Nat) (Option.none : Option Jvm.ClassFile.FieldType)) ∈ am_WT := am_wt (am_m8 89 rfl) rfl
theorem w_1770 : (Jvm.Cond.methodLink "SlotMatModel" (195 : Nat) ({ cls := "SlotMatModel", name := "knownWord", desc := "()I" } : Jvm.MethodName)) ∈ am_WT := am_wt (am_m8 90 rfl) rfl
theorem w_1772 : (Jvm.Cond.instanceMethod ({ cls := "SlotMatModel", name := "knownWord", desc := "()I" } : Jvm.MethodName)) ∈ am_WT := am_wt (am_m8 92 rfl) rfl
theorem w_1773 : (Jvm.Cond.code ({ cls := "SlotMatModel", name := "knownWord", desc := "()I" } : Jvm.MethodName) prog_12_method_18_code (2 : Nat) (Option.some Jvm.ClassFile.FieldType.int)) ∈ am_WT := am_wt (am_m8 93 rfl) rfl
theorem w_1774 : (Jvm.Cond.methodLink "SlotMatModel" (163 : Nat) ({ cls := "SlotMatModel", name := "letters", desc := "(I)J" } : Jvm.MethodName)) ∈ am_WT := am_wt (am_m8 94 rfl) rfl
theorem w_1775 : (Jvm.Cond.static ({ cls := "SlotMatModel", name := "letters", desc := "(I)J" } : Jvm.MethodName)) ∈ am_WT := am_wt (am_m8 95 rfl) rfl
theorem w_1776 : (Jvm.Cond.code ({ cls := "SlotMatModel", name := "letters", desc := "(I)J" } : Jvm.MethodName) prog_12_method_17_code (1 : Nat) (Option.some Jvm.ClassFile.FieldType.long)) ∈ am_WT := am_wt (am_m8 96 rfl) rfl
theorem w_1777 : (Jvm.Cond.methodLink "SlotMatModel" (159 : Nat) ({ cls := "SlotMatModel", name := "spelled", desc := "(IIIIIII)J" } : Jvm.MethodName)) ∈ am_WT := am_wt (am_m8 97 rfl) rfl
theorem w_1778 : (Jvm.Cond.static ({ cls := "SlotMatModel", name := "spelled", desc := "(IIIIIII)J" } : Jvm.MethodName)) ∈ am_WT := am_wt (am_m8 98 rfl) rfl
theorem w_1779 : (Jvm.Cond.code ({ cls := "SlotMatModel", name := "spelled", desc := "(IIIIIII)J" } : Jvm.MethodName) prog_12_method_16_code (9 : Nat) (Option.some Jvm.ClassFile.FieldType.long)) ∈ am_WT := am_wt (am_m8 99 rfl) rfl
theorem w_1780 : (Jvm.Cond.constantLong "SlotMatModel" (157 : Nat) (96 : Int64)) ∈ am_WT := am_wt (am_m8 100 rfl) rfl
theorem w_1781 : (Jvm.Cond.methodLink "SlotMatModel" (249 : Nat) ({ cls := "SlotMatModel", name := "begins", desc := "(ZZ)Z" } : Jvm.MethodName)) ∈ am_WT := am_wt (am_m8 101 rfl) rfl
theorem w_1783 : (Jvm.Cond.instanceMethod ({ cls := "SlotMatModel", name := "begins", desc := "(ZZ)Z" } : Jvm.MethodName)) ∈ am_WT := am_wt (am_m8 103 rfl) rfl
theorem w_1784 : (Jvm.Cond.code ({ cls := "SlotMatModel", name := "begins", desc := "(ZZ)Z" } : Jvm.MethodName) prog_12_method_35_code (3 : Nat) (Option.some Jvm.ClassFile.FieldType.boolean)) ∈ am_WT := am_wt (am_m8 104 rfl) rfl
theorem w_1785 : (Jvm.Cond.methodLink "SlotMatModel" (177 : Nat) ({ cls := "SlotMatModel", name := "wrong", desc := "(I)V" } : Jvm.MethodName)) ∈ am_WT := am_wt (am_m8 105 rfl) rfl
theorem w_1787 : (Jvm.Cond.instanceMethod ({ cls := "SlotMatModel", name := "wrong", desc := "(I)V" } : Jvm.MethodName)) ∈ am_WT := am_wt (am_m8 107 rfl) rfl
theorem w_1788 : (Jvm.Cond.code ({ cls := "SlotMatModel", name := "wrong", desc := "(I)V" } : Jvm.MethodName) prog_12_method_19_code (2 : Nat) (Option.none : Option Jvm.ClassFile.FieldType)) ∈ am_WT := am_wt (am_m8 108 rfl) rfl
theorem w_1789 : (Jvm.Cond.methodLink "SlotMatModel" (253 : Nat) ({ cls := "SlotMatModel", name := "readsBox", desc := "()V" } : Jvm.MethodName)) ∈ am_WT := am_wt (am_m8 109 rfl) rfl
theorem w_1791 : (Jvm.Cond.instanceMethod ({ cls := "SlotMatModel", name := "readsBox", desc := "()V" } : Jvm.MethodName)) ∈ am_WT := am_wt (am_m8 111 rfl) rfl
theorem w_1792 : (Jvm.Cond.code ({ cls := "SlotMatModel", name := "readsBox", desc := "()V" } : Jvm.MethodName) prog_12_method_36_code (1 : Nat) (Option.none : Option Jvm.ClassFile.FieldType)) ∈ am_WT := am_wt (am_m8 112 rfl) rfl
theorem w_1793 : (Jvm.Cond.methodLink "SlotMatModel" (236 : Nat) ({ cls := "SlotMatModel", name := "number", desc := "(II)I" } : Jvm.MethodName)) ∈ am_WT := am_wt (am_m8 113 rfl) rfl
theorem w_1795 : (Jvm.Cond.instanceMethod ({ cls := "SlotMatModel", name := "number", desc := "(II)I" } : Jvm.MethodName)) ∈ am_WT := am_wt (am_m8 115 rfl) rfl
theorem w_1796 : (Jvm.Cond.code ({ cls := "SlotMatModel", name := "number", desc := "(II)I" } : Jvm.MethodName) prog_12_method_23_code (4 : Nat) (Option.some Jvm.ClassFile.FieldType.int)) ∈ am_WT := am_wt (am_m8 116 rfl) rfl
theorem w_1797 : (Jvm.Cond.methodLink "SlotMatModel" (256 : Nat) ({ cls := "SlotMatModel", name := "readsPerson", desc := "()V" } : Jvm.MethodName)) ∈ am_WT := am_wt (am_m8 117 rfl) rfl
theorem w_1799 : (Jvm.Cond.instanceMethod ({ cls := "SlotMatModel", name := "readsPerson", desc := "()V" } : Jvm.MethodName)) ∈ am_WT := am_wt (am_m8 119 rfl) rfl
theorem w_1800 : (Jvm.Cond.code ({ cls := "SlotMatModel", name := "readsPerson", desc := "()V" } : Jvm.MethodName) prog_12_method_37_code (2 : Nat) (Option.none : Option Jvm.ClassFile.FieldType)) ∈ am_WT := am_wt (am_m8 120 rfl) rfl
theorem w_1801 : (Jvm.Cond.methodLink "SlotMatModel" (259 : Nat) ({ cls := "SlotMatModel", name := "readsRound", desc := "()V" } : Jvm.MethodName)) ∈ am_WT := am_wt (am_m8 121 rfl) rfl
theorem w_1803 : (Jvm.Cond.instanceMethod ({ cls := "SlotMatModel", name := "readsRound", desc := "()V" } : Jvm.MethodName)) ∈ am_WT := am_wt (am_m8 123 rfl) rfl
theorem w_1804 : (Jvm.Cond.code ({ cls := "SlotMatModel", name := "readsRound", desc := "()V" } : Jvm.MethodName) prog_12_method_38_code (2 : Nat) (Option.none : Option Jvm.ClassFile.FieldType)) ∈ am_WT := am_wt (am_m8 124 rfl) rfl
theorem w_1805 : (Jvm.Cond.methodLink "SlotMatModel" (262 : Nat) ({ cls := "SlotMatModel", name := "readsWet", desc := "()V" } : Jvm.MethodName)) ∈ am_WT := am_wt (am_m8 125 rfl) rfl
theorem w_1807 : (Jvm.Cond.instanceMethod ({ cls := "SlotMatModel", name := "readsWet", desc := "()V" } : Jvm.MethodName)) ∈ am_WT := am_wt (am_m8 127 rfl) rfl
theorem w_1808 : (Jvm.Cond.code ({ cls := "SlotMatModel", name := "readsWet", desc := "()V" } : Jvm.MethodName) prog_12_method_39_code (3 : Nat) (Option.none : Option Jvm.ClassFile.FieldType)) ∈ am_WT := am_wt (am_m8 128 rfl) rfl
theorem w_1809 : (Jvm.Cond.methodLink "SlotMatModel" (268 : Nat) ({ cls := "SlotMatModel", name := "expression", desc := "(II)V" } : Jvm.MethodName)) ∈ am_WT := am_wt (am_m8 129 rfl) rfl
theorem w_1811 : (Jvm.Cond.instanceMethod ({ cls := "SlotMatModel", name := "expression", desc := "(II)V" } : Jvm.MethodName)) ∈ am_WT := am_wt (am_m8 131 rfl) rfl
theorem w_1812 : (Jvm.Cond.code ({ cls := "SlotMatModel", name := "expression", desc := "(II)V" } : Jvm.MethodName) prog_12_method_34_code (5 : Nat) (Option.none : Option Jvm.ClassFile.FieldType)) ∈ am_WT := am_wt (am_m8 132 rfl) rfl
theorem w_1813 : (Jvm.Cond.methodLink "SlotMatModel" (214 : Nat) ({ cls := "SlotMatModel", name := "deeper", desc := "()V" } : Jvm.MethodName)) ∈ am_WT := am_wt (am_m8 133 rfl) rfl
theorem w_1815 : (Jvm.Cond.instanceMethod ({ cls := "SlotMatModel", name := "deeper", desc := "()V" } : Jvm.MethodName)) ∈ am_WT := am_wt (am_m8 135 rfl) rfl
theorem w_1816 : (Jvm.Cond.code ({ cls := "SlotMatModel", name := "deeper", desc := "()V" } : Jvm.MethodName) prog_12_method_30_code (1 : Nat) (Option.none : Option Jvm.ClassFile.FieldType)) ∈ am_WT := am_wt (am_m8 136 rfl) rfl
theorem w_1817 : (Jvm.Cond.methodLink "SlotMatModel" (208 : Nat) ({ cls := "SlotMatModel", name := "isSign", desc := "(I)Z" } : Jvm.MethodName)) ∈ am_WT := am_wt (am_m8 137 rfl) rfl
theorem w_1819 : (Jvm.Cond.instanceMethod ({ cls := "SlotMatModel", name := "isSign", desc := "(I)Z" } : Jvm.MethodName)) ∈ am_WT := am_wt (am_m8 139 rfl) rfl
theorem w_1820 : (Jvm.Cond.code ({ cls := "SlotMatModel", name := "isSign", desc := "(I)Z" } : Jvm.MethodName) prog_12_method_21_code (2 : Nat) (Option.some Jvm.ClassFile.FieldType.boolean)) ∈ am_WT := am_wt (am_m8 140 rfl) rfl
theorem w_1821 : (Jvm.Cond.methodLink "SlotMatModel" (223 : Nat) ({ cls := "SlotMatModel", name := "operand", desc := "(Z)V" } : Jvm.MethodName)) ∈ am_WT := am_wt (am_m8 141 rfl) rfl
theorem w_1823 : (Jvm.Cond.instanceMethod ({ cls := "SlotMatModel", name := "operand", desc := "(Z)V" } : Jvm.MethodName)) ∈ am_WT := am_wt (am_m8 143 rfl) rfl
theorem w_1824 : (Jvm.Cond.code ({ cls := "SlotMatModel", name := "operand", desc := "(Z)V" } : Jvm.MethodName) prog_12_method_31_code (5 : Nat) (Option.none : Option Jvm.ClassFile.FieldType)) ∈ am_WT := am_wt (am_m8 144 rfl) rfl
theorem w_1825 : (Jvm.Cond.methodLink "SlotMatModel" (211 : Nat) ({ cls := "SlotMatModel", name := "waitsFor", desc := "(I)V" } : Jvm.MethodName)) ∈ am_WT := am_wt (am_m8 145 rfl) rfl
theorem w_1827 : (Jvm.Cond.instanceMethod ({ cls := "SlotMatModel", name := "waitsFor", desc := "(I)V" } : Jvm.MethodName)) ∈ am_WT := am_wt (am_m8 147 rfl) rfl
theorem w_1828 : (Jvm.Cond.code ({ cls := "SlotMatModel", name := "waitsFor", desc := "(I)V" } : Jvm.MethodName) prog_12_method_28_code (2 : Nat) (Option.none : Option Jvm.ClassFile.FieldType)) ∈ am_WT := am_wt (am_m8 148 rfl) rfl
theorem w_1829 : (Jvm.Cond.methodLink "SlotMatModel" (217 : Nat) ({ cls := "SlotMatModel", name := "part", desc := "()V" } : Jvm.MethodName)) ∈ am_WT := am_wt (am_m8 149 rfl) rfl
theorem w_1831 : (Jvm.Cond.instanceMethod ({ cls := "SlotMatModel", name := "part", desc := "()V" } : Jvm.MethodName)) ∈ am_WT := am_wt (am_m8 151 rfl) rfl
theorem w_1832 : (Jvm.Cond.code ({ cls := "SlotMatModel", name := "part", desc := "()V" } : Jvm.MethodName) prog_12_method_29_code (2 : Nat) (Option.none : Option Jvm.ClassFile.FieldType)) ∈ am_WT := am_wt (am_m8 152 rfl) rfl
theorem w_1833 : (Jvm.Cond.methodLink "SlotMatModel" (192 : Nat) ({ cls := "SlotMatModel", name := "puts", desc := "(I)V" } : Jvm.MethodName)) ∈ am_WT := am_wt (am_m8 153 rfl) rfl
theorem w_1835 : (Jvm.Cond.instanceMethod ({ cls := "SlotMatModel", name := "puts", desc := "(I)V" } : Jvm.MethodName)) ∈ am_WT := am_wt (am_m8 155 rfl) rfl
theorem w_1836 : (Jvm.Cond.code ({ cls := "SlotMatModel", name := "puts", desc := "(I)V" } : Jvm.MethodName) prog_12_method_24_code (2 : Nat) (Option.none : Option Jvm.ClassFile.FieldType)) ∈ am_WT := am_wt (am_m8 156 rfl) rfl
theorem w_1837 : (Jvm.Cond.methodLink "SlotMatModel" (220 : Nat) ({ cls := "SlotMatModel", name := "drops", desc := "(I)V" } : Jvm.MethodName)) ∈ am_WT := am_wt (am_m8 157 rfl) rfl
theorem w_1839 : (Jvm.Cond.instanceMethod ({ cls := "SlotMatModel", name := "drops", desc := "(I)V" } : Jvm.MethodName)) ∈ am_WT := am_wt (am_m8 159 rfl) rfl
theorem w_1840 : (Jvm.Cond.code ({ cls := "SlotMatModel", name := "drops", desc := "(I)V" } : Jvm.MethodName) prog_12_method_27_code (2 : Nat) (Option.none : Option Jvm.ClassFile.FieldType)) ∈ am_WT := am_wt (am_m8 160 rfl) rfl
theorem w_1841 : (Jvm.Cond.methodLink "SlotMatModel" (186 : Nat) ({ cls := "SlotMatModel", name := "isOpen", desc := "(I)Z" } : Jvm.MethodName)) ∈ am_WT := am_wt (am_m8 161 rfl) rfl
theorem w_1842 : (Jvm.Cond.static ({ cls := "SlotMatModel", name := "isOpen", desc := "(I)Z" } : Jvm.MethodName)) ∈ am_WT := am_wt (am_m8 162 rfl) rfl
theorem w_1843 : (Jvm.Cond.code ({ cls := "SlotMatModel", name := "isOpen", desc := "(I)Z" } : Jvm.MethodName) prog_12_method_25_code (1 : Nat) (Option.some Jvm.ClassFile.FieldType.boolean)) ∈ am_WT := am_wt (am_m8 163 rfl) rfl
theorem w_1844 : (Jvm.Cond.methodLink "SlotMatModel" (189 : Nat) ({ cls := "SlotMatModel", name := "strength", desc := "(I)I" } : Jvm.MethodName)) ∈ am_WT := am_wt (am_m8 164 rfl) rfl
theorem w_1845 : (Jvm.Cond.static ({ cls := "SlotMatModel", name := "strength", desc := "(I)I" } : Jvm.MethodName)) ∈ am_WT := am_wt (am_m8 165 rfl) rfl
theorem w_1846 : (Jvm.Cond.code ({ cls := "SlotMatModel", name := "strength", desc := "(I)I" } : Jvm.MethodName) prog_12_method_26_code (1 : Nat) (Option.some Jvm.ClassFile.FieldType.int)) ∈ am_WT := am_wt (am_m8 166 rfl) rfl
theorem w_1847 : (Jvm.Cond.methodLink "SlotMatModel" (227 : Nat) ({ cls := "SlotMatModel", name := "isOpened", desc := "()Z" } : Jvm.MethodName)) ∈ am_WT := am_wt (am_m8 167 rfl) rfl
theorem w_1849 : (Jvm.Cond.instanceMethod ({ cls := "SlotMatModel", name := "isOpened", desc := "()Z" } : Jvm.MethodName)) ∈ am_WT := am_wt (am_m8 169 rfl) rfl
theorem w_1850 : (Jvm.Cond.code ({ cls := "SlotMatModel", name := "isOpened", desc := "()Z" } : Jvm.MethodName) prog_12_method_32_code (2 : Nat) (Option.some Jvm.ClassFile.FieldType.boolean)) ∈ am_WT := am_wt (am_m8 170 rfl) rfl
theorem w_1851 : (Jvm.Cond.methodLink "SlotMatModel" (230 : Nat) ({ cls := "SlotMatModel", name := "closes", desc := "()V" } : Jvm.MethodName)) ∈ am_WT := am_wt (am_m8 171 rfl) rfl
theorem w_1853 : (Jvm.Cond.instanceMethod ({ cls := "SlotMatModel", name := "closes", desc := "()V" } : Jvm.MethodName)) ∈ am_WT := am_wt (am_m8 173 rfl) rfl
theorem w_1854 : (Jvm.Cond.code ({ cls := "SlotMatModel", name := "closes", desc := "()V" } : Jvm.MethodName) prog_12_method_33_code (1 : Nat) (Option.none : Option Jvm.ClassFile.FieldType)) ∈ am_WT := am_wt (am_m8 174 rfl) rfl
theorem w_1855 : (Jvm.Cond.methodLink "SlotMatModel" (275 : Nat) ({ cls := "SlotMatModel", name := "need", desc := "(Z)V" } : Jvm.MethodName)) ∈ am_WT := am_wt (am_m8 175 rfl) rfl
theorem w_1857 : (Jvm.Cond.instanceMethod ({ cls := "SlotMatModel", name := "need", desc := "(Z)V" } : Jvm.MethodName)) ∈ am_WT := am_wt (am_m8 177 rfl) rfl
theorem w_1858 : (Jvm.Cond.code ({ cls := "SlotMatModel", name := "need", desc := "(Z)V" } : Jvm.MethodName) prog_12_method_22_code (2 : Nat) (Option.none : Option Jvm.ClassFile.FieldType)) ∈ am_WT := am_wt (am_m8 178 rfl) rfl
theorem w_1859 : (Jvm.Cond.methodLink "SlotMatModel" (297 : Nat) ({ cls := "SlotMatModel", name := "copies", desc := "([I[I)V" } : Jvm.MethodName)) ∈ am_WT := am_wt (am_m8 179 rfl) rfl
theorem w_1861 : (Jvm.Cond.instanceMethod ({ cls := "SlotMatModel", name := "copies", desc := "([I[I)V" } : Jvm.MethodName)) ∈ am_WT := am_wt (am_m8 181 rfl) rfl
theorem w_1862 : (Jvm.Cond.code ({ cls := "SlotMatModel", name := "copies", desc := "([I[I)V" } : Jvm.MethodName) prog_12_method_8_code (4 : Nat) (Option.none : Option Jvm.ClassFile.FieldType)) ∈ am_WT := am_wt (am_m8 182 rfl) rfl
theorem w_1863 : (Jvm.Cond.methodLink "SlotMatLaw" (132 : Nat) ({ cls := "SlotMatModel", name := "fault", desc := "()I" } : Jvm.MethodName)) ∈ am_WT := am_wt (am_m8 183 rfl) rfl
theorem w_1864 : (Jvm.Cond.instanceMethod ({ cls := "SlotMatModel", name := "fault", desc := "()I" } : Jvm.MethodName)) ∈ am_WT := am_wt (am_m8 184 rfl) rfl
theorem w_1865 : (Jvm.Cond.selects "SlotMatModel" ({ cls := "SlotMatModel", name := "fault", desc := "()I" } : Jvm.MethodName) ({ cls := "SlotMatModel", name := "fault", desc := "()I" } : Jvm.MethodName)) ∈ am_WT := am_wt (am_m8 185 rfl) rfl
theorem w_1866 : (Jvm.Cond.code ({ cls := "SlotMatModel", name := "fault", desc := "()I" } : Jvm.MethodName) prog_12_method_42_code (1 : Nat) (Option.some Jvm.ClassFile.FieldType.int)) ∈ am_WT := am_wt (am_m8 186 rfl) rfl
theorem w_1867 : (Jvm.Cond.methodLink "SlotMatLaw" (167 : Nat) ({ cls := "SlotMatModel", name := "undo", desc := "()I" } : Jvm.MethodName)) ∈ am_WT := am_wt (am_m8 187 rfl) rfl
theorem w_1868 : (Jvm.Cond.instanceMethod ({ cls := "SlotMatModel", name := "undo", desc := "()I" } : Jvm.MethodName)) ∈ am_WT := am_wt (am_m8 188 rfl) rfl
theorem w_1869 : (Jvm.Cond.selects "SlotMatModel" ({ cls := "SlotMatModel", name := "undo", desc := "()I" } : Jvm.MethodName) ({ cls := "SlotMatModel", name := "undo", desc := "()I" } : Jvm.MethodName)) ∈ am_WT := am_wt (am_m8 189 rfl) rfl
theorem w_1870 : (Jvm.Cond.code ({ cls := "SlotMatModel", name := "undo", desc := "()I" } : Jvm.MethodName) prog_12_method_45_code (2 : Nat) (Option.some Jvm.ClassFile.FieldType.int)) ∈ am_WT := am_wt (am_m8 190 rfl) rfl
theorem w_1871 : (Jvm.Cond.methodLink "SlotMatLaw" (135 : Nat) ({ cls := "SlotMatModel", name := "count", desc := "(I)I" } : Jvm.MethodName)) ∈ am_WT := am_wt (am_m8 191 rfl) rfl
theorem w_1872 : (Jvm.Cond.instanceMethod ({ cls := "SlotMatModel", name := "count", desc := "(I)I" } : Jvm.MethodName)) ∈ am_WT := am_wt (am_m8 192 rfl) rfl
theorem w_1873 : (Jvm.Cond.selects "SlotMatModel" ({ cls := "SlotMatModel", name := "count", desc := "(I)I" } : Jvm.MethodName) ({ cls := "SlotMatModel", name := "count", desc := "(I)I" } : Jvm.MethodName)) ∈ am_WT := am_wt (am_m8 193 rfl) rfl
theorem w_1874 : (Jvm.Cond.code ({ cls := "SlotMatModel", name := "count", desc := "(I)I" } : Jvm.MethodName) prog_12_method_66_code (2 : Nat) (Option.some Jvm.ClassFile.FieldType.int)) ∈ am_WT := am_wt (am_m8 194 rfl) rfl
theorem w_1875 : (Jvm.Cond.methodLink "SlotMatModel" (368 : Nat) ({ cls := "SlotMatModel", name := "within", desc := "(III)Z" } : Jvm.MethodName)) ∈ am_WT := am_wt (am_m8 195 rfl) rfl
theorem w_1876 : (Jvm.Cond.static ({ cls := "SlotMatModel", name := "within", desc := "(III)Z" } : Jvm.MethodName)) ∈ am_WT := am_wt (am_m8 196 rfl) rfl
theorem w_1877 : (Jvm.Cond.code ({ cls := "SlotMatModel", name := "within", desc := "(III)Z" } : Jvm.MethodName) prog_12_method_4_code (3 : Nat) (Option.some Jvm.ClassFile.FieldType.boolean)) ∈ am_WT := am_wt (am_m8 197 rfl) rfl
theorem w_1878 : (Jvm.Cond.methodLink "SlotMatModel" (330 : Nat) ({ cls := "SlotMatModel", name := "wetIn", desc := "(I)I" } : Jvm.MethodName)) ∈ am_WT := am_wt (am_m8 198 rfl) rfl
theorem w_1880 : (Jvm.Cond.instanceMethod ({ cls := "SlotMatModel", name := "wetIn", desc := "(I)I" } : Jvm.MethodName)) ∈ am_WT := am_wt (am_m8 200 rfl) rfl
theorem w_1881 : (Jvm.Cond.code ({ cls := "SlotMatModel", name := "wetIn", desc := "(I)I" } : Jvm.MethodName) prog_12_method_49_code (2 : Nat) (Option.some Jvm.ClassFile.FieldType.int)) ∈ am_WT := am_wt (am_m8 201 rfl) rfl
theorem w_1882 : (Jvm.Cond.methodLink "SlotMatModel" (356 : Nat) ({ cls := "SlotMatModel", name := "comesOn", desc := "(I)I" } : Jvm.MethodName)) ∈ am_WT := am_wt (am_m8 202 rfl) rfl
theorem w_1884 : (Jvm.Cond.instanceMethod ({ cls := "SlotMatModel", name := "comesOn", desc := "(I)I" } : Jvm.MethodName)) ∈ am_WT := am_wt (am_m8 204 rfl) rfl
theorem w_1885 : (Jvm.Cond.code ({ cls := "SlotMatModel", name := "comesOn", desc := "(I)I" } : Jvm.MethodName) prog_12_method_50_code (2 : Nat) (Option.some Jvm.ClassFile.FieldType.int)) ∈ am_WT := am_wt (am_m8 205 rfl) rfl
theorem w_1886 : (Jvm.Cond.methodLink "SlotMatModel" (372 : Nat) ({ cls := "SlotMatModel", name := "heldAll", desc := "(I)I" } : Jvm.MethodName)) ∈ am_WT := am_wt (am_m8 206 rfl) rfl
theorem w_1888 : (Jvm.Cond.instanceMethod ({ cls := "SlotMatModel", name := "heldAll", desc := "(I)I" } : Jvm.MethodName)) ∈ am_WT := am_wt (am_m8 208 rfl) rfl
theorem w_1889 : (Jvm.Cond.code ({ cls := "SlotMatModel", name := "heldAll", desc := "(I)I" } : Jvm.MethodName) prog_12_method_55_code (4 : Nat) (Option.some Jvm.ClassFile.FieldType.int)) ∈ am_WT := am_wt (am_m8 209 rfl) rfl
theorem w_1890 : (Jvm.Cond.methodLink "SlotMatModel" (321 : Nat) ({ cls := "SlotMatModel", name := "heldIn", desc := "(II)I" } : Jvm.MethodName)) ∈ am_WT := am_wt (am_m8 210 rfl) rfl
theorem w_1892 : (Jvm.Cond.instanceMethod ({ cls := "SlotMatModel", name := "heldIn", desc := "(II)I" } : Jvm.MethodName)) ∈ am_WT := am_wt (am_m8 212 rfl) rfl
theorem w_1893 : (Jvm.Cond.code ({ cls := "SlotMatModel", name := "heldIn", desc := "(II)I" } : Jvm.MethodName) prog_12_method_52_code (5 : Nat) (Option.some Jvm.ClassFile.FieldType.int)) ∈ am_WT := am_wt (am_m8 213 rfl) rfl
theorem w_1894 : (Jvm.Cond.methodLink "SlotMatModel" (375 : Nat) ({ cls := "SlotMatModel", name := "sumOf", desc := "(II)I" } : Jvm.MethodName)) ∈ am_WT := am_wt (am_m8 214 rfl) rfl
theorem w_1896 : (Jvm.Cond.instanceMethod ({ cls := "SlotMatModel", name := "sumOf", desc := "(II)I" } : Jvm.MethodName)) ∈ am_WT := am_wt (am_m8 216 rfl) rfl
theorem w_1897 : (Jvm.Cond.code ({ cls := "SlotMatModel", name := "sumOf", desc := "(II)I" } : Jvm.MethodName) prog_12_method_54_code (5 : Nat) (Option.some Jvm.ClassFile.FieldType.int)) ∈ am_WT := am_wt (am_m8 217 rfl) rfl
theorem w_1898 : (Jvm.Cond.methodLink "SlotMatModel" (378 : Nat) ({ cls := "SlotMatModel", name := "mutual", desc := "()I" } : Jvm.MethodName)) ∈ am_WT := am_wt (am_m8 218 rfl) rfl
theorem w_1900 : (Jvm.Cond.instanceMethod ({ cls := "SlotMatModel", name := "mutual", desc := "()I" } : Jvm.MethodName)) ∈ am_WT := am_wt (am_m8 220 rfl) rfl
theorem w_1901 : (Jvm.Cond.code ({ cls := "SlotMatModel", name := "mutual", desc := "()I" } : Jvm.MethodName) prog_12_method_64_code (4 : Nat) (Option.some Jvm.ClassFile.FieldType.int)) ∈ am_WT := am_wt (am_m8 221 rfl) rfl
theorem w_1902 : (Jvm.Cond.methodLink "SlotMatModel" (381 : Nat) ({ cls := "SlotMatModel", name := "unthought", desc := "()I" } : Jvm.MethodName)) ∈ am_WT := am_wt (am_m8 222 rfl) rfl
theorem w_1904 : (Jvm.Cond.instanceMethod ({ cls := "SlotMatModel", name := "unthought", desc := "()I" } : Jvm.MethodName)) ∈ am_WT := am_wt (am_m8 224 rfl) rfl
theorem w_1905 : (Jvm.Cond.code ({ cls := "SlotMatModel", name := "unthought", desc := "()I" } : Jvm.MethodName) prog_12_method_65_code (3 : Nat) (Option.some Jvm.ClassFile.FieldType.int)) ∈ am_WT := am_wt (am_m8 225 rfl) rfl
theorem w_1906 : (Jvm.Cond.methodLink "SlotMatModel" (365 : Nat) ({ cls := "SlotMatModel", name := "fansOf", desc := "(I)I" } : Jvm.MethodName)) ∈ am_WT := am_wt (am_m8 226 rfl) rfl
theorem w_1908 : (Jvm.Cond.instanceMethod ({ cls := "SlotMatModel", name := "fansOf", desc := "(I)I" } : Jvm.MethodName)) ∈ am_WT := am_wt (am_m8 228 rfl) rfl
theorem w_1909 : (Jvm.Cond.code ({ cls := "SlotMatModel", name := "fansOf", desc := "(I)I" } : Jvm.MethodName) prog_12_method_63_code (4 : Nat) (Option.some Jvm.ClassFile.FieldType.int)) ∈ am_WT := am_wt (am_m8 229 rfl) rfl
theorem w_1910 : (Jvm.Cond.methodLink "SlotMatLaw" (139 : Nat) ({ cls := "SlotMatModel", name := "box", desc := "(II)I" } : Jvm.MethodName)) ∈ am_WT := am_wt (am_m8 230 rfl) rfl
theorem w_1911 : (Jvm.Cond.instanceMethod ({ cls := "SlotMatModel", name := "box", desc := "(II)I" } : Jvm.MethodName)) ∈ am_WT := am_wt (am_m8 231 rfl) rfl
theorem w_1912 : (Jvm.Cond.selects "SlotMatModel" ({ cls := "SlotMatModel", name := "box", desc := "(II)I" } : Jvm.MethodName) ({ cls := "SlotMatModel", name := "box", desc := "(II)I" } : Jvm.MethodName)) ∈ am_WT := am_wt (am_m8 232 rfl) rfl
theorem w_1913 : (Jvm.Cond.code ({ cls := "SlotMatModel", name := "box", desc := "(II)I" } : Jvm.MethodName) prog_12_method_73_code (3 : Nat) (Option.some Jvm.ClassFile.FieldType.int)) ∈ am_WT := am_wt (am_m8 233 rfl) rfl
theorem w_1914 : (Jvm.Cond.methodLink "SlotMatModel" (384 : Nat) ({ cls := "SlotMatModel", name := "isBox", desc := "(I)Z" } : Jvm.MethodName)) ∈ am_WT := am_wt (am_m8 234 rfl) rfl
theorem w_1916 : (Jvm.Cond.instanceMethod ({ cls := "SlotMatModel", name := "isBox", desc := "(I)Z" } : Jvm.MethodName)) ∈ am_WT := am_wt (am_m8 236 rfl) rfl
theorem w_1917 : (Jvm.Cond.code ({ cls := "SlotMatModel", name := "isBox", desc := "(I)Z" } : Jvm.MethodName) prog_12_method_67_code (2 : Nat) (Option.some Jvm.ClassFile.FieldType.boolean)) ∈ am_WT := am_wt (am_m8 237 rfl) rfl
theorem w_1918 : (Jvm.Cond.methodLink "SlotMatModel" (387 : Nat) ({ cls := "SlotMatModel", name := "isWhat", desc := "(II)Z" } : Jvm.MethodName)) ∈ am_WT := am_wt (am_m8 238 rfl) rfl
theorem w_1920 : (Jvm.Cond.instanceMethod ({ cls := "SlotMatModel", name := "isWhat", desc := "(II)Z" } : Jvm.MethodName)) ∈ am_WT := am_wt (am_m9 0 rfl) rfl
theorem w_1921 : (Jvm.Cond.code ({ cls := "SlotMatModel", name := "isWhat", desc := "(II)Z" } : Jvm.MethodName) prog_12_method_69_code (3 : Nat) (Option.some Jvm.ClassFile.FieldType.boolean)) ∈ am_WT := am_wt (am_m9 1 rfl) rfl
theorem w_1922 : (Jvm.Cond.methodLink "SlotMatModel" (391 : Nat) ({ cls := "SlotMatModel", name := "nearBy", desc := "(I)I" } : Jvm.MethodName)) ∈ am_WT := am_wt (am_m9 2 rfl) rfl
theorem w_1924 : (Jvm.Cond.instanceMethod ({ cls := "SlotMatModel", name := "nearBy", desc := "(I)I" } : Jvm.MethodName)) ∈ am_WT := am_wt (am_m9 4 rfl) rfl
theorem w_1925 : (Jvm.Cond.code ({ cls := "SlotMatModel", name := "nearBy", desc := "(I)I" } : Jvm.MethodName) prog_12_method_71_code (4 : Nat) (Option.some Jvm.ClassFile.FieldType.int)) ∈ am_WT := am_wt (am_m9 5 rfl) rfl
theorem w_1926 : (Jvm.Cond.methodLink "SlotMatModel" (336 : Nat) ({ cls := "SlotMatModel", name := "boxOf", desc := "(I)I" } : Jvm.MethodName)) ∈ am_WT := am_wt (am_m9 6 rfl) rfl
theorem w_1928 : (Jvm.Cond.instanceMethod ({ cls := "SlotMatModel", name := "boxOf", desc := "(I)I" } : Jvm.MethodName)) ∈ am_WT := am_wt (am_m9 8 rfl) rfl
theorem w_1929 : (Jvm.Cond.code ({ cls := "SlotMatModel", name := "boxOf", desc := "(I)I" } : Jvm.MethodName) prog_12_method_51_code (4 : Nat) (Option.some Jvm.ClassFile.FieldType.int)) ∈ am_WT := am_wt (am_m9 9 rfl) rfl
theorem w_1930 : (Jvm.Cond.methodLink "SlotMatModel" (318 : Nat) ({ cls := "SlotMatModel", name := "off", desc := "(II)I" } : Jvm.MethodName)) ∈ am_WT := am_wt (am_m9 10 rfl) rfl
theorem w_1931 : (Jvm.Cond.static ({ cls := "SlotMatModel", name := "off", desc := "(II)I" } : Jvm.MethodName)) ∈ am_WT := am_wt (am_m9 11 rfl) rfl
theorem w_1932 : (Jvm.Cond.code ({ cls := "SlotMatModel", name := "off", desc := "(II)I" } : Jvm.MethodName) prog_12_method_7_code (2 : Nat) (Option.some Jvm.ClassFile.FieldType.int)) ∈ am_WT := am_wt (am_m9 12 rfl) rfl
theorem w_1933 : (Jvm.Cond.methodLink "SlotMatModel" (394 : Nat) ({ cls := "SlotMatModel", name := "farthest", desc := "(I)I" } : Jvm.MethodName)) ∈ am_WT := am_wt (am_m9 13 rfl) rfl
theorem w_1935 : (Jvm.Cond.instanceMethod ({ cls := "SlotMatModel", name := "farthest", desc := "(I)I" } : Jvm.MethodName)) ∈ am_WT := am_wt (am_m9 15 rfl) rfl
theorem w_1936 : (Jvm.Cond.code ({ cls := "SlotMatModel", name := "farthest", desc := "(I)I" } : Jvm.MethodName) prog_12_method_72_code (4 : Nat) (Option.some Jvm.ClassFile.FieldType.int)) ∈ am_WT := am_wt (am_m9 16 rfl) rfl
theorem w_1937 : (Jvm.Cond.methodLink "SlotMatLaw" (142 : Nat) ({ cls := "SlotMatModel", name := "person", desc := "(II)I" } : Jvm.MethodName)) ∈ am_WT := am_wt (am_m9 17 rfl) rfl
theorem w_1938 : (Jvm.Cond.instanceMethod ({ cls := "SlotMatModel", name := "person", desc := "(II)I" } : Jvm.MethodName)) ∈ am_WT := am_wt (am_m9 18 rfl) rfl
theorem w_1939 : (Jvm.Cond.selects "SlotMatModel" ({ cls := "SlotMatModel", name := "person", desc := "(II)I" } : Jvm.MethodName) ({ cls := "SlotMatModel", name := "person", desc := "(II)I" } : Jvm.MethodName)) ∈ am_WT := am_wt (am_m9 19 rfl) rfl
theorem w_1940 : (Jvm.Cond.code ({ cls := "SlotMatModel", name := "person", desc := "(II)I" } : Jvm.MethodName) prog_12_method_74_code (3 : Nat) (Option.some Jvm.ClassFile.FieldType.int)) ∈ am_WT := am_wt (am_m9 20 rfl) rfl
theorem w_1941 : (Jvm.Cond.methodLink "SlotMatModel" (397 : Nat) ({ cls := "SlotMatModel", name := "isPerson", desc := "(I)Z" } : Jvm.MethodName)) ∈ am_WT := am_wt (am_m9 21 rfl) rfl
theorem w_1943 : (Jvm.Cond.instanceMethod ({ cls := "SlotMatModel", name := "isPerson", desc := "(I)Z" } : Jvm.MethodName)) ∈ am_WT := am_wt (am_m9 23 rfl) rfl
theorem w_1944 : (Jvm.Cond.code ({ cls := "SlotMatModel", name := "isPerson", desc := "(I)Z" } : Jvm.MethodName) prog_12_method_68_code (2 : Nat) (Option.some Jvm.ClassFile.FieldType.boolean)) ∈ am_WT := am_wt (am_m9 24 rfl) rfl
theorem w_1945 : (Jvm.Cond.methodLink "SlotMatLaw" (145 : Nat) ({ cls := "SlotMatModel", name := "held", desc := "(II)I" } : Jvm.MethodName)) ∈ am_WT := am_wt (am_m9 25 rfl) rfl
theorem w_1946 : (Jvm.Cond.instanceMethod ({ cls := "SlotMatModel", name := "held", desc := "(II)I" } : Jvm.MethodName)) ∈ am_WT := am_wt (am_m9 26 rfl) rfl
theorem w_1947 : (Jvm.Cond.selects "SlotMatModel" ({ cls := "SlotMatModel", name := "held", desc := "(II)I" } : Jvm.MethodName) ({ cls := "SlotMatModel", name := "held", desc := "(II)I" } : Jvm.MethodName)) ∈ am_WT := am_wt (am_m9 27 rfl) rfl
theorem w_1948 : (Jvm.Cond.code ({ cls := "SlotMatModel", name := "held", desc := "(II)I" } : Jvm.MethodName) prog_12_method_75_code (3 : Nat) (Option.some Jvm.ClassFile.FieldType.int)) ∈ am_WT := am_wt (am_m9 28 rfl) rfl
theorem w_1949 : (Jvm.Cond.methodLink "SlotMatLaw" (149 : Nat) ({ cls := "SlotMatModel", name := "days", desc := "(I)I" } : Jvm.MethodName)) ∈ am_WT := am_wt (am_m9 29 rfl) rfl
theorem w_1950 : (Jvm.Cond.instanceMethod ({ cls := "SlotMatModel", name := "days", desc := "(I)I" } : Jvm.MethodName)) ∈ am_WT := am_wt (am_m9 30 rfl) rfl
theorem w_1951 : (Jvm.Cond.selects "SlotMatModel" ({ cls := "SlotMatModel", name := "days", desc := "(I)I" } : Jvm.MethodName) ({ cls := "SlotMatModel", name := "days", desc := "(I)I" } : Jvm.MethodName)) ∈ am_WT := am_wt (am_m9 31 rfl) rfl
theorem w_1952 : (Jvm.Cond.code ({ cls := "SlotMatModel", name := "days", desc := "(I)I" } : Jvm.MethodName) prog_12_method_76_code (3 : Nat) (Option.some Jvm.ClassFile.FieldType.int)) ∈ am_WT := am_wt (am_m9 32 rfl) rfl
theorem w_1953 : (Jvm.Cond.methodLink "SlotMatModel" (400 : Nat) ({ cls := "SlotMatModel", name := "refuses", desc := "(I)I" } : Jvm.MethodName)) ∈ am_WT := am_wt (am_m9 33 rfl) rfl
theorem w_1955 : (Jvm.Cond.instanceMethod ({ cls := "SlotMatModel", name := "refuses", desc := "(I)I" } : Jvm.MethodName)) ∈ am_WT := am_wt (am_m9 35 rfl) rfl
theorem w_1956 : (Jvm.Cond.code ({ cls := "SlotMatModel", name := "refuses", desc := "(I)I" } : Jvm.MethodName) prog_12_method_44_code (2 : Nat) (Option.some Jvm.ClassFile.FieldType.int)) ∈ am_WT := am_wt (am_m9 36 rfl) rfl
theorem w_1957 : (Jvm.Cond.methodLink "SlotMatModel" (403 : Nat) ({ cls := "SlotMatModel", name := "keeps", desc := "()V" } : Jvm.MethodName)) ∈ am_WT := am_wt (am_m9 37 rfl) rfl
theorem w_1959 : (Jvm.Cond.instanceMethod ({ cls := "SlotMatModel", name := "keeps", desc := "()V" } : Jvm.MethodName)) ∈ am_WT := am_wt (am_m9 39 rfl) rfl
theorem w_1960 : (Jvm.Cond.code ({ cls := "SlotMatModel", name := "keeps", desc := "()V" } : Jvm.MethodName) prog_12_method_43_code (2 : Nat) (Option.none : Option Jvm.ClassFile.FieldType)) ∈ am_WT := am_wt (am_m9 40 rfl) rfl
theorem w_1961 : (Jvm.Cond.methodLink "SlotMatModel" (362 : Nat) ({ cls := "SlotMatModel", name := "dayGoes", desc := "(I)V" } : Jvm.MethodName)) ∈ am_WT := am_wt (am_m9 41 rfl) rfl
theorem w_1963 : (Jvm.Cond.instanceMethod ({ cls := "SlotMatModel", name := "dayGoes", desc := "(I)V" } : Jvm.MethodName)) ∈ am_WT := am_wt (am_m9 43 rfl) rfl
theorem w_1964 : (Jvm.Cond.code ({ cls := "SlotMatModel", name := "dayGoes", desc := "(I)V" } : Jvm.MethodName) prog_12_method_61_code (4 : Nat) (Option.none : Option Jvm.ClassFile.FieldType)) ∈ am_WT := am_wt (am_m9 44 rfl) rfl
theorem w_1965 : (Jvm.Cond.methodLink "SlotMatModel" (353 : Nat) ({ cls := "SlotMatModel", name := "thinks", desc := "(II)V" } : Jvm.MethodName)) ∈ am_WT := am_wt (am_m9 45 rfl) rfl
theorem w_1967 : (Jvm.Cond.instanceMethod ({ cls := "SlotMatModel", name := "thinks", desc := "(II)V" } : Jvm.MethodName)) ∈ am_WT := am_wt (am_m9 47 rfl) rfl
theorem w_1968 : (Jvm.Cond.code ({ cls := "SlotMatModel", name := "thinks", desc := "(II)V" } : Jvm.MethodName) prog_12_method_59_code (5 : Nat) (Option.none : Option Jvm.ClassFile.FieldType)) ∈ am_WT := am_wt (am_m9 48 rfl) rfl
theorem w_1969 : (Jvm.Cond.methodLink "SlotMatModel" (339 : Nat) ({ cls := "SlotMatModel", name := "thinksInto", desc := "(III)I" } : Jvm.MethodName)) ∈ am_WT := am_wt (am_m9 49 rfl) rfl
theorem w_1971 : (Jvm.Cond.instanceMethod ({ cls := "SlotMatModel", name := "thinksInto", desc := "(III)I" } : Jvm.MethodName)) ∈ am_WT := am_wt (am_m9 51 rfl) rfl
theorem w_1972 : (Jvm.Cond.code ({ cls := "SlotMatModel", name := "thinksInto", desc := "(III)I" } : Jvm.MethodName) prog_12_method_56_code (4 : Nat) (Option.some Jvm.ClassFile.FieldType.int)) ∈ am_WT := am_wt (am_m9 52 rfl) rfl
theorem w_1973 : (Jvm.Cond.methodLink "SlotMatModel" (324 : Nat) ({ cls := "SlotMatModel", name := "reckons", desc := "(I)I" } : Jvm.MethodName)) ∈ am_WT := am_wt (am_m9 53 rfl) rfl
theorem w_1975 : (Jvm.Cond.instanceMethod ({ cls := "SlotMatModel", name := "reckons", desc := "(I)I" } : Jvm.MethodName)) ∈ am_WT := am_wt (am_m9 55 rfl) rfl
theorem w_1976 : (Jvm.Cond.code ({ cls := "SlotMatModel", name := "reckons", desc := "(I)I" } : Jvm.MethodName) prog_12_method_48_code (5 : Nat) (Option.some Jvm.ClassFile.FieldType.int)) ∈ am_WT := am_wt (am_m9 56 rfl) rfl
theorem w_1977 : (Jvm.Cond.methodLink "SlotMatModel" (311 : Nat) ({ cls := "SlotMatModel", name := "works", desc := "(III)I" } : Jvm.MethodName)) ∈ am_WT := am_wt (am_m9 57 rfl) rfl
theorem w_1978 : (Jvm.Cond.static ({ cls := "SlotMatModel", name := "works", desc := "(III)I" } : Jvm.MethodName)) ∈ am_WT := am_wt (am_m9 58 rfl) rfl
theorem w_1979 : (Jvm.Cond.code ({ cls := "SlotMatModel", name := "works", desc := "(III)I" } : Jvm.MethodName) prog_12_method_47_code (3 : Nat) (Option.some Jvm.ClassFile.FieldType.int)) ∈ am_WT := am_wt (am_m9 59 rfl) rfl
theorem w_1980 : (Jvm.Cond.methodLink "SlotMatModel" (327 : Nat) ({ cls := "SlotMatModel", name := "bounded", desc := "(III)I" } : Jvm.MethodName)) ∈ am_WT := am_wt (am_m9 60 rfl) rfl
theorem w_1981 : (Jvm.Cond.static ({ cls := "SlotMatModel", name := "bounded", desc := "(III)I" } : Jvm.MethodName)) ∈ am_WT := am_wt (am_m9 61 rfl) rfl
theorem w_1982 : (Jvm.Cond.code ({ cls := "SlotMatModel", name := "bounded", desc := "(III)I" } : Jvm.MethodName) prog_12_method_5_code (3 : Nat) (Option.some Jvm.ClassFile.FieldType.int)) ∈ am_WT := am_wt (am_m9 62 rfl) rfl
theorem w_1983 : (Jvm.Cond.methodLink "SlotMatModel" (333 : Nat) ({ cls := "SlotMatModel", name := "lesser", desc := "(II)I" } : Jvm.MethodName)) ∈ am_WT := am_wt (am_m9 63 rfl) rfl
theorem w_1984 : (Jvm.Cond.static ({ cls := "SlotMatModel", name := "lesser", desc := "(II)I" } : Jvm.MethodName)) ∈ am_WT := am_wt (am_m9 64 rfl) rfl
theorem w_1985 : (Jvm.Cond.code ({ cls := "SlotMatModel", name := "lesser", desc := "(II)I" } : Jvm.MethodName) prog_12_method_6_code (2 : Nat) (Option.some Jvm.ClassFile.FieldType.int)) ∈ am_WT := am_wt (am_m9 65 rfl) rfl
theorem w_1986 : (Jvm.Cond.methodLink "SlotMatModel" (359 : Nat) ({ cls := "SlotMatModel", name := "fetches", desc := "(II)V" } : Jvm.MethodName)) ∈ am_WT := am_wt (am_m9 66 rfl) rfl
theorem w_1988 : (Jvm.Cond.instanceMethod ({ cls := "SlotMatModel", name := "fetches", desc := "(II)V" } : Jvm.MethodName)) ∈ am_WT := am_wt (am_m9 68 rfl) rfl
theorem w_1989 : (Jvm.Cond.code ({ cls := "SlotMatModel", name := "fetches", desc := "(II)V" } : Jvm.MethodName) prog_12_method_60_code (6 : Nat) (Option.none : Option Jvm.ClassFile.FieldType)) ∈ am_WT := am_wt (am_m9 69 rfl) rfl
theorem w_1990 : (Jvm.Cond.methodLink "SlotMatModel" (342 : Nat) ({ cls := "SlotMatModel", name := "soundsBy", desc := "(IIII)I" } : Jvm.MethodName)) ∈ am_WT := am_wt (am_m9 70 rfl) rfl
theorem w_1992 : (Jvm.Cond.instanceMethod ({ cls := "SlotMatModel", name := "soundsBy", desc := "(IIII)I" } : Jvm.MethodName)) ∈ am_WT := am_wt (am_m9 72 rfl) rfl
theorem w_1993 : (Jvm.Cond.code ({ cls := "SlotMatModel", name := "soundsBy", desc := "(IIII)I" } : Jvm.MethodName) prog_12_method_57_code (6 : Nat) (Option.some Jvm.ClassFile.FieldType.int)) ∈ am_WT := am_wt (am_m9 73 rfl) rfl
theorem w_1994 : (Jvm.Cond.methodLink "SlotMatModel" (346 : Nat) ({ cls := "SlotMatModel", name := "hears", desc := "(III)V" } : Jvm.MethodName)) ∈ am_WT := am_wt (am_m9 74 rfl) rfl
theorem w_1996 : (Jvm.Cond.instanceMethod ({ cls := "SlotMatModel", name := "hears", desc := "(III)V" } : Jvm.MethodName)) ∈ am_WT := am_wt (am_m9 76 rfl) rfl
theorem w_1997 : (Jvm.Cond.code ({ cls := "SlotMatModel", name := "hears", desc := "(III)V" } : Jvm.MethodName) prog_12_method_58_code (4 : Nat) (Option.none : Option Jvm.ClassFile.FieldType)) ∈ am_WT := am_wt (am_m9 77 rfl) rfl
theorem w_1998 : (Jvm.Cond.methodLink "SlotMatLaw" (152 : Nat) ({ cls := "SlotMatModel", name := "write", desc := "(I)I" } : Jvm.MethodName)) ∈ am_WT := am_wt (am_m9 78 rfl) rfl
theorem w_1999 : (Jvm.Cond.instanceMethod ({ cls := "SlotMatModel", name := "write", desc := "(I)I" } : Jvm.MethodName)) ∈ am_WT := am_wt (am_m9 79 rfl) rfl
theorem w_2000 : (Jvm.Cond.selects "SlotMatModel" ({ cls := "SlotMatModel", name := "write", desc := "(I)I" } : Jvm.MethodName) ({ cls := "SlotMatModel", name := "write", desc := "(I)I" } : Jvm.MethodName)) ∈ am_WT := am_wt (am_m9 80 rfl) rfl
theorem w_2001 : (Jvm.Cond.code ({ cls := "SlotMatModel", name := "write", desc := "(I)I" } : Jvm.MethodName) prog_12_method_78_code (2 : Nat) (Option.some Jvm.ClassFile.FieldType.int)) ∈ am_WT := am_wt (am_m9 81 rfl) rfl
theorem w_2002 : (Jvm.Cond.methodLink "SlotMatModel" (409 : Nat) ({ cls := "SlotMatModel", name := "writes", desc := "(II)V" } : Jvm.MethodName)) ∈ am_WT := am_wt (am_m9 82 rfl) rfl
theorem w_2004 : (Jvm.Cond.instanceMethod ({ cls := "SlotMatModel", name := "writes", desc := "(II)V" } : Jvm.MethodName)) ∈ am_WT := am_wt (am_m9 84 rfl) rfl
theorem w_2005 : (Jvm.Cond.code ({ cls := "SlotMatModel", name := "writes", desc := "(II)V" } : Jvm.MethodName) prog_12_method_77_code (4 : Nat) (Option.none : Option Jvm.ClassFile.FieldType)) ∈ am_WT := am_wt (am_m9 85 rfl) rfl
theorem w_2006 : (Jvm.Cond.methodLink "SlotMatModel" (406 : Nat) ({ cls := "SlotMatModel", name := "heldOf", desc := "(II)I" } : Jvm.MethodName)) ∈ am_WT := am_wt (am_m9 86 rfl) rfl
theorem w_2008 : (Jvm.Cond.instanceMethod ({ cls := "SlotMatModel", name := "heldOf", desc := "(II)I" } : Jvm.MethodName)) ∈ am_WT := am_wt (am_m9 88 rfl) rfl
theorem w_2009 : (Jvm.Cond.code ({ cls := "SlotMatModel", name := "heldOf", desc := "(II)I" } : Jvm.MethodName) prog_12_method_53_code (5 : Nat) (Option.some Jvm.ClassFile.FieldType.int)) ∈ am_WT := am_wt (am_m9 89 rfl) rfl
theorem w_2010 : (Jvm.Cond.methodLink "SlotMatLaw" (155 : Nat) ({ cls := "SlotMatModel", name := "paint", desc := "(I)I" } : Jvm.MethodName)) ∈ am_WT := am_wt (am_m9 90 rfl) rfl
theorem w_2011 : (Jvm.Cond.instanceMethod ({ cls := "SlotMatModel", name := "paint", desc := "(I)I" } : Jvm.MethodName)) ∈ am_WT := am_wt (am_m9 91 rfl) rfl
theorem w_2012 : (Jvm.Cond.selects "SlotMatModel" ({ cls := "SlotMatModel", name := "paint", desc := "(I)I" } : Jvm.MethodName) ({ cls := "SlotMatModel", name := "paint", desc := "(I)I" } : Jvm.MethodName)) ∈ am_WT := am_wt (am_m9 92 rfl) rfl
theorem w_2013 : (Jvm.Cond.code ({ cls := "SlotMatModel", name := "paint", desc := "(I)I" } : Jvm.MethodName) prog_12_method_79_code (3 : Nat) (Option.some Jvm.ClassFile.FieldType.int)) ∈ am_WT := am_wt (am_m9 93 rfl) rfl
theorem w_2014 : (Jvm.Cond.methodLink "SlotMatLaw" (158 : Nat) ({ cls := "SlotMatModel", name := "turn", desc := "(II)I" } : Jvm.MethodName)) ∈ am_WT := am_wt (am_m9 94 rfl) rfl
theorem w_2015 : (Jvm.Cond.instanceMethod ({ cls := "SlotMatModel", name := "turn", desc := "(II)I" } : Jvm.MethodName)) ∈ am_WT := am_wt (am_m9 95 rfl) rfl
theorem w_2016 : (Jvm.Cond.selects "SlotMatModel" ({ cls := "SlotMatModel", name := "turn", desc := "(II)I" } : Jvm.MethodName) ({ cls := "SlotMatModel", name := "turn", desc := "(II)I" } : Jvm.MethodName)) ∈ am_WT := am_wt (am_m9 96 rfl) rfl
theorem w_2017 : (Jvm.Cond.code ({ cls := "SlotMatModel", name := "turn", desc := "(II)I" } : Jvm.MethodName) prog_12_method_80_code (4 : Nat) (Option.some Jvm.ClassFile.FieldType.int)) ∈ am_WT := am_wt (am_m9 97 rfl) rfl
theorem w_2018 : (Jvm.Cond.methodLink "SlotMatLaw" (163 : Nat) ({ cls := "SlotMatModel", name := "strike", desc := "(Z)Z" } : Jvm.MethodName)) ∈ am_WT := am_wt (am_m9 98 rfl) rfl
theorem w_2019 : (Jvm.Cond.instanceMethod ({ cls := "SlotMatModel", name := "strike", desc := "(Z)Z" } : Jvm.MethodName)) ∈ am_WT := am_wt (am_m9 99 rfl) rfl
theorem w_2020 : (Jvm.Cond.selects "SlotMatModel" ({ cls := "SlotMatModel", name := "strike", desc := "(Z)Z" } : Jvm.MethodName) ({ cls := "SlotMatModel", name := "strike", desc := "(Z)Z" } : Jvm.MethodName)) ∈ am_WT := am_wt (am_m9 100 rfl) rfl
theorem w_2021 : (Jvm.Cond.code ({ cls := "SlotMatModel", name := "strike", desc := "(Z)Z" } : Jvm.MethodName) prog_12_method_81_code (2 : Nat) (Option.some Jvm.ClassFile.FieldType.boolean)) ∈ am_WT := am_wt (am_m9 101 rfl) rfl
theorem w_2022 : (Jvm.Cond.methodLink "SlotMatLaw" (171 : Nat) ({ cls := "SlotMatModel", name := "then", desc := "(III)I" } : Jvm.MethodName)) ∈ am_WT := am_wt (am_m9 102 rfl) rfl
theorem w_2023 : (Jvm.Cond.instanceMethod ({ cls := "SlotMatModel", name := "then", desc := "(III)I" } : Jvm.MethodName)) ∈ am_WT := am_wt (am_m9 103 rfl) rfl
theorem w_2024 : (Jvm.Cond.selects "SlotMatModel" ({ cls := "SlotMatModel", name := "then", desc := "(III)I" } : Jvm.MethodName) ({ cls := "SlotMatModel", name := "then", desc := "(III)I" } : Jvm.MethodName)) ∈ am_WT := am_wt (am_m9 104 rfl) rfl
theorem w_2025 : (Jvm.Cond.code ({ cls := "SlotMatModel", name := "then", desc := "(III)I" } : Jvm.MethodName) prog_12_method_83_code (4 : Nat) (Option.some Jvm.ClassFile.FieldType.int)) ∈ am_WT := am_wt (am_m9 105 rfl) rfl
theorem w_2026 : (Jvm.Cond.methodLink "SlotMatModel" (418 : Nat) ({ cls := "SlotMatModel", name := "isDays", desc := "(III)Z" } : Jvm.MethodName)) ∈ am_WT := am_wt (am_m9 106 rfl) rfl
theorem w_2028 : (Jvm.Cond.instanceMethod ({ cls := "SlotMatModel", name := "isDays", desc := "(III)Z" } : Jvm.MethodName)) ∈ am_WT := am_wt (am_m9 108 rfl) rfl
theorem w_2029 : (Jvm.Cond.code ({ cls := "SlotMatModel", name := "isDays", desc := "(III)Z" } : Jvm.MethodName) prog_12_method_70_code (4 : Nat) (Option.some Jvm.ClassFile.FieldType.boolean)) ∈ am_WT := am_wt (am_m9 109 rfl) rfl
theorem w_2030 : (Jvm.Cond.methodLink "SlotMatModel" (421 : Nat) ({ cls := "SlotMatModel", name := "goesTo", desc := "(I)V" } : Jvm.MethodName)) ∈ am_WT := am_wt (am_m9 110 rfl) rfl
theorem w_2032 : (Jvm.Cond.instanceMethod ({ cls := "SlotMatModel", name := "goesTo", desc := "(I)V" } : Jvm.MethodName)) ∈ am_WT := am_wt (am_m9 112 rfl) rfl
theorem w_2033 : (Jvm.Cond.code ({ cls := "SlotMatModel", name := "goesTo", desc := "(I)V" } : Jvm.MethodName) prog_12_method_82_code (2 : Nat) (Option.none : Option Jvm.ClassFile.FieldType)) ∈ am_WT := am_wt (am_m9 113 rfl) rfl
theorem w_2034 : (Jvm.Cond.methodLink "SlotMatModel" (412 : Nat) ({ cls := "SlotMatModel", name := "tries", desc := "()V" } : Jvm.MethodName)) ∈ am_WT := am_wt (am_m9 114 rfl) rfl
theorem w_2036 : (Jvm.Cond.instanceMethod ({ cls := "SlotMatModel", name := "tries", desc := "()V" } : Jvm.MethodName)) ∈ am_WT := am_wt (am_m9 116 rfl) rfl
theorem w_2037 : (Jvm.Cond.code ({ cls := "SlotMatModel", name := "tries", desc := "()V" } : Jvm.MethodName) prog_12_method_46_code (2 : Nat) (Option.none : Option Jvm.ClassFile.FieldType)) ∈ am_WT := am_wt (am_m9 117 rfl) rfl
theorem w_2038 : (Jvm.Cond.methodLink "SlotMatModel" (415 : Nat) ({ cls := "SlotMatModel", name := "daysGo", desc := "(I)V" } : Jvm.MethodName)) ∈ am_WT := am_wt (am_m9 118 rfl) rfl
theorem w_2040 : (Jvm.Cond.instanceMethod ({ cls := "SlotMatModel", name := "daysGo", desc := "(I)V" } : Jvm.MethodName)) ∈ am_WT := am_wt (am_m9 120 rfl) rfl
theorem w_2041 : (Jvm.Cond.code ({ cls := "SlotMatModel", name := "daysGo", desc := "(I)V" } : Jvm.MethodName) prog_12_method_62_code (3 : Nat) (Option.none : Option Jvm.ClassFile.FieldType)) ∈ am_WT := am_wt (am_m9 121 rfl) rfl
theorem w_2042 : (Jvm.Cond.methodLink "SlotMatLaw" (174 : Nat) ({ cls := "SlotMatModel", name := "later", desc := "(III)I" } : Jvm.MethodName)) ∈ am_WT := am_wt (am_m9 122 rfl) rfl
theorem w_2043 : (Jvm.Cond.instanceMethod ({ cls := "SlotMatModel", name := "later", desc := "(III)I" } : Jvm.MethodName)) ∈ am_WT := am_wt (am_m9 123 rfl) rfl
theorem w_2044 : (Jvm.Cond.selects "SlotMatModel" ({ cls := "SlotMatModel", name := "later", desc := "(III)I" } : Jvm.MethodName) ({ cls := "SlotMatModel", name := "later", desc := "(III)I" } : Jvm.MethodName)) ∈ am_WT := am_wt (am_m9 124 rfl) rfl
theorem w_2045 : (Jvm.Cond.code ({ cls := "SlotMatModel", name := "later", desc := "(III)I" } : Jvm.MethodName) prog_12_method_84_code (4 : Nat) (Option.some Jvm.ClassFile.FieldType.int)) ∈ am_WT := am_wt (am_m9 125 rfl) rfl
theorem w_2046 : (Jvm.Cond.methodLink "SlotMatLaw" (177 : Nat) ({ cls := "SlotMatModel", name := "first", desc := "(I)I" } : Jvm.MethodName)) ∈ am_WT := am_wt (am_m9 126 rfl) rfl
theorem w_2047 : (Jvm.Cond.instanceMethod ({ cls := "SlotMatModel", name := "first", desc := "(I)I" } : Jvm.MethodName)) ∈ am_WT := am_wt (am_m9 127 rfl) rfl
theorem w_2048 : (Jvm.Cond.selects "SlotMatModel" ({ cls := "SlotMatModel", name := "first", desc := "(I)I" } : Jvm.MethodName) ({ cls := "SlotMatModel", name := "first", desc := "(I)I" } : Jvm.MethodName)) ∈ am_WT := am_wt (am_m9 128 rfl) rfl
theorem w_2049 : (Jvm.Cond.code ({ cls := "SlotMatModel", name := "first", desc := "(I)I" } : Jvm.MethodName) prog_12_method_85_code (3 : Nat) (Option.some Jvm.ClassFile.FieldType.int)) ∈ am_WT := am_wt (am_m9 129 rfl) rfl
theorem w_2050 : (Jvm.Cond.methodLink "SlotMatLaw" (180 : Nat) ({ cls := "SlotMatModel", name := "full", desc := "(II)I" } : Jvm.MethodName)) ∈ am_WT := am_wt (am_m9 130 rfl) rfl
theorem w_2051 : (Jvm.Cond.instanceMethod ({ cls := "SlotMatModel", name := "full", desc := "(II)I" } : Jvm.MethodName)) ∈ am_WT := am_wt (am_m9 131 rfl) rfl
theorem w_2052 : (Jvm.Cond.selects "SlotMatModel" ({ cls := "SlotMatModel", name := "full", desc := "(II)I" } : Jvm.MethodName) ({ cls := "SlotMatModel", name := "full", desc := "(II)I" } : Jvm.MethodName)) ∈ am_WT := am_wt (am_m9 132 rfl) rfl
theorem w_2053 : (Jvm.Cond.code ({ cls := "SlotMatModel", name := "full", desc := "(II)I" } : Jvm.MethodName) prog_12_method_86_code (4 : Nat) (Option.some Jvm.ClassFile.FieldType.int)) ∈ am_WT := am_wt (am_m9 133 rfl) rfl
theorem w_2054 : (Jvm.Cond.methodLink "SlotMatLaw" (183 : Nat) ({ cls := "SlotMatModel", name := "most", desc := "(II)I" } : Jvm.MethodName)) ∈ am_WT := am_wt (am_m9 134 rfl) rfl
theorem w_2055 : (Jvm.Cond.instanceMethod ({ cls := "SlotMatModel", name := "most", desc := "(II)I" } : Jvm.MethodName)) ∈ am_WT := am_wt (am_m9 135 rfl) rfl
theorem w_2056 : (Jvm.Cond.selects "SlotMatModel" ({ cls := "SlotMatModel", name := "most", desc := "(II)I" } : Jvm.MethodName) ({ cls := "SlotMatModel", name := "most", desc := "(II)I" } : Jvm.MethodName)) ∈ am_WT := am_wt (am_m9 136 rfl) rfl
theorem w_2057 : (Jvm.Cond.code ({ cls := "SlotMatModel", name := "most", desc := "(II)I" } : Jvm.MethodName) prog_12_method_90_code (5 : Nat) (Option.some Jvm.ClassFile.FieldType.int)) ∈ am_WT := am_wt (am_m9 137 rfl) rfl
theorem w_2058 : (Jvm.Cond.methodLink "SlotMatModel" (424 : Nat) ({ cls := "SlotMatModel", name := "fullest", desc := "()I" } : Jvm.MethodName)) ∈ am_WT := am_wt (am_m9 138 rfl) rfl
theorem w_2060 : (Jvm.Cond.instanceMethod ({ cls := "SlotMatModel", name := "fullest", desc := "()I" } : Jvm.MethodName)) ∈ am_WT := am_wt (am_m9 140 rfl) rfl
theorem w_2061 : (Jvm.Cond.code ({ cls := "SlotMatModel", name := "fullest", desc := "()I" } : Jvm.MethodName) prog_12_method_87_code (3 : Nat) (Option.some Jvm.ClassFile.FieldType.int)) ∈ am_WT := am_wt (am_m9 141 rfl) rfl
theorem w_2062 : (Jvm.Cond.methodLink "SlotMatModel" (427 : Nat) ({ cls := "SlotMatModel", name := "mostOf", desc := "(I)I" } : Jvm.MethodName)) ∈ am_WT := am_wt (am_m9 142 rfl) rfl
theorem w_2064 : (Jvm.Cond.instanceMethod ({ cls := "SlotMatModel", name := "mostOf", desc := "(I)I" } : Jvm.MethodName)) ∈ am_WT := am_wt (am_m9 144 rfl) rfl
theorem w_2065 : (Jvm.Cond.code ({ cls := "SlotMatModel", name := "mostOf", desc := "(I)I" } : Jvm.MethodName) prog_12_method_88_code (4 : Nat) (Option.some Jvm.ClassFile.FieldType.int)) ∈ am_WT := am_wt (am_m9 145 rfl) rfl
theorem w_2066 : (Jvm.Cond.methodLink "SlotMatModel" (430 : Nat) ({ cls := "SlotMatModel", name := "emptyOnes", desc := "()I" } : Jvm.MethodName)) ∈ am_WT := am_wt (am_m9 146 rfl) rfl
theorem w_2068 : (Jvm.Cond.instanceMethod ({ cls := "SlotMatModel", name := "emptyOnes", desc := "()I" } : Jvm.MethodName)) ∈ am_WT := am_wt (am_m9 148 rfl) rfl
theorem w_2069 : (Jvm.Cond.code ({ cls := "SlotMatModel", name := "emptyOnes", desc := "()I" } : Jvm.MethodName) prog_12_method_89_code (3 : Nat) (Option.some Jvm.ClassFile.FieldType.int)) ∈ am_WT := am_wt (am_m9 149 rfl) rfl
theorem w_2070 : (Jvm.Cond.methodLink "SlotMatLaw" (224 : Nat) ({ cls := "SlotMatModel", name := "pale", desc := "(II)I" } : Jvm.MethodName)) ∈ am_WT := am_wt (am_m9 150 rfl) rfl
theorem w_2071 : (Jvm.Cond.instanceMethod ({ cls := "SlotMatModel", name := "pale", desc := "(II)I" } : Jvm.MethodName)) ∈ am_WT := am_wt (am_m9 151 rfl) rfl
theorem w_2072 : (Jvm.Cond.selects "SlotMatModel" ({ cls := "SlotMatModel", name := "pale", desc := "(II)I" } : Jvm.MethodName) ({ cls := "SlotMatModel", name := "pale", desc := "(II)I" } : Jvm.MethodName)) ∈ am_WT := am_wt (am_m9 152 rfl) rfl
theorem w_2073 : (Jvm.Cond.code ({ cls := "SlotMatModel", name := "pale", desc := "(II)I" } : Jvm.MethodName) prog_12_method_91_code (4 : Nat) (Option.some Jvm.ClassFile.FieldType.int)) ∈ am_WT := am_wt (am_m9 153 rfl) rfl
theorem w_2074 : (Jvm.Cond.methodLink "SlotMatLaw" (227 : Nat) ({ cls := "SlotMatModel", name := "visits", desc := "(II)I" } : Jvm.MethodName)) ∈ am_WT := am_wt (am_m9 154 rfl) rfl
theorem w_2075 : (Jvm.Cond.instanceMethod ({ cls := "SlotMatModel", name := "visits", desc := "(II)I" } : Jvm.MethodName)) ∈ am_WT := am_wt (am_m9 155 rfl) rfl
theorem w_2076 : (Jvm.Cond.selects "SlotMatModel" ({ cls := "SlotMatModel", name := "visits", desc := "(II)I" } : Jvm.MethodName) ({ cls := "SlotMatModel", name := "visits", desc := "(II)I" } : Jvm.MethodName)) ∈ am_WT := am_wt (am_m9 156 rfl) rfl
theorem w_2077 : (Jvm.Cond.code ({ cls := "SlotMatModel", name := "visits", desc := "(II)I" } : Jvm.MethodName) prog_12_method_92_code (5 : Nat) (Option.some Jvm.ClassFile.FieldType.int)) ∈ am_WT := am_wt (am_m9 157 rfl) rfl
theorem w_2078 : (Jvm.Cond.methodLink "SlotMatLaw" (243 : Nat) ({ cls := "SlotMatModel", name := "reds", desc := "(I)I" } : Jvm.MethodName)) ∈ am_WT := am_wt (am_m9 158 rfl) rfl
theorem w_2079 : (Jvm.Cond.instanceMethod ({ cls := "SlotMatModel", name := "reds", desc := "(I)I" } : Jvm.MethodName)) ∈ am_WT := am_wt (am_m9 159 rfl) rfl
theorem w_2080 : (Jvm.Cond.selects "SlotMatModel" ({ cls := "SlotMatModel", name := "reds", desc := "(I)I" } : Jvm.MethodName) ({ cls := "SlotMatModel", name := "reds", desc := "(I)I" } : Jvm.MethodName)) ∈ am_WT := am_wt (am_m9 160 rfl) rfl
theorem w_2081 : (Jvm.Cond.code ({ cls := "SlotMatModel", name := "reds", desc := "(I)I" } : Jvm.MethodName) prog_12_method_93_code (4 : Nat) (Option.some Jvm.ClassFile.FieldType.int)) ∈ am_WT := am_wt (am_m9 161 rfl) rfl
theorem w_2082 : (Jvm.Cond.methodLink "SlotMatLaw" (233 : Nat) ({ cls := "SlotMatModel", name := "quiet", desc := "(II)I" } : Jvm.MethodName)) ∈ am_WT := am_wt (am_m9 162 rfl) rfl
theorem w_2083 : (Jvm.Cond.instanceMethod ({ cls := "SlotMatModel", name := "quiet", desc := "(II)I" } : Jvm.MethodName)) ∈ am_WT := am_wt (am_m9 163 rfl) rfl
theorem w_2084 : (Jvm.Cond.selects "SlotMatModel" ({ cls := "SlotMatModel", name := "quiet", desc := "(II)I" } : Jvm.MethodName) ({ cls := "SlotMatModel", name := "quiet", desc := "(II)I" } : Jvm.MethodName)) ∈ am_WT := am_wt (am_m9 164 rfl) rfl
theorem w_2085 : (Jvm.Cond.code ({ cls := "SlotMatModel", name := "quiet", desc := "(II)I" } : Jvm.MethodName) prog_12_method_94_code (7 : Nat) (Option.some Jvm.ClassFile.FieldType.int)) ∈ am_WT := am_wt (am_m9 165 rfl) rfl
theorem w_2086 : (Jvm.Cond.methodLink "SlotMatLaw" (246 : Nat) ({ cls := "SlotMatModel", name := "whose", desc := "(I)I" } : Jvm.MethodName)) ∈ am_WT := am_wt (am_m9 166 rfl) rfl
theorem w_2087 : (Jvm.Cond.instanceMethod ({ cls := "SlotMatModel", name := "whose", desc := "(I)I" } : Jvm.MethodName)) ∈ am_WT := am_wt (am_m9 167 rfl) rfl
theorem w_2088 : (Jvm.Cond.selects "SlotMatModel" ({ cls := "SlotMatModel", name := "whose", desc := "(I)I" } : Jvm.MethodName) ({ cls := "SlotMatModel", name := "whose", desc := "(I)I" } : Jvm.MethodName)) ∈ am_WT := am_wt (am_m9 168 rfl) rfl
theorem w_2089 : (Jvm.Cond.code ({ cls := "SlotMatModel", name := "whose", desc := "(I)I" } : Jvm.MethodName) prog_12_method_95_code (4 : Nat) (Option.some Jvm.ClassFile.FieldType.int)) ∈ am_WT := am_wt (am_m9 169 rfl) rfl
theorem w_2090 : (Jvm.Cond.methodLink "SlotMatLaw" (186 : Nat) ({ cls := "SlotMatModel", name := "ring", desc := "(I)I" } : Jvm.MethodName)) ∈ am_WT := am_wt (am_m9 170 rfl) rfl
theorem w_2091 : (Jvm.Cond.instanceMethod ({ cls := "SlotMatModel", name := "ring", desc := "(I)I" } : Jvm.MethodName)) ∈ am_WT := am_wt (am_m9 171 rfl) rfl
theorem w_2092 : (Jvm.Cond.selects "SlotMatModel" ({ cls := "SlotMatModel", name := "ring", desc := "(I)I" } : Jvm.MethodName) ({ cls := "SlotMatModel", name := "ring", desc := "(I)I" } : Jvm.MethodName)) ∈ am_WT := am_wt (am_m9 172 rfl) rfl
theorem w_2093 : (Jvm.Cond.code ({ cls := "SlotMatModel", name := "ring", desc := "(I)I" } : Jvm.MethodName) prog_12_method_97_code (3 : Nat) (Option.some Jvm.ClassFile.FieldType.int)) ∈ am_WT := am_wt (am_m9 173 rfl) rfl
theorem w_2094 : (Jvm.Cond.methodLink "SlotMatModel" (433 : Nat) ({ cls := "SlotMatModel", name := "goesOnFrom", desc := "(I)I" } : Jvm.MethodName)) ∈ am_WT := am_wt (am_m9 174 rfl) rfl
theorem w_2096 : (Jvm.Cond.instanceMethod ({ cls := "SlotMatModel", name := "goesOnFrom", desc := "(I)I" } : Jvm.MethodName)) ∈ am_WT := am_wt (am_m9 176 rfl) rfl
theorem w_2097 : (Jvm.Cond.code ({ cls := "SlotMatModel", name := "goesOnFrom", desc := "(I)I" } : Jvm.MethodName) prog_12_method_96_code (4 : Nat) (Option.some Jvm.ClassFile.FieldType.int)) ∈ am_WT := am_wt (am_m9 177 rfl) rfl
theorem w_2098 : (Jvm.Cond.methodLink "SlotMatLaw" (189 : Nat) ({ cls := "SlotMatModel", name := "comesTo", desc := "(I)I" } : Jvm.MethodName)) ∈ am_WT := am_wt (am_m9 178 rfl) rfl
theorem w_2099 : (Jvm.Cond.instanceMethod ({ cls := "SlotMatModel", name := "comesTo", desc := "(I)I" } : Jvm.MethodName)) ∈ am_WT := am_wt (am_m9 179 rfl) rfl
theorem w_2100 : (Jvm.Cond.selects "SlotMatModel" ({ cls := "SlotMatModel", name := "comesTo", desc := "(I)I" } : Jvm.MethodName) ({ cls := "SlotMatModel", name := "comesTo", desc := "(I)I" } : Jvm.MethodName)) ∈ am_WT := am_wt (am_m9 180 rfl) rfl
theorem w_2101 : (Jvm.Cond.code ({ cls := "SlotMatModel", name := "comesTo", desc := "(I)I" } : Jvm.MethodName) prog_12_method_98_code (2 : Nat) (Option.some Jvm.ClassFile.FieldType.int)) ∈ am_WT := am_wt (am_m9 181 rfl) rfl
theorem w_2102 : (Jvm.Cond.methodLink "SlotMatLaw" (230 : Nat) ({ cls := "SlotMatModel", name := "steps", desc := "(II)I" } : Jvm.MethodName)) ∈ am_WT := am_wt (am_m9 182 rfl) rfl
theorem w_2103 : (Jvm.Cond.instanceMethod ({ cls := "SlotMatModel", name := "steps", desc := "(II)I" } : Jvm.MethodName)) ∈ am_WT := am_wt (am_m9 183 rfl) rfl
theorem w_2104 : (Jvm.Cond.selects "SlotMatModel" ({ cls := "SlotMatModel", name := "steps", desc := "(II)I" } : Jvm.MethodName) ({ cls := "SlotMatModel", name := "steps", desc := "(II)I" } : Jvm.MethodName)) ∈ am_WT := am_wt (am_m9 184 rfl) rfl
theorem w_2105 : (Jvm.Cond.code ({ cls := "SlotMatModel", name := "steps", desc := "(II)I" } : Jvm.MethodName) prog_12_method_99_code (5 : Nat) (Option.some Jvm.ClassFile.FieldType.int)) ∈ am_WT := am_wt (am_m9 185 rfl) rfl
theorem w_2106 : (Jvm.Cond.methodLink "SlotMatLaw" (240 : Nat) ({ cls := "SlotMatModel", name := "bestAt", desc := "(II)I" } : Jvm.MethodName)) ∈ am_WT := am_wt (am_m9 186 rfl) rfl
theorem w_2107 : (Jvm.Cond.instanceMethod ({ cls := "SlotMatModel", name := "bestAt", desc := "(II)I" } : Jvm.MethodName)) ∈ am_WT := am_wt (am_m9 187 rfl) rfl
theorem w_2108 : (Jvm.Cond.selects "SlotMatModel" ({ cls := "SlotMatModel", name := "bestAt", desc := "(II)I" } : Jvm.MethodName) ({ cls := "SlotMatModel", name := "bestAt", desc := "(II)I" } : Jvm.MethodName)) ∈ am_WT := am_wt (am_m9 188 rfl) rfl
theorem w_2109 : (Jvm.Cond.code ({ cls := "SlotMatModel", name := "bestAt", desc := "(II)I" } : Jvm.MethodName) prog_12_method_100_code (6 : Nat) (Option.some Jvm.ClassFile.FieldType.int)) ∈ am_WT := am_wt (am_m9 189 rfl) rfl
theorem w_2110 : (Jvm.Cond.methodLink "SlotMatLaw" (192 : Nat) ({ cls := "SlotMatModel", name := "toCover", desc := "(I)I" } : Jvm.MethodName)) ∈ am_WT := am_wt (am_m9 190 rfl) rfl
theorem w_2111 : (Jvm.Cond.instanceMethod ({ cls := "SlotMatModel", name := "toCover", desc := "(I)I" } : Jvm.MethodName)) ∈ am_WT := am_wt (am_m9 191 rfl) rfl
theorem w_2112 : (Jvm.Cond.selects "SlotMatModel" ({ cls := "SlotMatModel", name := "toCover", desc := "(I)I" } : Jvm.MethodName) ({ cls := "SlotMatModel", name := "toCover", desc := "(I)I" } : Jvm.MethodName)) ∈ am_WT := am_wt (am_m9 192 rfl) rfl
theorem w_2113 : (Jvm.Cond.code ({ cls := "SlotMatModel", name := "toCover", desc := "(I)I" } : Jvm.MethodName) prog_12_method_101_code (8 : Nat) (Option.some Jvm.ClassFile.FieldType.int)) ∈ am_WT := am_wt (am_m9 193 rfl) rfl
theorem w_2114 : (Jvm.Cond.methodLink "SlotMatModel" (436 : Nat) ({ cls := "SlotMatModel", name := "bits", desc := "(I)I" } : Jvm.MethodName)) ∈ am_WT := am_wt (am_m9 194 rfl) rfl
theorem w_2115 : (Jvm.Cond.static ({ cls := "SlotMatModel", name := "bits", desc := "(I)I" } : Jvm.MethodName)) ∈ am_WT := am_wt (am_m9 195 rfl) rfl
theorem w_2116 : (Jvm.Cond.code ({ cls := "SlotMatModel", name := "bits", desc := "(I)I" } : Jvm.MethodName) prog_12_method_9_code (3 : Nat) (Option.some Jvm.ClassFile.FieldType.int)) ∈ am_WT := am_wt (am_m9 196 rfl) rfl
theorem w_2117 : (Jvm.Cond.methodLink "SlotMatLaw" (195 : Nat) ({ cls := "SlotMatModel", name := "oneMore", desc := "(I)I" } : Jvm.MethodName)) ∈ am_WT := am_wt (am_m9 197 rfl) rfl
theorem w_2118 : (Jvm.Cond.instanceMethod ({ cls := "SlotMatModel", name := "oneMore", desc := "(I)I" } : Jvm.MethodName)) ∈ am_WT := am_wt (am_m9 198 rfl) rfl
theorem w_2119 : (Jvm.Cond.selects "SlotMatModel" ({ cls := "SlotMatModel", name := "oneMore", desc := "(I)I" } : Jvm.MethodName) ({ cls := "SlotMatModel", name := "oneMore", desc := "(I)I" } : Jvm.MethodName)) ∈ am_WT := am_wt (am_m9 199 rfl) rfl
theorem w_2120 : (Jvm.Cond.code ({ cls := "SlotMatModel", name := "oneMore", desc := "(I)I" } : Jvm.MethodName) prog_12_method_104_code (3 : Nat) (Option.some Jvm.ClassFile.FieldType.int)) ∈ am_WT := am_wt (am_m9 200 rfl) rfl
theorem w_2121 : (Jvm.Cond.methodLink "SlotMatModel" (443 : Nat) ({ cls := "SlotMatModel", name := "bestPlace", desc := "(Z)I" } : Jvm.MethodName)) ∈ am_WT := am_wt (am_m9 201 rfl) rfl
theorem w_2123 : (Jvm.Cond.instanceMethod ({ cls := "SlotMatModel", name := "bestPlace", desc := "(Z)I" } : Jvm.MethodName)) ∈ am_WT := am_wt (am_m9 203 rfl) rfl
theorem w_2124 : (Jvm.Cond.code ({ cls := "SlotMatModel", name := "bestPlace", desc := "(Z)I" } : Jvm.MethodName) prog_12_method_103_code (4 : Nat) (Option.some Jvm.ClassFile.FieldType.int)) ∈ am_WT := am_wt (am_m9 204 rfl) rfl
theorem w_2125 : (Jvm.Cond.methodLink "SlotMatModel" (439 : Nat) ({ cls := "SlotMatModel", name := "waysTo", desc := "(IZ)I" } : Jvm.MethodName)) ∈ am_WT := am_wt (am_m9 205 rfl) rfl
theorem w_2127 : (Jvm.Cond.instanceMethod ({ cls := "SlotMatModel", name := "waysTo", desc := "(IZ)I" } : Jvm.MethodName)) ∈ am_WT := am_wt (am_m9 207 rfl) rfl
theorem w_2128 : (Jvm.Cond.code ({ cls := "SlotMatModel", name := "waysTo", desc := "(IZ)I" } : Jvm.MethodName) prog_12_method_102_code (6 : Nat) (Option.some Jvm.ClassFile.FieldType.int)) ∈ am_WT := am_wt (am_m9 208 rfl) rfl
theorem w_2129 : (Jvm.Cond.methodLink "SlotMatLaw" (237 : Nat) ({ cls := "SlotMatModel", name := "middle", desc := "()I" } : Jvm.MethodName)) ∈ am_WT := am_wt (am_m9 209 rfl) rfl
theorem w_2130 : (Jvm.Cond.instanceMethod ({ cls := "SlotMatModel", name := "middle", desc := "()I" } : Jvm.MethodName)) ∈ am_WT := am_wt (am_m9 210 rfl) rfl
theorem w_2131 : (Jvm.Cond.selects "SlotMatModel" ({ cls := "SlotMatModel", name := "middle", desc := "()I" } : Jvm.MethodName) ({ cls := "SlotMatModel", name := "middle", desc := "()I" } : Jvm.MethodName)) ∈ am_WT := am_wt (am_m9 211 rfl) rfl
theorem w_2132 : (Jvm.Cond.code ({ cls := "SlotMatModel", name := "middle", desc := "()I" } : Jvm.MethodName) prog_12_method_105_code (1 : Nat) (Option.some Jvm.ClassFile.FieldType.int)) ∈ am_WT := am_wt (am_m9 212 rfl) rfl
theorem w_2133 : (Jvm.Cond.methodLink "SlotMatLaw" (198 : Nat) ({ cls := "SlotMatModel", name := "order", desc := "(I)I" } : Jvm.MethodName)) ∈ am_WT := am_wt (am_m9 213 rfl) rfl
theorem w_2134 : (Jvm.Cond.instanceMethod ({ cls := "SlotMatModel", name := "order", desc := "(I)I" } : Jvm.MethodName)) ∈ am_WT := am_wt (am_m9 214 rfl) rfl
theorem w_2135 : (Jvm.Cond.selects "SlotMatModel" ({ cls := "SlotMatModel", name := "order", desc := "(I)I" } : Jvm.MethodName) ({ cls := "SlotMatModel", name := "order", desc := "(I)I" } : Jvm.MethodName)) ∈ am_WT := am_wt (am_m9 215 rfl) rfl
theorem w_2136 : (Jvm.Cond.code ({ cls := "SlotMatModel", name := "order", desc := "(I)I" } : Jvm.MethodName) prog_12_method_108_code (5 : Nat) (Option.some Jvm.ClassFile.FieldType.int)) ∈ am_WT := am_wt (am_m9 216 rfl) rfl
theorem w_2137 : (Jvm.Cond.methodLink "SlotMatModel" (450 : Nat) ({ cls := "SlotMatModel", name := "nextOrder", desc := "()Z" } : Jvm.MethodName)) ∈ am_WT := am_wt (am_m9 217 rfl) rfl
theorem w_2139 : (Jvm.Cond.instanceMethod ({ cls := "SlotMatModel", name := "nextOrder", desc := "()Z" } : Jvm.MethodName)) ∈ am_WT := am_wt (am_m9 219 rfl) rfl
theorem w_2140 : (Jvm.Cond.code ({ cls := "SlotMatModel", name := "nextOrder", desc := "()Z" } : Jvm.MethodName) prog_12_method_107_code (4 : Nat) (Option.some Jvm.ClassFile.FieldType.boolean)) ∈ am_WT := am_wt (am_m9 220 rfl) rfl
theorem w_2141 : (Jvm.Cond.methodLink "SlotMatModel" (447 : Nat) ({ cls := "SlotMatModel", name := "swaps", desc := "(II)V" } : Jvm.MethodName)) ∈ am_WT := am_wt (am_m9 221 rfl) rfl
theorem w_2143 : (Jvm.Cond.instanceMethod ({ cls := "SlotMatModel", name := "swaps", desc := "(II)V" } : Jvm.MethodName)) ∈ am_WT := am_wt (am_m9 223 rfl) rfl
theorem w_2144 : (Jvm.Cond.code ({ cls := "SlotMatModel", name := "swaps", desc := "(II)V" } : Jvm.MethodName) prog_12_method_106_code (4 : Nat) (Option.none : Option Jvm.ClassFile.FieldType)) ∈ am_WT := am_wt (am_m9 224 rfl) rfl
theorem w_2145 : (Jvm.Cond.methodLink "SlotMatLaw" (201 : Nat) ({ cls := "SlotMatModel", name := "note", desc := "(III)I" } : Jvm.MethodName)) ∈ am_WT := am_wt (am_m9 225 rfl) rfl
theorem w_2146 : (Jvm.Cond.instanceMethod ({ cls := "SlotMatModel", name := "note", desc := "(III)I" } : Jvm.MethodName)) ∈ am_WT := am_wt (am_m9 226 rfl) rfl
theorem w_2147 : (Jvm.Cond.selects "SlotMatModel" ({ cls := "SlotMatModel", name := "note", desc := "(III)I" } : Jvm.MethodName) ({ cls := "SlotMatModel", name := "note", desc := "(III)I" } : Jvm.MethodName)) ∈ am_WT := am_wt (am_m9 227 rfl) rfl
theorem w_2148 : (Jvm.Cond.code ({ cls := "SlotMatModel", name := "note", desc := "(III)I" } : Jvm.MethodName) prog_12_method_109_code (4 : Nat) (Option.some Jvm.ClassFile.FieldType.int)) ∈ am_WT := am_wt (am_m9 228 rfl) rfl
theorem w_2149 : (Jvm.Cond.methodLink "SlotMatLaw" (205 : Nat) ({ cls := "SlotMatModel", name := "forget", desc := "()V" } : Jvm.MethodName)) ∈ am_WT := am_wt (am_m9 229 rfl) rfl
theorem w_2150 : (Jvm.Cond.instanceMethod ({ cls := "SlotMatModel", name := "forget", desc := "()V" } : Jvm.MethodName)) ∈ am_WT := am_wt (am_m9 230 rfl) rfl
theorem w_2151 : (Jvm.Cond.selects "SlotMatModel" ({ cls := "SlotMatModel", name := "forget", desc := "()V" } : Jvm.MethodName) ({ cls := "SlotMatModel", name := "forget", desc := "()V" } : Jvm.MethodName)) ∈ am_WT := am_wt (am_m9 231 rfl) rfl
theorem w_2152 : (Jvm.Cond.code ({ cls := "SlotMatModel", name := "forget", desc := "()V" } : Jvm.MethodName) prog_12_method_110_code (1 : Nat) (Option.none : Option Jvm.ClassFile.FieldType)) ∈ am_WT := am_wt (am_m9 232 rfl) rfl
theorem w_2153 : (Jvm.Cond.methodLink "SlotMatLaw" (208 : Nat) ({ cls := "SlotMatModel", name := "thought", desc := "(I)I" } : Jvm.MethodName)) ∈ am_WT := am_wt (am_m9 233 rfl) rfl
theorem w_2154 : (Jvm.Cond.instanceMethod ({ cls := "SlotMatModel", name := "thought", desc := "(I)I" } : Jvm.MethodName)) ∈ am_WT := am_wt (am_m9 234 rfl) rfl
theorem w_2155 : (Jvm.Cond.selects "SlotMatModel" ({ cls := "SlotMatModel", name := "thought", desc := "(I)I" } : Jvm.MethodName) ({ cls := "SlotMatModel", name := "thought", desc := "(I)I" } : Jvm.MethodName)) ∈ am_WT := am_wt (am_m9 235 rfl) rfl
theorem w_2156 : (Jvm.Cond.code ({ cls := "SlotMatModel", name := "thought", desc := "(I)I" } : Jvm.MethodName) prog_12_method_113_code (5 : Nat) (Option.some Jvm.ClassFile.FieldType.int)) ∈ am_WT := am_wt (am_m9 236 rfl) rfl
theorem w_2157 : (Jvm.Cond.methodLink "SlotMatModel" (453 : Nat) ({ cls := "SlotMatModel", name := "isNoted", desc := "()Z" } : Jvm.MethodName)) ∈ am_WT := am_wt (am_m9 237 rfl) rfl
theorem w_2159 : (Jvm.Cond.instanceMethod ({ cls := "SlotMatModel", name := "isNoted", desc := "()Z" } : Jvm.MethodName)) ∈ am_WT := am_wt (am_m9 239 rfl) rfl
theorem w_2160 : (Jvm.Cond.code ({ cls := "SlotMatModel", name := "isNoted", desc := "()Z" } : Jvm.MethodName) prog_12_method_111_code (3 : Nat) (Option.some Jvm.ClassFile.FieldType.boolean)) ∈ am_WT := am_wt (am_m10 0 rfl) rfl
theorem w_2161 : (Jvm.Cond.methodLink "SlotMatModel" (456 : Nat) ({ cls := "SlotMatModel", name := "isGuess", desc := "(I)Z" } : Jvm.MethodName)) ∈ am_WT := am_wt (am_m10 1 rfl) rfl
theorem w_2163 : (Jvm.Cond.instanceMethod ({ cls := "SlotMatModel", name := "isGuess", desc := "(I)Z" } : Jvm.MethodName)) ∈ am_WT := am_wt (am_m10 3 rfl) rfl
theorem w_2164 : (Jvm.Cond.code ({ cls := "SlotMatModel", name := "isGuess", desc := "(I)Z" } : Jvm.MethodName) prog_12_method_112_code (4 : Nat) (Option.some Jvm.ClassFile.FieldType.boolean)) ∈ am_WT := am_wt (am_m10 4 rfl) rfl
theorem w_2165 : (Jvm.Cond.methodLink "SlotMatLaw" (211 : Nat) ({ cls := "SlotMatModel", name := "ask", desc := "(I)I" } : Jvm.MethodName)) ∈ am_WT := am_wt (am_m10 5 rfl) rfl
theorem w_2166 : (Jvm.Cond.instanceMethod ({ cls := "SlotMatModel", name := "ask", desc := "(I)I" } : Jvm.MethodName)) ∈ am_WT := am_wt (am_m10 6 rfl) rfl
theorem w_2167 : (Jvm.Cond.selects "SlotMatModel" ({ cls := "SlotMatModel", name := "ask", desc := "(I)I" } : Jvm.MethodName) ({ cls := "SlotMatModel", name := "ask", desc := "(I)I" } : Jvm.MethodName)) ∈ am_WT := am_wt (am_m10 7 rfl) rfl
theorem w_2168 : (Jvm.Cond.code ({ cls := "SlotMatModel", name := "ask", desc := "(I)I" } : Jvm.MethodName) prog_12_method_114_code (10 : Nat) (Option.some Jvm.ClassFile.FieldType.int)) ∈ am_WT := am_wt (am_m10 8 rfl) rfl
theorem w_2169 : (Jvm.Cond.methodLink "SlotMatLaw" (215 : Nat) ({ cls := "SlotMatModel", name := "wetNights", desc := "(IIII)I" } : Jvm.MethodName)) ∈ am_WT := am_wt (am_m10 9 rfl) rfl
theorem w_2170 : (Jvm.Cond.instanceMethod ({ cls := "SlotMatModel", name := "wetNights", desc := "(IIII)I" } : Jvm.MethodName)) ∈ am_WT := am_wt (am_m10 10 rfl) rfl
theorem w_2171 : (Jvm.Cond.selects "SlotMatModel" ({ cls := "SlotMatModel", name := "wetNights", desc := "(IIII)I" } : Jvm.MethodName) ({ cls := "SlotMatModel", name := "wetNights", desc := "(IIII)I" } : Jvm.MethodName)) ∈ am_WT := am_wt (am_m10 11 rfl) rfl
theorem w_2172 : (Jvm.Cond.code ({ cls := "SlotMatModel", name := "wetNights", desc := "(IIII)I" } : Jvm.MethodName) prog_12_method_115_code (10 : Nat) (Option.some Jvm.ClassFile.FieldType.int)) ∈ am_WT := am_wt (am_m10 12 rfl) rfl
theorem w_2173 : (Jvm.Cond.methodLink "SlotMatLaw" (218 : Nat) ({ cls := "SlotMatModel", name := "game", desc := "(III)I" } : Jvm.MethodName)) ∈ am_WT := am_wt (am_m10 13 rfl) rfl
theorem w_2174 : (Jvm.Cond.instanceMethod ({ cls := "SlotMatModel", name := "game", desc := "(III)I" } : Jvm.MethodName)) ∈ am_WT := am_wt (am_m10 14 rfl) rfl
theorem w_2175 : (Jvm.Cond.selects "SlotMatModel" ({ cls := "SlotMatModel", name := "game", desc := "(III)I" } : Jvm.MethodName) ({ cls := "SlotMatModel", name := "game", desc := "(III)I" } : Jvm.MethodName)) ∈ am_WT := am_wt (am_m10 15 rfl) rfl
theorem w_2176 : (Jvm.Cond.code ({ cls := "SlotMatModel", name := "game", desc := "(III)I" } : Jvm.MethodName) prog_12_method_117_code (9 : Nat) (Option.some Jvm.ClassFile.FieldType.int)) ∈ am_WT := am_wt (am_m10 16 rfl) rfl
theorem w_2177 : (Jvm.Cond.methodLink "SlotMatModel" (459 : Nat) ({ cls := "SlotMatModel", name := "gains", desc := "(IIII)I" } : Jvm.MethodName)) ∈ am_WT := am_wt (am_m10 17 rfl) rfl
theorem w_2179 : (Jvm.Cond.instanceMethod ({ cls := "SlotMatModel", name := "gains", desc := "(IIII)I" } : Jvm.MethodName)) ∈ am_WT := am_wt (am_m10 19 rfl) rfl
theorem w_2180 : (Jvm.Cond.code ({ cls := "SlotMatModel", name := "gains", desc := "(IIII)I" } : Jvm.MethodName) prog_12_method_116_code (5 : Nat) (Option.some Jvm.ClassFile.FieldType.int)) ∈ am_WT := am_wt (am_m10 20 rfl) rfl
theorem w_2181 : (Jvm.Cond.methodLink "SlotMatLaw" (221 : Nat) ({ cls := "SlotMatModel", name := "years", desc := "(III)I" } : Jvm.MethodName)) ∈ am_WT := am_wt (am_m10 21 rfl) rfl
theorem w_2182 : (Jvm.Cond.instanceMethod ({ cls := "SlotMatModel", name := "years", desc := "(III)I" } : Jvm.MethodName)) ∈ am_WT := am_wt (am_m10 22 rfl) rfl
theorem w_2183 : (Jvm.Cond.selects "SlotMatModel" ({ cls := "SlotMatModel", name := "years", desc := "(III)I" } : Jvm.MethodName) ({ cls := "SlotMatModel", name := "years", desc := "(III)I" } : Jvm.MethodName)) ∈ am_WT := am_wt (am_m10 23 rfl) rfl
theorem w_2184 : (Jvm.Cond.code ({ cls := "SlotMatModel", name := "years", desc := "(III)I" } : Jvm.MethodName) prog_12_method_120_code (5 : Nat) (Option.some Jvm.ClassFile.FieldType.int)) ∈ am_WT := am_wt (am_m10 24 rfl) rfl
theorem w_2185 : (Jvm.Cond.methodLink "SlotMatModel" (466 : Nat) ({ cls := "SlotMatModel", name := "draw", desc := "(I)I" } : Jvm.MethodName)) ∈ am_WT := am_wt (am_m10 25 rfl) rfl
theorem w_2187 : (Jvm.Cond.instanceMethod ({ cls := "SlotMatModel", name := "draw", desc := "(I)I" } : Jvm.MethodName)) ∈ am_WT := am_wt (am_m10 27 rfl) rfl
theorem w_2188 : (Jvm.Cond.code ({ cls := "SlotMatModel", name := "draw", desc := "(I)I" } : Jvm.MethodName) prog_12_method_118_code (2 : Nat) (Option.some Jvm.ClassFile.FieldType.int)) ∈ am_WT := am_wt (am_m10 28 rfl) rfl
theorem w_2189 : (Jvm.Cond.constant "SlotMatModel" (465 : Nat) (1103515245 : Int32)) ∈ am_WT := am_wt (am_m10 29 rfl) rfl
theorem w_2190 : (Jvm.Cond.methodLink "SlotMatModel" (469 : Nat) ({ cls := "SlotMatModel", name := "happens", desc := "()V" } : Jvm.MethodName)) ∈ am_WT := am_wt (am_m10 30 rfl) rfl
theorem w_2192 : (Jvm.Cond.instanceMethod ({ cls := "SlotMatModel", name := "happens", desc := "()V" } : Jvm.MethodName)) ∈ am_WT := am_wt (am_m10 32 rfl) rfl
theorem w_2193 : (Jvm.Cond.code ({ cls := "SlotMatModel", name := "happens", desc := "()V" } : Jvm.MethodName) prog_12_method_119_code (4 : Nat) (Option.none : Option Jvm.ClassFile.FieldType)) ∈ am_WT := am_wt (am_m10 33 rfl) rfl
theorem w_2194 : (Jvm.Cond.methodLink "SlotMatLaw" (250 : Nat) ({ cls := "SlotMatModel", name := "image", desc := "()V" } : Jvm.MethodName)) ∈ am_WT := am_wt (am_m10 34 rfl) rfl
theorem w_2195 : (Jvm.Cond.instanceMethod ({ cls := "SlotMatModel", name := "image", desc := "()V" } : Jvm.MethodName)) ∈ am_WT := am_wt (am_m10 35 rfl) rfl
theorem w_2196 : (Jvm.Cond.selects "SlotMatModel" ({ cls := "SlotMatModel", name := "image", desc := "()V" } : Jvm.MethodName) ({ cls := "SlotMatModel", name := "image", desc := "()V" } : Jvm.MethodName)) ∈ am_WT := am_wt (am_m10 36 rfl) rfl
theorem w_2197 : (Jvm.Cond.code ({ cls := "SlotMatModel", name := "image", desc := "()V" } : Jvm.MethodName) prog_12_method_121_code (2 : Nat) (Option.none : Option Jvm.ClassFile.FieldType)) ∈ am_WT := am_wt (am_m10 37 rfl) rfl
theorem w_2198 : (Jvm.Cond.methodLink "SlotMatLaw" (255 : Nat) ({ cls := "SlotMatModel", name := "restore", desc := "()Z" } : Jvm.MethodName)) ∈ am_WT := am_wt (am_m10 38 rfl) rfl
theorem w_2199 : (Jvm.Cond.instanceMethod ({ cls := "SlotMatModel", name := "restore", desc := "()Z" } : Jvm.MethodName)) ∈ am_WT := am_wt (am_m10 39 rfl) rfl
theorem w_2200 : (Jvm.Cond.selects "SlotMatModel" ({ cls := "SlotMatModel", name := "restore", desc := "()Z" } : Jvm.MethodName) ({ cls := "SlotMatModel", name := "restore", desc := "()Z" } : Jvm.MethodName)) ∈ am_WT := am_wt (am_m10 40 rfl) rfl
theorem w_2201 : (Jvm.Cond.code ({ cls := "SlotMatModel", name := "restore", desc := "()Z" } : Jvm.MethodName) prog_12_method_122_code (2 : Nat) (Option.some Jvm.ClassFile.FieldType.boolean)) ∈ am_WT := am_wt (am_m10 41 rfl) rfl
theorem w_2202 : (Jvm.Cond.arrayClass Jvm.ClassFile.FieldType.long) ∈ am_WT := am_wt (am_m10 42 rfl) rfl
theorem e_2212 : (Jvm.Cond.castable "SlotMat" "java/lang/Object") ∈ am_ext := List.mem_filter.mpr ⟨am_m10 52 rfl, rfl⟩
theorem e_2213 : (Jvm.Cond.castable "SlotMat$CityReader" "java/lang/Object") ∈ am_ext := List.mem_filter.mpr ⟨am_m10 53 rfl, rfl⟩
theorem e_2214 : (Jvm.Cond.castable "SlotMat$Tokens" "java/lang/Object") ∈ am_ext := List.mem_filter.mpr ⟨am_m10 54 rfl, rfl⟩
theorem e_2215 : (Jvm.Cond.castable "SlotMat$RuleReader" "java/lang/Object") ∈ am_ext := List.mem_filter.mpr ⟨am_m10 55 rfl, rfl⟩
theorem e_2216 : (Jvm.Cond.castable "SlotMat$City" "java/lang/Object") ∈ am_ext := List.mem_filter.mpr ⟨am_m10 56 rfl, rfl⟩
theorem e_2217 : (Jvm.Cond.castable "SlotMat$Rule" "java/lang/Object") ∈ am_ext := List.mem_filter.mpr ⟨am_m10 57 rfl, rfl⟩
theorem e_2218 : (Jvm.Cond.castable "SlotMat$State" "java/lang/Object") ∈ am_ext := List.mem_filter.mpr ⟨am_m10 58 rfl, rfl⟩
theorem e_2219 : (Jvm.Cond.castable "java/lang/IllegalArgumentException" "java/lang/Object") ∈ am_ext := List.mem_filter.mpr ⟨am_m10 59 rfl, rfl⟩
theorem e_2220 : (Jvm.Cond.castable "java/lang/StringBuilder" "java/lang/Object") ∈ am_ext := List.mem_filter.mpr ⟨am_m10 60 rfl, rfl⟩
theorem e_2221 : (Jvm.Cond.castable "java/lang/String" "java/lang/Object") ∈ am_ext := List.mem_filter.mpr ⟨am_m10 61 rfl, rfl⟩
theorem e_2222 : (Jvm.Cond.castable "SlotMat$Acts" "java/lang/Object") ∈ am_ext := List.mem_filter.mpr ⟨am_m10 62 rfl, rfl⟩
theorem e_2223 : (Jvm.Cond.castable "SlotMat$Notes" "java/lang/Object") ∈ am_ext := List.mem_filter.mpr ⟨am_m10 63 rfl, rfl⟩
theorem e_2224 : (Jvm.Cond.castable "SlotMat$OrderSearch" "java/lang/Object") ∈ am_ext := List.mem_filter.mpr ⟨am_m10 64 rfl, rfl⟩
theorem e_2225 : (Jvm.Cond.castable "SlotMatModel" "java/lang/Object") ∈ am_ext := List.mem_filter.mpr ⟨am_m10 65 rfl, rfl⟩
theorem e_2226 : (Jvm.Cond.castable "java/util/NoSuchElementException" "java/lang/Object") ∈ am_ext := List.mem_filter.mpr ⟨am_m10 66 rfl, rfl⟩
theorem e_2227 : (Jvm.Cond.castable "java/lang/Throwable" "java/lang/Object") ∈ am_ext := List.mem_filter.mpr ⟨am_m10 67 rfl, rfl⟩
theorem s_0 : Cond.selects "java/lang/Throwable" ⟨"java/lang/Throwable", "fillInStackTrace", "(I)Ljava/lang/Throwable;"⟩ ⟨"java/lang/Throwable", "fillInStackTrace", "(I)Ljava/lang/Throwable;"⟩ ∈ am_WT := am_wt (List.mem_append_left _ (List.mem_of_getElem? (i := 0) (by decide +kernel))) rfl
theorem s_1 : Cond.selects "SlotMat" ⟨"SlotMat", "putBytes", "(I)V"⟩ ⟨"SlotMat", "putBytes", "(I)V"⟩ ∈ am_WT := am_wt (List.mem_append_left _ (List.mem_of_getElem? (i := 1) (by decide +kernel))) rfl
theorem s_2 : Cond.selects "SlotMat$City" ⟨"SlotMat$City", "thoughtsOf", "(LSlotMat$State;II)I"⟩ ⟨"SlotMat$City", "thoughtsOf", "(LSlotMat$State;II)I"⟩ ∈ am_WT := am_wt (List.mem_append_left _ (List.mem_of_getElem? (i := 2) (by decide +kernel))) rfl
theorem s_3 : Cond.selects "SlotMat$State" ⟨"SlotMat$State", "sumOf", "(II)I"⟩ ⟨"SlotMat$State", "sumOf", "(II)I"⟩ ∈ am_WT := am_wt (List.mem_append_left _ (List.mem_of_getElem? (i := 3) (by decide +kernel))) rfl
theorem s_4 : Cond.selects "SlotMat$City" ⟨"SlotMat$City", "fetchAll", "(LSlotMat$State;II)I"⟩ ⟨"SlotMat$City", "fetchAll", "(LSlotMat$State;II)I"⟩ ∈ am_WT := am_wt (List.mem_append_left _ (List.mem_of_getElem? (i := 4) (by decide +kernel))) rfl
theorem s_5 : Cond.selects "SlotMat$Tokens" ⟨"SlotMat$Tokens", "numberHere", "()I"⟩ ⟨"SlotMat$Tokens", "numberHere", "()I"⟩ ∈ am_WT := am_wt (List.mem_append_left _ (List.mem_of_getElem? (i := 5) (by decide +kernel))) rfl
theorem s_6 : Cond.selects "SlotMat$CityReader" ⟨"SlotMat$CityReader", "readLine", "(LSlotMat$City;)V"⟩ ⟨"SlotMat$CityReader", "readLine", "(LSlotMat$City;)V"⟩ ∈ am_WT := am_wt (List.mem_append_left _ (List.mem_of_getElem? (i := 6) (by decide +kernel))) rfl
theorem s_7 : Cond.selects "SlotMat$CityReader" ⟨"SlotMat$CityReader", "readBox", "(LSlotMat$City;)V"⟩ ⟨"SlotMat$CityReader", "readBox", "(LSlotMat$City;)V"⟩ ∈ am_WT := am_wt (List.mem_append_left _ (List.mem_of_getElem? (i := 7) (by decide +kernel))) rfl
theorem s_8 : Cond.selects "SlotMat$CityReader" ⟨"SlotMat$CityReader", "readPerson", "(LSlotMat$City;)V"⟩ ⟨"SlotMat$CityReader", "readPerson", "(LSlotMat$City;)V"⟩ ∈ am_WT := am_wt (List.mem_append_left _ (List.mem_of_getElem? (i := 8) (by decide +kernel))) rfl
theorem s_9 : Cond.selects "SlotMat$CityReader" ⟨"SlotMat$CityReader", "readAt", "(I)I"⟩ ⟨"SlotMat$CityReader", "readAt", "(I)I"⟩ ∈ am_WT := am_wt (List.mem_append_left _ (List.mem_of_getElem? (i := 9) (by decide +kernel))) rfl
theorem s_10 : Cond.selects "SlotMat$CityReader" ⟨"SlotMat$CityReader", "readRound", "(LSlotMat$City;)V"⟩ ⟨"SlotMat$CityReader", "readRound", "(LSlotMat$City;)V"⟩ ∈ am_WT := am_wt (List.mem_append_left _ (List.mem_of_getElem? (i := 10) (by decide +kernel))) rfl
theorem s_11 : Cond.selects "SlotMat$CityReader" ⟨"SlotMat$CityReader", "moreNumbers", "(I)Z"⟩ ⟨"SlotMat$CityReader", "moreNumbers", "(I)Z"⟩ ∈ am_WT := am_wt (List.mem_append_left _ (List.mem_of_getElem? (i := 11) (by decide +kernel))) rfl
theorem s_12 : Cond.selects "SlotMat$CityReader" ⟨"SlotMat$CityReader", "readInRow", "(IIII)I"⟩ ⟨"SlotMat$CityReader", "readInRow", "(IIII)I"⟩ ∈ am_WT := am_wt (List.mem_append_left _ (List.mem_of_getElem? (i := 12) (by decide +kernel))) rfl
theorem s_13 : Cond.selects "SlotMat$CityReader" ⟨"SlotMat$CityReader", "readWet", "(LSlotMat$City;)V"⟩ ⟨"SlotMat$CityReader", "readWet", "(LSlotMat$City;)V"⟩ ∈ am_WT := am_wt (List.mem_append_left _ (List.mem_of_getElem? (i := 13) (by decide +kernel))) rfl
theorem s_14 : Cond.selects "SlotMat$RuleReader" ⟨"SlotMat$RuleReader", "beginExpression", "()V"⟩ ⟨"SlotMat$RuleReader", "beginExpression", "()V"⟩ ∈ am_WT := am_wt (List.mem_append_left _ (List.mem_of_getElem? (i := 14) (by decide +kernel))) rfl
theorem s_15 : Cond.selects "SlotMat$RuleReader" ⟨"SlotMat$RuleReader", "isEnd", "(LSlotMat$Tokens;)Z"⟩ ⟨"SlotMat$RuleReader", "isEnd", "(LSlotMat$Tokens;)Z"⟩ ∈ am_WT := am_wt (List.mem_append_left _ (List.mem_of_getElem? (i := 15) (by decide +kernel))) rfl
theorem s_16 : Cond.selects "SlotMat$RuleReader" ⟨"SlotMat$RuleReader", "readPart", "(LSlotMat$Tokens;LSlotMat$Rule;Z)V"⟩ ⟨"SlotMat$RuleReader", "readPart", "(LSlotMat$Tokens;LSlotMat$Rule;Z)V"⟩ ∈ am_WT := am_wt (List.mem_append_left _ (List.mem_of_getElem? (i := 16) (by decide +kernel))) rfl
theorem s_17 : Cond.selects "SlotMat$RuleReader" ⟨"SlotMat$RuleReader", "push", "(I)V"⟩ ⟨"SlotMat$RuleReader", "push", "(I)V"⟩ ∈ am_WT := am_wt (List.mem_append_left _ (List.mem_of_getElem? (i := 17) (by decide +kernel))) rfl
theorem s_18 : Cond.selects "SlotMat$RuleReader" ⟨"SlotMat$RuleReader", "readNot", "(LSlotMat$Tokens;)V"⟩ ⟨"SlotMat$RuleReader", "readNot", "(LSlotMat$Tokens;)V"⟩ ∈ am_WT := am_wt (List.mem_append_left _ (List.mem_of_getElem? (i := 18) (by decide +kernel))) rfl
theorem s_19 : Cond.selects "SlotMat$RuleReader" ⟨"SlotMat$RuleReader", "putValue", "(LSlotMat$Tokens;LSlotMat$Rule;I)V"⟩ ⟨"SlotMat$RuleReader", "putValue", "(LSlotMat$Tokens;LSlotMat$Rule;I)V"⟩ ∈ am_WT := am_wt (List.mem_append_left _ (List.mem_of_getElem? (i := 19) (by decide +kernel))) rfl
theorem s_20 : Cond.selects "SlotMat$RuleReader" ⟨"SlotMat$RuleReader", "readBehindPart", "(LSlotMat$Tokens;LSlotMat$Rule;)V"⟩ ⟨"SlotMat$RuleReader", "readBehindPart", "(LSlotMat$Tokens;LSlotMat$Rule;)V"⟩ ∈ am_WT := am_wt (List.mem_append_left _ (List.mem_of_getElem? (i := 20) (by decide +kernel))) rfl
theorem s_21 : Cond.selects "SlotMat$RuleReader" ⟨"SlotMat$RuleReader", "release", "(LSlotMat$Rule;I)V"⟩ ⟨"SlotMat$RuleReader", "release", "(LSlotMat$Rule;I)V"⟩ ∈ am_WT := am_wt (List.mem_append_left _ (List.mem_of_getElem? (i := 21) (by decide +kernel))) rfl
theorem s_22 : Cond.selects "SlotMat$RuleReader" ⟨"SlotMat$RuleReader", "pop", "()V"⟩ ⟨"SlotMat$RuleReader", "pop", "()V"⟩ ∈ am_WT := am_wt (List.mem_append_left _ (List.mem_of_getElem? (i := 22) (by decide +kernel))) rfl
theorem s_23 : Cond.selects "SlotMat$RuleReader" ⟨"SlotMat$RuleReader", "readTest", "(LSlotMat$Tokens;LSlotMat$Rule;I)V"⟩ ⟨"SlotMat$RuleReader", "readTest", "(LSlotMat$Tokens;LSlotMat$Rule;I)V"⟩ ∈ am_WT := am_wt (List.mem_append_left _ (List.mem_of_getElem? (i := 23) (by decide +kernel))) rfl
theorem s_24 : Cond.selects "SlotMat$RuleReader" ⟨"SlotMat$RuleReader", "letWait", "(I)V"⟩ ⟨"SlotMat$RuleReader", "letWait", "(I)V"⟩ ∈ am_WT := am_wt (List.mem_append_left _ (List.mem_of_getElem? (i := 24) (by decide +kernel))) rfl
theorem s_25 : Cond.selects "SlotMat$City" ⟨"SlotMat$City", "nearestTo", "(I)I"⟩ ⟨"SlotMat$City", "nearestTo", "(I)I"⟩ ∈ am_WT := am_wt (List.mem_append_left _ (List.mem_of_getElem? (i := 25) (by decide +kernel))) rfl
theorem s_26 : Cond.selects "SlotMat" ⟨"SlotMat", "needBox", "(I)V"⟩ ⟨"SlotMat", "needBox", "(I)V"⟩ ∈ am_WT := am_wt (List.mem_append_left _ (List.mem_of_getElem? (i := 26) (by decide +kernel))) rfl
theorem s_27 : Cond.selects "SlotMat" ⟨"SlotMat", "needPerson", "(I)V"⟩ ⟨"SlotMat", "needPerson", "(I)V"⟩ ∈ am_WT := am_wt (List.mem_append_left _ (List.mem_of_getElem? (i := 27) (by decide +kernel))) rfl
theorem s_28 : Cond.selects "SlotMat" ⟨"SlotMat", "lookAhead", "(I)I"⟩ ⟨"SlotMat", "lookAhead", "(I)I"⟩ ∈ am_WT := am_wt (List.mem_append_left _ (List.mem_of_getElem? (i := 28) (by decide +kernel))) rfl
theorem s_29 : Cond.selects "SlotMat$City" ⟨"SlotMat$City", "coversAll", "(II)Z"⟩ ⟨"SlotMat$City", "coversAll", "(II)Z"⟩ ∈ am_WT := am_wt (List.mem_append_left _ (List.mem_of_getElem? (i := 29) (by decide +kernel))) rfl
theorem s_30 : Cond.selects "SlotMat$City" ⟨"SlotMat$City", "covers", "(III)Z"⟩ ⟨"SlotMat$City", "covers", "(III)Z"⟩ ∈ am_WT := am_wt (List.mem_append_left _ (List.mem_of_getElem? (i := 30) (by decide +kernel))) rfl
theorem s_31 : Cond.selects "SlotMat$OrderSearch" ⟨"SlotMat$OrderSearch", "tryRows", "(LSlotMat$City;II)V"⟩ ⟨"SlotMat$OrderSearch", "tryRows", "(LSlotMat$City;II)V"⟩ ∈ am_WT := am_wt (List.mem_append_left _ (List.mem_of_getElem? (i := 31) (by decide +kernel))) rfl
theorem s_32 : Cond.selects "SlotMat$OrderSearch" ⟨"SlotMat$OrderSearch", "weighRow", "(I)V"⟩ ⟨"SlotMat$OrderSearch", "weighRow", "(I)V"⟩ ∈ am_WT := am_wt (List.mem_append_left _ (List.mem_of_getElem? (i := 32) (by decide +kernel))) rfl
theorem s_33 : Cond.selects "SlotMat" ⟨"SlotMat", "futureAgrees", "()Z"⟩ ⟨"SlotMat", "futureAgrees", "()Z"⟩ ∈ am_WT := am_wt (List.mem_append_left _ (List.mem_of_getElem? (i := 33) (by decide +kernel))) rfl
theorem s_34 : Cond.selects "SlotMat" ⟨"SlotMat", "turnFuture", "(II)Z"⟩ ⟨"SlotMat", "turnFuture", "(II)Z"⟩ ∈ am_WT := am_wt (List.mem_append_left _ (List.mem_of_getElem? (i := 34) (by decide +kernel))) rfl
theorem s_35 : Cond.selects "SlotMat" ⟨"SlotMat", "gatherHeardByThoughts", "()I"⟩ ⟨"SlotMat", "gatherHeardByThoughts", "()I"⟩ ∈ am_WT := am_wt (List.mem_append_left _ (List.mem_of_getElem? (i := 35) (by decide +kernel))) rfl
theorem s_36 : Cond.selects "SlotMat" ⟨"SlotMat", "lookAheadTurned", "(III)V"⟩ ⟨"SlotMat", "lookAheadTurned", "(III)V"⟩ ∈ am_WT := am_wt (List.mem_append_left _ (List.mem_of_getElem? (i := 36) (by decide +kernel))) rfl
theorem s_37 : Cond.selects "SlotMat" ⟨"SlotMat", "countUnlike", "(II)I"⟩ ⟨"SlotMat", "countUnlike", "(II)I"⟩ ∈ am_WT := am_wt (List.mem_append_left _ (List.mem_of_getElem? (i := 37) (by decide +kernel))) rfl
theorem s_38 : Cond.selects "SlotMat" ⟨"SlotMat", "isNewSum", "(II)Z"⟩ ⟨"SlotMat", "isNewSum", "(II)Z"⟩ ∈ am_WT := am_wt (List.mem_append_left _ (List.mem_of_getElem? (i := 38) (by decide +kernel))) rfl
theorem s_39 : Cond.selects "SlotMat" ⟨"SlotMat", "heardByNights", "(III)I"⟩ ⟨"SlotMat", "heardByNights", "(III)I"⟩ ∈ am_WT := am_wt (List.mem_append_left _ (List.mem_of_getElem? (i := 39) (by decide +kernel))) rfl
theorem s_40 : Cond.selects "SlotMat" ⟨"SlotMat", "weighCouple", "(III)V"⟩ ⟨"SlotMat", "weighCouple", "(III)V"⟩ ∈ am_WT := am_wt (List.mem_append_left _ (List.mem_of_getElem? (i := 40) (by decide +kernel))) rfl
theorem s_41 : Cond.selects "SlotMat" ⟨"SlotMat", "gainOf", "(II)I"⟩ ⟨"SlotMat", "gainOf", "(II)I"⟩ ∈ am_WT := am_wt (List.mem_append_left _ (List.mem_of_getElem? (i := 41) (by decide +kernel))) rfl
theorem s_42 : Cond.selects "SlotMat" ⟨"SlotMat", "coupleRests", "(I)Z"⟩ ⟨"SlotMat", "coupleRests", "(I)Z"⟩ ∈ am_WT := am_wt (List.mem_append_left _ (List.mem_of_getElem? (i := 42) (by decide +kernel))) rfl
theorem s_43 : Cond.selects "SlotMat" ⟨"SlotMat", "draw", "(I)I"⟩ ⟨"SlotMat", "draw", "(I)I"⟩ ∈ am_WT := am_wt (List.mem_append_left _ (List.mem_of_getElem? (i := 43) (by decide +kernel))) rfl
theorem s_44 : Cond.selects "SlotMat" ⟨"SlotMat", "drawAct", "()V"⟩ ⟨"SlotMat", "drawAct", "()V"⟩ ∈ am_WT := am_wt (List.mem_append_left _ (List.mem_of_getElem? (i := 44) (by decide +kernel))) rfl
theorem s_45 : Cond.selects "SlotMatModel" ⟨"SlotMatModel", "lays", "(I)V"⟩ ⟨"SlotMatModel", "lays", "(I)V"⟩ ∈ am_WT := am_wt (List.mem_append_left _ (List.mem_of_getElem? (i := 45) (by decide +kernel))) rfl
theorem s_46 : Cond.selects "SlotMatModel" ⟨"SlotMatModel", "right", "(ZI)Z"⟩ ⟨"SlotMatModel", "right", "(ZI)Z"⟩ ∈ am_WT := am_wt (List.mem_append_left _ (List.mem_of_getElem? (i := 46) (by decide +kernel))) rfl
theorem s_47 : Cond.selects "SlotMatModel" ⟨"SlotMatModel", "goes", "()V"⟩ ⟨"SlotMatModel", "goes", "()V"⟩ ∈ am_WT := am_wt (List.mem_append_left _ (List.mem_of_getElem? (i := 47) (by decide +kernel))) rfl
theorem s_48 : Cond.selects "SlotMatModel" ⟨"SlotMatModel", "byteAt", "(I)I"⟩ ⟨"SlotMatModel", "byteAt", "(I)I"⟩ ∈ am_WT := am_wt (List.mem_append_left _ (List.mem_of_getElem? (i := 48) (by decide +kernel))) rfl
theorem s_49 : Cond.selects "SlotMatModel" ⟨"SlotMatModel", "isGood", "()Z"⟩ ⟨"SlotMatModel", "isGood", "()Z"⟩ ∈ am_WT := am_wt (List.mem_append_left _ (List.mem_of_getElem? (i := 49) (by decide +kernel))) rfl
theorem s_50 : Cond.selects "SlotMatModel" ⟨"SlotMatModel", "line", "()V"⟩ ⟨"SlotMatModel", "line", "()V"⟩ ∈ am_WT := am_wt (List.mem_append_left _ (List.mem_of_getElem? (i := 50) (by decide +kernel))) rfl
theorem s_51 : Cond.selects "SlotMatModel" ⟨"SlotMatModel", "knownWord", "()I"⟩ ⟨"SlotMatModel", "knownWord", "()I"⟩ ∈ am_WT := am_wt (List.mem_append_left _ (List.mem_of_getElem? (i := 51) (by decide +kernel))) rfl
theorem s_52 : Cond.selects "SlotMatModel" ⟨"SlotMatModel", "begins", "(ZZ)Z"⟩ ⟨"SlotMatModel", "begins", "(ZZ)Z"⟩ ∈ am_WT := am_wt (List.mem_append_left _ (List.mem_of_getElem? (i := 52) (by decide +kernel))) rfl
theorem s_53 : Cond.selects "SlotMatModel" ⟨"SlotMatModel", "wrong", "(I)V"⟩ ⟨"SlotMatModel", "wrong", "(I)V"⟩ ∈ am_WT := am_wt (List.mem_append_left _ (List.mem_of_getElem? (i := 53) (by decide +kernel))) rfl
theorem s_54 : Cond.selects "SlotMatModel" ⟨"SlotMatModel", "readsBox", "()V"⟩ ⟨"SlotMatModel", "readsBox", "()V"⟩ ∈ am_WT := am_wt (List.mem_append_left _ (List.mem_of_getElem? (i := 54) (by decide +kernel))) rfl
theorem s_55 : Cond.selects "SlotMatModel" ⟨"SlotMatModel", "number", "(II)I"⟩ ⟨"SlotMatModel", "number", "(II)I"⟩ ∈ am_WT := am_wt (List.mem_append_left _ (List.mem_of_getElem? (i := 55) (by decide +kernel))) rfl
theorem s_56 : Cond.selects "SlotMatModel" ⟨"SlotMatModel", "readsPerson", "()V"⟩ ⟨"SlotMatModel", "readsPerson", "()V"⟩ ∈ am_WT := am_wt (List.mem_append_left _ (List.mem_of_getElem? (i := 56) (by decide +kernel))) rfl
theorem s_57 : Cond.selects "SlotMatModel" ⟨"SlotMatModel", "readsRound", "()V"⟩ ⟨"SlotMatModel", "readsRound", "()V"⟩ ∈ am_WT := am_wt (List.mem_append_left _ (List.mem_of_getElem? (i := 57) (by decide +kernel))) rfl
theorem s_58 : Cond.selects "SlotMatModel" ⟨"SlotMatModel", "readsWet", "()V"⟩ ⟨"SlotMatModel", "readsWet", "()V"⟩ ∈ am_WT := am_wt (List.mem_append_left _ (List.mem_of_getElem? (i := 58) (by decide +kernel))) rfl
theorem s_59 : Cond.selects "SlotMatModel" ⟨"SlotMatModel", "expression", "(II)V"⟩ ⟨"SlotMatModel", "expression", "(II)V"⟩ ∈ am_WT := am_wt (List.mem_append_left _ (List.mem_of_getElem? (i := 59) (by decide +kernel))) rfl
theorem s_60 : Cond.selects "SlotMatModel" ⟨"SlotMatModel", "deeper", "()V"⟩ ⟨"SlotMatModel", "deeper", "()V"⟩ ∈ am_WT := am_wt (List.mem_append_left _ (List.mem_of_getElem? (i := 60) (by decide +kernel))) rfl
theorem s_61 : Cond.selects "SlotMatModel" ⟨"SlotMatModel", "isSign", "(I)Z"⟩ ⟨"SlotMatModel", "isSign", "(I)Z"⟩ ∈ am_WT := am_wt (List.mem_append_left _ (List.mem_of_getElem? (i := 61) (by decide +kernel))) rfl
theorem s_62 : Cond.selects "SlotMatModel" ⟨"SlotMatModel", "operand", "(Z)V"⟩ ⟨"SlotMatModel", "operand", "(Z)V"⟩ ∈ am_WT := am_wt (List.mem_append_left _ (List.mem_of_getElem? (i := 62) (by decide +kernel))) rfl
theorem s_63 : Cond.selects "SlotMatModel" ⟨"SlotMatModel", "waitsFor", "(I)V"⟩ ⟨"SlotMatModel", "waitsFor", "(I)V"⟩ ∈ am_WT := am_wt (List.mem_append_left _ (List.mem_of_getElem? (i := 63) (by decide +kernel))) rfl
theorem s_64 : Cond.selects "SlotMatModel" ⟨"SlotMatModel", "part", "()V"⟩ ⟨"SlotMatModel", "part", "()V"⟩ ∈ am_WT := am_wt (List.mem_append_left _ (List.mem_of_getElem? (i := 64) (by decide +kernel))) rfl
theorem s_65 : Cond.selects "SlotMatModel" ⟨"SlotMatModel", "puts", "(I)V"⟩ ⟨"SlotMatModel", "puts", "(I)V"⟩ ∈ am_WT := am_wt (List.mem_append_left _ (List.mem_of_getElem? (i := 65) (by decide +kernel))) rfl
theorem s_66 : Cond.selects "SlotMatModel" ⟨"SlotMatModel", "drops", "(I)V"⟩ ⟨"SlotMatModel", "drops", "(I)V"⟩ ∈ am_WT := am_wt (List.mem_append_left _ (List.mem_of_getElem? (i := 66) (by decide +kernel))) rfl
theorem s_67 : Cond.selects "SlotMatModel" ⟨"SlotMatModel", "isOpened", "()Z"⟩ ⟨"SlotMatModel", "isOpened", "()Z"⟩ ∈ am_WT := am_wt (List.mem_append_left _ (List.mem_of_getElem? (i := 67) (by decide +kernel))) rfl
theorem s_68 : Cond.selects "SlotMatModel" ⟨"SlotMatModel", "closes", "()V"⟩ ⟨"SlotMatModel", "closes", "()V"⟩ ∈ am_WT := am_wt (List.mem_append_left _ (List.mem_of_getElem? (i := 68) (by decide +kernel))) rfl
theorem s_69 : Cond.selects "SlotMatModel" ⟨"SlotMatModel", "need", "(Z)V"⟩ ⟨"SlotMatModel", "need", "(Z)V"⟩ ∈ am_WT := am_wt (List.mem_append_left _ (List.mem_of_getElem? (i := 69) (by decide +kernel))) rfl
theorem s_70 : Cond.selects "SlotMatModel" ⟨"SlotMatModel", "copies", "([I[I)V"⟩ ⟨"SlotMatModel", "copies", "([I[I)V"⟩ ∈ am_WT := am_wt (List.mem_append_left _ (List.mem_of_getElem? (i := 70) (by decide +kernel))) rfl
theorem s_71 : Cond.selects "SlotMatModel" ⟨"SlotMatModel", "wetIn", "(I)I"⟩ ⟨"SlotMatModel", "wetIn", "(I)I"⟩ ∈ am_WT := am_wt (List.mem_append_left _ (List.mem_of_getElem? (i := 71) (by decide +kernel))) rfl
theorem s_72 : Cond.selects "SlotMatModel" ⟨"SlotMatModel", "comesOn", "(I)I"⟩ ⟨"SlotMatModel", "comesOn", "(I)I"⟩ ∈ am_WT := am_wt (List.mem_append_left _ (List.mem_of_getElem? (i := 72) (by decide +kernel))) rfl
theorem s_73 : Cond.selects "SlotMatModel" ⟨"SlotMatModel", "heldAll", "(I)I"⟩ ⟨"SlotMatModel", "heldAll", "(I)I"⟩ ∈ am_WT := am_wt (List.mem_append_left _ (List.mem_of_getElem? (i := 73) (by decide +kernel))) rfl
theorem s_74 : Cond.selects "SlotMatModel" ⟨"SlotMatModel", "heldIn", "(II)I"⟩ ⟨"SlotMatModel", "heldIn", "(II)I"⟩ ∈ am_WT := am_wt (List.mem_append_left _ (List.mem_of_getElem? (i := 74) (by decide +kernel))) rfl
theorem s_75 : Cond.selects "SlotMatModel" ⟨"SlotMatModel", "sumOf", "(II)I"⟩ ⟨"SlotMatModel", "sumOf", "(II)I"⟩ ∈ am_WT := am_wt (List.mem_append_left _ (List.mem_of_getElem? (i := 75) (by decide +kernel))) rfl
theorem s_76 : Cond.selects "SlotMatModel" ⟨"SlotMatModel", "mutual", "()I"⟩ ⟨"SlotMatModel", "mutual", "()I"⟩ ∈ am_WT := am_wt (List.mem_append_left _ (List.mem_of_getElem? (i := 76) (by decide +kernel))) rfl
theorem s_77 : Cond.selects "SlotMatModel" ⟨"SlotMatModel", "unthought", "()I"⟩ ⟨"SlotMatModel", "unthought", "()I"⟩ ∈ am_WT := am_wt (List.mem_append_left _ (List.mem_of_getElem? (i := 77) (by decide +kernel))) rfl
theorem s_78 : Cond.selects "SlotMatModel" ⟨"SlotMatModel", "fansOf", "(I)I"⟩ ⟨"SlotMatModel", "fansOf", "(I)I"⟩ ∈ am_WT := am_wt (List.mem_append_left _ (List.mem_of_getElem? (i := 78) (by decide +kernel))) rfl
theorem s_79 : Cond.selects "SlotMatModel" ⟨"SlotMatModel", "isBox", "(I)Z"⟩ ⟨"SlotMatModel", "isBox", "(I)Z"⟩ ∈ am_WT := am_wt (List.mem_append_left _ (List.mem_of_getElem? (i := 79) (by decide +kernel))) rfl
theorem s_80 : Cond.selects "SlotMatModel" ⟨"SlotMatModel", "isWhat", "(II)Z"⟩ ⟨"SlotMatModel", "isWhat", "(II)Z"⟩ ∈ am_WT := am_wt (List.mem_append_left _ (List.mem_of_getElem? (i := 80) (by decide +kernel))) rfl
theorem s_81 : Cond.selects "SlotMatModel" ⟨"SlotMatModel", "nearBy", "(I)I"⟩ ⟨"SlotMatModel", "nearBy", "(I)I"⟩ ∈ am_WT := am_wt (List.mem_append_left _ (List.mem_of_getElem? (i := 81) (by decide +kernel))) rfl
theorem s_82 : Cond.selects "SlotMatModel" ⟨"SlotMatModel", "boxOf", "(I)I"⟩ ⟨"SlotMatModel", "boxOf", "(I)I"⟩ ∈ am_WT := am_wt (List.mem_append_left _ (List.mem_of_getElem? (i := 82) (by decide +kernel))) rfl
theorem s_83 : Cond.selects "SlotMatModel" ⟨"SlotMatModel", "farthest", "(I)I"⟩ ⟨"SlotMatModel", "farthest", "(I)I"⟩ ∈ am_WT := am_wt (List.mem_append_left _ (List.mem_of_getElem? (i := 83) (by decide +kernel))) rfl
theorem s_84 : Cond.selects "SlotMatModel" ⟨"SlotMatModel", "isPerson", "(I)Z"⟩ ⟨"SlotMatModel", "isPerson", "(I)Z"⟩ ∈ am_WT := am_wt (List.mem_append_left _ (List.mem_of_getElem? (i := 84) (by decide +kernel))) rfl
theorem s_85 : Cond.selects "SlotMatModel" ⟨"SlotMatModel", "refuses", "(I)I"⟩ ⟨"SlotMatModel", "refuses", "(I)I"⟩ ∈ am_WT := am_wt (List.mem_append_left _ (List.mem_of_getElem? (i := 85) (by decide +kernel))) rfl
theorem s_86 : Cond.selects "SlotMatModel" ⟨"SlotMatModel", "keeps", "()V"⟩ ⟨"SlotMatModel", "keeps", "()V"⟩ ∈ am_WT := am_wt (List.mem_append_left _ (List.mem_of_getElem? (i := 86) (by decide +kernel))) rfl
theorem s_87 : Cond.selects "SlotMatModel" ⟨"SlotMatModel", "dayGoes", "(I)V"⟩ ⟨"SlotMatModel", "dayGoes", "(I)V"⟩ ∈ am_WT := am_wt (List.mem_append_left _ (List.mem_of_getElem? (i := 87) (by decide +kernel))) rfl
theorem s_88 : Cond.selects "SlotMatModel" ⟨"SlotMatModel", "thinks", "(II)V"⟩ ⟨"SlotMatModel", "thinks", "(II)V"⟩ ∈ am_WT := am_wt (List.mem_append_left _ (List.mem_of_getElem? (i := 88) (by decide +kernel))) rfl
theorem s_89 : Cond.selects "SlotMatModel" ⟨"SlotMatModel", "thinksInto", "(III)I"⟩ ⟨"SlotMatModel", "thinksInto", "(III)I"⟩ ∈ am_WT := am_wt (List.mem_append_left _ (List.mem_of_getElem? (i := 89) (by decide +kernel))) rfl
theorem s_90 : Cond.selects "SlotMatModel" ⟨"SlotMatModel", "reckons", "(I)I"⟩ ⟨"SlotMatModel", "reckons", "(I)I"⟩ ∈ am_WT := am_wt (List.mem_append_left _ (List.mem_of_getElem? (i := 90) (by decide +kernel))) rfl
theorem s_91 : Cond.selects "SlotMatModel" ⟨"SlotMatModel", "fetches", "(II)V"⟩ ⟨"SlotMatModel", "fetches", "(II)V"⟩ ∈ am_WT := am_wt (List.mem_append_left _ (List.mem_of_getElem? (i := 91) (by decide +kernel))) rfl
theorem s_92 : Cond.selects "SlotMatModel" ⟨"SlotMatModel", "soundsBy", "(IIII)I"⟩ ⟨"SlotMatModel", "soundsBy", "(IIII)I"⟩ ∈ am_WT := am_wt (List.mem_append_left _ (List.mem_of_getElem? (i := 92) (by decide +kernel))) rfl
theorem s_93 : Cond.selects "SlotMatModel" ⟨"SlotMatModel", "hears", "(III)V"⟩ ⟨"SlotMatModel", "hears", "(III)V"⟩ ∈ am_WT := am_wt (List.mem_append_left _ (List.mem_of_getElem? (i := 93) (by decide +kernel))) rfl
theorem s_94 : Cond.selects "SlotMatModel" ⟨"SlotMatModel", "writes", "(II)V"⟩ ⟨"SlotMatModel", "writes", "(II)V"⟩ ∈ am_WT := am_wt (List.mem_append_left _ (List.mem_of_getElem? (i := 94) (by decide +kernel))) rfl
theorem s_95 : Cond.selects "SlotMatModel" ⟨"SlotMatModel", "heldOf", "(II)I"⟩ ⟨"SlotMatModel", "heldOf", "(II)I"⟩ ∈ am_WT := am_wt (List.mem_append_left _ (List.mem_of_getElem? (i := 95) (by decide +kernel))) rfl
theorem s_96 : Cond.selects "SlotMatModel" ⟨"SlotMatModel", "isDays", "(III)Z"⟩ ⟨"SlotMatModel", "isDays", "(III)Z"⟩ ∈ am_WT := am_wt (List.mem_append_left _ (List.mem_of_getElem? (i := 96) (by decide +kernel))) rfl
theorem s_97 : Cond.selects "SlotMatModel" ⟨"SlotMatModel", "goesTo", "(I)V"⟩ ⟨"SlotMatModel", "goesTo", "(I)V"⟩ ∈ am_WT := am_wt (List.mem_append_left _ (List.mem_of_getElem? (i := 97) (by decide +kernel))) rfl
theorem s_98 : Cond.selects "SlotMatModel" ⟨"SlotMatModel", "tries", "()V"⟩ ⟨"SlotMatModel", "tries", "()V"⟩ ∈ am_WT := am_wt (List.mem_append_left _ (List.mem_of_getElem? (i := 98) (by decide +kernel))) rfl
theorem s_99 : Cond.selects "SlotMatModel" ⟨"SlotMatModel", "daysGo", "(I)V"⟩ ⟨"SlotMatModel", "daysGo", "(I)V"⟩ ∈ am_WT := am_wt (List.mem_append_left _ (List.mem_of_getElem? (i := 99) (by decide +kernel))) rfl
theorem s_100 : Cond.selects "SlotMatModel" ⟨"SlotMatModel", "fullest", "()I"⟩ ⟨"SlotMatModel", "fullest", "()I"⟩ ∈ am_WT := am_wt (List.mem_append_left _ (List.mem_of_getElem? (i := 100) (by decide +kernel))) rfl
theorem s_101 : Cond.selects "SlotMatModel" ⟨"SlotMatModel", "mostOf", "(I)I"⟩ ⟨"SlotMatModel", "mostOf", "(I)I"⟩ ∈ am_WT := am_wt (List.mem_append_left _ (List.mem_of_getElem? (i := 101) (by decide +kernel))) rfl
theorem s_102 : Cond.selects "SlotMatModel" ⟨"SlotMatModel", "emptyOnes", "()I"⟩ ⟨"SlotMatModel", "emptyOnes", "()I"⟩ ∈ am_WT := am_wt (List.mem_append_left _ (List.mem_of_getElem? (i := 102) (by decide +kernel))) rfl
theorem s_103 : Cond.selects "SlotMatModel" ⟨"SlotMatModel", "goesOnFrom", "(I)I"⟩ ⟨"SlotMatModel", "goesOnFrom", "(I)I"⟩ ∈ am_WT := am_wt (List.mem_append_left _ (List.mem_of_getElem? (i := 103) (by decide +kernel))) rfl
theorem s_104 : Cond.selects "SlotMatModel" ⟨"SlotMatModel", "bestPlace", "(Z)I"⟩ ⟨"SlotMatModel", "bestPlace", "(Z)I"⟩ ∈ am_WT := am_wt (List.mem_append_left _ (List.mem_of_getElem? (i := 104) (by decide +kernel))) rfl
theorem s_105 : Cond.selects "SlotMatModel" ⟨"SlotMatModel", "waysTo", "(IZ)I"⟩ ⟨"SlotMatModel", "waysTo", "(IZ)I"⟩ ∈ am_WT := am_wt (List.mem_append_left _ (List.mem_of_getElem? (i := 105) (by decide +kernel))) rfl
theorem s_106 : Cond.selects "SlotMatModel" ⟨"SlotMatModel", "nextOrder", "()Z"⟩ ⟨"SlotMatModel", "nextOrder", "()Z"⟩ ∈ am_WT := am_wt (List.mem_append_left _ (List.mem_of_getElem? (i := 106) (by decide +kernel))) rfl
theorem s_107 : Cond.selects "SlotMatModel" ⟨"SlotMatModel", "swaps", "(II)V"⟩ ⟨"SlotMatModel", "swaps", "(II)V"⟩ ∈ am_WT := am_wt (List.mem_append_left _ (List.mem_of_getElem? (i := 107) (by decide +kernel))) rfl
theorem s_108 : Cond.selects "SlotMatModel" ⟨"SlotMatModel", "isNoted", "()Z"⟩ ⟨"SlotMatModel", "isNoted", "()Z"⟩ ∈ am_WT := am_wt (List.mem_append_left _ (List.mem_of_getElem? (i := 108) (by decide +kernel))) rfl
theorem s_109 : Cond.selects "SlotMatModel" ⟨"SlotMatModel", "isGuess", "(I)Z"⟩ ⟨"SlotMatModel", "isGuess", "(I)Z"⟩ ∈ am_WT := am_wt (List.mem_append_left _ (List.mem_of_getElem? (i := 109) (by decide +kernel))) rfl
theorem s_110 : Cond.selects "SlotMatModel" ⟨"SlotMatModel", "gains", "(IIII)I"⟩ ⟨"SlotMatModel", "gains", "(IIII)I"⟩ ∈ am_WT := am_wt (List.mem_append_left _ (List.mem_of_getElem? (i := 110) (by decide +kernel))) rfl
theorem s_111 : Cond.selects "SlotMatModel" ⟨"SlotMatModel", "draw", "(I)I"⟩ ⟨"SlotMatModel", "draw", "(I)I"⟩ ∈ am_WT := am_wt (List.mem_append_left _ (List.mem_of_getElem? (i := 111) (by decide +kernel))) rfl
theorem s_112 : Cond.selects "SlotMatModel" ⟨"SlotMatModel", "happens", "()V"⟩ ⟨"SlotMatModel", "happens", "()V"⟩ ∈ am_WT := am_wt (List.mem_append_left _ (List.mem_of_getElem? (i := 112) (by decide +kernel))) rfl
