theorem am_mt {w : Cond} (i : Nat) (h : tables_1[i]? = some w) : w ∈ lw_tbl := List.mem_append_right _ (List.mem_of_getElem? h)
theorem am_wtl (ws : List Cond) (ps : List Nat) (hp : ws = ps.filterMap (fun i => lw_tbl[i]?)) (h : ws.all goodWord = true) : ∀ w ∈ ws, w ∈ am_WT := fun w hw => am_wt ((goodIn_r ws ps hp h) w hw).1 (List.all_eq_true.mp h w hw)
theorem w_0 : (Jvm.Cond.initialized "SlotMatLaw") ∈ am_WT := am_wt (am_mt 0 (by decide +kernel)) rfl
theorem w_1 : (Jvm.Cond.initialized "SlotMat") ∈ am_WT := am_wt (am_mt 1 (by decide +kernel)) rfl
theorem w_2 : (Jvm.Cond.initialized "SlotMat$CityReader") ∈ am_WT := am_wt (am_mt 2 (by decide +kernel)) rfl
theorem w_3 : (Jvm.Cond.initialized "SlotMat$Tokens") ∈ am_WT := am_wt (am_mt 3 (by decide +kernel)) rfl
theorem w_4 : (Jvm.Cond.initialized "SlotMat$RuleReader") ∈ am_WT := am_wt (am_mt 4 (by decide +kernel)) rfl
theorem w_5 : (Jvm.Cond.initialized "SlotMat$City") ∈ am_WT := am_wt (am_mt 5 (by decide +kernel)) rfl
theorem w_6 : (Jvm.Cond.initialized "SlotMat$Rule") ∈ am_WT := am_wt (am_mt 6 (by decide +kernel)) rfl
theorem w_7 : (Jvm.Cond.initialized "SlotMat$State") ∈ am_WT := am_wt (am_mt 7 (by decide +kernel)) rfl
theorem w_8 : (Jvm.Cond.initialized "java/util/Arrays") ∈ am_WT := am_wt (am_mt 8 (by decide +kernel)) rfl
theorem w_9 : (Jvm.Cond.initialized "java/lang/Throwable") ∈ am_WT := am_wt (am_mt 9 (by decide +kernel)) rfl
theorem w_10 : (Jvm.Cond.initialized "java/lang/Exception") ∈ am_WT := am_wt (am_mt 10 (by decide +kernel)) rfl
theorem w_11 : (Jvm.Cond.initialized "java/lang/RuntimeException") ∈ am_WT := am_wt (am_mt 11 (by decide +kernel)) rfl
theorem w_12 : (Jvm.Cond.initialized "java/lang/IllegalArgumentException") ∈ am_WT := am_wt (am_mt 12 (by decide +kernel)) rfl
theorem w_13 : (Jvm.Cond.initialized "java/lang/AbstractStringBuilder") ∈ am_WT := am_wt (am_mt 13 (by decide +kernel)) rfl
theorem w_14 : (Jvm.Cond.initialized "java/lang/StringBuilder") ∈ am_WT := am_wt (am_mt 14 (by decide +kernel)) rfl
theorem w_15 : (Jvm.Cond.initialized "java/lang/String") ∈ am_WT := am_wt (am_mt 15 (by decide +kernel)) rfl
theorem w_16 : (Jvm.Cond.initialized "java/lang/StringUTF16") ∈ am_WT := am_wt (am_mt 16 (by decide +kernel)) rfl
theorem w_17 : (Jvm.Cond.initialized "jdk/internal/util/ArraysSupport") ∈ am_WT := am_wt (am_mt 17 (by decide +kernel)) rfl
theorem w_18 : (Jvm.Cond.initialized "java/lang/Math") ∈ am_WT := am_wt (am_mt 18 (by decide +kernel)) rfl
theorem w_19 : (Jvm.Cond.initialized "java/lang/System") ∈ am_WT := am_wt (am_mt 19 (by decide +kernel)) rfl
theorem w_20 : (Jvm.Cond.initialized "jdk/internal/util/Preconditions") ∈ am_WT := am_wt (am_mt 20 (by decide +kernel)) rfl
theorem w_21 : (Jvm.Cond.initialized "java/lang/StringLatin1") ∈ am_WT := am_wt (am_mt 21 (by decide +kernel)) rfl
theorem w_22 : (Jvm.Cond.initialized "java/lang/Number") ∈ am_WT := am_wt (am_mt 22 (by decide +kernel)) rfl
theorem w_23 : (Jvm.Cond.initialized "java/lang/Integer") ∈ am_WT := am_wt (am_mt 23 (by decide +kernel)) rfl
theorem w_24 : (Jvm.Cond.initialized "SlotMat$Acts") ∈ am_WT := am_wt (am_mt 24 (by decide +kernel)) rfl
theorem w_25 : (Jvm.Cond.initialized "SlotMat$Notes") ∈ am_WT := am_wt (am_mt 25 (by decide +kernel)) rfl
theorem w_26 : (Jvm.Cond.initialized "SlotMat$OrderSearch") ∈ am_WT := am_wt (am_mt 26 (by decide +kernel)) rfl
theorem w_27 : (Jvm.Cond.initialized "SlotMatModel") ∈ am_WT := am_wt (am_mt 27 (by decide +kernel)) rfl
theorem w_28 : (Jvm.Cond.initialized "java/util/NoSuchElementException") ∈ am_WT := am_wt (am_mt 28 (by decide +kernel)) rfl
theorem w_29 : (Jvm.Cond.classLink "SlotMatLaw" (8 : Nat) "SlotMat") ∈ am_WT := am_wt (am_mt 29 (by decide +kernel)) rfl
theorem w_30 : (Jvm.Cond.instantiable "SlotMat" (19 : Nat)) ∈ am_WT := am_wt (am_mt 30 (by decide +kernel)) rfl
theorem w_31 : (Jvm.Cond.methodLink "SlotMatLaw" (110 : Nat) ({ cls := "SlotMat", name := "<init>", desc := "()V" } : Jvm.MethodName)) ∈ am_WT := am_wt (am_mt 31 (by decide +kernel)) rfl
theorem w_32 : (Jvm.Cond.instanceMethod ({ cls := "SlotMat", name := "<init>", desc := "()V" } : Jvm.MethodName)) ∈ am_WT := am_wt (am_mt 32 (by decide +kernel)) rfl
theorem w_33 : (Jvm.Cond.code ({ cls := "SlotMat", name := "<init>", desc := "()V" } : Jvm.MethodName) prog_1_method_1_code (1 : Nat) (Option.none : Option Jvm.ClassFile.FieldType)) ∈ am_WT := am_wt (am_mt 33 (by decide +kernel)) rfl
theorem w_34 : (Jvm.Cond.methodLink "SlotMat" (3 : Nat) ({ cls := "java/lang/Object", name := "<init>", desc := "()V" } : Jvm.MethodName)) ∈ am_WT := am_wt (am_mt 34 (by decide +kernel)) rfl
theorem w_35 : (Jvm.Cond.instanceMethod ({ cls := "java/lang/Object", name := "<init>", desc := "()V" } : Jvm.MethodName)) ∈ am_WT := am_wt (am_mt 35 (by decide +kernel)) rfl
theorem w_36 : (Jvm.Cond.code ({ cls := "java/lang/Object", name := "<init>", desc := "()V" } : Jvm.MethodName) object_method_1_code (1 : Nat) (Option.none : Option Jvm.ClassFile.FieldType)) ∈ am_WT := am_wt (am_mt 36 (by decide +kernel)) rfl
theorem w_37 : (Jvm.Cond.classLink "SlotMat" (17 : Nat) "SlotMat$CityReader") ∈ am_WT := am_wt (am_mt 37 (by decide +kernel)) rfl
theorem w_38 : (Jvm.Cond.instantiable "SlotMat$CityReader" (2 : Nat)) ∈ am_WT := am_wt (am_mt 38 (by decide +kernel)) rfl
theorem n_39 : (Jvm.Cond.methodLinkNest "SlotMat" (19 : Nat) ({ cls := "SlotMat$CityReader", name := "<init>", desc := "()V" } : Jvm.MethodName) "SlotMat") ∈ am_nest := List.mem_filter.mpr ⟨am_mt 39 (by decide +kernel), rfl⟩
theorem w_40 : (Jvm.Cond.instanceMethod ({ cls := "SlotMat$CityReader", name := "<init>", desc := "()V" } : Jvm.MethodName)) ∈ am_WT := am_wt (am_mt 40 (by decide +kernel)) rfl
theorem w_41 : (Jvm.Cond.code ({ cls := "SlotMat$CityReader", name := "<init>", desc := "()V" } : Jvm.MethodName) prog_4_method_1_code (1 : Nat) (Option.none : Option Jvm.ClassFile.FieldType)) ∈ am_WT := am_wt (am_mt 41 (by decide +kernel)) rfl
theorem w_42 : (Jvm.Cond.methodLink "SlotMat$CityReader" (3 : Nat) ({ cls := "java/lang/Object", name := "<init>", desc := "()V" } : Jvm.MethodName)) ∈ am_WT := am_wt (am_mt 42 (by decide +kernel)) rfl
theorem w_43 : (Jvm.Cond.classLink "SlotMat$CityReader" (9 : Nat) "SlotMat$Tokens") ∈ am_WT := am_wt (am_mt 43 (by decide +kernel)) rfl
theorem w_44 : (Jvm.Cond.instantiable "SlotMat$Tokens" (7 : Nat)) ∈ am_WT := am_wt (am_mt 44 (by decide +kernel)) rfl
theorem n_45 : (Jvm.Cond.methodLinkNest "SlotMat$CityReader" (11 : Nat) ({ cls := "SlotMat$Tokens", name := "<init>", desc := "()V" } : Jvm.MethodName) "SlotMat") ∈ am_nest := List.mem_filter.mpr ⟨am_mt 45 (by decide +kernel), rfl⟩
theorem w_46 : (Jvm.Cond.instanceMethod ({ cls := "SlotMat$Tokens", name := "<init>", desc := "()V" } : Jvm.MethodName)) ∈ am_WT := am_wt (am_mt 46 (by decide +kernel)) rfl
theorem w_47 : (Jvm.Cond.code ({ cls := "SlotMat$Tokens", name := "<init>", desc := "()V" } : Jvm.MethodName) prog_10_method_1_code (1 : Nat) (Option.none : Option Jvm.ClassFile.FieldType)) ∈ am_WT := am_wt (am_mt 47 (by decide +kernel)) rfl
theorem w_48 : (Jvm.Cond.methodLink "SlotMat$Tokens" (3 : Nat) ({ cls := "java/lang/Object", name := "<init>", desc := "()V" } : Jvm.MethodName)) ∈ am_WT := am_wt (am_mt 48 (by decide +kernel)) rfl
theorem w_49 : (Jvm.Cond.fieldLink "SlotMat$Tokens" (9 : Nat) "SlotMat$Tokens" "text" "[B") ∈ am_WT := am_wt (am_mt 49 (by decide +kernel)) rfl
theorem w_50 : (Jvm.Cond.fieldLink "SlotMat$Tokens" (15 : Nat) "SlotMat$Tokens" "length" "I") ∈ am_WT := am_wt (am_mt 50 (by decide +kernel)) rfl
theorem w_51 : (Jvm.Cond.fieldLink "SlotMat$Tokens" (19 : Nat) "SlotMat$Tokens" "begin" "I") ∈ am_WT := am_wt (am_mt 51 (by decide +kernel)) rfl
theorem n_52 : (Jvm.Cond.fieldLinkNest "SlotMat$CityReader" (52 : Nat) "SlotMat$Tokens" "begin" "I" "SlotMat") ∈ am_nest := List.mem_filter.mpr ⟨am_mt 52 (by decide +kernel), rfl⟩
theorem w_53 : (Jvm.Cond.fieldLink "SlotMat$Tokens" (22 : Nat) "SlotMat$Tokens" "end" "I") ∈ am_WT := am_wt (am_mt 53 (by decide +kernel)) rfl
theorem w_54 : (Jvm.Cond.fieldLink "SlotMat$Tokens" (25 : Nat) "SlotMat$Tokens" "kind" "I") ∈ am_WT := am_wt (am_mt 54 (by decide +kernel)) rfl
theorem n_55 : (Jvm.Cond.fieldLinkNest "SlotMat$CityReader" (38 : Nat) "SlotMat$Tokens" "kind" "I" "SlotMat") ∈ am_nest := List.mem_filter.mpr ⟨am_mt 55 (by decide +kernel), rfl⟩
theorem n_56 : (Jvm.Cond.fieldLinkNest "SlotMat$RuleReader" (69 : Nat) "SlotMat$Tokens" "kind" "I" "SlotMat") ∈ am_nest := List.mem_filter.mpr ⟨am_mt 56 (by decide +kernel), rfl⟩
theorem w_57 : (Jvm.Cond.fieldLink "SlotMat$Tokens" (28 : Nat) "SlotMat$Tokens" "number" "I") ∈ am_WT := am_wt (am_mt 57 (by decide +kernel)) rfl
theorem n_58 : (Jvm.Cond.fieldLinkNest "SlotMat$RuleReader" (72 : Nat) "SlotMat$Tokens" "number" "I" "SlotMat") ∈ am_nest := List.mem_filter.mpr ⟨am_mt 58 (by decide +kernel), rfl⟩
theorem n_59 : (Jvm.Cond.fieldLinkNest "SlotMat$CityReader" (125 : Nat) "SlotMat$Tokens" "number" "I" "SlotMat") ∈ am_nest := List.mem_filter.mpr ⟨am_mt 59 (by decide +kernel), rfl⟩
theorem w_60 : (Jvm.Cond.fieldLink "SlotMat$Tokens" (31 : Nat) "SlotMat$Tokens" "fault" "I") ∈ am_WT := am_wt (am_mt 60 (by decide +kernel)) rfl
theorem n_61 : (Jvm.Cond.fieldLinkNest "SlotMat$CityReader" (49 : Nat) "SlotMat$Tokens" "fault" "I" "SlotMat") ∈ am_nest := List.mem_filter.mpr ⟨am_mt 61 (by decide +kernel), rfl⟩
theorem w_62 : (Jvm.Cond.lays "SlotMat$Tokens" "SlotMat$Tokens" "text" "[B") ∈ am_WT := am_wt (am_mt 62 (by decide +kernel)) rfl
theorem w_63 : (Jvm.Cond.soleField "SlotMat$Tokens" "text") ∈ am_WT := am_wt (am_mt 63 (by decide +kernel)) rfl
theorem w_64 : (Jvm.Cond.lays "SlotMat$Tokens" "SlotMat$Tokens" "length" "I") ∈ am_WT := am_wt (am_mt 64 (by decide +kernel)) rfl
theorem w_65 : (Jvm.Cond.soleField "SlotMat$Tokens" "length") ∈ am_WT := am_wt (am_mt 65 (by decide +kernel)) rfl
theorem w_66 : (Jvm.Cond.lays "SlotMat$Tokens" "SlotMat$Tokens" "begin" "I") ∈ am_WT := am_wt (am_mt 66 (by decide +kernel)) rfl
theorem w_67 : (Jvm.Cond.soleField "SlotMat$Tokens" "begin") ∈ am_WT := am_wt (am_mt 67 (by decide +kernel)) rfl
theorem w_68 : (Jvm.Cond.lays "SlotMat$Tokens" "SlotMat$Tokens" "end" "I") ∈ am_WT := am_wt (am_mt 68 (by decide +kernel)) rfl
theorem w_69 : (Jvm.Cond.soleField "SlotMat$Tokens" "end") ∈ am_WT := am_wt (am_mt 69 (by decide +kernel)) rfl
theorem w_70 : (Jvm.Cond.lays "SlotMat$Tokens" "SlotMat$Tokens" "kind" "I") ∈ am_WT := am_wt (am_mt 70 (by decide +kernel)) rfl
theorem w_71 : (Jvm.Cond.soleField "SlotMat$Tokens" "kind") ∈ am_WT := am_wt (am_mt 71 (by decide +kernel)) rfl
theorem w_72 : (Jvm.Cond.lays "SlotMat$Tokens" "SlotMat$Tokens" "number" "I") ∈ am_WT := am_wt (am_mt 72 (by decide +kernel)) rfl
theorem w_73 : (Jvm.Cond.soleField "SlotMat$Tokens" "number") ∈ am_WT := am_wt (am_mt 73 (by decide +kernel)) rfl
theorem w_74 : (Jvm.Cond.lays "SlotMat$Tokens" "SlotMat$Tokens" "fault" "I") ∈ am_WT := am_wt (am_mt 74 (by decide +kernel)) rfl
theorem w_75 : (Jvm.Cond.soleField "SlotMat$Tokens" "fault") ∈ am_WT := am_wt (am_mt 75 (by decide +kernel)) rfl
theorem w_76 : (Jvm.Cond.superclass "SlotMat$Tokens" "java/lang/Object") ∈ am_WT := am_wt (am_mt 76 (by decide +kernel)) rfl
theorem w_77 : (Jvm.Cond.arrayClass Jvm.ClassFile.FieldType.byte) ∈ am_WT := am_wt (am_mt 77 (by decide +kernel)) rfl
theorem w_78 : (Jvm.Cond.classLink "SlotMat$CityReader" (18 : Nat) "SlotMat$RuleReader") ∈ am_WT := am_wt (am_mt 78 (by decide +kernel)) rfl
theorem w_79 : (Jvm.Cond.instantiable "SlotMat$RuleReader" (6 : Nat)) ∈ am_WT := am_wt (am_mt 79 (by decide +kernel)) rfl
theorem n_80 : (Jvm.Cond.methodLinkNest "SlotMat$CityReader" (20 : Nat) ({ cls := "SlotMat$RuleReader", name := "<init>", desc := "()V" } : Jvm.MethodName) "SlotMat") ∈ am_nest := List.mem_filter.mpr ⟨am_mt 80 (by decide +kernel), rfl⟩
theorem w_81 : (Jvm.Cond.instanceMethod ({ cls := "SlotMat$RuleReader", name := "<init>", desc := "()V" } : Jvm.MethodName)) ∈ am_WT := am_wt (am_mt 81 (by decide +kernel)) rfl
theorem w_82 : (Jvm.Cond.code ({ cls := "SlotMat$RuleReader", name := "<init>", desc := "()V" } : Jvm.MethodName) prog_8_method_1_code (1 : Nat) (Option.none : Option Jvm.ClassFile.FieldType)) ∈ am_WT := am_wt (am_mt 82 (by decide +kernel)) rfl
theorem w_83 : (Jvm.Cond.methodLink "SlotMat$RuleReader" (5 : Nat) ({ cls := "java/lang/Object", name := "<init>", desc := "()V" } : Jvm.MethodName)) ∈ am_WT := am_wt (am_mt 83 (by decide +kernel)) rfl
theorem w_84 : (Jvm.Cond.fieldLink "SlotMat$RuleReader" (11 : Nat) "SlotMat$RuleReader" "waiting" "[I") ∈ am_WT := am_wt (am_mt 84 (by decide +kernel)) rfl
theorem w_85 : (Jvm.Cond.fieldLink "SlotMat$RuleReader" (15 : Nat) "SlotMat$RuleReader" "top" "I") ∈ am_WT := am_wt (am_mt 85 (by decide +kernel)) rfl
theorem w_86 : (Jvm.Cond.fieldLink "SlotMat$RuleReader" (19 : Nat) "SlotMat$RuleReader" "within" "I") ∈ am_WT := am_wt (am_mt 86 (by decide +kernel)) rfl
theorem w_87 : (Jvm.Cond.fieldLink "SlotMat$RuleReader" (22 : Nat) "SlotMat$RuleReader" "nots" "I") ∈ am_WT := am_wt (am_mt 87 (by decide +kernel)) rfl
theorem w_88 : (Jvm.Cond.fieldLink "SlotMat$RuleReader" (25 : Nat) "SlotMat$RuleReader" "wantsPart" "Z") ∈ am_WT := am_wt (am_mt 88 (by decide +kernel)) rfl
theorem w_89 : (Jvm.Cond.fieldLink "SlotMat$RuleReader" (29 : Nat) "SlotMat$RuleReader" "mayNot" "Z") ∈ am_WT := am_wt (am_mt 89 (by decide +kernel)) rfl
theorem w_90 : (Jvm.Cond.laysFinal "SlotMat$RuleReader" "SlotMat$RuleReader" "waiting" "[I") ∈ am_WT := am_wt (am_mt 90 (by decide +kernel)) rfl
theorem w_91 : (Jvm.Cond.soleField "SlotMat$RuleReader" "waiting") ∈ am_WT := am_wt (am_mt 91 (by decide +kernel)) rfl
theorem w_92 : (Jvm.Cond.lays "SlotMat$RuleReader" "SlotMat$RuleReader" "top" "I") ∈ am_WT := am_wt (am_mt 92 (by decide +kernel)) rfl
theorem w_93 : (Jvm.Cond.soleField "SlotMat$RuleReader" "top") ∈ am_WT := am_wt (am_mt 93 (by decide +kernel)) rfl
theorem w_94 : (Jvm.Cond.lays "SlotMat$RuleReader" "SlotMat$RuleReader" "within" "I") ∈ am_WT := am_wt (am_mt 94 (by decide +kernel)) rfl
theorem w_95 : (Jvm.Cond.soleField "SlotMat$RuleReader" "within") ∈ am_WT := am_wt (am_mt 95 (by decide +kernel)) rfl
theorem w_96 : (Jvm.Cond.lays "SlotMat$RuleReader" "SlotMat$RuleReader" "nots" "I") ∈ am_WT := am_wt (am_mt 96 (by decide +kernel)) rfl
theorem w_97 : (Jvm.Cond.soleField "SlotMat$RuleReader" "nots") ∈ am_WT := am_wt (am_mt 97 (by decide +kernel)) rfl
theorem w_98 : (Jvm.Cond.lays "SlotMat$RuleReader" "SlotMat$RuleReader" "wantsPart" "Z") ∈ am_WT := am_wt (am_mt 98 (by decide +kernel)) rfl
theorem w_99 : (Jvm.Cond.soleField "SlotMat$RuleReader" "wantsPart") ∈ am_WT := am_wt (am_mt 99 (by decide +kernel)) rfl
theorem w_100 : (Jvm.Cond.lays "SlotMat$RuleReader" "SlotMat$RuleReader" "mayNot" "Z") ∈ am_WT := am_wt (am_mt 100 (by decide +kernel)) rfl
theorem w_101 : (Jvm.Cond.soleField "SlotMat$RuleReader" "mayNot") ∈ am_WT := am_wt (am_mt 101 (by decide +kernel)) rfl
theorem w_102 : (Jvm.Cond.superclass "SlotMat$RuleReader" "java/lang/Object") ∈ am_WT := am_wt (am_mt 102 (by decide +kernel)) rfl
theorem w_103 : (Jvm.Cond.arrayClass Jvm.ClassFile.FieldType.int) ∈ am_WT := am_wt (am_mt 103 (by decide +kernel)) rfl
theorem w_104 : (Jvm.Cond.fieldLink "SlotMat$CityReader" (12 : Nat) "SlotMat$CityReader" "tokens" "LSlotMat$Tokens;") ∈ am_WT := am_wt (am_mt 104 (by decide +kernel)) rfl
theorem w_105 : (Jvm.Cond.fieldLink "SlotMat$CityReader" (21 : Nat) "SlotMat$CityReader" "rules" "LSlotMat$RuleReader;") ∈ am_WT := am_wt (am_mt 105 (by decide +kernel)) rfl
theorem w_106 : (Jvm.Cond.laysFinal "SlotMat$CityReader" "SlotMat$CityReader" "tokens" "LSlotMat$Tokens;") ∈ am_WT := am_wt (am_mt 106 (by decide +kernel)) rfl
theorem w_107 : (Jvm.Cond.soleField "SlotMat$CityReader" "tokens") ∈ am_WT := am_wt (am_mt 107 (by decide +kernel)) rfl
theorem w_108 : (Jvm.Cond.laysFinal "SlotMat$CityReader" "SlotMat$CityReader" "rules" "LSlotMat$RuleReader;") ∈ am_WT := am_wt (am_mt 108 (by decide +kernel)) rfl
theorem w_109 : (Jvm.Cond.soleField "SlotMat$CityReader" "rules") ∈ am_WT := am_wt (am_mt 109 (by decide +kernel)) rfl
theorem w_110 : (Jvm.Cond.superclass "SlotMat$CityReader" "java/lang/Object") ∈ am_WT := am_wt (am_mt 110 (by decide +kernel)) rfl
theorem w_111 : (Jvm.Cond.classLink "SlotMat" (31 : Nat) "SlotMat$City") ∈ am_WT := am_wt (am_mt 111 (by decide +kernel)) rfl
theorem w_112 : (Jvm.Cond.instantiable "SlotMat$City" (15 : Nat)) ∈ am_WT := am_wt (am_mt 112 (by decide +kernel)) rfl
theorem n_113 : (Jvm.Cond.methodLinkNest "SlotMat" (33 : Nat) ({ cls := "SlotMat$City", name := "<init>", desc := "()V" } : Jvm.MethodName) "SlotMat") ∈ am_nest := List.mem_filter.mpr ⟨am_mt 113 (by decide +kernel), rfl⟩
theorem w_114 : (Jvm.Cond.instanceMethod ({ cls := "SlotMat$City", name := "<init>", desc := "()V" } : Jvm.MethodName)) ∈ am_WT := am_wt (am_mt 114 (by decide +kernel)) rfl
theorem w_115 : (Jvm.Cond.code ({ cls := "SlotMat$City", name := "<init>", desc := "()V" } : Jvm.MethodName) prog_3_method_1_code (1 : Nat) (Option.none : Option Jvm.ClassFile.FieldType)) ∈ am_WT := am_wt (am_mt 115 (by decide +kernel)) rfl
theorem w_116 : (Jvm.Cond.methodLink "SlotMat$City" (3 : Nat) ({ cls := "java/lang/Object", name := "<init>", desc := "()V" } : Jvm.MethodName)) ∈ am_WT := am_wt (am_mt 116 (by decide +kernel)) rfl
theorem w_117 : (Jvm.Cond.classLink "SlotMat$City" (49 : Nat) "SlotMat$Rule") ∈ am_WT := am_wt (am_mt 117 (by decide +kernel)) rfl
theorem w_118 : (Jvm.Cond.instantiable "SlotMat$Rule" (3 : Nat)) ∈ am_WT := am_wt (am_mt 118 (by decide +kernel)) rfl
theorem n_119 : (Jvm.Cond.methodLinkNest "SlotMat$City" (51 : Nat) ({ cls := "SlotMat$Rule", name := "<init>", desc := "()V" } : Jvm.MethodName) "SlotMat") ∈ am_nest := List.mem_filter.mpr ⟨am_mt 119 (by decide +kernel), rfl⟩
theorem w_120 : (Jvm.Cond.instanceMethod ({ cls := "SlotMat$Rule", name := "<init>", desc := "()V" } : Jvm.MethodName)) ∈ am_WT := am_wt (am_mt 120 (by decide +kernel)) rfl
theorem w_121 : (Jvm.Cond.code ({ cls := "SlotMat$Rule", name := "<init>", desc := "()V" } : Jvm.MethodName) prog_7_method_1_code (1 : Nat) (Option.none : Option Jvm.ClassFile.FieldType)) ∈ am_WT := am_wt (am_mt 121 (by decide +kernel)) rfl
theorem w_122 : (Jvm.Cond.methodLink "SlotMat$Rule" (3 : Nat) ({ cls := "java/lang/Object", name := "<init>", desc := "()V" } : Jvm.MethodName)) ∈ am_WT := am_wt (am_mt 122 (by decide +kernel)) rfl
theorem w_123 : (Jvm.Cond.fieldLink "SlotMat$Rule" (9 : Nat) "SlotMat$Rule" "steps" "[I") ∈ am_WT := am_wt (am_mt 123 (by decide +kernel)) rfl
theorem w_124 : (Jvm.Cond.fieldLink "SlotMat$Rule" (15 : Nat) "SlotMat$Rule" "length" "I") ∈ am_WT := am_wt (am_mt 124 (by decide +kernel)) rfl
theorem w_125 : (Jvm.Cond.fieldLink "SlotMat$Rule" (19 : Nat) "SlotMat$Rule" "stack" "[I") ∈ am_WT := am_wt (am_mt 125 (by decide +kernel)) rfl
theorem w_126 : (Jvm.Cond.laysFinal "SlotMat$Rule" "SlotMat$Rule" "steps" "[I") ∈ am_WT := am_wt (am_mt 126 (by decide +kernel)) rfl
theorem w_127 : (Jvm.Cond.soleField "SlotMat$Rule" "steps") ∈ am_WT := am_wt (am_mt 127 (by decide +kernel)) rfl
theorem w_128 : (Jvm.Cond.lays "SlotMat$Rule" "SlotMat$Rule" "length" "I") ∈ am_WT := am_wt (am_mt 128 (by decide +kernel)) rfl
theorem w_129 : (Jvm.Cond.soleField "SlotMat$Rule" "length") ∈ am_WT := am_wt (am_mt 129 (by decide +kernel)) rfl
theorem w_130 : (Jvm.Cond.laysFinal "SlotMat$Rule" "SlotMat$Rule" "stack" "[I") ∈ am_WT := am_wt (am_mt 130 (by decide +kernel)) rfl
theorem w_131 : (Jvm.Cond.soleField "SlotMat$Rule" "stack") ∈ am_WT := am_wt (am_mt 131 (by decide +kernel)) rfl
theorem w_132 : (Jvm.Cond.superclass "SlotMat$Rule" "java/lang/Object") ∈ am_WT := am_wt (am_mt 132 (by decide +kernel)) rfl
theorem w_133 : (Jvm.Cond.fieldLink "SlotMat$City" (9 : Nat) "SlotMat$City" "boxes" "I") ∈ am_WT := am_wt (am_mt 133 (by decide +kernel)) rfl
theorem n_134 : (Jvm.Cond.fieldLinkNest "SlotMat$CityReader" (99 : Nat) "SlotMat$City" "boxes" "I" "SlotMat") ∈ am_nest := List.mem_filter.mpr ⟨am_mt 134 (by decide +kernel), rfl⟩
theorem n_135 : (Jvm.Cond.fieldLinkNest "SlotMat$OrderSearch" (49 : Nat) "SlotMat$City" "boxes" "I" "SlotMat") ∈ am_nest := List.mem_filter.mpr ⟨am_mt 135 (by decide +kernel), rfl⟩
theorem n_136 : (Jvm.Cond.fieldLinkNest "SlotMat" (122 : Nat) "SlotMat$City" "boxes" "I" "SlotMat") ∈ am_nest := List.mem_filter.mpr ⟨am_mt 136 (by decide +kernel), rfl⟩
theorem w_137 : (Jvm.Cond.fieldLink "SlotMat$City" (15 : Nat) "SlotMat$City" "boxPlace" "[I") ∈ am_WT := am_wt (am_mt 137 (by decide +kernel)) rfl
theorem n_138 : (Jvm.Cond.fieldLinkNest "SlotMat" (167 : Nat) "SlotMat$City" "boxPlace" "[I" "SlotMat") ∈ am_nest := List.mem_filter.mpr ⟨am_mt 138 (by decide +kernel), rfl⟩
theorem w_139 : (Jvm.Cond.fieldLink "SlotMat$City" (19 : Nat) "SlotMat$City" "boxRed" "[I") ∈ am_WT := am_wt (am_mt 139 (by decide +kernel)) rfl
theorem n_140 : (Jvm.Cond.fieldLinkNest "SlotMat$State" (24 : Nat) "SlotMat$City" "boxRed" "[I" "SlotMat") ∈ am_nest := List.mem_filter.mpr ⟨am_mt 140 (by decide +kernel), rfl⟩
theorem w_141 : (Jvm.Cond.fieldLink "SlotMat$City" (22 : Nat) "SlotMat$City" "people" "I") ∈ am_WT := am_wt (am_mt 141 (by decide +kernel)) rfl
theorem n_142 : (Jvm.Cond.fieldLinkNest "SlotMat$CityReader" (113 : Nat) "SlotMat$City" "people" "I" "SlotMat") ∈ am_nest := List.mem_filter.mpr ⟨am_mt 142 (by decide +kernel), rfl⟩
theorem n_143 : (Jvm.Cond.fieldLinkNest "SlotMat" (125 : Nat) "SlotMat$City" "people" "I" "SlotMat") ∈ am_nest := List.mem_filter.mpr ⟨am_mt 143 (by decide +kernel), rfl⟩
theorem w_144 : (Jvm.Cond.fieldLink "SlotMat$City" (25 : Nat) "SlotMat$City" "place" "[I") ∈ am_WT := am_wt (am_mt 144 (by decide +kernel)) rfl
theorem n_145 : (Jvm.Cond.fieldLinkNest "SlotMat" (185 : Nat) "SlotMat$City" "place" "[I" "SlotMat") ∈ am_nest := List.mem_filter.mpr ⟨am_mt 145 (by decide +kernel), rfl⟩
theorem w_146 : (Jvm.Cond.fieldLink "SlotMat$City" (28 : Nat) "SlotMat$City" "pensive" "[I") ∈ am_WT := am_wt (am_mt 146 (by decide +kernel)) rfl
theorem n_147 : (Jvm.Cond.fieldLinkNest "SlotMat" (188 : Nat) "SlotMat$City" "pensive" "[I" "SlotMat") ∈ am_nest := List.mem_filter.mpr ⟨am_mt 147 (by decide +kernel), rfl⟩
theorem w_148 : (Jvm.Cond.fieldLink "SlotMat$City" (31 : Nat) "SlotMat$City" "at" "[I") ∈ am_WT := am_wt (am_mt 148 (by decide +kernel)) rfl
theorem n_149 : (Jvm.Cond.fieldLinkNest "SlotMat$State" (35 : Nat) "SlotMat$City" "at" "[I" "SlotMat") ∈ am_nest := List.mem_filter.mpr ⟨am_mt 149 (by decide +kernel), rfl⟩
theorem w_150 : (Jvm.Cond.fieldLink "SlotMat$City" (34 : Nat) "SlotMat$City" "nearest" "[I") ∈ am_WT := am_wt (am_mt 150 (by decide +kernel)) rfl
theorem n_151 : (Jvm.Cond.fieldLinkNest "SlotMat" (200 : Nat) "SlotMat$City" "nearest" "[I" "SlotMat") ∈ am_nest := List.mem_filter.mpr ⟨am_mt 151 (by decide +kernel), rfl⟩
theorem w_152 : (Jvm.Cond.fieldLink "SlotMat$City" (37 : Nat) "SlotMat$City" "rounds" "I") ∈ am_WT := am_wt (am_mt 152 (by decide +kernel)) rfl
theorem n_153 : (Jvm.Cond.fieldLinkNest "SlotMat$CityReader" (128 : Nat) "SlotMat$City" "rounds" "I" "SlotMat") ∈ am_nest := List.mem_filter.mpr ⟨am_mt 153 (by decide +kernel), rfl⟩
theorem w_154 : (Jvm.Cond.fieldLink "SlotMat$City" (40 : Nat) "SlotMat$City" "round" "[I") ∈ am_WT := am_wt (am_mt 154 (by decide +kernel)) rfl
theorem w_155 : (Jvm.Cond.fieldLink "SlotMat$City" (43 : Nat) "SlotMat$City" "wets" "I") ∈ am_WT := am_wt (am_mt 155 (by decide +kernel)) rfl
theorem n_156 : (Jvm.Cond.fieldLinkNest "SlotMat$CityReader" (142 : Nat) "SlotMat$City" "wets" "I" "SlotMat") ∈ am_nest := List.mem_filter.mpr ⟨am_mt 156 (by decide +kernel), rfl⟩
theorem w_157 : (Jvm.Cond.fieldLink "SlotMat$City" (46 : Nat) "SlotMat$City" "wet" "[I") ∈ am_WT := am_wt (am_mt 157 (by decide +kernel)) rfl
theorem w_158 : (Jvm.Cond.fieldLink "SlotMat$City" (52 : Nat) "SlotMat$City" "thinks" "LSlotMat$Rule;") ∈ am_WT := am_wt (am_mt 158 (by decide +kernel)) rfl
theorem n_159 : (Jvm.Cond.fieldLinkNest "SlotMat$CityReader" (81 : Nat) "SlotMat$City" "thinks" "LSlotMat$Rule;" "SlotMat") ∈ am_nest := List.mem_filter.mpr ⟨am_mt 159 (by decide +kernel), rfl⟩
theorem w_160 : (Jvm.Cond.fieldLink "SlotMat$City" (56 : Nat) "SlotMat$City" "sounds" "LSlotMat$Rule;") ∈ am_WT := am_wt (am_mt 160 (by decide +kernel)) rfl
theorem n_161 : (Jvm.Cond.fieldLinkNest "SlotMat$CityReader" (90 : Nat) "SlotMat$City" "sounds" "LSlotMat$Rule;" "SlotMat") ∈ am_nest := List.mem_filter.mpr ⟨am_mt 161 (by decide +kernel), rfl⟩
theorem w_162 : (Jvm.Cond.fieldLink "SlotMat$City" (59 : Nat) "SlotMat$City" "values" "[I") ∈ am_WT := am_wt (am_mt 162 (by decide +kernel)) rfl
theorem w_163 : (Jvm.Cond.lays "SlotMat$City" "SlotMat$City" "boxes" "I") ∈ am_WT := am_wt (am_mt 163 (by decide +kernel)) rfl
theorem w_164 : (Jvm.Cond.soleField "SlotMat$City" "boxes") ∈ am_WT := am_wt (am_mt 164 (by decide +kernel)) rfl
theorem w_165 : (Jvm.Cond.laysFinal "SlotMat$City" "SlotMat$City" "boxPlace" "[I") ∈ am_WT := am_wt (am_mt 165 (by decide +kernel)) rfl
theorem w_166 : (Jvm.Cond.soleField "SlotMat$City" "boxPlace") ∈ am_WT := am_wt (am_mt 166 (by decide +kernel)) rfl
theorem w_167 : (Jvm.Cond.laysFinal "SlotMat$City" "SlotMat$City" "boxRed" "[I") ∈ am_WT := am_wt (am_mt 167 (by decide +kernel)) rfl
theorem w_168 : (Jvm.Cond.soleField "SlotMat$City" "boxRed") ∈ am_WT := am_wt (am_mt 168 (by decide +kernel)) rfl
theorem w_169 : (Jvm.Cond.lays "SlotMat$City" "SlotMat$City" "people" "I") ∈ am_WT := am_wt (am_mt 169 (by decide +kernel)) rfl
theorem w_170 : (Jvm.Cond.soleField "SlotMat$City" "people") ∈ am_WT := am_wt (am_mt 170 (by decide +kernel)) rfl
theorem w_171 : (Jvm.Cond.laysFinal "SlotMat$City" "SlotMat$City" "place" "[I") ∈ am_WT := am_wt (am_mt 171 (by decide +kernel)) rfl
theorem w_172 : (Jvm.Cond.soleField "SlotMat$City" "place") ∈ am_WT := am_wt (am_mt 172 (by decide +kernel)) rfl
theorem w_173 : (Jvm.Cond.laysFinal "SlotMat$City" "SlotMat$City" "pensive" "[I") ∈ am_WT := am_wt (am_mt 173 (by decide +kernel)) rfl
theorem w_174 : (Jvm.Cond.soleField "SlotMat$City" "pensive") ∈ am_WT := am_wt (am_mt 174 (by decide +kernel)) rfl
theorem w_175 : (Jvm.Cond.laysFinal "SlotMat$City" "SlotMat$City" "at" "[I") ∈ am_WT := am_wt (am_mt 175 (by decide +kernel)) rfl
theorem w_176 : (Jvm.Cond.soleField "SlotMat$City" "at") ∈ am_WT := am_wt (am_mt 176 (by decide +kernel)) rfl
theorem w_177 : (Jvm.Cond.laysFinal "SlotMat$City" "SlotMat$City" "nearest" "[I") ∈ am_WT := am_wt (am_mt 177 (by decide +kernel)) rfl
theorem w_178 : (Jvm.Cond.soleField "SlotMat$City" "nearest") ∈ am_WT := am_wt (am_mt 178 (by decide +kernel)) rfl
theorem w_179 : (Jvm.Cond.lays "SlotMat$City" "SlotMat$City" "rounds" "I") ∈ am_WT := am_wt (am_mt 179 (by decide +kernel)) rfl
theorem w_180 : (Jvm.Cond.soleField "SlotMat$City" "rounds") ∈ am_WT := am_wt (am_mt 180 (by decide +kernel)) rfl
theorem w_181 : (Jvm.Cond.laysFinal "SlotMat$City" "SlotMat$City" "round" "[I") ∈ am_WT := am_wt (am_mt 181 (by decide +kernel)) rfl
theorem w_182 : (Jvm.Cond.soleField "SlotMat$City" "round") ∈ am_WT := am_wt (am_mt 182 (by decide +kernel)) rfl
theorem w_183 : (Jvm.Cond.lays "SlotMat$City" "SlotMat$City" "wets" "I") ∈ am_WT := am_wt (am_mt 183 (by decide +kernel)) rfl
theorem w_184 : (Jvm.Cond.soleField "SlotMat$City" "wets") ∈ am_WT := am_wt (am_mt 184 (by decide +kernel)) rfl
theorem w_185 : (Jvm.Cond.laysFinal "SlotMat$City" "SlotMat$City" "wet" "[I") ∈ am_WT := am_wt (am_mt 185 (by decide +kernel)) rfl
theorem w_186 : (Jvm.Cond.soleField "SlotMat$City" "wet") ∈ am_WT := am_wt (am_mt 186 (by decide +kernel)) rfl
theorem w_187 : (Jvm.Cond.laysFinal "SlotMat$City" "SlotMat$City" "thinks" "LSlotMat$Rule;") ∈ am_WT := am_wt (am_mt 187 (by decide +kernel)) rfl
theorem w_188 : (Jvm.Cond.soleField "SlotMat$City" "thinks") ∈ am_WT := am_wt (am_mt 188 (by decide +kernel)) rfl
theorem w_189 : (Jvm.Cond.laysFinal "SlotMat$City" "SlotMat$City" "sounds" "LSlotMat$Rule;") ∈ am_WT := am_wt (am_mt 189 (by decide +kernel)) rfl
theorem w_190 : (Jvm.Cond.soleField "SlotMat$City" "sounds") ∈ am_WT := am_wt (am_mt 190 (by decide +kernel)) rfl
theorem w_191 : (Jvm.Cond.laysFinal "SlotMat$City" "SlotMat$City" "values" "[I") ∈ am_WT := am_wt (am_mt 191 (by decide +kernel)) rfl
theorem w_192 : (Jvm.Cond.soleField "SlotMat$City" "values") ∈ am_WT := am_wt (am_mt 192 (by decide +kernel)) rfl
theorem w_193 : (Jvm.Cond.superclass "SlotMat$City" "java/lang/Object") ∈ am_WT := am_wt (am_mt 193 (by decide +kernel)) rfl
theorem w_194 : (Jvm.Cond.classLink "SlotMat" (41 : Nat) "SlotMat$State") ∈ am_WT := am_wt (am_mt 194 (by decide +kernel)) rfl
theorem w_195 : (Jvm.Cond.instantiable "SlotMat$State" (1 : Nat)) ∈ am_WT := am_wt (am_mt 195 (by decide +kernel)) rfl
theorem w_196 : (Jvm.Cond.methodLink "SlotMat" (43 : Nat) ({ cls := "SlotMat$State", name := "<init>", desc := "()V" } : Jvm.MethodName)) ∈ am_WT := am_wt (am_mt 196 (by decide +kernel)) rfl
theorem w_197 : (Jvm.Cond.instanceMethod ({ cls := "SlotMat$State", name := "<init>", desc := "()V" } : Jvm.MethodName)) ∈ am_WT := am_wt (am_mt 197 (by decide +kernel)) rfl
theorem w_198 : (Jvm.Cond.code ({ cls := "SlotMat$State", name := "<init>", desc := "()V" } : Jvm.MethodName) prog_9_method_1_code (1 : Nat) (Option.none : Option Jvm.ClassFile.FieldType)) ∈ am_WT := am_wt (am_mt 198 (by decide +kernel)) rfl
theorem w_199 : (Jvm.Cond.methodLink "SlotMat$State" (3 : Nat) ({ cls := "java/lang/Object", name := "<init>", desc := "()V" } : Jvm.MethodName)) ∈ am_WT := am_wt (am_mt 199 (by decide +kernel)) rfl
theorem w_200 : (Jvm.Cond.methodLink "SlotMat$State" (15 : Nat) ({ cls := "java/util/Arrays", name := "fill", desc := "([IIII)V" } : Jvm.MethodName)) ∈ am_WT := am_wt (am_mt 200 (by decide +kernel)) rfl
theorem w_201 : (Jvm.Cond.static ({ cls := "java/util/Arrays", name := "fill", desc := "([IIII)V" } : Jvm.MethodName)) ∈ am_WT := am_wt (am_mt 201 (by decide +kernel)) rfl
theorem w_202 : (Jvm.Cond.code ({ cls := "java/util/Arrays", name := "fill", desc := "([IIII)V" } : Jvm.MethodName) prog_33_method_104_code (5 : Nat) (Option.none : Option Jvm.ClassFile.FieldType)) ∈ am_WT := am_wt (am_mt 202 (by decide +kernel)) rfl
theorem w_203 : (Jvm.Cond.methodLink "java/util/Arrays" (13 : Nat) ({ cls := "java/util/Arrays", name := "rangeCheck", desc := "(III)V" } : Jvm.MethodName)) ∈ am_WT := am_wt (am_mt 203 (by decide +kernel)) rfl
theorem w_204 : (Jvm.Cond.static ({ cls := "java/util/Arrays", name := "rangeCheck", desc := "(III)V" } : Jvm.MethodName)) ∈ am_WT := am_wt (am_mt 204 (by decide +kernel)) rfl
theorem w_205 : (Jvm.Cond.code ({ cls := "java/util/Arrays", name := "rangeCheck", desc := "(III)V" } : Jvm.MethodName) prog_33_method_30_code (3 : Nat) (Option.none : Option Jvm.ClassFile.FieldType)) ∈ am_WT := am_wt (am_mt 205 (by decide +kernel)) rfl
theorem w_206 : (Jvm.Cond.classLink "java/util/Arrays" (43 : Nat) "java/lang/IllegalArgumentException") ∈ am_WT := am_wt (am_mt 206 (by decide +kernel)) rfl
theorem w_207 : (Jvm.Cond.instantiable "java/lang/IllegalArgumentException" (6 : Nat)) ∈ am_WT := am_wt (am_mt 207 (by decide +kernel)) rfl
theorem e_208 : (Jvm.Cond.castable "java/lang/IllegalArgumentException" "java/lang/IllegalArgumentException") ∈ am_ext := List.mem_filter.mpr ⟨am_mt 208 (by decide +kernel), rfl⟩
theorem e_209 : (Jvm.Cond.declares ({ cls := "java/lang/RuntimeException", name := "<init>", desc := "()V" } : Jvm.MethodName)) ∈ am_ext := List.mem_filter.mpr ⟨am_mt 209 (by decide +kernel), rfl⟩
theorem e_210 : (Jvm.Cond.declares ({ cls := "java/lang/RuntimeException", name := "<init>", desc := "(Ljava/lang/String;)V" } : Jvm.MethodName)) ∈ am_ext := List.mem_filter.mpr ⟨am_mt 210 (by decide +kernel), rfl⟩
theorem e_211 : (Jvm.Cond.declares ({ cls := "java/lang/Exception", name := "<init>", desc := "()V" } : Jvm.MethodName)) ∈ am_ext := List.mem_filter.mpr ⟨am_mt 211 (by decide +kernel), rfl⟩
theorem e_212 : (Jvm.Cond.declares ({ cls := "java/lang/Exception", name := "<init>", desc := "(Ljava/lang/String;)V" } : Jvm.MethodName)) ∈ am_ext := List.mem_filter.mpr ⟨am_mt 212 (by decide +kernel), rfl⟩
theorem e_213 : (Jvm.Cond.declares ({ cls := "java/lang/Throwable", name := "<init>", desc := "()V" } : Jvm.MethodName)) ∈ am_ext := List.mem_filter.mpr ⟨am_mt 213 (by decide +kernel), rfl⟩
theorem e_214 : (Jvm.Cond.declares ({ cls := "java/lang/Throwable", name := "<init>", desc := "(Ljava/lang/String;)V" } : Jvm.MethodName)) ∈ am_ext := List.mem_filter.mpr ⟨am_mt 214 (by decide +kernel), rfl⟩
theorem w_215 : (Jvm.Cond.selects "java/lang/IllegalArgumentException" ({ cls := "java/lang/Throwable", name := "fillInStackTrace", desc := "(I)Ljava/lang/Throwable;" } : Jvm.MethodName) ({ cls := "java/lang/Throwable", name := "fillInStackTrace", desc := "(I)Ljava/lang/Throwable;" } : Jvm.MethodName)) ∈ am_WT := am_wt (am_mt 215 (by decide +kernel)) rfl
theorem w_216 : (Jvm.Cond.selects "java/lang/IllegalArgumentException" ({ cls := "java/lang/Throwable", name := "fillInStackTrace", desc := "()Ljava/lang/Throwable;" } : Jvm.MethodName) ({ cls := "java/lang/Throwable", name := "fillInStackTrace", desc := "()Ljava/lang/Throwable;" } : Jvm.MethodName)) ∈ am_WT := am_wt (am_mt 216 (by decide +kernel)) rfl
theorem w_217 : (Jvm.Cond.lays "java/lang/IllegalArgumentException" "java/lang/Throwable" "cause" "Ljava/lang/Throwable;") ∈ am_WT := am_wt (am_mt 217 (by decide +kernel)) rfl
theorem w_218 : (Jvm.Cond.lays "java/lang/Throwable" "java/lang/Throwable" "cause" "Ljava/lang/Throwable;") ∈ am_WT := am_wt (am_mt 218 (by decide +kernel)) rfl
theorem w_219 : (Jvm.Cond.lays "java/lang/IllegalArgumentException" "java/lang/Throwable" "stackTrace" "[Ljava/lang/StackTraceElement;") ∈ am_WT := am_wt (am_mt 219 (by decide +kernel)) rfl
theorem w_220 : (Jvm.Cond.lays "java/lang/Throwable" "java/lang/Throwable" "stackTrace" "[Ljava/lang/StackTraceElement;") ∈ am_WT := am_wt (am_mt 220 (by decide +kernel)) rfl
theorem w_221 : (Jvm.Cond.lays "java/lang/IllegalArgumentException" "java/lang/Throwable" "suppressedExceptions" "Ljava/util/List;") ∈ am_WT := am_wt (am_mt 221 (by decide +kernel)) rfl
theorem w_222 : (Jvm.Cond.lays "java/lang/Throwable" "java/lang/Throwable" "suppressedExceptions" "Ljava/util/List;") ∈ am_WT := am_wt (am_mt 222 (by decide +kernel)) rfl
theorem w_223 : (Jvm.Cond.lays "java/lang/IllegalArgumentException" "java/lang/Throwable" "detailMessage" "Ljava/lang/String;") ∈ am_WT := am_wt (am_mt 223 (by decide +kernel)) rfl
theorem w_224 : (Jvm.Cond.lays "java/lang/Throwable" "java/lang/Throwable" "detailMessage" "Ljava/lang/String;") ∈ am_WT := am_wt (am_mt 224 (by decide +kernel)) rfl
theorem w_225 : (Jvm.Cond.lays "java/lang/IllegalArgumentException" "java/lang/Throwable" "backtrace" "Ljava/lang/Object;") ∈ am_WT := am_wt (am_mt 225 (by decide +kernel)) rfl
theorem w_226 : (Jvm.Cond.lays "java/lang/Throwable" "java/lang/Throwable" "backtrace" "Ljava/lang/Object;") ∈ am_WT := am_wt (am_mt 226 (by decide +kernel)) rfl
theorem w_227 : (Jvm.Cond.fieldLink "java/lang/Throwable" (198 : Nat) "java/lang/Throwable" "backtrace" "Ljava/lang/Object;") ∈ am_WT := am_wt (am_mt 227 (by decide +kernel)) rfl
theorem w_228 : (Jvm.Cond.superclass "java/lang/Throwable" "java/lang/Object") ∈ am_WT := am_wt (am_mt 228 (by decide +kernel)) rfl
theorem w_229 : (Jvm.Cond.instanceMethod ({ cls := "java/lang/Throwable", name := "<init>", desc := "()V" } : Jvm.MethodName)) ∈ am_WT := am_wt (am_mt 229 (by decide +kernel)) rfl
theorem w_230 : (Jvm.Cond.code ({ cls := "java/lang/Throwable", name := "<init>", desc := "()V" } : Jvm.MethodName) prog_30_method_1_code (1 : Nat) (Option.none : Option Jvm.ClassFile.FieldType)) ∈ am_WT := am_wt (am_mt 230 (by decide +kernel)) rfl
theorem w_231 : (Jvm.Cond.methodLink "java/lang/Throwable" (1 : Nat) ({ cls := "java/lang/Object", name := "<init>", desc := "()V" } : Jvm.MethodName)) ∈ am_WT := am_wt (am_mt 231 (by decide +kernel)) rfl
theorem w_232 : (Jvm.Cond.fieldLink "java/lang/Throwable" (13 : Nat) "java/lang/Throwable" "UNASSIGNED_STACK" "[Ljava/lang/StackTraceElement;") ∈ am_WT := am_wt (am_mt 232 (by decide +kernel)) rfl
theorem w_233 : (Jvm.Cond.laysStatic "java/lang/Throwable" "UNASSIGNED_STACK" "[Ljava/lang/StackTraceElement;") ∈ am_WT := am_wt (am_mt 233 (by decide +kernel)) rfl
theorem w_234 : (Jvm.Cond.fieldLink "java/lang/Throwable" (20 : Nat) "java/lang/Throwable" "SUPPRESSED_SENTINEL" "Ljava/util/List;") ∈ am_WT := am_wt (am_mt 234 (by decide +kernel)) rfl
theorem w_235 : (Jvm.Cond.laysStatic "java/lang/Throwable" "SUPPRESSED_SENTINEL" "Ljava/util/List;") ∈ am_WT := am_wt (am_mt 235 (by decide +kernel)) rfl
theorem w_236 : (Jvm.Cond.methodLink "java/lang/Throwable" (27 : Nat) ({ cls := "java/lang/Throwable", name := "fillInStackTrace", desc := "()Ljava/lang/Throwable;" } : Jvm.MethodName)) ∈ am_WT := am_wt (am_mt 236 (by decide +kernel)) rfl
theorem w_237 : (Jvm.Cond.instanceMethod ({ cls := "java/lang/Throwable", name := "fillInStackTrace", desc := "()Ljava/lang/Throwable;" } : Jvm.MethodName)) ∈ am_WT := am_wt (am_mt 237 (by decide +kernel)) rfl
theorem w_238 : (Jvm.Cond.sameMethod "java/lang/Throwable" "java/lang/Throwable" "fillInStackTrace" "()Ljava/lang/Throwable;") ∈ am_WT := am_wt (am_mt 238 (by decide +kernel)) rfl
theorem w_239 : (Jvm.Cond.selects "java/util/NoSuchElementException" ({ cls := "java/lang/Throwable", name := "fillInStackTrace", desc := "()Ljava/lang/Throwable;" } : Jvm.MethodName) ({ cls := "java/lang/Throwable", name := "fillInStackTrace", desc := "()Ljava/lang/Throwable;" } : Jvm.MethodName)) ∈ am_WT := am_wt (am_mt 239 (by decide +kernel)) rfl
theorem w_240 : (Jvm.Cond.codeSync ({ cls := "java/lang/Throwable", name := "fillInStackTrace", desc := "()Ljava/lang/Throwable;" } : Jvm.MethodName) prog_30_method_18_code (1 : Nat) (Option.some (Jvm.ClassFile.FieldType.object "java/lang/Throwable"))) ∈ am_WT := am_wt (am_mt 240 (by decide +kernel)) rfl
theorem w_241 : (Jvm.Cond.methodLink "java/lang/Throwable" (202 : Nat) ({ cls := "java/lang/Throwable", name := "fillInStackTrace", desc := "(I)Ljava/lang/Throwable;" } : Jvm.MethodName)) ∈ am_WT := am_wt (am_mt 241 (by decide +kernel)) rfl
theorem w_243 : (Jvm.Cond.instanceMethod ({ cls := "java/lang/Throwable", name := "fillInStackTrace", desc := "(I)Ljava/lang/Throwable;" } : Jvm.MethodName)) ∈ am_WT := am_wt (am_mt 243 (by decide +kernel)) rfl
theorem w_244 : (Jvm.Cond.instantiable "java/lang/Throwable" (6 : Nat)) ∈ am_WT := am_wt (am_mt 244 (by decide +kernel)) rfl
theorem w_245 : (Jvm.Cond.native ({ cls := "java/lang/Throwable", name := "fillInStackTrace", desc := "(I)Ljava/lang/Throwable;" } : Jvm.MethodName)) ∈ am_WT := am_wt (am_mt 245 (by decide +kernel)) rfl
theorem w_246 : (Jvm.Cond.classLink "java/util/Arrays" (45 : Nat) "java/lang/StringBuilder") ∈ am_WT := am_wt (am_mt 246 (by decide +kernel)) rfl
theorem w_247 : (Jvm.Cond.instantiable "java/lang/StringBuilder" (4 : Nat)) ∈ am_WT := am_wt (am_mt 247 (by decide +kernel)) rfl
theorem w_248 : (Jvm.Cond.methodLink "java/util/Arrays" (47 : Nat) ({ cls := "java/lang/StringBuilder", name := "<init>", desc := "()V" } : Jvm.MethodName)) ∈ am_WT := am_wt (am_mt 248 (by decide +kernel)) rfl
theorem w_249 : (Jvm.Cond.instanceMethod ({ cls := "java/lang/StringBuilder", name := "<init>", desc := "()V" } : Jvm.MethodName)) ∈ am_WT := am_wt (am_mt 249 (by decide +kernel)) rfl
theorem w_250 : (Jvm.Cond.code ({ cls := "java/lang/StringBuilder", name := "<init>", desc := "()V" } : Jvm.MethodName) prog_26_method_1_code (1 : Nat) (Option.none : Option Jvm.ClassFile.FieldType)) ∈ am_WT := am_wt (am_mt 250 (by decide +kernel)) rfl
theorem w_251 : (Jvm.Cond.methodLink "java/lang/StringBuilder" (1 : Nat) ({ cls := "java/lang/AbstractStringBuilder", name := "<init>", desc := "(I)V" } : Jvm.MethodName)) ∈ am_WT := am_wt (am_mt 251 (by decide +kernel)) rfl
theorem w_252 : (Jvm.Cond.instanceMethod ({ cls := "java/lang/AbstractStringBuilder", name := "<init>", desc := "(I)V" } : Jvm.MethodName)) ∈ am_WT := am_wt (am_mt 252 (by decide +kernel)) rfl
theorem w_253 : (Jvm.Cond.code ({ cls := "java/lang/AbstractStringBuilder", name := "<init>", desc := "(I)V" } : Jvm.MethodName) prog_14_method_2_code (2 : Nat) (Option.none : Option Jvm.ClassFile.FieldType)) ∈ am_WT := am_wt (am_mt 253 (by decide +kernel)) rfl
theorem w_254 : (Jvm.Cond.methodLink "java/lang/AbstractStringBuilder" (3 : Nat) ({ cls := "java/lang/Object", name := "<init>", desc := "()V" } : Jvm.MethodName)) ∈ am_WT := am_wt (am_mt 254 (by decide +kernel)) rfl
theorem w_255 : (Jvm.Cond.fieldLink "java/lang/AbstractStringBuilder" (18 : Nat) "java/lang/String" "COMPACT_STRINGS" "Z") ∈ am_WT := am_wt (am_mt 255 (by decide +kernel)) rfl
theorem w_256 : (Jvm.Cond.laysStatic "java/lang/String" "COMPACT_STRINGS" "Z") ∈ am_WT := am_wt (am_mt 256 (by decide +kernel)) rfl
theorem w_257 : (Jvm.Cond.methodLink "java/lang/AbstractStringBuilder" (26 : Nat) ({ cls := "java/lang/StringUTF16", name := "newBytesFor", desc := "(I)[B" } : Jvm.MethodName)) ∈ am_WT := am_wt (am_mt 257 (by decide +kernel)) rfl
theorem w_258 : (Jvm.Cond.static ({ cls := "java/lang/StringUTF16", name := "newBytesFor", desc := "(I)[B" } : Jvm.MethodName)) ∈ am_WT := am_wt (am_mt 258 (by decide +kernel)) rfl
theorem w_259 : (Jvm.Cond.code ({ cls := "java/lang/StringUTF16", name := "newBytesFor", desc := "(I)[B" } : Jvm.MethodName) prog_28_method_2_code (1 : Nat) (Option.some (Jvm.ClassFile.FieldType.array Jvm.ClassFile.FieldType.byte))) ∈ am_WT := am_wt (am_mt 259 (by decide +kernel)) rfl
theorem w_260 : (Jvm.Cond.methodLink "java/lang/StringUTF16" (11 : Nat) ({ cls := "java/lang/StringUTF16", name := "newBytesLength", desc := "(I)I" } : Jvm.MethodName)) ∈ am_WT := am_wt (am_mt 260 (by decide +kernel)) rfl
theorem w_261 : (Jvm.Cond.static ({ cls := "java/lang/StringUTF16", name := "newBytesLength", desc := "(I)I" } : Jvm.MethodName)) ∈ am_WT := am_wt (am_mt 261 (by decide +kernel)) rfl
theorem w_262 : (Jvm.Cond.code ({ cls := "java/lang/StringUTF16", name := "newBytesLength", desc := "(I)I" } : Jvm.MethodName) prog_28_method_3_code (1 : Nat) (Option.some Jvm.ClassFile.FieldType.int)) ∈ am_WT := am_wt (am_mt 262 (by decide +kernel)) rfl
theorem w_263 : (Jvm.Cond.constant "java/lang/StringUTF16" (20 : Nat) (1073741823 : Int32)) ∈ am_WT := am_wt (am_mt 263 (by decide +kernel)) rfl
theorem w_264 : (Jvm.Cond.fieldLink "java/lang/AbstractStringBuilder" (15 : Nat) "java/lang/AbstractStringBuilder" "value" "[B") ∈ am_WT := am_wt (am_mt 264 (by decide +kernel)) rfl
theorem w_265 : (Jvm.Cond.fieldLink "java/lang/AbstractStringBuilder" (22 : Nat) "java/lang/AbstractStringBuilder" "coder" "B") ∈ am_WT := am_wt (am_mt 265 (by decide +kernel)) rfl
theorem w_266 : (Jvm.Cond.fieldLink "java/lang/String" (1048 : Nat) "java/lang/AbstractStringBuilder" "maybeLatin1" "Z") ∈ am_WT := am_wt (am_mt 266 (by decide +kernel)) rfl
theorem w_267 : (Jvm.Cond.fieldLink "java/lang/AbstractStringBuilder" (79 : Nat) "java/lang/AbstractStringBuilder" "count" "I") ∈ am_WT := am_wt (am_mt 267 (by decide +kernel)) rfl
theorem w_268 : (Jvm.Cond.lays "java/lang/StringBuilder" "java/lang/AbstractStringBuilder" "value" "[B") ∈ am_WT := am_wt (am_mt 268 (by decide +kernel)) rfl
theorem w_269 : (Jvm.Cond.soleField "java/lang/AbstractStringBuilder" "value") ∈ am_WT := am_wt (am_mt 269 (by decide +kernel)) rfl
theorem w_270 : (Jvm.Cond.lays "java/lang/StringBuilder" "java/lang/AbstractStringBuilder" "coder" "B") ∈ am_WT := am_wt (am_mt 270 (by decide +kernel)) rfl
theorem w_271 : (Jvm.Cond.soleField "java/lang/AbstractStringBuilder" "coder") ∈ am_WT := am_wt (am_mt 271 (by decide +kernel)) rfl
theorem w_272 : (Jvm.Cond.lays "java/lang/StringBuilder" "java/lang/AbstractStringBuilder" "maybeLatin1" "Z") ∈ am_WT := am_wt (am_mt 272 (by decide +kernel)) rfl
theorem w_273 : (Jvm.Cond.soleField "java/lang/AbstractStringBuilder" "maybeLatin1") ∈ am_WT := am_wt (am_mt 273 (by decide +kernel)) rfl
theorem w_274 : (Jvm.Cond.lays "java/lang/StringBuilder" "java/lang/AbstractStringBuilder" "count" "I") ∈ am_WT := am_wt (am_mt 274 (by decide +kernel)) rfl
theorem w_275 : (Jvm.Cond.soleField "java/lang/AbstractStringBuilder" "count") ∈ am_WT := am_wt (am_mt 275 (by decide +kernel)) rfl
theorem w_276 : (Jvm.Cond.superclass "java/lang/StringBuilder" "java/lang/AbstractStringBuilder") ∈ am_WT := am_wt (am_mt 276 (by decide +kernel)) rfl
theorem w_278 : (Jvm.Cond.methodLink "java/util/Arrays" (50 : Nat) ({ cls := "java/lang/StringBuilder", name := "append", desc := "(Ljava/lang/String;)Ljava/lang/StringBuilder;" } : Jvm.MethodName)) ∈ am_WT := am_wt (am_mt 278 (by decide +kernel)) rfl
theorem w_279 : (Jvm.Cond.instanceMethod ({ cls := "java/lang/StringBuilder", name := "append", desc := "(Ljava/lang/String;)Ljava/lang/StringBuilder;" } : Jvm.MethodName)) ∈ am_WT := am_wt (am_mt 279 (by decide +kernel)) rfl
theorem w_280 : (Jvm.Cond.selects "java/lang/StringBuilder" ({ cls := "java/lang/StringBuilder", name := "append", desc := "(Ljava/lang/String;)Ljava/lang/StringBuilder;" } : Jvm.MethodName) ({ cls := "java/lang/StringBuilder", name := "append", desc := "(Ljava/lang/String;)Ljava/lang/StringBuilder;" } : Jvm.MethodName)) ∈ am_WT := am_wt (am_mt 280 (by decide +kernel)) rfl
theorem w_281 : (Jvm.Cond.code ({ cls := "java/lang/StringBuilder", name := "append", desc := "(Ljava/lang/String;)Ljava/lang/StringBuilder;" } : Jvm.MethodName) prog_26_method_7_code (2 : Nat) (Option.some (Jvm.ClassFile.FieldType.object "java/lang/StringBuilder"))) ∈ am_WT := am_wt (am_mt 281 (by decide +kernel)) rfl
theorem w_282 : (Jvm.Cond.methodLink "java/lang/StringBuilder" (29 : Nat) ({ cls := "java/lang/AbstractStringBuilder", name := "append", desc := "(Ljava/lang/String;)Ljava/lang/AbstractStringBuilder;" } : Jvm.MethodName)) ∈ am_WT := am_wt (am_mt 282 (by decide +kernel)) rfl
theorem w_283 : (Jvm.Cond.instanceMethod ({ cls := "java/lang/AbstractStringBuilder", name := "append", desc := "(Ljava/lang/String;)Ljava/lang/AbstractStringBuilder;" } : Jvm.MethodName)) ∈ am_WT := am_wt (am_mt 283 (by decide +kernel)) rfl
theorem w_284 : (Jvm.Cond.code ({ cls := "java/lang/AbstractStringBuilder", name := "append", desc := "(Ljava/lang/String;)Ljava/lang/AbstractStringBuilder;" } : Jvm.MethodName) prog_14_method_22_code (3 : Nat) (Option.some (Jvm.ClassFile.FieldType.object "java/lang/AbstractStringBuilder"))) ∈ am_WT := am_wt (am_mt 284 (by decide +kernel)) rfl
theorem w_285 : (Jvm.Cond.methodLink "java/lang/AbstractStringBuilder" (204 : Nat) ({ cls := "java/lang/AbstractStringBuilder", name := "appendNull", desc := "()Ljava/lang/AbstractStringBuilder;" } : Jvm.MethodName)) ∈ am_WT := am_wt (am_mt 285 (by decide +kernel)) rfl
theorem w_287 : (Jvm.Cond.instanceMethod ({ cls := "java/lang/AbstractStringBuilder", name := "appendNull", desc := "()Ljava/lang/AbstractStringBuilder;" } : Jvm.MethodName)) ∈ am_WT := am_wt (am_mt 287 (by decide +kernel)) rfl
theorem w_288 : (Jvm.Cond.code ({ cls := "java/lang/AbstractStringBuilder", name := "appendNull", desc := "()Ljava/lang/AbstractStringBuilder;" } : Jvm.MethodName) prog_14_method_26_code (3 : Nat) (Option.some (Jvm.ClassFile.FieldType.object "java/lang/AbstractStringBuilder"))) ∈ am_WT := am_wt (am_mt 288 (by decide +kernel)) rfl
theorem w_289 : (Jvm.Cond.methodLink "java/lang/AbstractStringBuilder" (100 : Nat) ({ cls := "java/lang/AbstractStringBuilder", name := "ensureCapacityInternal", desc := "(I)V" } : Jvm.MethodName)) ∈ am_WT := am_wt (am_mt 289 (by decide +kernel)) rfl
theorem w_291 : (Jvm.Cond.instanceMethod ({ cls := "java/lang/AbstractStringBuilder", name := "ensureCapacityInternal", desc := "(I)V" } : Jvm.MethodName)) ∈ am_WT := am_wt (am_mt 291 (by decide +kernel)) rfl
theorem w_292 : (Jvm.Cond.code ({ cls := "java/lang/AbstractStringBuilder", name := "ensureCapacityInternal", desc := "(I)V" } : Jvm.MethodName) prog_14_method_9_code (3 : Nat) (Option.none : Option Jvm.ClassFile.FieldType)) ∈ am_WT := am_wt (am_mt 292 (by decide +kernel)) rfl
theorem w_293 : (Jvm.Cond.methodLink "java/lang/AbstractStringBuilder" (104 : Nat) ({ cls := "java/lang/AbstractStringBuilder", name := "newCapacity", desc := "(I)I" } : Jvm.MethodName)) ∈ am_WT := am_wt (am_mt 293 (by decide +kernel)) rfl
theorem w_295 : (Jvm.Cond.instanceMethod ({ cls := "java/lang/AbstractStringBuilder", name := "newCapacity", desc := "(I)I" } : Jvm.MethodName)) ∈ am_WT := am_wt (am_mt 295 (by decide +kernel)) rfl
theorem w_296 : (Jvm.Cond.code ({ cls := "java/lang/AbstractStringBuilder", name := "newCapacity", desc := "(I)I" } : Jvm.MethodName) prog_14_method_10_code (6 : Nat) (Option.some Jvm.ClassFile.FieldType.int)) ∈ am_WT := am_wt (am_mt 296 (by decide +kernel)) rfl
theorem w_297 : (Jvm.Cond.methodLink "java/lang/AbstractStringBuilder" (114 : Nat) ({ cls := "jdk/internal/util/ArraysSupport", name := "newLength", desc := "(III)I" } : Jvm.MethodName)) ∈ am_WT := am_wt (am_mt 297 (by decide +kernel)) rfl
theorem w_298 : (Jvm.Cond.static ({ cls := "jdk/internal/util/ArraysSupport", name := "newLength", desc := "(III)I" } : Jvm.MethodName)) ∈ am_WT := am_wt (am_mt 298 (by decide +kernel)) rfl
theorem w_299 : (Jvm.Cond.code ({ cls := "jdk/internal/util/ArraysSupport", name := "newLength", desc := "(III)I" } : Jvm.MethodName) prog_35_method_27_code (4 : Nat) (Option.some Jvm.ClassFile.FieldType.int)) ∈ am_WT := am_wt (am_mt 299 (by decide +kernel)) rfl
theorem w_300 : (Jvm.Cond.methodLink "jdk/internal/util/ArraysSupport" (194 : Nat) ({ cls := "java/lang/Math", name := "max", desc := "(II)I" } : Jvm.MethodName)) ∈ am_WT := am_wt (am_mt 300 (by decide +kernel)) rfl
theorem w_301 : (Jvm.Cond.static ({ cls := "java/lang/Math", name := "max", desc := "(II)I" } : Jvm.MethodName)) ∈ am_WT := am_wt (am_mt 301 (by decide +kernel)) rfl
theorem w_302 : (Jvm.Cond.code ({ cls := "java/lang/Math", name := "max", desc := "(II)I" } : Jvm.MethodName) prog_22_method_65_code (2 : Nat) (Option.some Jvm.ClassFile.FieldType.int)) ∈ am_WT := am_wt (am_mt 302 (by decide +kernel)) rfl
theorem w_303 : (Jvm.Cond.constant "jdk/internal/util/ArraysSupport" (200 : Nat) (2147483639 : Int32)) ∈ am_WT := am_wt (am_mt 303 (by decide +kernel)) rfl
theorem w_304 : (Jvm.Cond.methodLink "jdk/internal/util/ArraysSupport" (201 : Nat) ({ cls := "jdk/internal/util/ArraysSupport", name := "hugeLength", desc := "(II)I" } : Jvm.MethodName)) ∈ am_WT := am_wt (am_mt 304 (by decide +kernel)) rfl
theorem w_305 : (Jvm.Cond.static ({ cls := "jdk/internal/util/ArraysSupport", name := "hugeLength", desc := "(II)I" } : Jvm.MethodName)) ∈ am_WT := am_wt (am_mt 305 (by decide +kernel)) rfl
theorem w_306 : (Jvm.Cond.code ({ cls := "jdk/internal/util/ArraysSupport", name := "hugeLength", desc := "(II)I" } : Jvm.MethodName) prog_35_method_28_code (3 : Nat) (Option.some Jvm.ClassFile.FieldType.int)) ∈ am_WT := am_wt (am_mt 306 (by decide +kernel)) rfl
theorem w_307 : (Jvm.Cond.constant "java/lang/AbstractStringBuilder" (39 : Nat) (2147483647 : Int32)) ∈ am_WT := am_wt (am_mt 307 (by decide +kernel)) rfl
theorem w_308 : (Jvm.Cond.methodLink "java/lang/AbstractStringBuilder" (108 : Nat) ({ cls := "java/util/Arrays", name := "copyOf", desc := "([BI)[B" } : Jvm.MethodName)) ∈ am_WT := am_wt (am_mt 308 (by decide +kernel)) rfl
theorem w_309 : (Jvm.Cond.static ({ cls := "java/util/Arrays", name := "copyOf", desc := "([BI)[B" } : Jvm.MethodName)) ∈ am_WT := am_wt (am_mt 309 (by decide +kernel)) rfl
theorem w_310 : (Jvm.Cond.code ({ cls := "java/util/Arrays", name := "copyOf", desc := "([BI)[B" } : Jvm.MethodName) prog_33_method_121_code (3 : Nat) (Option.some (Jvm.ClassFile.FieldType.array Jvm.ClassFile.FieldType.byte))) ∈ am_WT := am_wt (am_mt 310 (by decide +kernel)) rfl
theorem w_311 : (Jvm.Cond.methodLink "java/util/Arrays" (310 : Nat) ({ cls := "[B", name := "clone", desc := "()Ljava/lang/Object;" } : Jvm.MethodName)) ∈ am_WT := am_wt (am_mt 311 (by decide +kernel)) rfl
theorem w_312 : (Jvm.Cond.sameMethod "[B" "java/lang/Object" "clone" "()Ljava/lang/Object;") ∈ am_WT := am_wt (am_mt 312 (by decide +kernel)) rfl
theorem w_313 : (Jvm.Cond.native ({ cls := "java/lang/Object", name := "clone", desc := "()Ljava/lang/Object;" } : Jvm.MethodName)) ∈ am_WT := am_wt (am_mt 313 (by decide +kernel)) rfl
theorem w_314 : (Jvm.Cond.instanceMethod ({ cls := "java/lang/Object", name := "clone", desc := "()Ljava/lang/Object;" } : Jvm.MethodName)) ∈ am_WT := am_wt (am_mt 314 (by decide +kernel)) rfl
theorem w_315 : (Jvm.Cond.selects "[B" ({ cls := "[B", name := "clone", desc := "()Ljava/lang/Object;" } : Jvm.MethodName) ({ cls := "java/lang/Object", name := "clone", desc := "()Ljava/lang/Object;" } : Jvm.MethodName)) ∈ am_WT := am_wt (am_mt 315 (by decide +kernel)) rfl
theorem e_316 : (Jvm.Cond.castable "[B" "java/lang/Cloneable") ∈ am_ext := List.mem_filter.mpr ⟨am_mt 316 (by decide +kernel), rfl⟩
theorem w_317 : (Jvm.Cond.classLink "java/util/Arrays" (311 : Nat) "[B") ∈ am_WT := am_wt (am_mt 317 (by decide +kernel)) rfl
theorem w_318 : (Jvm.Cond.methodLink "java/util/Arrays" (304 : Nat) ({ cls := "java/lang/Math", name := "min", desc := "(II)I" } : Jvm.MethodName)) ∈ am_WT := am_wt (am_mt 318 (by decide +kernel)) rfl
theorem w_319 : (Jvm.Cond.static ({ cls := "java/lang/Math", name := "min", desc := "(II)I" } : Jvm.MethodName)) ∈ am_WT := am_wt (am_mt 319 (by decide +kernel)) rfl
theorem w_320 : (Jvm.Cond.code ({ cls := "java/lang/Math", name := "min", desc := "(II)I" } : Jvm.MethodName) prog_22_method_69_code (2 : Nat) (Option.some Jvm.ClassFile.FieldType.int)) ∈ am_WT := am_wt (am_mt 320 (by decide +kernel)) rfl
theorem w_321 : (Jvm.Cond.methodLink "java/util/Arrays" (150 : Nat) ({ cls := "java/lang/System", name := "arraycopy", desc := "(Ljava/lang/Object;ILjava/lang/Object;II)V" } : Jvm.MethodName)) ∈ am_WT := am_wt (am_mt 321 (by decide +kernel)) rfl
theorem w_322 : (Jvm.Cond.static ({ cls := "java/lang/System", name := "arraycopy", desc := "(Ljava/lang/Object;ILjava/lang/Object;II)V" } : Jvm.MethodName)) ∈ am_WT := am_wt (am_mt 322 (by decide +kernel)) rfl
theorem w_323 : (Jvm.Cond.native ({ cls := "java/lang/System", name := "arraycopy", desc := "(Ljava/lang/Object;ILjava/lang/Object;II)V" } : Jvm.MethodName)) ∈ am_WT := am_wt (am_mt 323 (by decide +kernel)) rfl
theorem w_324 : (Jvm.Cond.methodLink "java/lang/AbstractStringBuilder" (83 : Nat) ({ cls := "java/lang/AbstractStringBuilder", name := "isLatin1", desc := "()Z" } : Jvm.MethodName)) ∈ am_WT := am_wt (am_mt 324 (by decide +kernel)) rfl
theorem w_325 : (Jvm.Cond.instanceMethod ({ cls := "java/lang/AbstractStringBuilder", name := "isLatin1", desc := "()Z" } : Jvm.MethodName)) ∈ am_WT := am_wt (am_mt 325 (by decide +kernel)) rfl
theorem w_326 : (Jvm.Cond.sameMethod "java/lang/AbstractStringBuilder" "java/lang/AbstractStringBuilder" "isLatin1" "()Z") ∈ am_WT := am_wt (am_mt 326 (by decide +kernel)) rfl
theorem w_327 : (Jvm.Cond.selects "java/lang/StringBuilder" ({ cls := "java/lang/AbstractStringBuilder", name := "isLatin1", desc := "()Z" } : Jvm.MethodName) ({ cls := "java/lang/AbstractStringBuilder", name := "isLatin1", desc := "()Z" } : Jvm.MethodName)) ∈ am_WT := am_wt (am_mt 327 (by decide +kernel)) rfl
theorem w_328 : (Jvm.Cond.code ({ cls := "java/lang/AbstractStringBuilder", name := "isLatin1", desc := "()Z" } : Jvm.MethodName) prog_14_method_68_code (1 : Nat) (Option.some Jvm.ClassFile.FieldType.boolean)) ∈ am_WT := am_wt (am_mt 328 (by decide +kernel)) rfl
theorem w_329 : (Jvm.Cond.methodLink "java/lang/AbstractStringBuilder" (226 : Nat) ({ cls := "java/lang/StringUTF16", name := "putCharsAt", desc := "([BICCCC)I" } : Jvm.MethodName)) ∈ am_WT := am_wt (am_mt 329 (by decide +kernel)) rfl
theorem w_330 : (Jvm.Cond.static ({ cls := "java/lang/StringUTF16", name := "putCharsAt", desc := "([BICCCC)I" } : Jvm.MethodName)) ∈ am_WT := am_wt (am_mt 330 (by decide +kernel)) rfl
theorem w_331 : (Jvm.Cond.code ({ cls := "java/lang/StringUTF16", name := "putCharsAt", desc := "([BICCCC)I" } : Jvm.MethodName) prog_28_method_81_code (7 : Nat) (Option.some Jvm.ClassFile.FieldType.int)) ∈ am_WT := am_wt (am_mt 331 (by decide +kernel)) rfl
theorem w_332 : (Jvm.Cond.methodLink "java/lang/StringUTF16" (96 : Nat) ({ cls := "java/lang/StringUTF16", name := "checkBoundsBeginEnd", desc := "(II[B)V" } : Jvm.MethodName)) ∈ am_WT := am_wt (am_mt 332 (by decide +kernel)) rfl
theorem w_333 : (Jvm.Cond.static ({ cls := "java/lang/StringUTF16", name := "checkBoundsBeginEnd", desc := "(II[B)V" } : Jvm.MethodName)) ∈ am_WT := am_wt (am_mt 333 (by decide +kernel)) rfl
theorem w_334 : (Jvm.Cond.code ({ cls := "java/lang/StringUTF16", name := "checkBoundsBeginEnd", desc := "(II[B)V" } : Jvm.MethodName) prog_28_method_93_code (3 : Nat) (Option.none : Option Jvm.ClassFile.FieldType)) ∈ am_WT := am_wt (am_mt 334 (by decide +kernel)) rfl
theorem w_335 : (Jvm.Cond.methodLink "java/lang/StringUTF16" (48 : Nat) ({ cls := "java/lang/StringUTF16", name := "length", desc := "([B)I" } : Jvm.MethodName)) ∈ am_WT := am_wt (am_mt 335 (by decide +kernel)) rfl
theorem w_336 : (Jvm.Cond.static ({ cls := "java/lang/StringUTF16", name := "length", desc := "([B)I" } : Jvm.MethodName)) ∈ am_WT := am_wt (am_mt 336 (by decide +kernel)) rfl
theorem w_337 : (Jvm.Cond.code ({ cls := "java/lang/StringUTF16", name := "length", desc := "([B)I" } : Jvm.MethodName) prog_28_method_6_code (1 : Nat) (Option.some Jvm.ClassFile.FieldType.int)) ∈ am_WT := am_wt (am_mt 337 (by decide +kernel)) rfl
theorem w_338 : (Jvm.Cond.methodLink "java/lang/StringUTF16" (241 : Nat) ({ cls := "java/lang/String", name := "checkBoundsBeginEnd", desc := "(III)V" } : Jvm.MethodName)) ∈ am_WT := am_wt (am_mt 338 (by decide +kernel)) rfl
theorem w_339 : (Jvm.Cond.static ({ cls := "java/lang/String", name := "checkBoundsBeginEnd", desc := "(III)V" } : Jvm.MethodName)) ∈ am_WT := am_wt (am_mt 339 (by decide +kernel)) rfl
theorem w_340 : (Jvm.Cond.code ({ cls := "java/lang/String", name := "checkBoundsBeginEnd", desc := "(III)V" } : Jvm.MethodName) prog_25_method_158_code (3 : Nat) (Option.none : Option Jvm.ClassFile.FieldType)) ∈ am_WT := am_wt (am_mt 340 (by decide +kernel)) rfl
theorem w_341 : (Jvm.Cond.fieldLink "java/lang/String" (1053 : Nat) "jdk/internal/util/Preconditions" "SIOOBE_FORMATTER" "Ljava/util/function/BiFunction;") ∈ am_WT := am_wt (am_mt 341 (by decide +kernel)) rfl
theorem w_342 : (Jvm.Cond.laysStatic "jdk/internal/util/Preconditions" "SIOOBE_FORMATTER" "Ljava/util/function/BiFunction;") ∈ am_WT := am_wt (am_mt 342 (by decide +kernel)) rfl
theorem w_343 : (Jvm.Cond.methodLink "java/lang/String" (1062 : Nat) ({ cls := "jdk/internal/util/Preconditions", name := "checkFromToIndex", desc := "(IIILjava/util/function/BiFunction;)I" } : Jvm.MethodName)) ∈ am_WT := am_wt (am_mt 343 (by decide +kernel)) rfl
theorem w_344 : (Jvm.Cond.static ({ cls := "jdk/internal/util/Preconditions", name := "checkFromToIndex", desc := "(IIILjava/util/function/BiFunction;)I" } : Jvm.MethodName)) ∈ am_WT := am_wt (am_mt 344 (by decide +kernel)) rfl
theorem w_345 : (Jvm.Cond.code ({ cls := "jdk/internal/util/Preconditions", name := "checkFromToIndex", desc := "(IIILjava/util/function/BiFunction;)I" } : Jvm.MethodName) prog_36_method_12_code (4 : Nat) (Option.some Jvm.ClassFile.FieldType.int)) ∈ am_WT := am_wt (am_mt 345 (by decide +kernel)) rfl
theorem w_346 : (Jvm.Cond.methodLink "java/lang/StringUTF16" (111 : Nat) ({ cls := "java/lang/StringUTF16", name := "putChar", desc := "([BII)V" } : Jvm.MethodName)) ∈ am_WT := am_wt (am_mt 346 (by decide +kernel)) rfl
theorem w_347 : (Jvm.Cond.static ({ cls := "java/lang/StringUTF16", name := "putChar", desc := "([BII)V" } : Jvm.MethodName)) ∈ am_WT := am_wt (am_mt 347 (by decide +kernel)) rfl
theorem w_348 : (Jvm.Cond.code ({ cls := "java/lang/StringUTF16", name := "putChar", desc := "([BII)V" } : Jvm.MethodName) prog_28_method_4_code (3 : Nat) (Option.none : Option Jvm.ClassFile.FieldType)) ∈ am_WT := am_wt (am_mt 348 (by decide +kernel)) rfl
theorem w_349 : (Jvm.Cond.fieldLink "java/lang/StringUTF16" (44 : Nat) "java/lang/StringUTF16" "$assertionsDisabled" "Z") ∈ am_WT := am_wt (am_mt 349 (by decide +kernel)) rfl
theorem w_350 : (Jvm.Cond.laysStatic "java/lang/StringUTF16" "$assertionsDisabled" "Z") ∈ am_WT := am_wt (am_mt 350 (by decide +kernel)) rfl
theorem w_351 : (Jvm.Cond.fieldLink "java/lang/StringUTF16" (59 : Nat) "java/lang/StringUTF16" "HI_BYTE_SHIFT" "I") ∈ am_WT := am_wt (am_mt 351 (by decide +kernel)) rfl
theorem w_352 : (Jvm.Cond.laysStatic "java/lang/StringUTF16" "HI_BYTE_SHIFT" "I") ∈ am_WT := am_wt (am_mt 352 (by decide +kernel)) rfl
theorem w_353 : (Jvm.Cond.fieldLink "java/lang/StringUTF16" (63 : Nat) "java/lang/StringUTF16" "LO_BYTE_SHIFT" "I") ∈ am_WT := am_wt (am_mt 353 (by decide +kernel)) rfl
theorem w_354 : (Jvm.Cond.laysStatic "java/lang/StringUTF16" "LO_BYTE_SHIFT" "I") ∈ am_WT := am_wt (am_mt 354 (by decide +kernel)) rfl
theorem w_355 : (Jvm.Cond.methodLink "java/lang/AbstractStringBuilder" (32 : Nat) ({ cls := "java/lang/String", name := "length", desc := "()I" } : Jvm.MethodName)) ∈ am_WT := am_wt (am_mt 355 (by decide +kernel)) rfl
theorem w_356 : (Jvm.Cond.instanceMethod ({ cls := "java/lang/String", name := "length", desc := "()I" } : Jvm.MethodName)) ∈ am_WT := am_wt (am_mt 356 (by decide +kernel)) rfl
theorem w_357 : (Jvm.Cond.selects "java/lang/String" ({ cls := "java/lang/String", name := "length", desc := "()I" } : Jvm.MethodName) ({ cls := "java/lang/String", name := "length", desc := "()I" } : Jvm.MethodName)) ∈ am_WT := am_wt (am_mt 357 (by decide +kernel)) rfl
theorem w_358 : (Jvm.Cond.code ({ cls := "java/lang/String", name := "length", desc := "()I" } : Jvm.MethodName) prog_25_method_54_code (1 : Nat) (Option.some Jvm.ClassFile.FieldType.int)) ∈ am_WT := am_wt (am_mt 358 (by decide +kernel)) rfl
theorem w_359 : (Jvm.Cond.methodLink "java/lang/String" (335 : Nat) ({ cls := "java/lang/String", name := "coder", desc := "()B" } : Jvm.MethodName)) ∈ am_WT := am_wt (am_mt 359 (by decide +kernel)) rfl
theorem w_360 : (Jvm.Cond.instanceMethod ({ cls := "java/lang/String", name := "coder", desc := "()B" } : Jvm.MethodName)) ∈ am_WT := am_wt (am_mt 360 (by decide +kernel)) rfl
theorem w_361 : (Jvm.Cond.selects "java/lang/String" ({ cls := "java/lang/String", name := "coder", desc := "()B" } : Jvm.MethodName) ({ cls := "java/lang/String", name := "coder", desc := "()B" } : Jvm.MethodName)) ∈ am_WT := am_wt (am_mt 361 (by decide +kernel)) rfl
theorem w_362 : (Jvm.Cond.code ({ cls := "java/lang/String", name := "coder", desc := "()B" } : Jvm.MethodName) prog_25_method_152_code (1 : Nat) (Option.some Jvm.ClassFile.FieldType.byte)) ∈ am_WT := am_wt (am_mt 362 (by decide +kernel)) rfl
theorem w_363 : (Jvm.Cond.fieldLink "java/lang/String" (38 : Nat) "java/lang/String" "COMPACT_STRINGS" "Z") ∈ am_WT := am_wt (am_mt 363 (by decide +kernel)) rfl
theorem w_364 : (Jvm.Cond.methodLink "java/lang/AbstractStringBuilder" (208 : Nat) ({ cls := "java/lang/AbstractStringBuilder", name := "putStringAt", desc := "(ILjava/lang/String;)V" } : Jvm.MethodName)) ∈ am_WT := am_wt (am_mt 364 (by decide +kernel)) rfl
theorem w_366 : (Jvm.Cond.instanceMethod ({ cls := "java/lang/AbstractStringBuilder", name := "putStringAt", desc := "(ILjava/lang/String;)V" } : Jvm.MethodName)) ∈ am_WT := am_wt (am_mt 366 (by decide +kernel)) rfl
theorem w_367 : (Jvm.Cond.code ({ cls := "java/lang/AbstractStringBuilder", name := "putStringAt", desc := "(ILjava/lang/String;)V" } : Jvm.MethodName) prog_14_method_73_code (3 : Nat) (Option.none : Option Jvm.ClassFile.FieldType)) ∈ am_WT := am_wt (am_mt 367 (by decide +kernel)) rfl
theorem w_368 : (Jvm.Cond.methodLink "java/lang/AbstractStringBuilder" (397 : Nat) ({ cls := "java/lang/AbstractStringBuilder", name := "inflateIfNeededFor", desc := "(Ljava/lang/String;)V" } : Jvm.MethodName)) ∈ am_WT := am_wt (am_mt 368 (by decide +kernel)) rfl
theorem w_370 : (Jvm.Cond.instanceMethod ({ cls := "java/lang/AbstractStringBuilder", name := "inflateIfNeededFor", desc := "(Ljava/lang/String;)V" } : Jvm.MethodName)) ∈ am_WT := am_wt (am_mt 370 (by decide +kernel)) rfl
theorem w_371 : (Jvm.Cond.code ({ cls := "java/lang/AbstractStringBuilder", name := "inflateIfNeededFor", desc := "(Ljava/lang/String;)V" } : Jvm.MethodName) prog_14_method_71_code (2 : Nat) (Option.none : Option Jvm.ClassFile.FieldType)) ∈ am_WT := am_wt (am_mt 371 (by decide +kernel)) rfl
theorem w_372 : (Jvm.Cond.methodLink "java/lang/AbstractStringBuilder" (40 : Nat) ({ cls := "java/lang/String", name := "coder", desc := "()B" } : Jvm.MethodName)) ∈ am_WT := am_wt (am_mt 372 (by decide +kernel)) rfl
theorem w_373 : (Jvm.Cond.methodLink "java/lang/AbstractStringBuilder" (195 : Nat) ({ cls := "java/lang/AbstractStringBuilder", name := "inflate", desc := "()V" } : Jvm.MethodName)) ∈ am_WT := am_wt (am_mt 373 (by decide +kernel)) rfl
theorem w_375 : (Jvm.Cond.instanceMethod ({ cls := "java/lang/AbstractStringBuilder", name := "inflate", desc := "()V" } : Jvm.MethodName)) ∈ am_WT := am_wt (am_mt 375 (by decide +kernel)) rfl
theorem w_376 : (Jvm.Cond.code ({ cls := "java/lang/AbstractStringBuilder", name := "inflate", desc := "()V" } : Jvm.MethodName) prog_14_method_11_code (2 : Nat) (Option.none : Option Jvm.ClassFile.FieldType)) ∈ am_WT := am_wt (am_mt 376 (by decide +kernel)) rfl
theorem w_377 : (Jvm.Cond.methodLink "java/lang/AbstractStringBuilder" (125 : Nat) ({ cls := "java/lang/StringLatin1", name := "inflate", desc := "([BI[BII)V" } : Jvm.MethodName)) ∈ am_WT := am_wt (am_mt 377 (by decide +kernel)) rfl
theorem w_378 : (Jvm.Cond.static ({ cls := "java/lang/StringLatin1", name := "inflate", desc := "([BI[BII)V" } : Jvm.MethodName)) ∈ am_WT := am_wt (am_mt 378 (by decide +kernel)) rfl
theorem w_379 : (Jvm.Cond.code ({ cls := "java/lang/StringLatin1", name := "inflate", desc := "([BI[BII)V" } : Jvm.MethodName) prog_27_method_50_code (5 : Nat) (Option.none : Option Jvm.ClassFile.FieldType)) ∈ am_WT := am_wt (am_mt 379 (by decide +kernel)) rfl
theorem w_380 : (Jvm.Cond.methodLink "java/lang/StringLatin1" (240 : Nat) ({ cls := "java/lang/StringUTF16", name := "inflate", desc := "([BI[BII)V" } : Jvm.MethodName)) ∈ am_WT := am_wt (am_mt 380 (by decide +kernel)) rfl
theorem w_381 : (Jvm.Cond.static ({ cls := "java/lang/StringUTF16", name := "inflate", desc := "([BI[BII)V" } : Jvm.MethodName)) ∈ am_WT := am_wt (am_mt 381 (by decide +kernel)) rfl
theorem w_382 : (Jvm.Cond.code ({ cls := "java/lang/StringUTF16", name := "inflate", desc := "([BI[BII)V" } : Jvm.MethodName) prog_28_method_86_code (6 : Nat) (Option.none : Option Jvm.ClassFile.FieldType)) ∈ am_WT := am_wt (am_mt 382 (by decide +kernel)) rfl
theorem w_383 : (Jvm.Cond.methodLink "java/lang/StringUTF16" (173 : Nat) ({ cls := "java/lang/StringUTF16", name := "checkBoundsOffCount", desc := "(II[B)V" } : Jvm.MethodName)) ∈ am_WT := am_wt (am_mt 383 (by decide +kernel)) rfl
theorem w_384 : (Jvm.Cond.static ({ cls := "java/lang/StringUTF16", name := "checkBoundsOffCount", desc := "(II[B)V" } : Jvm.MethodName)) ∈ am_WT := am_wt (am_mt 384 (by decide +kernel)) rfl
theorem w_385 : (Jvm.Cond.code ({ cls := "java/lang/StringUTF16", name := "checkBoundsOffCount", desc := "(II[B)V" } : Jvm.MethodName) prog_28_method_94_code (3 : Nat) (Option.none : Option Jvm.ClassFile.FieldType)) ∈ am_WT := am_wt (am_mt 385 (by decide +kernel)) rfl
theorem w_386 : (Jvm.Cond.methodLink "java/lang/StringUTF16" (419 : Nat) ({ cls := "java/lang/String", name := "checkBoundsOffCount", desc := "(III)I" } : Jvm.MethodName)) ∈ am_WT := am_wt (am_mt 386 (by decide +kernel)) rfl
theorem w_387 : (Jvm.Cond.static ({ cls := "java/lang/String", name := "checkBoundsOffCount", desc := "(III)I" } : Jvm.MethodName)) ∈ am_WT := am_wt (am_mt 387 (by decide +kernel)) rfl
theorem w_388 : (Jvm.Cond.code ({ cls := "java/lang/String", name := "checkBoundsOffCount", desc := "(III)I" } : Jvm.MethodName) prog_25_method_157_code (3 : Nat) (Option.some Jvm.ClassFile.FieldType.int)) ∈ am_WT := am_wt (am_mt 388 (by decide +kernel)) rfl
theorem w_389 : (Jvm.Cond.methodLink "java/lang/String" (1065 : Nat) ({ cls := "jdk/internal/util/Preconditions", name := "checkFromIndexSize", desc := "(IIILjava/util/function/BiFunction;)I" } : Jvm.MethodName)) ∈ am_WT := am_wt (am_mt 389 (by decide +kernel)) rfl
theorem w_390 : (Jvm.Cond.static ({ cls := "jdk/internal/util/Preconditions", name := "checkFromIndexSize", desc := "(IIILjava/util/function/BiFunction;)I" } : Jvm.MethodName)) ∈ am_WT := am_wt (am_mt 390 (by decide +kernel)) rfl
theorem w_391 : (Jvm.Cond.code ({ cls := "jdk/internal/util/Preconditions", name := "checkFromIndexSize", desc := "(IIILjava/util/function/BiFunction;)I" } : Jvm.MethodName) prog_36_method_13_code (4 : Nat) (Option.some Jvm.ClassFile.FieldType.int)) ∈ am_WT := am_wt (am_mt 391 (by decide +kernel)) rfl
theorem w_392 : (Jvm.Cond.methodLink "java/lang/AbstractStringBuilder" (399 : Nat) ({ cls := "java/lang/String", name := "getBytes", desc := "([BIB)V" } : Jvm.MethodName)) ∈ am_WT := am_wt (am_mt 392 (by decide +kernel)) rfl
theorem w_393 : (Jvm.Cond.instanceMethod ({ cls := "java/lang/String", name := "getBytes", desc := "([BIB)V" } : Jvm.MethodName)) ∈ am_WT := am_wt (am_mt 393 (by decide +kernel)) rfl
theorem w_394 : (Jvm.Cond.selects "java/lang/String" ({ cls := "java/lang/String", name := "getBytes", desc := "([BIB)V" } : Jvm.MethodName) ({ cls := "java/lang/String", name := "getBytes", desc := "([BIB)V" } : Jvm.MethodName)) ∈ am_WT := am_wt (am_mt 394 (by decide +kernel)) rfl
theorem w_395 : (Jvm.Cond.code ({ cls := "java/lang/String", name := "getBytes", desc := "([BIB)V" } : Jvm.MethodName) prog_25_method_147_code (4 : Nat) (Option.none : Option Jvm.ClassFile.FieldType)) ∈ am_WT := am_wt (am_mt 395 (by decide +kernel)) rfl
theorem w_396 : (Jvm.Cond.methodLink "java/lang/String" (212 : Nat) ({ cls := "java/lang/System", name := "arraycopy", desc := "(Ljava/lang/Object;ILjava/lang/Object;II)V" } : Jvm.MethodName)) ∈ am_WT := am_wt (am_mt 396 (by decide +kernel)) rfl
theorem w_397 : (Jvm.Cond.methodLink "java/lang/String" (106 : Nat) ({ cls := "java/lang/StringLatin1", name := "inflate", desc := "([BI[BII)V" } : Jvm.MethodName)) ∈ am_WT := am_wt (am_mt 397 (by decide +kernel)) rfl
theorem w_398 : (Jvm.Cond.methodLink "java/util/Arrays" (54 : Nat) ({ cls := "java/lang/StringBuilder", name := "append", desc := "(I)Ljava/lang/StringBuilder;" } : Jvm.MethodName)) ∈ am_WT := am_wt (am_mt 398 (by decide +kernel)) rfl
theorem w_399 : (Jvm.Cond.instanceMethod ({ cls := "java/lang/StringBuilder", name := "append", desc := "(I)Ljava/lang/StringBuilder;" } : Jvm.MethodName)) ∈ am_WT := am_wt (am_mt 399 (by decide +kernel)) rfl
theorem w_400 : (Jvm.Cond.selects "java/lang/StringBuilder" ({ cls := "java/lang/StringBuilder", name := "append", desc := "(I)Ljava/lang/StringBuilder;" } : Jvm.MethodName) ({ cls := "java/lang/StringBuilder", name := "append", desc := "(I)Ljava/lang/StringBuilder;" } : Jvm.MethodName)) ∈ am_WT := am_wt (am_mt 400 (by decide +kernel)) rfl
theorem w_401 : (Jvm.Cond.code ({ cls := "java/lang/StringBuilder", name := "append", desc := "(I)Ljava/lang/StringBuilder;" } : Jvm.MethodName) prog_26_method_15_code (2 : Nat) (Option.some (Jvm.ClassFile.FieldType.object "java/lang/StringBuilder"))) ∈ am_WT := am_wt (am_mt 401 (by decide +kernel)) rfl
theorem w_402 : (Jvm.Cond.methodLink "java/lang/StringBuilder" (53 : Nat) ({ cls := "java/lang/AbstractStringBuilder", name := "append", desc := "(I)Ljava/lang/AbstractStringBuilder;" } : Jvm.MethodName)) ∈ am_WT := am_wt (am_mt 402 (by decide +kernel)) rfl
theorem w_403 : (Jvm.Cond.instanceMethod ({ cls := "java/lang/AbstractStringBuilder", name := "append", desc := "(I)Ljava/lang/AbstractStringBuilder;" } : Jvm.MethodName)) ∈ am_WT := am_wt (am_mt 403 (by decide +kernel)) rfl
theorem w_404 : (Jvm.Cond.code ({ cls := "java/lang/AbstractStringBuilder", name := "append", desc := "(I)Ljava/lang/AbstractStringBuilder;" } : Jvm.MethodName) prog_14_method_32_code (4 : Nat) (Option.some (Jvm.ClassFile.FieldType.object "java/lang/AbstractStringBuilder"))) ∈ am_WT := am_wt (am_mt 404 (by decide +kernel)) rfl
theorem w_405 : (Jvm.Cond.methodLink "java/lang/AbstractStringBuilder" (245 : Nat) ({ cls := "java/lang/Integer", name := "stringSize", desc := "(I)I" } : Jvm.MethodName)) ∈ am_WT := am_wt (am_mt 405 (by decide +kernel)) rfl
theorem w_406 : (Jvm.Cond.static ({ cls := "java/lang/Integer", name := "stringSize", desc := "(I)I" } : Jvm.MethodName)) ∈ am_WT := am_wt (am_mt 406 (by decide +kernel)) rfl
theorem w_407 : (Jvm.Cond.code ({ cls := "java/lang/Integer", name := "stringSize", desc := "(I)I" } : Jvm.MethodName) prog_21_method_13_code (4 : Nat) (Option.some Jvm.ClassFile.FieldType.int)) ∈ am_WT := am_wt (am_mt 407 (by decide +kernel)) rfl
theorem w_408 : (Jvm.Cond.methodLink "java/lang/AbstractStringBuilder" (248 : Nat) ({ cls := "java/lang/Integer", name := "getChars", desc := "(II[B)I" } : Jvm.MethodName)) ∈ am_WT := am_wt (am_mt 408 (by decide +kernel)) rfl
theorem w_409 : (Jvm.Cond.static ({ cls := "java/lang/Integer", name := "getChars", desc := "(II[B)I" } : Jvm.MethodName)) ∈ am_WT := am_wt (am_mt 409 (by decide +kernel)) rfl
theorem w_410 : (Jvm.Cond.code ({ cls := "java/lang/Integer", name := "getChars", desc := "(II[B)I" } : Jvm.MethodName) prog_21_method_12_code (7 : Nat) (Option.some Jvm.ClassFile.FieldType.int)) ∈ am_WT := am_wt (am_mt 410 (by decide +kernel)) rfl
theorem w_411 : (Jvm.Cond.fieldLink "java/lang/Integer" (83 : Nat) "java/lang/Integer" "DigitOnes" "[B") ∈ am_WT := am_wt (am_mt 411 (by decide +kernel)) rfl
theorem w_412 : (Jvm.Cond.laysStatic "java/lang/Integer" "DigitOnes" "[B") ∈ am_WT := am_wt (am_mt 412 (by decide +kernel)) rfl
theorem w_413 : (Jvm.Cond.fieldLink "java/lang/Integer" (87 : Nat) "java/lang/Integer" "DigitTens" "[B") ∈ am_WT := am_wt (am_mt 413 (by decide +kernel)) rfl
theorem w_414 : (Jvm.Cond.laysStatic "java/lang/Integer" "DigitTens" "[B") ∈ am_WT := am_wt (am_mt 414 (by decide +kernel)) rfl
theorem w_415 : (Jvm.Cond.methodLink "java/lang/AbstractStringBuilder" (251 : Nat) ({ cls := "java/lang/StringUTF16", name := "getChars", desc := "(III[B)I" } : Jvm.MethodName)) ∈ am_WT := am_wt (am_mt 415 (by decide +kernel)) rfl
theorem w_416 : (Jvm.Cond.static ({ cls := "java/lang/StringUTF16", name := "getChars", desc := "(III[B)I" } : Jvm.MethodName)) ∈ am_WT := am_wt (am_mt 416 (by decide +kernel)) rfl
theorem w_417 : (Jvm.Cond.code ({ cls := "java/lang/StringUTF16", name := "getChars", desc := "(III[B)I" } : Jvm.MethodName) prog_28_method_77_code (5 : Nat) (Option.some Jvm.ClassFile.FieldType.int)) ∈ am_WT := am_wt (am_mt 417 (by decide +kernel)) rfl
theorem w_418 : (Jvm.Cond.methodLink "java/lang/StringUTF16" (393 : Nat) ({ cls := "java/lang/StringUTF16", name := "getChars", desc := "(II[B)I" } : Jvm.MethodName)) ∈ am_WT := am_wt (am_mt 418 (by decide +kernel)) rfl
theorem w_419 : (Jvm.Cond.static ({ cls := "java/lang/StringUTF16", name := "getChars", desc := "(II[B)I" } : Jvm.MethodName)) ∈ am_WT := am_wt (am_mt 419 (by decide +kernel)) rfl
theorem w_420 : (Jvm.Cond.code ({ cls := "java/lang/StringUTF16", name := "getChars", desc := "(II[B)I" } : Jvm.MethodName) prog_28_method_89_code (7 : Nat) (Option.some Jvm.ClassFile.FieldType.int)) ∈ am_WT := am_wt (am_mt 420 (by decide +kernel)) rfl
theorem w_421 : (Jvm.Cond.fieldLink "java/lang/StringUTF16" (403 : Nat) "java/lang/Integer" "DigitOnes" "[B") ∈ am_WT := am_wt (am_mt 421 (by decide +kernel)) rfl
theorem w_422 : (Jvm.Cond.fieldLink "java/lang/StringUTF16" (407 : Nat) "java/lang/Integer" "DigitTens" "[B") ∈ am_WT := am_wt (am_mt 422 (by decide +kernel)) rfl
theorem w_425 : (Jvm.Cond.methodLink "java/util/Arrays" (61 : Nat) ({ cls := "java/lang/StringBuilder", name := "toString", desc := "()Ljava/lang/String;" } : Jvm.MethodName)) ∈ am_WT := am_wt (am_mt 425 (by decide +kernel)) rfl
theorem w_426 : (Jvm.Cond.instanceMethod ({ cls := "java/lang/StringBuilder", name := "toString", desc := "()Ljava/lang/String;" } : Jvm.MethodName)) ∈ am_WT := am_wt (am_mt 426 (by decide +kernel)) rfl
theorem w_427 : (Jvm.Cond.selects "java/lang/StringBuilder" ({ cls := "java/lang/StringBuilder", name := "toString", desc := "()Ljava/lang/String;" } : Jvm.MethodName) ({ cls := "java/lang/StringBuilder", name := "toString", desc := "()Ljava/lang/String;" } : Jvm.MethodName)) ∈ am_WT := am_wt (am_mt 427 (by decide +kernel)) rfl
theorem w_428 : (Jvm.Cond.code ({ cls := "java/lang/StringBuilder", name := "toString", desc := "()Ljava/lang/String;" } : Jvm.MethodName) prog_26_method_42_code (1 : Nat) (Option.some (Jvm.ClassFile.FieldType.object "java/lang/String"))) ∈ am_WT := am_wt (am_mt 428 (by decide +kernel)) rfl
theorem w_429 : (Jvm.Cond.classLink "java/lang/StringBuilder" (18 : Nat) "java/lang/String") ∈ am_WT := am_wt (am_mt 429 (by decide +kernel)) rfl
theorem w_430 : (Jvm.Cond.instantiable "java/lang/String" (4 : Nat)) ∈ am_WT := am_wt (am_mt 430 (by decide +kernel)) rfl
theorem w_431 : (Jvm.Cond.methodLink "java/lang/StringBuilder" (137 : Nat) ({ cls := "java/lang/String", name := "<init>", desc := "(Ljava/lang/StringBuilder;)V" } : Jvm.MethodName)) ∈ am_WT := am_wt (am_mt 431 (by decide +kernel)) rfl
theorem w_432 : (Jvm.Cond.instanceMethod ({ cls := "java/lang/String", name := "<init>", desc := "(Ljava/lang/StringBuilder;)V" } : Jvm.MethodName)) ∈ am_WT := am_wt (am_mt 432 (by decide +kernel)) rfl
theorem w_433 : (Jvm.Cond.code ({ cls := "java/lang/String", name := "<init>", desc := "(Ljava/lang/StringBuilder;)V" } : Jvm.MethodName) prog_25_method_53_code (2 : Nat) (Option.none : Option Jvm.ClassFile.FieldType)) ∈ am_WT := am_wt (am_mt 433 (by decide +kernel)) rfl
theorem w_434 : (Jvm.Cond.methodLink "java/lang/String" (489 : Nat) ({ cls := "java/lang/String", name := "<init>", desc := "(Ljava/lang/AbstractStringBuilder;Ljava/lang/Void;)V" } : Jvm.MethodName)) ∈ am_WT := am_wt (am_mt 434 (by decide +kernel)) rfl
theorem w_435 : (Jvm.Cond.instanceMethod ({ cls := "java/lang/String", name := "<init>", desc := "(Ljava/lang/AbstractStringBuilder;Ljava/lang/Void;)V" } : Jvm.MethodName)) ∈ am_WT := am_wt (am_mt 435 (by decide +kernel)) rfl
theorem w_436 : (Jvm.Cond.code ({ cls := "java/lang/String", name := "<init>", desc := "(Ljava/lang/AbstractStringBuilder;Ljava/lang/Void;)V" } : Jvm.MethodName) prog_25_method_150_code (5 : Nat) (Option.none : Option Jvm.ClassFile.FieldType)) ∈ am_WT := am_wt (am_mt 436 (by decide +kernel)) rfl
theorem w_437 : (Jvm.Cond.methodLink "java/lang/String" (1 : Nat) ({ cls := "java/lang/Object", name := "<init>", desc := "()V" } : Jvm.MethodName)) ∈ am_WT := am_wt (am_mt 437 (by decide +kernel)) rfl
theorem w_438 : (Jvm.Cond.methodLink "java/lang/String" (552 : Nat) ({ cls := "java/lang/AbstractStringBuilder", name := "getValue", desc := "()[B" } : Jvm.MethodName)) ∈ am_WT := am_wt (am_mt 438 (by decide +kernel)) rfl
theorem w_439 : (Jvm.Cond.instanceMethod ({ cls := "java/lang/AbstractStringBuilder", name := "getValue", desc := "()[B" } : Jvm.MethodName)) ∈ am_WT := am_wt (am_mt 439 (by decide +kernel)) rfl
theorem w_440 : (Jvm.Cond.sameMethod "java/lang/AbstractStringBuilder" "java/lang/AbstractStringBuilder" "getValue" "()[B") ∈ am_WT := am_wt (am_mt 440 (by decide +kernel)) rfl
theorem w_441 : (Jvm.Cond.selects "java/lang/StringBuilder" ({ cls := "java/lang/AbstractStringBuilder", name := "getValue", desc := "()[B" } : Jvm.MethodName) ({ cls := "java/lang/AbstractStringBuilder", name := "getValue", desc := "()[B" } : Jvm.MethodName)) ∈ am_WT := am_wt (am_mt 441 (by decide +kernel)) rfl
theorem w_442 : (Jvm.Cond.code ({ cls := "java/lang/AbstractStringBuilder", name := "getValue", desc := "()[B" } : Jvm.MethodName) prog_14_method_64_code (1 : Nat) (Option.some (Jvm.ClassFile.FieldType.array Jvm.ClassFile.FieldType.byte))) ∈ am_WT := am_wt (am_mt 442 (by decide +kernel)) rfl
theorem w_443 : (Jvm.Cond.methodLink "java/lang/String" (549 : Nat) ({ cls := "java/lang/AbstractStringBuilder", name := "length", desc := "()I" } : Jvm.MethodName)) ∈ am_WT := am_wt (am_mt 443 (by decide +kernel)) rfl
theorem w_444 : (Jvm.Cond.instanceMethod ({ cls := "java/lang/AbstractStringBuilder", name := "length", desc := "()I" } : Jvm.MethodName)) ∈ am_WT := am_wt (am_mt 444 (by decide +kernel)) rfl
theorem w_445 : (Jvm.Cond.sameMethod "java/lang/AbstractStringBuilder" "java/lang/AbstractStringBuilder" "length" "()I") ∈ am_WT := am_wt (am_mt 445 (by decide +kernel)) rfl
theorem w_446 : (Jvm.Cond.selects "java/lang/StringBuilder" ({ cls := "java/lang/AbstractStringBuilder", name := "length", desc := "()I" } : Jvm.MethodName) ({ cls := "java/lang/StringBuilder", name := "length", desc := "()I" } : Jvm.MethodName)) ∈ am_WT := am_wt (am_mt 446 (by decide +kernel)) rfl
theorem w_447 : (Jvm.Cond.instanceMethod ({ cls := "java/lang/StringBuilder", name := "length", desc := "()I" } : Jvm.MethodName)) ∈ am_WT := am_wt (am_mt 447 (by decide +kernel)) rfl
theorem w_448 : (Jvm.Cond.code ({ cls := "java/lang/StringBuilder", name := "length", desc := "()I" } : Jvm.MethodName) prog_26_method_93_code (1 : Nat) (Option.some Jvm.ClassFile.FieldType.int)) ∈ am_WT := am_wt (am_mt 448 (by decide +kernel)) rfl
theorem w_449 : (Jvm.Cond.methodLink "java/lang/StringBuilder" (343 : Nat) ({ cls := "java/lang/AbstractStringBuilder", name := "length", desc := "()I" } : Jvm.MethodName)) ∈ am_WT := am_wt (am_mt 449 (by decide +kernel)) rfl
theorem w_450 : (Jvm.Cond.code ({ cls := "java/lang/AbstractStringBuilder", name := "length", desc := "()I" } : Jvm.MethodName) prog_14_method_6_code (1 : Nat) (Option.some Jvm.ClassFile.FieldType.int)) ∈ am_WT := am_wt (am_mt 450 (by decide +kernel)) rfl
theorem w_451 : (Jvm.Cond.methodLink "java/lang/String" (1047 : Nat) ({ cls := "java/lang/AbstractStringBuilder", name := "isLatin1", desc := "()Z" } : Jvm.MethodName)) ∈ am_WT := am_wt (am_mt 451 (by decide +kernel)) rfl
theorem w_452 : (Jvm.Cond.methodLink "java/lang/String" (54 : Nat) ({ cls := "java/util/Arrays", name := "copyOfRange", desc := "([BII)[B" } : Jvm.MethodName)) ∈ am_WT := am_wt (am_mt 452 (by decide +kernel)) rfl
theorem w_453 : (Jvm.Cond.static ({ cls := "java/util/Arrays", name := "copyOfRange", desc := "([BII)[B" } : Jvm.MethodName)) ∈ am_WT := am_wt (am_mt 453 (by decide +kernel)) rfl
theorem w_454 : (Jvm.Cond.code ({ cls := "java/util/Arrays", name := "copyOfRange", desc := "([BII)[B" } : Jvm.MethodName) prog_33_method_132_code (3 : Nat) (Option.some (Jvm.ClassFile.FieldType.array Jvm.ClassFile.FieldType.byte))) ∈ am_WT := am_wt (am_mt 454 (by decide +kernel)) rfl
theorem w_455 : (Jvm.Cond.methodLink "java/util/Arrays" (339 : Nat) ({ cls := "java/util/Arrays", name := "copyOfRangeByte", desc := "([BII)[B" } : Jvm.MethodName)) ∈ am_WT := am_wt (am_mt 455 (by decide +kernel)) rfl
theorem w_456 : (Jvm.Cond.static ({ cls := "java/util/Arrays", name := "copyOfRangeByte", desc := "([BII)[B" } : Jvm.MethodName)) ∈ am_WT := am_wt (am_mt 456 (by decide +kernel)) rfl
theorem w_457 : (Jvm.Cond.code ({ cls := "java/util/Arrays", name := "copyOfRangeByte", desc := "([BII)[B" } : Jvm.MethodName) prog_33_method_133_code (5 : Nat) (Option.some (Jvm.ClassFile.FieldType.array Jvm.ClassFile.FieldType.byte))) ∈ am_WT := am_wt (am_mt 457 (by decide +kernel)) rfl
theorem w_458 : (Jvm.Cond.methodLink "java/util/Arrays" (343 : Nat) ({ cls := "java/util/Arrays", name := "checkLength", desc := "(II)V" } : Jvm.MethodName)) ∈ am_WT := am_wt (am_mt 458 (by decide +kernel)) rfl
theorem w_459 : (Jvm.Cond.static ({ cls := "java/util/Arrays", name := "checkLength", desc := "(II)V" } : Jvm.MethodName)) ∈ am_WT := am_wt (am_mt 459 (by decide +kernel)) rfl
theorem w_460 : (Jvm.Cond.code ({ cls := "java/util/Arrays", name := "checkLength", desc := "(II)V" } : Jvm.MethodName) prog_33_method_131_code (2 : Nat) (Option.none : Option Jvm.ClassFile.FieldType)) ∈ am_WT := am_wt (am_mt 460 (by decide +kernel)) rfl
theorem w_462 : (Jvm.Cond.methodLink "java/util/Arrays" (65 : Nat) ({ cls := "java/lang/IllegalArgumentException", name := "<init>", desc := "(Ljava/lang/String;)V" } : Jvm.MethodName)) ∈ am_WT := am_wt (am_mt 462 (by decide +kernel)) rfl
theorem w_463 : (Jvm.Cond.instanceMethod ({ cls := "java/lang/IllegalArgumentException", name := "<init>", desc := "(Ljava/lang/String;)V" } : Jvm.MethodName)) ∈ am_WT := am_wt (am_mt 463 (by decide +kernel)) rfl
theorem w_464 : (Jvm.Cond.code ({ cls := "java/lang/IllegalArgumentException", name := "<init>", desc := "(Ljava/lang/String;)V" } : Jvm.MethodName) prog_20_method_2_code (2 : Nat) (Option.none : Option Jvm.ClassFile.FieldType)) ∈ am_WT := am_wt (am_mt 464 (by decide +kernel)) rfl
theorem w_465 : (Jvm.Cond.methodLink "java/lang/IllegalArgumentException" (7 : Nat) ({ cls := "java/lang/RuntimeException", name := "<init>", desc := "(Ljava/lang/String;)V" } : Jvm.MethodName)) ∈ am_WT := am_wt (am_mt 465 (by decide +kernel)) rfl
theorem w_466 : (Jvm.Cond.instanceMethod ({ cls := "java/lang/RuntimeException", name := "<init>", desc := "(Ljava/lang/String;)V" } : Jvm.MethodName)) ∈ am_WT := am_wt (am_mt 466 (by decide +kernel)) rfl
theorem w_467 : (Jvm.Cond.code ({ cls := "java/lang/RuntimeException", name := "<init>", desc := "(Ljava/lang/String;)V" } : Jvm.MethodName) prog_24_method_2_code (2 : Nat) (Option.none : Option Jvm.ClassFile.FieldType)) ∈ am_WT := am_wt (am_mt 467 (by decide +kernel)) rfl
theorem w_468 : (Jvm.Cond.methodLink "java/lang/RuntimeException" (7 : Nat) ({ cls := "java/lang/Exception", name := "<init>", desc := "(Ljava/lang/String;)V" } : Jvm.MethodName)) ∈ am_WT := am_wt (am_mt 468 (by decide +kernel)) rfl
theorem w_469 : (Jvm.Cond.instanceMethod ({ cls := "java/lang/Exception", name := "<init>", desc := "(Ljava/lang/String;)V" } : Jvm.MethodName)) ∈ am_WT := am_wt (am_mt 469 (by decide +kernel)) rfl
theorem w_470 : (Jvm.Cond.code ({ cls := "java/lang/Exception", name := "<init>", desc := "(Ljava/lang/String;)V" } : Jvm.MethodName) prog_19_method_2_code (2 : Nat) (Option.none : Option Jvm.ClassFile.FieldType)) ∈ am_WT := am_wt (am_mt 470 (by decide +kernel)) rfl
theorem w_471 : (Jvm.Cond.methodLink "java/lang/Exception" (7 : Nat) ({ cls := "java/lang/Throwable", name := "<init>", desc := "(Ljava/lang/String;)V" } : Jvm.MethodName)) ∈ am_WT := am_wt (am_mt 471 (by decide +kernel)) rfl
theorem w_472 : (Jvm.Cond.instanceMethod ({ cls := "java/lang/Throwable", name := "<init>", desc := "(Ljava/lang/String;)V" } : Jvm.MethodName)) ∈ am_WT := am_wt (am_mt 472 (by decide +kernel)) rfl
theorem w_473 : (Jvm.Cond.code ({ cls := "java/lang/Throwable", name := "<init>", desc := "(Ljava/lang/String;)V" } : Jvm.MethodName) prog_30_method_2_code (2 : Nat) (Option.none : Option Jvm.ClassFile.FieldType)) ∈ am_WT := am_wt (am_mt 473 (by decide +kernel)) rfl
theorem w_474 : (Jvm.Cond.fieldLink "java/lang/Throwable" (198 : Nat) "java/lang/Throwable" "backtrace" "Ljava/lang/Object;") ∈ am_WT := am_wt (am_mt 474 (by decide +kernel)) rfl
theorem w_475 : (Jvm.Cond.fieldLink "java/lang/Throwable" (31 : Nat) "java/lang/Throwable" "detailMessage" "Ljava/lang/String;") ∈ am_WT := am_wt (am_mt 475 (by decide +kernel)) rfl
theorem w_476 : (Jvm.Cond.fieldLink "java/lang/Throwable" (7 : Nat) "java/lang/Throwable" "cause" "Ljava/lang/Throwable;") ∈ am_WT := am_wt (am_mt 476 (by decide +kernel)) rfl
theorem w_477 : (Jvm.Cond.fieldLink "java/lang/Throwable" (17 : Nat) "java/lang/Throwable" "stackTrace" "[Ljava/lang/StackTraceElement;") ∈ am_WT := am_wt (am_mt 477 (by decide +kernel)) rfl
theorem w_478 : (Jvm.Cond.fieldLink "java/lang/Throwable" (24 : Nat) "java/lang/Throwable" "suppressedExceptions" "Ljava/util/List;") ∈ am_WT := am_wt (am_mt 478 (by decide +kernel)) rfl
theorem w_479 : (Jvm.Cond.soleField "java/lang/Throwable" "backtrace") ∈ am_WT := am_wt (am_mt 479 (by decide +kernel)) rfl
theorem w_480 : (Jvm.Cond.soleField "java/lang/Throwable" "detailMessage") ∈ am_WT := am_wt (am_mt 480 (by decide +kernel)) rfl
theorem w_481 : (Jvm.Cond.soleField "java/lang/Throwable" "cause") ∈ am_WT := am_wt (am_mt 481 (by decide +kernel)) rfl
theorem w_482 : (Jvm.Cond.soleField "java/lang/Throwable" "stackTrace") ∈ am_WT := am_wt (am_mt 482 (by decide +kernel)) rfl
theorem w_483 : (Jvm.Cond.lays "java/lang/IllegalArgumentException" "java/lang/Throwable" "depth" "I") ∈ am_WT := am_wt (am_mt 483 (by decide +kernel)) rfl
theorem w_484 : (Jvm.Cond.soleField "java/lang/Throwable" "depth") ∈ am_WT := am_wt (am_mt 484 (by decide +kernel)) rfl
theorem w_485 : (Jvm.Cond.soleField "java/lang/Throwable" "suppressedExceptions") ∈ am_WT := am_wt (am_mt 485 (by decide +kernel)) rfl
theorem w_486 : (Jvm.Cond.superclass "java/lang/IllegalArgumentException" "java/lang/RuntimeException") ∈ am_WT := am_wt (am_mt 486 (by decide +kernel)) rfl
theorem w_487 : (Jvm.Cond.methodLink "java/lang/String" (1051 : Nat) ({ cls := "java/lang/StringUTF16", name := "compress", desc := "([BII)[B" } : Jvm.MethodName)) ∈ am_WT := am_wt (am_mt 487 (by decide +kernel)) rfl
theorem w_488 : (Jvm.Cond.static ({ cls := "java/lang/StringUTF16", name := "compress", desc := "([BII)[B" } : Jvm.MethodName)) ∈ am_WT := am_wt (am_mt 488 (by decide +kernel)) rfl
theorem w_489 : (Jvm.Cond.code ({ cls := "java/lang/StringUTF16", name := "compress", desc := "([BII)[B" } : Jvm.MethodName) prog_28_method_17_code (6 : Nat) (Option.some (Jvm.ClassFile.FieldType.array Jvm.ClassFile.FieldType.byte))) ∈ am_WT := am_wt (am_mt 489 (by decide +kernel)) rfl
theorem w_490 : (Jvm.Cond.methodLink "java/lang/StringUTF16" (123 : Nat) ({ cls := "java/lang/StringUTF16", name := "compress", desc := "([BI[BII)I" } : Jvm.MethodName)) ∈ am_WT := am_wt (am_mt 490 (by decide +kernel)) rfl
theorem w_491 : (Jvm.Cond.static ({ cls := "java/lang/StringUTF16", name := "compress", desc := "([BI[BII)I" } : Jvm.MethodName)) ∈ am_WT := am_wt (am_mt 491 (by decide +kernel)) rfl
theorem w_492 : (Jvm.Cond.code ({ cls := "java/lang/StringUTF16", name := "compress", desc := "([BI[BII)I" } : Jvm.MethodName) prog_28_method_22_code (7 : Nat) (Option.some Jvm.ClassFile.FieldType.int)) ∈ am_WT := am_wt (am_mt 492 (by decide +kernel)) rfl
theorem w_493 : (Jvm.Cond.methodLink "java/lang/StringUTF16" (71 : Nat) ({ cls := "java/lang/StringUTF16", name := "getChar", desc := "([BI)C" } : Jvm.MethodName)) ∈ am_WT := am_wt (am_mt 493 (by decide +kernel)) rfl
theorem w_494 : (Jvm.Cond.static ({ cls := "java/lang/StringUTF16", name := "getChar", desc := "([BI)C" } : Jvm.MethodName)) ∈ am_WT := am_wt (am_mt 494 (by decide +kernel)) rfl
theorem w_495 : (Jvm.Cond.code ({ cls := "java/lang/StringUTF16", name := "getChar", desc := "([BI)C" } : Jvm.MethodName) prog_28_method_5_code (2 : Nat) (Option.some Jvm.ClassFile.FieldType.char)) ∈ am_WT := am_wt (am_mt 495 (by decide +kernel)) rfl
theorem w_496 : (Jvm.Cond.methodLink "java/lang/StringUTF16" (126 : Nat) ({ cls := "java/util/Arrays", name := "copyOfRange", desc := "([BII)[B" } : Jvm.MethodName)) ∈ am_WT := am_wt (am_mt 496 (by decide +kernel)) rfl
theorem w_497 : (Jvm.Cond.methodLink "java/lang/String" (47 : Nat) ({ cls := "java/lang/StringUTF16", name := "coderFromArrayLen", desc := "([BI)B" } : Jvm.MethodName)) ∈ am_WT := am_wt (am_mt 497 (by decide +kernel)) rfl
theorem w_498 : (Jvm.Cond.static ({ cls := "java/lang/StringUTF16", name := "coderFromArrayLen", desc := "([BI)B" } : Jvm.MethodName)) ∈ am_WT := am_wt (am_mt 498 (by decide +kernel)) rfl
theorem w_499 : (Jvm.Cond.code ({ cls := "java/lang/StringUTF16", name := "coderFromArrayLen", desc := "([BI)B" } : Jvm.MethodName) prog_28_method_15_code (2 : Nat) (Option.some Jvm.ClassFile.FieldType.byte)) ∈ am_WT := am_wt (am_mt 499 (by decide +kernel)) rfl
theorem w_500 : (Jvm.Cond.fieldLink "java/lang/String" (9 : Nat) "java/lang/String" "value" "[B") ∈ am_WT := am_wt (am_mt 500 (by decide +kernel)) rfl
theorem w_501 : (Jvm.Cond.fieldLink "java/lang/String" (15 : Nat) "java/lang/String" "coder" "B") ∈ am_WT := am_wt (am_mt 501 (by decide +kernel)) rfl
theorem w_502 : (Jvm.Cond.laysFinal "java/lang/String" "java/lang/String" "value" "[B") ∈ am_WT := am_wt (am_mt 502 (by decide +kernel)) rfl
theorem w_503 : (Jvm.Cond.soleField "java/lang/String" "value") ∈ am_WT := am_wt (am_mt 503 (by decide +kernel)) rfl
theorem w_504 : (Jvm.Cond.laysFinal "java/lang/String" "java/lang/String" "coder" "B") ∈ am_WT := am_wt (am_mt 504 (by decide +kernel)) rfl
theorem w_505 : (Jvm.Cond.soleField "java/lang/String" "coder") ∈ am_WT := am_wt (am_mt 505 (by decide +kernel)) rfl
theorem w_506 : (Jvm.Cond.lays "java/lang/String" "java/lang/String" "hash" "I") ∈ am_WT := am_wt (am_mt 506 (by decide +kernel)) rfl
theorem w_507 : (Jvm.Cond.soleField "java/lang/String" "hash") ∈ am_WT := am_wt (am_mt 507 (by decide +kernel)) rfl
theorem w_508 : (Jvm.Cond.lays "java/lang/String" "java/lang/String" "hashIsZero" "Z") ∈ am_WT := am_wt (am_mt 508 (by decide +kernel)) rfl
theorem w_509 : (Jvm.Cond.soleField "java/lang/String" "hashIsZero") ∈ am_WT := am_wt (am_mt 509 (by decide +kernel)) rfl
theorem w_510 : (Jvm.Cond.superclass "java/lang/String" "java/lang/Object") ∈ am_WT := am_wt (am_mt 510 (by decide +kernel)) rfl
theorem w_511 : (Jvm.Cond.fieldLink "SlotMat$State" (9 : Nat) "SlotMat$State" "cells" "[I") ∈ am_WT := am_wt (am_mt 511 (by decide +kernel)) rfl
theorem n_512 : (Jvm.Cond.fieldLinkNest "SlotMat$Acts" (22 : Nat) "SlotMat$State" "cells" "[I" "SlotMat") ∈ am_nest := List.mem_filter.mpr ⟨am_mt 512 (by decide +kernel), rfl⟩
theorem w_513 : (Jvm.Cond.laysFinal "SlotMat$State" "SlotMat$State" "cells" "[I") ∈ am_WT := am_wt (am_mt 513 (by decide +kernel)) rfl
theorem w_514 : (Jvm.Cond.soleField "SlotMat$State" "cells") ∈ am_WT := am_wt (am_mt 514 (by decide +kernel)) rfl
theorem w_515 : (Jvm.Cond.superclass "SlotMat$State" "java/lang/Object") ∈ am_WT := am_wt (am_mt 515 (by decide +kernel)) rfl
theorem w_516 : (Jvm.Cond.classLink "SlotMat" (51 : Nat) "SlotMat$Acts") ∈ am_WT := am_wt (am_mt 516 (by decide +kernel)) rfl
theorem w_517 : (Jvm.Cond.instantiable "SlotMat$Acts" (3 : Nat)) ∈ am_WT := am_wt (am_mt 517 (by decide +kernel)) rfl
theorem n_518 : (Jvm.Cond.methodLinkNest "SlotMat" (53 : Nat) ({ cls := "SlotMat$Acts", name := "<init>", desc := "()V" } : Jvm.MethodName) "SlotMat") ∈ am_nest := List.mem_filter.mpr ⟨am_mt 518 (by decide +kernel), rfl⟩
theorem w_519 : (Jvm.Cond.instanceMethod ({ cls := "SlotMat$Acts", name := "<init>", desc := "()V" } : Jvm.MethodName)) ∈ am_WT := am_wt (am_mt 519 (by decide +kernel)) rfl
theorem w_520 : (Jvm.Cond.code ({ cls := "SlotMat$Acts", name := "<init>", desc := "()V" } : Jvm.MethodName) prog_2_method_1_code (1 : Nat) (Option.none : Option Jvm.ClassFile.FieldType)) ∈ am_WT := am_wt (am_mt 520 (by decide +kernel)) rfl
theorem w_521 : (Jvm.Cond.methodLink "SlotMat$Acts" (3 : Nat) ({ cls := "java/lang/Object", name := "<init>", desc := "()V" } : Jvm.MethodName)) ∈ am_WT := am_wt (am_mt 521 (by decide +kernel)) rfl
theorem w_522 : (Jvm.Cond.fieldLink "SlotMat$Acts" (9 : Nat) "SlotMat$Acts" "rows" "[I") ∈ am_WT := am_wt (am_mt 522 (by decide +kernel)) rfl
theorem w_523 : (Jvm.Cond.fieldLink "SlotMat$Acts" (15 : Nat) "SlotMat$Acts" "many" "I") ∈ am_WT := am_wt (am_mt 523 (by decide +kernel)) rfl
theorem n_524 : (Jvm.Cond.fieldLinkNest "SlotMat" (155 : Nat) "SlotMat$Acts" "many" "I" "SlotMat") ∈ am_nest := List.mem_filter.mpr ⟨am_mt 524 (by decide +kernel), rfl⟩
theorem w_525 : (Jvm.Cond.fieldLink "SlotMat$Acts" (19 : Nat) "SlotMat$Acts" "next" "I") ∈ am_WT := am_wt (am_mt 525 (by decide +kernel)) rfl
theorem w_526 : (Jvm.Cond.laysFinal "SlotMat$Acts" "SlotMat$Acts" "rows" "[I") ∈ am_WT := am_wt (am_mt 526 (by decide +kernel)) rfl
theorem w_527 : (Jvm.Cond.soleField "SlotMat$Acts" "rows") ∈ am_WT := am_wt (am_mt 527 (by decide +kernel)) rfl
theorem w_528 : (Jvm.Cond.lays "SlotMat$Acts" "SlotMat$Acts" "many" "I") ∈ am_WT := am_wt (am_mt 528 (by decide +kernel)) rfl
theorem w_529 : (Jvm.Cond.soleField "SlotMat$Acts" "many") ∈ am_WT := am_wt (am_mt 529 (by decide +kernel)) rfl
theorem w_530 : (Jvm.Cond.lays "SlotMat$Acts" "SlotMat$Acts" "next" "I") ∈ am_WT := am_wt (am_mt 530 (by decide +kernel)) rfl
theorem w_531 : (Jvm.Cond.soleField "SlotMat$Acts" "next") ∈ am_WT := am_wt (am_mt 531 (by decide +kernel)) rfl
theorem w_532 : (Jvm.Cond.superclass "SlotMat$Acts" "java/lang/Object") ∈ am_WT := am_wt (am_mt 532 (by decide +kernel)) rfl
theorem w_533 : (Jvm.Cond.classLink "SlotMat" (58 : Nat) "SlotMat$Notes") ∈ am_WT := am_wt (am_mt 533 (by decide +kernel)) rfl
theorem w_534 : (Jvm.Cond.instantiable "SlotMat$Notes" (4 : Nat)) ∈ am_WT := am_wt (am_mt 534 (by decide +kernel)) rfl
theorem n_535 : (Jvm.Cond.methodLinkNest "SlotMat" (60 : Nat) ({ cls := "SlotMat$Notes", name := "<init>", desc := "()V" } : Jvm.MethodName) "SlotMat") ∈ am_nest := List.mem_filter.mpr ⟨am_mt 535 (by decide +kernel), rfl⟩
theorem w_536 : (Jvm.Cond.instanceMethod ({ cls := "SlotMat$Notes", name := "<init>", desc := "()V" } : Jvm.MethodName)) ∈ am_WT := am_wt (am_mt 536 (by decide +kernel)) rfl
theorem w_537 : (Jvm.Cond.code ({ cls := "SlotMat$Notes", name := "<init>", desc := "()V" } : Jvm.MethodName) prog_5_method_1_code (1 : Nat) (Option.none : Option Jvm.ClassFile.FieldType)) ∈ am_WT := am_wt (am_mt 537 (by decide +kernel)) rfl
theorem w_538 : (Jvm.Cond.methodLink "SlotMat$Notes" (3 : Nat) ({ cls := "java/lang/Object", name := "<init>", desc := "()V" } : Jvm.MethodName)) ∈ am_WT := am_wt (am_mt 538 (by decide +kernel)) rfl
theorem w_539 : (Jvm.Cond.fieldLink "SlotMat$Notes" (9 : Nat) "SlotMat$Notes" "who" "[I") ∈ am_WT := am_wt (am_mt 539 (by decide +kernel)) rfl
theorem w_540 : (Jvm.Cond.fieldLink "SlotMat$Notes" (15 : Nat) "SlotMat$Notes" "behind" "[I") ∈ am_WT := am_wt (am_mt 540 (by decide +kernel)) rfl
theorem w_541 : (Jvm.Cond.fieldLink "SlotMat$Notes" (18 : Nat) "SlotMat$Notes" "sum" "[I") ∈ am_WT := am_wt (am_mt 541 (by decide +kernel)) rfl
theorem w_542 : (Jvm.Cond.fieldLink "SlotMat$Notes" (21 : Nat) "SlotMat$Notes" "many" "I") ∈ am_WT := am_wt (am_mt 542 (by decide +kernel)) rfl
theorem n_543 : (Jvm.Cond.fieldLinkNest "SlotMat" (158 : Nat) "SlotMat$Notes" "many" "I" "SlotMat") ∈ am_nest := List.mem_filter.mpr ⟨am_mt 543 (by decide +kernel), rfl⟩
theorem w_544 : (Jvm.Cond.laysFinal "SlotMat$Notes" "SlotMat$Notes" "who" "[I") ∈ am_WT := am_wt (am_mt 544 (by decide +kernel)) rfl
theorem w_545 : (Jvm.Cond.soleField "SlotMat$Notes" "who") ∈ am_WT := am_wt (am_mt 545 (by decide +kernel)) rfl
theorem w_546 : (Jvm.Cond.laysFinal "SlotMat$Notes" "SlotMat$Notes" "behind" "[I") ∈ am_WT := am_wt (am_mt 546 (by decide +kernel)) rfl
theorem w_547 : (Jvm.Cond.soleField "SlotMat$Notes" "behind") ∈ am_WT := am_wt (am_mt 547 (by decide +kernel)) rfl
theorem w_548 : (Jvm.Cond.laysFinal "SlotMat$Notes" "SlotMat$Notes" "sum" "[I") ∈ am_WT := am_wt (am_mt 548 (by decide +kernel)) rfl
theorem w_549 : (Jvm.Cond.soleField "SlotMat$Notes" "sum") ∈ am_WT := am_wt (am_mt 549 (by decide +kernel)) rfl
theorem w_550 : (Jvm.Cond.lays "SlotMat$Notes" "SlotMat$Notes" "many" "I") ∈ am_WT := am_wt (am_mt 550 (by decide +kernel)) rfl
theorem w_551 : (Jvm.Cond.soleField "SlotMat$Notes" "many") ∈ am_WT := am_wt (am_mt 551 (by decide +kernel)) rfl
theorem w_552 : (Jvm.Cond.superclass "SlotMat$Notes" "java/lang/Object") ∈ am_WT := am_wt (am_mt 552 (by decide +kernel)) rfl
theorem w_553 : (Jvm.Cond.classLink "SlotMat" (78 : Nat) "SlotMat$OrderSearch") ∈ am_WT := am_wt (am_mt 553 (by decide +kernel)) rfl
theorem w_554 : (Jvm.Cond.instantiable "SlotMat$OrderSearch" (5 : Nat)) ∈ am_WT := am_wt (am_mt 554 (by decide +kernel)) rfl
theorem w_555 : (Jvm.Cond.methodLink "SlotMat" (80 : Nat) ({ cls := "SlotMat$OrderSearch", name := "<init>", desc := "()V" } : Jvm.MethodName)) ∈ am_WT := am_wt (am_mt 555 (by decide +kernel)) rfl
theorem w_556 : (Jvm.Cond.instanceMethod ({ cls := "SlotMat$OrderSearch", name := "<init>", desc := "()V" } : Jvm.MethodName)) ∈ am_WT := am_wt (am_mt 556 (by decide +kernel)) rfl
theorem w_557 : (Jvm.Cond.code ({ cls := "SlotMat$OrderSearch", name := "<init>", desc := "()V" } : Jvm.MethodName) prog_6_method_1_code (2 : Nat) (Option.none : Option Jvm.ClassFile.FieldType)) ∈ am_WT := am_wt (am_mt 557 (by decide +kernel)) rfl
theorem w_558 : (Jvm.Cond.methodLink "SlotMat$OrderSearch" (3 : Nat) ({ cls := "java/lang/Object", name := "<init>", desc := "()V" } : Jvm.MethodName)) ∈ am_WT := am_wt (am_mt 558 (by decide +kernel)) rfl
theorem w_559 : (Jvm.Cond.classLink "SlotMat$OrderSearch" (9 : Nat) "SlotMat$State") ∈ am_WT := am_wt (am_mt 559 (by decide +kernel)) rfl
theorem w_561 : (Jvm.Cond.methodLink "SlotMat$OrderSearch" (32 : Nat) ({ cls := "SlotMat$State", name := "<init>", desc := "()V" } : Jvm.MethodName)) ∈ am_WT := am_wt (am_mt 561 (by decide +kernel)) rfl
theorem w_562 : (Jvm.Cond.fieldLink "SlotMat$OrderSearch" (11 : Nat) "SlotMat$OrderSearch" "levels" "[LSlotMat$State;") ∈ am_WT := am_wt (am_mt 562 (by decide +kernel)) rfl
theorem w_563 : (Jvm.Cond.fieldLink "SlotMat$OrderSearch" (17 : Nat) "SlotMat$OrderSearch" "row" "[I") ∈ am_WT := am_wt (am_mt 563 (by decide +kernel)) rfl
theorem w_564 : (Jvm.Cond.fieldLink "SlotMat$OrderSearch" (21 : Nat) "SlotMat$OrderSearch" "best" "[I") ∈ am_WT := am_wt (am_mt 564 (by decide +kernel)) rfl
theorem w_565 : (Jvm.Cond.fieldLink "SlotMat$OrderSearch" (24 : Nat) "SlotMat$OrderSearch" "mostHeard" "I") ∈ am_WT := am_wt (am_mt 565 (by decide +kernel)) rfl
theorem w_566 : (Jvm.Cond.fieldLink "SlotMat$OrderSearch" (28 : Nat) "SlotMat$OrderSearch" "known" "Z") ∈ am_WT := am_wt (am_mt 566 (by decide +kernel)) rfl
theorem w_567 : (Jvm.Cond.laysFinal "SlotMat$OrderSearch" "SlotMat$OrderSearch" "levels" "[LSlotMat$State;") ∈ am_WT := am_wt (am_mt 567 (by decide +kernel)) rfl
theorem w_568 : (Jvm.Cond.soleField "SlotMat$OrderSearch" "levels") ∈ am_WT := am_wt (am_mt 568 (by decide +kernel)) rfl
theorem w_569 : (Jvm.Cond.laysFinal "SlotMat$OrderSearch" "SlotMat$OrderSearch" "row" "[I") ∈ am_WT := am_wt (am_mt 569 (by decide +kernel)) rfl
theorem w_570 : (Jvm.Cond.soleField "SlotMat$OrderSearch" "row") ∈ am_WT := am_wt (am_mt 570 (by decide +kernel)) rfl
theorem w_571 : (Jvm.Cond.laysFinal "SlotMat$OrderSearch" "SlotMat$OrderSearch" "best" "[I") ∈ am_WT := am_wt (am_mt 571 (by decide +kernel)) rfl
theorem w_572 : (Jvm.Cond.soleField "SlotMat$OrderSearch" "best") ∈ am_WT := am_wt (am_mt 572 (by decide +kernel)) rfl
theorem w_573 : (Jvm.Cond.lays "SlotMat$OrderSearch" "SlotMat$OrderSearch" "mostHeard" "I") ∈ am_WT := am_wt (am_mt 573 (by decide +kernel)) rfl
theorem w_574 : (Jvm.Cond.soleField "SlotMat$OrderSearch" "mostHeard") ∈ am_WT := am_wt (am_mt 574 (by decide +kernel)) rfl
theorem w_575 : (Jvm.Cond.lays "SlotMat$OrderSearch" "SlotMat$OrderSearch" "known" "Z") ∈ am_WT := am_wt (am_mt 575 (by decide +kernel)) rfl
theorem w_576 : (Jvm.Cond.soleField "SlotMat$OrderSearch" "known") ∈ am_WT := am_wt (am_mt 576 (by decide +kernel)) rfl
theorem w_577 : (Jvm.Cond.superclass "SlotMat$OrderSearch" "java/lang/Object") ∈ am_WT := am_wt (am_mt 577 (by decide +kernel)) rfl
theorem w_578 : (Jvm.Cond.fieldLink "SlotMat" (9 : Nat) "SlotMat" "tape" "[B") ∈ am_WT := am_wt (am_mt 578 (by decide +kernel)) rfl
theorem w_579 : (Jvm.Cond.fieldLink "SlotMat" (13 : Nat) "SlotMat" "tapeBytes" "I") ∈ am_WT := am_wt (am_mt 579 (by decide +kernel)) rfl
theorem w_580 : (Jvm.Cond.fieldLink "SlotMat" (20 : Nat) "SlotMat" "reader" "LSlotMat$CityReader;") ∈ am_WT := am_wt (am_mt 580 (by decide +kernel)) rfl
theorem w_581 : (Jvm.Cond.fieldLink "SlotMat" (24 : Nat) "SlotMat" "faultPlace" "I") ∈ am_WT := am_wt (am_mt 581 (by decide +kernel)) rfl
theorem w_582 : (Jvm.Cond.fieldLink "SlotMat" (27 : Nat) "SlotMat" "refused" "[I") ∈ am_WT := am_wt (am_mt 582 (by decide +kernel)) rfl
theorem w_583 : (Jvm.Cond.fieldLink "SlotMat" (34 : Nat) "SlotMat" "town" "LSlotMat$City;") ∈ am_WT := am_wt (am_mt 583 (by decide +kernel)) rfl
theorem w_584 : (Jvm.Cond.fieldLink "SlotMat" (38 : Nat) "SlotMat" "nextTown" "LSlotMat$City;") ∈ am_WT := am_wt (am_mt 584 (by decide +kernel)) rfl
theorem w_585 : (Jvm.Cond.fieldLink "SlotMat" (44 : Nat) "SlotMat" "now" "LSlotMat$State;") ∈ am_WT := am_wt (am_mt 585 (by decide +kernel)) rfl
theorem w_586 : (Jvm.Cond.fieldLink "SlotMat" (48 : Nat) "SlotMat" "future" "LSlotMat$State;") ∈ am_WT := am_wt (am_mt 586 (by decide +kernel)) rfl
theorem w_587 : (Jvm.Cond.fieldLink "SlotMat" (54 : Nat) "SlotMat" "acts" "LSlotMat$Acts;") ∈ am_WT := am_wt (am_mt 587 (by decide +kernel)) rfl
theorem w_588 : (Jvm.Cond.fieldLink "SlotMat" (61 : Nat) "SlotMat" "notes" "LSlotMat$Notes;") ∈ am_WT := am_wt (am_mt 588 (by decide +kernel)) rfl
theorem w_589 : (Jvm.Cond.fieldLink "SlotMat" (65 : Nat) "SlotMat" "hasImage" "Z") ∈ am_WT := am_wt (am_mt 589 (by decide +kernel)) rfl
theorem w_590 : (Jvm.Cond.fieldLink "SlotMat" (69 : Nat) "SlotMat" "imageNow" "LSlotMat$State;") ∈ am_WT := am_wt (am_mt 590 (by decide +kernel)) rfl
theorem w_591 : (Jvm.Cond.fieldLink "SlotMat" (72 : Nat) "SlotMat" "imageActs" "LSlotMat$Acts;") ∈ am_WT := am_wt (am_mt 591 (by decide +kernel)) rfl
theorem w_592 : (Jvm.Cond.fieldLink "SlotMat" (75 : Nat) "SlotMat" "imageNotes" "LSlotMat$Notes;") ∈ am_WT := am_wt (am_mt 592 (by decide +kernel)) rfl
theorem w_593 : (Jvm.Cond.fieldLink "SlotMat" (81 : Nat) "SlotMat" "orders" "LSlotMat$OrderSearch;") ∈ am_WT := am_wt (am_mt 593 (by decide +kernel)) rfl
theorem w_594 : (Jvm.Cond.fieldLink "SlotMat" (85 : Nat) "SlotMat" "heardByThoughts" "[I") ∈ am_WT := am_wt (am_mt 594 (by decide +kernel)) rfl
theorem w_595 : (Jvm.Cond.fieldLink "SlotMat" (88 : Nat) "SlotMat" "gains" "[I") ∈ am_WT := am_wt (am_mt 595 (by decide +kernel)) rfl
theorem w_596 : (Jvm.Cond.fieldLink "SlotMat" (91 : Nat) "SlotMat" "seedNow" "I") ∈ am_WT := am_wt (am_mt 596 (by decide +kernel)) rfl
theorem w_597 : (Jvm.Cond.laysFinal "SlotMat" "SlotMat" "tape" "[B") ∈ am_WT := am_wt (am_mt 597 (by decide +kernel)) rfl
theorem w_598 : (Jvm.Cond.soleField "SlotMat" "tape") ∈ am_WT := am_wt (am_mt 598 (by decide +kernel)) rfl
theorem w_599 : (Jvm.Cond.lays "SlotMat" "SlotMat" "tapeBytes" "I") ∈ am_WT := am_wt (am_mt 599 (by decide +kernel)) rfl
theorem w_600 : (Jvm.Cond.soleField "SlotMat" "tapeBytes") ∈ am_WT := am_wt (am_mt 600 (by decide +kernel)) rfl
theorem w_601 : (Jvm.Cond.laysFinal "SlotMat" "SlotMat" "reader" "LSlotMat$CityReader;") ∈ am_WT := am_wt (am_mt 601 (by decide +kernel)) rfl
theorem w_602 : (Jvm.Cond.soleField "SlotMat" "reader") ∈ am_WT := am_wt (am_mt 602 (by decide +kernel)) rfl
theorem w_603 : (Jvm.Cond.lays "SlotMat" "SlotMat" "faultPlace" "I") ∈ am_WT := am_wt (am_mt 603 (by decide +kernel)) rfl
theorem w_604 : (Jvm.Cond.soleField "SlotMat" "faultPlace") ∈ am_WT := am_wt (am_mt 604 (by decide +kernel)) rfl
theorem w_605 : (Jvm.Cond.laysFinal "SlotMat" "SlotMat" "refused" "[I") ∈ am_WT := am_wt (am_mt 605 (by decide +kernel)) rfl
theorem w_606 : (Jvm.Cond.soleField "SlotMat" "refused") ∈ am_WT := am_wt (am_mt 606 (by decide +kernel)) rfl
theorem w_607 : (Jvm.Cond.lays "SlotMat" "SlotMat" "town" "LSlotMat$City;") ∈ am_WT := am_wt (am_mt 607 (by decide +kernel)) rfl
theorem w_608 : (Jvm.Cond.soleField "SlotMat" "town") ∈ am_WT := am_wt (am_mt 608 (by decide +kernel)) rfl
theorem w_609 : (Jvm.Cond.lays "SlotMat" "SlotMat" "nextTown" "LSlotMat$City;") ∈ am_WT := am_wt (am_mt 609 (by decide +kernel)) rfl
theorem w_610 : (Jvm.Cond.soleField "SlotMat" "nextTown") ∈ am_WT := am_wt (am_mt 610 (by decide +kernel)) rfl
theorem w_611 : (Jvm.Cond.laysFinal "SlotMat" "SlotMat" "now" "LSlotMat$State;") ∈ am_WT := am_wt (am_mt 611 (by decide +kernel)) rfl
theorem w_612 : (Jvm.Cond.soleField "SlotMat" "now") ∈ am_WT := am_wt (am_mt 612 (by decide +kernel)) rfl
theorem w_613 : (Jvm.Cond.laysFinal "SlotMat" "SlotMat" "future" "LSlotMat$State;") ∈ am_WT := am_wt (am_mt 613 (by decide +kernel)) rfl
theorem w_614 : (Jvm.Cond.soleField "SlotMat" "future") ∈ am_WT := am_wt (am_mt 614 (by decide +kernel)) rfl
theorem w_615 : (Jvm.Cond.laysFinal "SlotMat" "SlotMat" "acts" "LSlotMat$Acts;") ∈ am_WT := am_wt (am_mt 615 (by decide +kernel)) rfl
theorem w_616 : (Jvm.Cond.soleField "SlotMat" "acts") ∈ am_WT := am_wt (am_mt 616 (by decide +kernel)) rfl
theorem w_617 : (Jvm.Cond.laysFinal "SlotMat" "SlotMat" "notes" "LSlotMat$Notes;") ∈ am_WT := am_wt (am_mt 617 (by decide +kernel)) rfl
theorem w_618 : (Jvm.Cond.soleField "SlotMat" "notes") ∈ am_WT := am_wt (am_mt 618 (by decide +kernel)) rfl
theorem w_619 : (Jvm.Cond.lays "SlotMat" "SlotMat" "hasImage" "Z") ∈ am_WT := am_wt (am_mt 619 (by decide +kernel)) rfl
theorem w_620 : (Jvm.Cond.soleField "SlotMat" "hasImage") ∈ am_WT := am_wt (am_mt 620 (by decide +kernel)) rfl
theorem w_621 : (Jvm.Cond.laysFinal "SlotMat" "SlotMat" "imageNow" "LSlotMat$State;") ∈ am_WT := am_wt (am_mt 621 (by decide +kernel)) rfl
theorem w_622 : (Jvm.Cond.soleField "SlotMat" "imageNow") ∈ am_WT := am_wt (am_mt 622 (by decide +kernel)) rfl
theorem w_623 : (Jvm.Cond.laysFinal "SlotMat" "SlotMat" "imageActs" "LSlotMat$Acts;") ∈ am_WT := am_wt (am_mt 623 (by decide +kernel)) rfl
theorem w_624 : (Jvm.Cond.soleField "SlotMat" "imageActs") ∈ am_WT := am_wt (am_mt 624 (by decide +kernel)) rfl
theorem w_625 : (Jvm.Cond.laysFinal "SlotMat" "SlotMat" "imageNotes" "LSlotMat$Notes;") ∈ am_WT := am_wt (am_mt 625 (by decide +kernel)) rfl
theorem w_626 : (Jvm.Cond.soleField "SlotMat" "imageNotes") ∈ am_WT := am_wt (am_mt 626 (by decide +kernel)) rfl
theorem w_627 : (Jvm.Cond.laysFinal "SlotMat" "SlotMat" "orders" "LSlotMat$OrderSearch;") ∈ am_WT := am_wt (am_mt 627 (by decide +kernel)) rfl
theorem w_628 : (Jvm.Cond.soleField "SlotMat" "orders") ∈ am_WT := am_wt (am_mt 628 (by decide +kernel)) rfl
theorem w_629 : (Jvm.Cond.laysFinal "SlotMat" "SlotMat" "heardByThoughts" "[I") ∈ am_WT := am_wt (am_mt 629 (by decide +kernel)) rfl
theorem w_630 : (Jvm.Cond.soleField "SlotMat" "heardByThoughts") ∈ am_WT := am_wt (am_mt 630 (by decide +kernel)) rfl
theorem w_631 : (Jvm.Cond.laysFinal "SlotMat" "SlotMat" "gains" "[I") ∈ am_WT := am_wt (am_mt 631 (by decide +kernel)) rfl
theorem w_632 : (Jvm.Cond.soleField "SlotMat" "gains") ∈ am_WT := am_wt (am_mt 632 (by decide +kernel)) rfl
theorem w_633 : (Jvm.Cond.lays "SlotMat" "SlotMat" "seedNow" "I") ∈ am_WT := am_wt (am_mt 633 (by decide +kernel)) rfl
theorem w_634 : (Jvm.Cond.soleField "SlotMat" "seedNow") ∈ am_WT := am_wt (am_mt 634 (by decide +kernel)) rfl
theorem w_635 : (Jvm.Cond.superclass "SlotMat" "java/lang/Object") ∈ am_WT := am_wt (am_mt 635 (by decide +kernel)) rfl
theorem w_636 : (Jvm.Cond.methodLink "SlotMatLaw" (114 : Nat) ({ cls := "SlotMat", name := "feed", desc := "(IIIII)I" } : Jvm.MethodName)) ∈ am_WT := am_wt (am_mt 636 (by decide +kernel)) rfl
theorem w_637 : (Jvm.Cond.instanceMethod ({ cls := "SlotMat", name := "feed", desc := "(IIIII)I" } : Jvm.MethodName)) ∈ am_WT := am_wt (am_mt 637 (by decide +kernel)) rfl
theorem w_638 : (Jvm.Cond.selects "SlotMat" ({ cls := "SlotMat", name := "feed", desc := "(IIIII)I" } : Jvm.MethodName) ({ cls := "SlotMat", name := "feed", desc := "(IIIII)I" } : Jvm.MethodName)) ∈ am_WT := am_wt (am_mt 638 (by decide +kernel)) rfl
theorem w_639 : (Jvm.Cond.code ({ cls := "SlotMat", name := "feed", desc := "(IIIII)I" } : Jvm.MethodName) prog_1_method_2_code (6 : Nat) (Option.some Jvm.ClassFile.FieldType.int)) ∈ am_WT := am_wt (am_mt 639 (by decide +kernel)) rfl
theorem w_640 : (Jvm.Cond.methodLink "SlotMat" (94 : Nat) ({ cls := "SlotMat", name := "putBytes", desc := "(I)V" } : Jvm.MethodName)) ∈ am_WT := am_wt (am_mt 640 (by decide +kernel)) rfl
theorem w_642 : (Jvm.Cond.instanceMethod ({ cls := "SlotMat", name := "putBytes", desc := "(I)V" } : Jvm.MethodName)) ∈ am_WT := am_wt (am_mt 642 (by decide +kernel)) rfl
theorem w_643 : (Jvm.Cond.code ({ cls := "SlotMat", name := "putBytes", desc := "(I)V" } : Jvm.MethodName) prog_1_method_3_code (3 : Nat) (Option.none : Option Jvm.ClassFile.FieldType)) ∈ am_WT := am_wt (am_mt 643 (by decide +kernel)) rfl
theorem w_644 : (Jvm.Cond.methodLink "SlotMatLaw" (129 : Nat) ({ cls := "SlotMat", name := "fault", desc := "()I" } : Jvm.MethodName)) ∈ am_WT := am_wt (am_mt 644 (by decide +kernel)) rfl
theorem w_645 : (Jvm.Cond.instanceMethod ({ cls := "SlotMat", name := "fault", desc := "()I" } : Jvm.MethodName)) ∈ am_WT := am_wt (am_mt 645 (by decide +kernel)) rfl
theorem w_646 : (Jvm.Cond.selects "SlotMat" ({ cls := "SlotMat", name := "fault", desc := "()I" } : Jvm.MethodName) ({ cls := "SlotMat", name := "fault", desc := "()I" } : Jvm.MethodName)) ∈ am_WT := am_wt (am_mt 646 (by decide +kernel)) rfl
theorem w_647 : (Jvm.Cond.code ({ cls := "SlotMat", name := "fault", desc := "()I" } : Jvm.MethodName) prog_1_method_5_code (1 : Nat) (Option.some Jvm.ClassFile.FieldType.int)) ∈ am_WT := am_wt (am_mt 647 (by decide +kernel)) rfl
theorem w_648 : (Jvm.Cond.methodLink "SlotMatLaw" (146 : Nat) ({ cls := "SlotMat", name := "days", desc := "(I)I" } : Jvm.MethodName)) ∈ am_WT := am_wt (am_mt 648 (by decide +kernel)) rfl
theorem w_649 : (Jvm.Cond.instanceMethod ({ cls := "SlotMat", name := "days", desc := "(I)I" } : Jvm.MethodName)) ∈ am_WT := am_wt (am_mt 649 (by decide +kernel)) rfl
theorem w_650 : (Jvm.Cond.selects "SlotMat" ({ cls := "SlotMat", name := "days", desc := "(I)I" } : Jvm.MethodName) ({ cls := "SlotMat", name := "days", desc := "(I)I" } : Jvm.MethodName)) ∈ am_WT := am_wt (am_mt 650 (by decide +kernel)) rfl
theorem w_651 : (Jvm.Cond.code ({ cls := "SlotMat", name := "days", desc := "(I)I" } : Jvm.MethodName) prog_1_method_10_code (3 : Nat) (Option.some Jvm.ClassFile.FieldType.int)) ∈ am_WT := am_wt (am_mt 651 (by decide +kernel)) rfl
theorem w_652 : (Jvm.Cond.methodLink "SlotMat" (128 : Nat) ({ cls := "SlotMat$State", name := "dayNow", desc := "()I" } : Jvm.MethodName)) ∈ am_WT := am_wt (am_mt 652 (by decide +kernel)) rfl
theorem w_653 : (Jvm.Cond.instanceMethod ({ cls := "SlotMat$State", name := "dayNow", desc := "()I" } : Jvm.MethodName)) ∈ am_WT := am_wt (am_mt 653 (by decide +kernel)) rfl
theorem w_654 : (Jvm.Cond.selects "SlotMat$State" ({ cls := "SlotMat$State", name := "dayNow", desc := "()I" } : Jvm.MethodName) ({ cls := "SlotMat$State", name := "dayNow", desc := "()I" } : Jvm.MethodName)) ∈ am_WT := am_wt (am_mt 654 (by decide +kernel)) rfl
theorem w_655 : (Jvm.Cond.code ({ cls := "SlotMat$State", name := "dayNow", desc := "()I" } : Jvm.MethodName) prog_9_method_5_code (1 : Nat) (Option.some Jvm.ClassFile.FieldType.int)) ∈ am_WT := am_wt (am_mt 655 (by decide +kernel)) rfl
theorem w_656 : (Jvm.Cond.methodLink "SlotMat" (214 : Nat) ({ cls := "SlotMat$Acts", name := "keep", desc := "(LSlotMat$State;)V" } : Jvm.MethodName)) ∈ am_WT := am_wt (am_mt 656 (by decide +kernel)) rfl
theorem w_657 : (Jvm.Cond.instanceMethod ({ cls := "SlotMat$Acts", name := "keep", desc := "(LSlotMat$State;)V" } : Jvm.MethodName)) ∈ am_WT := am_wt (am_mt 657 (by decide +kernel)) rfl
theorem w_658 : (Jvm.Cond.selects "SlotMat$Acts" ({ cls := "SlotMat$Acts", name := "keep", desc := "(LSlotMat$State;)V" } : Jvm.MethodName) ({ cls := "SlotMat$Acts", name := "keep", desc := "(LSlotMat$State;)V" } : Jvm.MethodName)) ∈ am_WT := am_wt (am_mt 658 (by decide +kernel)) rfl
theorem w_659 : (Jvm.Cond.code ({ cls := "SlotMat$Acts", name := "keep", desc := "(LSlotMat$State;)V" } : Jvm.MethodName) prog_2_method_3_code (2 : Nat) (Option.none : Option Jvm.ClassFile.FieldType)) ∈ am_WT := am_wt (am_mt 659 (by decide +kernel)) rfl
theorem w_660 : (Jvm.Cond.methodLink "SlotMat$Acts" (27 : Nat) ({ cls := "java/lang/System", name := "arraycopy", desc := "(Ljava/lang/Object;ILjava/lang/Object;II)V" } : Jvm.MethodName)) ∈ am_WT := am_wt (am_mt 660 (by decide +kernel)) rfl
theorem w_661 : (Jvm.Cond.methodLink "SlotMat$Acts" (33 : Nat) ({ cls := "java/lang/Math", name := "min", desc := "(II)I" } : Jvm.MethodName)) ∈ am_WT := am_wt (am_mt 661 (by decide +kernel)) rfl
theorem w_662 : (Jvm.Cond.methodLink "SlotMat" (218 : Nat) ({ cls := "SlotMat$City", name := "passDay", desc := "(LSlotMat$State;)I" } : Jvm.MethodName)) ∈ am_WT := am_wt (am_mt 662 (by decide +kernel)) rfl
theorem w_663 : (Jvm.Cond.instanceMethod ({ cls := "SlotMat$City", name := "passDay", desc := "(LSlotMat$State;)I" } : Jvm.MethodName)) ∈ am_WT := am_wt (am_mt 663 (by decide +kernel)) rfl
theorem w_664 : (Jvm.Cond.selects "SlotMat$City" ({ cls := "SlotMat$City", name := "passDay", desc := "(LSlotMat$State;)I" } : Jvm.MethodName) ({ cls := "SlotMat$City", name := "passDay", desc := "(LSlotMat$State;)I" } : Jvm.MethodName)) ∈ am_WT := am_wt (am_mt 664 (by decide +kernel)) rfl
theorem w_665 : (Jvm.Cond.code ({ cls := "SlotMat$City", name := "passDay", desc := "(LSlotMat$State;)I" } : Jvm.MethodName) prog_3_method_11_code (2 : Nat) (Option.some Jvm.ClassFile.FieldType.int)) ∈ am_WT := am_wt (am_mt 665 (by decide +kernel)) rfl
theorem w_666 : (Jvm.Cond.methodLink "SlotMat$City" (88 : Nat) ({ cls := "SlotMat$State", name := "dayNow", desc := "()I" } : Jvm.MethodName)) ∈ am_WT := am_wt (am_mt 666 (by decide +kernel)) rfl
theorem w_667 : (Jvm.Cond.methodLink "SlotMat$City" (94 : Nat) ({ cls := "SlotMat$City", name := "wetOn", desc := "(I)I" } : Jvm.MethodName)) ∈ am_WT := am_wt (am_mt 667 (by decide +kernel)) rfl
theorem w_668 : (Jvm.Cond.instanceMethod ({ cls := "SlotMat$City", name := "wetOn", desc := "(I)I" } : Jvm.MethodName)) ∈ am_WT := am_wt (am_mt 668 (by decide +kernel)) rfl
theorem w_669 : (Jvm.Cond.selects "SlotMat$City" ({ cls := "SlotMat$City", name := "wetOn", desc := "(I)I" } : Jvm.MethodName) ({ cls := "SlotMat$City", name := "wetOn", desc := "(I)I" } : Jvm.MethodName)) ∈ am_WT := am_wt (am_mt 669 (by decide +kernel)) rfl
theorem w_670 : (Jvm.Cond.code ({ cls := "SlotMat$City", name := "wetOn", desc := "(I)I" } : Jvm.MethodName) prog_3_method_9_code (2 : Nat) (Option.some Jvm.ClassFile.FieldType.int)) ∈ am_WT := am_wt (am_mt 670 (by decide +kernel)) rfl
theorem w_671 : (Jvm.Cond.methodLink "SlotMat$City" (84 : Nat) ({ cls := "java/lang/Math", name := "floorMod", desc := "(II)I" } : Jvm.MethodName)) ∈ am_WT := am_wt (am_mt 671 (by decide +kernel)) rfl
theorem w_672 : (Jvm.Cond.static ({ cls := "java/lang/Math", name := "floorMod", desc := "(II)I" } : Jvm.MethodName)) ∈ am_WT := am_wt (am_mt 672 (by decide +kernel)) rfl
theorem w_673 : (Jvm.Cond.code ({ cls := "java/lang/Math", name := "floorMod", desc := "(II)I" } : Jvm.MethodName) prog_22_method_50_code (3 : Nat) (Option.some Jvm.ClassFile.FieldType.int)) ∈ am_WT := am_wt (am_mt 673 (by decide +kernel)) rfl
theorem w_674 : (Jvm.Cond.methodLink "SlotMat$City" (97 : Nat) ({ cls := "SlotMat$City", name := "boxOn", desc := "(I)I" } : Jvm.MethodName)) ∈ am_WT := am_wt (am_mt 674 (by decide +kernel)) rfl
theorem w_675 : (Jvm.Cond.instanceMethod ({ cls := "SlotMat$City", name := "boxOn", desc := "(I)I" } : Jvm.MethodName)) ∈ am_WT := am_wt (am_mt 675 (by decide +kernel)) rfl
theorem w_676 : (Jvm.Cond.selects "SlotMat$City" ({ cls := "SlotMat$City", name := "boxOn", desc := "(I)I" } : Jvm.MethodName) ({ cls := "SlotMat$City", name := "boxOn", desc := "(I)I" } : Jvm.MethodName)) ∈ am_WT := am_wt (am_mt 676 (by decide +kernel)) rfl
theorem w_677 : (Jvm.Cond.code ({ cls := "SlotMat$City", name := "boxOn", desc := "(I)I" } : Jvm.MethodName) prog_3_method_10_code (2 : Nat) (Option.some Jvm.ClassFile.FieldType.int)) ∈ am_WT := am_wt (am_mt 677 (by decide +kernel)) rfl
theorem w_678 : (Jvm.Cond.methodLink "SlotMat$City" (100 : Nat) ({ cls := "SlotMat$City", name := "passDayWith", desc := "(LSlotMat$State;II)I" } : Jvm.MethodName)) ∈ am_WT := am_wt (am_mt 678 (by decide +kernel)) rfl
theorem w_679 : (Jvm.Cond.instanceMethod ({ cls := "SlotMat$City", name := "passDayWith", desc := "(LSlotMat$State;II)I" } : Jvm.MethodName)) ∈ am_WT := am_wt (am_mt 679 (by decide +kernel)) rfl
theorem w_680 : (Jvm.Cond.selects "SlotMat$City" ({ cls := "SlotMat$City", name := "passDayWith", desc := "(LSlotMat$State;II)I" } : Jvm.MethodName) ({ cls := "SlotMat$City", name := "passDayWith", desc := "(LSlotMat$State;II)I" } : Jvm.MethodName)) ∈ am_WT := am_wt (am_mt 680 (by decide +kernel)) rfl
theorem w_681 : (Jvm.Cond.code ({ cls := "SlotMat$City", name := "passDayWith", desc := "(LSlotMat$State;II)I" } : Jvm.MethodName) prog_3_method_12_code (6 : Nat) (Option.some Jvm.ClassFile.FieldType.int)) ∈ am_WT := am_wt (am_mt 681 (by decide +kernel)) rfl
theorem w_682 : (Jvm.Cond.methodLink "SlotMat$City" (104 : Nat) ({ cls := "SlotMat$City", name := "thoughtsOf", desc := "(LSlotMat$State;II)I" } : Jvm.MethodName)) ∈ am_WT := am_wt (am_mt 682 (by decide +kernel)) rfl
theorem w_684 : (Jvm.Cond.instanceMethod ({ cls := "SlotMat$City", name := "thoughtsOf", desc := "(LSlotMat$State;II)I" } : Jvm.MethodName)) ∈ am_WT := am_wt (am_mt 684 (by decide +kernel)) rfl
theorem w_685 : (Jvm.Cond.code ({ cls := "SlotMat$City", name := "thoughtsOf", desc := "(LSlotMat$State;II)I" } : Jvm.MethodName) prog_3_method_13_code (4 : Nat) (Option.some Jvm.ClassFile.FieldType.int)) ∈ am_WT := am_wt (am_mt 685 (by decide +kernel)) rfl
theorem w_686 : (Jvm.Cond.methodLink "SlotMat$City" (131 : Nat) ({ cls := "SlotMat$Rule", name := "isUntold", desc := "()Z" } : Jvm.MethodName)) ∈ am_WT := am_wt (am_mt 686 (by decide +kernel)) rfl
theorem w_687 : (Jvm.Cond.instanceMethod ({ cls := "SlotMat$Rule", name := "isUntold", desc := "()Z" } : Jvm.MethodName)) ∈ am_WT := am_wt (am_mt 687 (by decide +kernel)) rfl
theorem w_688 : (Jvm.Cond.selects "SlotMat$Rule" ({ cls := "SlotMat$Rule", name := "isUntold", desc := "()Z" } : Jvm.MethodName) ({ cls := "SlotMat$Rule", name := "isUntold", desc := "()Z" } : Jvm.MethodName)) ∈ am_WT := am_wt (am_mt 688 (by decide +kernel)) rfl
theorem w_689 : (Jvm.Cond.code ({ cls := "SlotMat$Rule", name := "isUntold", desc := "()Z" } : Jvm.MethodName) prog_7_method_3_code (1 : Nat) (Option.some Jvm.ClassFile.FieldType.boolean)) ∈ am_WT := am_wt (am_mt 689 (by decide +kernel)) rfl
theorem w_690 : (Jvm.Cond.methodLink "SlotMat$City" (134 : Nat) ({ cls := "SlotMat$State", name := "regretOf", desc := "(I)I" } : Jvm.MethodName)) ∈ am_WT := am_wt (am_mt 690 (by decide +kernel)) rfl
theorem w_691 : (Jvm.Cond.instanceMethod ({ cls := "SlotMat$State", name := "regretOf", desc := "(I)I" } : Jvm.MethodName)) ∈ am_WT := am_wt (am_mt 691 (by decide +kernel)) rfl
theorem w_692 : (Jvm.Cond.selects "SlotMat$State" ({ cls := "SlotMat$State", name := "regretOf", desc := "(I)I" } : Jvm.MethodName) ({ cls := "SlotMat$State", name := "regretOf", desc := "(I)I" } : Jvm.MethodName)) ∈ am_WT := am_wt (am_mt 692 (by decide +kernel)) rfl
theorem w_693 : (Jvm.Cond.code ({ cls := "SlotMat$State", name := "regretOf", desc := "(I)I" } : Jvm.MethodName) prog_9_method_12_code (2 : Nat) (Option.some Jvm.ClassFile.FieldType.int)) ∈ am_WT := am_wt (am_mt 693 (by decide +kernel)) rfl
theorem w_694 : (Jvm.Cond.methodLink "SlotMat$City" (137 : Nat) ({ cls := "SlotMat$State", name := "heardBy", desc := "(I)I" } : Jvm.MethodName)) ∈ am_WT := am_wt (am_mt 694 (by decide +kernel)) rfl
theorem w_695 : (Jvm.Cond.instanceMethod ({ cls := "SlotMat$State", name := "heardBy", desc := "(I)I" } : Jvm.MethodName)) ∈ am_WT := am_wt (am_mt 695 (by decide +kernel)) rfl
theorem w_696 : (Jvm.Cond.selects "SlotMat$State" ({ cls := "SlotMat$State", name := "heardBy", desc := "(I)I" } : Jvm.MethodName) ({ cls := "SlotMat$State", name := "heardBy", desc := "(I)I" } : Jvm.MethodName)) ∈ am_WT := am_wt (am_mt 696 (by decide +kernel)) rfl
theorem w_697 : (Jvm.Cond.code ({ cls := "SlotMat$State", name := "heardBy", desc := "(I)I" } : Jvm.MethodName) prog_9_method_14_code (2 : Nat) (Option.some Jvm.ClassFile.FieldType.int)) ∈ am_WT := am_wt (am_mt 697 (by decide +kernel)) rfl
theorem w_698 : (Jvm.Cond.methodLink "SlotMat$City" (118 : Nat) ({ cls := "SlotMat$State", name := "redOf", desc := "(I)I" } : Jvm.MethodName)) ∈ am_WT := am_wt (am_mt 698 (by decide +kernel)) rfl
theorem w_699 : (Jvm.Cond.instanceMethod ({ cls := "SlotMat$State", name := "redOf", desc := "(I)I" } : Jvm.MethodName)) ∈ am_WT := am_wt (am_mt 699 (by decide +kernel)) rfl
theorem w_700 : (Jvm.Cond.selects "SlotMat$State" ({ cls := "SlotMat$State", name := "redOf", desc := "(I)I" } : Jvm.MethodName) ({ cls := "SlotMat$State", name := "redOf", desc := "(I)I" } : Jvm.MethodName)) ∈ am_WT := am_wt (am_mt 700 (by decide +kernel)) rfl
theorem w_701 : (Jvm.Cond.code ({ cls := "SlotMat$State", name := "redOf", desc := "(I)I" } : Jvm.MethodName) prog_9_method_9_code (2 : Nat) (Option.some Jvm.ClassFile.FieldType.int)) ∈ am_WT := am_wt (am_mt 701 (by decide +kernel)) rfl
theorem w_702 : (Jvm.Cond.methodLink "SlotMat$City" (121 : Nat) ({ cls := "SlotMat$State", name := "heldIn", desc := "(I)I" } : Jvm.MethodName)) ∈ am_WT := am_wt (am_mt 702 (by decide +kernel)) rfl
theorem w_703 : (Jvm.Cond.instanceMethod ({ cls := "SlotMat$State", name := "heldIn", desc := "(I)I" } : Jvm.MethodName)) ∈ am_WT := am_wt (am_mt 703 (by decide +kernel)) rfl
theorem w_704 : (Jvm.Cond.selects "SlotMat$State" ({ cls := "SlotMat$State", name := "heldIn", desc := "(I)I" } : Jvm.MethodName) ({ cls := "SlotMat$State", name := "heldIn", desc := "(I)I" } : Jvm.MethodName)) ∈ am_WT := am_wt (am_mt 704 (by decide +kernel)) rfl
theorem w_705 : (Jvm.Cond.code ({ cls := "SlotMat$State", name := "heldIn", desc := "(I)I" } : Jvm.MethodName) prog_9_method_20_code (2 : Nat) (Option.some Jvm.ClassFile.FieldType.int)) ∈ am_WT := am_wt (am_mt 705 (by decide +kernel)) rfl
theorem w_706 : (Jvm.Cond.methodLink "SlotMat$State" (38 : Nat) ({ cls := "SlotMat$State", name := "sumOf", desc := "(II)I" } : Jvm.MethodName)) ∈ am_WT := am_wt (am_mt 706 (by decide +kernel)) rfl
theorem w_708 : (Jvm.Cond.instanceMethod ({ cls := "SlotMat$State", name := "sumOf", desc := "(II)I" } : Jvm.MethodName)) ∈ am_WT := am_wt (am_mt 708 (by decide +kernel)) rfl
theorem w_709 : (Jvm.Cond.code ({ cls := "SlotMat$State", name := "sumOf", desc := "(II)I" } : Jvm.MethodName) prog_9_method_25_code (5 : Nat) (Option.some Jvm.ClassFile.FieldType.int)) ∈ am_WT := am_wt (am_mt 709 (by decide +kernel)) rfl
theorem w_710 : (Jvm.Cond.methodLink "SlotMat$City" (140 : Nat) ({ cls := "SlotMat$Rule", name := "worth", desc := "([I)I" } : Jvm.MethodName)) ∈ am_WT := am_wt (am_mt 710 (by decide +kernel)) rfl
theorem w_711 : (Jvm.Cond.instanceMethod ({ cls := "SlotMat$Rule", name := "worth", desc := "([I)I" } : Jvm.MethodName)) ∈ am_WT := am_wt (am_mt 711 (by decide +kernel)) rfl
theorem w_712 : (Jvm.Cond.selects "SlotMat$Rule" ({ cls := "SlotMat$Rule", name := "worth", desc := "([I)I" } : Jvm.MethodName) ({ cls := "SlotMat$Rule", name := "worth", desc := "([I)I" } : Jvm.MethodName)) ∈ am_WT := am_wt (am_mt 712 (by decide +kernel)) rfl
theorem w_713 : (Jvm.Cond.code ({ cls := "SlotMat$Rule", name := "worth", desc := "([I)I" } : Jvm.MethodName) prog_7_method_5_code (5 : Nat) (Option.some Jvm.ClassFile.FieldType.int)) ∈ am_WT := am_wt (am_mt 713 (by decide +kernel)) rfl
theorem w_714 : (Jvm.Cond.methodLink "SlotMat$Rule" (22 : Nat) ({ cls := "SlotMat$Rule", name := "joined", desc := "(III)I" } : Jvm.MethodName)) ∈ am_WT := am_wt (am_mt 714 (by decide +kernel)) rfl
theorem w_715 : (Jvm.Cond.static ({ cls := "SlotMat$Rule", name := "joined", desc := "(III)I" } : Jvm.MethodName)) ∈ am_WT := am_wt (am_mt 715 (by decide +kernel)) rfl
theorem w_716 : (Jvm.Cond.code ({ cls := "SlotMat$Rule", name := "joined", desc := "(III)I" } : Jvm.MethodName) prog_7_method_6_code (3 : Nat) (Option.some Jvm.ClassFile.FieldType.int)) ∈ am_WT := am_wt (am_mt 716 (by decide +kernel)) rfl
theorem n_717 : (Jvm.Cond.methodLinkNest "SlotMat$City" (144 : Nat) ({ cls := "SlotMat", name := "keptWithin", desc := "(III)I" } : Jvm.MethodName) "SlotMat") ∈ am_nest := List.mem_filter.mpr ⟨am_mt 717 (by decide +kernel), rfl⟩
theorem w_718 : (Jvm.Cond.static ({ cls := "SlotMat", name := "keptWithin", desc := "(III)I" } : Jvm.MethodName)) ∈ am_WT := am_wt (am_mt 718 (by decide +kernel)) rfl
theorem w_719 : (Jvm.Cond.code ({ cls := "SlotMat", name := "keptWithin", desc := "(III)I" } : Jvm.MethodName) prog_1_method_61_code (3 : Nat) (Option.some Jvm.ClassFile.FieldType.int)) ∈ am_WT := am_wt (am_mt 719 (by decide +kernel)) rfl
theorem w_720 : (Jvm.Cond.methodLink "SlotMat$City" (107 : Nat) ({ cls := "SlotMat$State", name := "think", desc := "(III)V" } : Jvm.MethodName)) ∈ am_WT := am_wt (am_mt 720 (by decide +kernel)) rfl
theorem w_721 : (Jvm.Cond.instanceMethod ({ cls := "SlotMat$State", name := "think", desc := "(III)V" } : Jvm.MethodName)) ∈ am_WT := am_wt (am_mt 721 (by decide +kernel)) rfl
theorem w_722 : (Jvm.Cond.selects "SlotMat$State" ({ cls := "SlotMat$State", name := "think", desc := "(III)V" } : Jvm.MethodName) ({ cls := "SlotMat$State", name := "think", desc := "(III)V" } : Jvm.MethodName)) ∈ am_WT := am_wt (am_mt 722 (by decide +kernel)) rfl
theorem w_723 : (Jvm.Cond.code ({ cls := "SlotMat$State", name := "think", desc := "(III)V" } : Jvm.MethodName) prog_9_method_22_code (5 : Nat) (Option.none : Option Jvm.ClassFile.FieldType)) ∈ am_WT := am_wt (am_mt 723 (by decide +kernel)) rfl
theorem w_724 : (Jvm.Cond.methodLink "SlotMat$State" (42 : Nat) ({ cls := "java/lang/Math", name := "min", desc := "(II)I" } : Jvm.MethodName)) ∈ am_WT := am_wt (am_mt 724 (by decide +kernel)) rfl
theorem w_725 : (Jvm.Cond.methodLink "SlotMat$City" (111 : Nat) ({ cls := "SlotMat$State", name := "onStrike", desc := "()Z" } : Jvm.MethodName)) ∈ am_WT := am_wt (am_mt 725 (by decide +kernel)) rfl
theorem w_726 : (Jvm.Cond.instanceMethod ({ cls := "SlotMat$State", name := "onStrike", desc := "()Z" } : Jvm.MethodName)) ∈ am_WT := am_wt (am_mt 726 (by decide +kernel)) rfl
theorem w_727 : (Jvm.Cond.selects "SlotMat$State" ({ cls := "SlotMat$State", name := "onStrike", desc := "()Z" } : Jvm.MethodName) ({ cls := "SlotMat$State", name := "onStrike", desc := "()Z" } : Jvm.MethodName)) ∈ am_WT := am_wt (am_mt 727 (by decide +kernel)) rfl
theorem w_728 : (Jvm.Cond.code ({ cls := "SlotMat$State", name := "onStrike", desc := "()Z" } : Jvm.MethodName) prog_9_method_7_code (1 : Nat) (Option.some Jvm.ClassFile.FieldType.boolean)) ∈ am_WT := am_wt (am_mt 728 (by decide +kernel)) rfl
theorem w_729 : (Jvm.Cond.methodLink "SlotMat$City" (115 : Nat) ({ cls := "SlotMat$City", name := "fetchAll", desc := "(LSlotMat$State;II)I" } : Jvm.MethodName)) ∈ am_WT := am_wt (am_mt 729 (by decide +kernel)) rfl
theorem w_731 : (Jvm.Cond.instanceMethod ({ cls := "SlotMat$City", name := "fetchAll", desc := "(LSlotMat$State;II)I" } : Jvm.MethodName)) ∈ am_WT := am_wt (am_mt 731 (by decide +kernel)) rfl
theorem w_732 : (Jvm.Cond.code ({ cls := "SlotMat$City", name := "fetchAll", desc := "(LSlotMat$State;II)I" } : Jvm.MethodName) prog_3_method_14_code (10 : Nat) (Option.some Jvm.ClassFile.FieldType.int)) ∈ am_WT := am_wt (am_mt 732 (by decide +kernel)) rfl
theorem w_733 : (Jvm.Cond.methodLink "SlotMat$City" (148 : Nat) ({ cls := "SlotMat$State", name := "heldOf", desc := "(II)I" } : Jvm.MethodName)) ∈ am_WT := am_wt (am_mt 733 (by decide +kernel)) rfl
theorem w_734 : (Jvm.Cond.instanceMethod ({ cls := "SlotMat$State", name := "heldOf", desc := "(II)I" } : Jvm.MethodName)) ∈ am_WT := am_wt (am_mt 734 (by decide +kernel)) rfl
theorem w_735 : (Jvm.Cond.selects "SlotMat$State" ({ cls := "SlotMat$State", name := "heldOf", desc := "(II)I" } : Jvm.MethodName) ({ cls := "SlotMat$State", name := "heldOf", desc := "(II)I" } : Jvm.MethodName)) ∈ am_WT := am_wt (am_mt 735 (by decide +kernel)) rfl
theorem w_736 : (Jvm.Cond.code ({ cls := "SlotMat$State", name := "heldOf", desc := "(II)I" } : Jvm.MethodName) prog_9_method_19_code (3 : Nat) (Option.some Jvm.ClassFile.FieldType.int)) ∈ am_WT := am_wt (am_mt 736 (by decide +kernel)) rfl
theorem w_737 : (Jvm.Cond.methodLink "SlotMat$City" (151 : Nat) ({ cls := "SlotMat$State", name := "atOf", desc := "(I)I" } : Jvm.MethodName)) ∈ am_WT := am_wt (am_mt 737 (by decide +kernel)) rfl
theorem w_738 : (Jvm.Cond.instanceMethod ({ cls := "SlotMat$State", name := "atOf", desc := "(I)I" } : Jvm.MethodName)) ∈ am_WT := am_wt (am_mt 738 (by decide +kernel)) rfl
theorem w_739 : (Jvm.Cond.selects "SlotMat$State" ({ cls := "SlotMat$State", name := "atOf", desc := "(I)I" } : Jvm.MethodName) ({ cls := "SlotMat$State", name := "atOf", desc := "(I)I" } : Jvm.MethodName)) ∈ am_WT := am_wt (am_mt 739 (by decide +kernel)) rfl
theorem w_740 : (Jvm.Cond.code ({ cls := "SlotMat$State", name := "atOf", desc := "(I)I" } : Jvm.MethodName) prog_9_method_17_code (2 : Nat) (Option.some Jvm.ClassFile.FieldType.int)) ∈ am_WT := am_wt (am_mt 740 (by decide +kernel)) rfl
theorem w_741 : (Jvm.Cond.methodLink "SlotMat$City" (79 : Nat) ({ cls := "java/lang/Math", name := "abs", desc := "(I)I" } : Jvm.MethodName)) ∈ am_WT := am_wt (am_mt 741 (by decide +kernel)) rfl
theorem w_742 : (Jvm.Cond.static ({ cls := "java/lang/Math", name := "abs", desc := "(I)I" } : Jvm.MethodName)) ∈ am_WT := am_wt (am_mt 742 (by decide +kernel)) rfl
theorem w_743 : (Jvm.Cond.code ({ cls := "java/lang/Math", name := "abs", desc := "(I)I" } : Jvm.MethodName) prog_22_method_59_code (1 : Nat) (Option.some Jvm.ClassFile.FieldType.int)) ∈ am_WT := am_wt (am_mt 743 (by decide +kernel)) rfl
theorem w_744 : (Jvm.Cond.methodLink "SlotMat$City" (154 : Nat) ({ cls := "SlotMat$State", name := "hear", desc := "(II)V" } : Jvm.MethodName)) ∈ am_WT := am_wt (am_mt 744 (by decide +kernel)) rfl
theorem w_745 : (Jvm.Cond.instanceMethod ({ cls := "SlotMat$State", name := "hear", desc := "(II)V" } : Jvm.MethodName)) ∈ am_WT := am_wt (am_mt 745 (by decide +kernel)) rfl
theorem w_746 : (Jvm.Cond.selects "SlotMat$State" ({ cls := "SlotMat$State", name := "hear", desc := "(II)V" } : Jvm.MethodName) ({ cls := "SlotMat$State", name := "hear", desc := "(II)V" } : Jvm.MethodName)) ∈ am_WT := am_wt (am_mt 746 (by decide +kernel)) rfl
theorem w_747 : (Jvm.Cond.code ({ cls := "SlotMat$State", name := "hear", desc := "(II)V" } : Jvm.MethodName) prog_9_method_16_code (3 : Nat) (Option.none : Option Jvm.ClassFile.FieldType)) ∈ am_WT := am_wt (am_mt 747 (by decide +kernel)) rfl
theorem w_748 : (Jvm.Cond.methodLink "SlotMat$City" (157 : Nat) ({ cls := "SlotMat$State", name := "letGo", desc := "(II)V" } : Jvm.MethodName)) ∈ am_WT := am_wt (am_mt 748 (by decide +kernel)) rfl
theorem w_749 : (Jvm.Cond.instanceMethod ({ cls := "SlotMat$State", name := "letGo", desc := "(II)V" } : Jvm.MethodName)) ∈ am_WT := am_wt (am_mt 749 (by decide +kernel)) rfl
theorem w_750 : (Jvm.Cond.selects "SlotMat$State" ({ cls := "SlotMat$State", name := "letGo", desc := "(II)V" } : Jvm.MethodName) ({ cls := "SlotMat$State", name := "letGo", desc := "(II)V" } : Jvm.MethodName)) ∈ am_WT := am_wt (am_mt 750 (by decide +kernel)) rfl
theorem w_751 : (Jvm.Cond.code ({ cls := "SlotMat$State", name := "letGo", desc := "(II)V" } : Jvm.MethodName) prog_9_method_23_code (4 : Nat) (Option.none : Option Jvm.ClassFile.FieldType)) ∈ am_WT := am_wt (am_mt 751 (by decide +kernel)) rfl
theorem w_752 : (Jvm.Cond.methodLink "SlotMat$State" (47 : Nat) ({ cls := "java/lang/Math", name := "max", desc := "(II)I" } : Jvm.MethodName)) ∈ am_WT := am_wt (am_mt 752 (by decide +kernel)) rfl
theorem w_753 : (Jvm.Cond.methodLink "SlotMat$City" (124 : Nat) ({ cls := "SlotMat$State", name := "setRed", desc := "(II)V" } : Jvm.MethodName)) ∈ am_WT := am_wt (am_mt 753 (by decide +kernel)) rfl
theorem w_754 : (Jvm.Cond.instanceMethod ({ cls := "SlotMat$State", name := "setRed", desc := "(II)V" } : Jvm.MethodName)) ∈ am_WT := am_wt (am_mt 754 (by decide +kernel)) rfl
theorem w_755 : (Jvm.Cond.selects "SlotMat$State" ({ cls := "SlotMat$State", name := "setRed", desc := "(II)V" } : Jvm.MethodName) ({ cls := "SlotMat$State", name := "setRed", desc := "(II)V" } : Jvm.MethodName)) ∈ am_WT := am_wt (am_mt 755 (by decide +kernel)) rfl
theorem w_756 : (Jvm.Cond.code ({ cls := "SlotMat$State", name := "setRed", desc := "(II)V" } : Jvm.MethodName) prog_9_method_10_code (3 : Nat) (Option.none : Option Jvm.ClassFile.FieldType)) ∈ am_WT := am_wt (am_mt 756 (by decide +kernel)) rfl
theorem w_757 : (Jvm.Cond.methodLink "SlotMat$City" (128 : Nat) ({ cls := "SlotMat$State", name := "nextDay", desc := "()V" } : Jvm.MethodName)) ∈ am_WT := am_wt (am_mt 757 (by decide +kernel)) rfl
theorem w_758 : (Jvm.Cond.instanceMethod ({ cls := "SlotMat$State", name := "nextDay", desc := "()V" } : Jvm.MethodName)) ∈ am_WT := am_wt (am_mt 758 (by decide +kernel)) rfl
theorem w_759 : (Jvm.Cond.selects "SlotMat$State" ({ cls := "SlotMat$State", name := "nextDay", desc := "()V" } : Jvm.MethodName) ({ cls := "SlotMat$State", name := "nextDay", desc := "()V" } : Jvm.MethodName)) ∈ am_WT := am_wt (am_mt 759 (by decide +kernel)) rfl
theorem w_760 : (Jvm.Cond.code ({ cls := "SlotMat$State", name := "nextDay", desc := "()V" } : Jvm.MethodName) prog_9_method_6_code (1 : Nat) (Option.none : Option Jvm.ClassFile.FieldType)) ∈ am_WT := am_wt (am_mt 760 (by decide +kernel)) rfl
theorem w_761 : (Jvm.Cond.methodLink "SlotMatLaw" (159 : Nat) ({ cls := "SlotMat", name := "strike", desc := "(Z)Z" } : Jvm.MethodName)) ∈ am_WT := am_wt (am_mt 761 (by decide +kernel)) rfl
theorem w_762 : (Jvm.Cond.instanceMethod ({ cls := "SlotMat", name := "strike", desc := "(Z)Z" } : Jvm.MethodName)) ∈ am_WT := am_wt (am_mt 762 (by decide +kernel)) rfl
theorem w_763 : (Jvm.Cond.selects "SlotMat" ({ cls := "SlotMat", name := "strike", desc := "(Z)Z" } : Jvm.MethodName) ({ cls := "SlotMat", name := "strike", desc := "(Z)Z" } : Jvm.MethodName)) ∈ am_WT := am_wt (am_mt 763 (by decide +kernel)) rfl
theorem w_764 : (Jvm.Cond.code ({ cls := "SlotMat", name := "strike", desc := "(Z)Z" } : Jvm.MethodName) prog_1_method_14_code (2 : Nat) (Option.some Jvm.ClassFile.FieldType.boolean)) ∈ am_WT := am_wt (am_mt 764 (by decide +kernel)) rfl
theorem w_765 : (Jvm.Cond.methodLink "SlotMat" (135 : Nat) ({ cls := "SlotMat$State", name := "onStrike", desc := "()Z" } : Jvm.MethodName)) ∈ am_WT := am_wt (am_mt 765 (by decide +kernel)) rfl
theorem w_766 : (Jvm.Cond.methodLink "SlotMat" (231 : Nat) ({ cls := "SlotMat$State", name := "setStrike", desc := "(Z)V" } : Jvm.MethodName)) ∈ am_WT := am_wt (am_mt 766 (by decide +kernel)) rfl
theorem w_767 : (Jvm.Cond.instanceMethod ({ cls := "SlotMat$State", name := "setStrike", desc := "(Z)V" } : Jvm.MethodName)) ∈ am_WT := am_wt (am_mt 767 (by decide +kernel)) rfl
theorem w_768 : (Jvm.Cond.selects "SlotMat$State" ({ cls := "SlotMat$State", name := "setStrike", desc := "(Z)V" } : Jvm.MethodName) ({ cls := "SlotMat$State", name := "setStrike", desc := "(Z)V" } : Jvm.MethodName)) ∈ am_WT := am_wt (am_mt 768 (by decide +kernel)) rfl
theorem w_769 : (Jvm.Cond.code ({ cls := "SlotMat$State", name := "setStrike", desc := "(Z)V" } : Jvm.MethodName) prog_9_method_8_code (2 : Nat) (Option.none : Option Jvm.ClassFile.FieldType)) ∈ am_WT := am_wt (am_mt 769 (by decide +kernel)) rfl
theorem w_770 : (Jvm.Cond.methodLink "SlotMatLaw" (164 : Nat) ({ cls := "SlotMat", name := "undo", desc := "()I" } : Jvm.MethodName)) ∈ am_WT := am_wt (am_mt 770 (by decide +kernel)) rfl
theorem w_771 : (Jvm.Cond.instanceMethod ({ cls := "SlotMat", name := "undo", desc := "()I" } : Jvm.MethodName)) ∈ am_WT := am_wt (am_mt 771 (by decide +kernel)) rfl
theorem w_772 : (Jvm.Cond.selects "SlotMat" ({ cls := "SlotMat", name := "undo", desc := "()I" } : Jvm.MethodName) ({ cls := "SlotMat", name := "undo", desc := "()I" } : Jvm.MethodName)) ∈ am_WT := am_wt (am_mt 772 (by decide +kernel)) rfl
theorem w_773 : (Jvm.Cond.code ({ cls := "SlotMat", name := "undo", desc := "()I" } : Jvm.MethodName) prog_1_method_15_code (1 : Nat) (Option.some Jvm.ClassFile.FieldType.int)) ∈ am_WT := am_wt (am_mt 773 (by decide +kernel)) rfl
theorem w_774 : (Jvm.Cond.methodLink "SlotMat" (235 : Nat) ({ cls := "SlotMat$Acts", name := "takeBack", desc := "(LSlotMat$State;)V" } : Jvm.MethodName)) ∈ am_WT := am_wt (am_mt 774 (by decide +kernel)) rfl
theorem w_775 : (Jvm.Cond.instanceMethod ({ cls := "SlotMat$Acts", name := "takeBack", desc := "(LSlotMat$State;)V" } : Jvm.MethodName)) ∈ am_WT := am_wt (am_mt 775 (by decide +kernel)) rfl
theorem w_776 : (Jvm.Cond.selects "SlotMat$Acts" ({ cls := "SlotMat$Acts", name := "takeBack", desc := "(LSlotMat$State;)V" } : Jvm.MethodName) ({ cls := "SlotMat$Acts", name := "takeBack", desc := "(LSlotMat$State;)V" } : Jvm.MethodName)) ∈ am_WT := am_wt (am_mt 776 (by decide +kernel)) rfl
theorem w_777 : (Jvm.Cond.code ({ cls := "SlotMat$Acts", name := "takeBack", desc := "(LSlotMat$State;)V" } : Jvm.MethodName) prog_2_method_4_code (2 : Nat) (Option.none : Option Jvm.ClassFile.FieldType)) ∈ am_WT := am_wt (am_mt 777 (by decide +kernel)) rfl
theorem w_778 : (Jvm.Cond.methodLink "SlotMatLaw" (202 : Nat) ({ cls := "SlotMat", name := "forget", desc := "()V" } : Jvm.MethodName)) ∈ am_WT := am_wt (am_mt 778 (by decide +kernel)) rfl
theorem w_779 : (Jvm.Cond.instanceMethod ({ cls := "SlotMat", name := "forget", desc := "()V" } : Jvm.MethodName)) ∈ am_WT := am_wt (am_mt 779 (by decide +kernel)) rfl
theorem w_780 : (Jvm.Cond.selects "SlotMat" ({ cls := "SlotMat", name := "forget", desc := "()V" } : Jvm.MethodName) ({ cls := "SlotMat", name := "forget", desc := "()V" } : Jvm.MethodName)) ∈ am_WT := am_wt (am_mt 780 (by decide +kernel)) rfl
theorem w_781 : (Jvm.Cond.code ({ cls := "SlotMat", name := "forget", desc := "()V" } : Jvm.MethodName) prog_1_method_28_code (1 : Nat) (Option.none : Option Jvm.ClassFile.FieldType)) ∈ am_WT := am_wt (am_mt 781 (by decide +kernel)) rfl
theorem w_782 : (Jvm.Cond.methodLink "SlotMat" (120 : Nat) ({ cls := "SlotMat$Notes", name := "clearAll", desc := "()V" } : Jvm.MethodName)) ∈ am_WT := am_wt (am_mt 782 (by decide +kernel)) rfl
theorem w_783 : (Jvm.Cond.instanceMethod ({ cls := "SlotMat$Notes", name := "clearAll", desc := "()V" } : Jvm.MethodName)) ∈ am_WT := am_wt (am_mt 783 (by decide +kernel)) rfl
theorem w_784 : (Jvm.Cond.selects "SlotMat$Notes" ({ cls := "SlotMat$Notes", name := "clearAll", desc := "()V" } : Jvm.MethodName) ({ cls := "SlotMat$Notes", name := "clearAll", desc := "()V" } : Jvm.MethodName)) ∈ am_WT := am_wt (am_mt 784 (by decide +kernel)) rfl
theorem w_785 : (Jvm.Cond.code ({ cls := "SlotMat$Notes", name := "clearAll", desc := "()V" } : Jvm.MethodName) prog_5_method_2_code (1 : Nat) (Option.none : Option Jvm.ClassFile.FieldType)) ∈ am_WT := am_wt (am_mt 785 (by decide +kernel)) rfl
theorem w_786 : (Jvm.Cond.methodLink "SlotMatLaw" (234 : Nat) ({ cls := "SlotMat", name := "middle", desc := "()I" } : Jvm.MethodName)) ∈ am_WT := am_wt (am_mt 786 (by decide +kernel)) rfl
theorem w_787 : (Jvm.Cond.instanceMethod ({ cls := "SlotMat", name := "middle", desc := "()I" } : Jvm.MethodName)) ∈ am_WT := am_wt (am_mt 787 (by decide +kernel)) rfl
theorem w_788 : (Jvm.Cond.selects "SlotMat" ({ cls := "SlotMat", name := "middle", desc := "()I" } : Jvm.MethodName) ({ cls := "SlotMat", name := "middle", desc := "()I" } : Jvm.MethodName)) ∈ am_WT := am_wt (am_mt 788 (by decide +kernel)) rfl
theorem w_789 : (Jvm.Cond.code ({ cls := "SlotMat", name := "middle", desc := "()I" } : Jvm.MethodName) prog_1_method_51_code (1 : Nat) (Option.some Jvm.ClassFile.FieldType.int)) ∈ am_WT := am_wt (am_mt 789 (by decide +kernel)) rfl
theorem w_790 : (Jvm.Cond.methodLink "SlotMat" (269 : Nat) ({ cls := "SlotMat$City", name := "bestPlace", desc := "(Z)I" } : Jvm.MethodName)) ∈ am_WT := am_wt (am_mt 790 (by decide +kernel)) rfl
theorem w_791 : (Jvm.Cond.instanceMethod ({ cls := "SlotMat$City", name := "bestPlace", desc := "(Z)I" } : Jvm.MethodName)) ∈ am_WT := am_wt (am_mt 791 (by decide +kernel)) rfl
theorem w_792 : (Jvm.Cond.selects "SlotMat$City" ({ cls := "SlotMat$City", name := "bestPlace", desc := "(Z)I" } : Jvm.MethodName) ({ cls := "SlotMat$City", name := "bestPlace", desc := "(Z)I" } : Jvm.MethodName)) ∈ am_WT := am_wt (am_mt 792 (by decide +kernel)) rfl
theorem w_793 : (Jvm.Cond.code ({ cls := "SlotMat$City", name := "bestPlace", desc := "(Z)I" } : Jvm.MethodName) prog_3_method_29_code (6 : Nat) (Option.some Jvm.ClassFile.FieldType.int)) ∈ am_WT := am_wt (am_mt 793 (by decide +kernel)) rfl
theorem w_794 : (Jvm.Cond.methodLink "SlotMat$City" (180 : Nat) ({ cls := "SlotMat$City", name := "waysWith", desc := "(IZ)I" } : Jvm.MethodName)) ∈ am_WT := am_wt (am_mt 794 (by decide +kernel)) rfl
theorem w_795 : (Jvm.Cond.instanceMethod ({ cls := "SlotMat$City", name := "waysWith", desc := "(IZ)I" } : Jvm.MethodName)) ∈ am_WT := am_wt (am_mt 795 (by decide +kernel)) rfl
theorem w_796 : (Jvm.Cond.selects "SlotMat$City" ({ cls := "SlotMat$City", name := "waysWith", desc := "(IZ)I" } : Jvm.MethodName) ({ cls := "SlotMat$City", name := "waysWith", desc := "(IZ)I" } : Jvm.MethodName)) ∈ am_WT := am_wt (am_mt 796 (by decide +kernel)) rfl
theorem w_797 : (Jvm.Cond.code ({ cls := "SlotMat$City", name := "waysWith", desc := "(IZ)I" } : Jvm.MethodName) prog_3_method_30_code (7 : Nat) (Option.some Jvm.ClassFile.FieldType.int)) ∈ am_WT := am_wt (am_mt 797 (by decide +kernel)) rfl
theorem w_798 : (Jvm.Cond.methodLink "SlotMat$City" (184 : Nat) ({ cls := "java/lang/Math", name := "min", desc := "(II)I" } : Jvm.MethodName)) ∈ am_WT := am_wt (am_mt 798 (by decide +kernel)) rfl
theorem w_799 : (Jvm.Cond.methodLink "SlotMatLaw" (247 : Nat) ({ cls := "SlotMat", name := "image", desc := "()V" } : Jvm.MethodName)) ∈ am_WT := am_wt (am_mt 799 (by decide +kernel)) rfl
theorem w_800 : (Jvm.Cond.instanceMethod ({ cls := "SlotMat", name := "image", desc := "()V" } : Jvm.MethodName)) ∈ am_WT := am_wt (am_mt 800 (by decide +kernel)) rfl
theorem w_801 : (Jvm.Cond.selects "SlotMat" ({ cls := "SlotMat", name := "image", desc := "()V" } : Jvm.MethodName) ({ cls := "SlotMat", name := "image", desc := "()V" } : Jvm.MethodName)) ∈ am_WT := am_wt (am_mt 801 (by decide +kernel)) rfl
theorem w_802 : (Jvm.Cond.code ({ cls := "SlotMat", name := "image", desc := "()V" } : Jvm.MethodName) prog_1_method_55_code (1 : Nat) (Option.none : Option Jvm.ClassFile.FieldType)) ∈ am_WT := am_wt (am_mt 802 (by decide +kernel)) rfl
theorem w_803 : (Jvm.Cond.methodLink "SlotMat" (248 : Nat) ({ cls := "SlotMat$State", name := "copyFrom", desc := "(LSlotMat$State;)V" } : Jvm.MethodName)) ∈ am_WT := am_wt (am_mt 803 (by decide +kernel)) rfl
theorem w_804 : (Jvm.Cond.instanceMethod ({ cls := "SlotMat$State", name := "copyFrom", desc := "(LSlotMat$State;)V" } : Jvm.MethodName)) ∈ am_WT := am_wt (am_mt 804 (by decide +kernel)) rfl
theorem w_805 : (Jvm.Cond.selects "SlotMat$State" ({ cls := "SlotMat$State", name := "copyFrom", desc := "(LSlotMat$State;)V" } : Jvm.MethodName) ({ cls := "SlotMat$State", name := "copyFrom", desc := "(LSlotMat$State;)V" } : Jvm.MethodName)) ∈ am_WT := am_wt (am_mt 805 (by decide +kernel)) rfl
theorem w_806 : (Jvm.Cond.code ({ cls := "SlotMat$State", name := "copyFrom", desc := "(LSlotMat$State;)V" } : Jvm.MethodName) prog_9_method_3_code (2 : Nat) (Option.none : Option Jvm.ClassFile.FieldType)) ∈ am_WT := am_wt (am_mt 806 (by decide +kernel)) rfl
theorem w_807 : (Jvm.Cond.methodLink "SlotMat$State" (29 : Nat) ({ cls := "java/lang/System", name := "arraycopy", desc := "(Ljava/lang/Object;ILjava/lang/Object;II)V" } : Jvm.MethodName)) ∈ am_WT := am_wt (am_mt 807 (by decide +kernel)) rfl
theorem w_808 : (Jvm.Cond.methodLink "SlotMat" (357 : Nat) ({ cls := "SlotMat$Acts", name := "copyFrom", desc := "(LSlotMat$Acts;)V" } : Jvm.MethodName)) ∈ am_WT := am_wt (am_mt 808 (by decide +kernel)) rfl
theorem w_809 : (Jvm.Cond.instanceMethod ({ cls := "SlotMat$Acts", name := "copyFrom", desc := "(LSlotMat$Acts;)V" } : Jvm.MethodName)) ∈ am_WT := am_wt (am_mt 809 (by decide +kernel)) rfl
theorem w_810 : (Jvm.Cond.selects "SlotMat$Acts" ({ cls := "SlotMat$Acts", name := "copyFrom", desc := "(LSlotMat$Acts;)V" } : Jvm.MethodName) ({ cls := "SlotMat$Acts", name := "copyFrom", desc := "(LSlotMat$Acts;)V" } : Jvm.MethodName)) ∈ am_WT := am_wt (am_mt 810 (by decide +kernel)) rfl
theorem w_811 : (Jvm.Cond.code ({ cls := "SlotMat$Acts", name := "copyFrom", desc := "(LSlotMat$Acts;)V" } : Jvm.MethodName) prog_2_method_5_code (2 : Nat) (Option.none : Option Jvm.ClassFile.FieldType)) ∈ am_WT := am_wt (am_mt 811 (by decide +kernel)) rfl
theorem w_812 : (Jvm.Cond.methodLink "SlotMat" (360 : Nat) ({ cls := "SlotMat$Notes", name := "copyFrom", desc := "(LSlotMat$Notes;)V" } : Jvm.MethodName)) ∈ am_WT := am_wt (am_mt 812 (by decide +kernel)) rfl
theorem w_813 : (Jvm.Cond.instanceMethod ({ cls := "SlotMat$Notes", name := "copyFrom", desc := "(LSlotMat$Notes;)V" } : Jvm.MethodName)) ∈ am_WT := am_wt (am_mt 813 (by decide +kernel)) rfl
theorem w_814 : (Jvm.Cond.selects "SlotMat$Notes" ({ cls := "SlotMat$Notes", name := "copyFrom", desc := "(LSlotMat$Notes;)V" } : Jvm.MethodName) ({ cls := "SlotMat$Notes", name := "copyFrom", desc := "(LSlotMat$Notes;)V" } : Jvm.MethodName)) ∈ am_WT := am_wt (am_mt 814 (by decide +kernel)) rfl
theorem w_815 : (Jvm.Cond.code ({ cls := "SlotMat$Notes", name := "copyFrom", desc := "(LSlotMat$Notes;)V" } : Jvm.MethodName) prog_5_method_4_code (2 : Nat) (Option.none : Option Jvm.ClassFile.FieldType)) ∈ am_WT := am_wt (am_mt 815 (by decide +kernel)) rfl
theorem w_816 : (Jvm.Cond.methodLink "SlotMat$Notes" (25 : Nat) ({ cls := "java/lang/System", name := "arraycopy", desc := "(Ljava/lang/Object;ILjava/lang/Object;II)V" } : Jvm.MethodName)) ∈ am_WT := am_wt (am_mt 816 (by decide +kernel)) rfl
theorem w_817 : (Jvm.Cond.methodLink "SlotMatLaw" (251 : Nat) ({ cls := "SlotMat", name := "restore", desc := "()Z" } : Jvm.MethodName)) ∈ am_WT := am_wt (am_mt 817 (by decide +kernel)) rfl
theorem w_818 : (Jvm.Cond.instanceMethod ({ cls := "SlotMat", name := "restore", desc := "()Z" } : Jvm.MethodName)) ∈ am_WT := am_wt (am_mt 818 (by decide +kernel)) rfl
theorem w_819 : (Jvm.Cond.selects "SlotMat" ({ cls := "SlotMat", name := "restore", desc := "()Z" } : Jvm.MethodName) ({ cls := "SlotMat", name := "restore", desc := "()Z" } : Jvm.MethodName)) ∈ am_WT := am_wt (am_mt 819 (by decide +kernel)) rfl
theorem w_820 : (Jvm.Cond.code ({ cls := "SlotMat", name := "restore", desc := "()Z" } : Jvm.MethodName) prog_1_method_56_code (1 : Nat) (Option.some Jvm.ClassFile.FieldType.boolean)) ∈ am_WT := am_wt (am_mt 820 (by decide +kernel)) rfl
theorem w_821 : (Jvm.Cond.methodLink "SlotMatLaw" (119 : Nat) ({ cls := "SlotMatLaw", name := "city", desc := "(LSlotMat;I[J)I" } : Jvm.MethodName)) ∈ am_WT := am_wt (am_mt 821 (by decide +kernel)) rfl
theorem w_822 : (Jvm.Cond.static ({ cls := "SlotMatLaw", name := "city", desc := "(LSlotMat;I[J)I" } : Jvm.MethodName)) ∈ am_WT := am_wt (am_mt 822 (by decide +kernel)) rfl
theorem w_823 : (Jvm.Cond.codeWith ({ cls := "SlotMatLaw", name := "city", desc := "(LSlotMat;I[J)I" } : Jvm.MethodName) method_3_code (4 : Nat) (Option.some Jvm.ClassFile.FieldType.int) [((0 : Nat), (9 : Nat), (12 : Nat), (13 : Nat))]) ∈ am_WT := am_wt (am_mt 823 (by decide +kernel)) rfl
theorem w_824 : (Jvm.Cond.classLink "SlotMatLaw" (13 : Nat) "java/lang/IllegalArgumentException") ∈ am_WT := am_wt (am_mt 824 (by decide +kernel)) rfl
theorem w_825 : (Jvm.Cond.methodLink "SlotMatLaw" (7 : Nat) ({ cls := "SlotMat", name := "city", desc := "(I)I" } : Jvm.MethodName)) ∈ am_WT := am_wt (am_mt 825 (by decide +kernel)) rfl
theorem w_826 : (Jvm.Cond.instanceMethod ({ cls := "SlotMat", name := "city", desc := "(I)I" } : Jvm.MethodName)) ∈ am_WT := am_wt (am_mt 826 (by decide +kernel)) rfl
theorem w_827 : (Jvm.Cond.selects "SlotMat" ({ cls := "SlotMat", name := "city", desc := "(I)I" } : Jvm.MethodName) ({ cls := "SlotMat", name := "city", desc := "(I)I" } : Jvm.MethodName)) ∈ am_WT := am_wt (am_mt 827 (by decide +kernel)) rfl
theorem w_828 : (Jvm.Cond.code ({ cls := "SlotMat", name := "city", desc := "(I)I" } : Jvm.MethodName) prog_1_method_4_code (4 : Nat) (Option.some Jvm.ClassFile.FieldType.int)) ∈ am_WT := am_wt (am_mt 828 (by decide +kernel)) rfl
theorem w_829 : (Jvm.Cond.classLink "SlotMat" (98 : Nat) "java/lang/IllegalArgumentException") ∈ am_WT := am_wt (am_mt 829 (by decide +kernel)) rfl
theorem w_831 : (Jvm.Cond.methodLink "SlotMat" (102 : Nat) ({ cls := "java/lang/IllegalArgumentException", name := "<init>", desc := "(Ljava/lang/String;)V" } : Jvm.MethodName)) ∈ am_WT := am_wt (am_mt 831 (by decide +kernel)) rfl
theorem w_832 : (Jvm.Cond.methodLink "SlotMat" (105 : Nat) ({ cls := "SlotMat$CityReader", name := "read", desc := "([BILSlotMat$City;)I" } : Jvm.MethodName)) ∈ am_WT := am_wt (am_mt 832 (by decide +kernel)) rfl
theorem w_833 : (Jvm.Cond.instanceMethod ({ cls := "SlotMat$CityReader", name := "read", desc := "([BILSlotMat$City;)I" } : Jvm.MethodName)) ∈ am_WT := am_wt (am_mt 833 (by decide +kernel)) rfl
theorem w_834 : (Jvm.Cond.selects "SlotMat$CityReader" ({ cls := "SlotMat$CityReader", name := "read", desc := "([BILSlotMat$City;)I" } : Jvm.MethodName) ({ cls := "SlotMat$CityReader", name := "read", desc := "([BILSlotMat$City;)I" } : Jvm.MethodName)) ∈ am_WT := am_wt (am_mt 834 (by decide +kernel)) rfl
theorem w_835 : (Jvm.Cond.code ({ cls := "SlotMat$CityReader", name := "read", desc := "([BILSlotMat$City;)I" } : Jvm.MethodName) prog_4_method_2_code (5 : Nat) (Option.some Jvm.ClassFile.FieldType.int)) ∈ am_WT := am_wt (am_mt 835 (by decide +kernel)) rfl
theorem w_836 : (Jvm.Cond.methodLink "SlotMat$CityReader" (25 : Nat) ({ cls := "SlotMat$City", name := "clearAll", desc := "()V" } : Jvm.MethodName)) ∈ am_WT := am_wt (am_mt 836 (by decide +kernel)) rfl
theorem w_837 : (Jvm.Cond.instanceMethod ({ cls := "SlotMat$City", name := "clearAll", desc := "()V" } : Jvm.MethodName)) ∈ am_WT := am_wt (am_mt 837 (by decide +kernel)) rfl
theorem w_838 : (Jvm.Cond.selects "SlotMat$City" ({ cls := "SlotMat$City", name := "clearAll", desc := "()V" } : Jvm.MethodName) ({ cls := "SlotMat$City", name := "clearAll", desc := "()V" } : Jvm.MethodName)) ∈ am_WT := am_wt (am_mt 838 (by decide +kernel)) rfl
theorem w_839 : (Jvm.Cond.code ({ cls := "SlotMat$City", name := "clearAll", desc := "()V" } : Jvm.MethodName) prog_3_method_2_code (1 : Nat) (Option.none : Option Jvm.ClassFile.FieldType)) ∈ am_WT := am_wt (am_mt 839 (by decide +kernel)) rfl
theorem w_840 : (Jvm.Cond.methodLink "SlotMat$City" (62 : Nat) ({ cls := "java/util/Arrays", name := "fill", desc := "([II)V" } : Jvm.MethodName)) ∈ am_WT := am_wt (am_mt 840 (by decide +kernel)) rfl
theorem w_841 : (Jvm.Cond.static ({ cls := "java/util/Arrays", name := "fill", desc := "([II)V" } : Jvm.MethodName)) ∈ am_WT := am_wt (am_mt 841 (by decide +kernel)) rfl
theorem w_842 : (Jvm.Cond.code ({ cls := "java/util/Arrays", name := "fill", desc := "([II)V" } : Jvm.MethodName) prog_33_method_103_code (4 : Nat) (Option.none : Option Jvm.ClassFile.FieldType)) ∈ am_WT := am_wt (am_mt 842 (by decide +kernel)) rfl
theorem w_843 : (Jvm.Cond.methodLink "SlotMat$City" (68 : Nat) ({ cls := "SlotMat$Rule", name := "clearAll", desc := "()V" } : Jvm.MethodName)) ∈ am_WT := am_wt (am_mt 843 (by decide +kernel)) rfl
theorem w_844 : (Jvm.Cond.instanceMethod ({ cls := "SlotMat$Rule", name := "clearAll", desc := "()V" } : Jvm.MethodName)) ∈ am_WT := am_wt (am_mt 844 (by decide +kernel)) rfl
theorem w_845 : (Jvm.Cond.selects "SlotMat$Rule" ({ cls := "SlotMat$Rule", name := "clearAll", desc := "()V" } : Jvm.MethodName) ({ cls := "SlotMat$Rule", name := "clearAll", desc := "()V" } : Jvm.MethodName)) ∈ am_WT := am_wt (am_mt 845 (by decide +kernel)) rfl
theorem w_846 : (Jvm.Cond.code ({ cls := "SlotMat$Rule", name := "clearAll", desc := "()V" } : Jvm.MethodName) prog_7_method_2_code (1 : Nat) (Option.none : Option Jvm.ClassFile.FieldType)) ∈ am_WT := am_wt (am_mt 846 (by decide +kernel)) rfl
theorem w_847 : (Jvm.Cond.methodLink "SlotMat$CityReader" (30 : Nat) ({ cls := "SlotMat$Tokens", name := "start", desc := "([BI)V" } : Jvm.MethodName)) ∈ am_WT := am_wt (am_mt 847 (by decide +kernel)) rfl
theorem w_848 : (Jvm.Cond.instanceMethod ({ cls := "SlotMat$Tokens", name := "start", desc := "([BI)V" } : Jvm.MethodName)) ∈ am_WT := am_wt (am_mt 848 (by decide +kernel)) rfl
theorem w_849 : (Jvm.Cond.selects "SlotMat$Tokens" ({ cls := "SlotMat$Tokens", name := "start", desc := "([BI)V" } : Jvm.MethodName) ({ cls := "SlotMat$Tokens", name := "start", desc := "([BI)V" } : Jvm.MethodName)) ∈ am_WT := am_wt (am_mt 849 (by decide +kernel)) rfl
theorem w_850 : (Jvm.Cond.code ({ cls := "SlotMat$Tokens", name := "start", desc := "([BI)V" } : Jvm.MethodName) prog_10_method_2_code (3 : Nat) (Option.none : Option Jvm.ClassFile.FieldType)) ∈ am_WT := am_wt (am_mt 850 (by decide +kernel)) rfl
theorem w_851 : (Jvm.Cond.methodLink "SlotMat$Tokens" (34 : Nat) ({ cls := "java/lang/Math", name := "min", desc := "(II)I" } : Jvm.MethodName)) ∈ am_WT := am_wt (am_mt 851 (by decide +kernel)) rfl
theorem w_852 : (Jvm.Cond.methodLink "SlotMat$Tokens" (40 : Nat) ({ cls := "SlotMat$Tokens", name := "step", desc := "()V" } : Jvm.MethodName)) ∈ am_WT := am_wt (am_mt 852 (by decide +kernel)) rfl
theorem w_853 : (Jvm.Cond.instanceMethod ({ cls := "SlotMat$Tokens", name := "step", desc := "()V" } : Jvm.MethodName)) ∈ am_WT := am_wt (am_mt 853 (by decide +kernel)) rfl
theorem w_854 : (Jvm.Cond.selects "SlotMat$Tokens" ({ cls := "SlotMat$Tokens", name := "step", desc := "()V" } : Jvm.MethodName) ({ cls := "SlotMat$Tokens", name := "step", desc := "()V" } : Jvm.MethodName)) ∈ am_WT := am_wt (am_mt 854 (by decide +kernel)) rfl
theorem w_855 : (Jvm.Cond.code ({ cls := "SlotMat$Tokens", name := "step", desc := "()V" } : Jvm.MethodName) prog_10_method_5_code (1 : Nat) (Option.none : Option Jvm.ClassFile.FieldType)) ∈ am_WT := am_wt (am_mt 855 (by decide +kernel)) rfl
theorem w_856 : (Jvm.Cond.methodLink "SlotMat$Tokens" (43 : Nat) ({ cls := "SlotMat$Tokens", name := "kindOf", desc := "(I)I" } : Jvm.MethodName)) ∈ am_WT := am_wt (am_mt 856 (by decide +kernel)) rfl
theorem w_857 : (Jvm.Cond.static ({ cls := "SlotMat$Tokens", name := "kindOf", desc := "(I)I" } : Jvm.MethodName)) ∈ am_WT := am_wt (am_mt 857 (by decide +kernel)) rfl
theorem w_858 : (Jvm.Cond.code ({ cls := "SlotMat$Tokens", name := "kindOf", desc := "(I)I" } : Jvm.MethodName) prog_10_method_10_code (1 : Nat) (Option.some Jvm.ClassFile.FieldType.int)) ∈ am_WT := am_wt (am_mt 858 (by decide +kernel)) rfl
theorem w_859 : (Jvm.Cond.methodLink "SlotMat$Tokens" (47 : Nat) ({ cls := "SlotMat$Tokens", name := "numberHere", desc := "()I" } : Jvm.MethodName)) ∈ am_WT := am_wt (am_mt 859 (by decide +kernel)) rfl
theorem w_861 : (Jvm.Cond.instanceMethod ({ cls := "SlotMat$Tokens", name := "numberHere", desc := "()I" } : Jvm.MethodName)) ∈ am_WT := am_wt (am_mt 861 (by decide +kernel)) rfl
theorem w_862 : (Jvm.Cond.code ({ cls := "SlotMat$Tokens", name := "numberHere", desc := "()I" } : Jvm.MethodName) prog_10_method_6_code (3 : Nat) (Option.some Jvm.ClassFile.FieldType.int)) ∈ am_WT := am_wt (am_mt 862 (by decide +kernel)) rfl
theorem w_863 : (Jvm.Cond.methodLink "SlotMat$CityReader" (34 : Nat) ({ cls := "SlotMat$Tokens", name := "isFine", desc := "()Z" } : Jvm.MethodName)) ∈ am_WT := am_wt (am_mt 863 (by decide +kernel)) rfl
theorem w_864 : (Jvm.Cond.instanceMethod ({ cls := "SlotMat$Tokens", name := "isFine", desc := "()Z" } : Jvm.MethodName)) ∈ am_WT := am_wt (am_mt 864 (by decide +kernel)) rfl
theorem w_865 : (Jvm.Cond.selects "SlotMat$Tokens" ({ cls := "SlotMat$Tokens", name := "isFine", desc := "()Z" } : Jvm.MethodName) ({ cls := "SlotMat$Tokens", name := "isFine", desc := "()Z" } : Jvm.MethodName)) ∈ am_WT := am_wt (am_mt 865 (by decide +kernel)) rfl
theorem w_866 : (Jvm.Cond.code ({ cls := "SlotMat$Tokens", name := "isFine", desc := "()Z" } : Jvm.MethodName) prog_10_method_4_code (1 : Nat) (Option.some Jvm.ClassFile.FieldType.boolean)) ∈ am_WT := am_wt (am_mt 866 (by decide +kernel)) rfl
theorem w_867 : (Jvm.Cond.methodLink "SlotMat$CityReader" (42 : Nat) ({ cls := "SlotMat$CityReader", name := "readLine", desc := "(LSlotMat$City;)V" } : Jvm.MethodName)) ∈ am_WT := am_wt (am_mt 867 (by decide +kernel)) rfl
theorem w_869 : (Jvm.Cond.instanceMethod ({ cls := "SlotMat$CityReader", name := "readLine", desc := "(LSlotMat$City;)V" } : Jvm.MethodName)) ∈ am_WT := am_wt (am_mt 869 (by decide +kernel)) rfl
theorem w_870 : (Jvm.Cond.code ({ cls := "SlotMat$CityReader", name := "readLine", desc := "(LSlotMat$City;)V" } : Jvm.MethodName) prog_4_method_4_code (2 : Nat) (Option.none : Option Jvm.ClassFile.FieldType)) ∈ am_WT := am_wt (am_mt 870 (by decide +kernel)) rfl
theorem w_872 : (Jvm.Cond.methodLink "SlotMat$CityReader" (57 : Nat) ({ cls := "SlotMat$Tokens", name := "isWord", desc := "(Ljava/lang/String;)Z" } : Jvm.MethodName)) ∈ am_WT := am_wt (am_mt 872 (by decide +kernel)) rfl
theorem w_873 : (Jvm.Cond.instanceMethod ({ cls := "SlotMat$Tokens", name := "isWord", desc := "(Ljava/lang/String;)Z" } : Jvm.MethodName)) ∈ am_WT := am_wt (am_mt 873 (by decide +kernel)) rfl
theorem w_874 : (Jvm.Cond.selects "SlotMat$Tokens" ({ cls := "SlotMat$Tokens", name := "isWord", desc := "(Ljava/lang/String;)Z" } : Jvm.MethodName) ({ cls := "SlotMat$Tokens", name := "isWord", desc := "(Ljava/lang/String;)Z" } : Jvm.MethodName)) ∈ am_WT := am_wt (am_mt 874 (by decide +kernel)) rfl
theorem w_875 : (Jvm.Cond.code ({ cls := "SlotMat$Tokens", name := "isWord", desc := "(Ljava/lang/String;)Z" } : Jvm.MethodName) prog_10_method_7_code (3 : Nat) (Option.some Jvm.ClassFile.FieldType.boolean)) ∈ am_WT := am_wt (am_mt 875 (by decide +kernel)) rfl
theorem w_876 : (Jvm.Cond.methodLink "SlotMat$Tokens" (51 : Nat) ({ cls := "java/lang/String", name := "length", desc := "()I" } : Jvm.MethodName)) ∈ am_WT := am_wt (am_mt 876 (by decide +kernel)) rfl
theorem w_877 : (Jvm.Cond.methodLink "SlotMat$Tokens" (55 : Nat) ({ cls := "java/lang/String", name := "charAt", desc := "(I)C" } : Jvm.MethodName)) ∈ am_WT := am_wt (am_mt 877 (by decide +kernel)) rfl
theorem w_878 : (Jvm.Cond.instanceMethod ({ cls := "java/lang/String", name := "charAt", desc := "(I)C" } : Jvm.MethodName)) ∈ am_WT := am_wt (am_mt 878 (by decide +kernel)) rfl
theorem w_879 : (Jvm.Cond.selects "java/lang/String" ({ cls := "java/lang/String", name := "charAt", desc := "(I)C" } : Jvm.MethodName) ({ cls := "java/lang/String", name := "charAt", desc := "(I)C" } : Jvm.MethodName)) ∈ am_WT := am_wt (am_mt 879 (by decide +kernel)) rfl
theorem w_880 : (Jvm.Cond.code ({ cls := "java/lang/String", name := "charAt", desc := "(I)C" } : Jvm.MethodName) prog_25_method_56_code (2 : Nat) (Option.some Jvm.ClassFile.FieldType.char)) ∈ am_WT := am_wt (am_mt 880 (by decide +kernel)) rfl
theorem w_881 : (Jvm.Cond.methodLink "java/lang/String" (492 : Nat) ({ cls := "java/lang/String", name := "isLatin1", desc := "()Z" } : Jvm.MethodName)) ∈ am_WT := am_wt (am_mt 881 (by decide +kernel)) rfl
theorem w_882 : (Jvm.Cond.instanceMethod ({ cls := "java/lang/String", name := "isLatin1", desc := "()Z" } : Jvm.MethodName)) ∈ am_WT := am_wt (am_mt 882 (by decide +kernel)) rfl
theorem w_883 : (Jvm.Cond.selects "java/lang/String" ({ cls := "java/lang/String", name := "isLatin1", desc := "()Z" } : Jvm.MethodName) ({ cls := "java/lang/String", name := "isLatin1", desc := "()Z" } : Jvm.MethodName)) ∈ am_WT := am_wt (am_mt 883 (by decide +kernel)) rfl
theorem w_884 : (Jvm.Cond.code ({ cls := "java/lang/String", name := "isLatin1", desc := "()Z" } : Jvm.MethodName) prog_25_method_154_code (1 : Nat) (Option.some Jvm.ClassFile.FieldType.boolean)) ∈ am_WT := am_wt (am_mt 884 (by decide +kernel)) rfl
theorem w_885 : (Jvm.Cond.methodLink "java/lang/String" (495 : Nat) ({ cls := "java/lang/StringLatin1", name := "charAt", desc := "([BI)C" } : Jvm.MethodName)) ∈ am_WT := am_wt (am_mt 885 (by decide +kernel)) rfl
theorem w_886 : (Jvm.Cond.static ({ cls := "java/lang/StringLatin1", name := "charAt", desc := "([BI)C" } : Jvm.MethodName)) ∈ am_WT := am_wt (am_mt 886 (by decide +kernel)) rfl
theorem w_887 : (Jvm.Cond.code ({ cls := "java/lang/StringLatin1", name := "charAt", desc := "([BI)C" } : Jvm.MethodName) prog_27_method_2_code (2 : Nat) (Option.some Jvm.ClassFile.FieldType.char)) ∈ am_WT := am_wt (am_mt 887 (by decide +kernel)) rfl
theorem w_888 : (Jvm.Cond.methodLink "java/lang/StringLatin1" (9 : Nat) ({ cls := "java/lang/String", name := "checkIndex", desc := "(II)V" } : Jvm.MethodName)) ∈ am_WT := am_wt (am_mt 888 (by decide +kernel)) rfl
theorem w_889 : (Jvm.Cond.static ({ cls := "java/lang/String", name := "checkIndex", desc := "(II)V" } : Jvm.MethodName)) ∈ am_WT := am_wt (am_mt 889 (by decide +kernel)) rfl
theorem w_890 : (Jvm.Cond.code ({ cls := "java/lang/String", name := "checkIndex", desc := "(II)V" } : Jvm.MethodName) prog_25_method_155_code (2 : Nat) (Option.none : Option Jvm.ClassFile.FieldType)) ∈ am_WT := am_wt (am_mt 890 (by decide +kernel)) rfl
theorem w_891 : (Jvm.Cond.methodLink "java/lang/String" (1059 : Nat) ({ cls := "jdk/internal/util/Preconditions", name := "checkIndex", desc := "(IILjava/util/function/BiFunction;)I" } : Jvm.MethodName)) ∈ am_WT := am_wt (am_mt 891 (by decide +kernel)) rfl
theorem w_892 : (Jvm.Cond.static ({ cls := "jdk/internal/util/Preconditions", name := "checkIndex", desc := "(IILjava/util/function/BiFunction;)I" } : Jvm.MethodName)) ∈ am_WT := am_wt (am_mt 892 (by decide +kernel)) rfl
theorem w_893 : (Jvm.Cond.code ({ cls := "jdk/internal/util/Preconditions", name := "checkIndex", desc := "(IILjava/util/function/BiFunction;)I" } : Jvm.MethodName) prog_36_method_11_code (3 : Nat) (Option.some Jvm.ClassFile.FieldType.int)) ∈ am_WT := am_wt (am_mt 893 (by decide +kernel)) rfl
theorem w_894 : (Jvm.Cond.methodLink "java/lang/String" (498 : Nat) ({ cls := "java/lang/StringUTF16", name := "charAt", desc := "([BI)C" } : Jvm.MethodName)) ∈ am_WT := am_wt (am_mt 894 (by decide +kernel)) rfl
theorem w_895 : (Jvm.Cond.static ({ cls := "java/lang/StringUTF16", name := "charAt", desc := "([BI)C" } : Jvm.MethodName)) ∈ am_WT := am_wt (am_mt 895 (by decide +kernel)) rfl
theorem w_896 : (Jvm.Cond.code ({ cls := "java/lang/StringUTF16", name := "charAt", desc := "([BI)C" } : Jvm.MethodName) prog_28_method_83_code (2 : Nat) (Option.some Jvm.ClassFile.FieldType.char)) ∈ am_WT := am_wt (am_mt 896 (by decide +kernel)) rfl
theorem w_897 : (Jvm.Cond.methodLink "java/lang/StringUTF16" (67 : Nat) ({ cls := "java/lang/StringUTF16", name := "checkIndex", desc := "(I[B)V" } : Jvm.MethodName)) ∈ am_WT := am_wt (am_mt 897 (by decide +kernel)) rfl
theorem w_898 : (Jvm.Cond.static ({ cls := "java/lang/StringUTF16", name := "checkIndex", desc := "(I[B)V" } : Jvm.MethodName)) ∈ am_WT := am_wt (am_mt 898 (by decide +kernel)) rfl
theorem w_899 : (Jvm.Cond.code ({ cls := "java/lang/StringUTF16", name := "checkIndex", desc := "(I[B)V" } : Jvm.MethodName) prog_28_method_91_code (2 : Nat) (Option.none : Option Jvm.ClassFile.FieldType)) ∈ am_WT := am_wt (am_mt 899 (by decide +kernel)) rfl
theorem w_900 : (Jvm.Cond.methodLink "java/lang/StringUTF16" (414 : Nat) ({ cls := "java/lang/String", name := "checkIndex", desc := "(II)V" } : Jvm.MethodName)) ∈ am_WT := am_wt (am_mt 900 (by decide +kernel)) rfl
theorem w_901 : (Jvm.Cond.methodLink "SlotMat$CityReader" (61 : Nat) ({ cls := "SlotMat$CityReader", name := "readBox", desc := "(LSlotMat$City;)V" } : Jvm.MethodName)) ∈ am_WT := am_wt (am_mt 901 (by decide +kernel)) rfl
theorem w_903 : (Jvm.Cond.instanceMethod ({ cls := "SlotMat$CityReader", name := "readBox", desc := "(LSlotMat$City;)V" } : Jvm.MethodName)) ∈ am_WT := am_wt (am_mt 903 (by decide +kernel)) rfl
theorem w_904 : (Jvm.Cond.code ({ cls := "SlotMat$CityReader", name := "readBox", desc := "(LSlotMat$City;)V" } : Jvm.MethodName) prog_4_method_5_code (4 : Nat) (Option.none : Option Jvm.ClassFile.FieldType)) ∈ am_WT := am_wt (am_mt 904 (by decide +kernel)) rfl
theorem w_905 : (Jvm.Cond.methodLink "SlotMat$CityReader" (92 : Nat) ({ cls := "SlotMat$Tokens", name := "fail", desc := "(I)V" } : Jvm.MethodName)) ∈ am_WT := am_wt (am_mt 905 (by decide +kernel)) rfl
theorem w_906 : (Jvm.Cond.instanceMethod ({ cls := "SlotMat$Tokens", name := "fail", desc := "(I)V" } : Jvm.MethodName)) ∈ am_WT := am_wt (am_mt 906 (by decide +kernel)) rfl
theorem w_907 : (Jvm.Cond.selects "SlotMat$Tokens" ({ cls := "SlotMat$Tokens", name := "fail", desc := "(I)V" } : Jvm.MethodName) ({ cls := "SlotMat$Tokens", name := "fail", desc := "(I)V" } : Jvm.MethodName)) ∈ am_WT := am_wt (am_mt 907 (by decide +kernel)) rfl
theorem w_908 : (Jvm.Cond.code ({ cls := "SlotMat$Tokens", name := "fail", desc := "(I)V" } : Jvm.MethodName) prog_10_method_3_code (2 : Nat) (Option.none : Option Jvm.ClassFile.FieldType)) ∈ am_WT := am_wt (am_mt 908 (by decide +kernel)) rfl
theorem w_909 : (Jvm.Cond.methodLink "SlotMat$CityReader" (102 : Nat) ({ cls := "SlotMat$Tokens", name := "step", desc := "()V" } : Jvm.MethodName)) ∈ am_WT := am_wt (am_mt 909 (by decide +kernel)) rfl
theorem w_910 : (Jvm.Cond.methodLink "SlotMat$CityReader" (105 : Nat) ({ cls := "SlotMat$Tokens", name := "takeNumber", desc := "(I)I" } : Jvm.MethodName)) ∈ am_WT := am_wt (am_mt 910 (by decide +kernel)) rfl
theorem w_911 : (Jvm.Cond.instanceMethod ({ cls := "SlotMat$Tokens", name := "takeNumber", desc := "(I)I" } : Jvm.MethodName)) ∈ am_WT := am_wt (am_mt 911 (by decide +kernel)) rfl
theorem w_912 : (Jvm.Cond.selects "SlotMat$Tokens" ({ cls := "SlotMat$Tokens", name := "takeNumber", desc := "(I)I" } : Jvm.MethodName) ({ cls := "SlotMat$Tokens", name := "takeNumber", desc := "(I)I" } : Jvm.MethodName)) ∈ am_WT := am_wt (am_mt 912 (by decide +kernel)) rfl
theorem w_913 : (Jvm.Cond.code ({ cls := "SlotMat$Tokens", name := "takeNumber", desc := "(I)I" } : Jvm.MethodName) prog_10_method_8_code (3 : Nat) (Option.some Jvm.ClassFile.FieldType.int)) ∈ am_WT := am_wt (am_mt 913 (by decide +kernel)) rfl
theorem w_914 : (Jvm.Cond.methodLink "SlotMat$Tokens" (59 : Nat) ({ cls := "SlotMat$Tokens", name := "fail", desc := "(I)V" } : Jvm.MethodName)) ∈ am_WT := am_wt (am_mt 914 (by decide +kernel)) rfl
theorem w_915 : (Jvm.Cond.methodLink "SlotMat$CityReader" (109 : Nat) ({ cls := "SlotMat$City", name := "addBox", desc := "(II)V" } : Jvm.MethodName)) ∈ am_WT := am_wt (am_mt 915 (by decide +kernel)) rfl
theorem w_916 : (Jvm.Cond.instanceMethod ({ cls := "SlotMat$City", name := "addBox", desc := "(II)V" } : Jvm.MethodName)) ∈ am_WT := am_wt (am_mt 916 (by decide +kernel)) rfl
theorem w_917 : (Jvm.Cond.selects "SlotMat$City" ({ cls := "SlotMat$City", name := "addBox", desc := "(II)V" } : Jvm.MethodName) ({ cls := "SlotMat$City", name := "addBox", desc := "(II)V" } : Jvm.MethodName)) ∈ am_WT := am_wt (am_mt 917 (by decide +kernel)) rfl
theorem w_918 : (Jvm.Cond.code ({ cls := "SlotMat$City", name := "addBox", desc := "(II)V" } : Jvm.MethodName) prog_3_method_3_code (3 : Nat) (Option.none : Option Jvm.ClassFile.FieldType)) ∈ am_WT := am_wt (am_mt 918 (by decide +kernel)) rfl
theorem w_920 : (Jvm.Cond.methodLink "SlotMat$CityReader" (66 : Nat) ({ cls := "SlotMat$CityReader", name := "readPerson", desc := "(LSlotMat$City;)V" } : Jvm.MethodName)) ∈ am_WT := am_wt (am_mt 920 (by decide +kernel)) rfl
theorem w_922 : (Jvm.Cond.instanceMethod ({ cls := "SlotMat$CityReader", name := "readPerson", desc := "(LSlotMat$City;)V" } : Jvm.MethodName)) ∈ am_WT := am_wt (am_mt 922 (by decide +kernel)) rfl
theorem w_923 : (Jvm.Cond.code ({ cls := "SlotMat$CityReader", name := "readPerson", desc := "(LSlotMat$City;)V" } : Jvm.MethodName) prog_4_method_6_code (5 : Nat) (Option.none : Option Jvm.ClassFile.FieldType)) ∈ am_WT := am_wt (am_mt 923 (by decide +kernel)) rfl
theorem w_925 : (Jvm.Cond.methodLink "SlotMat$CityReader" (118 : Nat) ({ cls := "SlotMat$CityReader", name := "readAt", desc := "(I)I" } : Jvm.MethodName)) ∈ am_WT := am_wt (am_mt 925 (by decide +kernel)) rfl
theorem w_927 : (Jvm.Cond.instanceMethod ({ cls := "SlotMat$CityReader", name := "readAt", desc := "(I)I" } : Jvm.MethodName)) ∈ am_WT := am_wt (am_mt 927 (by decide +kernel)) rfl
theorem w_928 : (Jvm.Cond.code ({ cls := "SlotMat$CityReader", name := "readAt", desc := "(I)I" } : Jvm.MethodName) prog_4_method_7_code (2 : Nat) (Option.some Jvm.ClassFile.FieldType.int)) ∈ am_WT := am_wt (am_mt 928 (by decide +kernel)) rfl
theorem w_929 : (Jvm.Cond.methodLink "SlotMat$CityReader" (121 : Nat) ({ cls := "SlotMat$City", name := "addPerson", desc := "(III)V" } : Jvm.MethodName)) ∈ am_WT := am_wt (am_mt 929 (by decide +kernel)) rfl
theorem w_930 : (Jvm.Cond.instanceMethod ({ cls := "SlotMat$City", name := "addPerson", desc := "(III)V" } : Jvm.MethodName)) ∈ am_WT := am_wt (am_mt 930 (by decide +kernel)) rfl
theorem w_931 : (Jvm.Cond.selects "SlotMat$City" ({ cls := "SlotMat$City", name := "addPerson", desc := "(III)V" } : Jvm.MethodName) ({ cls := "SlotMat$City", name := "addPerson", desc := "(III)V" } : Jvm.MethodName)) ∈ am_WT := am_wt (am_mt 931 (by decide +kernel)) rfl
theorem w_932 : (Jvm.Cond.code ({ cls := "SlotMat$City", name := "addPerson", desc := "(III)V" } : Jvm.MethodName) prog_3_method_4_code (4 : Nat) (Option.none : Option Jvm.ClassFile.FieldType)) ∈ am_WT := am_wt (am_mt 932 (by decide +kernel)) rfl
theorem w_934 : (Jvm.Cond.methodLink "SlotMat$CityReader" (71 : Nat) ({ cls := "SlotMat$CityReader", name := "readRound", desc := "(LSlotMat$City;)V" } : Jvm.MethodName)) ∈ am_WT := am_wt (am_mt 934 (by decide +kernel)) rfl
theorem w_936 : (Jvm.Cond.instanceMethod ({ cls := "SlotMat$CityReader", name := "readRound", desc := "(LSlotMat$City;)V" } : Jvm.MethodName)) ∈ am_WT := am_wt (am_mt 936 (by decide +kernel)) rfl
theorem w_937 : (Jvm.Cond.code ({ cls := "SlotMat$CityReader", name := "readRound", desc := "(LSlotMat$City;)V" } : Jvm.MethodName) prog_4_method_8_code (4 : Nat) (Option.none : Option Jvm.ClassFile.FieldType)) ∈ am_WT := am_wt (am_mt 937 (by decide +kernel)) rfl
theorem w_938 : (Jvm.Cond.methodLink "SlotMat$CityReader" (131 : Nat) ({ cls := "SlotMat$CityReader", name := "moreNumbers", desc := "(I)Z" } : Jvm.MethodName)) ∈ am_WT := am_wt (am_mt 938 (by decide +kernel)) rfl
theorem w_940 : (Jvm.Cond.instanceMethod ({ cls := "SlotMat$CityReader", name := "moreNumbers", desc := "(I)Z" } : Jvm.MethodName)) ∈ am_WT := am_wt (am_mt 940 (by decide +kernel)) rfl
theorem w_941 : (Jvm.Cond.code ({ cls := "SlotMat$CityReader", name := "moreNumbers", desc := "(I)Z" } : Jvm.MethodName) prog_4_method_10_code (2 : Nat) (Option.some Jvm.ClassFile.FieldType.boolean)) ∈ am_WT := am_wt (am_mt 941 (by decide +kernel)) rfl
theorem w_942 : (Jvm.Cond.methodLink "SlotMat$CityReader" (135 : Nat) ({ cls := "SlotMat$CityReader", name := "readInRow", desc := "(IIII)I" } : Jvm.MethodName)) ∈ am_WT := am_wt (am_mt 942 (by decide +kernel)) rfl
theorem w_944 : (Jvm.Cond.instanceMethod ({ cls := "SlotMat$CityReader", name := "readInRow", desc := "(IIII)I" } : Jvm.MethodName)) ∈ am_WT := am_wt (am_mt 944 (by decide +kernel)) rfl
theorem w_945 : (Jvm.Cond.code ({ cls := "SlotMat$CityReader", name := "readInRow", desc := "(IIII)I" } : Jvm.MethodName) prog_4_method_11_code (5 : Nat) (Option.some Jvm.ClassFile.FieldType.int)) ∈ am_WT := am_wt (am_mt 945 (by decide +kernel)) rfl
theorem w_946 : (Jvm.Cond.methodLink "SlotMat$CityReader" (139 : Nat) ({ cls := "SlotMat$City", name := "addRound", desc := "(I)V" } : Jvm.MethodName)) ∈ am_WT := am_wt (am_mt 946 (by decide +kernel)) rfl
theorem w_947 : (Jvm.Cond.instanceMethod ({ cls := "SlotMat$City", name := "addRound", desc := "(I)V" } : Jvm.MethodName)) ∈ am_WT := am_wt (am_mt 947 (by decide +kernel)) rfl
theorem w_948 : (Jvm.Cond.selects "SlotMat$City" ({ cls := "SlotMat$City", name := "addRound", desc := "(I)V" } : Jvm.MethodName) ({ cls := "SlotMat$City", name := "addRound", desc := "(I)V" } : Jvm.MethodName)) ∈ am_WT := am_wt (am_mt 948 (by decide +kernel)) rfl
theorem w_949 : (Jvm.Cond.code ({ cls := "SlotMat$City", name := "addRound", desc := "(I)V" } : Jvm.MethodName) prog_3_method_5_code (2 : Nat) (Option.none : Option Jvm.ClassFile.FieldType)) ∈ am_WT := am_wt (am_mt 949 (by decide +kernel)) rfl
theorem w_951 : (Jvm.Cond.methodLink "SlotMat$CityReader" (76 : Nat) ({ cls := "SlotMat$CityReader", name := "readWet", desc := "(LSlotMat$City;)V" } : Jvm.MethodName)) ∈ am_WT := am_wt (am_mt 951 (by decide +kernel)) rfl
theorem w_953 : (Jvm.Cond.instanceMethod ({ cls := "SlotMat$CityReader", name := "readWet", desc := "(LSlotMat$City;)V" } : Jvm.MethodName)) ∈ am_WT := am_wt (am_mt 953 (by decide +kernel)) rfl
theorem w_954 : (Jvm.Cond.code ({ cls := "SlotMat$CityReader", name := "readWet", desc := "(LSlotMat$City;)V" } : Jvm.MethodName) prog_4_method_9_code (4 : Nat) (Option.none : Option Jvm.ClassFile.FieldType)) ∈ am_WT := am_wt (am_mt 954 (by decide +kernel)) rfl
theorem w_955 : (Jvm.Cond.methodLink "SlotMat$CityReader" (145 : Nat) ({ cls := "SlotMat$City", name := "addWet", desc := "(I)V" } : Jvm.MethodName)) ∈ am_WT := am_wt (am_mt 955 (by decide +kernel)) rfl
theorem w_956 : (Jvm.Cond.instanceMethod ({ cls := "SlotMat$City", name := "addWet", desc := "(I)V" } : Jvm.MethodName)) ∈ am_WT := am_wt (am_mt 956 (by decide +kernel)) rfl
theorem w_957 : (Jvm.Cond.selects "SlotMat$City" ({ cls := "SlotMat$City", name := "addWet", desc := "(I)V" } : Jvm.MethodName) ({ cls := "SlotMat$City", name := "addWet", desc := "(I)V" } : Jvm.MethodName)) ∈ am_WT := am_wt (am_mt 957 (by decide +kernel)) rfl
theorem w_958 : (Jvm.Cond.code ({ cls := "SlotMat$City", name := "addWet", desc := "(I)V" } : Jvm.MethodName) prog_3_method_6_code (2 : Nat) (Option.none : Option Jvm.ClassFile.FieldType)) ∈ am_WT := am_wt (am_mt 958 (by decide +kernel)) rfl
theorem w_960 : (Jvm.Cond.methodLink "SlotMat$CityReader" (84 : Nat) ({ cls := "SlotMat$RuleReader", name := "read", desc := "(LSlotMat$Tokens;LSlotMat$Rule;Z)V" } : Jvm.MethodName)) ∈ am_WT := am_wt (am_mt 960 (by decide +kernel)) rfl
theorem w_961 : (Jvm.Cond.instanceMethod ({ cls := "SlotMat$RuleReader", name := "read", desc := "(LSlotMat$Tokens;LSlotMat$Rule;Z)V" } : Jvm.MethodName)) ∈ am_WT := am_wt (am_mt 961 (by decide +kernel)) rfl
theorem w_962 : (Jvm.Cond.selects "SlotMat$RuleReader" ({ cls := "SlotMat$RuleReader", name := "read", desc := "(LSlotMat$Tokens;LSlotMat$Rule;Z)V" } : Jvm.MethodName) ({ cls := "SlotMat$RuleReader", name := "read", desc := "(LSlotMat$Tokens;LSlotMat$Rule;Z)V" } : Jvm.MethodName)) ∈ am_WT := am_wt (am_mt 962 (by decide +kernel)) rfl
theorem w_963 : (Jvm.Cond.code ({ cls := "SlotMat$RuleReader", name := "read", desc := "(LSlotMat$Tokens;LSlotMat$Rule;Z)V" } : Jvm.MethodName) prog_8_method_2_code (5 : Nat) (Option.none : Option Jvm.ClassFile.FieldType)) ∈ am_WT := am_wt (am_mt 963 (by decide +kernel)) rfl
theorem w_964 : (Jvm.Cond.methodLink "SlotMat$RuleReader" (32 : Nat) ({ cls := "SlotMat$Rule", name := "isUntold", desc := "()Z" } : Jvm.MethodName)) ∈ am_WT := am_wt (am_mt 964 (by decide +kernel)) rfl
theorem w_965 : (Jvm.Cond.methodLink "SlotMat$RuleReader" (40 : Nat) ({ cls := "SlotMat$Tokens", name := "fail", desc := "(I)V" } : Jvm.MethodName)) ∈ am_WT := am_wt (am_mt 965 (by decide +kernel)) rfl
theorem w_966 : (Jvm.Cond.methodLink "SlotMat$RuleReader" (44 : Nat) ({ cls := "SlotMat$Tokens", name := "step", desc := "()V" } : Jvm.MethodName)) ∈ am_WT := am_wt (am_mt 966 (by decide +kernel)) rfl
theorem w_967 : (Jvm.Cond.methodLink "SlotMat$RuleReader" (47 : Nat) ({ cls := "SlotMat$RuleReader", name := "beginExpression", desc := "()V" } : Jvm.MethodName)) ∈ am_WT := am_wt (am_mt 967 (by decide +kernel)) rfl
theorem w_969 : (Jvm.Cond.instanceMethod ({ cls := "SlotMat$RuleReader", name := "beginExpression", desc := "()V" } : Jvm.MethodName)) ∈ am_WT := am_wt (am_mt 969 (by decide +kernel)) rfl
theorem w_970 : (Jvm.Cond.code ({ cls := "SlotMat$RuleReader", name := "beginExpression", desc := "()V" } : Jvm.MethodName) prog_8_method_4_code (1 : Nat) (Option.none : Option Jvm.ClassFile.FieldType)) ∈ am_WT := am_wt (am_mt 970 (by decide +kernel)) rfl
theorem w_971 : (Jvm.Cond.methodLink "SlotMat$RuleReader" (50 : Nat) ({ cls := "SlotMat$Tokens", name := "isFine", desc := "()Z" } : Jvm.MethodName)) ∈ am_WT := am_wt (am_mt 971 (by decide +kernel)) rfl
theorem w_972 : (Jvm.Cond.methodLink "SlotMat$RuleReader" (53 : Nat) ({ cls := "SlotMat$RuleReader", name := "isEnd", desc := "(LSlotMat$Tokens;)Z" } : Jvm.MethodName)) ∈ am_WT := am_wt (am_mt 972 (by decide +kernel)) rfl
theorem w_974 : (Jvm.Cond.instanceMethod ({ cls := "SlotMat$RuleReader", name := "isEnd", desc := "(LSlotMat$Tokens;)Z" } : Jvm.MethodName)) ∈ am_WT := am_wt (am_mt 974 (by decide +kernel)) rfl
theorem w_975 : (Jvm.Cond.code ({ cls := "SlotMat$RuleReader", name := "isEnd", desc := "(LSlotMat$Tokens;)Z" } : Jvm.MethodName) prog_8_method_3_code (2 : Nat) (Option.some Jvm.ClassFile.FieldType.boolean)) ∈ am_WT := am_wt (am_mt 975 (by decide +kernel)) rfl
theorem w_976 : (Jvm.Cond.methodLink "SlotMat$RuleReader" (57 : Nat) ({ cls := "SlotMat$RuleReader", name := "readPart", desc := "(LSlotMat$Tokens;LSlotMat$Rule;Z)V" } : Jvm.MethodName)) ∈ am_WT := am_wt (am_mt 976 (by decide +kernel)) rfl
theorem w_978 : (Jvm.Cond.instanceMethod ({ cls := "SlotMat$RuleReader", name := "readPart", desc := "(LSlotMat$Tokens;LSlotMat$Rule;Z)V" } : Jvm.MethodName)) ∈ am_WT := am_wt (am_mt 978 (by decide +kernel)) rfl
theorem w_979 : (Jvm.Cond.code ({ cls := "SlotMat$RuleReader", name := "readPart", desc := "(LSlotMat$Tokens;LSlotMat$Rule;Z)V" } : Jvm.MethodName) prog_8_method_5_code (6 : Nat) (Option.none : Option Jvm.ClassFile.FieldType)) ∈ am_WT := am_wt (am_mt 979 (by decide +kernel)) rfl
theorem w_980 : (Jvm.Cond.methodLink "SlotMat$RuleReader" (75 : Nat) ({ cls := "SlotMat$RuleReader", name := "push", desc := "(I)V" } : Jvm.MethodName)) ∈ am_WT := am_wt (am_mt 980 (by decide +kernel)) rfl
theorem w_982 : (Jvm.Cond.instanceMethod ({ cls := "SlotMat$RuleReader", name := "push", desc := "(I)V" } : Jvm.MethodName)) ∈ am_WT := am_wt (am_mt 982 (by decide +kernel)) rfl
theorem w_983 : (Jvm.Cond.code ({ cls := "SlotMat$RuleReader", name := "push", desc := "(I)V" } : Jvm.MethodName) prog_8_method_14_code (2 : Nat) (Option.none : Option Jvm.ClassFile.FieldType)) ∈ am_WT := am_wt (am_mt 983 (by decide +kernel)) rfl
theorem w_984 : (Jvm.Cond.methodLink "SlotMat$RuleReader" (78 : Nat) ({ cls := "SlotMat$Rule", name := "addStep", desc := "(I)V" } : Jvm.MethodName)) ∈ am_WT := am_wt (am_mt 984 (by decide +kernel)) rfl
theorem w_985 : (Jvm.Cond.instanceMethod ({ cls := "SlotMat$Rule", name := "addStep", desc := "(I)V" } : Jvm.MethodName)) ∈ am_WT := am_wt (am_mt 985 (by decide +kernel)) rfl
theorem w_986 : (Jvm.Cond.selects "SlotMat$Rule" ({ cls := "SlotMat$Rule", name := "addStep", desc := "(I)V" } : Jvm.MethodName) ({ cls := "SlotMat$Rule", name := "addStep", desc := "(I)V" } : Jvm.MethodName)) ∈ am_WT := am_wt (am_mt 986 (by decide +kernel)) rfl
theorem w_987 : (Jvm.Cond.code ({ cls := "SlotMat$Rule", name := "addStep", desc := "(I)V" } : Jvm.MethodName) prog_7_method_4_code (2 : Nat) (Option.none : Option Jvm.ClassFile.FieldType)) ∈ am_WT := am_wt (am_mt 987 (by decide +kernel)) rfl
theorem w_989 : (Jvm.Cond.methodLink "SlotMat$RuleReader" (83 : Nat) ({ cls := "SlotMat$Tokens", name := "isWord", desc := "(Ljava/lang/String;)Z" } : Jvm.MethodName)) ∈ am_WT := am_wt (am_mt 989 (by decide +kernel)) rfl
theorem w_990 : (Jvm.Cond.methodLink "SlotMat$RuleReader" (87 : Nat) ({ cls := "SlotMat$RuleReader", name := "readNot", desc := "(LSlotMat$Tokens;)V" } : Jvm.MethodName)) ∈ am_WT := am_wt (am_mt 990 (by decide +kernel)) rfl
theorem w_992 : (Jvm.Cond.instanceMethod ({ cls := "SlotMat$RuleReader", name := "readNot", desc := "(LSlotMat$Tokens;)V" } : Jvm.MethodName)) ∈ am_WT := am_wt (am_mt 992 (by decide +kernel)) rfl
theorem w_993 : (Jvm.Cond.code ({ cls := "SlotMat$RuleReader", name := "readNot", desc := "(LSlotMat$Tokens;)V" } : Jvm.MethodName) prog_8_method_6_code (2 : Nat) (Option.none : Option Jvm.ClassFile.FieldType)) ∈ am_WT := am_wt (am_mt 993 (by decide +kernel)) rfl
theorem w_994 : (Jvm.Cond.methodLink "SlotMat$RuleReader" (91 : Nat) ({ cls := "SlotMat$RuleReader", name := "valueOfThinks", desc := "(LSlotMat$Tokens;)I" } : Jvm.MethodName)) ∈ am_WT := am_wt (am_mt 994 (by decide +kernel)) rfl
theorem w_995 : (Jvm.Cond.static ({ cls := "SlotMat$RuleReader", name := "valueOfThinks", desc := "(LSlotMat$Tokens;)I" } : Jvm.MethodName)) ∈ am_WT := am_wt (am_mt 995 (by decide +kernel)) rfl
theorem w_996 : (Jvm.Cond.code ({ cls := "SlotMat$RuleReader", name := "valueOfThinks", desc := "(LSlotMat$Tokens;)I" } : Jvm.MethodName) prog_8_method_8_code (1 : Nat) (Option.some Jvm.ClassFile.FieldType.int)) ∈ am_WT := am_wt (am_mt 996 (by decide +kernel)) rfl
theorem w_1003 : (Jvm.Cond.methodLink "SlotMat$RuleReader" (95 : Nat) ({ cls := "SlotMat$RuleReader", name := "valueOfSounds", desc := "(LSlotMat$Tokens;)I" } : Jvm.MethodName)) ∈ am_WT := am_wt (am_mt 1003 (by decide +kernel)) rfl
theorem w_1004 : (Jvm.Cond.static ({ cls := "SlotMat$RuleReader", name := "valueOfSounds", desc := "(LSlotMat$Tokens;)I" } : Jvm.MethodName)) ∈ am_WT := am_wt (am_mt 1004 (by decide +kernel)) rfl
theorem w_1005 : (Jvm.Cond.code ({ cls := "SlotMat$RuleReader", name := "valueOfSounds", desc := "(LSlotMat$Tokens;)I" } : Jvm.MethodName) prog_8_method_9_code (1 : Nat) (Option.some Jvm.ClassFile.FieldType.int)) ∈ am_WT := am_wt (am_mt 1005 (by decide +kernel)) rfl
theorem w_1009 : (Jvm.Cond.methodLink "SlotMat$RuleReader" (98 : Nat) ({ cls := "SlotMat$RuleReader", name := "putValue", desc := "(LSlotMat$Tokens;LSlotMat$Rule;I)V" } : Jvm.MethodName)) ∈ am_WT := am_wt (am_mt 1009 (by decide +kernel)) rfl
theorem w_1011 : (Jvm.Cond.instanceMethod ({ cls := "SlotMat$RuleReader", name := "putValue", desc := "(LSlotMat$Tokens;LSlotMat$Rule;I)V" } : Jvm.MethodName)) ∈ am_WT := am_wt (am_mt 1011 (by decide +kernel)) rfl
theorem w_1012 : (Jvm.Cond.code ({ cls := "SlotMat$RuleReader", name := "putValue", desc := "(LSlotMat$Tokens;LSlotMat$Rule;I)V" } : Jvm.MethodName) prog_8_method_7_code (4 : Nat) (Option.none : Option Jvm.ClassFile.FieldType)) ∈ am_WT := am_wt (am_mt 1012 (by decide +kernel)) rfl
theorem w_1013 : (Jvm.Cond.methodLink "SlotMat$RuleReader" (61 : Nat) ({ cls := "SlotMat$RuleReader", name := "readBehindPart", desc := "(LSlotMat$Tokens;LSlotMat$Rule;)V" } : Jvm.MethodName)) ∈ am_WT := am_wt (am_mt 1013 (by decide +kernel)) rfl
theorem w_1015 : (Jvm.Cond.instanceMethod ({ cls := "SlotMat$RuleReader", name := "readBehindPart", desc := "(LSlotMat$Tokens;LSlotMat$Rule;)V" } : Jvm.MethodName)) ∈ am_WT := am_wt (am_mt 1015 (by decide +kernel)) rfl
theorem w_1016 : (Jvm.Cond.code ({ cls := "SlotMat$RuleReader", name := "readBehindPart", desc := "(LSlotMat$Tokens;LSlotMat$Rule;)V" } : Jvm.MethodName) prog_8_method_10_code (4 : Nat) (Option.none : Option Jvm.ClassFile.FieldType)) ∈ am_WT := am_wt (am_mt 1016 (by decide +kernel)) rfl
theorem w_1017 : (Jvm.Cond.methodLink "SlotMat$RuleReader" (120 : Nat) ({ cls := "SlotMat$RuleReader", name := "operatorOf", desc := "(LSlotMat$Tokens;)I" } : Jvm.MethodName)) ∈ am_WT := am_wt (am_mt 1017 (by decide +kernel)) rfl
theorem w_1018 : (Jvm.Cond.static ({ cls := "SlotMat$RuleReader", name := "operatorOf", desc := "(LSlotMat$Tokens;)I" } : Jvm.MethodName)) ∈ am_WT := am_wt (am_mt 1018 (by decide +kernel)) rfl
theorem w_1019 : (Jvm.Cond.code ({ cls := "SlotMat$RuleReader", name := "operatorOf", desc := "(LSlotMat$Tokens;)I" } : Jvm.MethodName) prog_8_method_16_code (1 : Nat) (Option.some Jvm.ClassFile.FieldType.int)) ∈ am_WT := am_wt (am_mt 1019 (by decide +kernel)) rfl
theorem w_1022 : (Jvm.Cond.methodLink "SlotMat$RuleReader" (65 : Nat) ({ cls := "SlotMat$RuleReader", name := "release", desc := "(LSlotMat$Rule;I)V" } : Jvm.MethodName)) ∈ am_WT := am_wt (am_mt 1022 (by decide +kernel)) rfl
theorem w_1024 : (Jvm.Cond.instanceMethod ({ cls := "SlotMat$RuleReader", name := "release", desc := "(LSlotMat$Rule;I)V" } : Jvm.MethodName)) ∈ am_WT := am_wt (am_mt 1024 (by decide +kernel)) rfl
theorem w_1025 : (Jvm.Cond.code ({ cls := "SlotMat$RuleReader", name := "release", desc := "(LSlotMat$Rule;I)V" } : Jvm.MethodName) prog_8_method_13_code (3 : Nat) (Option.none : Option Jvm.ClassFile.FieldType)) ∈ am_WT := am_wt (am_mt 1025 (by decide +kernel)) rfl
theorem w_1026 : (Jvm.Cond.fieldLink "SlotMat$RuleReader" (126 : Nat) "SlotMat$RuleReader" "RANK" "[I") ∈ am_WT := am_wt (am_mt 1026 (by decide +kernel)) rfl
theorem w_1027 : (Jvm.Cond.laysStatic "SlotMat$RuleReader" "RANK" "[I") ∈ am_WT := am_wt (am_mt 1027 (by decide +kernel)) rfl
theorem w_1028 : (Jvm.Cond.methodLink "SlotMat$RuleReader" (123 : Nat) ({ cls := "SlotMat$RuleReader", name := "pop", desc := "()V" } : Jvm.MethodName)) ∈ am_WT := am_wt (am_mt 1028 (by decide +kernel)) rfl
theorem w_1030 : (Jvm.Cond.instanceMethod ({ cls := "SlotMat$RuleReader", name := "pop", desc := "()V" } : Jvm.MethodName)) ∈ am_WT := am_wt (am_mt 1030 (by decide +kernel)) rfl
theorem w_1031 : (Jvm.Cond.code ({ cls := "SlotMat$RuleReader", name := "pop", desc := "()V" } : Jvm.MethodName) prog_8_method_15_code (1 : Nat) (Option.none : Option Jvm.ClassFile.FieldType)) ∈ am_WT := am_wt (am_mt 1031 (by decide +kernel)) rfl
theorem w_1032 : (Jvm.Cond.methodLink "SlotMat$RuleReader" (129 : Nat) ({ cls := "SlotMat$RuleReader", name := "readTest", desc := "(LSlotMat$Tokens;LSlotMat$Rule;I)V" } : Jvm.MethodName)) ∈ am_WT := am_wt (am_mt 1032 (by decide +kernel)) rfl
theorem w_1034 : (Jvm.Cond.instanceMethod ({ cls := "SlotMat$RuleReader", name := "readTest", desc := "(LSlotMat$Tokens;LSlotMat$Rule;I)V" } : Jvm.MethodName)) ∈ am_WT := am_wt (am_mt 1034 (by decide +kernel)) rfl
theorem w_1035 : (Jvm.Cond.code ({ cls := "SlotMat$RuleReader", name := "readTest", desc := "(LSlotMat$Tokens;LSlotMat$Rule;I)V" } : Jvm.MethodName) prog_8_method_11_code (4 : Nat) (Option.none : Option Jvm.ClassFile.FieldType)) ∈ am_WT := am_wt (am_mt 1035 (by decide +kernel)) rfl
theorem w_1036 : (Jvm.Cond.methodLink "SlotMat$RuleReader" (132 : Nat) ({ cls := "SlotMat$RuleReader", name := "letWait", desc := "(I)V" } : Jvm.MethodName)) ∈ am_WT := am_wt (am_mt 1036 (by decide +kernel)) rfl
theorem w_1038 : (Jvm.Cond.instanceMethod ({ cls := "SlotMat$RuleReader", name := "letWait", desc := "(I)V" } : Jvm.MethodName)) ∈ am_WT := am_wt (am_mt 1038 (by decide +kernel)) rfl
theorem w_1039 : (Jvm.Cond.code ({ cls := "SlotMat$RuleReader", name := "letWait", desc := "(I)V" } : Jvm.MethodName) prog_8_method_12_code (2 : Nat) (Option.none : Option Jvm.ClassFile.FieldType)) ∈ am_WT := am_wt (am_mt 1039 (by decide +kernel)) rfl
theorem w_1041 : (Jvm.Cond.methodLink "SlotMat$CityReader" (96 : Nat) ({ cls := "SlotMat$Tokens", name := "takeSign", desc := "(I)V" } : Jvm.MethodName)) ∈ am_WT := am_wt (am_mt 1041 (by decide +kernel)) rfl
theorem w_1042 : (Jvm.Cond.instanceMethod ({ cls := "SlotMat$Tokens", name := "takeSign", desc := "(I)V" } : Jvm.MethodName)) ∈ am_WT := am_wt (am_mt 1042 (by decide +kernel)) rfl
theorem w_1043 : (Jvm.Cond.selects "SlotMat$Tokens" ({ cls := "SlotMat$Tokens", name := "takeSign", desc := "(I)V" } : Jvm.MethodName) ({ cls := "SlotMat$Tokens", name := "takeSign", desc := "(I)V" } : Jvm.MethodName)) ∈ am_WT := am_wt (am_mt 1043 (by decide +kernel)) rfl
theorem w_1044 : (Jvm.Cond.code ({ cls := "SlotMat$Tokens", name := "takeSign", desc := "(I)V" } : Jvm.MethodName) prog_10_method_9_code (2 : Nat) (Option.none : Option Jvm.ClassFile.FieldType)) ∈ am_WT := am_wt (am_mt 1044 (by decide +kernel)) rfl
theorem w_1045 : (Jvm.Cond.methodLink "SlotMat$CityReader" (46 : Nat) ({ cls := "SlotMat$City", name := "settle", desc := "()V" } : Jvm.MethodName)) ∈ am_WT := am_wt (am_mt 1045 (by decide +kernel)) rfl
theorem w_1046 : (Jvm.Cond.instanceMethod ({ cls := "SlotMat$City", name := "settle", desc := "()V" } : Jvm.MethodName)) ∈ am_WT := am_wt (am_mt 1046 (by decide +kernel)) rfl
theorem w_1047 : (Jvm.Cond.selects "SlotMat$City" ({ cls := "SlotMat$City", name := "settle", desc := "()V" } : Jvm.MethodName) ({ cls := "SlotMat$City", name := "settle", desc := "()V" } : Jvm.MethodName)) ∈ am_WT := am_wt (am_mt 1047 (by decide +kernel)) rfl
theorem w_1048 : (Jvm.Cond.code ({ cls := "SlotMat$City", name := "settle", desc := "()V" } : Jvm.MethodName) prog_3_method_7_code (2 : Nat) (Option.none : Option Jvm.ClassFile.FieldType)) ∈ am_WT := am_wt (am_mt 1048 (by decide +kernel)) rfl
theorem w_1049 : (Jvm.Cond.methodLink "SlotMat$City" (71 : Nat) ({ cls := "SlotMat$City", name := "nearestTo", desc := "(I)I" } : Jvm.MethodName)) ∈ am_WT := am_wt (am_mt 1049 (by decide +kernel)) rfl
theorem w_1051 : (Jvm.Cond.instanceMethod ({ cls := "SlotMat$City", name := "nearestTo", desc := "(I)I" } : Jvm.MethodName)) ∈ am_WT := am_wt (am_mt 1051 (by decide +kernel)) rfl
theorem w_1052 : (Jvm.Cond.code ({ cls := "SlotMat$City", name := "nearestTo", desc := "(I)I" } : Jvm.MethodName) prog_3_method_8_code (6 : Nat) (Option.some Jvm.ClassFile.FieldType.int)) ∈ am_WT := am_wt (am_mt 1052 (by decide +kernel)) rfl
theorem w_1053 : (Jvm.Cond.methodLink "SlotMat$City" (75 : Nat) ({ cls := "SlotMat$City", name := "addRound", desc := "(I)V" } : Jvm.MethodName)) ∈ am_WT := am_wt (am_mt 1053 (by decide +kernel)) rfl
theorem w_1054 : (Jvm.Cond.methodLink "SlotMat" (109 : Nat) ({ cls := "SlotMat$CityReader", name := "placeOfFault", desc := "()I" } : Jvm.MethodName)) ∈ am_WT := am_wt (am_mt 1054 (by decide +kernel)) rfl
theorem w_1055 : (Jvm.Cond.instanceMethod ({ cls := "SlotMat$CityReader", name := "placeOfFault", desc := "()I" } : Jvm.MethodName)) ∈ am_WT := am_wt (am_mt 1055 (by decide +kernel)) rfl
theorem w_1056 : (Jvm.Cond.selects "SlotMat$CityReader" ({ cls := "SlotMat$CityReader", name := "placeOfFault", desc := "()I" } : Jvm.MethodName) ({ cls := "SlotMat$CityReader", name := "placeOfFault", desc := "()I" } : Jvm.MethodName)) ∈ am_WT := am_wt (am_mt 1056 (by decide +kernel)) rfl
theorem w_1057 : (Jvm.Cond.code ({ cls := "SlotMat$CityReader", name := "placeOfFault", desc := "()I" } : Jvm.MethodName) prog_4_method_3_code (1 : Nat) (Option.some Jvm.ClassFile.FieldType.int)) ∈ am_WT := am_wt (am_mt 1057 (by decide +kernel)) rfl
theorem w_1058 : (Jvm.Cond.methodLink "SlotMat" (113 : Nat) ({ cls := "SlotMat$State", name := "begin", desc := "(LSlotMat$City;)V" } : Jvm.MethodName)) ∈ am_WT := am_wt (am_mt 1058 (by decide +kernel)) rfl
theorem w_1059 : (Jvm.Cond.instanceMethod ({ cls := "SlotMat$State", name := "begin", desc := "(LSlotMat$City;)V" } : Jvm.MethodName)) ∈ am_WT := am_wt (am_mt 1059 (by decide +kernel)) rfl
theorem w_1060 : (Jvm.Cond.selects "SlotMat$State" ({ cls := "SlotMat$State", name := "begin", desc := "(LSlotMat$City;)V" } : Jvm.MethodName) ({ cls := "SlotMat$State", name := "begin", desc := "(LSlotMat$City;)V" } : Jvm.MethodName)) ∈ am_WT := am_wt (am_mt 1060 (by decide +kernel)) rfl
theorem w_1061 : (Jvm.Cond.code ({ cls := "SlotMat$State", name := "begin", desc := "(LSlotMat$City;)V" } : Jvm.MethodName) prog_9_method_2_code (2 : Nat) (Option.none : Option Jvm.ClassFile.FieldType)) ∈ am_WT := am_wt (am_mt 1061 (by decide +kernel)) rfl
theorem w_1062 : (Jvm.Cond.methodLink "SlotMat$State" (21 : Nat) ({ cls := "java/util/Arrays", name := "fill", desc := "([II)V" } : Jvm.MethodName)) ∈ am_WT := am_wt (am_mt 1062 (by decide +kernel)) rfl
theorem w_1063 : (Jvm.Cond.methodLink "SlotMat" (117 : Nat) ({ cls := "SlotMat$Acts", name := "clearAll", desc := "()V" } : Jvm.MethodName)) ∈ am_WT := am_wt (am_mt 1063 (by decide +kernel)) rfl
theorem w_1064 : (Jvm.Cond.instanceMethod ({ cls := "SlotMat$Acts", name := "clearAll", desc := "()V" } : Jvm.MethodName)) ∈ am_WT := am_wt (am_mt 1064 (by decide +kernel)) rfl
theorem w_1065 : (Jvm.Cond.selects "SlotMat$Acts" ({ cls := "SlotMat$Acts", name := "clearAll", desc := "()V" } : Jvm.MethodName) ({ cls := "SlotMat$Acts", name := "clearAll", desc := "()V" } : Jvm.MethodName)) ∈ am_WT := am_wt (am_mt 1065 (by decide +kernel)) rfl
theorem w_1066 : (Jvm.Cond.code ({ cls := "SlotMat$Acts", name := "clearAll", desc := "()V" } : Jvm.MethodName) prog_2_method_2_code (1 : Nat) (Option.none : Option Jvm.ClassFile.FieldType)) ∈ am_WT := am_wt (am_mt 1066 (by decide +kernel)) rfl
theorem w_1067 : (Jvm.Cond.methodLink "SlotMat" (121 : Nat) ({ cls := "SlotMat$OrderSearch", name := "clearAll", desc := "()V" } : Jvm.MethodName)) ∈ am_WT := am_wt (am_mt 1067 (by decide +kernel)) rfl
theorem w_1068 : (Jvm.Cond.instanceMethod ({ cls := "SlotMat$OrderSearch", name := "clearAll", desc := "()V" } : Jvm.MethodName)) ∈ am_WT := am_wt (am_mt 1068 (by decide +kernel)) rfl
theorem w_1069 : (Jvm.Cond.selects "SlotMat$OrderSearch" ({ cls := "SlotMat$OrderSearch", name := "clearAll", desc := "()V" } : Jvm.MethodName) ({ cls := "SlotMat$OrderSearch", name := "clearAll", desc := "()V" } : Jvm.MethodName)) ∈ am_WT := am_wt (am_mt 1069 (by decide +kernel)) rfl
theorem w_1070 : (Jvm.Cond.code ({ cls := "SlotMat$OrderSearch", name := "clearAll", desc := "()V" } : Jvm.MethodName) prog_6_method_2_code (1 : Nat) (Option.none : Option Jvm.ClassFile.FieldType)) ∈ am_WT := am_wt (am_mt 1070 (by decide +kernel)) rfl
theorem w_1071 : (Jvm.Cond.methodLink "SlotMatLaw" (133 : Nat) ({ cls := "SlotMatLaw", name := "count", desc := "(LSlotMat;I[J)I" } : Jvm.MethodName)) ∈ am_WT := am_wt (am_mt 1071 (by decide +kernel)) rfl
theorem w_1072 : (Jvm.Cond.static ({ cls := "SlotMatLaw", name := "count", desc := "(LSlotMat;I[J)I" } : Jvm.MethodName)) ∈ am_WT := am_wt (am_mt 1072 (by decide +kernel)) rfl
theorem w_1073 : (Jvm.Cond.codeWith ({ cls := "SlotMatLaw", name := "count", desc := "(LSlotMat;I[J)I" } : Jvm.MethodName) method_4_code (4 : Nat) (Option.some Jvm.ClassFile.FieldType.int) [((0 : Nat), (9 : Nat), (12 : Nat), (18 : Nat))]) ∈ am_WT := am_wt (am_mt 1073 (by decide +kernel)) rfl
theorem w_1074 : (Jvm.Cond.classLink "SlotMatLaw" (18 : Nat) "java/util/NoSuchElementException") ∈ am_WT := am_wt (am_mt 1074 (by decide +kernel)) rfl
theorem w_1075 : (Jvm.Cond.methodLink "SlotMatLaw" (15 : Nat) ({ cls := "SlotMat", name := "count", desc := "(I)I" } : Jvm.MethodName)) ∈ am_WT := am_wt (am_mt 1075 (by decide +kernel)) rfl
theorem w_1076 : (Jvm.Cond.instanceMethod ({ cls := "SlotMat", name := "count", desc := "(I)I" } : Jvm.MethodName)) ∈ am_WT := am_wt (am_mt 1076 (by decide +kernel)) rfl
theorem w_1077 : (Jvm.Cond.selects "SlotMat" ({ cls := "SlotMat", name := "count", desc := "(I)I" } : Jvm.MethodName) ({ cls := "SlotMat", name := "count", desc := "(I)I" } : Jvm.MethodName)) ∈ am_WT := am_wt (am_mt 1077 (by decide +kernel)) rfl
theorem w_1078 : (Jvm.Cond.code ({ cls := "SlotMat", name := "count", desc := "(I)I" } : Jvm.MethodName) prog_1_method_6_code (2 : Nat) (Option.some Jvm.ClassFile.FieldType.int)) ∈ am_WT := am_wt (am_mt 1078 (by decide +kernel)) rfl
theorem w_1079 : (Jvm.Cond.methodLink "SlotMat" (131 : Nat) ({ cls := "SlotMat$City", name := "wetOn", desc := "(I)I" } : Jvm.MethodName)) ∈ am_WT := am_wt (am_mt 1079 (by decide +kernel)) rfl
theorem w_1080 : (Jvm.Cond.methodLink "SlotMat" (139 : Nat) ({ cls := "SlotMat$City", name := "boxOn", desc := "(I)I" } : Jvm.MethodName)) ∈ am_WT := am_wt (am_mt 1080 (by decide +kernel)) rfl
theorem w_1081 : (Jvm.Cond.methodLink "SlotMat" (142 : Nat) ({ cls := "SlotMat$State", name := "heldInAll", desc := "()I" } : Jvm.MethodName)) ∈ am_WT := am_wt (am_mt 1081 (by decide +kernel)) rfl
theorem w_1082 : (Jvm.Cond.instanceMethod ({ cls := "SlotMat$State", name := "heldInAll", desc := "()I" } : Jvm.MethodName)) ∈ am_WT := am_wt (am_mt 1082 (by decide +kernel)) rfl
theorem w_1083 : (Jvm.Cond.selects "SlotMat$State" ({ cls := "SlotMat$State", name := "heldInAll", desc := "()I" } : Jvm.MethodName) ({ cls := "SlotMat$State", name := "heldInAll", desc := "()I" } : Jvm.MethodName)) ∈ am_WT := am_wt (am_mt 1083 (by decide +kernel)) rfl
theorem w_1084 : (Jvm.Cond.code ({ cls := "SlotMat$State", name := "heldInAll", desc := "()I" } : Jvm.MethodName) prog_9_method_21_code (1 : Nat) (Option.some Jvm.ClassFile.FieldType.int)) ∈ am_WT := am_wt (am_mt 1084 (by decide +kernel)) rfl
theorem w_1085 : (Jvm.Cond.methodLink "SlotMat" (145 : Nat) ({ cls := "SlotMat$State", name := "heardByAll", desc := "()I" } : Jvm.MethodName)) ∈ am_WT := am_wt (am_mt 1085 (by decide +kernel)) rfl
theorem w_1086 : (Jvm.Cond.instanceMethod ({ cls := "SlotMat$State", name := "heardByAll", desc := "()I" } : Jvm.MethodName)) ∈ am_WT := am_wt (am_mt 1086 (by decide +kernel)) rfl
theorem w_1087 : (Jvm.Cond.selects "SlotMat$State" ({ cls := "SlotMat$State", name := "heardByAll", desc := "()I" } : Jvm.MethodName) ({ cls := "SlotMat$State", name := "heardByAll", desc := "()I" } : Jvm.MethodName)) ∈ am_WT := am_wt (am_mt 1087 (by decide +kernel)) rfl
theorem w_1088 : (Jvm.Cond.code ({ cls := "SlotMat$State", name := "heardByAll", desc := "()I" } : Jvm.MethodName) prog_9_method_15_code (1 : Nat) (Option.some Jvm.ClassFile.FieldType.int)) ∈ am_WT := am_wt (am_mt 1088 (by decide +kernel)) rfl
theorem w_1089 : (Jvm.Cond.methodLink "SlotMat" (148 : Nat) ({ cls := "SlotMat$City", name := "mutualCouples", desc := "(LSlotMat$State;)I" } : Jvm.MethodName)) ∈ am_WT := am_wt (am_mt 1089 (by decide +kernel)) rfl
theorem w_1090 : (Jvm.Cond.instanceMethod ({ cls := "SlotMat$City", name := "mutualCouples", desc := "(LSlotMat$State;)I" } : Jvm.MethodName)) ∈ am_WT := am_wt (am_mt 1090 (by decide +kernel)) rfl
theorem w_1091 : (Jvm.Cond.selects "SlotMat$City" ({ cls := "SlotMat$City", name := "mutualCouples", desc := "(LSlotMat$State;)I" } : Jvm.MethodName) ({ cls := "SlotMat$City", name := "mutualCouples", desc := "(LSlotMat$State;)I" } : Jvm.MethodName)) ∈ am_WT := am_wt (am_mt 1091 (by decide +kernel)) rfl
theorem w_1092 : (Jvm.Cond.code ({ cls := "SlotMat$City", name := "mutualCouples", desc := "(LSlotMat$State;)I" } : Jvm.MethodName) prog_3_method_21_code (5 : Nat) (Option.some Jvm.ClassFile.FieldType.int)) ∈ am_WT := am_wt (am_mt 1092 (by decide +kernel)) rfl
theorem w_1093 : (Jvm.Cond.methodLink "SlotMat" (152 : Nat) ({ cls := "SlotMat$City", name := "unthoughtBits", desc := "(LSlotMat$State;)I" } : Jvm.MethodName)) ∈ am_WT := am_wt (am_mt 1093 (by decide +kernel)) rfl
theorem w_1094 : (Jvm.Cond.instanceMethod ({ cls := "SlotMat$City", name := "unthoughtBits", desc := "(LSlotMat$State;)I" } : Jvm.MethodName)) ∈ am_WT := am_wt (am_mt 1094 (by decide +kernel)) rfl
theorem w_1095 : (Jvm.Cond.selects "SlotMat$City" ({ cls := "SlotMat$City", name := "unthoughtBits", desc := "(LSlotMat$State;)I" } : Jvm.MethodName) ({ cls := "SlotMat$City", name := "unthoughtBits", desc := "(LSlotMat$State;)I" } : Jvm.MethodName)) ∈ am_WT := am_wt (am_mt 1095 (by decide +kernel)) rfl
theorem w_1096 : (Jvm.Cond.code ({ cls := "SlotMat$City", name := "unthoughtBits", desc := "(LSlotMat$State;)I" } : Jvm.MethodName) prog_3_method_20_code (4 : Nat) (Option.some Jvm.ClassFile.FieldType.int)) ∈ am_WT := am_wt (am_mt 1096 (by decide +kernel)) rfl
theorem w_1097 : (Jvm.Cond.methodLink "SlotMat$City" (160 : Nat) ({ cls := "SlotMat$City", name := "fanBits", desc := "(LSlotMat$State;I)I" } : Jvm.MethodName)) ∈ am_WT := am_wt (am_mt 1097 (by decide +kernel)) rfl
theorem w_1098 : (Jvm.Cond.instanceMethod ({ cls := "SlotMat$City", name := "fanBits", desc := "(LSlotMat$State;I)I" } : Jvm.MethodName)) ∈ am_WT := am_wt (am_mt 1098 (by decide +kernel)) rfl
theorem w_1099 : (Jvm.Cond.selects "SlotMat$City" ({ cls := "SlotMat$City", name := "fanBits", desc := "(LSlotMat$State;I)I" } : Jvm.MethodName) ({ cls := "SlotMat$City", name := "fanBits", desc := "(LSlotMat$State;I)I" } : Jvm.MethodName)) ∈ am_WT := am_wt (am_mt 1099 (by decide +kernel)) rfl
theorem w_1100 : (Jvm.Cond.code ({ cls := "SlotMat$City", name := "fanBits", desc := "(LSlotMat$State;I)I" } : Jvm.MethodName) prog_3_method_19_code (5 : Nat) (Option.some Jvm.ClassFile.FieldType.int)) ∈ am_WT := am_wt (am_mt 1100 (by decide +kernel)) rfl
theorem w_1101 : (Jvm.Cond.classLink "SlotMat" (159 : Nat) "java/util/NoSuchElementException") ∈ am_WT := am_wt (am_mt 1101 (by decide +kernel)) rfl
theorem w_1102 : (Jvm.Cond.instantiable "java/util/NoSuchElementException" (6 : Nat)) ∈ am_WT := am_wt (am_mt 1102 (by decide +kernel)) rfl
theorem e_1103 : (Jvm.Cond.castable "java/util/NoSuchElementException" "java/util/NoSuchElementException") ∈ am_ext := List.mem_filter.mpr ⟨am_mt 1103 (by decide +kernel), rfl⟩
theorem w_1104 : (Jvm.Cond.selects "java/util/NoSuchElementException" ({ cls := "java/lang/Throwable", name := "fillInStackTrace", desc := "(I)Ljava/lang/Throwable;" } : Jvm.MethodName) ({ cls := "java/lang/Throwable", name := "fillInStackTrace", desc := "(I)Ljava/lang/Throwable;" } : Jvm.MethodName)) ∈ am_WT := am_wt (am_mt 1104 (by decide +kernel)) rfl
theorem w_1105 : (Jvm.Cond.lays "java/util/NoSuchElementException" "java/lang/Throwable" "cause" "Ljava/lang/Throwable;") ∈ am_WT := am_wt (am_mt 1105 (by decide +kernel)) rfl
theorem w_1106 : (Jvm.Cond.lays "java/util/NoSuchElementException" "java/lang/Throwable" "stackTrace" "[Ljava/lang/StackTraceElement;") ∈ am_WT := am_wt (am_mt 1106 (by decide +kernel)) rfl
theorem w_1107 : (Jvm.Cond.lays "java/util/NoSuchElementException" "java/lang/Throwable" "suppressedExceptions" "Ljava/util/List;") ∈ am_WT := am_wt (am_mt 1107 (by decide +kernel)) rfl
theorem w_1108 : (Jvm.Cond.lays "java/util/NoSuchElementException" "java/lang/Throwable" "detailMessage" "Ljava/lang/String;") ∈ am_WT := am_wt (am_mt 1108 (by decide +kernel)) rfl
theorem w_1109 : (Jvm.Cond.lays "java/util/NoSuchElementException" "java/lang/Throwable" "backtrace" "Ljava/lang/Object;") ∈ am_WT := am_wt (am_mt 1109 (by decide +kernel)) rfl
theorem w_1111 : (Jvm.Cond.methodLink "SlotMat" (163 : Nat) ({ cls := "java/util/NoSuchElementException", name := "<init>", desc := "(Ljava/lang/String;)V" } : Jvm.MethodName)) ∈ am_WT := am_wt (am_mt 1111 (by decide +kernel)) rfl
theorem w_1112 : (Jvm.Cond.instanceMethod ({ cls := "java/util/NoSuchElementException", name := "<init>", desc := "(Ljava/lang/String;)V" } : Jvm.MethodName)) ∈ am_WT := am_wt (am_mt 1112 (by decide +kernel)) rfl
theorem w_1113 : (Jvm.Cond.code ({ cls := "java/util/NoSuchElementException", name := "<init>", desc := "(Ljava/lang/String;)V" } : Jvm.MethodName) prog_34_method_4_code (2 : Nat) (Option.none : Option Jvm.ClassFile.FieldType)) ∈ am_WT := am_wt (am_mt 1113 (by decide +kernel)) rfl
theorem w_1114 : (Jvm.Cond.methodLink "java/util/NoSuchElementException" (13 : Nat) ({ cls := "java/lang/RuntimeException", name := "<init>", desc := "(Ljava/lang/String;)V" } : Jvm.MethodName)) ∈ am_WT := am_wt (am_mt 1114 (by decide +kernel)) rfl
theorem w_1115 : (Jvm.Cond.lays "java/util/NoSuchElementException" "java/lang/Throwable" "depth" "I") ∈ am_WT := am_wt (am_mt 1115 (by decide +kernel)) rfl
theorem w_1116 : (Jvm.Cond.superclass "java/util/NoSuchElementException" "java/lang/RuntimeException") ∈ am_WT := am_wt (am_mt 1116 (by decide +kernel)) rfl
theorem w_1117 : (Jvm.Cond.methodLink "SlotMatLaw" (136 : Nat) ({ cls := "SlotMatLaw", name := "box", desc := "(LSlotMat;II[J)I" } : Jvm.MethodName)) ∈ am_WT := am_wt (am_mt 1117 (by decide +kernel)) rfl
theorem w_1118 : (Jvm.Cond.static ({ cls := "SlotMatLaw", name := "box", desc := "(LSlotMat;II[J)I" } : Jvm.MethodName)) ∈ am_WT := am_wt (am_mt 1118 (by decide +kernel)) rfl
theorem w_1119 : (Jvm.Cond.codeWith ({ cls := "SlotMatLaw", name := "box", desc := "(LSlotMat;II[J)I" } : Jvm.MethodName) method_5_code (5 : Nat) (Option.some Jvm.ClassFile.FieldType.int) [((0 : Nat), (10 : Nat), (13 : Nat), (18 : Nat))]) ∈ am_WT := am_wt (am_mt 1119 (by decide +kernel)) rfl
theorem w_1120 : (Jvm.Cond.methodLink "SlotMatLaw" (20 : Nat) ({ cls := "SlotMat", name := "box", desc := "(II)I" } : Jvm.MethodName)) ∈ am_WT := am_wt (am_mt 1120 (by decide +kernel)) rfl
theorem w_1121 : (Jvm.Cond.instanceMethod ({ cls := "SlotMat", name := "box", desc := "(II)I" } : Jvm.MethodName)) ∈ am_WT := am_wt (am_mt 1121 (by decide +kernel)) rfl
theorem w_1122 : (Jvm.Cond.selects "SlotMat" ({ cls := "SlotMat", name := "box", desc := "(II)I" } : Jvm.MethodName) ({ cls := "SlotMat", name := "box", desc := "(II)I" } : Jvm.MethodName)) ∈ am_WT := am_wt (am_mt 1122 (by decide +kernel)) rfl
theorem w_1123 : (Jvm.Cond.code ({ cls := "SlotMat", name := "box", desc := "(II)I" } : Jvm.MethodName) prog_1_method_7_code (3 : Nat) (Option.some Jvm.ClassFile.FieldType.int)) ∈ am_WT := am_wt (am_mt 1123 (by decide +kernel)) rfl
theorem w_1124 : (Jvm.Cond.methodLink "SlotMat" (164 : Nat) ({ cls := "SlotMat", name := "needBox", desc := "(I)V" } : Jvm.MethodName)) ∈ am_WT := am_wt (am_mt 1124 (by decide +kernel)) rfl
theorem w_1126 : (Jvm.Cond.instanceMethod ({ cls := "SlotMat", name := "needBox", desc := "(I)V" } : Jvm.MethodName)) ∈ am_WT := am_wt (am_mt 1126 (by decide +kernel)) rfl
theorem w_1127 : (Jvm.Cond.code ({ cls := "SlotMat", name := "needBox", desc := "(I)V" } : Jvm.MethodName) prog_1_method_57_code (2 : Nat) (Option.none : Option Jvm.ClassFile.FieldType)) ∈ am_WT := am_wt (am_mt 1127 (by decide +kernel)) rfl
theorem w_1129 : (Jvm.Cond.methodLink "SlotMat" (170 : Nat) ({ cls := "SlotMat$State", name := "redOf", desc := "(I)I" } : Jvm.MethodName)) ∈ am_WT := am_wt (am_mt 1129 (by decide +kernel)) rfl
theorem w_1130 : (Jvm.Cond.methodLink "SlotMat" (173 : Nat) ({ cls := "SlotMat$State", name := "heldIn", desc := "(I)I" } : Jvm.MethodName)) ∈ am_WT := am_wt (am_mt 1130 (by decide +kernel)) rfl
theorem w_1131 : (Jvm.Cond.methodLink "SlotMat" (176 : Nat) ({ cls := "SlotMat$City", name := "nearBits", desc := "(I)I" } : Jvm.MethodName)) ∈ am_WT := am_wt (am_mt 1131 (by decide +kernel)) rfl
theorem w_1132 : (Jvm.Cond.instanceMethod ({ cls := "SlotMat$City", name := "nearBits", desc := "(I)I" } : Jvm.MethodName)) ∈ am_WT := am_wt (am_mt 1132 (by decide +kernel)) rfl
theorem w_1133 : (Jvm.Cond.selects "SlotMat$City" ({ cls := "SlotMat$City", name := "nearBits", desc := "(I)I" } : Jvm.MethodName) ({ cls := "SlotMat$City", name := "nearBits", desc := "(I)I" } : Jvm.MethodName)) ∈ am_WT := am_wt (am_mt 1133 (by decide +kernel)) rfl
theorem w_1134 : (Jvm.Cond.code ({ cls := "SlotMat$City", name := "nearBits", desc := "(I)I" } : Jvm.MethodName) prog_3_method_23_code (4 : Nat) (Option.some Jvm.ClassFile.FieldType.int)) ∈ am_WT := am_wt (am_mt 1134 (by decide +kernel)) rfl
theorem w_1135 : (Jvm.Cond.methodLink "SlotMat" (179 : Nat) ({ cls := "SlotMat$City", name := "farthestFrom", desc := "(I)I" } : Jvm.MethodName)) ∈ am_WT := am_wt (am_mt 1135 (by decide +kernel)) rfl
theorem w_1136 : (Jvm.Cond.instanceMethod ({ cls := "SlotMat$City", name := "farthestFrom", desc := "(I)I" } : Jvm.MethodName)) ∈ am_WT := am_wt (am_mt 1136 (by decide +kernel)) rfl
theorem w_1137 : (Jvm.Cond.selects "SlotMat$City" ({ cls := "SlotMat$City", name := "farthestFrom", desc := "(I)I" } : Jvm.MethodName) ({ cls := "SlotMat$City", name := "farthestFrom", desc := "(I)I" } : Jvm.MethodName)) ∈ am_WT := am_wt (am_mt 1137 (by decide +kernel)) rfl
theorem w_1138 : (Jvm.Cond.code ({ cls := "SlotMat$City", name := "farthestFrom", desc := "(I)I" } : Jvm.MethodName) prog_3_method_25_code (6 : Nat) (Option.some Jvm.ClassFile.FieldType.int)) ∈ am_WT := am_wt (am_mt 1138 (by decide +kernel)) rfl
theorem w_1139 : (Jvm.Cond.methodLink "SlotMatLaw" (140 : Nat) ({ cls := "SlotMatLaw", name := "person", desc := "(LSlotMat;II[J)I" } : Jvm.MethodName)) ∈ am_WT := am_wt (am_mt 1139 (by decide +kernel)) rfl
theorem w_1140 : (Jvm.Cond.static ({ cls := "SlotMatLaw", name := "person", desc := "(LSlotMat;II[J)I" } : Jvm.MethodName)) ∈ am_WT := am_wt (am_mt 1140 (by decide +kernel)) rfl
theorem w_1141 : (Jvm.Cond.codeWith ({ cls := "SlotMatLaw", name := "person", desc := "(LSlotMat;II[J)I" } : Jvm.MethodName) method_6_code (5 : Nat) (Option.some Jvm.ClassFile.FieldType.int) [((0 : Nat), (10 : Nat), (13 : Nat), (18 : Nat))]) ∈ am_WT := am_wt (am_mt 1141 (by decide +kernel)) rfl
theorem w_1142 : (Jvm.Cond.methodLink "SlotMatLaw" (24 : Nat) ({ cls := "SlotMat", name := "person", desc := "(II)I" } : Jvm.MethodName)) ∈ am_WT := am_wt (am_mt 1142 (by decide +kernel)) rfl
theorem w_1143 : (Jvm.Cond.instanceMethod ({ cls := "SlotMat", name := "person", desc := "(II)I" } : Jvm.MethodName)) ∈ am_WT := am_wt (am_mt 1143 (by decide +kernel)) rfl
theorem w_1144 : (Jvm.Cond.selects "SlotMat" ({ cls := "SlotMat", name := "person", desc := "(II)I" } : Jvm.MethodName) ({ cls := "SlotMat", name := "person", desc := "(II)I" } : Jvm.MethodName)) ∈ am_WT := am_wt (am_mt 1144 (by decide +kernel)) rfl
theorem w_1145 : (Jvm.Cond.code ({ cls := "SlotMat", name := "person", desc := "(II)I" } : Jvm.MethodName) prog_1_method_8_code (3 : Nat) (Option.some Jvm.ClassFile.FieldType.int)) ∈ am_WT := am_wt (am_mt 1145 (by decide +kernel)) rfl
theorem w_1146 : (Jvm.Cond.methodLink "SlotMat" (182 : Nat) ({ cls := "SlotMat", name := "needPerson", desc := "(I)V" } : Jvm.MethodName)) ∈ am_WT := am_wt (am_mt 1146 (by decide +kernel)) rfl
theorem w_1148 : (Jvm.Cond.instanceMethod ({ cls := "SlotMat", name := "needPerson", desc := "(I)V" } : Jvm.MethodName)) ∈ am_WT := am_wt (am_mt 1148 (by decide +kernel)) rfl
theorem w_1149 : (Jvm.Cond.code ({ cls := "SlotMat", name := "needPerson", desc := "(I)V" } : Jvm.MethodName) prog_1_method_58_code (2 : Nat) (Option.none : Option Jvm.ClassFile.FieldType)) ∈ am_WT := am_wt (am_mt 1149 (by decide +kernel)) rfl
theorem w_1151 : (Jvm.Cond.methodLink "SlotMat" (191 : Nat) ({ cls := "SlotMat$State", name := "atOf", desc := "(I)I" } : Jvm.MethodName)) ∈ am_WT := am_wt (am_mt 1151 (by decide +kernel)) rfl
theorem w_1152 : (Jvm.Cond.methodLink "SlotMat" (194 : Nat) ({ cls := "SlotMat$State", name := "regretOf", desc := "(I)I" } : Jvm.MethodName)) ∈ am_WT := am_wt (am_mt 1152 (by decide +kernel)) rfl
theorem w_1153 : (Jvm.Cond.methodLink "SlotMat" (197 : Nat) ({ cls := "SlotMat$State", name := "heardBy", desc := "(I)I" } : Jvm.MethodName)) ∈ am_WT := am_wt (am_mt 1153 (by decide +kernel)) rfl
theorem w_1154 : (Jvm.Cond.methodLink "SlotMat" (203 : Nat) ({ cls := "SlotMat$City", name := "fanBits", desc := "(LSlotMat$State;I)I" } : Jvm.MethodName)) ∈ am_WT := am_wt (am_mt 1154 (by decide +kernel)) rfl
theorem w_1155 : (Jvm.Cond.methodLink "SlotMat" (207 : Nat) ({ cls := "SlotMat$City", name := "neighbourBits", desc := "(I)I" } : Jvm.MethodName)) ∈ am_WT := am_wt (am_mt 1155 (by decide +kernel)) rfl
theorem w_1156 : (Jvm.Cond.instanceMethod ({ cls := "SlotMat$City", name := "neighbourBits", desc := "(I)I" } : Jvm.MethodName)) ∈ am_WT := am_wt (am_mt 1156 (by decide +kernel)) rfl
theorem w_1157 : (Jvm.Cond.selects "SlotMat$City" ({ cls := "SlotMat$City", name := "neighbourBits", desc := "(I)I" } : Jvm.MethodName) ({ cls := "SlotMat$City", name := "neighbourBits", desc := "(I)I" } : Jvm.MethodName)) ∈ am_WT := am_wt (am_mt 1157 (by decide +kernel)) rfl
theorem w_1158 : (Jvm.Cond.code ({ cls := "SlotMat$City", name := "neighbourBits", desc := "(I)I" } : Jvm.MethodName) prog_3_method_24_code (3 : Nat) (Option.some Jvm.ClassFile.FieldType.int)) ∈ am_WT := am_wt (am_mt 1158 (by decide +kernel)) rfl
theorem w_1159 : (Jvm.Cond.methodLink "SlotMat$City" (164 : Nat) ({ cls := "SlotMat$City", name := "nearBits", desc := "(I)I" } : Jvm.MethodName)) ∈ am_WT := am_wt (am_mt 1159 (by decide +kernel)) rfl
theorem w_1160 : (Jvm.Cond.methodLink "SlotMatLaw" (143 : Nat) ({ cls := "SlotMatLaw", name := "held", desc := "(LSlotMat;II[J)I" } : Jvm.MethodName)) ∈ am_WT := am_wt (am_mt 1160 (by decide +kernel)) rfl
theorem w_1161 : (Jvm.Cond.static ({ cls := "SlotMatLaw", name := "held", desc := "(LSlotMat;II[J)I" } : Jvm.MethodName)) ∈ am_WT := am_wt (am_mt 1161 (by decide +kernel)) rfl
theorem w_1162 : (Jvm.Cond.codeWith ({ cls := "SlotMatLaw", name := "held", desc := "(LSlotMat;II[J)I" } : Jvm.MethodName) method_7_code (5 : Nat) (Option.some Jvm.ClassFile.FieldType.int) [((0 : Nat), (10 : Nat), (13 : Nat), (18 : Nat))]) ∈ am_WT := am_wt (am_mt 1162 (by decide +kernel)) rfl
theorem w_1163 : (Jvm.Cond.methodLink "SlotMatLaw" (27 : Nat) ({ cls := "SlotMat", name := "held", desc := "(II)I" } : Jvm.MethodName)) ∈ am_WT := am_wt (am_mt 1163 (by decide +kernel)) rfl
theorem w_1164 : (Jvm.Cond.instanceMethod ({ cls := "SlotMat", name := "held", desc := "(II)I" } : Jvm.MethodName)) ∈ am_WT := am_wt (am_mt 1164 (by decide +kernel)) rfl
theorem w_1165 : (Jvm.Cond.selects "SlotMat" ({ cls := "SlotMat", name := "held", desc := "(II)I" } : Jvm.MethodName) ({ cls := "SlotMat", name := "held", desc := "(II)I" } : Jvm.MethodName)) ∈ am_WT := am_wt (am_mt 1165 (by decide +kernel)) rfl
theorem w_1166 : (Jvm.Cond.code ({ cls := "SlotMat", name := "held", desc := "(II)I" } : Jvm.MethodName) prog_1_method_9_code (3 : Nat) (Option.some Jvm.ClassFile.FieldType.int)) ∈ am_WT := am_wt (am_mt 1166 (by decide +kernel)) rfl
theorem w_1167 : (Jvm.Cond.methodLink "SlotMat" (210 : Nat) ({ cls := "SlotMat$State", name := "heldOf", desc := "(II)I" } : Jvm.MethodName)) ∈ am_WT := am_wt (am_mt 1167 (by decide +kernel)) rfl
theorem w_1168 : (Jvm.Cond.methodLink "SlotMatLaw" (150 : Nat) ({ cls := "SlotMatLaw", name := "write", desc := "(LSlotMat;I[J)I" } : Jvm.MethodName)) ∈ am_WT := am_wt (am_mt 1168 (by decide +kernel)) rfl
theorem w_1169 : (Jvm.Cond.static ({ cls := "SlotMatLaw", name := "write", desc := "(LSlotMat;I[J)I" } : Jvm.MethodName)) ∈ am_WT := am_wt (am_mt 1169 (by decide +kernel)) rfl
theorem w_1170 : (Jvm.Cond.codeWith ({ cls := "SlotMatLaw", name := "write", desc := "(LSlotMat;I[J)I" } : Jvm.MethodName) method_8_code (4 : Nat) (Option.some Jvm.ClassFile.FieldType.int) [((0 : Nat), (9 : Nat), (12 : Nat), (18 : Nat))]) ∈ am_WT := am_wt (am_mt 1170 (by decide +kernel)) rfl
theorem w_1171 : (Jvm.Cond.methodLink "SlotMatLaw" (30 : Nat) ({ cls := "SlotMat", name := "write", desc := "(I)I" } : Jvm.MethodName)) ∈ am_WT := am_wt (am_mt 1171 (by decide +kernel)) rfl
theorem w_1172 : (Jvm.Cond.instanceMethod ({ cls := "SlotMat", name := "write", desc := "(I)I" } : Jvm.MethodName)) ∈ am_WT := am_wt (am_mt 1172 (by decide +kernel)) rfl
theorem w_1173 : (Jvm.Cond.selects "SlotMat" ({ cls := "SlotMat", name := "write", desc := "(I)I" } : Jvm.MethodName) ({ cls := "SlotMat", name := "write", desc := "(I)I" } : Jvm.MethodName)) ∈ am_WT := am_wt (am_mt 1173 (by decide +kernel)) rfl
theorem w_1174 : (Jvm.Cond.code ({ cls := "SlotMat", name := "write", desc := "(I)I" } : Jvm.MethodName) prog_1_method_11_code (3 : Nat) (Option.some Jvm.ClassFile.FieldType.int)) ∈ am_WT := am_wt (am_mt 1174 (by decide +kernel)) rfl
theorem w_1175 : (Jvm.Cond.methodLink "SlotMat" (221 : Nat) ({ cls := "SlotMat$State", name := "sendLetter", desc := "(I)V" } : Jvm.MethodName)) ∈ am_WT := am_wt (am_mt 1175 (by decide +kernel)) rfl
theorem w_1176 : (Jvm.Cond.instanceMethod ({ cls := "SlotMat$State", name := "sendLetter", desc := "(I)V" } : Jvm.MethodName)) ∈ am_WT := am_wt (am_mt 1176 (by decide +kernel)) rfl
theorem w_1177 : (Jvm.Cond.selects "SlotMat$State" ({ cls := "SlotMat$State", name := "sendLetter", desc := "(I)V" } : Jvm.MethodName) ({ cls := "SlotMat$State", name := "sendLetter", desc := "(I)V" } : Jvm.MethodName)) ∈ am_WT := am_wt (am_mt 1177 (by decide +kernel)) rfl
theorem w_1178 : (Jvm.Cond.code ({ cls := "SlotMat$State", name := "sendLetter", desc := "(I)V" } : Jvm.MethodName) prog_9_method_24_code (5 : Nat) (Option.none : Option Jvm.ClassFile.FieldType)) ∈ am_WT := am_wt (am_mt 1178 (by decide +kernel)) rfl
theorem w_1179 : (Jvm.Cond.methodLink "SlotMat$State" (50 : Nat) ({ cls := "SlotMat$State", name := "atOf", desc := "(I)I" } : Jvm.MethodName)) ∈ am_WT := am_wt (am_mt 1179 (by decide +kernel)) rfl
theorem w_1180 : (Jvm.Cond.methodLink "SlotMat$State" (54 : Nat) ({ cls := "SlotMat$State", name := "heldOf", desc := "(II)I" } : Jvm.MethodName)) ∈ am_WT := am_wt (am_mt 1180 (by decide +kernel)) rfl
theorem w_1181 : (Jvm.Cond.methodLink "SlotMat$State" (57 : Nat) ({ cls := "SlotMat$State", name := "hear", desc := "(II)V" } : Jvm.MethodName)) ∈ am_WT := am_wt (am_mt 1181 (by decide +kernel)) rfl
theorem w_1182 : (Jvm.Cond.methodLink "SlotMatLaw" (153 : Nat) ({ cls := "SlotMatLaw", name := "paint", desc := "(LSlotMat;I[J)I" } : Jvm.MethodName)) ∈ am_WT := am_wt (am_mt 1182 (by decide +kernel)) rfl
theorem w_1183 : (Jvm.Cond.static ({ cls := "SlotMatLaw", name := "paint", desc := "(LSlotMat;I[J)I" } : Jvm.MethodName)) ∈ am_WT := am_wt (am_mt 1183 (by decide +kernel)) rfl
theorem w_1184 : (Jvm.Cond.codeWith ({ cls := "SlotMatLaw", name := "paint", desc := "(LSlotMat;I[J)I" } : Jvm.MethodName) method_9_code (4 : Nat) (Option.some Jvm.ClassFile.FieldType.int) [((0 : Nat), (9 : Nat), (12 : Nat), (18 : Nat))]) ∈ am_WT := am_wt (am_mt 1184 (by decide +kernel)) rfl
theorem w_1185 : (Jvm.Cond.methodLink "SlotMatLaw" (33 : Nat) ({ cls := "SlotMat", name := "paint", desc := "(I)I" } : Jvm.MethodName)) ∈ am_WT := am_wt (am_mt 1185 (by decide +kernel)) rfl
theorem w_1186 : (Jvm.Cond.instanceMethod ({ cls := "SlotMat", name := "paint", desc := "(I)I" } : Jvm.MethodName)) ∈ am_WT := am_wt (am_mt 1186 (by decide +kernel)) rfl
theorem w_1187 : (Jvm.Cond.selects "SlotMat" ({ cls := "SlotMat", name := "paint", desc := "(I)I" } : Jvm.MethodName) ({ cls := "SlotMat", name := "paint", desc := "(I)I" } : Jvm.MethodName)) ∈ am_WT := am_wt (am_mt 1187 (by decide +kernel)) rfl
theorem w_1188 : (Jvm.Cond.code ({ cls := "SlotMat", name := "paint", desc := "(I)I" } : Jvm.MethodName) prog_1_method_12_code (3 : Nat) (Option.some Jvm.ClassFile.FieldType.int)) ∈ am_WT := am_wt (am_mt 1188 (by decide +kernel)) rfl
theorem w_1189 : (Jvm.Cond.methodLink "SlotMat" (224 : Nat) ({ cls := "SlotMat$State", name := "setRed", desc := "(II)V" } : Jvm.MethodName)) ∈ am_WT := am_wt (am_mt 1189 (by decide +kernel)) rfl
theorem w_1190 : (Jvm.Cond.methodLink "SlotMatLaw" (156 : Nat) ({ cls := "SlotMatLaw", name := "turn", desc := "(LSlotMat;II[J)I" } : Jvm.MethodName)) ∈ am_WT := am_wt (am_mt 1190 (by decide +kernel)) rfl
theorem w_1191 : (Jvm.Cond.static ({ cls := "SlotMatLaw", name := "turn", desc := "(LSlotMat;II[J)I" } : Jvm.MethodName)) ∈ am_WT := am_wt (am_mt 1191 (by decide +kernel)) rfl
theorem w_1192 : (Jvm.Cond.codeWith ({ cls := "SlotMatLaw", name := "turn", desc := "(LSlotMat;II[J)I" } : Jvm.MethodName) method_10_code (5 : Nat) (Option.some Jvm.ClassFile.FieldType.int) [((0 : Nat), (10 : Nat), (13 : Nat), (18 : Nat))]) ∈ am_WT := am_wt (am_mt 1192 (by decide +kernel)) rfl
theorem w_1193 : (Jvm.Cond.methodLink "SlotMatLaw" (36 : Nat) ({ cls := "SlotMat", name := "turn", desc := "(II)I" } : Jvm.MethodName)) ∈ am_WT := am_wt (am_mt 1193 (by decide +kernel)) rfl
theorem w_1194 : (Jvm.Cond.instanceMethod ({ cls := "SlotMat", name := "turn", desc := "(II)I" } : Jvm.MethodName)) ∈ am_WT := am_wt (am_mt 1194 (by decide +kernel)) rfl
theorem w_1195 : (Jvm.Cond.selects "SlotMat" ({ cls := "SlotMat", name := "turn", desc := "(II)I" } : Jvm.MethodName) ({ cls := "SlotMat", name := "turn", desc := "(II)I" } : Jvm.MethodName)) ∈ am_WT := am_wt (am_mt 1195 (by decide +kernel)) rfl
theorem w_1196 : (Jvm.Cond.code ({ cls := "SlotMat", name := "turn", desc := "(II)I" } : Jvm.MethodName) prog_1_method_13_code (4 : Nat) (Option.some Jvm.ClassFile.FieldType.int)) ∈ am_WT := am_wt (am_mt 1196 (by decide +kernel)) rfl
theorem w_1197 : (Jvm.Cond.methodLink "SlotMat" (228 : Nat) ({ cls := "SlotMat$State", name := "turnTo", desc := "(II)V" } : Jvm.MethodName)) ∈ am_WT := am_wt (am_mt 1197 (by decide +kernel)) rfl
theorem w_1198 : (Jvm.Cond.instanceMethod ({ cls := "SlotMat$State", name := "turnTo", desc := "(II)V" } : Jvm.MethodName)) ∈ am_WT := am_wt (am_mt 1198 (by decide +kernel)) rfl
theorem w_1199 : (Jvm.Cond.selects "SlotMat$State" ({ cls := "SlotMat$State", name := "turnTo", desc := "(II)V" } : Jvm.MethodName) ({ cls := "SlotMat$State", name := "turnTo", desc := "(II)V" } : Jvm.MethodName)) ∈ am_WT := am_wt (am_mt 1199 (by decide +kernel)) rfl
theorem w_1200 : (Jvm.Cond.code ({ cls := "SlotMat$State", name := "turnTo", desc := "(II)V" } : Jvm.MethodName) prog_9_method_18_code (3 : Nat) (Option.none : Option Jvm.ClassFile.FieldType)) ∈ am_WT := am_wt (am_mt 1200 (by decide +kernel)) rfl
theorem w_1201 : (Jvm.Cond.methodLink "SlotMatLaw" (168 : Nat) ({ cls := "SlotMatLaw", name := "then", desc := "(LSlotMat;III[J)I" } : Jvm.MethodName)) ∈ am_WT := am_wt (am_mt 1201 (by decide +kernel)) rfl
theorem w_1202 : (Jvm.Cond.static ({ cls := "SlotMatLaw", name := "then", desc := "(LSlotMat;III[J)I" } : Jvm.MethodName)) ∈ am_WT := am_wt (am_mt 1202 (by decide +kernel)) rfl
theorem w_1203 : (Jvm.Cond.codeWith ({ cls := "SlotMatLaw", name := "then", desc := "(LSlotMat;III[J)I" } : Jvm.MethodName) method_11_code (6 : Nat) (Option.some Jvm.ClassFile.FieldType.int) [((0 : Nat), (12 : Nat), (15 : Nat), (18 : Nat)), ((0 : Nat), (12 : Nat), (19 : Nat), (13 : Nat))]) ∈ am_WT := am_wt (am_mt 1203 (by decide +kernel)) rfl
theorem w_1204 : (Jvm.Cond.methodLink "SlotMatLaw" (39 : Nat) ({ cls := "SlotMat", name := "then", desc := "(III)I" } : Jvm.MethodName)) ∈ am_WT := am_wt (am_mt 1204 (by decide +kernel)) rfl
theorem w_1205 : (Jvm.Cond.instanceMethod ({ cls := "SlotMat", name := "then", desc := "(III)I" } : Jvm.MethodName)) ∈ am_WT := am_wt (am_mt 1205 (by decide +kernel)) rfl
theorem w_1206 : (Jvm.Cond.selects "SlotMat" ({ cls := "SlotMat", name := "then", desc := "(III)I" } : Jvm.MethodName) ({ cls := "SlotMat", name := "then", desc := "(III)I" } : Jvm.MethodName)) ∈ am_WT := am_wt (am_mt 1206 (by decide +kernel)) rfl
theorem w_1207 : (Jvm.Cond.code ({ cls := "SlotMat", name := "then", desc := "(III)I" } : Jvm.MethodName) prog_1_method_16_code (4 : Nat) (Option.some Jvm.ClassFile.FieldType.int)) ∈ am_WT := am_wt (am_mt 1207 (by decide +kernel)) rfl
theorem w_1208 : (Jvm.Cond.methodLink "SlotMat" (238 : Nat) ({ cls := "SlotMat", name := "needWhat", desc := "(II)V" } : Jvm.MethodName)) ∈ am_WT := am_wt (am_mt 1208 (by decide +kernel)) rfl
theorem w_1209 : (Jvm.Cond.static ({ cls := "SlotMat", name := "needWhat", desc := "(II)V" } : Jvm.MethodName)) ∈ am_WT := am_wt (am_mt 1209 (by decide +kernel)) rfl
theorem w_1210 : (Jvm.Cond.code ({ cls := "SlotMat", name := "needWhat", desc := "(II)V" } : Jvm.MethodName) prog_1_method_59_code (2 : Nat) (Option.none : Option Jvm.ClassFile.FieldType)) ∈ am_WT := am_wt (am_mt 1210 (by decide +kernel)) rfl
theorem w_1211 : (Jvm.Cond.methodLink "SlotMat" (241 : Nat) ({ cls := "SlotMat", name := "needRange", desc := "(III)V" } : Jvm.MethodName)) ∈ am_WT := am_wt (am_mt 1211 (by decide +kernel)) rfl
theorem w_1212 : (Jvm.Cond.static ({ cls := "SlotMat", name := "needRange", desc := "(III)V" } : Jvm.MethodName)) ∈ am_WT := am_wt (am_mt 1212 (by decide +kernel)) rfl
theorem w_1213 : (Jvm.Cond.code ({ cls := "SlotMat", name := "needRange", desc := "(III)V" } : Jvm.MethodName) prog_1_method_60_code (3 : Nat) (Option.none : Option Jvm.ClassFile.FieldType)) ∈ am_WT := am_wt (am_mt 1213 (by decide +kernel)) rfl
theorem w_1215 : (Jvm.Cond.methodLink "SlotMat" (245 : Nat) ({ cls := "SlotMat", name := "lookAhead", desc := "(I)I" } : Jvm.MethodName)) ∈ am_WT := am_wt (am_mt 1215 (by decide +kernel)) rfl
theorem w_1217 : (Jvm.Cond.instanceMethod ({ cls := "SlotMat", name := "lookAhead", desc := "(I)I" } : Jvm.MethodName)) ∈ am_WT := am_wt (am_mt 1217 (by decide +kernel)) rfl
theorem w_1218 : (Jvm.Cond.code ({ cls := "SlotMat", name := "lookAhead", desc := "(I)I" } : Jvm.MethodName) prog_1_method_21_code (4 : Nat) (Option.some Jvm.ClassFile.FieldType.int)) ∈ am_WT := am_wt (am_mt 1218 (by decide +kernel)) rfl
theorem w_1219 : (Jvm.Cond.methodLink "SlotMatLaw" (172 : Nat) ({ cls := "SlotMatLaw", name := "later", desc := "(LSlotMat;III[J)I" } : Jvm.MethodName)) ∈ am_WT := am_wt (am_mt 1219 (by decide +kernel)) rfl
theorem w_1220 : (Jvm.Cond.static ({ cls := "SlotMatLaw", name := "later", desc := "(LSlotMat;III[J)I" } : Jvm.MethodName)) ∈ am_WT := am_wt (am_mt 1220 (by decide +kernel)) rfl
theorem w_1221 : (Jvm.Cond.codeWith ({ cls := "SlotMatLaw", name := "later", desc := "(LSlotMat;III[J)I" } : Jvm.MethodName) method_12_code (6 : Nat) (Option.some Jvm.ClassFile.FieldType.int) [((0 : Nat), (12 : Nat), (15 : Nat), (18 : Nat)), ((0 : Nat), (12 : Nat), (19 : Nat), (13 : Nat))]) ∈ am_WT := am_wt (am_mt 1221 (by decide +kernel)) rfl
theorem w_1222 : (Jvm.Cond.methodLink "SlotMatLaw" (43 : Nat) ({ cls := "SlotMat", name := "later", desc := "(III)I" } : Jvm.MethodName)) ∈ am_WT := am_wt (am_mt 1222 (by decide +kernel)) rfl
theorem w_1223 : (Jvm.Cond.instanceMethod ({ cls := "SlotMat", name := "later", desc := "(III)I" } : Jvm.MethodName)) ∈ am_WT := am_wt (am_mt 1223 (by decide +kernel)) rfl
theorem w_1224 : (Jvm.Cond.selects "SlotMat" ({ cls := "SlotMat", name := "later", desc := "(III)I" } : Jvm.MethodName) ({ cls := "SlotMat", name := "later", desc := "(III)I" } : Jvm.MethodName)) ∈ am_WT := am_wt (am_mt 1224 (by decide +kernel)) rfl
theorem w_1225 : (Jvm.Cond.code ({ cls := "SlotMat", name := "later", desc := "(III)I" } : Jvm.MethodName) prog_1_method_17_code (4 : Nat) (Option.some Jvm.ClassFile.FieldType.int)) ∈ am_WT := am_wt (am_mt 1225 (by decide +kernel)) rfl
theorem w_1226 : (Jvm.Cond.methodLink "SlotMatLaw" (175 : Nat) ({ cls := "SlotMatLaw", name := "first", desc := "(LSlotMat;I[J)I" } : Jvm.MethodName)) ∈ am_WT := am_wt (am_mt 1226 (by decide +kernel)) rfl
theorem w_1227 : (Jvm.Cond.static ({ cls := "SlotMatLaw", name := "first", desc := "(LSlotMat;I[J)I" } : Jvm.MethodName)) ∈ am_WT := am_wt (am_mt 1227 (by decide +kernel)) rfl
theorem w_1228 : (Jvm.Cond.codeWith ({ cls := "SlotMatLaw", name := "first", desc := "(LSlotMat;I[J)I" } : Jvm.MethodName) method_13_code (4 : Nat) (Option.some Jvm.ClassFile.FieldType.int) [((0 : Nat), (9 : Nat), (12 : Nat), (18 : Nat))]) ∈ am_WT := am_wt (am_mt 1228 (by decide +kernel)) rfl
theorem w_1229 : (Jvm.Cond.methodLink "SlotMatLaw" (46 : Nat) ({ cls := "SlotMat", name := "first", desc := "(I)I" } : Jvm.MethodName)) ∈ am_WT := am_wt (am_mt 1229 (by decide +kernel)) rfl
theorem w_1230 : (Jvm.Cond.instanceMethod ({ cls := "SlotMat", name := "first", desc := "(I)I" } : Jvm.MethodName)) ∈ am_WT := am_wt (am_mt 1230 (by decide +kernel)) rfl
theorem w_1231 : (Jvm.Cond.selects "SlotMat" ({ cls := "SlotMat", name := "first", desc := "(I)I" } : Jvm.MethodName) ({ cls := "SlotMat", name := "first", desc := "(I)I" } : Jvm.MethodName)) ∈ am_WT := am_wt (am_mt 1231 (by decide +kernel)) rfl
theorem w_1232 : (Jvm.Cond.code ({ cls := "SlotMat", name := "first", desc := "(I)I" } : Jvm.MethodName) prog_1_method_18_code (3 : Nat) (Option.some Jvm.ClassFile.FieldType.int)) ∈ am_WT := am_wt (am_mt 1232 (by decide +kernel)) rfl
theorem w_1233 : (Jvm.Cond.methodLink "SlotMatLaw" (178 : Nat) ({ cls := "SlotMatLaw", name := "full", desc := "(LSlotMat;II[J)I" } : Jvm.MethodName)) ∈ am_WT := am_wt (am_mt 1233 (by decide +kernel)) rfl
theorem w_1234 : (Jvm.Cond.static ({ cls := "SlotMatLaw", name := "full", desc := "(LSlotMat;II[J)I" } : Jvm.MethodName)) ∈ am_WT := am_wt (am_mt 1234 (by decide +kernel)) rfl
theorem w_1235 : (Jvm.Cond.codeWith ({ cls := "SlotMatLaw", name := "full", desc := "(LSlotMat;II[J)I" } : Jvm.MethodName) method_14_code (5 : Nat) (Option.some Jvm.ClassFile.FieldType.int) [((0 : Nat), (10 : Nat), (13 : Nat), (18 : Nat)), ((0 : Nat), (10 : Nat), (17 : Nat), (13 : Nat))]) ∈ am_WT := am_wt (am_mt 1235 (by decide +kernel)) rfl
theorem w_1236 : (Jvm.Cond.methodLink "SlotMatLaw" (49 : Nat) ({ cls := "SlotMat", name := "full", desc := "(II)I" } : Jvm.MethodName)) ∈ am_WT := am_wt (am_mt 1236 (by decide +kernel)) rfl
theorem w_1237 : (Jvm.Cond.instanceMethod ({ cls := "SlotMat", name := "full", desc := "(II)I" } : Jvm.MethodName)) ∈ am_WT := am_wt (am_mt 1237 (by decide +kernel)) rfl
theorem w_1238 : (Jvm.Cond.selects "SlotMat" ({ cls := "SlotMat", name := "full", desc := "(II)I" } : Jvm.MethodName) ({ cls := "SlotMat", name := "full", desc := "(II)I" } : Jvm.MethodName)) ∈ am_WT := am_wt (am_mt 1238 (by decide +kernel)) rfl
theorem w_1239 : (Jvm.Cond.code ({ cls := "SlotMat", name := "full", desc := "(II)I" } : Jvm.MethodName) prog_1_method_19_code (4 : Nat) (Option.some Jvm.ClassFile.FieldType.int)) ∈ am_WT := am_wt (am_mt 1239 (by decide +kernel)) rfl
theorem w_1240 : (Jvm.Cond.methodLink "SlotMatLaw" (181 : Nat) ({ cls := "SlotMatLaw", name := "most", desc := "(LSlotMat;II[J)I" } : Jvm.MethodName)) ∈ am_WT := am_wt (am_mt 1240 (by decide +kernel)) rfl
theorem w_1241 : (Jvm.Cond.static ({ cls := "SlotMatLaw", name := "most", desc := "(LSlotMat;II[J)I" } : Jvm.MethodName)) ∈ am_WT := am_wt (am_mt 1241 (by decide +kernel)) rfl
theorem w_1242 : (Jvm.Cond.codeWith ({ cls := "SlotMatLaw", name := "most", desc := "(LSlotMat;II[J)I" } : Jvm.MethodName) method_15_code (5 : Nat) (Option.some Jvm.ClassFile.FieldType.int) [((0 : Nat), (10 : Nat), (13 : Nat), (18 : Nat)), ((0 : Nat), (10 : Nat), (17 : Nat), (13 : Nat))]) ∈ am_WT := am_wt (am_mt 1242 (by decide +kernel)) rfl
theorem w_1243 : (Jvm.Cond.methodLink "SlotMatLaw" (52 : Nat) ({ cls := "SlotMat", name := "most", desc := "(II)I" } : Jvm.MethodName)) ∈ am_WT := am_wt (am_mt 1243 (by decide +kernel)) rfl
theorem w_1244 : (Jvm.Cond.instanceMethod ({ cls := "SlotMat", name := "most", desc := "(II)I" } : Jvm.MethodName)) ∈ am_WT := am_wt (am_mt 1244 (by decide +kernel)) rfl
theorem w_1245 : (Jvm.Cond.selects "SlotMat" ({ cls := "SlotMat", name := "most", desc := "(II)I" } : Jvm.MethodName) ({ cls := "SlotMat", name := "most", desc := "(II)I" } : Jvm.MethodName)) ∈ am_WT := am_wt (am_mt 1245 (by decide +kernel)) rfl
theorem w_1246 : (Jvm.Cond.code ({ cls := "SlotMat", name := "most", desc := "(II)I" } : Jvm.MethodName) prog_1_method_20_code (4 : Nat) (Option.some Jvm.ClassFile.FieldType.int)) ∈ am_WT := am_wt (am_mt 1246 (by decide +kernel)) rfl
theorem w_1247 : (Jvm.Cond.methodLink "SlotMat" (251 : Nat) ({ cls := "SlotMat$City", name := "fullestBox", desc := "(LSlotMat$State;)I" } : Jvm.MethodName)) ∈ am_WT := am_wt (am_mt 1247 (by decide +kernel)) rfl
theorem w_1248 : (Jvm.Cond.instanceMethod ({ cls := "SlotMat$City", name := "fullestBox", desc := "(LSlotMat$State;)I" } : Jvm.MethodName)) ∈ am_WT := am_wt (am_mt 1248 (by decide +kernel)) rfl
theorem w_1249 : (Jvm.Cond.selects "SlotMat$City" ({ cls := "SlotMat$City", name := "fullestBox", desc := "(LSlotMat$State;)I" } : Jvm.MethodName) ({ cls := "SlotMat$City", name := "fullestBox", desc := "(LSlotMat$State;)I" } : Jvm.MethodName)) ∈ am_WT := am_wt (am_mt 1249 (by decide +kernel)) rfl
theorem w_1250 : (Jvm.Cond.code ({ cls := "SlotMat$City", name := "fullestBox", desc := "(LSlotMat$State;)I" } : Jvm.MethodName) prog_3_method_15_code (4 : Nat) (Option.some Jvm.ClassFile.FieldType.int)) ∈ am_WT := am_wt (am_mt 1250 (by decide +kernel)) rfl
theorem w_1251 : (Jvm.Cond.methodLink "SlotMat" (254 : Nat) ({ cls := "SlotMat$City", name := "loudestPerson", desc := "(LSlotMat$State;)I" } : Jvm.MethodName)) ∈ am_WT := am_wt (am_mt 1251 (by decide +kernel)) rfl
theorem w_1252 : (Jvm.Cond.instanceMethod ({ cls := "SlotMat$City", name := "loudestPerson", desc := "(LSlotMat$State;)I" } : Jvm.MethodName)) ∈ am_WT := am_wt (am_mt 1252 (by decide +kernel)) rfl
theorem w_1253 : (Jvm.Cond.selects "SlotMat$City" ({ cls := "SlotMat$City", name := "loudestPerson", desc := "(LSlotMat$State;)I" } : Jvm.MethodName) ({ cls := "SlotMat$City", name := "loudestPerson", desc := "(LSlotMat$State;)I" } : Jvm.MethodName)) ∈ am_WT := am_wt (am_mt 1253 (by decide +kernel)) rfl
theorem w_1254 : (Jvm.Cond.code ({ cls := "SlotMat$City", name := "loudestPerson", desc := "(LSlotMat$State;)I" } : Jvm.MethodName) prog_3_method_16_code (4 : Nat) (Option.some Jvm.ClassFile.FieldType.int)) ∈ am_WT := am_wt (am_mt 1254 (by decide +kernel)) rfl
theorem w_1255 : (Jvm.Cond.methodLink "SlotMat" (257 : Nat) ({ cls := "SlotMat$City", name := "saddestPerson", desc := "(LSlotMat$State;)I" } : Jvm.MethodName)) ∈ am_WT := am_wt (am_mt 1255 (by decide +kernel)) rfl
theorem w_1256 : (Jvm.Cond.instanceMethod ({ cls := "SlotMat$City", name := "saddestPerson", desc := "(LSlotMat$State;)I" } : Jvm.MethodName)) ∈ am_WT := am_wt (am_mt 1256 (by decide +kernel)) rfl
theorem w_1257 : (Jvm.Cond.selects "SlotMat$City" ({ cls := "SlotMat$City", name := "saddestPerson", desc := "(LSlotMat$State;)I" } : Jvm.MethodName) ({ cls := "SlotMat$City", name := "saddestPerson", desc := "(LSlotMat$State;)I" } : Jvm.MethodName)) ∈ am_WT := am_wt (am_mt 1257 (by decide +kernel)) rfl
theorem w_1258 : (Jvm.Cond.code ({ cls := "SlotMat$City", name := "saddestPerson", desc := "(LSlotMat$State;)I" } : Jvm.MethodName) prog_3_method_17_code (4 : Nat) (Option.some Jvm.ClassFile.FieldType.int)) ∈ am_WT := am_wt (am_mt 1258 (by decide +kernel)) rfl
theorem w_1259 : (Jvm.Cond.methodLink "SlotMat" (260 : Nat) ({ cls := "SlotMat$City", name := "emptyBits", desc := "(LSlotMat$State;)I" } : Jvm.MethodName)) ∈ am_WT := am_wt (am_mt 1259 (by decide +kernel)) rfl
theorem w_1260 : (Jvm.Cond.instanceMethod ({ cls := "SlotMat$City", name := "emptyBits", desc := "(LSlotMat$State;)I" } : Jvm.MethodName)) ∈ am_WT := am_wt (am_mt 1260 (by decide +kernel)) rfl
theorem w_1261 : (Jvm.Cond.selects "SlotMat$City" ({ cls := "SlotMat$City", name := "emptyBits", desc := "(LSlotMat$State;)I" } : Jvm.MethodName) ({ cls := "SlotMat$City", name := "emptyBits", desc := "(LSlotMat$State;)I" } : Jvm.MethodName)) ∈ am_WT := am_wt (am_mt 1261 (by decide +kernel)) rfl
theorem w_1262 : (Jvm.Cond.code ({ cls := "SlotMat$City", name := "emptyBits", desc := "(LSlotMat$State;)I" } : Jvm.MethodName) prog_3_method_18_code (4 : Nat) (Option.some Jvm.ClassFile.FieldType.int)) ∈ am_WT := am_wt (am_mt 1262 (by decide +kernel)) rfl
theorem w_1263 : (Jvm.Cond.methodLink "SlotMatLaw" (184 : Nat) ({ cls := "SlotMatLaw", name := "ring", desc := "(LSlotMat;I[J)I" } : Jvm.MethodName)) ∈ am_WT := am_wt (am_mt 1263 (by decide +kernel)) rfl
theorem w_1264 : (Jvm.Cond.static ({ cls := "SlotMatLaw", name := "ring", desc := "(LSlotMat;I[J)I" } : Jvm.MethodName)) ∈ am_WT := am_wt (am_mt 1264 (by decide +kernel)) rfl
theorem w_1265 : (Jvm.Cond.codeWith ({ cls := "SlotMatLaw", name := "ring", desc := "(LSlotMat;I[J)I" } : Jvm.MethodName) method_16_code (4 : Nat) (Option.some Jvm.ClassFile.FieldType.int) [((0 : Nat), (9 : Nat), (12 : Nat), (18 : Nat))]) ∈ am_WT := am_wt (am_mt 1265 (by decide +kernel)) rfl
theorem w_1266 : (Jvm.Cond.methodLink "SlotMatLaw" (55 : Nat) ({ cls := "SlotMat", name := "ring", desc := "(I)I" } : Jvm.MethodName)) ∈ am_WT := am_wt (am_mt 1266 (by decide +kernel)) rfl
theorem w_1267 : (Jvm.Cond.instanceMethod ({ cls := "SlotMat", name := "ring", desc := "(I)I" } : Jvm.MethodName)) ∈ am_WT := am_wt (am_mt 1267 (by decide +kernel)) rfl
theorem w_1268 : (Jvm.Cond.selects "SlotMat" ({ cls := "SlotMat", name := "ring", desc := "(I)I" } : Jvm.MethodName) ({ cls := "SlotMat", name := "ring", desc := "(I)I" } : Jvm.MethodName)) ∈ am_WT := am_wt (am_mt 1268 (by decide +kernel)) rfl
theorem w_1269 : (Jvm.Cond.code ({ cls := "SlotMat", name := "ring", desc := "(I)I" } : Jvm.MethodName) prog_1_method_22_code (3 : Nat) (Option.some Jvm.ClassFile.FieldType.int)) ∈ am_WT := am_wt (am_mt 1269 (by decide +kernel)) rfl
theorem w_1270 : (Jvm.Cond.methodLink "SlotMat" (263 : Nat) ({ cls := "SlotMat$City", name := "reachedBits", desc := "(LSlotMat$State;I)I" } : Jvm.MethodName)) ∈ am_WT := am_wt (am_mt 1270 (by decide +kernel)) rfl
theorem w_1271 : (Jvm.Cond.instanceMethod ({ cls := "SlotMat$City", name := "reachedBits", desc := "(LSlotMat$State;I)I" } : Jvm.MethodName)) ∈ am_WT := am_wt (am_mt 1271 (by decide +kernel)) rfl
theorem w_1272 : (Jvm.Cond.selects "SlotMat$City" ({ cls := "SlotMat$City", name := "reachedBits", desc := "(LSlotMat$State;I)I" } : Jvm.MethodName) ({ cls := "SlotMat$City", name := "reachedBits", desc := "(LSlotMat$State;I)I" } : Jvm.MethodName)) ∈ am_WT := am_wt (am_mt 1272 (by decide +kernel)) rfl
theorem w_1273 : (Jvm.Cond.code ({ cls := "SlotMat$City", name := "reachedBits", desc := "(LSlotMat$State;I)I" } : Jvm.MethodName) prog_3_method_22_code (6 : Nat) (Option.some Jvm.ClassFile.FieldType.int)) ∈ am_WT := am_wt (am_mt 1273 (by decide +kernel)) rfl
theorem w_1274 : (Jvm.Cond.methodLink "SlotMatLaw" (187 : Nat) ({ cls := "SlotMatLaw", name := "comesTo", desc := "(LSlotMat;I[J)I" } : Jvm.MethodName)) ∈ am_WT := am_wt (am_mt 1274 (by decide +kernel)) rfl
theorem w_1275 : (Jvm.Cond.static ({ cls := "SlotMatLaw", name := "comesTo", desc := "(LSlotMat;I[J)I" } : Jvm.MethodName)) ∈ am_WT := am_wt (am_mt 1275 (by decide +kernel)) rfl
theorem w_1276 : (Jvm.Cond.codeWith ({ cls := "SlotMatLaw", name := "comesTo", desc := "(LSlotMat;I[J)I" } : Jvm.MethodName) method_17_code (4 : Nat) (Option.some Jvm.ClassFile.FieldType.int) [((0 : Nat), (9 : Nat), (12 : Nat), (18 : Nat))]) ∈ am_WT := am_wt (am_mt 1276 (by decide +kernel)) rfl
theorem w_1277 : (Jvm.Cond.methodLink "SlotMatLaw" (58 : Nat) ({ cls := "SlotMat", name := "comesTo", desc := "(I)I" } : Jvm.MethodName)) ∈ am_WT := am_wt (am_mt 1277 (by decide +kernel)) rfl
theorem w_1278 : (Jvm.Cond.instanceMethod ({ cls := "SlotMat", name := "comesTo", desc := "(I)I" } : Jvm.MethodName)) ∈ am_WT := am_wt (am_mt 1278 (by decide +kernel)) rfl
theorem w_1279 : (Jvm.Cond.selects "SlotMat" ({ cls := "SlotMat", name := "comesTo", desc := "(I)I" } : Jvm.MethodName) ({ cls := "SlotMat", name := "comesTo", desc := "(I)I" } : Jvm.MethodName)) ∈ am_WT := am_wt (am_mt 1279 (by decide +kernel)) rfl
theorem w_1280 : (Jvm.Cond.code ({ cls := "SlotMat", name := "comesTo", desc := "(I)I" } : Jvm.MethodName) prog_1_method_23_code (2 : Nat) (Option.some Jvm.ClassFile.FieldType.int)) ∈ am_WT := am_wt (am_mt 1280 (by decide +kernel)) rfl
theorem w_1281 : (Jvm.Cond.methodLink "SlotMatLaw" (190 : Nat) ({ cls := "SlotMatLaw", name := "toCover", desc := "(LSlotMat;I[J)I" } : Jvm.MethodName)) ∈ am_WT := am_wt (am_mt 1281 (by decide +kernel)) rfl
theorem w_1282 : (Jvm.Cond.static ({ cls := "SlotMatLaw", name := "toCover", desc := "(LSlotMat;I[J)I" } : Jvm.MethodName)) ∈ am_WT := am_wt (am_mt 1282 (by decide +kernel)) rfl
theorem w_1283 : (Jvm.Cond.codeWith ({ cls := "SlotMatLaw", name := "toCover", desc := "(LSlotMat;I[J)I" } : Jvm.MethodName) method_18_code (4 : Nat) (Option.some Jvm.ClassFile.FieldType.int) [((0 : Nat), (9 : Nat), (12 : Nat), (13 : Nat))]) ∈ am_WT := am_wt (am_mt 1283 (by decide +kernel)) rfl
theorem w_1284 : (Jvm.Cond.methodLink "SlotMatLaw" (61 : Nat) ({ cls := "SlotMat", name := "toCover", desc := "(I)I" } : Jvm.MethodName)) ∈ am_WT := am_wt (am_mt 1284 (by decide +kernel)) rfl
theorem w_1285 : (Jvm.Cond.instanceMethod ({ cls := "SlotMat", name := "toCover", desc := "(I)I" } : Jvm.MethodName)) ∈ am_WT := am_wt (am_mt 1285 (by decide +kernel)) rfl
theorem w_1286 : (Jvm.Cond.selects "SlotMat" ({ cls := "SlotMat", name := "toCover", desc := "(I)I" } : Jvm.MethodName) ({ cls := "SlotMat", name := "toCover", desc := "(I)I" } : Jvm.MethodName)) ∈ am_WT := am_wt (am_mt 1286 (by decide +kernel)) rfl
theorem w_1287 : (Jvm.Cond.code ({ cls := "SlotMat", name := "toCover", desc := "(I)I" } : Jvm.MethodName) prog_1_method_24_code (2 : Nat) (Option.some Jvm.ClassFile.FieldType.int)) ∈ am_WT := am_wt (am_mt 1287 (by decide +kernel)) rfl
theorem w_1288 : (Jvm.Cond.methodLink "SlotMat" (266 : Nat) ({ cls := "SlotMat$City", name := "fewestCovering", desc := "(I)I" } : Jvm.MethodName)) ∈ am_WT := am_wt (am_mt 1288 (by decide +kernel)) rfl
theorem w_1289 : (Jvm.Cond.instanceMethod ({ cls := "SlotMat$City", name := "fewestCovering", desc := "(I)I" } : Jvm.MethodName)) ∈ am_WT := am_wt (am_mt 1289 (by decide +kernel)) rfl
theorem w_1290 : (Jvm.Cond.selects "SlotMat$City" ({ cls := "SlotMat$City", name := "fewestCovering", desc := "(I)I" } : Jvm.MethodName) ({ cls := "SlotMat$City", name := "fewestCovering", desc := "(I)I" } : Jvm.MethodName)) ∈ am_WT := am_wt (am_mt 1290 (by decide +kernel)) rfl
theorem w_1291 : (Jvm.Cond.code ({ cls := "SlotMat$City", name := "fewestCovering", desc := "(I)I" } : Jvm.MethodName) prog_3_method_26_code (5 : Nat) (Option.some Jvm.ClassFile.FieldType.int)) ∈ am_WT := am_wt (am_mt 1291 (by decide +kernel)) rfl
theorem w_1292 : (Jvm.Cond.methodLink "SlotMat$City" (167 : Nat) ({ cls := "java/lang/Integer", name := "bitCount", desc := "(I)I" } : Jvm.MethodName)) ∈ am_WT := am_wt (am_mt 1292 (by decide +kernel)) rfl
theorem w_1293 : (Jvm.Cond.static ({ cls := "java/lang/Integer", name := "bitCount", desc := "(I)I" } : Jvm.MethodName)) ∈ am_WT := am_wt (am_mt 1293 (by decide +kernel)) rfl
theorem w_1294 : (Jvm.Cond.code ({ cls := "java/lang/Integer", name := "bitCount", desc := "(I)I" } : Jvm.MethodName) prog_21_method_49_code (1 : Nat) (Option.some Jvm.ClassFile.FieldType.int)) ∈ am_WT := am_wt (am_mt 1294 (by decide +kernel)) rfl
theorem w_1295 : (Jvm.Cond.constant "java/lang/Integer" (265 : Nat) (1431655765 : Int32)) ∈ am_WT := am_wt (am_mt 1295 (by decide +kernel)) rfl
theorem w_1296 : (Jvm.Cond.constant "java/lang/Integer" (266 : Nat) (858993459 : Int32)) ∈ am_WT := am_wt (am_mt 1296 (by decide +kernel)) rfl
theorem w_1297 : (Jvm.Cond.constant "java/lang/Integer" (267 : Nat) (252645135 : Int32)) ∈ am_WT := am_wt (am_mt 1297 (by decide +kernel)) rfl
theorem w_1298 : (Jvm.Cond.methodLink "SlotMat$City" (172 : Nat) ({ cls := "SlotMat$City", name := "coversAll", desc := "(II)Z" } : Jvm.MethodName)) ∈ am_WT := am_wt (am_mt 1298 (by decide +kernel)) rfl
theorem w_1300 : (Jvm.Cond.instanceMethod ({ cls := "SlotMat$City", name := "coversAll", desc := "(II)Z" } : Jvm.MethodName)) ∈ am_WT := am_wt (am_mt 1300 (by decide +kernel)) rfl
theorem w_1301 : (Jvm.Cond.code ({ cls := "SlotMat$City", name := "coversAll", desc := "(II)Z" } : Jvm.MethodName) prog_3_method_27_code (4 : Nat) (Option.some Jvm.ClassFile.FieldType.boolean)) ∈ am_WT := am_wt (am_mt 1301 (by decide +kernel)) rfl
theorem w_1302 : (Jvm.Cond.methodLink "SlotMat$City" (176 : Nat) ({ cls := "SlotMat$City", name := "covers", desc := "(III)Z" } : Jvm.MethodName)) ∈ am_WT := am_wt (am_mt 1302 (by decide +kernel)) rfl
theorem w_1304 : (Jvm.Cond.instanceMethod ({ cls := "SlotMat$City", name := "covers", desc := "(III)Z" } : Jvm.MethodName)) ∈ am_WT := am_wt (am_mt 1304 (by decide +kernel)) rfl
theorem w_1305 : (Jvm.Cond.code ({ cls := "SlotMat$City", name := "covers", desc := "(III)Z" } : Jvm.MethodName) prog_3_method_28_code (5 : Nat) (Option.some Jvm.ClassFile.FieldType.boolean)) ∈ am_WT := am_wt (am_mt 1305 (by decide +kernel)) rfl
theorem w_1306 : (Jvm.Cond.methodLink "SlotMatLaw" (193 : Nat) ({ cls := "SlotMatLaw", name := "oneMore", desc := "(LSlotMat;I[J)I" } : Jvm.MethodName)) ∈ am_WT := am_wt (am_mt 1306 (by decide +kernel)) rfl
theorem w_1307 : (Jvm.Cond.static ({ cls := "SlotMatLaw", name := "oneMore", desc := "(LSlotMat;I[J)I" } : Jvm.MethodName)) ∈ am_WT := am_wt (am_mt 1307 (by decide +kernel)) rfl
theorem w_1308 : (Jvm.Cond.codeWith ({ cls := "SlotMatLaw", name := "oneMore", desc := "(LSlotMat;I[J)I" } : Jvm.MethodName) method_19_code (4 : Nat) (Option.some Jvm.ClassFile.FieldType.int) [((0 : Nat), (9 : Nat), (12 : Nat), (18 : Nat))]) ∈ am_WT := am_wt (am_mt 1308 (by decide +kernel)) rfl
theorem w_1309 : (Jvm.Cond.methodLink "SlotMatLaw" (64 : Nat) ({ cls := "SlotMat", name := "oneMore", desc := "(I)I" } : Jvm.MethodName)) ∈ am_WT := am_wt (am_mt 1309 (by decide +kernel)) rfl
theorem w_1310 : (Jvm.Cond.instanceMethod ({ cls := "SlotMat", name := "oneMore", desc := "(I)I" } : Jvm.MethodName)) ∈ am_WT := am_wt (am_mt 1310 (by decide +kernel)) rfl
theorem w_1311 : (Jvm.Cond.selects "SlotMat" ({ cls := "SlotMat", name := "oneMore", desc := "(I)I" } : Jvm.MethodName) ({ cls := "SlotMat", name := "oneMore", desc := "(I)I" } : Jvm.MethodName)) ∈ am_WT := am_wt (am_mt 1311 (by decide +kernel)) rfl
theorem w_1312 : (Jvm.Cond.code ({ cls := "SlotMat", name := "oneMore", desc := "(I)I" } : Jvm.MethodName) prog_1_method_25_code (3 : Nat) (Option.some Jvm.ClassFile.FieldType.int)) ∈ am_WT := am_wt (am_mt 1312 (by decide +kernel)) rfl
theorem w_1313 : (Jvm.Cond.methodLink "SlotMat" (273 : Nat) ({ cls := "SlotMat$City", name := "waysWith", desc := "(IZ)I" } : Jvm.MethodName)) ∈ am_WT := am_wt (am_mt 1313 (by decide +kernel)) rfl
theorem w_1314 : (Jvm.Cond.methodLink "SlotMatLaw" (196 : Nat) ({ cls := "SlotMatLaw", name := "order", desc := "(LSlotMat;I[J)I" } : Jvm.MethodName)) ∈ am_WT := am_wt (am_mt 1314 (by decide +kernel)) rfl
theorem w_1315 : (Jvm.Cond.static ({ cls := "SlotMatLaw", name := "order", desc := "(LSlotMat;I[J)I" } : Jvm.MethodName)) ∈ am_WT := am_wt (am_mt 1315 (by decide +kernel)) rfl
theorem w_1316 : (Jvm.Cond.codeWith ({ cls := "SlotMatLaw", name := "order", desc := "(LSlotMat;I[J)I" } : Jvm.MethodName) method_20_code (4 : Nat) (Option.some Jvm.ClassFile.FieldType.int) [((0 : Nat), (9 : Nat), (12 : Nat), (18 : Nat))]) ∈ am_WT := am_wt (am_mt 1316 (by decide +kernel)) rfl
theorem w_1317 : (Jvm.Cond.methodLink "SlotMatLaw" (67 : Nat) ({ cls := "SlotMat", name := "order", desc := "(I)I" } : Jvm.MethodName)) ∈ am_WT := am_wt (am_mt 1317 (by decide +kernel)) rfl
theorem w_1318 : (Jvm.Cond.instanceMethod ({ cls := "SlotMat", name := "order", desc := "(I)I" } : Jvm.MethodName)) ∈ am_WT := am_wt (am_mt 1318 (by decide +kernel)) rfl
theorem w_1319 : (Jvm.Cond.selects "SlotMat" ({ cls := "SlotMat", name := "order", desc := "(I)I" } : Jvm.MethodName) ({ cls := "SlotMat", name := "order", desc := "(I)I" } : Jvm.MethodName)) ∈ am_WT := am_wt (am_mt 1319 (by decide +kernel)) rfl
theorem w_1320 : (Jvm.Cond.code ({ cls := "SlotMat", name := "order", desc := "(I)I" } : Jvm.MethodName) prog_1_method_26_code (2 : Nat) (Option.some Jvm.ClassFile.FieldType.int)) ∈ am_WT := am_wt (am_mt 1320 (by decide +kernel)) rfl
theorem w_1321 : (Jvm.Cond.methodLink "SlotMat" (277 : Nat) ({ cls := "SlotMat$OrderSearch", name := "search", desc := "(LSlotMat$City;LSlotMat$State;)V" } : Jvm.MethodName)) ∈ am_WT := am_wt (am_mt 1321 (by decide +kernel)) rfl
theorem w_1322 : (Jvm.Cond.instanceMethod ({ cls := "SlotMat$OrderSearch", name := "search", desc := "(LSlotMat$City;LSlotMat$State;)V" } : Jvm.MethodName)) ∈ am_WT := am_wt (am_mt 1322 (by decide +kernel)) rfl
theorem w_1323 : (Jvm.Cond.selects "SlotMat$OrderSearch" ({ cls := "SlotMat$OrderSearch", name := "search", desc := "(LSlotMat$City;LSlotMat$State;)V" } : Jvm.MethodName) ({ cls := "SlotMat$OrderSearch", name := "search", desc := "(LSlotMat$City;LSlotMat$State;)V" } : Jvm.MethodName)) ∈ am_WT := am_wt (am_mt 1323 (by decide +kernel)) rfl
theorem w_1324 : (Jvm.Cond.code ({ cls := "SlotMat$OrderSearch", name := "search", desc := "(LSlotMat$City;LSlotMat$State;)V" } : Jvm.MethodName) prog_6_method_5_code (3 : Nat) (Option.none : Option Jvm.ClassFile.FieldType)) ∈ am_WT := am_wt (am_mt 1324 (by decide +kernel)) rfl
theorem w_1325 : (Jvm.Cond.methodLink "SlotMat$OrderSearch" (37 : Nat) ({ cls := "SlotMat$State", name := "isLike", desc := "(LSlotMat$State;)Z" } : Jvm.MethodName)) ∈ am_WT := am_wt (am_mt 1325 (by decide +kernel)) rfl
theorem w_1326 : (Jvm.Cond.instanceMethod ({ cls := "SlotMat$State", name := "isLike", desc := "(LSlotMat$State;)Z" } : Jvm.MethodName)) ∈ am_WT := am_wt (am_mt 1326 (by decide +kernel)) rfl
theorem w_1327 : (Jvm.Cond.selects "SlotMat$State" ({ cls := "SlotMat$State", name := "isLike", desc := "(LSlotMat$State;)Z" } : Jvm.MethodName) ({ cls := "SlotMat$State", name := "isLike", desc := "(LSlotMat$State;)Z" } : Jvm.MethodName)) ∈ am_WT := am_wt (am_mt 1327 (by decide +kernel)) rfl
theorem w_1328 : (Jvm.Cond.code ({ cls := "SlotMat$State", name := "isLike", desc := "(LSlotMat$State;)Z" } : Jvm.MethodName) prog_9_method_4_code (3 : Nat) (Option.some Jvm.ClassFile.FieldType.boolean)) ∈ am_WT := am_wt (am_mt 1328 (by decide +kernel)) rfl
theorem w_1329 : (Jvm.Cond.methodLink "SlotMat$OrderSearch" (41 : Nat) ({ cls := "SlotMat$State", name := "copyFrom", desc := "(LSlotMat$State;)V" } : Jvm.MethodName)) ∈ am_WT := am_wt (am_mt 1329 (by decide +kernel)) rfl
theorem w_1330 : (Jvm.Cond.methodLink "SlotMat$OrderSearch" (45 : Nat) ({ cls := "SlotMat$OrderSearch", name := "tryRows", desc := "(LSlotMat$City;II)V" } : Jvm.MethodName)) ∈ am_WT := am_wt (am_mt 1330 (by decide +kernel)) rfl
theorem w_1332 : (Jvm.Cond.instanceMethod ({ cls := "SlotMat$OrderSearch", name := "tryRows", desc := "(LSlotMat$City;II)V" } : Jvm.MethodName)) ∈ am_WT := am_wt (am_mt 1332 (by decide +kernel)) rfl
theorem w_1333 : (Jvm.Cond.code ({ cls := "SlotMat$OrderSearch", name := "tryRows", desc := "(LSlotMat$City;II)V" } : Jvm.MethodName) prog_6_method_6_code (6 : Nat) (Option.none : Option Jvm.ClassFile.FieldType)) ∈ am_WT := am_wt (am_mt 1333 (by decide +kernel)) rfl
theorem w_1334 : (Jvm.Cond.methodLink "SlotMat$OrderSearch" (33 : Nat) ({ cls := "SlotMat$State", name := "heardByAll", desc := "()I" } : Jvm.MethodName)) ∈ am_WT := am_wt (am_mt 1334 (by decide +kernel)) rfl
theorem w_1335 : (Jvm.Cond.methodLink "SlotMat$OrderSearch" (54 : Nat) ({ cls := "SlotMat$OrderSearch", name := "weighRow", desc := "(I)V" } : Jvm.MethodName)) ∈ am_WT := am_wt (am_mt 1335 (by decide +kernel)) rfl
theorem w_1337 : (Jvm.Cond.instanceMethod ({ cls := "SlotMat$OrderSearch", name := "weighRow", desc := "(I)V" } : Jvm.MethodName)) ∈ am_WT := am_wt (am_mt 1337 (by decide +kernel)) rfl
theorem w_1338 : (Jvm.Cond.code ({ cls := "SlotMat$OrderSearch", name := "weighRow", desc := "(I)V" } : Jvm.MethodName) prog_6_method_7_code (2 : Nat) (Option.none : Option Jvm.ClassFile.FieldType)) ∈ am_WT := am_wt (am_mt 1338 (by decide +kernel)) rfl
theorem w_1339 : (Jvm.Cond.methodLink "SlotMat$OrderSearch" (69 : Nat) ({ cls := "java/lang/System", name := "arraycopy", desc := "(Ljava/lang/Object;ILjava/lang/Object;II)V" } : Jvm.MethodName)) ∈ am_WT := am_wt (am_mt 1339 (by decide +kernel)) rfl
theorem w_1340 : (Jvm.Cond.methodLink "SlotMat$OrderSearch" (58 : Nat) ({ cls := "SlotMat$State", name := "dayNow", desc := "()I" } : Jvm.MethodName)) ∈ am_WT := am_wt (am_mt 1340 (by decide +kernel)) rfl
theorem w_1341 : (Jvm.Cond.methodLink "SlotMat$OrderSearch" (61 : Nat) ({ cls := "SlotMat$City", name := "wetOn", desc := "(I)I" } : Jvm.MethodName)) ∈ am_WT := am_wt (am_mt 1341 (by decide +kernel)) rfl
theorem w_1342 : (Jvm.Cond.methodLink "SlotMat$OrderSearch" (65 : Nat) ({ cls := "SlotMat$City", name := "passDayWith", desc := "(LSlotMat$State;II)I" } : Jvm.MethodName)) ∈ am_WT := am_wt (am_mt 1342 (by decide +kernel)) rfl
theorem w_1343 : (Jvm.Cond.methodLink "SlotMat" (281 : Nat) ({ cls := "SlotMat$OrderSearch", name := "gained", desc := "()I" } : Jvm.MethodName)) ∈ am_WT := am_wt (am_mt 1343 (by decide +kernel)) rfl
theorem w_1344 : (Jvm.Cond.instanceMethod ({ cls := "SlotMat$OrderSearch", name := "gained", desc := "()I" } : Jvm.MethodName)) ∈ am_WT := am_wt (am_mt 1344 (by decide +kernel)) rfl
theorem w_1345 : (Jvm.Cond.selects "SlotMat$OrderSearch" ({ cls := "SlotMat$OrderSearch", name := "gained", desc := "()I" } : Jvm.MethodName) ({ cls := "SlotMat$OrderSearch", name := "gained", desc := "()I" } : Jvm.MethodName)) ∈ am_WT := am_wt (am_mt 1345 (by decide +kernel)) rfl
theorem w_1346 : (Jvm.Cond.code ({ cls := "SlotMat$OrderSearch", name := "gained", desc := "()I" } : Jvm.MethodName) prog_6_method_3_code (1 : Nat) (Option.some Jvm.ClassFile.FieldType.int)) ∈ am_WT := am_wt (am_mt 1346 (by decide +kernel)) rfl
theorem w_1347 : (Jvm.Cond.methodLink "SlotMat" (284 : Nat) ({ cls := "SlotMat$OrderSearch", name := "boxAt", desc := "(I)I" } : Jvm.MethodName)) ∈ am_WT := am_wt (am_mt 1347 (by decide +kernel)) rfl
theorem w_1348 : (Jvm.Cond.instanceMethod ({ cls := "SlotMat$OrderSearch", name := "boxAt", desc := "(I)I" } : Jvm.MethodName)) ∈ am_WT := am_wt (am_mt 1348 (by decide +kernel)) rfl
theorem w_1349 : (Jvm.Cond.selects "SlotMat$OrderSearch" ({ cls := "SlotMat$OrderSearch", name := "boxAt", desc := "(I)I" } : Jvm.MethodName) ({ cls := "SlotMat$OrderSearch", name := "boxAt", desc := "(I)I" } : Jvm.MethodName)) ∈ am_WT := am_wt (am_mt 1349 (by decide +kernel)) rfl
theorem w_1350 : (Jvm.Cond.code ({ cls := "SlotMat$OrderSearch", name := "boxAt", desc := "(I)I" } : Jvm.MethodName) prog_6_method_4_code (2 : Nat) (Option.some Jvm.ClassFile.FieldType.int)) ∈ am_WT := am_wt (am_mt 1350 (by decide +kernel)) rfl
theorem w_1351 : (Jvm.Cond.methodLink "SlotMatLaw" (199 : Nat) ({ cls := "SlotMatLaw", name := "note", desc := "(LSlotMat;III[J)I" } : Jvm.MethodName)) ∈ am_WT := am_wt (am_mt 1351 (by decide +kernel)) rfl
theorem w_1352 : (Jvm.Cond.static ({ cls := "SlotMatLaw", name := "note", desc := "(LSlotMat;III[J)I" } : Jvm.MethodName)) ∈ am_WT := am_wt (am_mt 1352 (by decide +kernel)) rfl
theorem w_1353 : (Jvm.Cond.codeWith ({ cls := "SlotMatLaw", name := "note", desc := "(LSlotMat;III[J)I" } : Jvm.MethodName) method_21_code (6 : Nat) (Option.some Jvm.ClassFile.FieldType.int) [((0 : Nat), (12 : Nat), (15 : Nat), (18 : Nat))]) ∈ am_WT := am_wt (am_mt 1353 (by decide +kernel)) rfl
theorem w_1354 : (Jvm.Cond.methodLink "SlotMatLaw" (70 : Nat) ({ cls := "SlotMat", name := "note", desc := "(III)I" } : Jvm.MethodName)) ∈ am_WT := am_wt (am_mt 1354 (by decide +kernel)) rfl
theorem w_1355 : (Jvm.Cond.instanceMethod ({ cls := "SlotMat", name := "note", desc := "(III)I" } : Jvm.MethodName)) ∈ am_WT := am_wt (am_mt 1355 (by decide +kernel)) rfl
theorem w_1356 : (Jvm.Cond.selects "SlotMat" ({ cls := "SlotMat", name := "note", desc := "(III)I" } : Jvm.MethodName) ({ cls := "SlotMat", name := "note", desc := "(III)I" } : Jvm.MethodName)) ∈ am_WT := am_wt (am_mt 1356 (by decide +kernel)) rfl
theorem w_1357 : (Jvm.Cond.code ({ cls := "SlotMat", name := "note", desc := "(III)I" } : Jvm.MethodName) prog_1_method_27_code (4 : Nat) (Option.some Jvm.ClassFile.FieldType.int)) ∈ am_WT := am_wt (am_mt 1357 (by decide +kernel)) rfl
theorem w_1358 : (Jvm.Cond.methodLink "SlotMat" (287 : Nat) ({ cls := "SlotMat$Notes", name := "put", desc := "(III)V" } : Jvm.MethodName)) ∈ am_WT := am_wt (am_mt 1358 (by decide +kernel)) rfl
theorem w_1359 : (Jvm.Cond.instanceMethod ({ cls := "SlotMat$Notes", name := "put", desc := "(III)V" } : Jvm.MethodName)) ∈ am_WT := am_wt (am_mt 1359 (by decide +kernel)) rfl
theorem w_1360 : (Jvm.Cond.selects "SlotMat$Notes" ({ cls := "SlotMat$Notes", name := "put", desc := "(III)V" } : Jvm.MethodName) ({ cls := "SlotMat$Notes", name := "put", desc := "(III)V" } : Jvm.MethodName)) ∈ am_WT := am_wt (am_mt 1360 (by decide +kernel)) rfl
theorem w_1361 : (Jvm.Cond.code ({ cls := "SlotMat$Notes", name := "put", desc := "(III)V" } : Jvm.MethodName) prog_5_method_3_code (4 : Nat) (Option.none : Option Jvm.ClassFile.FieldType)) ∈ am_WT := am_wt (am_mt 1361 (by decide +kernel)) rfl
theorem w_1362 : (Jvm.Cond.methodLink "SlotMatLaw" (206 : Nat) ({ cls := "SlotMatLaw", name := "thought", desc := "(LSlotMat;I[J)I" } : Jvm.MethodName)) ∈ am_WT := am_wt (am_mt 1362 (by decide +kernel)) rfl
theorem w_1363 : (Jvm.Cond.static ({ cls := "SlotMatLaw", name := "thought", desc := "(LSlotMat;I[J)I" } : Jvm.MethodName)) ∈ am_WT := am_wt (am_mt 1363 (by decide +kernel)) rfl
theorem w_1364 : (Jvm.Cond.codeWith ({ cls := "SlotMatLaw", name := "thought", desc := "(LSlotMat;I[J)I" } : Jvm.MethodName) method_22_code (4 : Nat) (Option.some Jvm.ClassFile.FieldType.int) [((0 : Nat), (9 : Nat), (12 : Nat), (18 : Nat))]) ∈ am_WT := am_wt (am_mt 1364 (by decide +kernel)) rfl
theorem w_1365 : (Jvm.Cond.methodLink "SlotMatLaw" (73 : Nat) ({ cls := "SlotMat", name := "thought", desc := "(I)I" } : Jvm.MethodName)) ∈ am_WT := am_wt (am_mt 1365 (by decide +kernel)) rfl
theorem w_1366 : (Jvm.Cond.instanceMethod ({ cls := "SlotMat", name := "thought", desc := "(I)I" } : Jvm.MethodName)) ∈ am_WT := am_wt (am_mt 1366 (by decide +kernel)) rfl
theorem w_1367 : (Jvm.Cond.selects "SlotMat" ({ cls := "SlotMat", name := "thought", desc := "(I)I" } : Jvm.MethodName) ({ cls := "SlotMat", name := "thought", desc := "(I)I" } : Jvm.MethodName)) ∈ am_WT := am_wt (am_mt 1367 (by decide +kernel)) rfl
theorem w_1368 : (Jvm.Cond.code ({ cls := "SlotMat", name := "thought", desc := "(I)I" } : Jvm.MethodName) prog_1_method_29_code (6 : Nat) (Option.some Jvm.ClassFile.FieldType.int)) ∈ am_WT := am_wt (am_mt 1368 (by decide +kernel)) rfl
theorem w_1369 : (Jvm.Cond.methodLink "SlotMat" (290 : Nat) ({ cls := "SlotMat", name := "futureAgrees", desc := "()Z" } : Jvm.MethodName)) ∈ am_WT := am_wt (am_mt 1369 (by decide +kernel)) rfl
theorem w_1371 : (Jvm.Cond.instanceMethod ({ cls := "SlotMat", name := "futureAgrees", desc := "()Z" } : Jvm.MethodName)) ∈ am_WT := am_wt (am_mt 1371 (by decide +kernel)) rfl
theorem w_1372 : (Jvm.Cond.code ({ cls := "SlotMat", name := "futureAgrees", desc := "()Z" } : Jvm.MethodName) prog_1_method_31_code (3 : Nat) (Option.some Jvm.ClassFile.FieldType.boolean)) ∈ am_WT := am_wt (am_mt 1372 (by decide +kernel)) rfl
theorem w_1373 : (Jvm.Cond.methodLink "SlotMat" (297 : Nat) ({ cls := "SlotMat$Notes", name := "lastDay", desc := "()I" } : Jvm.MethodName)) ∈ am_WT := am_wt (am_mt 1373 (by decide +kernel)) rfl
theorem w_1374 : (Jvm.Cond.instanceMethod ({ cls := "SlotMat$Notes", name := "lastDay", desc := "()I" } : Jvm.MethodName)) ∈ am_WT := am_wt (am_mt 1374 (by decide +kernel)) rfl
theorem w_1375 : (Jvm.Cond.selects "SlotMat$Notes" ({ cls := "SlotMat$Notes", name := "lastDay", desc := "()I" } : Jvm.MethodName) ({ cls := "SlotMat$Notes", name := "lastDay", desc := "()I" } : Jvm.MethodName)) ∈ am_WT := am_wt (am_mt 1375 (by decide +kernel)) rfl
theorem w_1376 : (Jvm.Cond.code ({ cls := "SlotMat$Notes", name := "lastDay", desc := "()I" } : Jvm.MethodName) prog_5_method_5_code (3 : Nat) (Option.some Jvm.ClassFile.FieldType.int)) ∈ am_WT := am_wt (am_mt 1376 (by decide +kernel)) rfl
theorem w_1377 : (Jvm.Cond.methodLink "SlotMat$Notes" (31 : Nat) ({ cls := "java/lang/Math", name := "max", desc := "(II)I" } : Jvm.MethodName)) ∈ am_WT := am_wt (am_mt 1377 (by decide +kernel)) rfl
theorem w_1378 : (Jvm.Cond.methodLink "SlotMat" (300 : Nat) ({ cls := "SlotMat$Notes", name := "agree", desc := "(ILSlotMat$State;)Z" } : Jvm.MethodName)) ∈ am_WT := am_wt (am_mt 1378 (by decide +kernel)) rfl
theorem w_1379 : (Jvm.Cond.instanceMethod ({ cls := "SlotMat$Notes", name := "agree", desc := "(ILSlotMat$State;)Z" } : Jvm.MethodName)) ∈ am_WT := am_wt (am_mt 1379 (by decide +kernel)) rfl
theorem w_1380 : (Jvm.Cond.selects "SlotMat$Notes" ({ cls := "SlotMat$Notes", name := "agree", desc := "(ILSlotMat$State;)Z" } : Jvm.MethodName) ({ cls := "SlotMat$Notes", name := "agree", desc := "(ILSlotMat$State;)Z" } : Jvm.MethodName)) ∈ am_WT := am_wt (am_mt 1380 (by decide +kernel)) rfl
theorem w_1381 : (Jvm.Cond.code ({ cls := "SlotMat$Notes", name := "agree", desc := "(ILSlotMat$State;)Z" } : Jvm.MethodName) prog_5_method_6_code (4 : Nat) (Option.some Jvm.ClassFile.FieldType.boolean)) ∈ am_WT := am_wt (am_mt 1381 (by decide +kernel)) rfl
theorem w_1382 : (Jvm.Cond.methodLink "SlotMat$Notes" (37 : Nat) ({ cls := "SlotMat$State", name := "heardBy", desc := "(I)I" } : Jvm.MethodName)) ∈ am_WT := am_wt (am_mt 1382 (by decide +kernel)) rfl
theorem w_1383 : (Jvm.Cond.methodLink "SlotMat" (293 : Nat) ({ cls := "SlotMat", name := "turnFuture", desc := "(II)Z" } : Jvm.MethodName)) ∈ am_WT := am_wt (am_mt 1383 (by decide +kernel)) rfl
theorem w_1385 : (Jvm.Cond.instanceMethod ({ cls := "SlotMat", name := "turnFuture", desc := "(II)Z" } : Jvm.MethodName)) ∈ am_WT := am_wt (am_mt 1385 (by decide +kernel)) rfl
theorem w_1386 : (Jvm.Cond.code ({ cls := "SlotMat", name := "turnFuture", desc := "(II)Z" } : Jvm.MethodName) prog_1_method_30_code (3 : Nat) (Option.some Jvm.ClassFile.FieldType.boolean)) ∈ am_WT := am_wt (am_mt 1386 (by decide +kernel)) rfl
theorem w_1387 : (Jvm.Cond.methodLink "SlotMatLaw" (209 : Nat) ({ cls := "SlotMatLaw", name := "ask", desc := "(LSlotMat;I[J)I" } : Jvm.MethodName)) ∈ am_WT := am_wt (am_mt 1387 (by decide +kernel)) rfl
theorem w_1388 : (Jvm.Cond.static ({ cls := "SlotMatLaw", name := "ask", desc := "(LSlotMat;I[J)I" } : Jvm.MethodName)) ∈ am_WT := am_wt (am_mt 1388 (by decide +kernel)) rfl
theorem w_1389 : (Jvm.Cond.codeWith ({ cls := "SlotMatLaw", name := "ask", desc := "(LSlotMat;I[J)I" } : Jvm.MethodName) method_23_code (4 : Nat) (Option.some Jvm.ClassFile.FieldType.int) [((0 : Nat), (9 : Nat), (12 : Nat), (18 : Nat))]) ∈ am_WT := am_wt (am_mt 1389 (by decide +kernel)) rfl
theorem w_1390 : (Jvm.Cond.methodLink "SlotMatLaw" (76 : Nat) ({ cls := "SlotMat", name := "ask", desc := "(I)I" } : Jvm.MethodName)) ∈ am_WT := am_wt (am_mt 1390 (by decide +kernel)) rfl
theorem w_1391 : (Jvm.Cond.instanceMethod ({ cls := "SlotMat", name := "ask", desc := "(I)I" } : Jvm.MethodName)) ∈ am_WT := am_wt (am_mt 1391 (by decide +kernel)) rfl
theorem w_1392 : (Jvm.Cond.selects "SlotMat" ({ cls := "SlotMat", name := "ask", desc := "(I)I" } : Jvm.MethodName) ({ cls := "SlotMat", name := "ask", desc := "(I)I" } : Jvm.MethodName)) ∈ am_WT := am_wt (am_mt 1392 (by decide +kernel)) rfl
theorem w_1393 : (Jvm.Cond.code ({ cls := "SlotMat", name := "ask", desc := "(I)I" } : Jvm.MethodName) prog_1_method_32_code (7 : Nat) (Option.some Jvm.ClassFile.FieldType.int)) ∈ am_WT := am_wt (am_mt 1393 (by decide +kernel)) rfl
theorem w_1394 : (Jvm.Cond.methodLink "SlotMat" (304 : Nat) ({ cls := "SlotMat", name := "gatherHeardByThoughts", desc := "()I" } : Jvm.MethodName)) ∈ am_WT := am_wt (am_mt 1394 (by decide +kernel)) rfl
theorem w_1396 : (Jvm.Cond.instanceMethod ({ cls := "SlotMat", name := "gatherHeardByThoughts", desc := "()I" } : Jvm.MethodName)) ∈ am_WT := am_wt (am_mt 1396 (by decide +kernel)) rfl
theorem w_1397 : (Jvm.Cond.code ({ cls := "SlotMat", name := "gatherHeardByThoughts", desc := "()I" } : Jvm.MethodName) prog_1_method_33_code (5 : Nat) (Option.some Jvm.ClassFile.FieldType.int)) ∈ am_WT := am_wt (am_mt 1397 (by decide +kernel)) rfl
theorem w_1398 : (Jvm.Cond.methodLink "SlotMat" (310 : Nat) ({ cls := "SlotMat", name := "lookAheadTurned", desc := "(III)V" } : Jvm.MethodName)) ∈ am_WT := am_wt (am_mt 1398 (by decide +kernel)) rfl
theorem w_1400 : (Jvm.Cond.instanceMethod ({ cls := "SlotMat", name := "lookAheadTurned", desc := "(III)V" } : Jvm.MethodName)) ∈ am_WT := am_wt (am_mt 1400 (by decide +kernel)) rfl
theorem w_1401 : (Jvm.Cond.code ({ cls := "SlotMat", name := "lookAheadTurned", desc := "(III)V" } : Jvm.MethodName) prog_1_method_34_code (5 : Nat) (Option.none : Option Jvm.ClassFile.FieldType)) ∈ am_WT := am_wt (am_mt 1401 (by decide +kernel)) rfl
theorem w_1402 : (Jvm.Cond.methodLink "SlotMat" (307 : Nat) ({ cls := "SlotMat", name := "countUnlike", desc := "(II)I" } : Jvm.MethodName)) ∈ am_WT := am_wt (am_mt 1402 (by decide +kernel)) rfl
theorem w_1404 : (Jvm.Cond.instanceMethod ({ cls := "SlotMat", name := "countUnlike", desc := "(II)I" } : Jvm.MethodName)) ∈ am_WT := am_wt (am_mt 1404 (by decide +kernel)) rfl
theorem w_1405 : (Jvm.Cond.code ({ cls := "SlotMat", name := "countUnlike", desc := "(II)I" } : Jvm.MethodName) prog_1_method_35_code (5 : Nat) (Option.some Jvm.ClassFile.FieldType.int)) ∈ am_WT := am_wt (am_mt 1405 (by decide +kernel)) rfl
theorem w_1406 : (Jvm.Cond.methodLink "SlotMat" (313 : Nat) ({ cls := "SlotMat", name := "isNewSum", desc := "(II)Z" } : Jvm.MethodName)) ∈ am_WT := am_wt (am_mt 1406 (by decide +kernel)) rfl
theorem w_1408 : (Jvm.Cond.instanceMethod ({ cls := "SlotMat", name := "isNewSum", desc := "(II)Z" } : Jvm.MethodName)) ∈ am_WT := am_wt (am_mt 1408 (by decide +kernel)) rfl
theorem w_1409 : (Jvm.Cond.code ({ cls := "SlotMat", name := "isNewSum", desc := "(II)Z" } : Jvm.MethodName) prog_1_method_36_code (5 : Nat) (Option.some Jvm.ClassFile.FieldType.boolean)) ∈ am_WT := am_wt (am_mt 1409 (by decide +kernel)) rfl
theorem w_1410 : (Jvm.Cond.methodLink "SlotMatLaw" (212 : Nat) ({ cls := "SlotMatLaw", name := "wetNights", desc := "(LSlotMat;IIII[J)I" } : Jvm.MethodName)) ∈ am_WT := am_wt (am_mt 1410 (by decide +kernel)) rfl
theorem w_1411 : (Jvm.Cond.static ({ cls := "SlotMatLaw", name := "wetNights", desc := "(LSlotMat;IIII[J)I" } : Jvm.MethodName)) ∈ am_WT := am_wt (am_mt 1411 (by decide +kernel)) rfl
theorem w_1412 : (Jvm.Cond.codeWith ({ cls := "SlotMatLaw", name := "wetNights", desc := "(LSlotMat;IIII[J)I" } : Jvm.MethodName) method_24_code (7 : Nat) (Option.some Jvm.ClassFile.FieldType.int) [((0 : Nat), (14 : Nat), (17 : Nat), (18 : Nat)), ((0 : Nat), (14 : Nat), (21 : Nat), (13 : Nat))]) ∈ am_WT := am_wt (am_mt 1412 (by decide +kernel)) rfl
theorem w_1413 : (Jvm.Cond.methodLink "SlotMatLaw" (79 : Nat) ({ cls := "SlotMat", name := "wetNights", desc := "(IIII)I" } : Jvm.MethodName)) ∈ am_WT := am_wt (am_mt 1413 (by decide +kernel)) rfl
theorem w_1414 : (Jvm.Cond.instanceMethod ({ cls := "SlotMat", name := "wetNights", desc := "(IIII)I" } : Jvm.MethodName)) ∈ am_WT := am_wt (am_mt 1414 (by decide +kernel)) rfl
theorem w_1415 : (Jvm.Cond.selects "SlotMat" ({ cls := "SlotMat", name := "wetNights", desc := "(IIII)I" } : Jvm.MethodName) ({ cls := "SlotMat", name := "wetNights", desc := "(IIII)I" } : Jvm.MethodName)) ∈ am_WT := am_wt (am_mt 1415 (by decide +kernel)) rfl
theorem w_1416 : (Jvm.Cond.code ({ cls := "SlotMat", name := "wetNights", desc := "(IIII)I" } : Jvm.MethodName) prog_1_method_37_code (8 : Nat) (Option.some Jvm.ClassFile.FieldType.int)) ∈ am_WT := am_wt (am_mt 1416 (by decide +kernel)) rfl
theorem w_1417 : (Jvm.Cond.methodLink "SlotMat" (316 : Nat) ({ cls := "SlotMat", name := "weightOf", desc := "(III)I" } : Jvm.MethodName)) ∈ am_WT := am_wt (am_mt 1417 (by decide +kernel)) rfl
theorem w_1418 : (Jvm.Cond.static ({ cls := "SlotMat", name := "weightOf", desc := "(III)I" } : Jvm.MethodName)) ∈ am_WT := am_wt (am_mt 1418 (by decide +kernel)) rfl
theorem w_1419 : (Jvm.Cond.code ({ cls := "SlotMat", name := "weightOf", desc := "(III)I" } : Jvm.MethodName) prog_1_method_38_code (5 : Nat) (Option.some Jvm.ClassFile.FieldType.int)) ∈ am_WT := am_wt (am_mt 1419 (by decide +kernel)) rfl
theorem w_1420 : (Jvm.Cond.methodLink "SlotMat" (320 : Nat) ({ cls := "SlotMat", name := "heardByNights", desc := "(III)I" } : Jvm.MethodName)) ∈ am_WT := am_wt (am_mt 1420 (by decide +kernel)) rfl
theorem w_1422 : (Jvm.Cond.instanceMethod ({ cls := "SlotMat", name := "heardByNights", desc := "(III)I" } : Jvm.MethodName)) ∈ am_WT := am_wt (am_mt 1422 (by decide +kernel)) rfl
theorem w_1423 : (Jvm.Cond.code ({ cls := "SlotMat", name := "heardByNights", desc := "(III)I" } : Jvm.MethodName) prog_1_method_39_code (6 : Nat) (Option.some Jvm.ClassFile.FieldType.int)) ∈ am_WT := am_wt (am_mt 1423 (by decide +kernel)) rfl
theorem w_1424 : (Jvm.Cond.methodLink "SlotMat" (323 : Nat) ({ cls := "SlotMat$City", name := "passDayWith", desc := "(LSlotMat$State;II)I" } : Jvm.MethodName)) ∈ am_WT := am_wt (am_mt 1424 (by decide +kernel)) rfl
theorem w_1425 : (Jvm.Cond.methodLink "SlotMatLaw" (216 : Nat) ({ cls := "SlotMatLaw", name := "game", desc := "(LSlotMat;III[J)I" } : Jvm.MethodName)) ∈ am_WT := am_wt (am_mt 1425 (by decide +kernel)) rfl
theorem w_1426 : (Jvm.Cond.static ({ cls := "SlotMatLaw", name := "game", desc := "(LSlotMat;III[J)I" } : Jvm.MethodName)) ∈ am_WT := am_wt (am_mt 1426 (by decide +kernel)) rfl
theorem w_1427 : (Jvm.Cond.codeWith ({ cls := "SlotMatLaw", name := "game", desc := "(LSlotMat;III[J)I" } : Jvm.MethodName) method_25_code (6 : Nat) (Option.some Jvm.ClassFile.FieldType.int) [((0 : Nat), (12 : Nat), (15 : Nat), (18 : Nat)), ((0 : Nat), (12 : Nat), (19 : Nat), (13 : Nat))]) ∈ am_WT := am_wt (am_mt 1427 (by decide +kernel)) rfl
theorem w_1428 : (Jvm.Cond.methodLink "SlotMatLaw" (83 : Nat) ({ cls := "SlotMat", name := "game", desc := "(III)I" } : Jvm.MethodName)) ∈ am_WT := am_wt (am_mt 1428 (by decide +kernel)) rfl
theorem w_1429 : (Jvm.Cond.instanceMethod ({ cls := "SlotMat", name := "game", desc := "(III)I" } : Jvm.MethodName)) ∈ am_WT := am_wt (am_mt 1429 (by decide +kernel)) rfl
theorem w_1430 : (Jvm.Cond.selects "SlotMat" ({ cls := "SlotMat", name := "game", desc := "(III)I" } : Jvm.MethodName) ({ cls := "SlotMat", name := "game", desc := "(III)I" } : Jvm.MethodName)) ∈ am_WT := am_wt (am_mt 1430 (by decide +kernel)) rfl
theorem w_1431 : (Jvm.Cond.code ({ cls := "SlotMat", name := "game", desc := "(III)I" } : Jvm.MethodName) prog_1_method_40_code (7 : Nat) (Option.some Jvm.ClassFile.FieldType.int)) ∈ am_WT := am_wt (am_mt 1431 (by decide +kernel)) rfl
theorem w_1433 : (Jvm.Cond.methodLink "SlotMat" (329 : Nat) ({ cls := "SlotMat", name := "weighCouple", desc := "(III)V" } : Jvm.MethodName)) ∈ am_WT := am_wt (am_mt 1433 (by decide +kernel)) rfl
theorem w_1435 : (Jvm.Cond.instanceMethod ({ cls := "SlotMat", name := "weighCouple", desc := "(III)V" } : Jvm.MethodName)) ∈ am_WT := am_wt (am_mt 1435 (by decide +kernel)) rfl
theorem w_1436 : (Jvm.Cond.code ({ cls := "SlotMat", name := "weighCouple", desc := "(III)V" } : Jvm.MethodName) prog_1_method_41_code (7 : Nat) (Option.none : Option Jvm.ClassFile.FieldType)) ∈ am_WT := am_wt (am_mt 1436 (by decide +kernel)) rfl
theorem w_1437 : (Jvm.Cond.methodLink "SlotMat" (336 : Nat) ({ cls := "SlotMat", name := "gainOf", desc := "(II)I" } : Jvm.MethodName)) ∈ am_WT := am_wt (am_mt 1437 (by decide +kernel)) rfl
theorem w_1439 : (Jvm.Cond.instanceMethod ({ cls := "SlotMat", name := "gainOf", desc := "(II)I" } : Jvm.MethodName)) ∈ am_WT := am_wt (am_mt 1439 (by decide +kernel)) rfl
theorem w_1440 : (Jvm.Cond.code ({ cls := "SlotMat", name := "gainOf", desc := "(II)I" } : Jvm.MethodName) prog_1_method_42_code (3 : Nat) (Option.some Jvm.ClassFile.FieldType.int)) ∈ am_WT := am_wt (am_mt 1440 (by decide +kernel)) rfl
theorem w_1441 : (Jvm.Cond.methodLink "SlotMat" (332 : Nat) ({ cls := "SlotMat", name := "coupleRests", desc := "(I)Z" } : Jvm.MethodName)) ∈ am_WT := am_wt (am_mt 1441 (by decide +kernel)) rfl
theorem w_1443 : (Jvm.Cond.instanceMethod ({ cls := "SlotMat", name := "coupleRests", desc := "(I)Z" } : Jvm.MethodName)) ∈ am_WT := am_wt (am_mt 1443 (by decide +kernel)) rfl
theorem w_1444 : (Jvm.Cond.code ({ cls := "SlotMat", name := "coupleRests", desc := "(I)Z" } : Jvm.MethodName) prog_1_method_43_code (4 : Nat) (Option.some Jvm.ClassFile.FieldType.boolean)) ∈ am_WT := am_wt (am_mt 1444 (by decide +kernel)) rfl
theorem w_1445 : (Jvm.Cond.methodLink "SlotMatLaw" (219 : Nat) ({ cls := "SlotMatLaw", name := "years", desc := "(LSlotMat;III[J)I" } : Jvm.MethodName)) ∈ am_WT := am_wt (am_mt 1445 (by decide +kernel)) rfl
theorem w_1446 : (Jvm.Cond.static ({ cls := "SlotMatLaw", name := "years", desc := "(LSlotMat;III[J)I" } : Jvm.MethodName)) ∈ am_WT := am_wt (am_mt 1446 (by decide +kernel)) rfl
theorem w_1447 : (Jvm.Cond.codeWith ({ cls := "SlotMatLaw", name := "years", desc := "(LSlotMat;III[J)I" } : Jvm.MethodName) method_26_code (6 : Nat) (Option.some Jvm.ClassFile.FieldType.int) [((0 : Nat), (12 : Nat), (15 : Nat), (18 : Nat)), ((0 : Nat), (12 : Nat), (19 : Nat), (13 : Nat))]) ∈ am_WT := am_wt (am_mt 1447 (by decide +kernel)) rfl
theorem w_1448 : (Jvm.Cond.methodLink "SlotMatLaw" (86 : Nat) ({ cls := "SlotMat", name := "years", desc := "(III)I" } : Jvm.MethodName)) ∈ am_WT := am_wt (am_mt 1448 (by decide +kernel)) rfl
theorem w_1449 : (Jvm.Cond.instanceMethod ({ cls := "SlotMat", name := "years", desc := "(III)I" } : Jvm.MethodName)) ∈ am_WT := am_wt (am_mt 1449 (by decide +kernel)) rfl
theorem w_1450 : (Jvm.Cond.selects "SlotMat" ({ cls := "SlotMat", name := "years", desc := "(III)I" } : Jvm.MethodName) ({ cls := "SlotMat", name := "years", desc := "(III)I" } : Jvm.MethodName)) ∈ am_WT := am_wt (am_mt 1450 (by decide +kernel)) rfl
theorem w_1451 : (Jvm.Cond.code ({ cls := "SlotMat", name := "years", desc := "(III)I" } : Jvm.MethodName) prog_1_method_44_code (6 : Nat) (Option.some Jvm.ClassFile.FieldType.int)) ∈ am_WT := am_wt (am_mt 1451 (by decide +kernel)) rfl
theorem w_1452 : (Jvm.Cond.methodLink "SlotMat" (339 : Nat) ({ cls := "SlotMat", name := "draw", desc := "(I)I" } : Jvm.MethodName)) ∈ am_WT := am_wt (am_mt 1452 (by decide +kernel)) rfl
theorem w_1454 : (Jvm.Cond.instanceMethod ({ cls := "SlotMat", name := "draw", desc := "(I)I" } : Jvm.MethodName)) ∈ am_WT := am_wt (am_mt 1454 (by decide +kernel)) rfl
theorem w_1455 : (Jvm.Cond.code ({ cls := "SlotMat", name := "draw", desc := "(I)I" } : Jvm.MethodName) prog_1_method_46_code (2 : Nat) (Option.some Jvm.ClassFile.FieldType.int)) ∈ am_WT := am_wt (am_mt 1455 (by decide +kernel)) rfl
theorem w_1456 : (Jvm.Cond.constant "SlotMat" (348 : Nat) (1103515245 : Int32)) ∈ am_WT := am_wt (am_mt 1456 (by decide +kernel)) rfl
theorem w_1457 : (Jvm.Cond.methodLink "SlotMat" (342 : Nat) ({ cls := "SlotMat", name := "drawAct", desc := "()V" } : Jvm.MethodName)) ∈ am_WT := am_wt (am_mt 1457 (by decide +kernel)) rfl
theorem w_1459 : (Jvm.Cond.instanceMethod ({ cls := "SlotMat", name := "drawAct", desc := "()V" } : Jvm.MethodName)) ∈ am_WT := am_wt (am_mt 1459 (by decide +kernel)) rfl
theorem w_1460 : (Jvm.Cond.code ({ cls := "SlotMat", name := "drawAct", desc := "()V" } : Jvm.MethodName) prog_1_method_45_code (4 : Nat) (Option.none : Option Jvm.ClassFile.FieldType)) ∈ am_WT := am_wt (am_mt 1460 (by decide +kernel)) rfl
theorem w_1461 : (Jvm.Cond.methodLink "SlotMat" (345 : Nat) ({ cls := "SlotMat$State", name := "regretOfAll", desc := "()I" } : Jvm.MethodName)) ∈ am_WT := am_wt (am_mt 1461 (by decide +kernel)) rfl
theorem w_1462 : (Jvm.Cond.instanceMethod ({ cls := "SlotMat$State", name := "regretOfAll", desc := "()I" } : Jvm.MethodName)) ∈ am_WT := am_wt (am_mt 1462 (by decide +kernel)) rfl
theorem w_1463 : (Jvm.Cond.selects "SlotMat$State" ({ cls := "SlotMat$State", name := "regretOfAll", desc := "()I" } : Jvm.MethodName) ({ cls := "SlotMat$State", name := "regretOfAll", desc := "()I" } : Jvm.MethodName)) ∈ am_WT := am_wt (am_mt 1463 (by decide +kernel)) rfl
theorem w_1464 : (Jvm.Cond.code ({ cls := "SlotMat$State", name := "regretOfAll", desc := "()I" } : Jvm.MethodName) prog_9_method_13_code (1 : Nat) (Option.some Jvm.ClassFile.FieldType.int)) ∈ am_WT := am_wt (am_mt 1464 (by decide +kernel)) rfl
theorem w_1465 : (Jvm.Cond.methodLink "SlotMatLaw" (222 : Nat) ({ cls := "SlotMatLaw", name := "pale", desc := "(LSlotMat;II[J)I" } : Jvm.MethodName)) ∈ am_WT := am_wt (am_mt 1465 (by decide +kernel)) rfl
theorem w_1466 : (Jvm.Cond.static ({ cls := "SlotMatLaw", name := "pale", desc := "(LSlotMat;II[J)I" } : Jvm.MethodName)) ∈ am_WT := am_wt (am_mt 1466 (by decide +kernel)) rfl
theorem w_1467 : (Jvm.Cond.codeWith ({ cls := "SlotMatLaw", name := "pale", desc := "(LSlotMat;II[J)I" } : Jvm.MethodName) method_27_code (5 : Nat) (Option.some Jvm.ClassFile.FieldType.int) [((0 : Nat), (10 : Nat), (13 : Nat), (18 : Nat)), ((0 : Nat), (10 : Nat), (17 : Nat), (13 : Nat))]) ∈ am_WT := am_wt (am_mt 1467 (by decide +kernel)) rfl
theorem w_1468 : (Jvm.Cond.methodLink "SlotMatLaw" (89 : Nat) ({ cls := "SlotMat", name := "pale", desc := "(II)I" } : Jvm.MethodName)) ∈ am_WT := am_wt (am_mt 1468 (by decide +kernel)) rfl
theorem w_1469 : (Jvm.Cond.instanceMethod ({ cls := "SlotMat", name := "pale", desc := "(II)I" } : Jvm.MethodName)) ∈ am_WT := am_wt (am_mt 1469 (by decide +kernel)) rfl
theorem w_1470 : (Jvm.Cond.selects "SlotMat" ({ cls := "SlotMat", name := "pale", desc := "(II)I" } : Jvm.MethodName) ({ cls := "SlotMat", name := "pale", desc := "(II)I" } : Jvm.MethodName)) ∈ am_WT := am_wt (am_mt 1470 (by decide +kernel)) rfl
theorem w_1471 : (Jvm.Cond.code ({ cls := "SlotMat", name := "pale", desc := "(II)I" } : Jvm.MethodName) prog_1_method_47_code (4 : Nat) (Option.some Jvm.ClassFile.FieldType.int)) ∈ am_WT := am_wt (am_mt 1471 (by decide +kernel)) rfl
theorem w_1472 : (Jvm.Cond.methodLink "SlotMatLaw" (225 : Nat) ({ cls := "SlotMatLaw", name := "visits", desc := "(LSlotMat;II[J)I" } : Jvm.MethodName)) ∈ am_WT := am_wt (am_mt 1472 (by decide +kernel)) rfl
theorem w_1473 : (Jvm.Cond.static ({ cls := "SlotMatLaw", name := "visits", desc := "(LSlotMat;II[J)I" } : Jvm.MethodName)) ∈ am_WT := am_wt (am_mt 1473 (by decide +kernel)) rfl
theorem w_1474 : (Jvm.Cond.codeWith ({ cls := "SlotMatLaw", name := "visits", desc := "(LSlotMat;II[J)I" } : Jvm.MethodName) method_28_code (5 : Nat) (Option.some Jvm.ClassFile.FieldType.int) [((0 : Nat), (10 : Nat), (13 : Nat), (18 : Nat)), ((0 : Nat), (10 : Nat), (17 : Nat), (13 : Nat))]) ∈ am_WT := am_wt (am_mt 1474 (by decide +kernel)) rfl
theorem w_1475 : (Jvm.Cond.methodLink "SlotMatLaw" (92 : Nat) ({ cls := "SlotMat", name := "visits", desc := "(II)I" } : Jvm.MethodName)) ∈ am_WT := am_wt (am_mt 1475 (by decide +kernel)) rfl
theorem w_1476 : (Jvm.Cond.instanceMethod ({ cls := "SlotMat", name := "visits", desc := "(II)I" } : Jvm.MethodName)) ∈ am_WT := am_wt (am_mt 1476 (by decide +kernel)) rfl
theorem w_1477 : (Jvm.Cond.selects "SlotMat" ({ cls := "SlotMat", name := "visits", desc := "(II)I" } : Jvm.MethodName) ({ cls := "SlotMat", name := "visits", desc := "(II)I" } : Jvm.MethodName)) ∈ am_WT := am_wt (am_mt 1477 (by decide +kernel)) rfl
theorem w_1478 : (Jvm.Cond.code ({ cls := "SlotMat", name := "visits", desc := "(II)I" } : Jvm.MethodName) prog_1_method_48_code (5 : Nat) (Option.some Jvm.ClassFile.FieldType.int)) ∈ am_WT := am_wt (am_mt 1478 (by decide +kernel)) rfl
theorem w_1479 : (Jvm.Cond.methodLink "SlotMatLaw" (228 : Nat) ({ cls := "SlotMatLaw", name := "steps", desc := "(LSlotMat;II[J)I" } : Jvm.MethodName)) ∈ am_WT := am_wt (am_mt 1479 (by decide +kernel)) rfl
theorem w_1480 : (Jvm.Cond.static ({ cls := "SlotMatLaw", name := "steps", desc := "(LSlotMat;II[J)I" } : Jvm.MethodName)) ∈ am_WT := am_wt (am_mt 1480 (by decide +kernel)) rfl
theorem w_1481 : (Jvm.Cond.codeWith ({ cls := "SlotMatLaw", name := "steps", desc := "(LSlotMat;II[J)I" } : Jvm.MethodName) method_29_code (5 : Nat) (Option.some Jvm.ClassFile.FieldType.int) [((0 : Nat), (10 : Nat), (13 : Nat), (18 : Nat))]) ∈ am_WT := am_wt (am_mt 1481 (by decide +kernel)) rfl
theorem w_1482 : (Jvm.Cond.methodLink "SlotMatLaw" (95 : Nat) ({ cls := "SlotMat", name := "steps", desc := "(II)I" } : Jvm.MethodName)) ∈ am_WT := am_wt (am_mt 1482 (by decide +kernel)) rfl
theorem w_1483 : (Jvm.Cond.instanceMethod ({ cls := "SlotMat", name := "steps", desc := "(II)I" } : Jvm.MethodName)) ∈ am_WT := am_wt (am_mt 1483 (by decide +kernel)) rfl
theorem w_1484 : (Jvm.Cond.selects "SlotMat" ({ cls := "SlotMat", name := "steps", desc := "(II)I" } : Jvm.MethodName) ({ cls := "SlotMat", name := "steps", desc := "(II)I" } : Jvm.MethodName)) ∈ am_WT := am_wt (am_mt 1484 (by decide +kernel)) rfl
theorem w_1485 : (Jvm.Cond.code ({ cls := "SlotMat", name := "steps", desc := "(II)I" } : Jvm.MethodName) prog_1_method_49_code (5 : Nat) (Option.some Jvm.ClassFile.FieldType.int)) ∈ am_WT := am_wt (am_mt 1485 (by decide +kernel)) rfl
theorem w_1486 : (Jvm.Cond.methodLink "SlotMatLaw" (231 : Nat) ({ cls := "SlotMatLaw", name := "quiet", desc := "(LSlotMat;II[J)I" } : Jvm.MethodName)) ∈ am_WT := am_wt (am_mt 1486 (by decide +kernel)) rfl
theorem w_1487 : (Jvm.Cond.static ({ cls := "SlotMatLaw", name := "quiet", desc := "(LSlotMat;II[J)I" } : Jvm.MethodName)) ∈ am_WT := am_wt (am_mt 1487 (by decide +kernel)) rfl
theorem w_1488 : (Jvm.Cond.codeWith ({ cls := "SlotMatLaw", name := "quiet", desc := "(LSlotMat;II[J)I" } : Jvm.MethodName) method_30_code (5 : Nat) (Option.some Jvm.ClassFile.FieldType.int) [((0 : Nat), (10 : Nat), (13 : Nat), (18 : Nat)), ((0 : Nat), (10 : Nat), (17 : Nat), (13 : Nat))]) ∈ am_WT := am_wt (am_mt 1488 (by decide +kernel)) rfl
theorem w_1489 : (Jvm.Cond.methodLink "SlotMatLaw" (98 : Nat) ({ cls := "SlotMat", name := "quiet", desc := "(II)I" } : Jvm.MethodName)) ∈ am_WT := am_wt (am_mt 1489 (by decide +kernel)) rfl
theorem w_1490 : (Jvm.Cond.instanceMethod ({ cls := "SlotMat", name := "quiet", desc := "(II)I" } : Jvm.MethodName)) ∈ am_WT := am_wt (am_mt 1490 (by decide +kernel)) rfl
theorem w_1491 : (Jvm.Cond.selects "SlotMat" ({ cls := "SlotMat", name := "quiet", desc := "(II)I" } : Jvm.MethodName) ({ cls := "SlotMat", name := "quiet", desc := "(II)I" } : Jvm.MethodName)) ∈ am_WT := am_wt (am_mt 1491 (by decide +kernel)) rfl
theorem w_1492 : (Jvm.Cond.code ({ cls := "SlotMat", name := "quiet", desc := "(II)I" } : Jvm.MethodName) prog_1_method_50_code (7 : Nat) (Option.some Jvm.ClassFile.FieldType.int)) ∈ am_WT := am_wt (am_mt 1492 (by decide +kernel)) rfl
theorem w_1493 : (Jvm.Cond.methodLink "SlotMat" (349 : Nat) ({ cls := "java/lang/Math", name := "max", desc := "(II)I" } : Jvm.MethodName)) ∈ am_WT := am_wt (am_mt 1493 (by decide +kernel)) rfl
theorem w_1494 : (Jvm.Cond.methodLink "SlotMatLaw" (238 : Nat) ({ cls := "SlotMatLaw", name := "bestAt", desc := "(LSlotMat;II[J)I" } : Jvm.MethodName)) ∈ am_WT := am_wt (am_mt 1494 (by decide +kernel)) rfl
theorem w_1495 : (Jvm.Cond.static ({ cls := "SlotMatLaw", name := "bestAt", desc := "(LSlotMat;II[J)I" } : Jvm.MethodName)) ∈ am_WT := am_wt (am_mt 1495 (by decide +kernel)) rfl
theorem w_1496 : (Jvm.Cond.codeWith ({ cls := "SlotMatLaw", name := "bestAt", desc := "(LSlotMat;II[J)I" } : Jvm.MethodName) method_31_code (5 : Nat) (Option.some Jvm.ClassFile.FieldType.int) [((0 : Nat), (10 : Nat), (13 : Nat), (18 : Nat)), ((0 : Nat), (10 : Nat), (17 : Nat), (13 : Nat))]) ∈ am_WT := am_wt (am_mt 1496 (by decide +kernel)) rfl
theorem w_1497 : (Jvm.Cond.methodLink "SlotMatLaw" (101 : Nat) ({ cls := "SlotMat", name := "bestAt", desc := "(II)I" } : Jvm.MethodName)) ∈ am_WT := am_wt (am_mt 1497 (by decide +kernel)) rfl
theorem w_1498 : (Jvm.Cond.instanceMethod ({ cls := "SlotMat", name := "bestAt", desc := "(II)I" } : Jvm.MethodName)) ∈ am_WT := am_wt (am_mt 1498 (by decide +kernel)) rfl
theorem w_1499 : (Jvm.Cond.selects "SlotMat" ({ cls := "SlotMat", name := "bestAt", desc := "(II)I" } : Jvm.MethodName) ({ cls := "SlotMat", name := "bestAt", desc := "(II)I" } : Jvm.MethodName)) ∈ am_WT := am_wt (am_mt 1499 (by decide +kernel)) rfl
theorem w_1500 : (Jvm.Cond.code ({ cls := "SlotMat", name := "bestAt", desc := "(II)I" } : Jvm.MethodName) prog_1_method_52_code (6 : Nat) (Option.some Jvm.ClassFile.FieldType.int)) ∈ am_WT := am_wt (am_mt 1500 (by decide +kernel)) rfl
theorem w_1501 : (Jvm.Cond.methodLink "SlotMatLaw" (241 : Nat) ({ cls := "SlotMatLaw", name := "reds", desc := "(LSlotMat;I[J)I" } : Jvm.MethodName)) ∈ am_WT := am_wt (am_mt 1501 (by decide +kernel)) rfl
theorem w_1502 : (Jvm.Cond.static ({ cls := "SlotMatLaw", name := "reds", desc := "(LSlotMat;I[J)I" } : Jvm.MethodName)) ∈ am_WT := am_wt (am_mt 1502 (by decide +kernel)) rfl
theorem w_1503 : (Jvm.Cond.codeWith ({ cls := "SlotMatLaw", name := "reds", desc := "(LSlotMat;I[J)I" } : Jvm.MethodName) method_32_code (4 : Nat) (Option.some Jvm.ClassFile.FieldType.int) [((0 : Nat), (9 : Nat), (12 : Nat), (13 : Nat))]) ∈ am_WT := am_wt (am_mt 1503 (by decide +kernel)) rfl
theorem w_1504 : (Jvm.Cond.methodLink "SlotMatLaw" (104 : Nat) ({ cls := "SlotMat", name := "reds", desc := "(I)I" } : Jvm.MethodName)) ∈ am_WT := am_wt (am_mt 1504 (by decide +kernel)) rfl
theorem w_1505 : (Jvm.Cond.instanceMethod ({ cls := "SlotMat", name := "reds", desc := "(I)I" } : Jvm.MethodName)) ∈ am_WT := am_wt (am_mt 1505 (by decide +kernel)) rfl
theorem w_1506 : (Jvm.Cond.selects "SlotMat" ({ cls := "SlotMat", name := "reds", desc := "(I)I" } : Jvm.MethodName) ({ cls := "SlotMat", name := "reds", desc := "(I)I" } : Jvm.MethodName)) ∈ am_WT := am_wt (am_mt 1506 (by decide +kernel)) rfl
theorem w_1507 : (Jvm.Cond.code ({ cls := "SlotMat", name := "reds", desc := "(I)I" } : Jvm.MethodName) prog_1_method_53_code (2 : Nat) (Option.some Jvm.ClassFile.FieldType.int)) ∈ am_WT := am_wt (am_mt 1507 (by decide +kernel)) rfl
theorem w_1508 : (Jvm.Cond.methodLink "SlotMat" (354 : Nat) ({ cls := "SlotMat$State", name := "redOfAll", desc := "()I" } : Jvm.MethodName)) ∈ am_WT := am_wt (am_mt 1508 (by decide +kernel)) rfl
theorem w_1509 : (Jvm.Cond.instanceMethod ({ cls := "SlotMat$State", name := "redOfAll", desc := "()I" } : Jvm.MethodName)) ∈ am_WT := am_wt (am_mt 1509 (by decide +kernel)) rfl
theorem w_1510 : (Jvm.Cond.selects "SlotMat$State" ({ cls := "SlotMat$State", name := "redOfAll", desc := "()I" } : Jvm.MethodName) ({ cls := "SlotMat$State", name := "redOfAll", desc := "()I" } : Jvm.MethodName)) ∈ am_WT := am_wt (am_mt 1510 (by decide +kernel)) rfl
theorem w_1511 : (Jvm.Cond.code ({ cls := "SlotMat$State", name := "redOfAll", desc := "()I" } : Jvm.MethodName) prog_9_method_11_code (1 : Nat) (Option.some Jvm.ClassFile.FieldType.int)) ∈ am_WT := am_wt (am_mt 1511 (by decide +kernel)) rfl
theorem w_1512 : (Jvm.Cond.methodLink "SlotMatLaw" (244 : Nat) ({ cls := "SlotMatLaw", name := "whose", desc := "(LSlotMat;I[J)I" } : Jvm.MethodName)) ∈ am_WT := am_wt (am_mt 1512 (by decide +kernel)) rfl
theorem w_1513 : (Jvm.Cond.static ({ cls := "SlotMatLaw", name := "whose", desc := "(LSlotMat;I[J)I" } : Jvm.MethodName)) ∈ am_WT := am_wt (am_mt 1513 (by decide +kernel)) rfl
theorem w_1514 : (Jvm.Cond.codeWith ({ cls := "SlotMatLaw", name := "whose", desc := "(LSlotMat;I[J)I" } : Jvm.MethodName) method_33_code (4 : Nat) (Option.some Jvm.ClassFile.FieldType.int) [((0 : Nat), (9 : Nat), (12 : Nat), (18 : Nat))]) ∈ am_WT := am_wt (am_mt 1514 (by decide +kernel)) rfl
theorem w_1515 : (Jvm.Cond.methodLink "SlotMatLaw" (107 : Nat) ({ cls := "SlotMat", name := "whose", desc := "(I)I" } : Jvm.MethodName)) ∈ am_WT := am_wt (am_mt 1515 (by decide +kernel)) rfl
theorem w_1516 : (Jvm.Cond.instanceMethod ({ cls := "SlotMat", name := "whose", desc := "(I)I" } : Jvm.MethodName)) ∈ am_WT := am_wt (am_mt 1516 (by decide +kernel)) rfl
theorem w_1517 : (Jvm.Cond.selects "SlotMat" ({ cls := "SlotMat", name := "whose", desc := "(I)I" } : Jvm.MethodName) ({ cls := "SlotMat", name := "whose", desc := "(I)I" } : Jvm.MethodName)) ∈ am_WT := am_wt (am_mt 1517 (by decide +kernel)) rfl
theorem w_1518 : (Jvm.Cond.code ({ cls := "SlotMat", name := "whose", desc := "(I)I" } : Jvm.MethodName) prog_1_method_54_code (5 : Nat) (Option.some Jvm.ClassFile.FieldType.int)) ∈ am_WT := am_wt (am_mt 1518 (by decide +kernel)) rfl
theorem w_1519 : (Jvm.Cond.classLink "SlotMatLaw" (111 : Nat) "SlotMatModel") ∈ am_WT := am_wt (am_mt 1519 (by decide +kernel)) rfl
theorem w_1520 : (Jvm.Cond.instantiable "SlotMatModel" (67 : Nat)) ∈ am_WT := am_wt (am_mt 1520 (by decide +kernel)) rfl
theorem w_1521 : (Jvm.Cond.methodLink "SlotMatLaw" (113 : Nat) ({ cls := "SlotMatModel", name := "<init>", desc := "()V" } : Jvm.MethodName)) ∈ am_WT := am_wt (am_mt 1521 (by decide +kernel)) rfl
theorem w_1522 : (Jvm.Cond.instanceMethod ({ cls := "SlotMatModel", name := "<init>", desc := "()V" } : Jvm.MethodName)) ∈ am_WT := am_wt (am_mt 1522 (by decide +kernel)) rfl
theorem w_1523 : (Jvm.Cond.code ({ cls := "SlotMatModel", name := "<init>", desc := "()V" } : Jvm.MethodName) prog_12_method_1_code (1 : Nat) (Option.none : Option Jvm.ClassFile.FieldType)) ∈ am_WT := am_wt (am_mt 1523 (by decide +kernel)) rfl
theorem w_1524 : (Jvm.Cond.methodLink "SlotMatModel" (1 : Nat) ({ cls := "java/lang/Object", name := "<init>", desc := "()V" } : Jvm.MethodName)) ∈ am_WT := am_wt (am_mt 1524 (by decide +kernel)) rfl
theorem w_1525 : (Jvm.Cond.fieldLink "SlotMatModel" (111 : Nat) "SlotMatModel" "thrown" "I") ∈ am_WT := am_wt (am_mt 1525 (by decide +kernel)) rfl
theorem w_1526 : (Jvm.Cond.fieldLink "SlotMatModel" (285 : Nat) "SlotMatModel" "boxes" "I") ∈ am_WT := am_wt (am_mt 1526 (by decide +kernel)) rfl
theorem w_1527 : (Jvm.Cond.fieldLink "SlotMatModel" (288 : Nat) "SlotMatModel" "people" "I") ∈ am_WT := am_wt (am_mt 1527 (by decide +kernel)) rfl
theorem w_1528 : (Jvm.Cond.fieldLink "SlotMatModel" (291 : Nat) "SlotMatModel" "roundLong" "I") ∈ am_WT := am_wt (am_mt 1528 (by decide +kernel)) rfl
theorem w_1529 : (Jvm.Cond.fieldLink "SlotMatModel" (294 : Nat) "SlotMatModel" "numbers" "I") ∈ am_WT := am_wt (am_mt 1529 (by decide +kernel)) rfl
theorem w_1530 : (Jvm.Cond.fieldLink "SlotMatModel" (9 : Nat) "SlotMatModel" "thinksAt" "I") ∈ am_WT := am_wt (am_mt 1530 (by decide +kernel)) rfl
theorem w_1531 : (Jvm.Cond.fieldLink "SlotMatModel" (13 : Nat) "SlotMatModel" "soundsAt" "I") ∈ am_WT := am_wt (am_mt 1531 (by decide +kernel)) rfl
theorem w_1532 : (Jvm.Cond.fieldLink "SlotMatModel" (16 : Nat) "SlotMatModel" "boxAt" "[I") ∈ am_WT := am_wt (am_mt 1532 (by decide +kernel)) rfl
theorem w_1533 : (Jvm.Cond.fieldLink "SlotMatModel" (20 : Nat) "SlotMatModel" "personAt" "[I") ∈ am_WT := am_wt (am_mt 1533 (by decide +kernel)) rfl
theorem w_1534 : (Jvm.Cond.fieldLink "SlotMatModel" (23 : Nat) "SlotMatModel" "pensive" "[I") ∈ am_WT := am_wt (am_mt 1534 (by decide +kernel)) rfl
theorem w_1535 : (Jvm.Cond.fieldLink "SlotMatModel" (26 : Nat) "SlotMatModel" "round" "[I") ∈ am_WT := am_wt (am_mt 1535 (by decide +kernel)) rfl
theorem w_1536 : (Jvm.Cond.fieldLink "SlotMatModel" (29 : Nat) "SlotMatModel" "wets" "[I") ∈ am_WT := am_wt (am_mt 1536 (by decide +kernel)) rfl
theorem w_1537 : (Jvm.Cond.fieldLink "SlotMatModel" (32 : Nat) "SlotMatModel" "code" "[I") ∈ am_WT := am_wt (am_mt 1537 (by decide +kernel)) rfl
theorem w_1538 : (Jvm.Cond.fieldLink "SlotMatModel" (35 : Nat) "SlotMatModel" "tape" "[I") ∈ am_WT := am_wt (am_mt 1538 (by decide +kernel)) rfl
theorem w_1539 : (Jvm.Cond.fieldLink "SlotMatModel" (114 : Nat) "SlotMatModel" "taped" "I") ∈ am_WT := am_wt (am_mt 1539 (by decide +kernel)) rfl
theorem w_1540 : (Jvm.Cond.fieldLink "SlotMatModel" (167 : Nat) "SlotMatModel" "faultKind" "I") ∈ am_WT := am_wt (am_mt 1540 (by decide +kernel)) rfl
theorem w_1541 : (Jvm.Cond.fieldLink "SlotMatModel" (38 : Nat) "SlotMatModel" "faultPlace" "I") ∈ am_WT := am_wt (am_mt 1541 (by decide +kernel)) rfl
theorem w_1542 : (Jvm.Cond.fieldLink "SlotMatModel" (41 : Nat) "SlotMatModel" "refused" "[I") ∈ am_WT := am_wt (am_mt 1542 (by decide +kernel)) rfl
theorem w_1543 : (Jvm.Cond.fieldLink "SlotMatModel" (121 : Nat) "SlotMatModel" "long1" "I") ∈ am_WT := am_wt (am_mt 1543 (by decide +kernel)) rfl
theorem w_1544 : (Jvm.Cond.fieldLink "SlotMatModel" (124 : Nat) "SlotMatModel" "next0" "I") ∈ am_WT := am_wt (am_mt 1544 (by decide +kernel)) rfl
theorem w_1545 : (Jvm.Cond.fieldLink "SlotMatModel" (144 : Nat) "SlotMatModel" "sort" "I") ∈ am_WT := am_wt (am_mt 1545 (by decide +kernel)) rfl
theorem w_1546 : (Jvm.Cond.fieldLink "SlotMatModel" (131 : Nat) "SlotMatModel" "place" "I") ∈ am_WT := am_wt (am_mt 1546 (by decide +kernel)) rfl
theorem w_1547 : (Jvm.Cond.fieldLink "SlotMatModel" (154 : Nat) "SlotMatModel" "long0" "I") ∈ am_WT := am_wt (am_mt 1547 (by decide +kernel)) rfl
theorem w_1548 : (Jvm.Cond.fieldLink "SlotMatModel" (138 : Nat) "SlotMatModel" "value" "I") ∈ am_WT := am_wt (am_mt 1548 (by decide +kernel)) rfl
theorem w_1549 : (Jvm.Cond.fieldLink "SlotMatModel" (141 : Nat) "SlotMatModel" "sign" "I") ∈ am_WT := am_wt (am_mt 1549 (by decide +kernel)) rfl
theorem w_1550 : (Jvm.Cond.fieldLink "SlotMatModel" (134 : Nat) "SlotMatModel" "word" "J") ∈ am_WT := am_wt (am_mt 1550 (by decide +kernel)) rfl
theorem w_1551 : (Jvm.Cond.fieldLink "SlotMatModel" (233 : Nat) "SlotMatModel" "newBoxes" "I") ∈ am_WT := am_wt (am_mt 1551 (by decide +kernel)) rfl
theorem w_1552 : (Jvm.Cond.fieldLink "SlotMatModel" (240 : Nat) "SlotMatModel" "newPeople" "I") ∈ am_WT := am_wt (am_mt 1552 (by decide +kernel)) rfl
theorem w_1553 : (Jvm.Cond.fieldLink "SlotMatModel" (243 : Nat) "SlotMatModel" "newRoundLong" "I") ∈ am_WT := am_wt (am_mt 1553 (by decide +kernel)) rfl
theorem w_1554 : (Jvm.Cond.fieldLink "SlotMatModel" (246 : Nat) "SlotMatModel" "newNumbers" "I") ∈ am_WT := am_wt (am_mt 1554 (by decide +kernel)) rfl
theorem w_1555 : (Jvm.Cond.fieldLink "SlotMatModel" (265 : Nat) "SlotMatModel" "newThinksAt" "I") ∈ am_WT := am_wt (am_mt 1555 (by decide +kernel)) rfl
theorem w_1556 : (Jvm.Cond.fieldLink "SlotMatModel" (272 : Nat) "SlotMatModel" "newSoundsAt" "I") ∈ am_WT := am_wt (am_mt 1556 (by decide +kernel)) rfl
theorem w_1557 : (Jvm.Cond.fieldLink "SlotMatModel" (180 : Nat) "SlotMatModel" "top" "I") ∈ am_WT := am_wt (am_mt 1557 (by decide +kernel)) rfl
theorem w_1558 : (Jvm.Cond.fieldLink "SlotMatModel" (199 : Nat) "SlotMatModel" "firstValue" "I") ∈ am_WT := am_wt (am_mt 1558 (by decide +kernel)) rfl
theorem w_1559 : (Jvm.Cond.fieldLink "SlotMatModel" (202 : Nat) "SlotMatModel" "lastValue" "I") ∈ am_WT := am_wt (am_mt 1559 (by decide +kernel)) rfl
theorem w_1560 : (Jvm.Cond.fieldLink "SlotMatModel" (183 : Nat) "SlotMatModel" "waiting" "I") ∈ am_WT := am_wt (am_mt 1560 (by decide +kernel)) rfl
theorem w_1561 : (Jvm.Cond.fieldLink "SlotMatModel" (205 : Nat) "SlotMatModel" "depth" "I") ∈ am_WT := am_wt (am_mt 1561 (by decide +kernel)) rfl
theorem w_1562 : (Jvm.Cond.fieldLink "SlotMatModel" (44 : Nat) "SlotMatModel" "newBoxAt" "[I") ∈ am_WT := am_wt (am_mt 1562 (by decide +kernel)) rfl
theorem w_1563 : (Jvm.Cond.fieldLink "SlotMatModel" (47 : Nat) "SlotMatModel" "newPersonAt" "[I") ∈ am_WT := am_wt (am_mt 1563 (by decide +kernel)) rfl
theorem w_1564 : (Jvm.Cond.fieldLink "SlotMatModel" (50 : Nat) "SlotMatModel" "newPensive" "[I") ∈ am_WT := am_wt (am_mt 1564 (by decide +kernel)) rfl
theorem w_1565 : (Jvm.Cond.fieldLink "SlotMatModel" (53 : Nat) "SlotMatModel" "newRound" "[I") ∈ am_WT := am_wt (am_mt 1565 (by decide +kernel)) rfl
theorem w_1566 : (Jvm.Cond.fieldLink "SlotMatModel" (56 : Nat) "SlotMatModel" "newWets" "[I") ∈ am_WT := am_wt (am_mt 1566 (by decide +kernel)) rfl
theorem w_1567 : (Jvm.Cond.fieldLink "SlotMatModel" (59 : Nat) "SlotMatModel" "newRow" "[I") ∈ am_WT := am_wt (am_mt 1567 (by decide +kernel)) rfl
theorem w_1568 : (Jvm.Cond.fieldLink "SlotMatModel" (62 : Nat) "SlotMatModel" "readCode" "[I") ∈ am_WT := am_wt (am_mt 1568 (by decide +kernel)) rfl
theorem w_1569 : (Jvm.Cond.fieldLink "SlotMatModel" (65 : Nat) "SlotMatModel" "waits" "[I") ∈ am_WT := am_wt (am_mt 1569 (by decide +kernel)) rfl
theorem w_1570 : (Jvm.Cond.fieldLink "SlotMatModel" (68 : Nat) "SlotMatModel" "tested" "[Z") ∈ am_WT := am_wt (am_mt 1570 (by decide +kernel)) rfl
theorem w_1571 : (Jvm.Cond.fieldLink "SlotMatModel" (72 : Nat) "SlotMatModel" "rows" "[I") ∈ am_WT := am_wt (am_mt 1571 (by decide +kernel)) rfl
theorem w_1572 : (Jvm.Cond.fieldLink "SlotMatModel" (75 : Nat) "SlotMatModel" "ahead" "[I") ∈ am_WT := am_wt (am_mt 1572 (by decide +kernel)) rfl
theorem w_1573 : (Jvm.Cond.fieldLink "SlotMatModel" (301 : Nat) "SlotMatModel" "acts" "I") ∈ am_WT := am_wt (am_mt 1573 (by decide +kernel)) rfl
theorem w_1574 : (Jvm.Cond.fieldLink "SlotMatModel" (78 : Nat) "SlotMatModel" "told" "[I") ∈ am_WT := am_wt (am_mt 1574 (by decide +kernel)) rfl
theorem w_1575 : (Jvm.Cond.fieldLink "SlotMatModel" (81 : Nat) "SlotMatModel" "pile" "[I") ∈ am_WT := am_wt (am_mt 1575 (by decide +kernel)) rfl
theorem w_1576 : (Jvm.Cond.fieldLink "SlotMatModel" (84 : Nat) "SlotMatModel" "otherWet" "I") ∈ am_WT := am_wt (am_mt 1576 (by decide +kernel)) rfl
theorem w_1577 : (Jvm.Cond.fieldLink "SlotMatModel" (315 : Nat) "SlotMatModel" "isOrdered" "Z") ∈ am_WT := am_wt (am_mt 1577 (by decide +kernel)) rfl
theorem w_1578 : (Jvm.Cond.fieldLink "SlotMatModel" (87 : Nat) "SlotMatModel" "order0" "[I") ∈ am_WT := am_wt (am_mt 1578 (by decide +kernel)) rfl
theorem w_1579 : (Jvm.Cond.fieldLink "SlotMatModel" (350 : Nat) "SlotMatModel" "fetched" "I") ∈ am_WT := am_wt (am_mt 1579 (by decide +kernel)) rfl
theorem w_1580 : (Jvm.Cond.fieldLink "SlotMatModel" (90 : Nat) "SlotMatModel" "bestOrder" "[I") ∈ am_WT := am_wt (am_mt 1580 (by decide +kernel)) rfl
theorem w_1581 : (Jvm.Cond.fieldLink "SlotMatModel" (304 : Nat) "SlotMatModel" "notedMany" "I") ∈ am_WT := am_wt (am_mt 1581 (by decide +kernel)) rfl
theorem w_1582 : (Jvm.Cond.fieldLink "SlotMatModel" (93 : Nat) "SlotMatModel" "noted" "[I") ∈ am_WT := am_wt (am_mt 1582 (by decide +kernel)) rfl
theorem w_1583 : (Jvm.Cond.fieldLink "SlotMatModel" (96 : Nat) "SlotMatModel" "soon" "[I") ∈ am_WT := am_wt (am_mt 1583 (by decide +kernel)) rfl
theorem w_1584 : (Jvm.Cond.fieldLink "SlotMatModel" (99 : Nat) "SlotMatModel" "soonAll" "[I") ∈ am_WT := am_wt (am_mt 1584 (by decide +kernel)) rfl
theorem w_1585 : (Jvm.Cond.fieldLink "SlotMatModel" (462 : Nat) "SlotMatModel" "its0" "I") ∈ am_WT := am_wt (am_mt 1585 (by decide +kernel)) rfl
theorem w_1586 : (Jvm.Cond.fieldLink "SlotMatModel" (307 : Nat) "SlotMatModel" "hasImage" "Z") ∈ am_WT := am_wt (am_mt 1586 (by decide +kernel)) rfl
theorem w_1587 : (Jvm.Cond.fieldLink "SlotMatModel" (472 : Nat) "SlotMatModel" "imageActs" "I") ∈ am_WT := am_wt (am_mt 1587 (by decide +kernel)) rfl
theorem w_1588 : (Jvm.Cond.fieldLink "SlotMatModel" (475 : Nat) "SlotMatModel" "imageNoted" "I") ∈ am_WT := am_wt (am_mt 1588 (by decide +kernel)) rfl
theorem w_1589 : (Jvm.Cond.fieldLink "SlotMatModel" (102 : Nat) "SlotMatModel" "imageRow" "[I") ∈ am_WT := am_wt (am_mt 1589 (by decide +kernel)) rfl
theorem w_1590 : (Jvm.Cond.fieldLink "SlotMatModel" (105 : Nat) "SlotMatModel" "imageAhead" "[I") ∈ am_WT := am_wt (am_mt 1590 (by decide +kernel)) rfl
theorem w_1591 : (Jvm.Cond.fieldLink "SlotMatModel" (108 : Nat) "SlotMatModel" "imageNotes" "[I") ∈ am_WT := am_wt (am_mt 1591 (by decide +kernel)) rfl
theorem w_1592 : (Jvm.Cond.lays "SlotMatModel" "SlotMatModel" "thrown" "I") ∈ am_WT := am_wt (am_mt 1592 (by decide +kernel)) rfl
theorem w_1593 : (Jvm.Cond.soleField "SlotMatModel" "thrown") ∈ am_WT := am_wt (am_mt 1593 (by decide +kernel)) rfl
theorem w_1594 : (Jvm.Cond.lays "SlotMatModel" "SlotMatModel" "boxes" "I") ∈ am_WT := am_wt (am_mt 1594 (by decide +kernel)) rfl
theorem w_1595 : (Jvm.Cond.soleField "SlotMatModel" "boxes") ∈ am_WT := am_wt (am_mt 1595 (by decide +kernel)) rfl
theorem w_1596 : (Jvm.Cond.lays "SlotMatModel" "SlotMatModel" "people" "I") ∈ am_WT := am_wt (am_mt 1596 (by decide +kernel)) rfl
theorem w_1597 : (Jvm.Cond.soleField "SlotMatModel" "people") ∈ am_WT := am_wt (am_mt 1597 (by decide +kernel)) rfl
theorem w_1598 : (Jvm.Cond.lays "SlotMatModel" "SlotMatModel" "roundLong" "I") ∈ am_WT := am_wt (am_mt 1598 (by decide +kernel)) rfl
theorem w_1599 : (Jvm.Cond.soleField "SlotMatModel" "roundLong") ∈ am_WT := am_wt (am_mt 1599 (by decide +kernel)) rfl
theorem w_1600 : (Jvm.Cond.lays "SlotMatModel" "SlotMatModel" "numbers" "I") ∈ am_WT := am_wt (am_mt 1600 (by decide +kernel)) rfl
theorem w_1601 : (Jvm.Cond.soleField "SlotMatModel" "numbers") ∈ am_WT := am_wt (am_mt 1601 (by decide +kernel)) rfl
theorem w_1602 : (Jvm.Cond.lays "SlotMatModel" "SlotMatModel" "thinksAt" "I") ∈ am_WT := am_wt (am_mt 1602 (by decide +kernel)) rfl
theorem w_1603 : (Jvm.Cond.soleField "SlotMatModel" "thinksAt") ∈ am_WT := am_wt (am_mt 1603 (by decide +kernel)) rfl
theorem w_1604 : (Jvm.Cond.lays "SlotMatModel" "SlotMatModel" "soundsAt" "I") ∈ am_WT := am_wt (am_mt 1604 (by decide +kernel)) rfl
theorem w_1605 : (Jvm.Cond.soleField "SlotMatModel" "soundsAt") ∈ am_WT := am_wt (am_mt 1605 (by decide +kernel)) rfl
theorem w_1606 : (Jvm.Cond.laysFinal "SlotMatModel" "SlotMatModel" "boxAt" "[I") ∈ am_WT := am_wt (am_mt 1606 (by decide +kernel)) rfl
theorem w_1607 : (Jvm.Cond.soleField "SlotMatModel" "boxAt") ∈ am_WT := am_wt (am_mt 1607 (by decide +kernel)) rfl
theorem w_1608 : (Jvm.Cond.laysFinal "SlotMatModel" "SlotMatModel" "personAt" "[I") ∈ am_WT := am_wt (am_mt 1608 (by decide +kernel)) rfl
theorem w_1609 : (Jvm.Cond.soleField "SlotMatModel" "personAt") ∈ am_WT := am_wt (am_mt 1609 (by decide +kernel)) rfl
theorem w_1610 : (Jvm.Cond.laysFinal "SlotMatModel" "SlotMatModel" "pensive" "[I") ∈ am_WT := am_wt (am_mt 1610 (by decide +kernel)) rfl
theorem w_1611 : (Jvm.Cond.soleField "SlotMatModel" "pensive") ∈ am_WT := am_wt (am_mt 1611 (by decide +kernel)) rfl
theorem w_1612 : (Jvm.Cond.laysFinal "SlotMatModel" "SlotMatModel" "round" "[I") ∈ am_WT := am_wt (am_mt 1612 (by decide +kernel)) rfl
theorem w_1613 : (Jvm.Cond.soleField "SlotMatModel" "round") ∈ am_WT := am_wt (am_mt 1613 (by decide +kernel)) rfl
theorem w_1614 : (Jvm.Cond.laysFinal "SlotMatModel" "SlotMatModel" "wets" "[I") ∈ am_WT := am_wt (am_mt 1614 (by decide +kernel)) rfl
theorem w_1615 : (Jvm.Cond.soleField "SlotMatModel" "wets") ∈ am_WT := am_wt (am_mt 1615 (by decide +kernel)) rfl
theorem w_1616 : (Jvm.Cond.laysFinal "SlotMatModel" "SlotMatModel" "code" "[I") ∈ am_WT := am_wt (am_mt 1616 (by decide +kernel)) rfl
theorem w_1617 : (Jvm.Cond.soleField "SlotMatModel" "code") ∈ am_WT := am_wt (am_mt 1617 (by decide +kernel)) rfl
theorem w_1618 : (Jvm.Cond.laysFinal "SlotMatModel" "SlotMatModel" "tape" "[I") ∈ am_WT := am_wt (am_mt 1618 (by decide +kernel)) rfl
theorem w_1619 : (Jvm.Cond.soleField "SlotMatModel" "tape") ∈ am_WT := am_wt (am_mt 1619 (by decide +kernel)) rfl
theorem w_1620 : (Jvm.Cond.lays "SlotMatModel" "SlotMatModel" "taped" "I") ∈ am_WT := am_wt (am_mt 1620 (by decide +kernel)) rfl
theorem w_1621 : (Jvm.Cond.soleField "SlotMatModel" "taped") ∈ am_WT := am_wt (am_mt 1621 (by decide +kernel)) rfl
theorem w_1622 : (Jvm.Cond.lays "SlotMatModel" "SlotMatModel" "faultKind" "I") ∈ am_WT := am_wt (am_mt 1622 (by decide +kernel)) rfl
theorem w_1623 : (Jvm.Cond.soleField "SlotMatModel" "faultKind") ∈ am_WT := am_wt (am_mt 1623 (by decide +kernel)) rfl
theorem w_1624 : (Jvm.Cond.lays "SlotMatModel" "SlotMatModel" "faultPlace" "I") ∈ am_WT := am_wt (am_mt 1624 (by decide +kernel)) rfl
theorem w_1625 : (Jvm.Cond.soleField "SlotMatModel" "faultPlace") ∈ am_WT := am_wt (am_mt 1625 (by decide +kernel)) rfl
theorem w_1626 : (Jvm.Cond.laysFinal "SlotMatModel" "SlotMatModel" "refused" "[I") ∈ am_WT := am_wt (am_mt 1626 (by decide +kernel)) rfl
theorem w_1627 : (Jvm.Cond.soleField "SlotMatModel" "refused") ∈ am_WT := am_wt (am_mt 1627 (by decide +kernel)) rfl
theorem w_1628 : (Jvm.Cond.lays "SlotMatModel" "SlotMatModel" "long1" "I") ∈ am_WT := am_wt (am_mt 1628 (by decide +kernel)) rfl
theorem w_1629 : (Jvm.Cond.soleField "SlotMatModel" "long1") ∈ am_WT := am_wt (am_mt 1629 (by decide +kernel)) rfl
theorem w_1630 : (Jvm.Cond.lays "SlotMatModel" "SlotMatModel" "next0" "I") ∈ am_WT := am_wt (am_mt 1630 (by decide +kernel)) rfl
theorem w_1631 : (Jvm.Cond.soleField "SlotMatModel" "next0") ∈ am_WT := am_wt (am_mt 1631 (by decide +kernel)) rfl
theorem w_1632 : (Jvm.Cond.lays "SlotMatModel" "SlotMatModel" "sort" "I") ∈ am_WT := am_wt (am_mt 1632 (by decide +kernel)) rfl
theorem w_1633 : (Jvm.Cond.soleField "SlotMatModel" "sort") ∈ am_WT := am_wt (am_mt 1633 (by decide +kernel)) rfl
theorem w_1634 : (Jvm.Cond.lays "SlotMatModel" "SlotMatModel" "place" "I") ∈ am_WT := am_wt (am_mt 1634 (by decide +kernel)) rfl
theorem w_1635 : (Jvm.Cond.soleField "SlotMatModel" "place") ∈ am_WT := am_wt (am_mt 1635 (by decide +kernel)) rfl
theorem w_1636 : (Jvm.Cond.lays "SlotMatModel" "SlotMatModel" "long0" "I") ∈ am_WT := am_wt (am_mt 1636 (by decide +kernel)) rfl
theorem w_1637 : (Jvm.Cond.soleField "SlotMatModel" "long0") ∈ am_WT := am_wt (am_mt 1637 (by decide +kernel)) rfl
theorem w_1638 : (Jvm.Cond.lays "SlotMatModel" "SlotMatModel" "value" "I") ∈ am_WT := am_wt (am_mt 1638 (by decide +kernel)) rfl
theorem w_1639 : (Jvm.Cond.soleField "SlotMatModel" "value") ∈ am_WT := am_wt (am_mt 1639 (by decide +kernel)) rfl
theorem w_1640 : (Jvm.Cond.lays "SlotMatModel" "SlotMatModel" "sign" "I") ∈ am_WT := am_wt (am_mt 1640 (by decide +kernel)) rfl
theorem w_1641 : (Jvm.Cond.soleField "SlotMatModel" "sign") ∈ am_WT := am_wt (am_mt 1641 (by decide +kernel)) rfl
theorem w_1642 : (Jvm.Cond.lays "SlotMatModel" "SlotMatModel" "word" "J") ∈ am_WT := am_wt (am_mt 1642 (by decide +kernel)) rfl
theorem w_1643 : (Jvm.Cond.soleField "SlotMatModel" "word") ∈ am_WT := am_wt (am_mt 1643 (by decide +kernel)) rfl
theorem w_1644 : (Jvm.Cond.lays "SlotMatModel" "SlotMatModel" "newBoxes" "I") ∈ am_WT := am_wt (am_mt 1644 (by decide +kernel)) rfl
theorem w_1645 : (Jvm.Cond.soleField "SlotMatModel" "newBoxes") ∈ am_WT := am_wt (am_mt 1645 (by decide +kernel)) rfl
theorem w_1646 : (Jvm.Cond.lays "SlotMatModel" "SlotMatModel" "newPeople" "I") ∈ am_WT := am_wt (am_mt 1646 (by decide +kernel)) rfl
theorem w_1647 : (Jvm.Cond.soleField "SlotMatModel" "newPeople") ∈ am_WT := am_wt (am_mt 1647 (by decide +kernel)) rfl
theorem w_1648 : (Jvm.Cond.lays "SlotMatModel" "SlotMatModel" "newRoundLong" "I") ∈ am_WT := am_wt (am_mt 1648 (by decide +kernel)) rfl
theorem w_1649 : (Jvm.Cond.soleField "SlotMatModel" "newRoundLong") ∈ am_WT := am_wt (am_mt 1649 (by decide +kernel)) rfl
theorem w_1650 : (Jvm.Cond.lays "SlotMatModel" "SlotMatModel" "newNumbers" "I") ∈ am_WT := am_wt (am_mt 1650 (by decide +kernel)) rfl
theorem w_1651 : (Jvm.Cond.soleField "SlotMatModel" "newNumbers") ∈ am_WT := am_wt (am_mt 1651 (by decide +kernel)) rfl
theorem w_1652 : (Jvm.Cond.lays "SlotMatModel" "SlotMatModel" "newThinksAt" "I") ∈ am_WT := am_wt (am_mt 1652 (by decide +kernel)) rfl
theorem w_1653 : (Jvm.Cond.soleField "SlotMatModel" "newThinksAt") ∈ am_WT := am_wt (am_mt 1653 (by decide +kernel)) rfl
theorem w_1654 : (Jvm.Cond.lays "SlotMatModel" "SlotMatModel" "newSoundsAt" "I") ∈ am_WT := am_wt (am_mt 1654 (by decide +kernel)) rfl
theorem w_1655 : (Jvm.Cond.soleField "SlotMatModel" "newSoundsAt") ∈ am_WT := am_wt (am_mt 1655 (by decide +kernel)) rfl
theorem w_1656 : (Jvm.Cond.lays "SlotMatModel" "SlotMatModel" "top" "I") ∈ am_WT := am_wt (am_mt 1656 (by decide +kernel)) rfl
theorem w_1657 : (Jvm.Cond.soleField "SlotMatModel" "top") ∈ am_WT := am_wt (am_mt 1657 (by decide +kernel)) rfl
theorem w_1658 : (Jvm.Cond.lays "SlotMatModel" "SlotMatModel" "firstValue" "I") ∈ am_WT := am_wt (am_mt 1658 (by decide +kernel)) rfl
theorem w_1659 : (Jvm.Cond.soleField "SlotMatModel" "firstValue") ∈ am_WT := am_wt (am_mt 1659 (by decide +kernel)) rfl
theorem w_1660 : (Jvm.Cond.lays "SlotMatModel" "SlotMatModel" "lastValue" "I") ∈ am_WT := am_wt (am_mt 1660 (by decide +kernel)) rfl
theorem w_1661 : (Jvm.Cond.soleField "SlotMatModel" "lastValue") ∈ am_WT := am_wt (am_mt 1661 (by decide +kernel)) rfl
theorem w_1662 : (Jvm.Cond.lays "SlotMatModel" "SlotMatModel" "waiting" "I") ∈ am_WT := am_wt (am_mt 1662 (by decide +kernel)) rfl
theorem w_1663 : (Jvm.Cond.soleField "SlotMatModel" "waiting") ∈ am_WT := am_wt (am_mt 1663 (by decide +kernel)) rfl
theorem w_1664 : (Jvm.Cond.lays "SlotMatModel" "SlotMatModel" "depth" "I") ∈ am_WT := am_wt (am_mt 1664 (by decide +kernel)) rfl
theorem w_1665 : (Jvm.Cond.soleField "SlotMatModel" "depth") ∈ am_WT := am_wt (am_mt 1665 (by decide +kernel)) rfl
theorem w_1666 : (Jvm.Cond.laysFinal "SlotMatModel" "SlotMatModel" "newBoxAt" "[I") ∈ am_WT := am_wt (am_mt 1666 (by decide +kernel)) rfl
theorem w_1667 : (Jvm.Cond.soleField "SlotMatModel" "newBoxAt") ∈ am_WT := am_wt (am_mt 1667 (by decide +kernel)) rfl
theorem w_1668 : (Jvm.Cond.laysFinal "SlotMatModel" "SlotMatModel" "newPersonAt" "[I") ∈ am_WT := am_wt (am_mt 1668 (by decide +kernel)) rfl
theorem w_1669 : (Jvm.Cond.soleField "SlotMatModel" "newPersonAt") ∈ am_WT := am_wt (am_mt 1669 (by decide +kernel)) rfl
theorem w_1670 : (Jvm.Cond.laysFinal "SlotMatModel" "SlotMatModel" "newPensive" "[I") ∈ am_WT := am_wt (am_mt 1670 (by decide +kernel)) rfl
theorem w_1671 : (Jvm.Cond.soleField "SlotMatModel" "newPensive") ∈ am_WT := am_wt (am_mt 1671 (by decide +kernel)) rfl
theorem w_1672 : (Jvm.Cond.laysFinal "SlotMatModel" "SlotMatModel" "newRound" "[I") ∈ am_WT := am_wt (am_mt 1672 (by decide +kernel)) rfl
theorem w_1673 : (Jvm.Cond.soleField "SlotMatModel" "newRound") ∈ am_WT := am_wt (am_mt 1673 (by decide +kernel)) rfl
theorem w_1674 : (Jvm.Cond.laysFinal "SlotMatModel" "SlotMatModel" "newWets" "[I") ∈ am_WT := am_wt (am_mt 1674 (by decide +kernel)) rfl
theorem w_1675 : (Jvm.Cond.soleField "SlotMatModel" "newWets") ∈ am_WT := am_wt (am_mt 1675 (by decide +kernel)) rfl
theorem w_1676 : (Jvm.Cond.laysFinal "SlotMatModel" "SlotMatModel" "newRow" "[I") ∈ am_WT := am_wt (am_mt 1676 (by decide +kernel)) rfl
theorem w_1677 : (Jvm.Cond.soleField "SlotMatModel" "newRow") ∈ am_WT := am_wt (am_mt 1677 (by decide +kernel)) rfl
theorem w_1678 : (Jvm.Cond.laysFinal "SlotMatModel" "SlotMatModel" "readCode" "[I") ∈ am_WT := am_wt (am_mt 1678 (by decide +kernel)) rfl
theorem w_1679 : (Jvm.Cond.soleField "SlotMatModel" "readCode") ∈ am_WT := am_wt (am_mt 1679 (by decide +kernel)) rfl
theorem w_1680 : (Jvm.Cond.laysFinal "SlotMatModel" "SlotMatModel" "waits" "[I") ∈ am_WT := am_wt (am_mt 1680 (by decide +kernel)) rfl
theorem w_1681 : (Jvm.Cond.soleField "SlotMatModel" "waits") ∈ am_WT := am_wt (am_mt 1681 (by decide +kernel)) rfl
theorem w_1682 : (Jvm.Cond.laysFinal "SlotMatModel" "SlotMatModel" "tested" "[Z") ∈ am_WT := am_wt (am_mt 1682 (by decide +kernel)) rfl
theorem w_1683 : (Jvm.Cond.soleField "SlotMatModel" "tested") ∈ am_WT := am_wt (am_mt 1683 (by decide +kernel)) rfl
theorem w_1684 : (Jvm.Cond.laysFinal "SlotMatModel" "SlotMatModel" "rows" "[I") ∈ am_WT := am_wt (am_mt 1684 (by decide +kernel)) rfl
theorem w_1685 : (Jvm.Cond.soleField "SlotMatModel" "rows") ∈ am_WT := am_wt (am_mt 1685 (by decide +kernel)) rfl
theorem w_1686 : (Jvm.Cond.laysFinal "SlotMatModel" "SlotMatModel" "ahead" "[I") ∈ am_WT := am_wt (am_mt 1686 (by decide +kernel)) rfl
theorem w_1687 : (Jvm.Cond.soleField "SlotMatModel" "ahead") ∈ am_WT := am_wt (am_mt 1687 (by decide +kernel)) rfl
theorem w_1688 : (Jvm.Cond.lays "SlotMatModel" "SlotMatModel" "acts" "I") ∈ am_WT := am_wt (am_mt 1688 (by decide +kernel)) rfl
theorem w_1689 : (Jvm.Cond.soleField "SlotMatModel" "acts") ∈ am_WT := am_wt (am_mt 1689 (by decide +kernel)) rfl
theorem w_1690 : (Jvm.Cond.laysFinal "SlotMatModel" "SlotMatModel" "told" "[I") ∈ am_WT := am_wt (am_mt 1690 (by decide +kernel)) rfl
theorem w_1691 : (Jvm.Cond.soleField "SlotMatModel" "told") ∈ am_WT := am_wt (am_mt 1691 (by decide +kernel)) rfl
theorem w_1692 : (Jvm.Cond.laysFinal "SlotMatModel" "SlotMatModel" "pile" "[I") ∈ am_WT := am_wt (am_mt 1692 (by decide +kernel)) rfl
theorem w_1693 : (Jvm.Cond.soleField "SlotMatModel" "pile") ∈ am_WT := am_wt (am_mt 1693 (by decide +kernel)) rfl
theorem w_1694 : (Jvm.Cond.lays "SlotMatModel" "SlotMatModel" "otherWet" "I") ∈ am_WT := am_wt (am_mt 1694 (by decide +kernel)) rfl
theorem w_1695 : (Jvm.Cond.soleField "SlotMatModel" "otherWet") ∈ am_WT := am_wt (am_mt 1695 (by decide +kernel)) rfl
theorem w_1696 : (Jvm.Cond.lays "SlotMatModel" "SlotMatModel" "isOrdered" "Z") ∈ am_WT := am_wt (am_mt 1696 (by decide +kernel)) rfl
theorem w_1697 : (Jvm.Cond.soleField "SlotMatModel" "isOrdered") ∈ am_WT := am_wt (am_mt 1697 (by decide +kernel)) rfl
theorem w_1698 : (Jvm.Cond.laysFinal "SlotMatModel" "SlotMatModel" "order0" "[I") ∈ am_WT := am_wt (am_mt 1698 (by decide +kernel)) rfl
theorem w_1699 : (Jvm.Cond.soleField "SlotMatModel" "order0") ∈ am_WT := am_wt (am_mt 1699 (by decide +kernel)) rfl
theorem w_1700 : (Jvm.Cond.lays "SlotMatModel" "SlotMatModel" "fetched" "I") ∈ am_WT := am_wt (am_mt 1700 (by decide +kernel)) rfl
theorem w_1701 : (Jvm.Cond.soleField "SlotMatModel" "fetched") ∈ am_WT := am_wt (am_mt 1701 (by decide +kernel)) rfl
theorem w_1702 : (Jvm.Cond.laysFinal "SlotMatModel" "SlotMatModel" "bestOrder" "[I") ∈ am_WT := am_wt (am_mt 1702 (by decide +kernel)) rfl
theorem w_1703 : (Jvm.Cond.soleField "SlotMatModel" "bestOrder") ∈ am_WT := am_wt (am_mt 1703 (by decide +kernel)) rfl
theorem w_1704 : (Jvm.Cond.lays "SlotMatModel" "SlotMatModel" "notedMany" "I") ∈ am_WT := am_wt (am_mt 1704 (by decide +kernel)) rfl
theorem w_1705 : (Jvm.Cond.soleField "SlotMatModel" "notedMany") ∈ am_WT := am_wt (am_mt 1705 (by decide +kernel)) rfl
theorem w_1706 : (Jvm.Cond.laysFinal "SlotMatModel" "SlotMatModel" "noted" "[I") ∈ am_WT := am_wt (am_mt 1706 (by decide +kernel)) rfl
theorem w_1707 : (Jvm.Cond.soleField "SlotMatModel" "noted") ∈ am_WT := am_wt (am_mt 1707 (by decide +kernel)) rfl
theorem w_1708 : (Jvm.Cond.laysFinal "SlotMatModel" "SlotMatModel" "soon" "[I") ∈ am_WT := am_wt (am_mt 1708 (by decide +kernel)) rfl
theorem w_1709 : (Jvm.Cond.soleField "SlotMatModel" "soon") ∈ am_WT := am_wt (am_mt 1709 (by decide +kernel)) rfl
theorem w_1710 : (Jvm.Cond.laysFinal "SlotMatModel" "SlotMatModel" "soonAll" "[I") ∈ am_WT := am_wt (am_mt 1710 (by decide +kernel)) rfl
theorem w_1711 : (Jvm.Cond.soleField "SlotMatModel" "soonAll") ∈ am_WT := am_wt (am_mt 1711 (by decide +kernel)) rfl
theorem w_1712 : (Jvm.Cond.lays "SlotMatModel" "SlotMatModel" "its0" "I") ∈ am_WT := am_wt (am_mt 1712 (by decide +kernel)) rfl
theorem w_1713 : (Jvm.Cond.soleField "SlotMatModel" "its0") ∈ am_WT := am_wt (am_mt 1713 (by decide +kernel)) rfl
theorem w_1714 : (Jvm.Cond.lays "SlotMatModel" "SlotMatModel" "hasImage" "Z") ∈ am_WT := am_wt (am_mt 1714 (by decide +kernel)) rfl
theorem w_1715 : (Jvm.Cond.soleField "SlotMatModel" "hasImage") ∈ am_WT := am_wt (am_mt 1715 (by decide +kernel)) rfl
theorem w_1716 : (Jvm.Cond.lays "SlotMatModel" "SlotMatModel" "imageActs" "I") ∈ am_WT := am_wt (am_mt 1716 (by decide +kernel)) rfl
theorem w_1717 : (Jvm.Cond.soleField "SlotMatModel" "imageActs") ∈ am_WT := am_wt (am_mt 1717 (by decide +kernel)) rfl
theorem w_1718 : (Jvm.Cond.lays "SlotMatModel" "SlotMatModel" "imageNoted" "I") ∈ am_WT := am_wt (am_mt 1718 (by decide +kernel)) rfl
theorem w_1719 : (Jvm.Cond.soleField "SlotMatModel" "imageNoted") ∈ am_WT := am_wt (am_mt 1719 (by decide +kernel)) rfl
theorem w_1720 : (Jvm.Cond.laysFinal "SlotMatModel" "SlotMatModel" "imageRow" "[I") ∈ am_WT := am_wt (am_mt 1720 (by decide +kernel)) rfl
theorem w_1721 : (Jvm.Cond.soleField "SlotMatModel" "imageRow") ∈ am_WT := am_wt (am_mt 1721 (by decide +kernel)) rfl
theorem w_1722 : (Jvm.Cond.laysFinal "SlotMatModel" "SlotMatModel" "imageAhead" "[I") ∈ am_WT := am_wt (am_mt 1722 (by decide +kernel)) rfl
theorem w_1723 : (Jvm.Cond.soleField "SlotMatModel" "imageAhead") ∈ am_WT := am_wt (am_mt 1723 (by decide +kernel)) rfl
theorem w_1724 : (Jvm.Cond.laysFinal "SlotMatModel" "SlotMatModel" "imageNotes" "[I") ∈ am_WT := am_wt (am_mt 1724 (by decide +kernel)) rfl
theorem w_1725 : (Jvm.Cond.soleField "SlotMatModel" "imageNotes") ∈ am_WT := am_wt (am_mt 1725 (by decide +kernel)) rfl
theorem w_1726 : (Jvm.Cond.superclass "SlotMatModel" "java/lang/Object") ∈ am_WT := am_wt (am_mt 1726 (by decide +kernel)) rfl
theorem w_1727 : (Jvm.Cond.arrayClass Jvm.ClassFile.FieldType.boolean) ∈ am_WT := am_wt (am_mt 1727 (by decide +kernel)) rfl
theorem w_1728 : (Jvm.Cond.methodLink "SlotMatLaw" (125 : Nat) ({ cls := "SlotMatModel", name := "thrown", desc := "()I" } : Jvm.MethodName)) ∈ am_WT := am_wt (am_mt 1728 (by decide +kernel)) rfl
theorem w_1729 : (Jvm.Cond.instanceMethod ({ cls := "SlotMatModel", name := "thrown", desc := "()I" } : Jvm.MethodName)) ∈ am_WT := am_wt (am_mt 1729 (by decide +kernel)) rfl
theorem w_1730 : (Jvm.Cond.selects "SlotMatModel" ({ cls := "SlotMatModel", name := "thrown", desc := "()I" } : Jvm.MethodName) ({ cls := "SlotMatModel", name := "thrown", desc := "()I" } : Jvm.MethodName)) ∈ am_WT := am_wt (am_mt 1730 (by decide +kernel)) rfl
theorem w_1731 : (Jvm.Cond.code ({ cls := "SlotMatModel", name := "thrown", desc := "()I" } : Jvm.MethodName) prog_12_method_2_code (1 : Nat) (Option.some Jvm.ClassFile.FieldType.int)) ∈ am_WT := am_wt (am_mt 1731 (by decide +kernel)) rfl
theorem w_1732 : (Jvm.Cond.methodLink "SlotMatLaw" (118 : Nat) ({ cls := "SlotMatModel", name := "feed", desc := "(IIIII)I" } : Jvm.MethodName)) ∈ am_WT := am_wt (am_mt 1732 (by decide +kernel)) rfl
theorem w_1733 : (Jvm.Cond.instanceMethod ({ cls := "SlotMatModel", name := "feed", desc := "(IIIII)I" } : Jvm.MethodName)) ∈ am_WT := am_wt (am_mt 1733 (by decide +kernel)) rfl
theorem w_1734 : (Jvm.Cond.selects "SlotMatModel" ({ cls := "SlotMatModel", name := "feed", desc := "(IIIII)I" } : Jvm.MethodName) ({ cls := "SlotMatModel", name := "feed", desc := "(IIIII)I" } : Jvm.MethodName)) ∈ am_WT := am_wt (am_mt 1734 (by decide +kernel)) rfl
theorem w_1735 : (Jvm.Cond.code ({ cls := "SlotMatModel", name := "feed", desc := "(IIIII)I" } : Jvm.MethodName) prog_12_method_10_code (6 : Nat) (Option.some Jvm.ClassFile.FieldType.int)) ∈ am_WT := am_wt (am_mt 1735 (by decide +kernel)) rfl
theorem w_1736 : (Jvm.Cond.methodLink "SlotMatModel" (117 : Nat) ({ cls := "SlotMatModel", name := "lays", desc := "(I)V" } : Jvm.MethodName)) ∈ am_WT := am_wt (am_mt 1736 (by decide +kernel)) rfl
theorem w_1738 : (Jvm.Cond.instanceMethod ({ cls := "SlotMatModel", name := "lays", desc := "(I)V" } : Jvm.MethodName)) ∈ am_WT := am_wt (am_mt 1738 (by decide +kernel)) rfl
theorem w_1739 : (Jvm.Cond.code ({ cls := "SlotMatModel", name := "lays", desc := "(I)V" } : Jvm.MethodName) prog_12_method_11_code (3 : Nat) (Option.none : Option Jvm.ClassFile.FieldType)) ∈ am_WT := am_wt (am_mt 1739 (by decide +kernel)) rfl
theorem w_1740 : (Jvm.Cond.methodLink "SlotMatLaw" (124 : Nat) ({ cls := "SlotMatModel", name := "city", desc := "(I)I" } : Jvm.MethodName)) ∈ am_WT := am_wt (am_mt 1740 (by decide +kernel)) rfl
theorem w_1741 : (Jvm.Cond.instanceMethod ({ cls := "SlotMatModel", name := "city", desc := "(I)I" } : Jvm.MethodName)) ∈ am_WT := am_wt (am_mt 1741 (by decide +kernel)) rfl
theorem w_1742 : (Jvm.Cond.selects "SlotMatModel" ({ cls := "SlotMatModel", name := "city", desc := "(I)I" } : Jvm.MethodName) ({ cls := "SlotMatModel", name := "city", desc := "(I)I" } : Jvm.MethodName)) ∈ am_WT := am_wt (am_mt 1742 (by decide +kernel)) rfl
theorem w_1743 : (Jvm.Cond.code ({ cls := "SlotMatModel", name := "city", desc := "(I)I" } : Jvm.MethodName) prog_12_method_41_code (3 : Nat) (Option.some Jvm.ClassFile.FieldType.int)) ∈ am_WT := am_wt (am_mt 1743 (by decide +kernel)) rfl
theorem w_1744 : (Jvm.Cond.methodLink "SlotMatModel" (278 : Nat) ({ cls := "SlotMatModel", name := "right", desc := "(ZI)Z" } : Jvm.MethodName)) ∈ am_WT := am_wt (am_mt 1744 (by decide +kernel)) rfl
theorem w_1746 : (Jvm.Cond.instanceMethod ({ cls := "SlotMatModel", name := "right", desc := "(ZI)Z" } : Jvm.MethodName)) ∈ am_WT := am_wt (am_mt 1746 (by decide +kernel)) rfl
theorem w_1747 : (Jvm.Cond.code ({ cls := "SlotMatModel", name := "right", desc := "(ZI)Z" } : Jvm.MethodName) prog_12_method_3_code (3 : Nat) (Option.some Jvm.ClassFile.FieldType.boolean)) ∈ am_WT := am_wt (am_mt 1747 (by decide +kernel)) rfl
theorem w_1748 : (Jvm.Cond.methodLink "SlotMatModel" (174 : Nat) ({ cls := "SlotMatModel", name := "goes", desc := "()V" } : Jvm.MethodName)) ∈ am_WT := am_wt (am_mt 1748 (by decide +kernel)) rfl
theorem w_1750 : (Jvm.Cond.instanceMethod ({ cls := "SlotMatModel", name := "goes", desc := "()V" } : Jvm.MethodName)) ∈ am_WT := am_wt (am_mt 1750 (by decide +kernel)) rfl
theorem w_1751 : (Jvm.Cond.code ({ cls := "SlotMatModel", name := "goes", desc := "()V" } : Jvm.MethodName) prog_12_method_15_code (2 : Nat) (Option.none : Option Jvm.ClassFile.FieldType)) ∈ am_WT := am_wt (am_mt 1751 (by decide +kernel)) rfl
theorem w_1752 : (Jvm.Cond.methodLink "SlotMatModel" (127 : Nat) ({ cls := "SlotMatModel", name := "byteAt", desc := "(I)I" } : Jvm.MethodName)) ∈ am_WT := am_wt (am_mt 1752 (by decide +kernel)) rfl
theorem w_1754 : (Jvm.Cond.instanceMethod ({ cls := "SlotMatModel", name := "byteAt", desc := "(I)I" } : Jvm.MethodName)) ∈ am_WT := am_wt (am_mt 1754 (by decide +kernel)) rfl
theorem w_1755 : (Jvm.Cond.code ({ cls := "SlotMatModel", name := "byteAt", desc := "(I)I" } : Jvm.MethodName) prog_12_method_12_code (2 : Nat) (Option.some Jvm.ClassFile.FieldType.int)) ∈ am_WT := am_wt (am_mt 1755 (by decide +kernel)) rfl
theorem w_1756 : (Jvm.Cond.methodLink "SlotMatModel" (147 : Nat) ({ cls := "SlotMatModel", name := "isLetter", desc := "(I)Z" } : Jvm.MethodName)) ∈ am_WT := am_wt (am_mt 1756 (by decide +kernel)) rfl
theorem w_1757 : (Jvm.Cond.static ({ cls := "SlotMatModel", name := "isLetter", desc := "(I)Z" } : Jvm.MethodName)) ∈ am_WT := am_wt (am_mt 1757 (by decide +kernel)) rfl
theorem w_1758 : (Jvm.Cond.code ({ cls := "SlotMatModel", name := "isLetter", desc := "(I)Z" } : Jvm.MethodName) prog_12_method_13_code (1 : Nat) (Option.some Jvm.ClassFile.FieldType.boolean)) ∈ am_WT := am_wt (am_mt 1758 (by decide +kernel)) rfl
theorem w_1759 : (Jvm.Cond.methodLink "SlotMatModel" (151 : Nat) ({ cls := "SlotMatModel", name := "isDigit", desc := "(I)Z" } : Jvm.MethodName)) ∈ am_WT := am_wt (am_mt 1759 (by decide +kernel)) rfl
theorem w_1760 : (Jvm.Cond.static ({ cls := "SlotMatModel", name := "isDigit", desc := "(I)Z" } : Jvm.MethodName)) ∈ am_WT := am_wt (am_mt 1760 (by decide +kernel)) rfl
theorem w_1761 : (Jvm.Cond.code ({ cls := "SlotMatModel", name := "isDigit", desc := "(I)Z" } : Jvm.MethodName) prog_12_method_14_code (1 : Nat) (Option.some Jvm.ClassFile.FieldType.boolean)) ∈ am_WT := am_wt (am_mt 1761 (by decide +kernel)) rfl
theorem w_1762 : (Jvm.Cond.methodLink "SlotMatModel" (170 : Nat) ({ cls := "SlotMatModel", name := "isGood", desc := "()Z" } : Jvm.MethodName)) ∈ am_WT := am_wt (am_mt 1762 (by decide +kernel)) rfl
theorem w_1764 : (Jvm.Cond.instanceMethod ({ cls := "SlotMatModel", name := "isGood", desc := "()Z" } : Jvm.MethodName)) ∈ am_WT := am_wt (am_mt 1764 (by decide +kernel)) rfl
theorem w_1765 : (Jvm.Cond.code ({ cls := "SlotMatModel", name := "isGood", desc := "()Z" } : Jvm.MethodName) prog_12_method_20_code (1 : Nat) (Option.some Jvm.ClassFile.FieldType.boolean)) ∈ am_WT := am_wt (am_mt 1765 (by decide +kernel)) rfl
theorem w_1766 : (Jvm.Cond.methodLink "SlotMatModel" (282 : Nat) ({ cls := "SlotMatModel", name := "line", desc := "()V" } : Jvm.MethodName)) ∈ am_WT := am_wt (am_mt 1766 (by decide +kernel)) rfl
theorem w_1768 : (Jvm.Cond.instanceMethod ({ cls := "SlotMatModel", name := "line", desc := "()V" } : Jvm.MethodName)) ∈ am_WT := am_wt (am_mt 1768 (by decide +kernel)) rfl
theorem w_1769 : (Jvm.Cond.code ({ cls := "SlotMatModel", name := "line", desc := "()V" } : Jvm.MethodName) prog_12_method_40_code (2 : Nat) (Option.none : Option Jvm.ClassFile.FieldType)) ∈ am_WT := am_wt (am_mt 1769 (by decide +kernel)) rfl
theorem w_1770 : (Jvm.Cond.methodLink "SlotMatModel" (195 : Nat) ({ cls := "SlotMatModel", name := "knownWord", desc := "()I" } : Jvm.MethodName)) ∈ am_WT := am_wt (am_mt 1770 (by decide +kernel)) rfl
theorem w_1772 : (Jvm.Cond.instanceMethod ({ cls := "SlotMatModel", name := "knownWord", desc := "()I" } : Jvm.MethodName)) ∈ am_WT := am_wt (am_mt 1772 (by decide +kernel)) rfl
theorem w_1773 : (Jvm.Cond.code ({ cls := "SlotMatModel", name := "knownWord", desc := "()I" } : Jvm.MethodName) prog_12_method_18_code (2 : Nat) (Option.some Jvm.ClassFile.FieldType.int)) ∈ am_WT := am_wt (am_mt 1773 (by decide +kernel)) rfl
theorem w_1774 : (Jvm.Cond.methodLink "SlotMatModel" (163 : Nat) ({ cls := "SlotMatModel", name := "letters", desc := "(I)J" } : Jvm.MethodName)) ∈ am_WT := am_wt (am_mt 1774 (by decide +kernel)) rfl
theorem w_1775 : (Jvm.Cond.static ({ cls := "SlotMatModel", name := "letters", desc := "(I)J" } : Jvm.MethodName)) ∈ am_WT := am_wt (am_mt 1775 (by decide +kernel)) rfl
theorem w_1776 : (Jvm.Cond.code ({ cls := "SlotMatModel", name := "letters", desc := "(I)J" } : Jvm.MethodName) prog_12_method_17_code (1 : Nat) (Option.some Jvm.ClassFile.FieldType.long)) ∈ am_WT := am_wt (am_mt 1776 (by decide +kernel)) rfl
theorem w_1777 : (Jvm.Cond.methodLink "SlotMatModel" (159 : Nat) ({ cls := "SlotMatModel", name := "spelled", desc := "(IIIIIII)J" } : Jvm.MethodName)) ∈ am_WT := am_wt (am_mt 1777 (by decide +kernel)) rfl
theorem w_1778 : (Jvm.Cond.static ({ cls := "SlotMatModel", name := "spelled", desc := "(IIIIIII)J" } : Jvm.MethodName)) ∈ am_WT := am_wt (am_mt 1778 (by decide +kernel)) rfl
theorem w_1779 : (Jvm.Cond.code ({ cls := "SlotMatModel", name := "spelled", desc := "(IIIIIII)J" } : Jvm.MethodName) prog_12_method_16_code (9 : Nat) (Option.some Jvm.ClassFile.FieldType.long)) ∈ am_WT := am_wt (am_mt 1779 (by decide +kernel)) rfl
theorem w_1780 : (Jvm.Cond.constantLong "SlotMatModel" (157 : Nat) (96 : Int64)) ∈ am_WT := am_wt (am_mt 1780 (by decide +kernel)) rfl
theorem w_1781 : (Jvm.Cond.methodLink "SlotMatModel" (249 : Nat) ({ cls := "SlotMatModel", name := "begins", desc := "(ZZ)Z" } : Jvm.MethodName)) ∈ am_WT := am_wt (am_mt 1781 (by decide +kernel)) rfl
theorem w_1783 : (Jvm.Cond.instanceMethod ({ cls := "SlotMatModel", name := "begins", desc := "(ZZ)Z" } : Jvm.MethodName)) ∈ am_WT := am_wt (am_mt 1783 (by decide +kernel)) rfl
theorem w_1784 : (Jvm.Cond.code ({ cls := "SlotMatModel", name := "begins", desc := "(ZZ)Z" } : Jvm.MethodName) prog_12_method_35_code (3 : Nat) (Option.some Jvm.ClassFile.FieldType.boolean)) ∈ am_WT := am_wt (am_mt 1784 (by decide +kernel)) rfl
theorem w_1785 : (Jvm.Cond.methodLink "SlotMatModel" (177 : Nat) ({ cls := "SlotMatModel", name := "wrong", desc := "(I)V" } : Jvm.MethodName)) ∈ am_WT := am_wt (am_mt 1785 (by decide +kernel)) rfl
theorem w_1787 : (Jvm.Cond.instanceMethod ({ cls := "SlotMatModel", name := "wrong", desc := "(I)V" } : Jvm.MethodName)) ∈ am_WT := am_wt (am_mt 1787 (by decide +kernel)) rfl
theorem w_1788 : (Jvm.Cond.code ({ cls := "SlotMatModel", name := "wrong", desc := "(I)V" } : Jvm.MethodName) prog_12_method_19_code (2 : Nat) (Option.none : Option Jvm.ClassFile.FieldType)) ∈ am_WT := am_wt (am_mt 1788 (by decide +kernel)) rfl
theorem w_1789 : (Jvm.Cond.methodLink "SlotMatModel" (253 : Nat) ({ cls := "SlotMatModel", name := "readsBox", desc := "()V" } : Jvm.MethodName)) ∈ am_WT := am_wt (am_mt 1789 (by decide +kernel)) rfl
theorem w_1791 : (Jvm.Cond.instanceMethod ({ cls := "SlotMatModel", name := "readsBox", desc := "()V" } : Jvm.MethodName)) ∈ am_WT := am_wt (am_mt 1791 (by decide +kernel)) rfl
theorem w_1792 : (Jvm.Cond.code ({ cls := "SlotMatModel", name := "readsBox", desc := "()V" } : Jvm.MethodName) prog_12_method_36_code (1 : Nat) (Option.none : Option Jvm.ClassFile.FieldType)) ∈ am_WT := am_wt (am_mt 1792 (by decide +kernel)) rfl
theorem w_1793 : (Jvm.Cond.methodLink "SlotMatModel" (236 : Nat) ({ cls := "SlotMatModel", name := "number", desc := "(II)I" } : Jvm.MethodName)) ∈ am_WT := am_wt (am_mt 1793 (by decide +kernel)) rfl
theorem w_1795 : (Jvm.Cond.instanceMethod ({ cls := "SlotMatModel", name := "number", desc := "(II)I" } : Jvm.MethodName)) ∈ am_WT := am_wt (am_mt 1795 (by decide +kernel)) rfl
theorem w_1796 : (Jvm.Cond.code ({ cls := "SlotMatModel", name := "number", desc := "(II)I" } : Jvm.MethodName) prog_12_method_23_code (4 : Nat) (Option.some Jvm.ClassFile.FieldType.int)) ∈ am_WT := am_wt (am_mt 1796 (by decide +kernel)) rfl
theorem w_1797 : (Jvm.Cond.methodLink "SlotMatModel" (256 : Nat) ({ cls := "SlotMatModel", name := "readsPerson", desc := "()V" } : Jvm.MethodName)) ∈ am_WT := am_wt (am_mt 1797 (by decide +kernel)) rfl
theorem w_1799 : (Jvm.Cond.instanceMethod ({ cls := "SlotMatModel", name := "readsPerson", desc := "()V" } : Jvm.MethodName)) ∈ am_WT := am_wt (am_mt 1799 (by decide +kernel)) rfl
theorem w_1800 : (Jvm.Cond.code ({ cls := "SlotMatModel", name := "readsPerson", desc := "()V" } : Jvm.MethodName) prog_12_method_37_code (2 : Nat) (Option.none : Option Jvm.ClassFile.FieldType)) ∈ am_WT := am_wt (am_mt 1800 (by decide +kernel)) rfl
theorem w_1801 : (Jvm.Cond.methodLink "SlotMatModel" (259 : Nat) ({ cls := "SlotMatModel", name := "readsRound", desc := "()V" } : Jvm.MethodName)) ∈ am_WT := am_wt (am_mt 1801 (by decide +kernel)) rfl
theorem w_1803 : (Jvm.Cond.instanceMethod ({ cls := "SlotMatModel", name := "readsRound", desc := "()V" } : Jvm.MethodName)) ∈ am_WT := am_wt (am_mt 1803 (by decide +kernel)) rfl
theorem w_1804 : (Jvm.Cond.code ({ cls := "SlotMatModel", name := "readsRound", desc := "()V" } : Jvm.MethodName) prog_12_method_38_code (2 : Nat) (Option.none : Option Jvm.ClassFile.FieldType)) ∈ am_WT := am_wt (am_mt 1804 (by decide +kernel)) rfl
theorem w_1805 : (Jvm.Cond.methodLink "SlotMatModel" (262 : Nat) ({ cls := "SlotMatModel", name := "readsWet", desc := "()V" } : Jvm.MethodName)) ∈ am_WT := am_wt (am_mt 1805 (by decide +kernel)) rfl
theorem w_1807 : (Jvm.Cond.instanceMethod ({ cls := "SlotMatModel", name := "readsWet", desc := "()V" } : Jvm.MethodName)) ∈ am_WT := am_wt (am_mt 1807 (by decide +kernel)) rfl
theorem w_1808 : (Jvm.Cond.code ({ cls := "SlotMatModel", name := "readsWet", desc := "()V" } : Jvm.MethodName) prog_12_method_39_code (3 : Nat) (Option.none : Option Jvm.ClassFile.FieldType)) ∈ am_WT := am_wt (am_mt 1808 (by decide +kernel)) rfl
theorem w_1809 : (Jvm.Cond.methodLink "SlotMatModel" (268 : Nat) ({ cls := "SlotMatModel", name := "expression", desc := "(II)V" } : Jvm.MethodName)) ∈ am_WT := am_wt (am_mt 1809 (by decide +kernel)) rfl
theorem w_1811 : (Jvm.Cond.instanceMethod ({ cls := "SlotMatModel", name := "expression", desc := "(II)V" } : Jvm.MethodName)) ∈ am_WT := am_wt (am_mt 1811 (by decide +kernel)) rfl
theorem w_1812 : (Jvm.Cond.code ({ cls := "SlotMatModel", name := "expression", desc := "(II)V" } : Jvm.MethodName) prog_12_method_34_code (5 : Nat) (Option.none : Option Jvm.ClassFile.FieldType)) ∈ am_WT := am_wt (am_mt 1812 (by decide +kernel)) rfl
theorem w_1813 : (Jvm.Cond.methodLink "SlotMatModel" (214 : Nat) ({ cls := "SlotMatModel", name := "deeper", desc := "()V" } : Jvm.MethodName)) ∈ am_WT := am_wt (am_mt 1813 (by decide +kernel)) rfl
theorem w_1815 : (Jvm.Cond.instanceMethod ({ cls := "SlotMatModel", name := "deeper", desc := "()V" } : Jvm.MethodName)) ∈ am_WT := am_wt (am_mt 1815 (by decide +kernel)) rfl
theorem w_1816 : (Jvm.Cond.code ({ cls := "SlotMatModel", name := "deeper", desc := "()V" } : Jvm.MethodName) prog_12_method_30_code (1 : Nat) (Option.none : Option Jvm.ClassFile.FieldType)) ∈ am_WT := am_wt (am_mt 1816 (by decide +kernel)) rfl
theorem w_1817 : (Jvm.Cond.methodLink "SlotMatModel" (208 : Nat) ({ cls := "SlotMatModel", name := "isSign", desc := "(I)Z" } : Jvm.MethodName)) ∈ am_WT := am_wt (am_mt 1817 (by decide +kernel)) rfl
theorem w_1819 : (Jvm.Cond.instanceMethod ({ cls := "SlotMatModel", name := "isSign", desc := "(I)Z" } : Jvm.MethodName)) ∈ am_WT := am_wt (am_mt 1819 (by decide +kernel)) rfl
theorem w_1820 : (Jvm.Cond.code ({ cls := "SlotMatModel", name := "isSign", desc := "(I)Z" } : Jvm.MethodName) prog_12_method_21_code (2 : Nat) (Option.some Jvm.ClassFile.FieldType.boolean)) ∈ am_WT := am_wt (am_mt 1820 (by decide +kernel)) rfl
theorem w_1821 : (Jvm.Cond.methodLink "SlotMatModel" (223 : Nat) ({ cls := "SlotMatModel", name := "operand", desc := "(Z)V" } : Jvm.MethodName)) ∈ am_WT := am_wt (am_mt 1821 (by decide +kernel)) rfl
theorem w_1823 : (Jvm.Cond.instanceMethod ({ cls := "SlotMatModel", name := "operand", desc := "(Z)V" } : Jvm.MethodName)) ∈ am_WT := am_wt (am_mt 1823 (by decide +kernel)) rfl
theorem w_1824 : (Jvm.Cond.code ({ cls := "SlotMatModel", name := "operand", desc := "(Z)V" } : Jvm.MethodName) prog_12_method_31_code (5 : Nat) (Option.none : Option Jvm.ClassFile.FieldType)) ∈ am_WT := am_wt (am_mt 1824 (by decide +kernel)) rfl
theorem w_1825 : (Jvm.Cond.methodLink "SlotMatModel" (211 : Nat) ({ cls := "SlotMatModel", name := "waitsFor", desc := "(I)V" } : Jvm.MethodName)) ∈ am_WT := am_wt (am_mt 1825 (by decide +kernel)) rfl
theorem w_1827 : (Jvm.Cond.instanceMethod ({ cls := "SlotMatModel", name := "waitsFor", desc := "(I)V" } : Jvm.MethodName)) ∈ am_WT := am_wt (am_mt 1827 (by decide +kernel)) rfl
theorem w_1828 : (Jvm.Cond.code ({ cls := "SlotMatModel", name := "waitsFor", desc := "(I)V" } : Jvm.MethodName) prog_12_method_28_code (2 : Nat) (Option.none : Option Jvm.ClassFile.FieldType)) ∈ am_WT := am_wt (am_mt 1828 (by decide +kernel)) rfl
theorem w_1829 : (Jvm.Cond.methodLink "SlotMatModel" (217 : Nat) ({ cls := "SlotMatModel", name := "part", desc := "()V" } : Jvm.MethodName)) ∈ am_WT := am_wt (am_mt 1829 (by decide +kernel)) rfl
theorem w_1831 : (Jvm.Cond.instanceMethod ({ cls := "SlotMatModel", name := "part", desc := "()V" } : Jvm.MethodName)) ∈ am_WT := am_wt (am_mt 1831 (by decide +kernel)) rfl
theorem w_1832 : (Jvm.Cond.code ({ cls := "SlotMatModel", name := "part", desc := "()V" } : Jvm.MethodName) prog_12_method_29_code (2 : Nat) (Option.none : Option Jvm.ClassFile.FieldType)) ∈ am_WT := am_wt (am_mt 1832 (by decide +kernel)) rfl
theorem w_1833 : (Jvm.Cond.methodLink "SlotMatModel" (192 : Nat) ({ cls := "SlotMatModel", name := "puts", desc := "(I)V" } : Jvm.MethodName)) ∈ am_WT := am_wt (am_mt 1833 (by decide +kernel)) rfl
theorem w_1835 : (Jvm.Cond.instanceMethod ({ cls := "SlotMatModel", name := "puts", desc := "(I)V" } : Jvm.MethodName)) ∈ am_WT := am_wt (am_mt 1835 (by decide +kernel)) rfl
theorem w_1836 : (Jvm.Cond.code ({ cls := "SlotMatModel", name := "puts", desc := "(I)V" } : Jvm.MethodName) prog_12_method_24_code (2 : Nat) (Option.none : Option Jvm.ClassFile.FieldType)) ∈ am_WT := am_wt (am_mt 1836 (by decide +kernel)) rfl
theorem w_1837 : (Jvm.Cond.methodLink "SlotMatModel" (220 : Nat) ({ cls := "SlotMatModel", name := "drops", desc := "(I)V" } : Jvm.MethodName)) ∈ am_WT := am_wt (am_mt 1837 (by decide +kernel)) rfl
theorem w_1839 : (Jvm.Cond.instanceMethod ({ cls := "SlotMatModel", name := "drops", desc := "(I)V" } : Jvm.MethodName)) ∈ am_WT := am_wt (am_mt 1839 (by decide +kernel)) rfl
theorem w_1840 : (Jvm.Cond.code ({ cls := "SlotMatModel", name := "drops", desc := "(I)V" } : Jvm.MethodName) prog_12_method_27_code (2 : Nat) (Option.none : Option Jvm.ClassFile.FieldType)) ∈ am_WT := am_wt (am_mt 1840 (by decide +kernel)) rfl
theorem w_1841 : (Jvm.Cond.methodLink "SlotMatModel" (186 : Nat) ({ cls := "SlotMatModel", name := "isOpen", desc := "(I)Z" } : Jvm.MethodName)) ∈ am_WT := am_wt (am_mt 1841 (by decide +kernel)) rfl
theorem w_1842 : (Jvm.Cond.static ({ cls := "SlotMatModel", name := "isOpen", desc := "(I)Z" } : Jvm.MethodName)) ∈ am_WT := am_wt (am_mt 1842 (by decide +kernel)) rfl
theorem w_1843 : (Jvm.Cond.code ({ cls := "SlotMatModel", name := "isOpen", desc := "(I)Z" } : Jvm.MethodName) prog_12_method_25_code (1 : Nat) (Option.some Jvm.ClassFile.FieldType.boolean)) ∈ am_WT := am_wt (am_mt 1843 (by decide +kernel)) rfl
theorem w_1844 : (Jvm.Cond.methodLink "SlotMatModel" (189 : Nat) ({ cls := "SlotMatModel", name := "strength", desc := "(I)I" } : Jvm.MethodName)) ∈ am_WT := am_wt (am_mt 1844 (by decide +kernel)) rfl
theorem w_1845 : (Jvm.Cond.static ({ cls := "SlotMatModel", name := "strength", desc := "(I)I" } : Jvm.MethodName)) ∈ am_WT := am_wt (am_mt 1845 (by decide +kernel)) rfl
theorem w_1846 : (Jvm.Cond.code ({ cls := "SlotMatModel", name := "strength", desc := "(I)I" } : Jvm.MethodName) prog_12_method_26_code (1 : Nat) (Option.some Jvm.ClassFile.FieldType.int)) ∈ am_WT := am_wt (am_mt 1846 (by decide +kernel)) rfl
theorem w_1847 : (Jvm.Cond.methodLink "SlotMatModel" (227 : Nat) ({ cls := "SlotMatModel", name := "isOpened", desc := "()Z" } : Jvm.MethodName)) ∈ am_WT := am_wt (am_mt 1847 (by decide +kernel)) rfl
theorem w_1849 : (Jvm.Cond.instanceMethod ({ cls := "SlotMatModel", name := "isOpened", desc := "()Z" } : Jvm.MethodName)) ∈ am_WT := am_wt (am_mt 1849 (by decide +kernel)) rfl
theorem w_1850 : (Jvm.Cond.code ({ cls := "SlotMatModel", name := "isOpened", desc := "()Z" } : Jvm.MethodName) prog_12_method_32_code (2 : Nat) (Option.some Jvm.ClassFile.FieldType.boolean)) ∈ am_WT := am_wt (am_mt 1850 (by decide +kernel)) rfl
theorem w_1851 : (Jvm.Cond.methodLink "SlotMatModel" (230 : Nat) ({ cls := "SlotMatModel", name := "closes", desc := "()V" } : Jvm.MethodName)) ∈ am_WT := am_wt (am_mt 1851 (by decide +kernel)) rfl
theorem w_1853 : (Jvm.Cond.instanceMethod ({ cls := "SlotMatModel", name := "closes", desc := "()V" } : Jvm.MethodName)) ∈ am_WT := am_wt (am_mt 1853 (by decide +kernel)) rfl
theorem w_1854 : (Jvm.Cond.code ({ cls := "SlotMatModel", name := "closes", desc := "()V" } : Jvm.MethodName) prog_12_method_33_code (1 : Nat) (Option.none : Option Jvm.ClassFile.FieldType)) ∈ am_WT := am_wt (am_mt 1854 (by decide +kernel)) rfl
theorem w_1855 : (Jvm.Cond.methodLink "SlotMatModel" (275 : Nat) ({ cls := "SlotMatModel", name := "need", desc := "(Z)V" } : Jvm.MethodName)) ∈ am_WT := am_wt (am_mt 1855 (by decide +kernel)) rfl
theorem w_1857 : (Jvm.Cond.instanceMethod ({ cls := "SlotMatModel", name := "need", desc := "(Z)V" } : Jvm.MethodName)) ∈ am_WT := am_wt (am_mt 1857 (by decide +kernel)) rfl
theorem w_1858 : (Jvm.Cond.code ({ cls := "SlotMatModel", name := "need", desc := "(Z)V" } : Jvm.MethodName) prog_12_method_22_code (2 : Nat) (Option.none : Option Jvm.ClassFile.FieldType)) ∈ am_WT := am_wt (am_mt 1858 (by decide +kernel)) rfl
theorem w_1859 : (Jvm.Cond.methodLink "SlotMatModel" (297 : Nat) ({ cls := "SlotMatModel", name := "copies", desc := "([I[I)V" } : Jvm.MethodName)) ∈ am_WT := am_wt (am_mt 1859 (by decide +kernel)) rfl
theorem w_1861 : (Jvm.Cond.instanceMethod ({ cls := "SlotMatModel", name := "copies", desc := "([I[I)V" } : Jvm.MethodName)) ∈ am_WT := am_wt (am_mt 1861 (by decide +kernel)) rfl
theorem w_1862 : (Jvm.Cond.code ({ cls := "SlotMatModel", name := "copies", desc := "([I[I)V" } : Jvm.MethodName) prog_12_method_8_code (4 : Nat) (Option.none : Option Jvm.ClassFile.FieldType)) ∈ am_WT := am_wt (am_mt 1862 (by decide +kernel)) rfl
theorem w_1863 : (Jvm.Cond.methodLink "SlotMatLaw" (132 : Nat) ({ cls := "SlotMatModel", name := "fault", desc := "()I" } : Jvm.MethodName)) ∈ am_WT := am_wt (am_mt 1863 (by decide +kernel)) rfl
theorem w_1864 : (Jvm.Cond.instanceMethod ({ cls := "SlotMatModel", name := "fault", desc := "()I" } : Jvm.MethodName)) ∈ am_WT := am_wt (am_mt 1864 (by decide +kernel)) rfl
theorem w_1865 : (Jvm.Cond.selects "SlotMatModel" ({ cls := "SlotMatModel", name := "fault", desc := "()I" } : Jvm.MethodName) ({ cls := "SlotMatModel", name := "fault", desc := "()I" } : Jvm.MethodName)) ∈ am_WT := am_wt (am_mt 1865 (by decide +kernel)) rfl
theorem w_1866 : (Jvm.Cond.code ({ cls := "SlotMatModel", name := "fault", desc := "()I" } : Jvm.MethodName) prog_12_method_42_code (1 : Nat) (Option.some Jvm.ClassFile.FieldType.int)) ∈ am_WT := am_wt (am_mt 1866 (by decide +kernel)) rfl
theorem w_1867 : (Jvm.Cond.methodLink "SlotMatLaw" (167 : Nat) ({ cls := "SlotMatModel", name := "undo", desc := "()I" } : Jvm.MethodName)) ∈ am_WT := am_wt (am_mt 1867 (by decide +kernel)) rfl
theorem w_1868 : (Jvm.Cond.instanceMethod ({ cls := "SlotMatModel", name := "undo", desc := "()I" } : Jvm.MethodName)) ∈ am_WT := am_wt (am_mt 1868 (by decide +kernel)) rfl
theorem w_1869 : (Jvm.Cond.selects "SlotMatModel" ({ cls := "SlotMatModel", name := "undo", desc := "()I" } : Jvm.MethodName) ({ cls := "SlotMatModel", name := "undo", desc := "()I" } : Jvm.MethodName)) ∈ am_WT := am_wt (am_mt 1869 (by decide +kernel)) rfl
theorem w_1870 : (Jvm.Cond.code ({ cls := "SlotMatModel", name := "undo", desc := "()I" } : Jvm.MethodName) prog_12_method_45_code (2 : Nat) (Option.some Jvm.ClassFile.FieldType.int)) ∈ am_WT := am_wt (am_mt 1870 (by decide +kernel)) rfl
theorem w_1871 : (Jvm.Cond.methodLink "SlotMatLaw" (135 : Nat) ({ cls := "SlotMatModel", name := "count", desc := "(I)I" } : Jvm.MethodName)) ∈ am_WT := am_wt (am_mt 1871 (by decide +kernel)) rfl
theorem w_1872 : (Jvm.Cond.instanceMethod ({ cls := "SlotMatModel", name := "count", desc := "(I)I" } : Jvm.MethodName)) ∈ am_WT := am_wt (am_mt 1872 (by decide +kernel)) rfl
theorem w_1873 : (Jvm.Cond.selects "SlotMatModel" ({ cls := "SlotMatModel", name := "count", desc := "(I)I" } : Jvm.MethodName) ({ cls := "SlotMatModel", name := "count", desc := "(I)I" } : Jvm.MethodName)) ∈ am_WT := am_wt (am_mt 1873 (by decide +kernel)) rfl
theorem w_1874 : (Jvm.Cond.code ({ cls := "SlotMatModel", name := "count", desc := "(I)I" } : Jvm.MethodName) prog_12_method_66_code (2 : Nat) (Option.some Jvm.ClassFile.FieldType.int)) ∈ am_WT := am_wt (am_mt 1874 (by decide +kernel)) rfl
theorem w_1875 : (Jvm.Cond.methodLink "SlotMatModel" (368 : Nat) ({ cls := "SlotMatModel", name := "within", desc := "(III)Z" } : Jvm.MethodName)) ∈ am_WT := am_wt (am_mt 1875 (by decide +kernel)) rfl
theorem w_1876 : (Jvm.Cond.static ({ cls := "SlotMatModel", name := "within", desc := "(III)Z" } : Jvm.MethodName)) ∈ am_WT := am_wt (am_mt 1876 (by decide +kernel)) rfl
theorem w_1877 : (Jvm.Cond.code ({ cls := "SlotMatModel", name := "within", desc := "(III)Z" } : Jvm.MethodName) prog_12_method_4_code (3 : Nat) (Option.some Jvm.ClassFile.FieldType.boolean)) ∈ am_WT := am_wt (am_mt 1877 (by decide +kernel)) rfl
theorem w_1878 : (Jvm.Cond.methodLink "SlotMatModel" (330 : Nat) ({ cls := "SlotMatModel", name := "wetIn", desc := "(I)I" } : Jvm.MethodName)) ∈ am_WT := am_wt (am_mt 1878 (by decide +kernel)) rfl
theorem w_1880 : (Jvm.Cond.instanceMethod ({ cls := "SlotMatModel", name := "wetIn", desc := "(I)I" } : Jvm.MethodName)) ∈ am_WT := am_wt (am_mt 1880 (by decide +kernel)) rfl
theorem w_1881 : (Jvm.Cond.code ({ cls := "SlotMatModel", name := "wetIn", desc := "(I)I" } : Jvm.MethodName) prog_12_method_49_code (2 : Nat) (Option.some Jvm.ClassFile.FieldType.int)) ∈ am_WT := am_wt (am_mt 1881 (by decide +kernel)) rfl
theorem w_1882 : (Jvm.Cond.methodLink "SlotMatModel" (356 : Nat) ({ cls := "SlotMatModel", name := "comesOn", desc := "(I)I" } : Jvm.MethodName)) ∈ am_WT := am_wt (am_mt 1882 (by decide +kernel)) rfl
theorem w_1884 : (Jvm.Cond.instanceMethod ({ cls := "SlotMatModel", name := "comesOn", desc := "(I)I" } : Jvm.MethodName)) ∈ am_WT := am_wt (am_mt 1884 (by decide +kernel)) rfl
theorem w_1885 : (Jvm.Cond.code ({ cls := "SlotMatModel", name := "comesOn", desc := "(I)I" } : Jvm.MethodName) prog_12_method_50_code (2 : Nat) (Option.some Jvm.ClassFile.FieldType.int)) ∈ am_WT := am_wt (am_mt 1885 (by decide +kernel)) rfl
theorem w_1886 : (Jvm.Cond.methodLink "SlotMatModel" (372 : Nat) ({ cls := "SlotMatModel", name := "heldAll", desc := "(I)I" } : Jvm.MethodName)) ∈ am_WT := am_wt (am_mt 1886 (by decide +kernel)) rfl
theorem w_1888 : (Jvm.Cond.instanceMethod ({ cls := "SlotMatModel", name := "heldAll", desc := "(I)I" } : Jvm.MethodName)) ∈ am_WT := am_wt (am_mt 1888 (by decide +kernel)) rfl
theorem w_1889 : (Jvm.Cond.code ({ cls := "SlotMatModel", name := "heldAll", desc := "(I)I" } : Jvm.MethodName) prog_12_method_55_code (4 : Nat) (Option.some Jvm.ClassFile.FieldType.int)) ∈ am_WT := am_wt (am_mt 1889 (by decide +kernel)) rfl
theorem w_1890 : (Jvm.Cond.methodLink "SlotMatModel" (321 : Nat) ({ cls := "SlotMatModel", name := "heldIn", desc := "(II)I" } : Jvm.MethodName)) ∈ am_WT := am_wt (am_mt 1890 (by decide +kernel)) rfl
theorem w_1892 : (Jvm.Cond.instanceMethod ({ cls := "SlotMatModel", name := "heldIn", desc := "(II)I" } : Jvm.MethodName)) ∈ am_WT := am_wt (am_mt 1892 (by decide +kernel)) rfl
theorem w_1893 : (Jvm.Cond.code ({ cls := "SlotMatModel", name := "heldIn", desc := "(II)I" } : Jvm.MethodName) prog_12_method_52_code (5 : Nat) (Option.some Jvm.ClassFile.FieldType.int)) ∈ am_WT := am_wt (am_mt 1893 (by decide +kernel)) rfl
theorem w_1894 : (Jvm.Cond.methodLink "SlotMatModel" (375 : Nat) ({ cls := "SlotMatModel", name := "sumOf", desc := "(II)I" } : Jvm.MethodName)) ∈ am_WT := am_wt (am_mt 1894 (by decide +kernel)) rfl
theorem w_1896 : (Jvm.Cond.instanceMethod ({ cls := "SlotMatModel", name := "sumOf", desc := "(II)I" } : Jvm.MethodName)) ∈ am_WT := am_wt (am_mt 1896 (by decide +kernel)) rfl
theorem w_1897 : (Jvm.Cond.code ({ cls := "SlotMatModel", name := "sumOf", desc := "(II)I" } : Jvm.MethodName) prog_12_method_54_code (5 : Nat) (Option.some Jvm.ClassFile.FieldType.int)) ∈ am_WT := am_wt (am_mt 1897 (by decide +kernel)) rfl
theorem w_1898 : (Jvm.Cond.methodLink "SlotMatModel" (378 : Nat) ({ cls := "SlotMatModel", name := "mutual", desc := "()I" } : Jvm.MethodName)) ∈ am_WT := am_wt (am_mt 1898 (by decide +kernel)) rfl
theorem w_1900 : (Jvm.Cond.instanceMethod ({ cls := "SlotMatModel", name := "mutual", desc := "()I" } : Jvm.MethodName)) ∈ am_WT := am_wt (am_mt 1900 (by decide +kernel)) rfl
theorem w_1901 : (Jvm.Cond.code ({ cls := "SlotMatModel", name := "mutual", desc := "()I" } : Jvm.MethodName) prog_12_method_64_code (4 : Nat) (Option.some Jvm.ClassFile.FieldType.int)) ∈ am_WT := am_wt (am_mt 1901 (by decide +kernel)) rfl
theorem w_1902 : (Jvm.Cond.methodLink "SlotMatModel" (381 : Nat) ({ cls := "SlotMatModel", name := "unthought", desc := "()I" } : Jvm.MethodName)) ∈ am_WT := am_wt (am_mt 1902 (by decide +kernel)) rfl
theorem w_1904 : (Jvm.Cond.instanceMethod ({ cls := "SlotMatModel", name := "unthought", desc := "()I" } : Jvm.MethodName)) ∈ am_WT := am_wt (am_mt 1904 (by decide +kernel)) rfl
theorem w_1905 : (Jvm.Cond.code ({ cls := "SlotMatModel", name := "unthought", desc := "()I" } : Jvm.MethodName) prog_12_method_65_code (3 : Nat) (Option.some Jvm.ClassFile.FieldType.int)) ∈ am_WT := am_wt (am_mt 1905 (by decide +kernel)) rfl
theorem w_1906 : (Jvm.Cond.methodLink "SlotMatModel" (365 : Nat) ({ cls := "SlotMatModel", name := "fansOf", desc := "(I)I" } : Jvm.MethodName)) ∈ am_WT := am_wt (am_mt 1906 (by decide +kernel)) rfl
theorem w_1908 : (Jvm.Cond.instanceMethod ({ cls := "SlotMatModel", name := "fansOf", desc := "(I)I" } : Jvm.MethodName)) ∈ am_WT := am_wt (am_mt 1908 (by decide +kernel)) rfl
theorem w_1909 : (Jvm.Cond.code ({ cls := "SlotMatModel", name := "fansOf", desc := "(I)I" } : Jvm.MethodName) prog_12_method_63_code (4 : Nat) (Option.some Jvm.ClassFile.FieldType.int)) ∈ am_WT := am_wt (am_mt 1909 (by decide +kernel)) rfl
theorem w_1910 : (Jvm.Cond.methodLink "SlotMatLaw" (139 : Nat) ({ cls := "SlotMatModel", name := "box", desc := "(II)I" } : Jvm.MethodName)) ∈ am_WT := am_wt (am_mt 1910 (by decide +kernel)) rfl
theorem w_1911 : (Jvm.Cond.instanceMethod ({ cls := "SlotMatModel", name := "box", desc := "(II)I" } : Jvm.MethodName)) ∈ am_WT := am_wt (am_mt 1911 (by decide +kernel)) rfl
theorem w_1912 : (Jvm.Cond.selects "SlotMatModel" ({ cls := "SlotMatModel", name := "box", desc := "(II)I" } : Jvm.MethodName) ({ cls := "SlotMatModel", name := "box", desc := "(II)I" } : Jvm.MethodName)) ∈ am_WT := am_wt (am_mt 1912 (by decide +kernel)) rfl
theorem w_1913 : (Jvm.Cond.code ({ cls := "SlotMatModel", name := "box", desc := "(II)I" } : Jvm.MethodName) prog_12_method_73_code (3 : Nat) (Option.some Jvm.ClassFile.FieldType.int)) ∈ am_WT := am_wt (am_mt 1913 (by decide +kernel)) rfl
theorem w_1914 : (Jvm.Cond.methodLink "SlotMatModel" (384 : Nat) ({ cls := "SlotMatModel", name := "isBox", desc := "(I)Z" } : Jvm.MethodName)) ∈ am_WT := am_wt (am_mt 1914 (by decide +kernel)) rfl
theorem w_1916 : (Jvm.Cond.instanceMethod ({ cls := "SlotMatModel", name := "isBox", desc := "(I)Z" } : Jvm.MethodName)) ∈ am_WT := am_wt (am_mt 1916 (by decide +kernel)) rfl
theorem w_1917 : (Jvm.Cond.code ({ cls := "SlotMatModel", name := "isBox", desc := "(I)Z" } : Jvm.MethodName) prog_12_method_67_code (2 : Nat) (Option.some Jvm.ClassFile.FieldType.boolean)) ∈ am_WT := am_wt (am_mt 1917 (by decide +kernel)) rfl
theorem w_1918 : (Jvm.Cond.methodLink "SlotMatModel" (387 : Nat) ({ cls := "SlotMatModel", name := "isWhat", desc := "(II)Z" } : Jvm.MethodName)) ∈ am_WT := am_wt (am_mt 1918 (by decide +kernel)) rfl
theorem w_1920 : (Jvm.Cond.instanceMethod ({ cls := "SlotMatModel", name := "isWhat", desc := "(II)Z" } : Jvm.MethodName)) ∈ am_WT := am_wt (am_mt 1920 (by decide +kernel)) rfl
theorem w_1921 : (Jvm.Cond.code ({ cls := "SlotMatModel", name := "isWhat", desc := "(II)Z" } : Jvm.MethodName) prog_12_method_69_code (3 : Nat) (Option.some Jvm.ClassFile.FieldType.boolean)) ∈ am_WT := am_wt (am_mt 1921 (by decide +kernel)) rfl
theorem w_1922 : (Jvm.Cond.methodLink "SlotMatModel" (391 : Nat) ({ cls := "SlotMatModel", name := "nearBy", desc := "(I)I" } : Jvm.MethodName)) ∈ am_WT := am_wt (am_mt 1922 (by decide +kernel)) rfl
theorem w_1924 : (Jvm.Cond.instanceMethod ({ cls := "SlotMatModel", name := "nearBy", desc := "(I)I" } : Jvm.MethodName)) ∈ am_WT := am_wt (am_mt 1924 (by decide +kernel)) rfl
theorem w_1925 : (Jvm.Cond.code ({ cls := "SlotMatModel", name := "nearBy", desc := "(I)I" } : Jvm.MethodName) prog_12_method_71_code (4 : Nat) (Option.some Jvm.ClassFile.FieldType.int)) ∈ am_WT := am_wt (am_mt 1925 (by decide +kernel)) rfl
theorem w_1926 : (Jvm.Cond.methodLink "SlotMatModel" (336 : Nat) ({ cls := "SlotMatModel", name := "boxOf", desc := "(I)I" } : Jvm.MethodName)) ∈ am_WT := am_wt (am_mt 1926 (by decide +kernel)) rfl
theorem w_1928 : (Jvm.Cond.instanceMethod ({ cls := "SlotMatModel", name := "boxOf", desc := "(I)I" } : Jvm.MethodName)) ∈ am_WT := am_wt (am_mt 1928 (by decide +kernel)) rfl
theorem w_1929 : (Jvm.Cond.code ({ cls := "SlotMatModel", name := "boxOf", desc := "(I)I" } : Jvm.MethodName) prog_12_method_51_code (4 : Nat) (Option.some Jvm.ClassFile.FieldType.int)) ∈ am_WT := am_wt (am_mt 1929 (by decide +kernel)) rfl
theorem w_1930 : (Jvm.Cond.methodLink "SlotMatModel" (318 : Nat) ({ cls := "SlotMatModel", name := "off", desc := "(II)I" } : Jvm.MethodName)) ∈ am_WT := am_wt (am_mt 1930 (by decide +kernel)) rfl
theorem w_1931 : (Jvm.Cond.static ({ cls := "SlotMatModel", name := "off", desc := "(II)I" } : Jvm.MethodName)) ∈ am_WT := am_wt (am_mt 1931 (by decide +kernel)) rfl
theorem w_1932 : (Jvm.Cond.code ({ cls := "SlotMatModel", name := "off", desc := "(II)I" } : Jvm.MethodName) prog_12_method_7_code (2 : Nat) (Option.some Jvm.ClassFile.FieldType.int)) ∈ am_WT := am_wt (am_mt 1932 (by decide +kernel)) rfl
theorem w_1933 : (Jvm.Cond.methodLink "SlotMatModel" (394 : Nat) ({ cls := "SlotMatModel", name := "farthest", desc := "(I)I" } : Jvm.MethodName)) ∈ am_WT := am_wt (am_mt 1933 (by decide +kernel)) rfl
theorem w_1935 : (Jvm.Cond.instanceMethod ({ cls := "SlotMatModel", name := "farthest", desc := "(I)I" } : Jvm.MethodName)) ∈ am_WT := am_wt (am_mt 1935 (by decide +kernel)) rfl
theorem w_1936 : (Jvm.Cond.code ({ cls := "SlotMatModel", name := "farthest", desc := "(I)I" } : Jvm.MethodName) prog_12_method_72_code (4 : Nat) (Option.some Jvm.ClassFile.FieldType.int)) ∈ am_WT := am_wt (am_mt 1936 (by decide +kernel)) rfl
theorem w_1937 : (Jvm.Cond.methodLink "SlotMatLaw" (142 : Nat) ({ cls := "SlotMatModel", name := "person", desc := "(II)I" } : Jvm.MethodName)) ∈ am_WT := am_wt (am_mt 1937 (by decide +kernel)) rfl
theorem w_1938 : (Jvm.Cond.instanceMethod ({ cls := "SlotMatModel", name := "person", desc := "(II)I" } : Jvm.MethodName)) ∈ am_WT := am_wt (am_mt 1938 (by decide +kernel)) rfl
theorem w_1939 : (Jvm.Cond.selects "SlotMatModel" ({ cls := "SlotMatModel", name := "person", desc := "(II)I" } : Jvm.MethodName) ({ cls := "SlotMatModel", name := "person", desc := "(II)I" } : Jvm.MethodName)) ∈ am_WT := am_wt (am_mt 1939 (by decide +kernel)) rfl
theorem w_1940 : (Jvm.Cond.code ({ cls := "SlotMatModel", name := "person", desc := "(II)I" } : Jvm.MethodName) prog_12_method_74_code (3 : Nat) (Option.some Jvm.ClassFile.FieldType.int)) ∈ am_WT := am_wt (am_mt 1940 (by decide +kernel)) rfl
theorem w_1941 : (Jvm.Cond.methodLink "SlotMatModel" (397 : Nat) ({ cls := "SlotMatModel", name := "isPerson", desc := "(I)Z" } : Jvm.MethodName)) ∈ am_WT := am_wt (am_mt 1941 (by decide +kernel)) rfl
theorem w_1943 : (Jvm.Cond.instanceMethod ({ cls := "SlotMatModel", name := "isPerson", desc := "(I)Z" } : Jvm.MethodName)) ∈ am_WT := am_wt (am_mt 1943 (by decide +kernel)) rfl
theorem w_1944 : (Jvm.Cond.code ({ cls := "SlotMatModel", name := "isPerson", desc := "(I)Z" } : Jvm.MethodName) prog_12_method_68_code (2 : Nat) (Option.some Jvm.ClassFile.FieldType.boolean)) ∈ am_WT := am_wt (am_mt 1944 (by decide +kernel)) rfl
theorem w_1945 : (Jvm.Cond.methodLink "SlotMatLaw" (145 : Nat) ({ cls := "SlotMatModel", name := "held", desc := "(II)I" } : Jvm.MethodName)) ∈ am_WT := am_wt (am_mt 1945 (by decide +kernel)) rfl
theorem w_1946 : (Jvm.Cond.instanceMethod ({ cls := "SlotMatModel", name := "held", desc := "(II)I" } : Jvm.MethodName)) ∈ am_WT := am_wt (am_mt 1946 (by decide +kernel)) rfl
theorem w_1947 : (Jvm.Cond.selects "SlotMatModel" ({ cls := "SlotMatModel", name := "held", desc := "(II)I" } : Jvm.MethodName) ({ cls := "SlotMatModel", name := "held", desc := "(II)I" } : Jvm.MethodName)) ∈ am_WT := am_wt (am_mt 1947 (by decide +kernel)) rfl
theorem w_1948 : (Jvm.Cond.code ({ cls := "SlotMatModel", name := "held", desc := "(II)I" } : Jvm.MethodName) prog_12_method_75_code (3 : Nat) (Option.some Jvm.ClassFile.FieldType.int)) ∈ am_WT := am_wt (am_mt 1948 (by decide +kernel)) rfl
theorem w_1949 : (Jvm.Cond.methodLink "SlotMatLaw" (149 : Nat) ({ cls := "SlotMatModel", name := "days", desc := "(I)I" } : Jvm.MethodName)) ∈ am_WT := am_wt (am_mt 1949 (by decide +kernel)) rfl
theorem w_1950 : (Jvm.Cond.instanceMethod ({ cls := "SlotMatModel", name := "days", desc := "(I)I" } : Jvm.MethodName)) ∈ am_WT := am_wt (am_mt 1950 (by decide +kernel)) rfl
theorem w_1951 : (Jvm.Cond.selects "SlotMatModel" ({ cls := "SlotMatModel", name := "days", desc := "(I)I" } : Jvm.MethodName) ({ cls := "SlotMatModel", name := "days", desc := "(I)I" } : Jvm.MethodName)) ∈ am_WT := am_wt (am_mt 1951 (by decide +kernel)) rfl
theorem w_1952 : (Jvm.Cond.code ({ cls := "SlotMatModel", name := "days", desc := "(I)I" } : Jvm.MethodName) prog_12_method_76_code (3 : Nat) (Option.some Jvm.ClassFile.FieldType.int)) ∈ am_WT := am_wt (am_mt 1952 (by decide +kernel)) rfl
theorem w_1953 : (Jvm.Cond.methodLink "SlotMatModel" (400 : Nat) ({ cls := "SlotMatModel", name := "refuses", desc := "(I)I" } : Jvm.MethodName)) ∈ am_WT := am_wt (am_mt 1953 (by decide +kernel)) rfl
theorem w_1955 : (Jvm.Cond.instanceMethod ({ cls := "SlotMatModel", name := "refuses", desc := "(I)I" } : Jvm.MethodName)) ∈ am_WT := am_wt (am_mt 1955 (by decide +kernel)) rfl
theorem w_1956 : (Jvm.Cond.code ({ cls := "SlotMatModel", name := "refuses", desc := "(I)I" } : Jvm.MethodName) prog_12_method_44_code (2 : Nat) (Option.some Jvm.ClassFile.FieldType.int)) ∈ am_WT := am_wt (am_mt 1956 (by decide +kernel)) rfl
theorem w_1957 : (Jvm.Cond.methodLink "SlotMatModel" (403 : Nat) ({ cls := "SlotMatModel", name := "keeps", desc := "()V" } : Jvm.MethodName)) ∈ am_WT := am_wt (am_mt 1957 (by decide +kernel)) rfl
theorem w_1959 : (Jvm.Cond.instanceMethod ({ cls := "SlotMatModel", name := "keeps", desc := "()V" } : Jvm.MethodName)) ∈ am_WT := am_wt (am_mt 1959 (by decide +kernel)) rfl
theorem w_1960 : (Jvm.Cond.code ({ cls := "SlotMatModel", name := "keeps", desc := "()V" } : Jvm.MethodName) prog_12_method_43_code (2 : Nat) (Option.none : Option Jvm.ClassFile.FieldType)) ∈ am_WT := am_wt (am_mt 1960 (by decide +kernel)) rfl
theorem w_1961 : (Jvm.Cond.methodLink "SlotMatModel" (362 : Nat) ({ cls := "SlotMatModel", name := "dayGoes", desc := "(I)V" } : Jvm.MethodName)) ∈ am_WT := am_wt (am_mt 1961 (by decide +kernel)) rfl
theorem w_1963 : (Jvm.Cond.instanceMethod ({ cls := "SlotMatModel", name := "dayGoes", desc := "(I)V" } : Jvm.MethodName)) ∈ am_WT := am_wt (am_mt 1963 (by decide +kernel)) rfl
theorem w_1964 : (Jvm.Cond.code ({ cls := "SlotMatModel", name := "dayGoes", desc := "(I)V" } : Jvm.MethodName) prog_12_method_61_code (4 : Nat) (Option.none : Option Jvm.ClassFile.FieldType)) ∈ am_WT := am_wt (am_mt 1964 (by decide +kernel)) rfl
theorem w_1965 : (Jvm.Cond.methodLink "SlotMatModel" (353 : Nat) ({ cls := "SlotMatModel", name := "thinks", desc := "(II)V" } : Jvm.MethodName)) ∈ am_WT := am_wt (am_mt 1965 (by decide +kernel)) rfl
theorem w_1967 : (Jvm.Cond.instanceMethod ({ cls := "SlotMatModel", name := "thinks", desc := "(II)V" } : Jvm.MethodName)) ∈ am_WT := am_wt (am_mt 1967 (by decide +kernel)) rfl
theorem w_1968 : (Jvm.Cond.code ({ cls := "SlotMatModel", name := "thinks", desc := "(II)V" } : Jvm.MethodName) prog_12_method_59_code (5 : Nat) (Option.none : Option Jvm.ClassFile.FieldType)) ∈ am_WT := am_wt (am_mt 1968 (by decide +kernel)) rfl
theorem w_1969 : (Jvm.Cond.methodLink "SlotMatModel" (339 : Nat) ({ cls := "SlotMatModel", name := "thinksInto", desc := "(III)I" } : Jvm.MethodName)) ∈ am_WT := am_wt (am_mt 1969 (by decide +kernel)) rfl
theorem w_1971 : (Jvm.Cond.instanceMethod ({ cls := "SlotMatModel", name := "thinksInto", desc := "(III)I" } : Jvm.MethodName)) ∈ am_WT := am_wt (am_mt 1971 (by decide +kernel)) rfl
theorem w_1972 : (Jvm.Cond.code ({ cls := "SlotMatModel", name := "thinksInto", desc := "(III)I" } : Jvm.MethodName) prog_12_method_56_code (4 : Nat) (Option.some Jvm.ClassFile.FieldType.int)) ∈ am_WT := am_wt (am_mt 1972 (by decide +kernel)) rfl
theorem w_1973 : (Jvm.Cond.methodLink "SlotMatModel" (324 : Nat) ({ cls := "SlotMatModel", name := "reckons", desc := "(I)I" } : Jvm.MethodName)) ∈ am_WT := am_wt (am_mt 1973 (by decide +kernel)) rfl
theorem w_1975 : (Jvm.Cond.instanceMethod ({ cls := "SlotMatModel", name := "reckons", desc := "(I)I" } : Jvm.MethodName)) ∈ am_WT := am_wt (am_mt 1975 (by decide +kernel)) rfl
theorem w_1976 : (Jvm.Cond.code ({ cls := "SlotMatModel", name := "reckons", desc := "(I)I" } : Jvm.MethodName) prog_12_method_48_code (5 : Nat) (Option.some Jvm.ClassFile.FieldType.int)) ∈ am_WT := am_wt (am_mt 1976 (by decide +kernel)) rfl
theorem w_1977 : (Jvm.Cond.methodLink "SlotMatModel" (311 : Nat) ({ cls := "SlotMatModel", name := "works", desc := "(III)I" } : Jvm.MethodName)) ∈ am_WT := am_wt (am_mt 1977 (by decide +kernel)) rfl
theorem w_1978 : (Jvm.Cond.static ({ cls := "SlotMatModel", name := "works", desc := "(III)I" } : Jvm.MethodName)) ∈ am_WT := am_wt (am_mt 1978 (by decide +kernel)) rfl
theorem w_1979 : (Jvm.Cond.code ({ cls := "SlotMatModel", name := "works", desc := "(III)I" } : Jvm.MethodName) prog_12_method_47_code (3 : Nat) (Option.some Jvm.ClassFile.FieldType.int)) ∈ am_WT := am_wt (am_mt 1979 (by decide +kernel)) rfl
theorem w_1980 : (Jvm.Cond.methodLink "SlotMatModel" (327 : Nat) ({ cls := "SlotMatModel", name := "bounded", desc := "(III)I" } : Jvm.MethodName)) ∈ am_WT := am_wt (am_mt 1980 (by decide +kernel)) rfl
theorem w_1981 : (Jvm.Cond.static ({ cls := "SlotMatModel", name := "bounded", desc := "(III)I" } : Jvm.MethodName)) ∈ am_WT := am_wt (am_mt 1981 (by decide +kernel)) rfl
theorem w_1982 : (Jvm.Cond.code ({ cls := "SlotMatModel", name := "bounded", desc := "(III)I" } : Jvm.MethodName) prog_12_method_5_code (3 : Nat) (Option.some Jvm.ClassFile.FieldType.int)) ∈ am_WT := am_wt (am_mt 1982 (by decide +kernel)) rfl
theorem w_1983 : (Jvm.Cond.methodLink "SlotMatModel" (333 : Nat) ({ cls := "SlotMatModel", name := "lesser", desc := "(II)I" } : Jvm.MethodName)) ∈ am_WT := am_wt (am_mt 1983 (by decide +kernel)) rfl
theorem w_1984 : (Jvm.Cond.static ({ cls := "SlotMatModel", name := "lesser", desc := "(II)I" } : Jvm.MethodName)) ∈ am_WT := am_wt (am_mt 1984 (by decide +kernel)) rfl
theorem w_1985 : (Jvm.Cond.code ({ cls := "SlotMatModel", name := "lesser", desc := "(II)I" } : Jvm.MethodName) prog_12_method_6_code (2 : Nat) (Option.some Jvm.ClassFile.FieldType.int)) ∈ am_WT := am_wt (am_mt 1985 (by decide +kernel)) rfl
theorem w_1986 : (Jvm.Cond.methodLink "SlotMatModel" (359 : Nat) ({ cls := "SlotMatModel", name := "fetches", desc := "(II)V" } : Jvm.MethodName)) ∈ am_WT := am_wt (am_mt 1986 (by decide +kernel)) rfl
theorem w_1988 : (Jvm.Cond.instanceMethod ({ cls := "SlotMatModel", name := "fetches", desc := "(II)V" } : Jvm.MethodName)) ∈ am_WT := am_wt (am_mt 1988 (by decide +kernel)) rfl
theorem w_1989 : (Jvm.Cond.code ({ cls := "SlotMatModel", name := "fetches", desc := "(II)V" } : Jvm.MethodName) prog_12_method_60_code (6 : Nat) (Option.none : Option Jvm.ClassFile.FieldType)) ∈ am_WT := am_wt (am_mt 1989 (by decide +kernel)) rfl
theorem w_1990 : (Jvm.Cond.methodLink "SlotMatModel" (342 : Nat) ({ cls := "SlotMatModel", name := "soundsBy", desc := "(IIII)I" } : Jvm.MethodName)) ∈ am_WT := am_wt (am_mt 1990 (by decide +kernel)) rfl
theorem w_1992 : (Jvm.Cond.instanceMethod ({ cls := "SlotMatModel", name := "soundsBy", desc := "(IIII)I" } : Jvm.MethodName)) ∈ am_WT := am_wt (am_mt 1992 (by decide +kernel)) rfl
theorem w_1993 : (Jvm.Cond.code ({ cls := "SlotMatModel", name := "soundsBy", desc := "(IIII)I" } : Jvm.MethodName) prog_12_method_57_code (6 : Nat) (Option.some Jvm.ClassFile.FieldType.int)) ∈ am_WT := am_wt (am_mt 1993 (by decide +kernel)) rfl
theorem w_1994 : (Jvm.Cond.methodLink "SlotMatModel" (346 : Nat) ({ cls := "SlotMatModel", name := "hears", desc := "(III)V" } : Jvm.MethodName)) ∈ am_WT := am_wt (am_mt 1994 (by decide +kernel)) rfl
theorem w_1996 : (Jvm.Cond.instanceMethod ({ cls := "SlotMatModel", name := "hears", desc := "(III)V" } : Jvm.MethodName)) ∈ am_WT := am_wt (am_mt 1996 (by decide +kernel)) rfl
theorem w_1997 : (Jvm.Cond.code ({ cls := "SlotMatModel", name := "hears", desc := "(III)V" } : Jvm.MethodName) prog_12_method_58_code (4 : Nat) (Option.none : Option Jvm.ClassFile.FieldType)) ∈ am_WT := am_wt (am_mt 1997 (by decide +kernel)) rfl
theorem w_1998 : (Jvm.Cond.methodLink "SlotMatLaw" (152 : Nat) ({ cls := "SlotMatModel", name := "write", desc := "(I)I" } : Jvm.MethodName)) ∈ am_WT := am_wt (am_mt 1998 (by decide +kernel)) rfl
theorem w_1999 : (Jvm.Cond.instanceMethod ({ cls := "SlotMatModel", name := "write", desc := "(I)I" } : Jvm.MethodName)) ∈ am_WT := am_wt (am_mt 1999 (by decide +kernel)) rfl
theorem w_2000 : (Jvm.Cond.selects "SlotMatModel" ({ cls := "SlotMatModel", name := "write", desc := "(I)I" } : Jvm.MethodName) ({ cls := "SlotMatModel", name := "write", desc := "(I)I" } : Jvm.MethodName)) ∈ am_WT := am_wt (am_mt 2000 (by decide +kernel)) rfl
theorem w_2001 : (Jvm.Cond.code ({ cls := "SlotMatModel", name := "write", desc := "(I)I" } : Jvm.MethodName) prog_12_method_78_code (2 : Nat) (Option.some Jvm.ClassFile.FieldType.int)) ∈ am_WT := am_wt (am_mt 2001 (by decide +kernel)) rfl
theorem w_2002 : (Jvm.Cond.methodLink "SlotMatModel" (409 : Nat) ({ cls := "SlotMatModel", name := "writes", desc := "(II)V" } : Jvm.MethodName)) ∈ am_WT := am_wt (am_mt 2002 (by decide +kernel)) rfl
theorem w_2004 : (Jvm.Cond.instanceMethod ({ cls := "SlotMatModel", name := "writes", desc := "(II)V" } : Jvm.MethodName)) ∈ am_WT := am_wt (am_mt 2004 (by decide +kernel)) rfl
theorem w_2005 : (Jvm.Cond.code ({ cls := "SlotMatModel", name := "writes", desc := "(II)V" } : Jvm.MethodName) prog_12_method_77_code (4 : Nat) (Option.none : Option Jvm.ClassFile.FieldType)) ∈ am_WT := am_wt (am_mt 2005 (by decide +kernel)) rfl
theorem w_2006 : (Jvm.Cond.methodLink "SlotMatModel" (406 : Nat) ({ cls := "SlotMatModel", name := "heldOf", desc := "(II)I" } : Jvm.MethodName)) ∈ am_WT := am_wt (am_mt 2006 (by decide +kernel)) rfl
theorem w_2008 : (Jvm.Cond.instanceMethod ({ cls := "SlotMatModel", name := "heldOf", desc := "(II)I" } : Jvm.MethodName)) ∈ am_WT := am_wt (am_mt 2008 (by decide +kernel)) rfl
theorem w_2009 : (Jvm.Cond.code ({ cls := "SlotMatModel", name := "heldOf", desc := "(II)I" } : Jvm.MethodName) prog_12_method_53_code (5 : Nat) (Option.some Jvm.ClassFile.FieldType.int)) ∈ am_WT := am_wt (am_mt 2009 (by decide +kernel)) rfl
theorem w_2010 : (Jvm.Cond.methodLink "SlotMatLaw" (155 : Nat) ({ cls := "SlotMatModel", name := "paint", desc := "(I)I" } : Jvm.MethodName)) ∈ am_WT := am_wt (am_mt 2010 (by decide +kernel)) rfl
theorem w_2011 : (Jvm.Cond.instanceMethod ({ cls := "SlotMatModel", name := "paint", desc := "(I)I" } : Jvm.MethodName)) ∈ am_WT := am_wt (am_mt 2011 (by decide +kernel)) rfl
theorem w_2012 : (Jvm.Cond.selects "SlotMatModel" ({ cls := "SlotMatModel", name := "paint", desc := "(I)I" } : Jvm.MethodName) ({ cls := "SlotMatModel", name := "paint", desc := "(I)I" } : Jvm.MethodName)) ∈ am_WT := am_wt (am_mt 2012 (by decide +kernel)) rfl
theorem w_2013 : (Jvm.Cond.code ({ cls := "SlotMatModel", name := "paint", desc := "(I)I" } : Jvm.MethodName) prog_12_method_79_code (3 : Nat) (Option.some Jvm.ClassFile.FieldType.int)) ∈ am_WT := am_wt (am_mt 2013 (by decide +kernel)) rfl
theorem w_2014 : (Jvm.Cond.methodLink "SlotMatLaw" (158 : Nat) ({ cls := "SlotMatModel", name := "turn", desc := "(II)I" } : Jvm.MethodName)) ∈ am_WT := am_wt (am_mt 2014 (by decide +kernel)) rfl
theorem w_2015 : (Jvm.Cond.instanceMethod ({ cls := "SlotMatModel", name := "turn", desc := "(II)I" } : Jvm.MethodName)) ∈ am_WT := am_wt (am_mt 2015 (by decide +kernel)) rfl
theorem w_2016 : (Jvm.Cond.selects "SlotMatModel" ({ cls := "SlotMatModel", name := "turn", desc := "(II)I" } : Jvm.MethodName) ({ cls := "SlotMatModel", name := "turn", desc := "(II)I" } : Jvm.MethodName)) ∈ am_WT := am_wt (am_mt 2016 (by decide +kernel)) rfl
theorem w_2017 : (Jvm.Cond.code ({ cls := "SlotMatModel", name := "turn", desc := "(II)I" } : Jvm.MethodName) prog_12_method_80_code (4 : Nat) (Option.some Jvm.ClassFile.FieldType.int)) ∈ am_WT := am_wt (am_mt 2017 (by decide +kernel)) rfl
theorem w_2018 : (Jvm.Cond.methodLink "SlotMatLaw" (163 : Nat) ({ cls := "SlotMatModel", name := "strike", desc := "(Z)Z" } : Jvm.MethodName)) ∈ am_WT := am_wt (am_mt 2018 (by decide +kernel)) rfl
theorem w_2019 : (Jvm.Cond.instanceMethod ({ cls := "SlotMatModel", name := "strike", desc := "(Z)Z" } : Jvm.MethodName)) ∈ am_WT := am_wt (am_mt 2019 (by decide +kernel)) rfl
theorem w_2020 : (Jvm.Cond.selects "SlotMatModel" ({ cls := "SlotMatModel", name := "strike", desc := "(Z)Z" } : Jvm.MethodName) ({ cls := "SlotMatModel", name := "strike", desc := "(Z)Z" } : Jvm.MethodName)) ∈ am_WT := am_wt (am_mt 2020 (by decide +kernel)) rfl
theorem w_2021 : (Jvm.Cond.code ({ cls := "SlotMatModel", name := "strike", desc := "(Z)Z" } : Jvm.MethodName) prog_12_method_81_code (2 : Nat) (Option.some Jvm.ClassFile.FieldType.boolean)) ∈ am_WT := am_wt (am_mt 2021 (by decide +kernel)) rfl
theorem w_2022 : (Jvm.Cond.methodLink "SlotMatLaw" (171 : Nat) ({ cls := "SlotMatModel", name := "then", desc := "(III)I" } : Jvm.MethodName)) ∈ am_WT := am_wt (am_mt 2022 (by decide +kernel)) rfl
theorem w_2023 : (Jvm.Cond.instanceMethod ({ cls := "SlotMatModel", name := "then", desc := "(III)I" } : Jvm.MethodName)) ∈ am_WT := am_wt (am_mt 2023 (by decide +kernel)) rfl
theorem w_2024 : (Jvm.Cond.selects "SlotMatModel" ({ cls := "SlotMatModel", name := "then", desc := "(III)I" } : Jvm.MethodName) ({ cls := "SlotMatModel", name := "then", desc := "(III)I" } : Jvm.MethodName)) ∈ am_WT := am_wt (am_mt 2024 (by decide +kernel)) rfl
theorem w_2025 : (Jvm.Cond.code ({ cls := "SlotMatModel", name := "then", desc := "(III)I" } : Jvm.MethodName) prog_12_method_83_code (4 : Nat) (Option.some Jvm.ClassFile.FieldType.int)) ∈ am_WT := am_wt (am_mt 2025 (by decide +kernel)) rfl
theorem w_2026 : (Jvm.Cond.methodLink "SlotMatModel" (418 : Nat) ({ cls := "SlotMatModel", name := "isDays", desc := "(III)Z" } : Jvm.MethodName)) ∈ am_WT := am_wt (am_mt 2026 (by decide +kernel)) rfl
theorem w_2028 : (Jvm.Cond.instanceMethod ({ cls := "SlotMatModel", name := "isDays", desc := "(III)Z" } : Jvm.MethodName)) ∈ am_WT := am_wt (am_mt 2028 (by decide +kernel)) rfl
theorem w_2029 : (Jvm.Cond.code ({ cls := "SlotMatModel", name := "isDays", desc := "(III)Z" } : Jvm.MethodName) prog_12_method_70_code (4 : Nat) (Option.some Jvm.ClassFile.FieldType.boolean)) ∈ am_WT := am_wt (am_mt 2029 (by decide +kernel)) rfl
theorem w_2030 : (Jvm.Cond.methodLink "SlotMatModel" (421 : Nat) ({ cls := "SlotMatModel", name := "goesTo", desc := "(I)V" } : Jvm.MethodName)) ∈ am_WT := am_wt (am_mt 2030 (by decide +kernel)) rfl
theorem w_2032 : (Jvm.Cond.instanceMethod ({ cls := "SlotMatModel", name := "goesTo", desc := "(I)V" } : Jvm.MethodName)) ∈ am_WT := am_wt (am_mt 2032 (by decide +kernel)) rfl
theorem w_2033 : (Jvm.Cond.code ({ cls := "SlotMatModel", name := "goesTo", desc := "(I)V" } : Jvm.MethodName) prog_12_method_82_code (2 : Nat) (Option.none : Option Jvm.ClassFile.FieldType)) ∈ am_WT := am_wt (am_mt 2033 (by decide +kernel)) rfl
theorem w_2034 : (Jvm.Cond.methodLink "SlotMatModel" (412 : Nat) ({ cls := "SlotMatModel", name := "tries", desc := "()V" } : Jvm.MethodName)) ∈ am_WT := am_wt (am_mt 2034 (by decide +kernel)) rfl
theorem w_2036 : (Jvm.Cond.instanceMethod ({ cls := "SlotMatModel", name := "tries", desc := "()V" } : Jvm.MethodName)) ∈ am_WT := am_wt (am_mt 2036 (by decide +kernel)) rfl
theorem w_2037 : (Jvm.Cond.code ({ cls := "SlotMatModel", name := "tries", desc := "()V" } : Jvm.MethodName) prog_12_method_46_code (2 : Nat) (Option.none : Option Jvm.ClassFile.FieldType)) ∈ am_WT := am_wt (am_mt 2037 (by decide +kernel)) rfl
theorem w_2038 : (Jvm.Cond.methodLink "SlotMatModel" (415 : Nat) ({ cls := "SlotMatModel", name := "daysGo", desc := "(I)V" } : Jvm.MethodName)) ∈ am_WT := am_wt (am_mt 2038 (by decide +kernel)) rfl
theorem w_2040 : (Jvm.Cond.instanceMethod ({ cls := "SlotMatModel", name := "daysGo", desc := "(I)V" } : Jvm.MethodName)) ∈ am_WT := am_wt (am_mt 2040 (by decide +kernel)) rfl
theorem w_2041 : (Jvm.Cond.code ({ cls := "SlotMatModel", name := "daysGo", desc := "(I)V" } : Jvm.MethodName) prog_12_method_62_code (3 : Nat) (Option.none : Option Jvm.ClassFile.FieldType)) ∈ am_WT := am_wt (am_mt 2041 (by decide +kernel)) rfl
theorem w_2042 : (Jvm.Cond.methodLink "SlotMatLaw" (174 : Nat) ({ cls := "SlotMatModel", name := "later", desc := "(III)I" } : Jvm.MethodName)) ∈ am_WT := am_wt (am_mt 2042 (by decide +kernel)) rfl
theorem w_2043 : (Jvm.Cond.instanceMethod ({ cls := "SlotMatModel", name := "later", desc := "(III)I" } : Jvm.MethodName)) ∈ am_WT := am_wt (am_mt 2043 (by decide +kernel)) rfl
theorem w_2044 : (Jvm.Cond.selects "SlotMatModel" ({ cls := "SlotMatModel", name := "later", desc := "(III)I" } : Jvm.MethodName) ({ cls := "SlotMatModel", name := "later", desc := "(III)I" } : Jvm.MethodName)) ∈ am_WT := am_wt (am_mt 2044 (by decide +kernel)) rfl
theorem w_2045 : (Jvm.Cond.code ({ cls := "SlotMatModel", name := "later", desc := "(III)I" } : Jvm.MethodName) prog_12_method_84_code (4 : Nat) (Option.some Jvm.ClassFile.FieldType.int)) ∈ am_WT := am_wt (am_mt 2045 (by decide +kernel)) rfl
theorem w_2046 : (Jvm.Cond.methodLink "SlotMatLaw" (177 : Nat) ({ cls := "SlotMatModel", name := "first", desc := "(I)I" } : Jvm.MethodName)) ∈ am_WT := am_wt (am_mt 2046 (by decide +kernel)) rfl
theorem w_2047 : (Jvm.Cond.instanceMethod ({ cls := "SlotMatModel", name := "first", desc := "(I)I" } : Jvm.MethodName)) ∈ am_WT := am_wt (am_mt 2047 (by decide +kernel)) rfl
theorem w_2048 : (Jvm.Cond.selects "SlotMatModel" ({ cls := "SlotMatModel", name := "first", desc := "(I)I" } : Jvm.MethodName) ({ cls := "SlotMatModel", name := "first", desc := "(I)I" } : Jvm.MethodName)) ∈ am_WT := am_wt (am_mt 2048 (by decide +kernel)) rfl
theorem w_2049 : (Jvm.Cond.code ({ cls := "SlotMatModel", name := "first", desc := "(I)I" } : Jvm.MethodName) prog_12_method_85_code (3 : Nat) (Option.some Jvm.ClassFile.FieldType.int)) ∈ am_WT := am_wt (am_mt 2049 (by decide +kernel)) rfl
theorem w_2050 : (Jvm.Cond.methodLink "SlotMatLaw" (180 : Nat) ({ cls := "SlotMatModel", name := "full", desc := "(II)I" } : Jvm.MethodName)) ∈ am_WT := am_wt (am_mt 2050 (by decide +kernel)) rfl
theorem w_2051 : (Jvm.Cond.instanceMethod ({ cls := "SlotMatModel", name := "full", desc := "(II)I" } : Jvm.MethodName)) ∈ am_WT := am_wt (am_mt 2051 (by decide +kernel)) rfl
theorem w_2052 : (Jvm.Cond.selects "SlotMatModel" ({ cls := "SlotMatModel", name := "full", desc := "(II)I" } : Jvm.MethodName) ({ cls := "SlotMatModel", name := "full", desc := "(II)I" } : Jvm.MethodName)) ∈ am_WT := am_wt (am_mt 2052 (by decide +kernel)) rfl
theorem w_2053 : (Jvm.Cond.code ({ cls := "SlotMatModel", name := "full", desc := "(II)I" } : Jvm.MethodName) prog_12_method_86_code (4 : Nat) (Option.some Jvm.ClassFile.FieldType.int)) ∈ am_WT := am_wt (am_mt 2053 (by decide +kernel)) rfl
theorem w_2054 : (Jvm.Cond.methodLink "SlotMatLaw" (183 : Nat) ({ cls := "SlotMatModel", name := "most", desc := "(II)I" } : Jvm.MethodName)) ∈ am_WT := am_wt (am_mt 2054 (by decide +kernel)) rfl
theorem w_2055 : (Jvm.Cond.instanceMethod ({ cls := "SlotMatModel", name := "most", desc := "(II)I" } : Jvm.MethodName)) ∈ am_WT := am_wt (am_mt 2055 (by decide +kernel)) rfl
theorem w_2056 : (Jvm.Cond.selects "SlotMatModel" ({ cls := "SlotMatModel", name := "most", desc := "(II)I" } : Jvm.MethodName) ({ cls := "SlotMatModel", name := "most", desc := "(II)I" } : Jvm.MethodName)) ∈ am_WT := am_wt (am_mt 2056 (by decide +kernel)) rfl
theorem w_2057 : (Jvm.Cond.code ({ cls := "SlotMatModel", name := "most", desc := "(II)I" } : Jvm.MethodName) prog_12_method_90_code (5 : Nat) (Option.some Jvm.ClassFile.FieldType.int)) ∈ am_WT := am_wt (am_mt 2057 (by decide +kernel)) rfl
theorem w_2058 : (Jvm.Cond.methodLink "SlotMatModel" (424 : Nat) ({ cls := "SlotMatModel", name := "fullest", desc := "()I" } : Jvm.MethodName)) ∈ am_WT := am_wt (am_mt 2058 (by decide +kernel)) rfl
theorem w_2060 : (Jvm.Cond.instanceMethod ({ cls := "SlotMatModel", name := "fullest", desc := "()I" } : Jvm.MethodName)) ∈ am_WT := am_wt (am_mt 2060 (by decide +kernel)) rfl
theorem w_2061 : (Jvm.Cond.code ({ cls := "SlotMatModel", name := "fullest", desc := "()I" } : Jvm.MethodName) prog_12_method_87_code (3 : Nat) (Option.some Jvm.ClassFile.FieldType.int)) ∈ am_WT := am_wt (am_mt 2061 (by decide +kernel)) rfl
theorem w_2062 : (Jvm.Cond.methodLink "SlotMatModel" (427 : Nat) ({ cls := "SlotMatModel", name := "mostOf", desc := "(I)I" } : Jvm.MethodName)) ∈ am_WT := am_wt (am_mt 2062 (by decide +kernel)) rfl
theorem w_2064 : (Jvm.Cond.instanceMethod ({ cls := "SlotMatModel", name := "mostOf", desc := "(I)I" } : Jvm.MethodName)) ∈ am_WT := am_wt (am_mt 2064 (by decide +kernel)) rfl
theorem w_2065 : (Jvm.Cond.code ({ cls := "SlotMatModel", name := "mostOf", desc := "(I)I" } : Jvm.MethodName) prog_12_method_88_code (4 : Nat) (Option.some Jvm.ClassFile.FieldType.int)) ∈ am_WT := am_wt (am_mt 2065 (by decide +kernel)) rfl
theorem w_2066 : (Jvm.Cond.methodLink "SlotMatModel" (430 : Nat) ({ cls := "SlotMatModel", name := "emptyOnes", desc := "()I" } : Jvm.MethodName)) ∈ am_WT := am_wt (am_mt 2066 (by decide +kernel)) rfl
theorem w_2068 : (Jvm.Cond.instanceMethod ({ cls := "SlotMatModel", name := "emptyOnes", desc := "()I" } : Jvm.MethodName)) ∈ am_WT := am_wt (am_mt 2068 (by decide +kernel)) rfl
theorem w_2069 : (Jvm.Cond.code ({ cls := "SlotMatModel", name := "emptyOnes", desc := "()I" } : Jvm.MethodName) prog_12_method_89_code (3 : Nat) (Option.some Jvm.ClassFile.FieldType.int)) ∈ am_WT := am_wt (am_mt 2069 (by decide +kernel)) rfl
theorem w_2070 : (Jvm.Cond.methodLink "SlotMatLaw" (224 : Nat) ({ cls := "SlotMatModel", name := "pale", desc := "(II)I" } : Jvm.MethodName)) ∈ am_WT := am_wt (am_mt 2070 (by decide +kernel)) rfl
theorem w_2071 : (Jvm.Cond.instanceMethod ({ cls := "SlotMatModel", name := "pale", desc := "(II)I" } : Jvm.MethodName)) ∈ am_WT := am_wt (am_mt 2071 (by decide +kernel)) rfl
theorem w_2072 : (Jvm.Cond.selects "SlotMatModel" ({ cls := "SlotMatModel", name := "pale", desc := "(II)I" } : Jvm.MethodName) ({ cls := "SlotMatModel", name := "pale", desc := "(II)I" } : Jvm.MethodName)) ∈ am_WT := am_wt (am_mt 2072 (by decide +kernel)) rfl
theorem w_2073 : (Jvm.Cond.code ({ cls := "SlotMatModel", name := "pale", desc := "(II)I" } : Jvm.MethodName) prog_12_method_91_code (4 : Nat) (Option.some Jvm.ClassFile.FieldType.int)) ∈ am_WT := am_wt (am_mt 2073 (by decide +kernel)) rfl
theorem w_2074 : (Jvm.Cond.methodLink "SlotMatLaw" (227 : Nat) ({ cls := "SlotMatModel", name := "visits", desc := "(II)I" } : Jvm.MethodName)) ∈ am_WT := am_wt (am_mt 2074 (by decide +kernel)) rfl
theorem w_2075 : (Jvm.Cond.instanceMethod ({ cls := "SlotMatModel", name := "visits", desc := "(II)I" } : Jvm.MethodName)) ∈ am_WT := am_wt (am_mt 2075 (by decide +kernel)) rfl
theorem w_2076 : (Jvm.Cond.selects "SlotMatModel" ({ cls := "SlotMatModel", name := "visits", desc := "(II)I" } : Jvm.MethodName) ({ cls := "SlotMatModel", name := "visits", desc := "(II)I" } : Jvm.MethodName)) ∈ am_WT := am_wt (am_mt 2076 (by decide +kernel)) rfl
theorem w_2077 : (Jvm.Cond.code ({ cls := "SlotMatModel", name := "visits", desc := "(II)I" } : Jvm.MethodName) prog_12_method_92_code (5 : Nat) (Option.some Jvm.ClassFile.FieldType.int)) ∈ am_WT := am_wt (am_mt 2077 (by decide +kernel)) rfl
theorem w_2078 : (Jvm.Cond.methodLink "SlotMatLaw" (243 : Nat) ({ cls := "SlotMatModel", name := "reds", desc := "(I)I" } : Jvm.MethodName)) ∈ am_WT := am_wt (am_mt 2078 (by decide +kernel)) rfl
theorem w_2079 : (Jvm.Cond.instanceMethod ({ cls := "SlotMatModel", name := "reds", desc := "(I)I" } : Jvm.MethodName)) ∈ am_WT := am_wt (am_mt 2079 (by decide +kernel)) rfl
theorem w_2080 : (Jvm.Cond.selects "SlotMatModel" ({ cls := "SlotMatModel", name := "reds", desc := "(I)I" } : Jvm.MethodName) ({ cls := "SlotMatModel", name := "reds", desc := "(I)I" } : Jvm.MethodName)) ∈ am_WT := am_wt (am_mt 2080 (by decide +kernel)) rfl
theorem w_2081 : (Jvm.Cond.code ({ cls := "SlotMatModel", name := "reds", desc := "(I)I" } : Jvm.MethodName) prog_12_method_93_code (4 : Nat) (Option.some Jvm.ClassFile.FieldType.int)) ∈ am_WT := am_wt (am_mt 2081 (by decide +kernel)) rfl
theorem w_2082 : (Jvm.Cond.methodLink "SlotMatLaw" (233 : Nat) ({ cls := "SlotMatModel", name := "quiet", desc := "(II)I" } : Jvm.MethodName)) ∈ am_WT := am_wt (am_mt 2082 (by decide +kernel)) rfl
theorem w_2083 : (Jvm.Cond.instanceMethod ({ cls := "SlotMatModel", name := "quiet", desc := "(II)I" } : Jvm.MethodName)) ∈ am_WT := am_wt (am_mt 2083 (by decide +kernel)) rfl
theorem w_2084 : (Jvm.Cond.selects "SlotMatModel" ({ cls := "SlotMatModel", name := "quiet", desc := "(II)I" } : Jvm.MethodName) ({ cls := "SlotMatModel", name := "quiet", desc := "(II)I" } : Jvm.MethodName)) ∈ am_WT := am_wt (am_mt 2084 (by decide +kernel)) rfl
theorem w_2085 : (Jvm.Cond.code ({ cls := "SlotMatModel", name := "quiet", desc := "(II)I" } : Jvm.MethodName) prog_12_method_94_code (7 : Nat) (Option.some Jvm.ClassFile.FieldType.int)) ∈ am_WT := am_wt (am_mt 2085 (by decide +kernel)) rfl
theorem w_2086 : (Jvm.Cond.methodLink "SlotMatLaw" (246 : Nat) ({ cls := "SlotMatModel", name := "whose", desc := "(I)I" } : Jvm.MethodName)) ∈ am_WT := am_wt (am_mt 2086 (by decide +kernel)) rfl
theorem w_2087 : (Jvm.Cond.instanceMethod ({ cls := "SlotMatModel", name := "whose", desc := "(I)I" } : Jvm.MethodName)) ∈ am_WT := am_wt (am_mt 2087 (by decide +kernel)) rfl
theorem w_2088 : (Jvm.Cond.selects "SlotMatModel" ({ cls := "SlotMatModel", name := "whose", desc := "(I)I" } : Jvm.MethodName) ({ cls := "SlotMatModel", name := "whose", desc := "(I)I" } : Jvm.MethodName)) ∈ am_WT := am_wt (am_mt 2088 (by decide +kernel)) rfl
theorem w_2089 : (Jvm.Cond.code ({ cls := "SlotMatModel", name := "whose", desc := "(I)I" } : Jvm.MethodName) prog_12_method_95_code (4 : Nat) (Option.some Jvm.ClassFile.FieldType.int)) ∈ am_WT := am_wt (am_mt 2089 (by decide +kernel)) rfl
theorem w_2090 : (Jvm.Cond.methodLink "SlotMatLaw" (186 : Nat) ({ cls := "SlotMatModel", name := "ring", desc := "(I)I" } : Jvm.MethodName)) ∈ am_WT := am_wt (am_mt 2090 (by decide +kernel)) rfl
theorem w_2091 : (Jvm.Cond.instanceMethod ({ cls := "SlotMatModel", name := "ring", desc := "(I)I" } : Jvm.MethodName)) ∈ am_WT := am_wt (am_mt 2091 (by decide +kernel)) rfl
theorem w_2092 : (Jvm.Cond.selects "SlotMatModel" ({ cls := "SlotMatModel", name := "ring", desc := "(I)I" } : Jvm.MethodName) ({ cls := "SlotMatModel", name := "ring", desc := "(I)I" } : Jvm.MethodName)) ∈ am_WT := am_wt (am_mt 2092 (by decide +kernel)) rfl
theorem w_2093 : (Jvm.Cond.code ({ cls := "SlotMatModel", name := "ring", desc := "(I)I" } : Jvm.MethodName) prog_12_method_97_code (3 : Nat) (Option.some Jvm.ClassFile.FieldType.int)) ∈ am_WT := am_wt (am_mt 2093 (by decide +kernel)) rfl
theorem w_2094 : (Jvm.Cond.methodLink "SlotMatModel" (433 : Nat) ({ cls := "SlotMatModel", name := "goesOnFrom", desc := "(I)I" } : Jvm.MethodName)) ∈ am_WT := am_wt (am_mt 2094 (by decide +kernel)) rfl
theorem w_2096 : (Jvm.Cond.instanceMethod ({ cls := "SlotMatModel", name := "goesOnFrom", desc := "(I)I" } : Jvm.MethodName)) ∈ am_WT := am_wt (am_mt 2096 (by decide +kernel)) rfl
theorem w_2097 : (Jvm.Cond.code ({ cls := "SlotMatModel", name := "goesOnFrom", desc := "(I)I" } : Jvm.MethodName) prog_12_method_96_code (4 : Nat) (Option.some Jvm.ClassFile.FieldType.int)) ∈ am_WT := am_wt (am_mt 2097 (by decide +kernel)) rfl
theorem w_2098 : (Jvm.Cond.methodLink "SlotMatLaw" (189 : Nat) ({ cls := "SlotMatModel", name := "comesTo", desc := "(I)I" } : Jvm.MethodName)) ∈ am_WT := am_wt (am_mt 2098 (by decide +kernel)) rfl
theorem w_2099 : (Jvm.Cond.instanceMethod ({ cls := "SlotMatModel", name := "comesTo", desc := "(I)I" } : Jvm.MethodName)) ∈ am_WT := am_wt (am_mt 2099 (by decide +kernel)) rfl
theorem w_2100 : (Jvm.Cond.selects "SlotMatModel" ({ cls := "SlotMatModel", name := "comesTo", desc := "(I)I" } : Jvm.MethodName) ({ cls := "SlotMatModel", name := "comesTo", desc := "(I)I" } : Jvm.MethodName)) ∈ am_WT := am_wt (am_mt 2100 (by decide +kernel)) rfl
theorem w_2101 : (Jvm.Cond.code ({ cls := "SlotMatModel", name := "comesTo", desc := "(I)I" } : Jvm.MethodName) prog_12_method_98_code (2 : Nat) (Option.some Jvm.ClassFile.FieldType.int)) ∈ am_WT := am_wt (am_mt 2101 (by decide +kernel)) rfl
theorem w_2102 : (Jvm.Cond.methodLink "SlotMatLaw" (230 : Nat) ({ cls := "SlotMatModel", name := "steps", desc := "(II)I" } : Jvm.MethodName)) ∈ am_WT := am_wt (am_mt 2102 (by decide +kernel)) rfl
theorem w_2103 : (Jvm.Cond.instanceMethod ({ cls := "SlotMatModel", name := "steps", desc := "(II)I" } : Jvm.MethodName)) ∈ am_WT := am_wt (am_mt 2103 (by decide +kernel)) rfl
theorem w_2104 : (Jvm.Cond.selects "SlotMatModel" ({ cls := "SlotMatModel", name := "steps", desc := "(II)I" } : Jvm.MethodName) ({ cls := "SlotMatModel", name := "steps", desc := "(II)I" } : Jvm.MethodName)) ∈ am_WT := am_wt (am_mt 2104 (by decide +kernel)) rfl
theorem w_2105 : (Jvm.Cond.code ({ cls := "SlotMatModel", name := "steps", desc := "(II)I" } : Jvm.MethodName) prog_12_method_99_code (5 : Nat) (Option.some Jvm.ClassFile.FieldType.int)) ∈ am_WT := am_wt (am_mt 2105 (by decide +kernel)) rfl
theorem w_2106 : (Jvm.Cond.methodLink "SlotMatLaw" (240 : Nat) ({ cls := "SlotMatModel", name := "bestAt", desc := "(II)I" } : Jvm.MethodName)) ∈ am_WT := am_wt (am_mt 2106 (by decide +kernel)) rfl
theorem w_2107 : (Jvm.Cond.instanceMethod ({ cls := "SlotMatModel", name := "bestAt", desc := "(II)I" } : Jvm.MethodName)) ∈ am_WT := am_wt (am_mt 2107 (by decide +kernel)) rfl
theorem w_2108 : (Jvm.Cond.selects "SlotMatModel" ({ cls := "SlotMatModel", name := "bestAt", desc := "(II)I" } : Jvm.MethodName) ({ cls := "SlotMatModel", name := "bestAt", desc := "(II)I" } : Jvm.MethodName)) ∈ am_WT := am_wt (am_mt 2108 (by decide +kernel)) rfl
theorem w_2109 : (Jvm.Cond.code ({ cls := "SlotMatModel", name := "bestAt", desc := "(II)I" } : Jvm.MethodName) prog_12_method_100_code (6 : Nat) (Option.some Jvm.ClassFile.FieldType.int)) ∈ am_WT := am_wt (am_mt 2109 (by decide +kernel)) rfl
theorem w_2110 : (Jvm.Cond.methodLink "SlotMatLaw" (192 : Nat) ({ cls := "SlotMatModel", name := "toCover", desc := "(I)I" } : Jvm.MethodName)) ∈ am_WT := am_wt (am_mt 2110 (by decide +kernel)) rfl
theorem w_2111 : (Jvm.Cond.instanceMethod ({ cls := "SlotMatModel", name := "toCover", desc := "(I)I" } : Jvm.MethodName)) ∈ am_WT := am_wt (am_mt 2111 (by decide +kernel)) rfl
theorem w_2112 : (Jvm.Cond.selects "SlotMatModel" ({ cls := "SlotMatModel", name := "toCover", desc := "(I)I" } : Jvm.MethodName) ({ cls := "SlotMatModel", name := "toCover", desc := "(I)I" } : Jvm.MethodName)) ∈ am_WT := am_wt (am_mt 2112 (by decide +kernel)) rfl
theorem w_2113 : (Jvm.Cond.code ({ cls := "SlotMatModel", name := "toCover", desc := "(I)I" } : Jvm.MethodName) prog_12_method_101_code (8 : Nat) (Option.some Jvm.ClassFile.FieldType.int)) ∈ am_WT := am_wt (am_mt 2113 (by decide +kernel)) rfl
theorem w_2114 : (Jvm.Cond.methodLink "SlotMatModel" (436 : Nat) ({ cls := "SlotMatModel", name := "bits", desc := "(I)I" } : Jvm.MethodName)) ∈ am_WT := am_wt (am_mt 2114 (by decide +kernel)) rfl
theorem w_2115 : (Jvm.Cond.static ({ cls := "SlotMatModel", name := "bits", desc := "(I)I" } : Jvm.MethodName)) ∈ am_WT := am_wt (am_mt 2115 (by decide +kernel)) rfl
theorem w_2116 : (Jvm.Cond.code ({ cls := "SlotMatModel", name := "bits", desc := "(I)I" } : Jvm.MethodName) prog_12_method_9_code (3 : Nat) (Option.some Jvm.ClassFile.FieldType.int)) ∈ am_WT := am_wt (am_mt 2116 (by decide +kernel)) rfl
theorem w_2117 : (Jvm.Cond.methodLink "SlotMatLaw" (195 : Nat) ({ cls := "SlotMatModel", name := "oneMore", desc := "(I)I" } : Jvm.MethodName)) ∈ am_WT := am_wt (am_mt 2117 (by decide +kernel)) rfl
theorem w_2118 : (Jvm.Cond.instanceMethod ({ cls := "SlotMatModel", name := "oneMore", desc := "(I)I" } : Jvm.MethodName)) ∈ am_WT := am_wt (am_mt 2118 (by decide +kernel)) rfl
theorem w_2119 : (Jvm.Cond.selects "SlotMatModel" ({ cls := "SlotMatModel", name := "oneMore", desc := "(I)I" } : Jvm.MethodName) ({ cls := "SlotMatModel", name := "oneMore", desc := "(I)I" } : Jvm.MethodName)) ∈ am_WT := am_wt (am_mt 2119 (by decide +kernel)) rfl
theorem w_2120 : (Jvm.Cond.code ({ cls := "SlotMatModel", name := "oneMore", desc := "(I)I" } : Jvm.MethodName) prog_12_method_104_code (3 : Nat) (Option.some Jvm.ClassFile.FieldType.int)) ∈ am_WT := am_wt (am_mt 2120 (by decide +kernel)) rfl
theorem w_2121 : (Jvm.Cond.methodLink "SlotMatModel" (443 : Nat) ({ cls := "SlotMatModel", name := "bestPlace", desc := "(Z)I" } : Jvm.MethodName)) ∈ am_WT := am_wt (am_mt 2121 (by decide +kernel)) rfl
theorem w_2123 : (Jvm.Cond.instanceMethod ({ cls := "SlotMatModel", name := "bestPlace", desc := "(Z)I" } : Jvm.MethodName)) ∈ am_WT := am_wt (am_mt 2123 (by decide +kernel)) rfl
theorem w_2124 : (Jvm.Cond.code ({ cls := "SlotMatModel", name := "bestPlace", desc := "(Z)I" } : Jvm.MethodName) prog_12_method_103_code (4 : Nat) (Option.some Jvm.ClassFile.FieldType.int)) ∈ am_WT := am_wt (am_mt 2124 (by decide +kernel)) rfl
theorem w_2125 : (Jvm.Cond.methodLink "SlotMatModel" (439 : Nat) ({ cls := "SlotMatModel", name := "waysTo", desc := "(IZ)I" } : Jvm.MethodName)) ∈ am_WT := am_wt (am_mt 2125 (by decide +kernel)) rfl
theorem w_2127 : (Jvm.Cond.instanceMethod ({ cls := "SlotMatModel", name := "waysTo", desc := "(IZ)I" } : Jvm.MethodName)) ∈ am_WT := am_wt (am_mt 2127 (by decide +kernel)) rfl
theorem w_2128 : (Jvm.Cond.code ({ cls := "SlotMatModel", name := "waysTo", desc := "(IZ)I" } : Jvm.MethodName) prog_12_method_102_code (6 : Nat) (Option.some Jvm.ClassFile.FieldType.int)) ∈ am_WT := am_wt (am_mt 2128 (by decide +kernel)) rfl
theorem w_2129 : (Jvm.Cond.methodLink "SlotMatLaw" (237 : Nat) ({ cls := "SlotMatModel", name := "middle", desc := "()I" } : Jvm.MethodName)) ∈ am_WT := am_wt (am_mt 2129 (by decide +kernel)) rfl
theorem w_2130 : (Jvm.Cond.instanceMethod ({ cls := "SlotMatModel", name := "middle", desc := "()I" } : Jvm.MethodName)) ∈ am_WT := am_wt (am_mt 2130 (by decide +kernel)) rfl
theorem w_2131 : (Jvm.Cond.selects "SlotMatModel" ({ cls := "SlotMatModel", name := "middle", desc := "()I" } : Jvm.MethodName) ({ cls := "SlotMatModel", name := "middle", desc := "()I" } : Jvm.MethodName)) ∈ am_WT := am_wt (am_mt 2131 (by decide +kernel)) rfl
theorem w_2132 : (Jvm.Cond.code ({ cls := "SlotMatModel", name := "middle", desc := "()I" } : Jvm.MethodName) prog_12_method_105_code (1 : Nat) (Option.some Jvm.ClassFile.FieldType.int)) ∈ am_WT := am_wt (am_mt 2132 (by decide +kernel)) rfl
theorem w_2133 : (Jvm.Cond.methodLink "SlotMatLaw" (198 : Nat) ({ cls := "SlotMatModel", name := "order", desc := "(I)I" } : Jvm.MethodName)) ∈ am_WT := am_wt (am_mt 2133 (by decide +kernel)) rfl
theorem w_2134 : (Jvm.Cond.instanceMethod ({ cls := "SlotMatModel", name := "order", desc := "(I)I" } : Jvm.MethodName)) ∈ am_WT := am_wt (am_mt 2134 (by decide +kernel)) rfl
theorem w_2135 : (Jvm.Cond.selects "SlotMatModel" ({ cls := "SlotMatModel", name := "order", desc := "(I)I" } : Jvm.MethodName) ({ cls := "SlotMatModel", name := "order", desc := "(I)I" } : Jvm.MethodName)) ∈ am_WT := am_wt (am_mt 2135 (by decide +kernel)) rfl
theorem w_2136 : (Jvm.Cond.code ({ cls := "SlotMatModel", name := "order", desc := "(I)I" } : Jvm.MethodName) prog_12_method_108_code (5 : Nat) (Option.some Jvm.ClassFile.FieldType.int)) ∈ am_WT := am_wt (am_mt 2136 (by decide +kernel)) rfl
theorem w_2137 : (Jvm.Cond.methodLink "SlotMatModel" (450 : Nat) ({ cls := "SlotMatModel", name := "nextOrder", desc := "()Z" } : Jvm.MethodName)) ∈ am_WT := am_wt (am_mt 2137 (by decide +kernel)) rfl
theorem w_2139 : (Jvm.Cond.instanceMethod ({ cls := "SlotMatModel", name := "nextOrder", desc := "()Z" } : Jvm.MethodName)) ∈ am_WT := am_wt (am_mt 2139 (by decide +kernel)) rfl
theorem w_2140 : (Jvm.Cond.code ({ cls := "SlotMatModel", name := "nextOrder", desc := "()Z" } : Jvm.MethodName) prog_12_method_107_code (4 : Nat) (Option.some Jvm.ClassFile.FieldType.boolean)) ∈ am_WT := am_wt (am_mt 2140 (by decide +kernel)) rfl
theorem w_2141 : (Jvm.Cond.methodLink "SlotMatModel" (447 : Nat) ({ cls := "SlotMatModel", name := "swaps", desc := "(II)V" } : Jvm.MethodName)) ∈ am_WT := am_wt (am_mt 2141 (by decide +kernel)) rfl
theorem w_2143 : (Jvm.Cond.instanceMethod ({ cls := "SlotMatModel", name := "swaps", desc := "(II)V" } : Jvm.MethodName)) ∈ am_WT := am_wt (am_mt 2143 (by decide +kernel)) rfl
theorem w_2144 : (Jvm.Cond.code ({ cls := "SlotMatModel", name := "swaps", desc := "(II)V" } : Jvm.MethodName) prog_12_method_106_code (4 : Nat) (Option.none : Option Jvm.ClassFile.FieldType)) ∈ am_WT := am_wt (am_mt 2144 (by decide +kernel)) rfl
theorem w_2145 : (Jvm.Cond.methodLink "SlotMatLaw" (201 : Nat) ({ cls := "SlotMatModel", name := "note", desc := "(III)I" } : Jvm.MethodName)) ∈ am_WT := am_wt (am_mt 2145 (by decide +kernel)) rfl
theorem w_2146 : (Jvm.Cond.instanceMethod ({ cls := "SlotMatModel", name := "note", desc := "(III)I" } : Jvm.MethodName)) ∈ am_WT := am_wt (am_mt 2146 (by decide +kernel)) rfl
theorem w_2147 : (Jvm.Cond.selects "SlotMatModel" ({ cls := "SlotMatModel", name := "note", desc := "(III)I" } : Jvm.MethodName) ({ cls := "SlotMatModel", name := "note", desc := "(III)I" } : Jvm.MethodName)) ∈ am_WT := am_wt (am_mt 2147 (by decide +kernel)) rfl
theorem w_2148 : (Jvm.Cond.code ({ cls := "SlotMatModel", name := "note", desc := "(III)I" } : Jvm.MethodName) prog_12_method_109_code (4 : Nat) (Option.some Jvm.ClassFile.FieldType.int)) ∈ am_WT := am_wt (am_mt 2148 (by decide +kernel)) rfl
theorem w_2149 : (Jvm.Cond.methodLink "SlotMatLaw" (205 : Nat) ({ cls := "SlotMatModel", name := "forget", desc := "()V" } : Jvm.MethodName)) ∈ am_WT := am_wt (am_mt 2149 (by decide +kernel)) rfl
theorem w_2150 : (Jvm.Cond.instanceMethod ({ cls := "SlotMatModel", name := "forget", desc := "()V" } : Jvm.MethodName)) ∈ am_WT := am_wt (am_mt 2150 (by decide +kernel)) rfl
theorem w_2151 : (Jvm.Cond.selects "SlotMatModel" ({ cls := "SlotMatModel", name := "forget", desc := "()V" } : Jvm.MethodName) ({ cls := "SlotMatModel", name := "forget", desc := "()V" } : Jvm.MethodName)) ∈ am_WT := am_wt (am_mt 2151 (by decide +kernel)) rfl
theorem w_2152 : (Jvm.Cond.code ({ cls := "SlotMatModel", name := "forget", desc := "()V" } : Jvm.MethodName) prog_12_method_110_code (1 : Nat) (Option.none : Option Jvm.ClassFile.FieldType)) ∈ am_WT := am_wt (am_mt 2152 (by decide +kernel)) rfl
theorem w_2153 : (Jvm.Cond.methodLink "SlotMatLaw" (208 : Nat) ({ cls := "SlotMatModel", name := "thought", desc := "(I)I" } : Jvm.MethodName)) ∈ am_WT := am_wt (am_mt 2153 (by decide +kernel)) rfl
theorem w_2154 : (Jvm.Cond.instanceMethod ({ cls := "SlotMatModel", name := "thought", desc := "(I)I" } : Jvm.MethodName)) ∈ am_WT := am_wt (am_mt 2154 (by decide +kernel)) rfl
theorem w_2155 : (Jvm.Cond.selects "SlotMatModel" ({ cls := "SlotMatModel", name := "thought", desc := "(I)I" } : Jvm.MethodName) ({ cls := "SlotMatModel", name := "thought", desc := "(I)I" } : Jvm.MethodName)) ∈ am_WT := am_wt (am_mt 2155 (by decide +kernel)) rfl
theorem w_2156 : (Jvm.Cond.code ({ cls := "SlotMatModel", name := "thought", desc := "(I)I" } : Jvm.MethodName) prog_12_method_113_code (5 : Nat) (Option.some Jvm.ClassFile.FieldType.int)) ∈ am_WT := am_wt (am_mt 2156 (by decide +kernel)) rfl
theorem w_2157 : (Jvm.Cond.methodLink "SlotMatModel" (453 : Nat) ({ cls := "SlotMatModel", name := "isNoted", desc := "()Z" } : Jvm.MethodName)) ∈ am_WT := am_wt (am_mt 2157 (by decide +kernel)) rfl
theorem w_2159 : (Jvm.Cond.instanceMethod ({ cls := "SlotMatModel", name := "isNoted", desc := "()Z" } : Jvm.MethodName)) ∈ am_WT := am_wt (am_mt 2159 (by decide +kernel)) rfl
theorem w_2160 : (Jvm.Cond.code ({ cls := "SlotMatModel", name := "isNoted", desc := "()Z" } : Jvm.MethodName) prog_12_method_111_code (3 : Nat) (Option.some Jvm.ClassFile.FieldType.boolean)) ∈ am_WT := am_wt (am_mt 2160 (by decide +kernel)) rfl
theorem w_2161 : (Jvm.Cond.methodLink "SlotMatModel" (456 : Nat) ({ cls := "SlotMatModel", name := "isGuess", desc := "(I)Z" } : Jvm.MethodName)) ∈ am_WT := am_wt (am_mt 2161 (by decide +kernel)) rfl
theorem w_2163 : (Jvm.Cond.instanceMethod ({ cls := "SlotMatModel", name := "isGuess", desc := "(I)Z" } : Jvm.MethodName)) ∈ am_WT := am_wt (am_mt 2163 (by decide +kernel)) rfl
theorem w_2164 : (Jvm.Cond.code ({ cls := "SlotMatModel", name := "isGuess", desc := "(I)Z" } : Jvm.MethodName) prog_12_method_112_code (4 : Nat) (Option.some Jvm.ClassFile.FieldType.boolean)) ∈ am_WT := am_wt (am_mt 2164 (by decide +kernel)) rfl
theorem w_2165 : (Jvm.Cond.methodLink "SlotMatLaw" (211 : Nat) ({ cls := "SlotMatModel", name := "ask", desc := "(I)I" } : Jvm.MethodName)) ∈ am_WT := am_wt (am_mt 2165 (by decide +kernel)) rfl
theorem w_2166 : (Jvm.Cond.instanceMethod ({ cls := "SlotMatModel", name := "ask", desc := "(I)I" } : Jvm.MethodName)) ∈ am_WT := am_wt (am_mt 2166 (by decide +kernel)) rfl
theorem w_2167 : (Jvm.Cond.selects "SlotMatModel" ({ cls := "SlotMatModel", name := "ask", desc := "(I)I" } : Jvm.MethodName) ({ cls := "SlotMatModel", name := "ask", desc := "(I)I" } : Jvm.MethodName)) ∈ am_WT := am_wt (am_mt 2167 (by decide +kernel)) rfl
theorem w_2168 : (Jvm.Cond.code ({ cls := "SlotMatModel", name := "ask", desc := "(I)I" } : Jvm.MethodName) prog_12_method_114_code (10 : Nat) (Option.some Jvm.ClassFile.FieldType.int)) ∈ am_WT := am_wt (am_mt 2168 (by decide +kernel)) rfl
theorem w_2169 : (Jvm.Cond.methodLink "SlotMatLaw" (215 : Nat) ({ cls := "SlotMatModel", name := "wetNights", desc := "(IIII)I" } : Jvm.MethodName)) ∈ am_WT := am_wt (am_mt 2169 (by decide +kernel)) rfl
theorem w_2170 : (Jvm.Cond.instanceMethod ({ cls := "SlotMatModel", name := "wetNights", desc := "(IIII)I" } : Jvm.MethodName)) ∈ am_WT := am_wt (am_mt 2170 (by decide +kernel)) rfl
theorem w_2171 : (Jvm.Cond.selects "SlotMatModel" ({ cls := "SlotMatModel", name := "wetNights", desc := "(IIII)I" } : Jvm.MethodName) ({ cls := "SlotMatModel", name := "wetNights", desc := "(IIII)I" } : Jvm.MethodName)) ∈ am_WT := am_wt (am_mt 2171 (by decide +kernel)) rfl
theorem w_2172 : (Jvm.Cond.code ({ cls := "SlotMatModel", name := "wetNights", desc := "(IIII)I" } : Jvm.MethodName) prog_12_method_115_code (10 : Nat) (Option.some Jvm.ClassFile.FieldType.int)) ∈ am_WT := am_wt (am_mt 2172 (by decide +kernel)) rfl
theorem w_2173 : (Jvm.Cond.methodLink "SlotMatLaw" (218 : Nat) ({ cls := "SlotMatModel", name := "game", desc := "(III)I" } : Jvm.MethodName)) ∈ am_WT := am_wt (am_mt 2173 (by decide +kernel)) rfl
theorem w_2174 : (Jvm.Cond.instanceMethod ({ cls := "SlotMatModel", name := "game", desc := "(III)I" } : Jvm.MethodName)) ∈ am_WT := am_wt (am_mt 2174 (by decide +kernel)) rfl
theorem w_2175 : (Jvm.Cond.selects "SlotMatModel" ({ cls := "SlotMatModel", name := "game", desc := "(III)I" } : Jvm.MethodName) ({ cls := "SlotMatModel", name := "game", desc := "(III)I" } : Jvm.MethodName)) ∈ am_WT := am_wt (am_mt 2175 (by decide +kernel)) rfl
theorem w_2176 : (Jvm.Cond.code ({ cls := "SlotMatModel", name := "game", desc := "(III)I" } : Jvm.MethodName) prog_12_method_117_code (9 : Nat) (Option.some Jvm.ClassFile.FieldType.int)) ∈ am_WT := am_wt (am_mt 2176 (by decide +kernel)) rfl
theorem w_2177 : (Jvm.Cond.methodLink "SlotMatModel" (459 : Nat) ({ cls := "SlotMatModel", name := "gains", desc := "(IIII)I" } : Jvm.MethodName)) ∈ am_WT := am_wt (am_mt 2177 (by decide +kernel)) rfl
theorem w_2179 : (Jvm.Cond.instanceMethod ({ cls := "SlotMatModel", name := "gains", desc := "(IIII)I" } : Jvm.MethodName)) ∈ am_WT := am_wt (am_mt 2179 (by decide +kernel)) rfl
theorem w_2180 : (Jvm.Cond.code ({ cls := "SlotMatModel", name := "gains", desc := "(IIII)I" } : Jvm.MethodName) prog_12_method_116_code (5 : Nat) (Option.some Jvm.ClassFile.FieldType.int)) ∈ am_WT := am_wt (am_mt 2180 (by decide +kernel)) rfl
theorem w_2181 : (Jvm.Cond.methodLink "SlotMatLaw" (221 : Nat) ({ cls := "SlotMatModel", name := "years", desc := "(III)I" } : Jvm.MethodName)) ∈ am_WT := am_wt (am_mt 2181 (by decide +kernel)) rfl
theorem w_2182 : (Jvm.Cond.instanceMethod ({ cls := "SlotMatModel", name := "years", desc := "(III)I" } : Jvm.MethodName)) ∈ am_WT := am_wt (am_mt 2182 (by decide +kernel)) rfl
theorem w_2183 : (Jvm.Cond.selects "SlotMatModel" ({ cls := "SlotMatModel", name := "years", desc := "(III)I" } : Jvm.MethodName) ({ cls := "SlotMatModel", name := "years", desc := "(III)I" } : Jvm.MethodName)) ∈ am_WT := am_wt (am_mt 2183 (by decide +kernel)) rfl
theorem w_2184 : (Jvm.Cond.code ({ cls := "SlotMatModel", name := "years", desc := "(III)I" } : Jvm.MethodName) prog_12_method_120_code (5 : Nat) (Option.some Jvm.ClassFile.FieldType.int)) ∈ am_WT := am_wt (am_mt 2184 (by decide +kernel)) rfl
theorem w_2185 : (Jvm.Cond.methodLink "SlotMatModel" (466 : Nat) ({ cls := "SlotMatModel", name := "draw", desc := "(I)I" } : Jvm.MethodName)) ∈ am_WT := am_wt (am_mt 2185 (by decide +kernel)) rfl
theorem w_2187 : (Jvm.Cond.instanceMethod ({ cls := "SlotMatModel", name := "draw", desc := "(I)I" } : Jvm.MethodName)) ∈ am_WT := am_wt (am_mt 2187 (by decide +kernel)) rfl
theorem w_2188 : (Jvm.Cond.code ({ cls := "SlotMatModel", name := "draw", desc := "(I)I" } : Jvm.MethodName) prog_12_method_118_code (2 : Nat) (Option.some Jvm.ClassFile.FieldType.int)) ∈ am_WT := am_wt (am_mt 2188 (by decide +kernel)) rfl
theorem w_2189 : (Jvm.Cond.constant "SlotMatModel" (465 : Nat) (1103515245 : Int32)) ∈ am_WT := am_wt (am_mt 2189 (by decide +kernel)) rfl
theorem w_2190 : (Jvm.Cond.methodLink "SlotMatModel" (469 : Nat) ({ cls := "SlotMatModel", name := "happens", desc := "()V" } : Jvm.MethodName)) ∈ am_WT := am_wt (am_mt 2190 (by decide +kernel)) rfl
theorem w_2192 : (Jvm.Cond.instanceMethod ({ cls := "SlotMatModel", name := "happens", desc := "()V" } : Jvm.MethodName)) ∈ am_WT := am_wt (am_mt 2192 (by decide +kernel)) rfl
theorem w_2193 : (Jvm.Cond.code ({ cls := "SlotMatModel", name := "happens", desc := "()V" } : Jvm.MethodName) prog_12_method_119_code (4 : Nat) (Option.none : Option Jvm.ClassFile.FieldType)) ∈ am_WT := am_wt (am_mt 2193 (by decide +kernel)) rfl
theorem w_2194 : (Jvm.Cond.methodLink "SlotMatLaw" (250 : Nat) ({ cls := "SlotMatModel", name := "image", desc := "()V" } : Jvm.MethodName)) ∈ am_WT := am_wt (am_mt 2194 (by decide +kernel)) rfl
theorem w_2195 : (Jvm.Cond.instanceMethod ({ cls := "SlotMatModel", name := "image", desc := "()V" } : Jvm.MethodName)) ∈ am_WT := am_wt (am_mt 2195 (by decide +kernel)) rfl
theorem w_2196 : (Jvm.Cond.selects "SlotMatModel" ({ cls := "SlotMatModel", name := "image", desc := "()V" } : Jvm.MethodName) ({ cls := "SlotMatModel", name := "image", desc := "()V" } : Jvm.MethodName)) ∈ am_WT := am_wt (am_mt 2196 (by decide +kernel)) rfl
theorem w_2197 : (Jvm.Cond.code ({ cls := "SlotMatModel", name := "image", desc := "()V" } : Jvm.MethodName) prog_12_method_121_code (2 : Nat) (Option.none : Option Jvm.ClassFile.FieldType)) ∈ am_WT := am_wt (am_mt 2197 (by decide +kernel)) rfl
theorem w_2198 : (Jvm.Cond.methodLink "SlotMatLaw" (255 : Nat) ({ cls := "SlotMatModel", name := "restore", desc := "()Z" } : Jvm.MethodName)) ∈ am_WT := am_wt (am_mt 2198 (by decide +kernel)) rfl
theorem w_2199 : (Jvm.Cond.instanceMethod ({ cls := "SlotMatModel", name := "restore", desc := "()Z" } : Jvm.MethodName)) ∈ am_WT := am_wt (am_mt 2199 (by decide +kernel)) rfl
theorem w_2200 : (Jvm.Cond.selects "SlotMatModel" ({ cls := "SlotMatModel", name := "restore", desc := "()Z" } : Jvm.MethodName) ({ cls := "SlotMatModel", name := "restore", desc := "()Z" } : Jvm.MethodName)) ∈ am_WT := am_wt (am_mt 2200 (by decide +kernel)) rfl
theorem w_2201 : (Jvm.Cond.code ({ cls := "SlotMatModel", name := "restore", desc := "()Z" } : Jvm.MethodName) prog_12_method_122_code (2 : Nat) (Option.some Jvm.ClassFile.FieldType.boolean)) ∈ am_WT := am_wt (am_mt 2201 (by decide +kernel)) rfl
theorem w_2202 : (Jvm.Cond.arrayClass Jvm.ClassFile.FieldType.long) ∈ am_WT := am_wt (am_mt 2202 (by decide +kernel)) rfl
theorem w_2203 : (Jvm.Cond.sameMethod "java/lang/Throwable" "java/lang/Throwable" "fillInStackTrace" "(I)Ljava/lang/Throwable;") ∈ am_WT := am_wt (am_mt 2203 (by decide +kernel)) rfl
theorem w_2204 : (Jvm.Cond.sameMethod "java/lang/AbstractStringBuilder" "java/lang/AbstractStringBuilder" "append" "(Ljava/lang/String;)Ljava/lang/AbstractStringBuilder;") ∈ am_WT := am_wt (am_mt 2204 (by decide +kernel)) rfl
theorem w_2205 : (Jvm.Cond.sameMethod "java/lang/AbstractStringBuilder" "java/lang/AbstractStringBuilder" "appendNull" "()Ljava/lang/AbstractStringBuilder;") ∈ am_WT := am_wt (am_mt 2205 (by decide +kernel)) rfl
theorem w_2206 : (Jvm.Cond.sameMethod "java/lang/AbstractStringBuilder" "java/lang/AbstractStringBuilder" "ensureCapacityInternal" "(I)V") ∈ am_WT := am_wt (am_mt 2206 (by decide +kernel)) rfl
theorem w_2207 : (Jvm.Cond.sameMethod "java/lang/AbstractStringBuilder" "java/lang/AbstractStringBuilder" "newCapacity" "(I)I") ∈ am_WT := am_wt (am_mt 2207 (by decide +kernel)) rfl
theorem w_2208 : (Jvm.Cond.sameMethod "java/lang/AbstractStringBuilder" "java/lang/AbstractStringBuilder" "putStringAt" "(ILjava/lang/String;)V") ∈ am_WT := am_wt (am_mt 2208 (by decide +kernel)) rfl
theorem w_2209 : (Jvm.Cond.sameMethod "java/lang/AbstractStringBuilder" "java/lang/AbstractStringBuilder" "inflateIfNeededFor" "(Ljava/lang/String;)V") ∈ am_WT := am_wt (am_mt 2209 (by decide +kernel)) rfl
theorem w_2210 : (Jvm.Cond.sameMethod "java/lang/AbstractStringBuilder" "java/lang/AbstractStringBuilder" "inflate" "()V") ∈ am_WT := am_wt (am_mt 2210 (by decide +kernel)) rfl
theorem w_2211 : (Jvm.Cond.sameMethod "java/lang/AbstractStringBuilder" "java/lang/AbstractStringBuilder" "append" "(I)Ljava/lang/AbstractStringBuilder;") ∈ am_WT := am_wt (am_mt 2211 (by decide +kernel)) rfl
theorem e_2212 : (Jvm.Cond.castable "SlotMat" "java/lang/Object") ∈ am_ext := List.mem_filter.mpr ⟨am_mt 2212 (by decide +kernel), rfl⟩
theorem e_2213 : (Jvm.Cond.castable "SlotMat$CityReader" "java/lang/Object") ∈ am_ext := List.mem_filter.mpr ⟨am_mt 2213 (by decide +kernel), rfl⟩
theorem e_2214 : (Jvm.Cond.castable "SlotMat$Tokens" "java/lang/Object") ∈ am_ext := List.mem_filter.mpr ⟨am_mt 2214 (by decide +kernel), rfl⟩
theorem e_2215 : (Jvm.Cond.castable "SlotMat$RuleReader" "java/lang/Object") ∈ am_ext := List.mem_filter.mpr ⟨am_mt 2215 (by decide +kernel), rfl⟩
theorem e_2216 : (Jvm.Cond.castable "SlotMat$City" "java/lang/Object") ∈ am_ext := List.mem_filter.mpr ⟨am_mt 2216 (by decide +kernel), rfl⟩
theorem e_2217 : (Jvm.Cond.castable "SlotMat$Rule" "java/lang/Object") ∈ am_ext := List.mem_filter.mpr ⟨am_mt 2217 (by decide +kernel), rfl⟩
theorem e_2218 : (Jvm.Cond.castable "SlotMat$State" "java/lang/Object") ∈ am_ext := List.mem_filter.mpr ⟨am_mt 2218 (by decide +kernel), rfl⟩
theorem e_2219 : (Jvm.Cond.castable "java/lang/IllegalArgumentException" "java/lang/Object") ∈ am_ext := List.mem_filter.mpr ⟨am_mt 2219 (by decide +kernel), rfl⟩
theorem e_2220 : (Jvm.Cond.castable "java/lang/StringBuilder" "java/lang/Object") ∈ am_ext := List.mem_filter.mpr ⟨am_mt 2220 (by decide +kernel), rfl⟩
theorem e_2221 : (Jvm.Cond.castable "java/lang/String" "java/lang/Object") ∈ am_ext := List.mem_filter.mpr ⟨am_mt 2221 (by decide +kernel), rfl⟩
theorem e_2222 : (Jvm.Cond.castable "SlotMat$Acts" "java/lang/Object") ∈ am_ext := List.mem_filter.mpr ⟨am_mt 2222 (by decide +kernel), rfl⟩
theorem e_2223 : (Jvm.Cond.castable "SlotMat$Notes" "java/lang/Object") ∈ am_ext := List.mem_filter.mpr ⟨am_mt 2223 (by decide +kernel), rfl⟩
theorem e_2224 : (Jvm.Cond.castable "SlotMat$OrderSearch" "java/lang/Object") ∈ am_ext := List.mem_filter.mpr ⟨am_mt 2224 (by decide +kernel), rfl⟩
theorem e_2225 : (Jvm.Cond.castable "SlotMatModel" "java/lang/Object") ∈ am_ext := List.mem_filter.mpr ⟨am_mt 2225 (by decide +kernel), rfl⟩
theorem e_2226 : (Jvm.Cond.castable "java/util/NoSuchElementException" "java/lang/Object") ∈ am_ext := List.mem_filter.mpr ⟨am_mt 2226 (by decide +kernel), rfl⟩
theorem e_2227 : (Jvm.Cond.castable "java/lang/Throwable" "java/lang/Object") ∈ am_ext := List.mem_filter.mpr ⟨am_mt 2227 (by decide +kernel), rfl⟩
theorem s_0 : Cond.selects "java/lang/Throwable" ⟨"java/lang/Throwable", "fillInStackTrace", "(I)Ljava/lang/Throwable;"⟩ ⟨"java/lang/Throwable", "fillInStackTrace", "(I)Ljava/lang/Throwable;"⟩ ∈ am_WT := am_wt (List.mem_append_left _ (List.mem_of_getElem? (i := 0) (by decide +kernel))) rfl
theorem s_1 : Cond.selects "SlotMat" ⟨"SlotMat", "putBytes", "(I)V"⟩ ⟨"SlotMat", "putBytes", "(I)V"⟩ ∈ am_WT := am_wt (List.mem_append_left _ (List.mem_of_getElem? (i := 1) (by decide +kernel))) rfl
theorem s_2 : Cond.selects "SlotMat$City" ⟨"SlotMat$City", "thoughtsOf", "(LSlotMat$State;II)I"⟩ ⟨"SlotMat$City", "thoughtsOf", "(LSlotMat$State;II)I"⟩ ∈ am_WT := am_wt (List.mem_append_left _ (List.mem_of_getElem? (i := 2) (by decide +kernel))) rfl
theorem s_3 : Cond.selects "SlotMat$State" ⟨"SlotMat$State", "sumOf", "(II)I"⟩ ⟨"SlotMat$State", "sumOf", "(II)I"⟩ ∈ am_WT := am_wt (List.mem_append_left _ (List.mem_of_getElem? (i := 3) (by decide +kernel))) rfl
theorem s_4 : Cond.selects "SlotMat$City" ⟨"SlotMat$City", "fetchAll", "(LSlotMat$State;II)I"⟩ ⟨"SlotMat$City", "fetchAll", "(LSlotMat$State;II)I"⟩ ∈ am_WT := am_wt (List.mem_append_left _ (List.mem_of_getElem? (i := 4) (by decide +kernel))) rfl
theorem s_5 : Cond.selects "SlotMat$Tokens" ⟨"SlotMat$Tokens", "numberHere", "()I"⟩ ⟨"SlotMat$Tokens", "numberHere", "()I"⟩ ∈ am_WT := am_wt (List.mem_append_left _ (List.mem_of_getElem? (i := 5) (by decide +kernel))) rfl
theorem s_6 : Cond.selects "SlotMat$CityReader" ⟨"SlotMat$CityReader", "readLine", "(LSlotMat$City;)V"⟩ ⟨"SlotMat$CityReader", "readLine", "(LSlotMat$City;)V"⟩ ∈ am_WT := am_wt (List.mem_append_left _ (List.mem_of_getElem? (i := 6) (by decide +kernel))) rfl
theorem s_7 : Cond.selects "SlotMat$CityReader" ⟨"SlotMat$CityReader", "readBox", "(LSlotMat$City;)V"⟩ ⟨"SlotMat$CityReader", "readBox", "(LSlotMat$City;)V"⟩ ∈ am_WT := am_wt (List.mem_append_left _ (List.mem_of_getElem? (i := 7) (by decide +kernel))) rfl
theorem s_8 : Cond.selects "SlotMat$CityReader" ⟨"SlotMat$CityReader", "readPerson", "(LSlotMat$City;)V"⟩ ⟨"SlotMat$CityReader", "readPerson", "(LSlotMat$City;)V"⟩ ∈ am_WT := am_wt (List.mem_append_left _ (List.mem_of_getElem? (i := 8) (by decide +kernel))) rfl
theorem s_9 : Cond.selects "SlotMat$CityReader" ⟨"SlotMat$CityReader", "readAt", "(I)I"⟩ ⟨"SlotMat$CityReader", "readAt", "(I)I"⟩ ∈ am_WT := am_wt (List.mem_append_left _ (List.mem_of_getElem? (i := 9) (by decide +kernel))) rfl
theorem s_10 : Cond.selects "SlotMat$CityReader" ⟨"SlotMat$CityReader", "readRound", "(LSlotMat$City;)V"⟩ ⟨"SlotMat$CityReader", "readRound", "(LSlotMat$City;)V"⟩ ∈ am_WT := am_wt (List.mem_append_left _ (List.mem_of_getElem? (i := 10) (by decide +kernel))) rfl
theorem s_11 : Cond.selects "SlotMat$CityReader" ⟨"SlotMat$CityReader", "moreNumbers", "(I)Z"⟩ ⟨"SlotMat$CityReader", "moreNumbers", "(I)Z"⟩ ∈ am_WT := am_wt (List.mem_append_left _ (List.mem_of_getElem? (i := 11) (by decide +kernel))) rfl
theorem s_12 : Cond.selects "SlotMat$CityReader" ⟨"SlotMat$CityReader", "readInRow", "(IIII)I"⟩ ⟨"SlotMat$CityReader", "readInRow", "(IIII)I"⟩ ∈ am_WT := am_wt (List.mem_append_left _ (List.mem_of_getElem? (i := 12) (by decide +kernel))) rfl
theorem s_13 : Cond.selects "SlotMat$CityReader" ⟨"SlotMat$CityReader", "readWet", "(LSlotMat$City;)V"⟩ ⟨"SlotMat$CityReader", "readWet", "(LSlotMat$City;)V"⟩ ∈ am_WT := am_wt (List.mem_append_left _ (List.mem_of_getElem? (i := 13) (by decide +kernel))) rfl
theorem s_14 : Cond.selects "SlotMat$RuleReader" ⟨"SlotMat$RuleReader", "beginExpression", "()V"⟩ ⟨"SlotMat$RuleReader", "beginExpression", "()V"⟩ ∈ am_WT := am_wt (List.mem_append_left _ (List.mem_of_getElem? (i := 14) (by decide +kernel))) rfl
theorem s_15 : Cond.selects "SlotMat$RuleReader" ⟨"SlotMat$RuleReader", "isEnd", "(LSlotMat$Tokens;)Z"⟩ ⟨"SlotMat$RuleReader", "isEnd", "(LSlotMat$Tokens;)Z"⟩ ∈ am_WT := am_wt (List.mem_append_left _ (List.mem_of_getElem? (i := 15) (by decide +kernel))) rfl
theorem s_16 : Cond.selects "SlotMat$RuleReader" ⟨"SlotMat$RuleReader", "readPart", "(LSlotMat$Tokens;LSlotMat$Rule;Z)V"⟩ ⟨"SlotMat$RuleReader", "readPart", "(LSlotMat$Tokens;LSlotMat$Rule;Z)V"⟩ ∈ am_WT := am_wt (List.mem_append_left _ (List.mem_of_getElem? (i := 16) (by decide +kernel))) rfl
theorem s_17 : Cond.selects "SlotMat$RuleReader" ⟨"SlotMat$RuleReader", "push", "(I)V"⟩ ⟨"SlotMat$RuleReader", "push", "(I)V"⟩ ∈ am_WT := am_wt (List.mem_append_left _ (List.mem_of_getElem? (i := 17) (by decide +kernel))) rfl
theorem s_18 : Cond.selects "SlotMat$RuleReader" ⟨"SlotMat$RuleReader", "readNot", "(LSlotMat$Tokens;)V"⟩ ⟨"SlotMat$RuleReader", "readNot", "(LSlotMat$Tokens;)V"⟩ ∈ am_WT := am_wt (List.mem_append_left _ (List.mem_of_getElem? (i := 18) (by decide +kernel))) rfl
theorem s_19 : Cond.selects "SlotMat$RuleReader" ⟨"SlotMat$RuleReader", "putValue", "(LSlotMat$Tokens;LSlotMat$Rule;I)V"⟩ ⟨"SlotMat$RuleReader", "putValue", "(LSlotMat$Tokens;LSlotMat$Rule;I)V"⟩ ∈ am_WT := am_wt (List.mem_append_left _ (List.mem_of_getElem? (i := 19) (by decide +kernel))) rfl
theorem s_20 : Cond.selects "SlotMat$RuleReader" ⟨"SlotMat$RuleReader", "readBehindPart", "(LSlotMat$Tokens;LSlotMat$Rule;)V"⟩ ⟨"SlotMat$RuleReader", "readBehindPart", "(LSlotMat$Tokens;LSlotMat$Rule;)V"⟩ ∈ am_WT := am_wt (List.mem_append_left _ (List.mem_of_getElem? (i := 20) (by decide +kernel))) rfl
theorem s_21 : Cond.selects "SlotMat$RuleReader" ⟨"SlotMat$RuleReader", "release", "(LSlotMat$Rule;I)V"⟩ ⟨"SlotMat$RuleReader", "release", "(LSlotMat$Rule;I)V"⟩ ∈ am_WT := am_wt (List.mem_append_left _ (List.mem_of_getElem? (i := 21) (by decide +kernel))) rfl
theorem s_22 : Cond.selects "SlotMat$RuleReader" ⟨"SlotMat$RuleReader", "pop", "()V"⟩ ⟨"SlotMat$RuleReader", "pop", "()V"⟩ ∈ am_WT := am_wt (List.mem_append_left _ (List.mem_of_getElem? (i := 22) (by decide +kernel))) rfl
theorem s_23 : Cond.selects "SlotMat$RuleReader" ⟨"SlotMat$RuleReader", "readTest", "(LSlotMat$Tokens;LSlotMat$Rule;I)V"⟩ ⟨"SlotMat$RuleReader", "readTest", "(LSlotMat$Tokens;LSlotMat$Rule;I)V"⟩ ∈ am_WT := am_wt (List.mem_append_left _ (List.mem_of_getElem? (i := 23) (by decide +kernel))) rfl
theorem s_24 : Cond.selects "SlotMat$RuleReader" ⟨"SlotMat$RuleReader", "letWait", "(I)V"⟩ ⟨"SlotMat$RuleReader", "letWait", "(I)V"⟩ ∈ am_WT := am_wt (List.mem_append_left _ (List.mem_of_getElem? (i := 24) (by decide +kernel))) rfl
theorem s_25 : Cond.selects "SlotMat$City" ⟨"SlotMat$City", "nearestTo", "(I)I"⟩ ⟨"SlotMat$City", "nearestTo", "(I)I"⟩ ∈ am_WT := am_wt (List.mem_append_left _ (List.mem_of_getElem? (i := 25) (by decide +kernel))) rfl
theorem s_26 : Cond.selects "SlotMat" ⟨"SlotMat", "needBox", "(I)V"⟩ ⟨"SlotMat", "needBox", "(I)V"⟩ ∈ am_WT := am_wt (List.mem_append_left _ (List.mem_of_getElem? (i := 26) (by decide +kernel))) rfl
theorem s_27 : Cond.selects "SlotMat" ⟨"SlotMat", "needPerson", "(I)V"⟩ ⟨"SlotMat", "needPerson", "(I)V"⟩ ∈ am_WT := am_wt (List.mem_append_left _ (List.mem_of_getElem? (i := 27) (by decide +kernel))) rfl
theorem s_28 : Cond.selects "SlotMat" ⟨"SlotMat", "lookAhead", "(I)I"⟩ ⟨"SlotMat", "lookAhead", "(I)I"⟩ ∈ am_WT := am_wt (List.mem_append_left _ (List.mem_of_getElem? (i := 28) (by decide +kernel))) rfl
theorem s_29 : Cond.selects "SlotMat$City" ⟨"SlotMat$City", "coversAll", "(II)Z"⟩ ⟨"SlotMat$City", "coversAll", "(II)Z"⟩ ∈ am_WT := am_wt (List.mem_append_left _ (List.mem_of_getElem? (i := 29) (by decide +kernel))) rfl
theorem s_30 : Cond.selects "SlotMat$City" ⟨"SlotMat$City", "covers", "(III)Z"⟩ ⟨"SlotMat$City", "covers", "(III)Z"⟩ ∈ am_WT := am_wt (List.mem_append_left _ (List.mem_of_getElem? (i := 30) (by decide +kernel))) rfl
theorem s_31 : Cond.selects "SlotMat$OrderSearch" ⟨"SlotMat$OrderSearch", "tryRows", "(LSlotMat$City;II)V"⟩ ⟨"SlotMat$OrderSearch", "tryRows", "(LSlotMat$City;II)V"⟩ ∈ am_WT := am_wt (List.mem_append_left _ (List.mem_of_getElem? (i := 31) (by decide +kernel))) rfl
theorem s_32 : Cond.selects "SlotMat$OrderSearch" ⟨"SlotMat$OrderSearch", "weighRow", "(I)V"⟩ ⟨"SlotMat$OrderSearch", "weighRow", "(I)V"⟩ ∈ am_WT := am_wt (List.mem_append_left _ (List.mem_of_getElem? (i := 32) (by decide +kernel))) rfl
theorem s_33 : Cond.selects "SlotMat" ⟨"SlotMat", "futureAgrees", "()Z"⟩ ⟨"SlotMat", "futureAgrees", "()Z"⟩ ∈ am_WT := am_wt (List.mem_append_left _ (List.mem_of_getElem? (i := 33) (by decide +kernel))) rfl
theorem s_34 : Cond.selects "SlotMat" ⟨"SlotMat", "turnFuture", "(II)Z"⟩ ⟨"SlotMat", "turnFuture", "(II)Z"⟩ ∈ am_WT := am_wt (List.mem_append_left _ (List.mem_of_getElem? (i := 34) (by decide +kernel))) rfl
theorem s_35 : Cond.selects "SlotMat" ⟨"SlotMat", "gatherHeardByThoughts", "()I"⟩ ⟨"SlotMat", "gatherHeardByThoughts", "()I"⟩ ∈ am_WT := am_wt (List.mem_append_left _ (List.mem_of_getElem? (i := 35) (by decide +kernel))) rfl
theorem s_36 : Cond.selects "SlotMat" ⟨"SlotMat", "lookAheadTurned", "(III)V"⟩ ⟨"SlotMat", "lookAheadTurned", "(III)V"⟩ ∈ am_WT := am_wt (List.mem_append_left _ (List.mem_of_getElem? (i := 36) (by decide +kernel))) rfl
theorem s_37 : Cond.selects "SlotMat" ⟨"SlotMat", "countUnlike", "(II)I"⟩ ⟨"SlotMat", "countUnlike", "(II)I"⟩ ∈ am_WT := am_wt (List.mem_append_left _ (List.mem_of_getElem? (i := 37) (by decide +kernel))) rfl
theorem s_38 : Cond.selects "SlotMat" ⟨"SlotMat", "isNewSum", "(II)Z"⟩ ⟨"SlotMat", "isNewSum", "(II)Z"⟩ ∈ am_WT := am_wt (List.mem_append_left _ (List.mem_of_getElem? (i := 38) (by decide +kernel))) rfl
theorem s_39 : Cond.selects "SlotMat" ⟨"SlotMat", "heardByNights", "(III)I"⟩ ⟨"SlotMat", "heardByNights", "(III)I"⟩ ∈ am_WT := am_wt (List.mem_append_left _ (List.mem_of_getElem? (i := 39) (by decide +kernel))) rfl
theorem s_40 : Cond.selects "SlotMat" ⟨"SlotMat", "weighCouple", "(III)V"⟩ ⟨"SlotMat", "weighCouple", "(III)V"⟩ ∈ am_WT := am_wt (List.mem_append_left _ (List.mem_of_getElem? (i := 40) (by decide +kernel))) rfl
theorem s_41 : Cond.selects "SlotMat" ⟨"SlotMat", "gainOf", "(II)I"⟩ ⟨"SlotMat", "gainOf", "(II)I"⟩ ∈ am_WT := am_wt (List.mem_append_left _ (List.mem_of_getElem? (i := 41) (by decide +kernel))) rfl
theorem s_42 : Cond.selects "SlotMat" ⟨"SlotMat", "coupleRests", "(I)Z"⟩ ⟨"SlotMat", "coupleRests", "(I)Z"⟩ ∈ am_WT := am_wt (List.mem_append_left _ (List.mem_of_getElem? (i := 42) (by decide +kernel))) rfl
theorem s_43 : Cond.selects "SlotMat" ⟨"SlotMat", "draw", "(I)I"⟩ ⟨"SlotMat", "draw", "(I)I"⟩ ∈ am_WT := am_wt (List.mem_append_left _ (List.mem_of_getElem? (i := 43) (by decide +kernel))) rfl
theorem s_44 : Cond.selects "SlotMat" ⟨"SlotMat", "drawAct", "()V"⟩ ⟨"SlotMat", "drawAct", "()V"⟩ ∈ am_WT := am_wt (List.mem_append_left _ (List.mem_of_getElem? (i := 44) (by decide +kernel))) rfl
theorem s_45 : Cond.selects "SlotMatModel" ⟨"SlotMatModel", "lays", "(I)V"⟩ ⟨"SlotMatModel", "lays", "(I)V"⟩ ∈ am_WT := am_wt (List.mem_append_left _ (List.mem_of_getElem? (i := 45) (by decide +kernel))) rfl
theorem s_46 : Cond.selects "SlotMatModel" ⟨"SlotMatModel", "right", "(ZI)Z"⟩ ⟨"SlotMatModel", "right", "(ZI)Z"⟩ ∈ am_WT := am_wt (List.mem_append_left _ (List.mem_of_getElem? (i := 46) (by decide +kernel))) rfl
theorem s_47 : Cond.selects "SlotMatModel" ⟨"SlotMatModel", "goes", "()V"⟩ ⟨"SlotMatModel", "goes", "()V"⟩ ∈ am_WT := am_wt (List.mem_append_left _ (List.mem_of_getElem? (i := 47) (by decide +kernel))) rfl
theorem s_48 : Cond.selects "SlotMatModel" ⟨"SlotMatModel", "byteAt", "(I)I"⟩ ⟨"SlotMatModel", "byteAt", "(I)I"⟩ ∈ am_WT := am_wt (List.mem_append_left _ (List.mem_of_getElem? (i := 48) (by decide +kernel))) rfl
theorem s_49 : Cond.selects "SlotMatModel" ⟨"SlotMatModel", "isGood", "()Z"⟩ ⟨"SlotMatModel", "isGood", "()Z"⟩ ∈ am_WT := am_wt (List.mem_append_left _ (List.mem_of_getElem? (i := 49) (by decide +kernel))) rfl
theorem s_50 : Cond.selects "SlotMatModel" ⟨"SlotMatModel", "line", "()V"⟩ ⟨"SlotMatModel", "line", "()V"⟩ ∈ am_WT := am_wt (List.mem_append_left _ (List.mem_of_getElem? (i := 50) (by decide +kernel))) rfl
theorem s_51 : Cond.selects "SlotMatModel" ⟨"SlotMatModel", "knownWord", "()I"⟩ ⟨"SlotMatModel", "knownWord", "()I"⟩ ∈ am_WT := am_wt (List.mem_append_left _ (List.mem_of_getElem? (i := 51) (by decide +kernel))) rfl
theorem s_52 : Cond.selects "SlotMatModel" ⟨"SlotMatModel", "begins", "(ZZ)Z"⟩ ⟨"SlotMatModel", "begins", "(ZZ)Z"⟩ ∈ am_WT := am_wt (List.mem_append_left _ (List.mem_of_getElem? (i := 52) (by decide +kernel))) rfl
theorem s_53 : Cond.selects "SlotMatModel" ⟨"SlotMatModel", "wrong", "(I)V"⟩ ⟨"SlotMatModel", "wrong", "(I)V"⟩ ∈ am_WT := am_wt (List.mem_append_left _ (List.mem_of_getElem? (i := 53) (by decide +kernel))) rfl
theorem s_54 : Cond.selects "SlotMatModel" ⟨"SlotMatModel", "readsBox", "()V"⟩ ⟨"SlotMatModel", "readsBox", "()V"⟩ ∈ am_WT := am_wt (List.mem_append_left _ (List.mem_of_getElem? (i := 54) (by decide +kernel))) rfl
theorem s_55 : Cond.selects "SlotMatModel" ⟨"SlotMatModel", "number", "(II)I"⟩ ⟨"SlotMatModel", "number", "(II)I"⟩ ∈ am_WT := am_wt (List.mem_append_left _ (List.mem_of_getElem? (i := 55) (by decide +kernel))) rfl
theorem s_56 : Cond.selects "SlotMatModel" ⟨"SlotMatModel", "readsPerson", "()V"⟩ ⟨"SlotMatModel", "readsPerson", "()V"⟩ ∈ am_WT := am_wt (List.mem_append_left _ (List.mem_of_getElem? (i := 56) (by decide +kernel))) rfl
theorem s_57 : Cond.selects "SlotMatModel" ⟨"SlotMatModel", "readsRound", "()V"⟩ ⟨"SlotMatModel", "readsRound", "()V"⟩ ∈ am_WT := am_wt (List.mem_append_left _ (List.mem_of_getElem? (i := 57) (by decide +kernel))) rfl
theorem s_58 : Cond.selects "SlotMatModel" ⟨"SlotMatModel", "readsWet", "()V"⟩ ⟨"SlotMatModel", "readsWet", "()V"⟩ ∈ am_WT := am_wt (List.mem_append_left _ (List.mem_of_getElem? (i := 58) (by decide +kernel))) rfl
theorem s_59 : Cond.selects "SlotMatModel" ⟨"SlotMatModel", "expression", "(II)V"⟩ ⟨"SlotMatModel", "expression", "(II)V"⟩ ∈ am_WT := am_wt (List.mem_append_left _ (List.mem_of_getElem? (i := 59) (by decide +kernel))) rfl
theorem s_60 : Cond.selects "SlotMatModel" ⟨"SlotMatModel", "deeper", "()V"⟩ ⟨"SlotMatModel", "deeper", "()V"⟩ ∈ am_WT := am_wt (List.mem_append_left _ (List.mem_of_getElem? (i := 60) (by decide +kernel))) rfl
theorem s_61 : Cond.selects "SlotMatModel" ⟨"SlotMatModel", "isSign", "(I)Z"⟩ ⟨"SlotMatModel", "isSign", "(I)Z"⟩ ∈ am_WT := am_wt (List.mem_append_left _ (List.mem_of_getElem? (i := 61) (by decide +kernel))) rfl
theorem s_62 : Cond.selects "SlotMatModel" ⟨"SlotMatModel", "operand", "(Z)V"⟩ ⟨"SlotMatModel", "operand", "(Z)V"⟩ ∈ am_WT := am_wt (List.mem_append_left _ (List.mem_of_getElem? (i := 62) (by decide +kernel))) rfl
theorem s_63 : Cond.selects "SlotMatModel" ⟨"SlotMatModel", "waitsFor", "(I)V"⟩ ⟨"SlotMatModel", "waitsFor", "(I)V"⟩ ∈ am_WT := am_wt (List.mem_append_left _ (List.mem_of_getElem? (i := 63) (by decide +kernel))) rfl
theorem s_64 : Cond.selects "SlotMatModel" ⟨"SlotMatModel", "part", "()V"⟩ ⟨"SlotMatModel", "part", "()V"⟩ ∈ am_WT := am_wt (List.mem_append_left _ (List.mem_of_getElem? (i := 64) (by decide +kernel))) rfl
theorem s_65 : Cond.selects "SlotMatModel" ⟨"SlotMatModel", "puts", "(I)V"⟩ ⟨"SlotMatModel", "puts", "(I)V"⟩ ∈ am_WT := am_wt (List.mem_append_left _ (List.mem_of_getElem? (i := 65) (by decide +kernel))) rfl
theorem s_66 : Cond.selects "SlotMatModel" ⟨"SlotMatModel", "drops", "(I)V"⟩ ⟨"SlotMatModel", "drops", "(I)V"⟩ ∈ am_WT := am_wt (List.mem_append_left _ (List.mem_of_getElem? (i := 66) (by decide +kernel))) rfl
theorem s_67 : Cond.selects "SlotMatModel" ⟨"SlotMatModel", "isOpened", "()Z"⟩ ⟨"SlotMatModel", "isOpened", "()Z"⟩ ∈ am_WT := am_wt (List.mem_append_left _ (List.mem_of_getElem? (i := 67) (by decide +kernel))) rfl
theorem s_68 : Cond.selects "SlotMatModel" ⟨"SlotMatModel", "closes", "()V"⟩ ⟨"SlotMatModel", "closes", "()V"⟩ ∈ am_WT := am_wt (List.mem_append_left _ (List.mem_of_getElem? (i := 68) (by decide +kernel))) rfl
theorem s_69 : Cond.selects "SlotMatModel" ⟨"SlotMatModel", "need", "(Z)V"⟩ ⟨"SlotMatModel", "need", "(Z)V"⟩ ∈ am_WT := am_wt (List.mem_append_left _ (List.mem_of_getElem? (i := 69) (by decide +kernel))) rfl
theorem s_70 : Cond.selects "SlotMatModel" ⟨"SlotMatModel", "copies", "([I[I)V"⟩ ⟨"SlotMatModel", "copies", "([I[I)V"⟩ ∈ am_WT := am_wt (List.mem_append_left _ (List.mem_of_getElem? (i := 70) (by decide +kernel))) rfl
theorem s_71 : Cond.selects "SlotMatModel" ⟨"SlotMatModel", "wetIn", "(I)I"⟩ ⟨"SlotMatModel", "wetIn", "(I)I"⟩ ∈ am_WT := am_wt (List.mem_append_left _ (List.mem_of_getElem? (i := 71) (by decide +kernel))) rfl
theorem s_72 : Cond.selects "SlotMatModel" ⟨"SlotMatModel", "comesOn", "(I)I"⟩ ⟨"SlotMatModel", "comesOn", "(I)I"⟩ ∈ am_WT := am_wt (List.mem_append_left _ (List.mem_of_getElem? (i := 72) (by decide +kernel))) rfl
theorem s_73 : Cond.selects "SlotMatModel" ⟨"SlotMatModel", "heldAll", "(I)I"⟩ ⟨"SlotMatModel", "heldAll", "(I)I"⟩ ∈ am_WT := am_wt (List.mem_append_left _ (List.mem_of_getElem? (i := 73) (by decide +kernel))) rfl
theorem s_74 : Cond.selects "SlotMatModel" ⟨"SlotMatModel", "heldIn", "(II)I"⟩ ⟨"SlotMatModel", "heldIn", "(II)I"⟩ ∈ am_WT := am_wt (List.mem_append_left _ (List.mem_of_getElem? (i := 74) (by decide +kernel))) rfl
theorem s_75 : Cond.selects "SlotMatModel" ⟨"SlotMatModel", "sumOf", "(II)I"⟩ ⟨"SlotMatModel", "sumOf", "(II)I"⟩ ∈ am_WT := am_wt (List.mem_append_left _ (List.mem_of_getElem? (i := 75) (by decide +kernel))) rfl
theorem s_76 : Cond.selects "SlotMatModel" ⟨"SlotMatModel", "mutual", "()I"⟩ ⟨"SlotMatModel", "mutual", "()I"⟩ ∈ am_WT := am_wt (List.mem_append_left _ (List.mem_of_getElem? (i := 76) (by decide +kernel))) rfl
theorem s_77 : Cond.selects "SlotMatModel" ⟨"SlotMatModel", "unthought", "()I"⟩ ⟨"SlotMatModel", "unthought", "()I"⟩ ∈ am_WT := am_wt (List.mem_append_left _ (List.mem_of_getElem? (i := 77) (by decide +kernel))) rfl
theorem s_78 : Cond.selects "SlotMatModel" ⟨"SlotMatModel", "fansOf", "(I)I"⟩ ⟨"SlotMatModel", "fansOf", "(I)I"⟩ ∈ am_WT := am_wt (List.mem_append_left _ (List.mem_of_getElem? (i := 78) (by decide +kernel))) rfl
theorem s_79 : Cond.selects "SlotMatModel" ⟨"SlotMatModel", "isBox", "(I)Z"⟩ ⟨"SlotMatModel", "isBox", "(I)Z"⟩ ∈ am_WT := am_wt (List.mem_append_left _ (List.mem_of_getElem? (i := 79) (by decide +kernel))) rfl
theorem s_80 : Cond.selects "SlotMatModel" ⟨"SlotMatModel", "isWhat", "(II)Z"⟩ ⟨"SlotMatModel", "isWhat", "(II)Z"⟩ ∈ am_WT := am_wt (List.mem_append_left _ (List.mem_of_getElem? (i := 80) (by decide +kernel))) rfl
theorem s_81 : Cond.selects "SlotMatModel" ⟨"SlotMatModel", "nearBy", "(I)I"⟩ ⟨"SlotMatModel", "nearBy", "(I)I"⟩ ∈ am_WT := am_wt (List.mem_append_left _ (List.mem_of_getElem? (i := 81) (by decide +kernel))) rfl
theorem s_82 : Cond.selects "SlotMatModel" ⟨"SlotMatModel", "boxOf", "(I)I"⟩ ⟨"SlotMatModel", "boxOf", "(I)I"⟩ ∈ am_WT := am_wt (List.mem_append_left _ (List.mem_of_getElem? (i := 82) (by decide +kernel))) rfl
theorem s_83 : Cond.selects "SlotMatModel" ⟨"SlotMatModel", "farthest", "(I)I"⟩ ⟨"SlotMatModel", "farthest", "(I)I"⟩ ∈ am_WT := am_wt (List.mem_append_left _ (List.mem_of_getElem? (i := 83) (by decide +kernel))) rfl
theorem s_84 : Cond.selects "SlotMatModel" ⟨"SlotMatModel", "isPerson", "(I)Z"⟩ ⟨"SlotMatModel", "isPerson", "(I)Z"⟩ ∈ am_WT := am_wt (List.mem_append_left _ (List.mem_of_getElem? (i := 84) (by decide +kernel))) rfl
theorem s_85 : Cond.selects "SlotMatModel" ⟨"SlotMatModel", "refuses", "(I)I"⟩ ⟨"SlotMatModel", "refuses", "(I)I"⟩ ∈ am_WT := am_wt (List.mem_append_left _ (List.mem_of_getElem? (i := 85) (by decide +kernel))) rfl
theorem s_86 : Cond.selects "SlotMatModel" ⟨"SlotMatModel", "keeps", "()V"⟩ ⟨"SlotMatModel", "keeps", "()V"⟩ ∈ am_WT := am_wt (List.mem_append_left _ (List.mem_of_getElem? (i := 86) (by decide +kernel))) rfl
theorem s_87 : Cond.selects "SlotMatModel" ⟨"SlotMatModel", "dayGoes", "(I)V"⟩ ⟨"SlotMatModel", "dayGoes", "(I)V"⟩ ∈ am_WT := am_wt (List.mem_append_left _ (List.mem_of_getElem? (i := 87) (by decide +kernel))) rfl
theorem s_88 : Cond.selects "SlotMatModel" ⟨"SlotMatModel", "thinks", "(II)V"⟩ ⟨"SlotMatModel", "thinks", "(II)V"⟩ ∈ am_WT := am_wt (List.mem_append_left _ (List.mem_of_getElem? (i := 88) (by decide +kernel))) rfl
theorem s_89 : Cond.selects "SlotMatModel" ⟨"SlotMatModel", "thinksInto", "(III)I"⟩ ⟨"SlotMatModel", "thinksInto", "(III)I"⟩ ∈ am_WT := am_wt (List.mem_append_left _ (List.mem_of_getElem? (i := 89) (by decide +kernel))) rfl
theorem s_90 : Cond.selects "SlotMatModel" ⟨"SlotMatModel", "reckons", "(I)I"⟩ ⟨"SlotMatModel", "reckons", "(I)I"⟩ ∈ am_WT := am_wt (List.mem_append_left _ (List.mem_of_getElem? (i := 90) (by decide +kernel))) rfl
theorem s_91 : Cond.selects "SlotMatModel" ⟨"SlotMatModel", "fetches", "(II)V"⟩ ⟨"SlotMatModel", "fetches", "(II)V"⟩ ∈ am_WT := am_wt (List.mem_append_left _ (List.mem_of_getElem? (i := 91) (by decide +kernel))) rfl
theorem s_92 : Cond.selects "SlotMatModel" ⟨"SlotMatModel", "soundsBy", "(IIII)I"⟩ ⟨"SlotMatModel", "soundsBy", "(IIII)I"⟩ ∈ am_WT := am_wt (List.mem_append_left _ (List.mem_of_getElem? (i := 92) (by decide +kernel))) rfl
theorem s_93 : Cond.selects "SlotMatModel" ⟨"SlotMatModel", "hears", "(III)V"⟩ ⟨"SlotMatModel", "hears", "(III)V"⟩ ∈ am_WT := am_wt (List.mem_append_left _ (List.mem_of_getElem? (i := 93) (by decide +kernel))) rfl
theorem s_94 : Cond.selects "SlotMatModel" ⟨"SlotMatModel", "writes", "(II)V"⟩ ⟨"SlotMatModel", "writes", "(II)V"⟩ ∈ am_WT := am_wt (List.mem_append_left _ (List.mem_of_getElem? (i := 94) (by decide +kernel))) rfl
theorem s_95 : Cond.selects "SlotMatModel" ⟨"SlotMatModel", "heldOf", "(II)I"⟩ ⟨"SlotMatModel", "heldOf", "(II)I"⟩ ∈ am_WT := am_wt (List.mem_append_left _ (List.mem_of_getElem? (i := 95) (by decide +kernel))) rfl
theorem s_96 : Cond.selects "SlotMatModel" ⟨"SlotMatModel", "isDays", "(III)Z"⟩ ⟨"SlotMatModel", "isDays", "(III)Z"⟩ ∈ am_WT := am_wt (List.mem_append_left _ (List.mem_of_getElem? (i := 96) (by decide +kernel))) rfl
theorem s_97 : Cond.selects "SlotMatModel" ⟨"SlotMatModel", "goesTo", "(I)V"⟩ ⟨"SlotMatModel", "goesTo", "(I)V"⟩ ∈ am_WT := am_wt (List.mem_append_left _ (List.mem_of_getElem? (i := 97) (by decide +kernel))) rfl
theorem s_98 : Cond.selects "SlotMatModel" ⟨"SlotMatModel", "tries", "()V"⟩ ⟨"SlotMatModel", "tries", "()V"⟩ ∈ am_WT := am_wt (List.mem_append_left _ (List.mem_of_getElem? (i := 98) (by decide +kernel))) rfl
theorem s_99 : Cond.selects "SlotMatModel" ⟨"SlotMatModel", "daysGo", "(I)V"⟩ ⟨"SlotMatModel", "daysGo", "(I)V"⟩ ∈ am_WT := am_wt (List.mem_append_left _ (List.mem_of_getElem? (i := 99) (by decide +kernel))) rfl
theorem s_100 : Cond.selects "SlotMatModel" ⟨"SlotMatModel", "fullest", "()I"⟩ ⟨"SlotMatModel", "fullest", "()I"⟩ ∈ am_WT := am_wt (List.mem_append_left _ (List.mem_of_getElem? (i := 100) (by decide +kernel))) rfl
theorem s_101 : Cond.selects "SlotMatModel" ⟨"SlotMatModel", "mostOf", "(I)I"⟩ ⟨"SlotMatModel", "mostOf", "(I)I"⟩ ∈ am_WT := am_wt (List.mem_append_left _ (List.mem_of_getElem? (i := 101) (by decide +kernel))) rfl
theorem s_102 : Cond.selects "SlotMatModel" ⟨"SlotMatModel", "emptyOnes", "()I"⟩ ⟨"SlotMatModel", "emptyOnes", "()I"⟩ ∈ am_WT := am_wt (List.mem_append_left _ (List.mem_of_getElem? (i := 102) (by decide +kernel))) rfl
theorem s_103 : Cond.selects "SlotMatModel" ⟨"SlotMatModel", "goesOnFrom", "(I)I"⟩ ⟨"SlotMatModel", "goesOnFrom", "(I)I"⟩ ∈ am_WT := am_wt (List.mem_append_left _ (List.mem_of_getElem? (i := 103) (by decide +kernel))) rfl
theorem s_104 : Cond.selects "SlotMatModel" ⟨"SlotMatModel", "bestPlace", "(Z)I"⟩ ⟨"SlotMatModel", "bestPlace", "(Z)I"⟩ ∈ am_WT := am_wt (List.mem_append_left _ (List.mem_of_getElem? (i := 104) (by decide +kernel))) rfl
theorem s_105 : Cond.selects "SlotMatModel" ⟨"SlotMatModel", "waysTo", "(IZ)I"⟩ ⟨"SlotMatModel", "waysTo", "(IZ)I"⟩ ∈ am_WT := am_wt (List.mem_append_left _ (List.mem_of_getElem? (i := 105) (by decide +kernel))) rfl
theorem s_106 : Cond.selects "SlotMatModel" ⟨"SlotMatModel", "nextOrder", "()Z"⟩ ⟨"SlotMatModel", "nextOrder", "()Z"⟩ ∈ am_WT := am_wt (List.mem_append_left _ (List.mem_of_getElem? (i := 106) (by decide +kernel))) rfl
theorem s_107 : Cond.selects "SlotMatModel" ⟨"SlotMatModel", "swaps", "(II)V"⟩ ⟨"SlotMatModel", "swaps", "(II)V"⟩ ∈ am_WT := am_wt (List.mem_append_left _ (List.mem_of_getElem? (i := 107) (by decide +kernel))) rfl
theorem s_108 : Cond.selects "SlotMatModel" ⟨"SlotMatModel", "isNoted", "()Z"⟩ ⟨"SlotMatModel", "isNoted", "()Z"⟩ ∈ am_WT := am_wt (List.mem_append_left _ (List.mem_of_getElem? (i := 108) (by decide +kernel))) rfl
theorem s_109 : Cond.selects "SlotMatModel" ⟨"SlotMatModel", "isGuess", "(I)Z"⟩ ⟨"SlotMatModel", "isGuess", "(I)Z"⟩ ∈ am_WT := am_wt (List.mem_append_left _ (List.mem_of_getElem? (i := 109) (by decide +kernel))) rfl
theorem s_110 : Cond.selects "SlotMatModel" ⟨"SlotMatModel", "gains", "(IIII)I"⟩ ⟨"SlotMatModel", "gains", "(IIII)I"⟩ ∈ am_WT := am_wt (List.mem_append_left _ (List.mem_of_getElem? (i := 110) (by decide +kernel))) rfl
theorem s_111 : Cond.selects "SlotMatModel" ⟨"SlotMatModel", "draw", "(I)I"⟩ ⟨"SlotMatModel", "draw", "(I)I"⟩ ∈ am_WT := am_wt (List.mem_append_left _ (List.mem_of_getElem? (i := 111) (by decide +kernel))) rfl
theorem s_112 : Cond.selects "SlotMatModel" ⟨"SlotMatModel", "happens", "()V"⟩ ⟨"SlotMatModel", "happens", "()V"⟩ ∈ am_WT := am_wt (List.mem_append_left _ (List.mem_of_getElem? (i := 112) (by decide +kernel))) rfl
