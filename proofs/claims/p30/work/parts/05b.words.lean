section ZWORDS
set_option maxRecDepth 100000
theorem zw_0 : Cond.selects "ShipLanterns" ⟨"ShipLanterns", "isBox", "(I)Z"⟩ ⟨"ShipLanterns", "isBox", "(I)Z"⟩ ∈ zG := zG_mem 0 rfl rfl
theorem zw_1 : Cond.selects "java/lang/Throwable" ⟨"java/lang/Throwable", "fillInStackTrace", "(I)Ljava/lang/Throwable;"⟩ ⟨"java/lang/Throwable", "fillInStackTrace", "(I)Ljava/lang/Throwable;"⟩ ∈ zG := zG_mem 1 rfl rfl
theorem zw_2 : Cond.selects "ShipLanterns" ⟨"ShipLanterns", "boxProperty", "(II)I"⟩ ⟨"ShipLanterns", "boxProperty", "(II)I"⟩ ∈ zG := zG_mem 2 rfl rfl
theorem zw_3 : Cond.selects "ShipLanterns" ⟨"ShipLanterns", "lanternsBurningAt", "(I)I"⟩ ⟨"ShipLanterns", "lanternsBurningAt", "(I)I"⟩ ∈ zG := zG_mem 3 rfl rfl
theorem zw_4 : Cond.selects "ShipLanterns" ⟨"ShipLanterns", "unitsAt", "(I)I"⟩ ⟨"ShipLanterns", "unitsAt", "(I)I"⟩ ∈ zG := zG_mem 4 rfl rfl
theorem zw_5 : Cond.selects "ShipLanterns" ⟨"ShipLanterns", "terminalProperty", "(III)I"⟩ ⟨"ShipLanterns", "terminalProperty", "(III)I"⟩ ∈ zG := zG_mem 5 rfl rfl
theorem zw_6 : Cond.selects "ShipLanterns" ⟨"ShipLanterns", "strengthsAt", "(II)I"⟩ ⟨"ShipLanterns", "strengthsAt", "(II)I"⟩ ∈ zG := zG_mem 6 rfl rfl
theorem zw_7 : Cond.selects "ShipLanterns" ⟨"ShipLanterns", "isLantern", "(I)Z"⟩ ⟨"ShipLanterns", "isLantern", "(I)Z"⟩ ∈ zG := zG_mem 7 rfl rfl
theorem zw_8 : Cond.selects "ShipLanterns" ⟨"ShipLanterns", "lanternProperty", "(II)I"⟩ ⟨"ShipLanterns", "lanternProperty", "(II)I"⟩ ∈ zG := zG_mem 8 rfl rfl
theorem zw_9 : Cond.selects "ShipLanterns" ⟨"ShipLanterns", "darkReason", "(I)I"⟩ ⟨"ShipLanterns", "darkReason", "(I)I"⟩ ∈ zG := zG_mem 9 rfl rfl
theorem zw_10 : Cond.selects "ShipLanterns" ⟨"ShipLanterns", "isFault", "(I)Z"⟩ ⟨"ShipLanterns", "isFault", "(I)Z"⟩ ∈ zG := zG_mem 10 rfl rfl
theorem zw_11 : Cond.selects "ShipLanterns" ⟨"ShipLanterns", "faultProperty", "(II)I"⟩ ⟨"ShipLanterns", "faultProperty", "(II)I"⟩ ∈ zG := zG_mem 11 rfl rfl
theorem zw_12 : Cond.selects "ShipLanterns" ⟨"ShipLanterns", "countOf", "(I)I"⟩ ⟨"ShipLanterns", "countOf", "(I)I"⟩ ∈ zG := zG_mem 12 rfl rfl
theorem zw_13 : Cond.selects "ShipLanterns$Survey" ⟨"ShipLanterns$Survey", "clearSums", "(I)V"⟩ ⟨"ShipLanterns$Survey", "clearSums", "(I)V"⟩ ∈ zG := zG_mem 13 rfl rfl
theorem zw_14 : Cond.selects "ShipLanterns$Survey" ⟨"ShipLanterns$Survey", "followCables", "(LShipLanterns$Cables;)V"⟩ ⟨"ShipLanterns$Survey", "followCables", "(LShipLanterns$Cables;)V"⟩ ∈ zG := zG_mem 14 rfl rfl
theorem zw_15 : Cond.selects "ShipLanterns$Survey" ⟨"ShipLanterns$Survey", "findBurning", "(LShipLanterns$Lanterns;)V"⟩ ⟨"ShipLanterns$Survey", "findBurning", "(LShipLanterns$Lanterns;)V"⟩ ∈ zG := zG_mem 15 rfl rfl
theorem zw_16 : Cond.selects "ShipLanterns$Survey" ⟨"ShipLanterns$Survey", "findStrengths", "(LShipLanterns$Faults;)V"⟩ ⟨"ShipLanterns$Survey", "findStrengths", "(LShipLanterns$Faults;)V"⟩ ∈ zG := zG_mem 16 rfl rfl
theorem zw_17 : Cond.selects "ShipLanterns$Survey" ⟨"ShipLanterns$Survey", "sumUpStrengths", "(LShipLanterns$Cables;)V"⟩ ⟨"ShipLanterns$Survey", "sumUpStrengths", "(LShipLanterns$Cables;)V"⟩ ∈ zG := zG_mem 17 rfl rfl
theorem zw_18 : Cond.selects "ShipLanterns$Survey" ⟨"ShipLanterns$Survey", "shareLeak", "(LShipLanterns$Faults;I)V"⟩ ⟨"ShipLanterns$Survey", "shareLeak", "(LShipLanterns$Faults;I)V"⟩ ∈ zG := zG_mem 18 rfl rfl
theorem zw_19 : Cond.selects "ShipLanterns$Survey" ⟨"ShipLanterns$Survey", "sumUpCurrents", "(LShipLanterns$Cables;)V"⟩ ⟨"ShipLanterns$Survey", "sumUpCurrents", "(LShipLanterns$Cables;)V"⟩ ∈ zG := zG_mem 19 rfl rfl
theorem zw_20 : Cond.selects "ShipLanterns" ⟨"ShipLanterns", "isFedBox", "(I)Z"⟩ ⟨"ShipLanterns", "isFedBox", "(I)Z"⟩ ∈ zG := zG_mem 20 rfl rfl
theorem zw_21 : Cond.selects "ShipLanterns" ⟨"ShipLanterns", "burningIfToggled", "(I)I"⟩ ⟨"ShipLanterns", "burningIfToggled", "(I)I"⟩ ∈ zG := zG_mem 21 rfl rfl
theorem zw_22 : Cond.selects "ShipLanterns" ⟨"ShipLanterns", "surveyWithWholeFuses", "()V"⟩ ⟨"ShipLanterns", "surveyWithWholeFuses", "()V"⟩ ∈ zG := zG_mem 22 rfl rfl
theorem zw_23 : Cond.selects "ShipLanterns" ⟨"ShipLanterns", "boxesChangingLamp", "(I)I"⟩ ⟨"ShipLanterns", "boxesChangingLamp", "(I)I"⟩ ∈ zG := zG_mem 23 rfl rfl
theorem zw_24 : Cond.selects "ShipLanterns$History" ⟨"ShipLanterns$History", "dropOldest", "()V"⟩ ⟨"ShipLanterns$History", "dropOldest", "()V"⟩ ∈ zG := zG_mem 24 rfl rfl
theorem zw_25 : (Jvm.Cond.initialized "ShipLanternsLaw") ∈ zG := zG_mem 25 rfl rfl
theorem zw_26 : (Jvm.Cond.initialized "ShipLanterns") ∈ zG := zG_mem 26 rfl rfl
theorem zw_27 : (Jvm.Cond.initialized "ShipLanterns$Ship") ∈ zG := zG_mem 27 rfl rfl
theorem zw_28 : (Jvm.Cond.initialized "ShipLanterns$Cables") ∈ zG := zG_mem 28 rfl rfl
theorem zw_29 : (Jvm.Cond.initialized "ShipLanterns$Lanterns") ∈ zG := zG_mem 29 rfl rfl
theorem zw_30 : (Jvm.Cond.initialized "ShipLanterns$Faults") ∈ zG := zG_mem 30 rfl rfl
theorem zw_31 : (Jvm.Cond.initialized "ShipLanterns$Survey") ∈ zG := zG_mem 31 rfl rfl
theorem zw_32 : (Jvm.Cond.initialized "ShipLanterns$History") ∈ zG := zG_mem 32 rfl rfl
theorem zw_33 : (Jvm.Cond.initialized "ShipLanterns$PartReader") ∈ zG := zG_mem 33 rfl rfl
theorem zw_34 : (Jvm.Cond.initialized "java/lang/Throwable") ∈ zG := zG_mem 34 rfl rfl
theorem zw_35 : (Jvm.Cond.initialized "java/lang/Exception") ∈ zG := zG_mem 35 rfl rfl
theorem zw_36 : (Jvm.Cond.initialized "java/lang/RuntimeException") ∈ zG := zG_mem 36 rfl rfl
theorem zw_37 : (Jvm.Cond.initialized "java/lang/IndexOutOfBoundsException") ∈ zG := zG_mem 37 rfl rfl
theorem zw_38 : (Jvm.Cond.initialized "java/lang/IllegalArgumentException") ∈ zG := zG_mem 38 rfl rfl
theorem zw_39 : (Jvm.Cond.initialized "java/lang/IllegalStateException") ∈ zG := zG_mem 39 rfl rfl
theorem zw_40 : (Jvm.Cond.initialized "java/lang/Math") ∈ zG := zG_mem 40 rfl rfl
theorem zw_41 : (Jvm.Cond.classLink "ShipLanternsLaw" (22 : Nat) "ShipLanterns") ∈ zG := zG_mem 41 rfl rfl
theorem zw_42 : (Jvm.Cond.instantiable "ShipLanterns" (9 : Nat)) ∈ zG := zG_mem 42 rfl rfl
theorem zw_43 : (Jvm.Cond.methodLink "ShipLanternsLaw" (102 : Nat) ({ cls := "ShipLanterns", name := "<init>", desc := "()V" } : Jvm.MethodName)) ∈ zG := zG_mem 43 rfl rfl
theorem zw_44 : (Jvm.Cond.instanceMethod ({ cls := "ShipLanterns", name := "<init>", desc := "()V" } : Jvm.MethodName)) ∈ zG := zG_mem 44 rfl rfl
theorem zw_45 : (Jvm.Cond.code ({ cls := "ShipLanterns", name := "<init>", desc := "()V" } : Jvm.MethodName) prog_1_method_1_code (1 : Nat) (Option.none : Option Jvm.ClassFile.FieldType)) ∈ zG := zG_mem 45 rfl rfl
theorem zw_46 : (Jvm.Cond.methodLink "ShipLanterns" (3 : Nat) ({ cls := "java/lang/Object", name := "<init>", desc := "()V" } : Jvm.MethodName)) ∈ zG := zG_mem 46 rfl rfl
theorem zw_47 : (Jvm.Cond.instanceMethod ({ cls := "java/lang/Object", name := "<init>", desc := "()V" } : Jvm.MethodName)) ∈ zG := zG_mem 47 rfl rfl
theorem zw_48 : (Jvm.Cond.code ({ cls := "java/lang/Object", name := "<init>", desc := "()V" } : Jvm.MethodName) object_method_1_code (1 : Nat) (Option.none : Option Jvm.ClassFile.FieldType)) ∈ zG := zG_mem 48 rfl rfl
theorem zw_49 : (Jvm.Cond.classLink "ShipLanterns" (9 : Nat) "ShipLanterns$Ship") ∈ zG := zG_mem 49 rfl rfl
theorem zw_50 : (Jvm.Cond.instantiable "ShipLanterns$Ship" (8 : Nat)) ∈ zG := zG_mem 50 rfl rfl
theorem zw_52 : (Jvm.Cond.instanceMethod ({ cls := "ShipLanterns$Ship", name := "<init>", desc := "()V" } : Jvm.MethodName)) ∈ zG := zG_mem 52 rfl rfl
theorem zw_53 : (Jvm.Cond.code ({ cls := "ShipLanterns$Ship", name := "<init>", desc := "()V" } : Jvm.MethodName) prog_7_method_1_code (1 : Nat) (Option.none : Option Jvm.ClassFile.FieldType)) ∈ zG := zG_mem 53 rfl rfl
theorem zw_54 : (Jvm.Cond.methodLink "ShipLanterns$Ship" (3 : Nat) ({ cls := "java/lang/Object", name := "<init>", desc := "()V" } : Jvm.MethodName)) ∈ zG := zG_mem 54 rfl rfl
theorem zw_55 : (Jvm.Cond.classLink "ShipLanterns$Ship" (9 : Nat) "ShipLanterns$Cables") ∈ zG := zG_mem 55 rfl rfl
theorem zw_56 : (Jvm.Cond.instantiable "ShipLanterns$Cables" (6 : Nat)) ∈ zG := zG_mem 56 rfl rfl
theorem zw_57 : (Jvm.Cond.methodLink "ShipLanterns$Ship" (11 : Nat) ({ cls := "ShipLanterns$Cables", name := "<init>", desc := "()V" } : Jvm.MethodName)) ∈ zG := zG_mem 57 rfl rfl
theorem zw_58 : (Jvm.Cond.instanceMethod ({ cls := "ShipLanterns$Cables", name := "<init>", desc := "()V" } : Jvm.MethodName)) ∈ zG := zG_mem 58 rfl rfl
theorem zw_59 : (Jvm.Cond.code ({ cls := "ShipLanterns$Cables", name := "<init>", desc := "()V" } : Jvm.MethodName) prog_2_method_1_code (1 : Nat) (Option.none : Option Jvm.ClassFile.FieldType)) ∈ zG := zG_mem 59 rfl rfl
theorem zw_60 : (Jvm.Cond.methodLink "ShipLanterns$Cables" (3 : Nat) ({ cls := "java/lang/Object", name := "<init>", desc := "()V" } : Jvm.MethodName)) ∈ zG := zG_mem 60 rfl rfl
theorem zw_61 : (Jvm.Cond.fieldLink "ShipLanterns$Cables" (9 : Nat) "ShipLanterns$Cables" "boxes" "I") ∈ zG := zG_mem 61 rfl rfl
theorem zw_62 : (Jvm.Cond.fieldLink "ShipLanterns$Survey" (56 : Nat) "ShipLanterns$Cables" "boxes" "I") ∈ zG := zG_mem 62 rfl rfl
theorem zw_63 : (Jvm.Cond.fieldLink "ShipLanterns" (77 : Nat) "ShipLanterns$Cables" "boxes" "I") ∈ zG := zG_mem 63 rfl rfl
theorem zw_64 : (Jvm.Cond.fieldLink "ShipLanterns$Cables" (15 : Nat) "ShipLanterns$Cables" "parent" "[I") ∈ zG := zG_mem 64 rfl rfl
theorem zw_65 : (Jvm.Cond.fieldLink "ShipLanterns$Survey" (115 : Nat) "ShipLanterns$Cables" "parent" "[I") ∈ zG := zG_mem 65 rfl rfl
theorem zw_66 : (Jvm.Cond.fieldLink "ShipLanterns" (351 : Nat) "ShipLanterns$Cables" "parent" "[I") ∈ zG := zG_mem 66 rfl rfl
theorem zw_67 : (Jvm.Cond.fieldLink "ShipLanterns$Cables" (19 : Nat) "ShipLanterns$Cables" "crossed" "[Z") ∈ zG := zG_mem 67 rfl rfl
theorem zw_68 : (Jvm.Cond.fieldLink "ShipLanterns" (112 : Nat) "ShipLanterns$Cables" "crossed" "[Z") ∈ zG := zG_mem 68 rfl rfl
theorem zw_69 : (Jvm.Cond.fieldLink "ShipLanterns$Cables" (23 : Nat) "ShipLanterns$Cables" "closed" "[Z") ∈ zG := zG_mem 69 rfl rfl
theorem zw_70 : (Jvm.Cond.fieldLink "ShipLanterns" (104 : Nat) "ShipLanterns$Cables" "closed" "[Z") ∈ zG := zG_mem 70 rfl rfl
theorem zw_71 : (Jvm.Cond.fieldLink "ShipLanterns$Survey" (118 : Nat) "ShipLanterns$Cables" "closed" "[Z") ∈ zG := zG_mem 71 rfl rfl
theorem zw_72 : (Jvm.Cond.fieldLink "ShipLanterns$Cables" (26 : Nat) "ShipLanterns$Cables" "rating" "[I") ∈ zG := zG_mem 72 rfl rfl
theorem zw_73 : (Jvm.Cond.fieldLink "ShipLanterns" (128 : Nat) "ShipLanterns$Cables" "rating" "[I") ∈ zG := zG_mem 73 rfl rfl
theorem zw_74 : (Jvm.Cond.fieldLink "ShipLanterns$Survey" (112 : Nat) "ShipLanterns$Cables" "rating" "[I") ∈ zG := zG_mem 74 rfl rfl
theorem zw_75 : (Jvm.Cond.fieldLink "ShipLanterns$Cables" (29 : Nat) "ShipLanterns$Cables" "blown" "[Z") ∈ zG := zG_mem 75 rfl rfl
theorem zw_76 : (Jvm.Cond.fieldLink "ShipLanterns" (131 : Nat) "ShipLanterns$Cables" "blown" "[Z") ∈ zG := zG_mem 76 rfl rfl
theorem zw_77 : (Jvm.Cond.fieldLink "ShipLanterns$Survey" (124 : Nat) "ShipLanterns$Cables" "blown" "[Z") ∈ zG := zG_mem 77 rfl rfl
theorem zw_78 : (Jvm.Cond.lays "ShipLanterns$Cables" "ShipLanterns$Cables" "boxes" "I") ∈ zG := zG_mem 78 rfl rfl
theorem zw_80 : (Jvm.Cond.laysFinal "ShipLanterns$Cables" "ShipLanterns$Cables" "parent" "[I") ∈ zG := zG_mem 80 rfl rfl
theorem zw_82 : (Jvm.Cond.laysFinal "ShipLanterns$Cables" "ShipLanterns$Cables" "crossed" "[Z") ∈ zG := zG_mem 82 rfl rfl
theorem zw_84 : (Jvm.Cond.laysFinal "ShipLanterns$Cables" "ShipLanterns$Cables" "closed" "[Z") ∈ zG := zG_mem 84 rfl rfl
theorem zw_86 : (Jvm.Cond.laysFinal "ShipLanterns$Cables" "ShipLanterns$Cables" "rating" "[I") ∈ zG := zG_mem 86 rfl rfl
theorem zw_88 : (Jvm.Cond.laysFinal "ShipLanterns$Cables" "ShipLanterns$Cables" "blown" "[Z") ∈ zG := zG_mem 88 rfl rfl
theorem zw_91 : (Jvm.Cond.arrayClass Jvm.ClassFile.FieldType.int) ∈ zG := zG_mem 91 rfl rfl
theorem zw_92 : (Jvm.Cond.arrayClass Jvm.ClassFile.FieldType.boolean) ∈ zG := zG_mem 92 rfl rfl
theorem zw_93 : (Jvm.Cond.classLink "ShipLanterns$Ship" (18 : Nat) "ShipLanterns$Lanterns") ∈ zG := zG_mem 93 rfl rfl
theorem zw_94 : (Jvm.Cond.instantiable "ShipLanterns$Lanterns" (4 : Nat)) ∈ zG := zG_mem 94 rfl rfl
theorem zw_96 : (Jvm.Cond.instanceMethod ({ cls := "ShipLanterns$Lanterns", name := "<init>", desc := "()V" } : Jvm.MethodName)) ∈ zG := zG_mem 96 rfl rfl
theorem zw_97 : (Jvm.Cond.code ({ cls := "ShipLanterns$Lanterns", name := "<init>", desc := "()V" } : Jvm.MethodName) prog_5_method_1_code (1 : Nat) (Option.none : Option Jvm.ClassFile.FieldType)) ∈ zG := zG_mem 97 rfl rfl
theorem zw_98 : (Jvm.Cond.methodLink "ShipLanterns$Lanterns" (3 : Nat) ({ cls := "java/lang/Object", name := "<init>", desc := "()V" } : Jvm.MethodName)) ∈ zG := zG_mem 98 rfl rfl
theorem zw_99 : (Jvm.Cond.fieldLink "ShipLanterns$Lanterns" (9 : Nat) "ShipLanterns$Lanterns" "many" "I") ∈ zG := zG_mem 99 rfl rfl
theorem zw_100 : (Jvm.Cond.fieldLink "ShipLanterns" (146 : Nat) "ShipLanterns$Lanterns" "many" "I") ∈ zG := zG_mem 100 rfl rfl
theorem zw_101 : (Jvm.Cond.fieldLink "ShipLanterns$Survey" (127 : Nat) "ShipLanterns$Lanterns" "many" "I") ∈ zG := zG_mem 101 rfl rfl
theorem zw_102 : (Jvm.Cond.fieldLink "ShipLanterns$Lanterns" (15 : Nat) "ShipLanterns$Lanterns" "box" "[I") ∈ zG := zG_mem 102 rfl rfl
theorem zw_103 : (Jvm.Cond.fieldLink "ShipLanterns$Survey" (132 : Nat) "ShipLanterns$Lanterns" "box" "[I") ∈ zG := zG_mem 103 rfl rfl
theorem zw_104 : (Jvm.Cond.fieldLink "ShipLanterns" (366 : Nat) "ShipLanterns$Lanterns" "box" "[I") ∈ zG := zG_mem 104 rfl rfl
theorem zw_105 : (Jvm.Cond.fieldLink "ShipLanterns$Lanterns" (19 : Nat) "ShipLanterns$Lanterns" "units" "[I") ∈ zG := zG_mem 105 rfl rfl
theorem zw_106 : (Jvm.Cond.fieldLink "ShipLanterns$Survey" (138 : Nat) "ShipLanterns$Lanterns" "units" "[I") ∈ zG := zG_mem 106 rfl rfl
theorem zw_107 : (Jvm.Cond.fieldLink "ShipLanterns" (369 : Nat) "ShipLanterns$Lanterns" "units" "[I") ∈ zG := zG_mem 107 rfl rfl
theorem zw_108 : (Jvm.Cond.fieldLink "ShipLanterns$Lanterns" (22 : Nat) "ShipLanterns$Lanterns" "particular" "[Z") ∈ zG := zG_mem 108 rfl rfl
theorem zw_109 : (Jvm.Cond.fieldLink "ShipLanterns$Survey" (135 : Nat) "ShipLanterns$Lanterns" "particular" "[Z") ∈ zG := zG_mem 109 rfl rfl
theorem zw_110 : (Jvm.Cond.fieldLink "ShipLanterns" (385 : Nat) "ShipLanterns$Lanterns" "particular" "[Z") ∈ zG := zG_mem 110 rfl rfl
theorem zw_111 : (Jvm.Cond.lays "ShipLanterns$Lanterns" "ShipLanterns$Lanterns" "many" "I") ∈ zG := zG_mem 111 rfl rfl
theorem zw_113 : (Jvm.Cond.laysFinal "ShipLanterns$Lanterns" "ShipLanterns$Lanterns" "box" "[I") ∈ zG := zG_mem 113 rfl rfl
theorem zw_115 : (Jvm.Cond.laysFinal "ShipLanterns$Lanterns" "ShipLanterns$Lanterns" "units" "[I") ∈ zG := zG_mem 115 rfl rfl
theorem zw_117 : (Jvm.Cond.laysFinal "ShipLanterns$Lanterns" "ShipLanterns$Lanterns" "particular" "[Z") ∈ zG := zG_mem 117 rfl rfl
theorem zw_120 : (Jvm.Cond.classLink "ShipLanterns$Ship" (25 : Nat) "ShipLanterns$Faults") ∈ zG := zG_mem 120 rfl rfl
theorem zw_121 : (Jvm.Cond.instantiable "ShipLanterns$Faults" (4 : Nat)) ∈ zG := zG_mem 121 rfl rfl
theorem zw_123 : (Jvm.Cond.instanceMethod ({ cls := "ShipLanterns$Faults", name := "<init>", desc := "()V" } : Jvm.MethodName)) ∈ zG := zG_mem 123 rfl rfl
theorem zw_124 : (Jvm.Cond.code ({ cls := "ShipLanterns$Faults", name := "<init>", desc := "()V" } : Jvm.MethodName) prog_3_method_1_code (1 : Nat) (Option.none : Option Jvm.ClassFile.FieldType)) ∈ zG := zG_mem 124 rfl rfl
theorem zw_125 : (Jvm.Cond.methodLink "ShipLanterns$Faults" (3 : Nat) ({ cls := "java/lang/Object", name := "<init>", desc := "()V" } : Jvm.MethodName)) ∈ zG := zG_mem 125 rfl rfl
theorem zw_126 : (Jvm.Cond.fieldLink "ShipLanterns$Faults" (9 : Nat) "ShipLanterns$Faults" "many" "I") ∈ zG := zG_mem 126 rfl rfl
theorem zw_127 : (Jvm.Cond.fieldLink "ShipLanterns" (179 : Nat) "ShipLanterns$Faults" "many" "I") ∈ zG := zG_mem 127 rfl rfl
theorem zw_128 : (Jvm.Cond.fieldLink "ShipLanterns$Survey" (141 : Nat) "ShipLanterns$Faults" "many" "I") ∈ zG := zG_mem 128 rfl rfl
theorem zw_129 : (Jvm.Cond.fieldLink "ShipLanterns$Faults" (15 : Nat) "ShipLanterns$Faults" "box" "[I") ∈ zG := zG_mem 129 rfl rfl
theorem zw_130 : (Jvm.Cond.fieldLink "ShipLanterns$Survey" (144 : Nat) "ShipLanterns$Faults" "box" "[I") ∈ zG := zG_mem 130 rfl rfl
theorem zw_131 : (Jvm.Cond.fieldLink "ShipLanterns" (381 : Nat) "ShipLanterns$Faults" "box" "[I") ∈ zG := zG_mem 131 rfl rfl
theorem zw_132 : (Jvm.Cond.fieldLink "ShipLanterns$Faults" (19 : Nat) "ShipLanterns$Faults" "terminal" "[I") ∈ zG := zG_mem 132 rfl rfl
theorem zw_133 : (Jvm.Cond.fieldLink "ShipLanterns$Survey" (145 : Nat) "ShipLanterns$Faults" "terminal" "[I") ∈ zG := zG_mem 133 rfl rfl
theorem zw_134 : (Jvm.Cond.fieldLink "ShipLanterns" (382 : Nat) "ShipLanterns$Faults" "terminal" "[I") ∈ zG := zG_mem 134 rfl rfl
theorem zw_135 : (Jvm.Cond.fieldLink "ShipLanterns$Faults" (22 : Nat) "ShipLanterns$Faults" "strength" "[I") ∈ zG := zG_mem 135 rfl rfl
theorem zw_136 : (Jvm.Cond.fieldLink "ShipLanterns" (192 : Nat) "ShipLanterns$Faults" "strength" "[I") ∈ zG := zG_mem 136 rfl rfl
theorem zw_137 : (Jvm.Cond.fieldLink "ShipLanterns$Survey" (148 : Nat) "ShipLanterns$Faults" "strength" "[I") ∈ zG := zG_mem 137 rfl rfl
theorem zw_138 : (Jvm.Cond.lays "ShipLanterns$Faults" "ShipLanterns$Faults" "many" "I") ∈ zG := zG_mem 138 rfl rfl
theorem zw_140 : (Jvm.Cond.laysFinal "ShipLanterns$Faults" "ShipLanterns$Faults" "box" "[I") ∈ zG := zG_mem 140 rfl rfl
theorem zw_142 : (Jvm.Cond.laysFinal "ShipLanterns$Faults" "ShipLanterns$Faults" "terminal" "[I") ∈ zG := zG_mem 142 rfl rfl
theorem zw_144 : (Jvm.Cond.laysFinal "ShipLanterns$Faults" "ShipLanterns$Faults" "strength" "[I") ∈ zG := zG_mem 144 rfl rfl
theorem zw_147 : (Jvm.Cond.fieldLink "ShipLanterns$Ship" (12 : Nat) "ShipLanterns$Ship" "cables" "LShipLanterns$Cables;") ∈ zG := zG_mem 147 rfl rfl
theorem zw_148 : (Jvm.Cond.fieldLink "ShipLanterns$Survey" (50 : Nat) "ShipLanterns$Ship" "cables" "LShipLanterns$Cables;") ∈ zG := zG_mem 148 rfl rfl
theorem zw_149 : (Jvm.Cond.fieldLink "ShipLanterns" (73 : Nat) "ShipLanterns$Ship" "cables" "LShipLanterns$Cables;") ∈ zG := zG_mem 149 rfl rfl
theorem zw_150 : (Jvm.Cond.fieldLink "ShipLanterns$Ship" (21 : Nat) "ShipLanterns$Ship" "lanterns" "LShipLanterns$Lanterns;") ∈ zG := zG_mem 150 rfl rfl
theorem zw_151 : (Jvm.Cond.fieldLink "ShipLanterns$Survey" (69 : Nat) "ShipLanterns$Ship" "lanterns" "LShipLanterns$Lanterns;") ∈ zG := zG_mem 151 rfl rfl
theorem zw_152 : (Jvm.Cond.fieldLink "ShipLanterns" (142 : Nat) "ShipLanterns$Ship" "lanterns" "LShipLanterns$Lanterns;") ∈ zG := zG_mem 152 rfl rfl
theorem zw_153 : (Jvm.Cond.fieldLink "ShipLanterns$Ship" (28 : Nat) "ShipLanterns$Ship" "faults" "LShipLanterns$Faults;") ∈ zG := zG_mem 153 rfl rfl
theorem zw_154 : (Jvm.Cond.fieldLink "ShipLanterns$Survey" (77 : Nat) "ShipLanterns$Ship" "faults" "LShipLanterns$Faults;") ∈ zG := zG_mem 154 rfl rfl
theorem zw_155 : (Jvm.Cond.fieldLink "ShipLanterns" (175 : Nat) "ShipLanterns$Ship" "faults" "LShipLanterns$Faults;") ∈ zG := zG_mem 155 rfl rfl
theorem zw_156 : (Jvm.Cond.fieldLink "ShipLanterns$Ship" (32 : Nat) "ShipLanterns$Ship" "spareFuses" "I") ∈ zG := zG_mem 156 rfl rfl
theorem zw_157 : (Jvm.Cond.fieldLink "ShipLanterns" (123 : Nat) "ShipLanterns$Ship" "spareFuses" "I") ∈ zG := zG_mem 157 rfl rfl
theorem zw_158 : (Jvm.Cond.fieldLink "ShipLanterns$Ship" (36 : Nat) "ShipLanterns$Ship" "blownSoFar" "I") ∈ zG := zG_mem 158 rfl rfl
theorem zw_159 : (Jvm.Cond.fieldLink "ShipLanterns" (324 : Nat) "ShipLanterns$Ship" "blownSoFar" "I") ∈ zG := zG_mem 159 rfl rfl
theorem zw_160 : (Jvm.Cond.fieldLink "ShipLanterns$Ship" (39 : Nat) "ShipLanterns$Ship" "hours" "I") ∈ zG := zG_mem 160 rfl rfl
theorem zw_161 : (Jvm.Cond.fieldLink "ShipLanterns" (198 : Nat) "ShipLanterns$Ship" "hours" "I") ∈ zG := zG_mem 161 rfl rfl
theorem zw_162 : (Jvm.Cond.fieldLink "ShipLanterns$Ship" (42 : Nat) "ShipLanterns$Ship" "used" "I") ∈ zG := zG_mem 162 rfl rfl
theorem zw_163 : (Jvm.Cond.fieldLink "ShipLanterns" (207 : Nat) "ShipLanterns$Ship" "used" "I") ∈ zG := zG_mem 163 rfl rfl
theorem zw_164 : (Jvm.Cond.fieldLink "ShipLanterns$Ship" (45 : Nat) "ShipLanterns$Ship" "lost" "I") ∈ zG := zG_mem 164 rfl rfl
theorem zw_165 : (Jvm.Cond.fieldLink "ShipLanterns" (210 : Nat) "ShipLanterns$Ship" "lost" "I") ∈ zG := zG_mem 165 rfl rfl
theorem zw_166 : (Jvm.Cond.laysFinal "ShipLanterns$Ship" "ShipLanterns$Ship" "cables" "LShipLanterns$Cables;") ∈ zG := zG_mem 166 rfl rfl
theorem zw_168 : (Jvm.Cond.laysFinal "ShipLanterns$Ship" "ShipLanterns$Ship" "lanterns" "LShipLanterns$Lanterns;") ∈ zG := zG_mem 168 rfl rfl
theorem zw_170 : (Jvm.Cond.laysFinal "ShipLanterns$Ship" "ShipLanterns$Ship" "faults" "LShipLanterns$Faults;") ∈ zG := zG_mem 170 rfl rfl
theorem zw_172 : (Jvm.Cond.lays "ShipLanterns$Ship" "ShipLanterns$Ship" "spareFuses" "I") ∈ zG := zG_mem 172 rfl rfl
theorem zw_174 : (Jvm.Cond.lays "ShipLanterns$Ship" "ShipLanterns$Ship" "blownSoFar" "I") ∈ zG := zG_mem 174 rfl rfl
theorem zw_176 : (Jvm.Cond.lays "ShipLanterns$Ship" "ShipLanterns$Ship" "hours" "I") ∈ zG := zG_mem 176 rfl rfl
theorem zw_178 : (Jvm.Cond.lays "ShipLanterns$Ship" "ShipLanterns$Ship" "used" "I") ∈ zG := zG_mem 178 rfl rfl
theorem zw_180 : (Jvm.Cond.lays "ShipLanterns$Ship" "ShipLanterns$Ship" "lost" "I") ∈ zG := zG_mem 180 rfl rfl
theorem zw_183 : (Jvm.Cond.classLink "ShipLanterns" (16 : Nat) "ShipLanterns$Survey") ∈ zG := zG_mem 183 rfl rfl
theorem zw_184 : (Jvm.Cond.instantiable "ShipLanterns$Survey" (12 : Nat)) ∈ zG := zG_mem 184 rfl rfl
theorem zw_185 : (Jvm.Cond.methodLink "ShipLanterns" (18 : Nat) ({ cls := "ShipLanterns$Survey", name := "<init>", desc := "()V" } : Jvm.MethodName)) ∈ zG := zG_mem 185 rfl rfl
theorem zw_186 : (Jvm.Cond.instanceMethod ({ cls := "ShipLanterns$Survey", name := "<init>", desc := "()V" } : Jvm.MethodName)) ∈ zG := zG_mem 186 rfl rfl
theorem zw_187 : (Jvm.Cond.code ({ cls := "ShipLanterns$Survey", name := "<init>", desc := "()V" } : Jvm.MethodName) prog_8_method_1_code (1 : Nat) (Option.none : Option Jvm.ClassFile.FieldType)) ∈ zG := zG_mem 187 rfl rfl
theorem zw_188 : (Jvm.Cond.methodLink "ShipLanterns$Survey" (3 : Nat) ({ cls := "java/lang/Object", name := "<init>", desc := "()V" } : Jvm.MethodName)) ∈ zG := zG_mem 188 rfl rfl
theorem zw_189 : (Jvm.Cond.fieldLink "ShipLanterns$Survey" (9 : Nat) "ShipLanterns$Survey" "depth" "[I") ∈ zG := zG_mem 189 rfl rfl
theorem zw_190 : (Jvm.Cond.fieldLink "ShipLanterns" (354 : Nat) "ShipLanterns$Survey" "depth" "[I") ∈ zG := zG_mem 190 rfl rfl
theorem zw_191 : (Jvm.Cond.fieldLink "ShipLanterns$Survey" (15 : Nat) "ShipLanterns$Survey" "behind" "[I") ∈ zG := zG_mem 191 rfl rfl
theorem zw_192 : (Jvm.Cond.fieldLink "ShipLanterns" (357 : Nat) "ShipLanterns$Survey" "behind" "[I") ∈ zG := zG_mem 192 rfl rfl
theorem zw_193 : (Jvm.Cond.fieldLink "ShipLanterns$Survey" (18 : Nat) "ShipLanterns$Survey" "openOnWay" "[Z") ∈ zG := zG_mem 193 rfl rfl
theorem zw_194 : (Jvm.Cond.fieldLink "ShipLanterns" (391 : Nat) "ShipLanterns$Survey" "openOnWay" "[Z") ∈ zG := zG_mem 194 rfl rfl
theorem zw_195 : (Jvm.Cond.fieldLink "ShipLanterns$Survey" (22 : Nat) "ShipLanterns$Survey" "blownOnWay" "[Z") ∈ zG := zG_mem 195 rfl rfl
theorem zw_196 : (Jvm.Cond.fieldLink "ShipLanterns" (394 : Nat) "ShipLanterns$Survey" "blownOnWay" "[Z") ∈ zG := zG_mem 196 rfl rfl
theorem zw_197 : (Jvm.Cond.fieldLink "ShipLanterns$Survey" (25 : Nat) "ShipLanterns$Survey" "pole" "[I") ∈ zG := zG_mem 197 rfl rfl
theorem zw_198 : (Jvm.Cond.fieldLink "ShipLanterns" (372 : Nat) "ShipLanterns$Survey" "pole" "[I") ∈ zG := zG_mem 198 rfl rfl
theorem zw_199 : (Jvm.Cond.fieldLink "ShipLanterns$Survey" (28 : Nat) "ShipLanterns$Survey" "burning" "[Z") ∈ zG := zG_mem 199 rfl rfl
theorem zw_200 : (Jvm.Cond.fieldLink "ShipLanterns" (161 : Nat) "ShipLanterns$Survey" "burning" "[Z") ∈ zG := zG_mem 200 rfl rfl
theorem zw_201 : (Jvm.Cond.fieldLink "ShipLanterns$Survey" (31 : Nat) "ShipLanterns$Survey" "burningLanterns" "I") ∈ zG := zG_mem 201 rfl rfl
theorem zw_202 : (Jvm.Cond.fieldLink "ShipLanterns" (115 : Nat) "ShipLanterns$Survey" "burningLanterns" "I") ∈ zG := zG_mem 202 rfl rfl
theorem zw_203 : (Jvm.Cond.fieldLink "ShipLanterns$Survey" (35 : Nat) "ShipLanterns$Survey" "leak" "I") ∈ zG := zG_mem 203 rfl rfl
theorem zw_204 : (Jvm.Cond.fieldLink "ShipLanterns" (213 : Nat) "ShipLanterns$Survey" "leak" "I") ∈ zG := zG_mem 204 rfl rfl
theorem zw_205 : (Jvm.Cond.fieldLink "ShipLanterns$Survey" (38 : Nat) "ShipLanterns$Survey" "flow" "[I") ∈ zG := zG_mem 205 rfl rfl
theorem zw_206 : (Jvm.Cond.fieldLink "ShipLanterns" (397 : Nat) "ShipLanterns$Survey" "flow" "[I") ∈ zG := zG_mem 206 rfl rfl
theorem zw_207 : (Jvm.Cond.fieldLink "ShipLanterns$Survey" (41 : Nat) "ShipLanterns$Survey" "unitsFrom" "[I") ∈ zG := zG_mem 207 rfl rfl
theorem zw_208 : (Jvm.Cond.fieldLink "ShipLanterns" (204 : Nat) "ShipLanterns$Survey" "unitsFrom" "[I") ∈ zG := zG_mem 208 rfl rfl
theorem zw_209 : (Jvm.Cond.fieldLink "ShipLanterns$Survey" (44 : Nat) "ShipLanterns$Survey" "flowFrom" "[I") ∈ zG := zG_mem 209 rfl rfl
theorem zw_210 : (Jvm.Cond.fieldLink "ShipLanterns$Survey" (47 : Nat) "ShipLanterns$Survey" "strengthFrom" "[I") ∈ zG := zG_mem 210 rfl rfl
theorem zw_211 : (Jvm.Cond.fieldLink "ShipLanterns" (327 : Nat) "ShipLanterns$Survey" "strengthFrom" "[I") ∈ zG := zG_mem 211 rfl rfl
theorem zw_212 : (Jvm.Cond.laysFinal "ShipLanterns$Survey" "ShipLanterns$Survey" "depth" "[I") ∈ zG := zG_mem 212 rfl rfl
theorem zw_214 : (Jvm.Cond.laysFinal "ShipLanterns$Survey" "ShipLanterns$Survey" "behind" "[I") ∈ zG := zG_mem 214 rfl rfl
theorem zw_216 : (Jvm.Cond.laysFinal "ShipLanterns$Survey" "ShipLanterns$Survey" "openOnWay" "[Z") ∈ zG := zG_mem 216 rfl rfl
theorem zw_218 : (Jvm.Cond.laysFinal "ShipLanterns$Survey" "ShipLanterns$Survey" "blownOnWay" "[Z") ∈ zG := zG_mem 218 rfl rfl
theorem zw_220 : (Jvm.Cond.laysFinal "ShipLanterns$Survey" "ShipLanterns$Survey" "pole" "[I") ∈ zG := zG_mem 220 rfl rfl
theorem zw_222 : (Jvm.Cond.laysFinal "ShipLanterns$Survey" "ShipLanterns$Survey" "burning" "[Z") ∈ zG := zG_mem 222 rfl rfl
theorem zw_224 : (Jvm.Cond.lays "ShipLanterns$Survey" "ShipLanterns$Survey" "burningLanterns" "I") ∈ zG := zG_mem 224 rfl rfl
theorem zw_226 : (Jvm.Cond.lays "ShipLanterns$Survey" "ShipLanterns$Survey" "leak" "I") ∈ zG := zG_mem 226 rfl rfl
theorem zw_228 : (Jvm.Cond.laysFinal "ShipLanterns$Survey" "ShipLanterns$Survey" "flow" "[I") ∈ zG := zG_mem 228 rfl rfl
theorem zw_230 : (Jvm.Cond.laysFinal "ShipLanterns$Survey" "ShipLanterns$Survey" "unitsFrom" "[I") ∈ zG := zG_mem 230 rfl rfl
theorem zw_232 : (Jvm.Cond.laysFinal "ShipLanterns$Survey" "ShipLanterns$Survey" "flowFrom" "[I") ∈ zG := zG_mem 232 rfl rfl
theorem zw_234 : (Jvm.Cond.laysFinal "ShipLanterns$Survey" "ShipLanterns$Survey" "strengthFrom" "[I") ∈ zG := zG_mem 234 rfl rfl
theorem zw_237 : (Jvm.Cond.classLink "ShipLanterns" (32 : Nat) "ShipLanterns$History") ∈ zG := zG_mem 237 rfl rfl
theorem zw_238 : (Jvm.Cond.instantiable "ShipLanterns$History" (2 : Nat)) ∈ zG := zG_mem 238 rfl rfl
theorem zw_239 : (Jvm.Cond.methodLink "ShipLanterns" (34 : Nat) ({ cls := "ShipLanterns$History", name := "<init>", desc := "()V" } : Jvm.MethodName)) ∈ zG := zG_mem 239 rfl rfl
theorem zw_240 : (Jvm.Cond.instanceMethod ({ cls := "ShipLanterns$History", name := "<init>", desc := "()V" } : Jvm.MethodName)) ∈ zG := zG_mem 240 rfl rfl
theorem zw_241 : (Jvm.Cond.code ({ cls := "ShipLanterns$History", name := "<init>", desc := "()V" } : Jvm.MethodName) prog_4_method_1_code (2 : Nat) (Option.none : Option Jvm.ClassFile.FieldType)) ∈ zG := zG_mem 241 rfl rfl
theorem zw_242 : (Jvm.Cond.methodLink "ShipLanterns$History" (3 : Nat) ({ cls := "java/lang/Object", name := "<init>", desc := "()V" } : Jvm.MethodName)) ∈ zG := zG_mem 242 rfl rfl
theorem zw_243 : (Jvm.Cond.classLink "ShipLanterns$History" (15 : Nat) "ShipLanterns$Ship") ∈ zG := zG_mem 243 rfl rfl
theorem zw_246 : (Jvm.Cond.fieldLink "ShipLanterns$History" (9 : Nat) "ShipLanterns$History" "many" "I") ∈ zG := zG_mem 246 rfl rfl
theorem zw_247 : (Jvm.Cond.fieldLink "ShipLanterns" (233 : Nat) "ShipLanterns$History" "many" "I") ∈ zG := zG_mem 247 rfl rfl
theorem zw_248 : (Jvm.Cond.fieldLink "ShipLanterns$History" (17 : Nat) "ShipLanterns$History" "saved" "[LShipLanterns$Ship;") ∈ zG := zG_mem 248 rfl rfl
theorem zw_249 : (Jvm.Cond.lays "ShipLanterns$History" "ShipLanterns$History" "many" "I") ∈ zG := zG_mem 249 rfl rfl
theorem zw_251 : (Jvm.Cond.laysFinal "ShipLanterns$History" "ShipLanterns$History" "saved" "[LShipLanterns$Ship;") ∈ zG := zG_mem 251 rfl rfl
theorem zw_254 : (Jvm.Cond.classLink "ShipLanterns" (39 : Nat) "ShipLanterns$PartReader") ∈ zG := zG_mem 254 rfl rfl
theorem zw_255 : (Jvm.Cond.instantiable "ShipLanterns$PartReader" (3 : Nat)) ∈ zG := zG_mem 255 rfl rfl
theorem zw_257 : (Jvm.Cond.instanceMethod ({ cls := "ShipLanterns$PartReader", name := "<init>", desc := "()V" } : Jvm.MethodName)) ∈ zG := zG_mem 257 rfl rfl
theorem zw_258 : (Jvm.Cond.code ({ cls := "ShipLanterns$PartReader", name := "<init>", desc := "()V" } : Jvm.MethodName) prog_6_method_1_code (1 : Nat) (Option.none : Option Jvm.ClassFile.FieldType)) ∈ zG := zG_mem 258 rfl rfl
theorem zw_259 : (Jvm.Cond.methodLink "ShipLanterns$PartReader" (3 : Nat) ({ cls := "java/lang/Object", name := "<init>", desc := "()V" } : Jvm.MethodName)) ∈ zG := zG_mem 259 rfl rfl
theorem zw_260 : (Jvm.Cond.fieldLink "ShipLanterns$PartReader" (11 : Nat) "ShipLanterns$PartReader" "values" "[I") ∈ zG := zG_mem 260 rfl rfl
theorem zw_261 : (Jvm.Cond.fieldLink "ShipLanterns$PartReader" (15 : Nat) "ShipLanterns$PartReader" "kind" "I") ∈ zG := zG_mem 261 rfl rfl
theorem zw_262 : (Jvm.Cond.fieldLink "ShipLanterns$PartReader" (19 : Nat) "ShipLanterns$PartReader" "place" "I") ∈ zG := zG_mem 262 rfl rfl
theorem zw_263 : (Jvm.Cond.laysFinal "ShipLanterns$PartReader" "ShipLanterns$PartReader" "values" "[I") ∈ zG := zG_mem 263 rfl rfl
theorem zw_265 : (Jvm.Cond.lays "ShipLanterns$PartReader" "ShipLanterns$PartReader" "kind" "I") ∈ zG := zG_mem 265 rfl rfl
theorem zw_267 : (Jvm.Cond.lays "ShipLanterns$PartReader" "ShipLanterns$PartReader" "place" "I") ∈ zG := zG_mem 267 rfl rfl
theorem zw_270 : (Jvm.Cond.fieldLink "ShipLanterns" (12 : Nat) "ShipLanterns" "ship" "LShipLanterns$Ship;") ∈ zG := zG_mem 270 rfl rfl
theorem zw_271 : (Jvm.Cond.fieldLink "ShipLanterns" (19 : Nat) "ShipLanterns" "survey" "LShipLanterns$Survey;") ∈ zG := zG_mem 271 rfl rfl
theorem zw_272 : (Jvm.Cond.fieldLink "ShipLanterns" (23 : Nat) "ShipLanterns" "trial" "LShipLanterns$Ship;") ∈ zG := zG_mem 272 rfl rfl
theorem zw_273 : (Jvm.Cond.fieldLink "ShipLanterns" (26 : Nat) "ShipLanterns" "trialSurvey" "LShipLanterns$Survey;") ∈ zG := zG_mem 273 rfl rfl
theorem zw_274 : (Jvm.Cond.fieldLink "ShipLanterns" (29 : Nat) "ShipLanterns" "wholeSurvey" "LShipLanterns$Survey;") ∈ zG := zG_mem 274 rfl rfl
theorem zw_275 : (Jvm.Cond.fieldLink "ShipLanterns" (35 : Nat) "ShipLanterns" "history" "LShipLanterns$History;") ∈ zG := zG_mem 275 rfl rfl
theorem zw_276 : (Jvm.Cond.fieldLink "ShipLanterns" (42 : Nat) "ShipLanterns" "reader" "LShipLanterns$PartReader;") ∈ zG := zG_mem 276 rfl rfl
theorem zw_277 : (Jvm.Cond.fieldLink "ShipLanterns" (46 : Nat) "ShipLanterns" "signs" "[I") ∈ zG := zG_mem 277 rfl rfl
theorem zw_278 : (Jvm.Cond.fieldLink "ShipLanterns" (50 : Nat) "ShipLanterns" "length" "I") ∈ zG := zG_mem 278 rfl rfl
theorem zw_279 : (Jvm.Cond.laysFinal "ShipLanterns" "ShipLanterns" "ship" "LShipLanterns$Ship;") ∈ zG := zG_mem 279 rfl rfl
theorem zw_281 : (Jvm.Cond.laysFinal "ShipLanterns" "ShipLanterns" "survey" "LShipLanterns$Survey;") ∈ zG := zG_mem 281 rfl rfl
theorem zw_283 : (Jvm.Cond.laysFinal "ShipLanterns" "ShipLanterns" "trial" "LShipLanterns$Ship;") ∈ zG := zG_mem 283 rfl rfl
theorem zw_285 : (Jvm.Cond.laysFinal "ShipLanterns" "ShipLanterns" "trialSurvey" "LShipLanterns$Survey;") ∈ zG := zG_mem 285 rfl rfl
theorem zw_287 : (Jvm.Cond.laysFinal "ShipLanterns" "ShipLanterns" "wholeSurvey" "LShipLanterns$Survey;") ∈ zG := zG_mem 287 rfl rfl
theorem zw_289 : (Jvm.Cond.laysFinal "ShipLanterns" "ShipLanterns" "history" "LShipLanterns$History;") ∈ zG := zG_mem 289 rfl rfl
theorem zw_291 : (Jvm.Cond.laysFinal "ShipLanterns" "ShipLanterns" "reader" "LShipLanterns$PartReader;") ∈ zG := zG_mem 291 rfl rfl
theorem zw_293 : (Jvm.Cond.laysFinal "ShipLanterns" "ShipLanterns" "signs" "[I") ∈ zG := zG_mem 293 rfl rfl
theorem zw_295 : (Jvm.Cond.lays "ShipLanterns" "ShipLanterns" "length" "I") ∈ zG := zG_mem 295 rfl rfl
theorem zw_298 : (Jvm.Cond.methodLink "ShipLanternsLaw" (107 : Nat) ({ cls := "ShipLanternsLaw", name := "cell", desc := "([II)I" } : Jvm.MethodName)) ∈ zG := zG_mem 298 rfl rfl
theorem zw_299 : (Jvm.Cond.static ({ cls := "ShipLanternsLaw", name := "cell", desc := "([II)I" } : Jvm.MethodName)) ∈ zG := zG_mem 299 rfl rfl
theorem zw_300 : (Jvm.Cond.code ({ cls := "ShipLanternsLaw", name := "cell", desc := "([II)I" } : Jvm.MethodName) method_2_code (2 : Nat) (Option.some Jvm.ClassFile.FieldType.int)) ∈ zG := zG_mem 300 rfl rfl
theorem zw_301 : (Jvm.Cond.constant "ShipLanternsLaw" (7 : Nat) (1291169091 : Int32)) ∈ zG := zG_mem 301 rfl rfl
theorem zw_302 : (Jvm.Cond.methodLink "ShipLanternsLaw" (51 : Nat) ({ cls := "ShipLanternsLaw", name := "at", desc := "(II)I" } : Jvm.MethodName)) ∈ zG := zG_mem 302 rfl rfl
theorem zw_303 : (Jvm.Cond.static ({ cls := "ShipLanternsLaw", name := "at", desc := "(II)I" } : Jvm.MethodName)) ∈ zG := zG_mem 303 rfl rfl
theorem zw_304 : (Jvm.Cond.code ({ cls := "ShipLanternsLaw", name := "at", desc := "(II)I" } : Jvm.MethodName) method_3_code (2 : Nat) (Option.some Jvm.ClassFile.FieldType.int)) ∈ zG := zG_mem 304 rfl rfl
theorem zw_305 : (Jvm.Cond.methodLink "ShipLanternsLaw" (103 : Nat) ({ cls := "ShipLanternsLaw", name := "told", desc := "(LShipLanterns;[I[I[I[I)Z" } : Jvm.MethodName)) ∈ zG := zG_mem 305 rfl rfl
theorem zw_306 : (Jvm.Cond.static ({ cls := "ShipLanternsLaw", name := "told", desc := "(LShipLanterns;[I[I[I[I)Z" } : Jvm.MethodName)) ∈ zG := zG_mem 306 rfl rfl
theorem zw_307 : (Jvm.Cond.code ({ cls := "ShipLanternsLaw", name := "told", desc := "(LShipLanterns;[I[I[I[I)Z" } : Jvm.MethodName) method_9_code (16 : Nat) (Option.some Jvm.ClassFile.FieldType.boolean)) ∈ zG := zG_mem 307 rfl rfl
theorem zw_308 : (Jvm.Cond.methodLink "ShipLanternsLaw" (17 : Nat) ({ cls := "ShipLanternsLaw", name := "find", desc := "([I[I[I[I[I[I[I)V" } : Jvm.MethodName)) ∈ zG := zG_mem 308 rfl rfl
theorem zw_309 : (Jvm.Cond.static ({ cls := "ShipLanternsLaw", name := "find", desc := "([I[I[I[I[I[I[I)V" } : Jvm.MethodName)) ∈ zG := zG_mem 309 rfl rfl
theorem zw_310 : (Jvm.Cond.code ({ cls := "ShipLanternsLaw", name := "find", desc := "([I[I[I[I[I[I[I)V" } : Jvm.MethodName) method_4_code (13 : Nat) (Option.none : Option Jvm.ClassFile.FieldType)) ∈ zG := zG_mem 310 rfl rfl
theorem zw_311 : (Jvm.Cond.methodLink "ShipLanternsLaw" (8 : Nat) ({ cls := "ShipLanternsLaw", name := "dark", desc := "(I[I[I[I)I" } : Jvm.MethodName)) ∈ zG := zG_mem 311 rfl rfl
theorem zw_312 : (Jvm.Cond.static ({ cls := "ShipLanternsLaw", name := "dark", desc := "(I[I[I[I)I" } : Jvm.MethodName)) ∈ zG := zG_mem 312 rfl rfl
theorem zw_313 : (Jvm.Cond.code ({ cls := "ShipLanternsLaw", name := "dark", desc := "(I[I[I[I)I" } : Jvm.MethodName) method_6_code (6 : Nat) (Option.some Jvm.ClassFile.FieldType.int)) ∈ zG := zG_mem 313 rfl rfl
theorem zw_314 : (Jvm.Cond.methodLink "ShipLanternsLaw" (14 : Nat) ({ cls := "ShipLanternsLaw", name := "lamp", desc := "(I[I[I[I)I" } : Jvm.MethodName)) ∈ zG := zG_mem 314 rfl rfl
theorem zw_315 : (Jvm.Cond.static ({ cls := "ShipLanternsLaw", name := "lamp", desc := "(I[I[I[I)I" } : Jvm.MethodName)) ∈ zG := zG_mem 315 rfl rfl
theorem zw_316 : (Jvm.Cond.code ({ cls := "ShipLanternsLaw", name := "lamp", desc := "(I[I[I[I)I" } : Jvm.MethodName) method_5_code (6 : Nat) (Option.some Jvm.ClassFile.FieldType.int)) ∈ zG := zG_mem 316 rfl rfl
theorem zw_317 : (Jvm.Cond.methodLink "ShipLanternsLaw" (21 : Nat) ({ cls := "ShipLanterns", name := "box", desc := "(II)I" } : Jvm.MethodName)) ∈ zG := zG_mem 317 rfl rfl
theorem zw_318 : (Jvm.Cond.instanceMethod ({ cls := "ShipLanterns", name := "box", desc := "(II)I" } : Jvm.MethodName)) ∈ zG := zG_mem 318 rfl rfl
theorem zw_319 : (Jvm.Cond.selects "ShipLanterns" ({ cls := "ShipLanterns", name := "box", desc := "(II)I" } : Jvm.MethodName) ({ cls := "ShipLanterns", name := "box", desc := "(II)I" } : Jvm.MethodName)) ∈ zG := zG_mem 319 rfl rfl
theorem zw_320 : (Jvm.Cond.code ({ cls := "ShipLanterns", name := "box", desc := "(II)I" } : Jvm.MethodName) prog_1_method_17_code (3 : Nat) (Option.some Jvm.ClassFile.FieldType.int)) ∈ zG := zG_mem 320 rfl rfl
theorem zw_321 : (Jvm.Cond.methodLink "ShipLanterns" (54 : Nat) ({ cls := "ShipLanterns", name := "isBox", desc := "(I)Z" } : Jvm.MethodName)) ∈ zG := zG_mem 321 rfl rfl
theorem zw_323 : (Jvm.Cond.instanceMethod ({ cls := "ShipLanterns", name := "isBox", desc := "(I)Z" } : Jvm.MethodName)) ∈ zG := zG_mem 323 rfl rfl
theorem zw_324 : (Jvm.Cond.code ({ cls := "ShipLanterns", name := "isBox", desc := "(I)Z" } : Jvm.MethodName) prog_1_method_29_code (2 : Nat) (Option.some Jvm.ClassFile.FieldType.boolean)) ∈ zG := zG_mem 324 rfl rfl
theorem zw_325 : (Jvm.Cond.classLink "ShipLanterns" (58 : Nat) "java/lang/IndexOutOfBoundsException") ∈ zG := zG_mem 325 rfl rfl
theorem zw_326 : (Jvm.Cond.instantiable "java/lang/IndexOutOfBoundsException" (6 : Nat)) ∈ zG := zG_mem 326 rfl rfl
theorem zw_334 : (Jvm.Cond.selects "java/lang/IndexOutOfBoundsException" ({ cls := "java/lang/Throwable", name := "fillInStackTrace", desc := "(I)Ljava/lang/Throwable;" } : Jvm.MethodName) ({ cls := "java/lang/Throwable", name := "fillInStackTrace", desc := "(I)Ljava/lang/Throwable;" } : Jvm.MethodName)) ∈ zG := zG_mem 334 rfl rfl
theorem zw_335 : (Jvm.Cond.selects "java/lang/IndexOutOfBoundsException" ({ cls := "java/lang/Throwable", name := "fillInStackTrace", desc := "()Ljava/lang/Throwable;" } : Jvm.MethodName) ({ cls := "java/lang/Throwable", name := "fillInStackTrace", desc := "()Ljava/lang/Throwable;" } : Jvm.MethodName)) ∈ zG := zG_mem 335 rfl rfl
theorem zw_336 : (Jvm.Cond.lays "java/lang/IndexOutOfBoundsException" "java/lang/Throwable" "cause" "Ljava/lang/Throwable;") ∈ zG := zG_mem 336 rfl rfl
theorem zw_337 : (Jvm.Cond.lays "java/lang/Throwable" "java/lang/Throwable" "cause" "Ljava/lang/Throwable;") ∈ zG := zG_mem 337 rfl rfl
theorem zw_338 : (Jvm.Cond.lays "java/lang/IndexOutOfBoundsException" "java/lang/Throwable" "stackTrace" "[Ljava/lang/StackTraceElement;") ∈ zG := zG_mem 338 rfl rfl
theorem zw_339 : (Jvm.Cond.lays "java/lang/Throwable" "java/lang/Throwable" "stackTrace" "[Ljava/lang/StackTraceElement;") ∈ zG := zG_mem 339 rfl rfl
theorem zw_340 : (Jvm.Cond.lays "java/lang/IndexOutOfBoundsException" "java/lang/Throwable" "suppressedExceptions" "Ljava/util/List;") ∈ zG := zG_mem 340 rfl rfl
theorem zw_341 : (Jvm.Cond.lays "java/lang/Throwable" "java/lang/Throwable" "suppressedExceptions" "Ljava/util/List;") ∈ zG := zG_mem 341 rfl rfl
theorem zw_342 : (Jvm.Cond.lays "java/lang/IndexOutOfBoundsException" "java/lang/Throwable" "detailMessage" "Ljava/lang/String;") ∈ zG := zG_mem 342 rfl rfl
theorem zw_343 : (Jvm.Cond.lays "java/lang/Throwable" "java/lang/Throwable" "detailMessage" "Ljava/lang/String;") ∈ zG := zG_mem 343 rfl rfl
theorem zw_344 : (Jvm.Cond.lays "java/lang/IndexOutOfBoundsException" "java/lang/Throwable" "backtrace" "Ljava/lang/Object;") ∈ zG := zG_mem 344 rfl rfl
theorem zw_345 : (Jvm.Cond.lays "java/lang/Throwable" "java/lang/Throwable" "backtrace" "Ljava/lang/Object;") ∈ zG := zG_mem 345 rfl rfl
theorem zw_346 : (Jvm.Cond.fieldLink "java/lang/Throwable" (198 : Nat) "java/lang/Throwable" "backtrace" "Ljava/lang/Object;") ∈ zG := zG_mem 346 rfl rfl
theorem zw_348 : (Jvm.Cond.instanceMethod ({ cls := "java/lang/Throwable", name := "<init>", desc := "()V" } : Jvm.MethodName)) ∈ zG := zG_mem 348 rfl rfl
theorem zw_349 : (Jvm.Cond.code ({ cls := "java/lang/Throwable", name := "<init>", desc := "()V" } : Jvm.MethodName) prog_18_method_1_code (1 : Nat) (Option.none : Option Jvm.ClassFile.FieldType)) ∈ zG := zG_mem 349 rfl rfl
theorem zw_350 : (Jvm.Cond.methodLink "java/lang/Throwable" (1 : Nat) ({ cls := "java/lang/Object", name := "<init>", desc := "()V" } : Jvm.MethodName)) ∈ zG := zG_mem 350 rfl rfl
theorem zw_351 : (Jvm.Cond.fieldLink "java/lang/Throwable" (13 : Nat) "java/lang/Throwable" "UNASSIGNED_STACK" "[Ljava/lang/StackTraceElement;") ∈ zG := zG_mem 351 rfl rfl
theorem zw_353 : (Jvm.Cond.fieldLink "java/lang/Throwable" (20 : Nat) "java/lang/Throwable" "SUPPRESSED_SENTINEL" "Ljava/util/List;") ∈ zG := zG_mem 353 rfl rfl
theorem zw_355 : (Jvm.Cond.methodLink "java/lang/Throwable" (27 : Nat) ({ cls := "java/lang/Throwable", name := "fillInStackTrace", desc := "()Ljava/lang/Throwable;" } : Jvm.MethodName)) ∈ zG := zG_mem 355 rfl rfl
theorem zw_356 : (Jvm.Cond.instanceMethod ({ cls := "java/lang/Throwable", name := "fillInStackTrace", desc := "()Ljava/lang/Throwable;" } : Jvm.MethodName)) ∈ zG := zG_mem 356 rfl rfl
theorem zw_358 : (Jvm.Cond.selects "java/lang/IllegalArgumentException" ({ cls := "java/lang/Throwable", name := "fillInStackTrace", desc := "()Ljava/lang/Throwable;" } : Jvm.MethodName) ({ cls := "java/lang/Throwable", name := "fillInStackTrace", desc := "()Ljava/lang/Throwable;" } : Jvm.MethodName)) ∈ zG := zG_mem 358 rfl rfl
theorem zw_359 : (Jvm.Cond.selects "java/lang/IllegalStateException" ({ cls := "java/lang/Throwable", name := "fillInStackTrace", desc := "()Ljava/lang/Throwable;" } : Jvm.MethodName) ({ cls := "java/lang/Throwable", name := "fillInStackTrace", desc := "()Ljava/lang/Throwable;" } : Jvm.MethodName)) ∈ zG := zG_mem 359 rfl rfl
theorem zw_361 : (Jvm.Cond.methodLink "java/lang/Throwable" (202 : Nat) ({ cls := "java/lang/Throwable", name := "fillInStackTrace", desc := "(I)Ljava/lang/Throwable;" } : Jvm.MethodName)) ∈ zG := zG_mem 361 rfl rfl
theorem zw_363 : (Jvm.Cond.instanceMethod ({ cls := "java/lang/Throwable", name := "fillInStackTrace", desc := "(I)Ljava/lang/Throwable;" } : Jvm.MethodName)) ∈ zG := zG_mem 363 rfl rfl
theorem zw_364 : (Jvm.Cond.instantiable "java/lang/Throwable" (6 : Nat)) ∈ zG := zG_mem 364 rfl rfl
theorem zw_365 : (Jvm.Cond.native ({ cls := "java/lang/Throwable", name := "fillInStackTrace", desc := "(I)Ljava/lang/Throwable;" } : Jvm.MethodName)) ∈ zG := zG_mem 365 rfl rfl
theorem zw_367 : (Jvm.Cond.methodLink "ShipLanterns" (62 : Nat) ({ cls := "java/lang/IndexOutOfBoundsException", name := "<init>", desc := "(Ljava/lang/String;)V" } : Jvm.MethodName)) ∈ zG := zG_mem 367 rfl rfl
theorem zw_368 : (Jvm.Cond.instanceMethod ({ cls := "java/lang/IndexOutOfBoundsException", name := "<init>", desc := "(Ljava/lang/String;)V" } : Jvm.MethodName)) ∈ zG := zG_mem 368 rfl rfl
theorem zw_369 : (Jvm.Cond.code ({ cls := "java/lang/IndexOutOfBoundsException", name := "<init>", desc := "(Ljava/lang/String;)V" } : Jvm.MethodName) prog_14_method_2_code (2 : Nat) (Option.none : Option Jvm.ClassFile.FieldType)) ∈ zG := zG_mem 369 rfl rfl
theorem zw_370 : (Jvm.Cond.methodLink "java/lang/IndexOutOfBoundsException" (7 : Nat) ({ cls := "java/lang/RuntimeException", name := "<init>", desc := "(Ljava/lang/String;)V" } : Jvm.MethodName)) ∈ zG := zG_mem 370 rfl rfl
theorem zw_371 : (Jvm.Cond.instanceMethod ({ cls := "java/lang/RuntimeException", name := "<init>", desc := "(Ljava/lang/String;)V" } : Jvm.MethodName)) ∈ zG := zG_mem 371 rfl rfl
theorem zw_372 : (Jvm.Cond.code ({ cls := "java/lang/RuntimeException", name := "<init>", desc := "(Ljava/lang/String;)V" } : Jvm.MethodName) prog_16_method_2_code (2 : Nat) (Option.none : Option Jvm.ClassFile.FieldType)) ∈ zG := zG_mem 372 rfl rfl
theorem zw_373 : (Jvm.Cond.methodLink "java/lang/RuntimeException" (7 : Nat) ({ cls := "java/lang/Exception", name := "<init>", desc := "(Ljava/lang/String;)V" } : Jvm.MethodName)) ∈ zG := zG_mem 373 rfl rfl
theorem zw_374 : (Jvm.Cond.instanceMethod ({ cls := "java/lang/Exception", name := "<init>", desc := "(Ljava/lang/String;)V" } : Jvm.MethodName)) ∈ zG := zG_mem 374 rfl rfl
theorem zw_375 : (Jvm.Cond.code ({ cls := "java/lang/Exception", name := "<init>", desc := "(Ljava/lang/String;)V" } : Jvm.MethodName) prog_11_method_2_code (2 : Nat) (Option.none : Option Jvm.ClassFile.FieldType)) ∈ zG := zG_mem 375 rfl rfl
theorem zw_376 : (Jvm.Cond.methodLink "java/lang/Exception" (7 : Nat) ({ cls := "java/lang/Throwable", name := "<init>", desc := "(Ljava/lang/String;)V" } : Jvm.MethodName)) ∈ zG := zG_mem 376 rfl rfl
theorem zw_377 : (Jvm.Cond.instanceMethod ({ cls := "java/lang/Throwable", name := "<init>", desc := "(Ljava/lang/String;)V" } : Jvm.MethodName)) ∈ zG := zG_mem 377 rfl rfl
theorem zw_378 : (Jvm.Cond.code ({ cls := "java/lang/Throwable", name := "<init>", desc := "(Ljava/lang/String;)V" } : Jvm.MethodName) prog_18_method_2_code (2 : Nat) (Option.none : Option Jvm.ClassFile.FieldType)) ∈ zG := zG_mem 378 rfl rfl
theorem zw_379 : (Jvm.Cond.fieldLink "java/lang/Throwable" (198 : Nat) "java/lang/Throwable" "backtrace" "Ljava/lang/Object;") ∈ zG := zG_mem 379 rfl rfl
theorem zw_380 : (Jvm.Cond.fieldLink "java/lang/Throwable" (31 : Nat) "java/lang/Throwable" "detailMessage" "Ljava/lang/String;") ∈ zG := zG_mem 380 rfl rfl
theorem zw_381 : (Jvm.Cond.fieldLink "java/lang/Throwable" (7 : Nat) "java/lang/Throwable" "cause" "Ljava/lang/Throwable;") ∈ zG := zG_mem 381 rfl rfl
theorem zw_382 : (Jvm.Cond.fieldLink "java/lang/Throwable" (17 : Nat) "java/lang/Throwable" "stackTrace" "[Ljava/lang/StackTraceElement;") ∈ zG := zG_mem 382 rfl rfl
theorem zw_383 : (Jvm.Cond.fieldLink "java/lang/Throwable" (24 : Nat) "java/lang/Throwable" "suppressedExceptions" "Ljava/util/List;") ∈ zG := zG_mem 383 rfl rfl
theorem zw_388 : (Jvm.Cond.lays "java/lang/IndexOutOfBoundsException" "java/lang/Throwable" "depth" "I") ∈ zG := zG_mem 388 rfl rfl
theorem zw_392 : (Jvm.Cond.arrayClass Jvm.ClassFile.FieldType.byte) ∈ zG := zG_mem 392 rfl rfl
theorem zw_393 : (Jvm.Cond.classLink "ShipLanterns" (68 : Nat) "java/lang/IllegalArgumentException") ∈ zG := zG_mem 393 rfl rfl
theorem zw_394 : (Jvm.Cond.instantiable "java/lang/IllegalArgumentException" (6 : Nat)) ∈ zG := zG_mem 394 rfl rfl
theorem zw_396 : (Jvm.Cond.selects "java/lang/IllegalArgumentException" ({ cls := "java/lang/Throwable", name := "fillInStackTrace", desc := "(I)Ljava/lang/Throwable;" } : Jvm.MethodName) ({ cls := "java/lang/Throwable", name := "fillInStackTrace", desc := "(I)Ljava/lang/Throwable;" } : Jvm.MethodName)) ∈ zG := zG_mem 396 rfl rfl
theorem zw_397 : (Jvm.Cond.lays "java/lang/IllegalArgumentException" "java/lang/Throwable" "cause" "Ljava/lang/Throwable;") ∈ zG := zG_mem 397 rfl rfl
theorem zw_398 : (Jvm.Cond.lays "java/lang/IllegalArgumentException" "java/lang/Throwable" "stackTrace" "[Ljava/lang/StackTraceElement;") ∈ zG := zG_mem 398 rfl rfl
theorem zw_399 : (Jvm.Cond.lays "java/lang/IllegalArgumentException" "java/lang/Throwable" "suppressedExceptions" "Ljava/util/List;") ∈ zG := zG_mem 399 rfl rfl
theorem zw_400 : (Jvm.Cond.lays "java/lang/IllegalArgumentException" "java/lang/Throwable" "detailMessage" "Ljava/lang/String;") ∈ zG := zG_mem 400 rfl rfl
theorem zw_401 : (Jvm.Cond.lays "java/lang/IllegalArgumentException" "java/lang/Throwable" "backtrace" "Ljava/lang/Object;") ∈ zG := zG_mem 401 rfl rfl
theorem zw_403 : (Jvm.Cond.methodLink "ShipLanterns" (72 : Nat) ({ cls := "java/lang/IllegalArgumentException", name := "<init>", desc := "(Ljava/lang/String;)V" } : Jvm.MethodName)) ∈ zG := zG_mem 403 rfl rfl
theorem zw_404 : (Jvm.Cond.instanceMethod ({ cls := "java/lang/IllegalArgumentException", name := "<init>", desc := "(Ljava/lang/String;)V" } : Jvm.MethodName)) ∈ zG := zG_mem 404 rfl rfl
theorem zw_405 : (Jvm.Cond.code ({ cls := "java/lang/IllegalArgumentException", name := "<init>", desc := "(Ljava/lang/String;)V" } : Jvm.MethodName) prog_12_method_2_code (2 : Nat) (Option.none : Option Jvm.ClassFile.FieldType)) ∈ zG := zG_mem 405 rfl rfl
theorem zw_406 : (Jvm.Cond.methodLink "java/lang/IllegalArgumentException" (7 : Nat) ({ cls := "java/lang/RuntimeException", name := "<init>", desc := "(Ljava/lang/String;)V" } : Jvm.MethodName)) ∈ zG := zG_mem 406 rfl rfl
theorem zw_407 : (Jvm.Cond.lays "java/lang/IllegalArgumentException" "java/lang/Throwable" "depth" "I") ∈ zG := zG_mem 407 rfl rfl
theorem zw_409 : (Jvm.Cond.methodLink "ShipLanterns" (244 : Nat) ({ cls := "ShipLanterns", name := "boxProperty", desc := "(II)I" } : Jvm.MethodName)) ∈ zG := zG_mem 409 rfl rfl
theorem zw_411 : (Jvm.Cond.instanceMethod ({ cls := "ShipLanterns", name := "boxProperty", desc := "(II)I" } : Jvm.MethodName)) ∈ zG := zG_mem 411 rfl rfl
theorem zw_412 : (Jvm.Cond.code ({ cls := "ShipLanterns", name := "boxProperty", desc := "(II)I" } : Jvm.MethodName) prog_1_method_45_code (4 : Nat) (Option.some Jvm.ClassFile.FieldType.int)) ∈ zG := zG_mem 412 rfl rfl
theorem zw_413 : (Jvm.Cond.methodLink "ShipLanterns" (108 : Nat) ({ cls := "ShipLanterns", name := "oneIf", desc := "(Z)I" } : Jvm.MethodName)) ∈ zG := zG_mem 413 rfl rfl
theorem zw_414 : (Jvm.Cond.static ({ cls := "ShipLanterns", name := "oneIf", desc := "(Z)I" } : Jvm.MethodName)) ∈ zG := zG_mem 414 rfl rfl
theorem zw_415 : (Jvm.Cond.code ({ cls := "ShipLanterns", name := "oneIf", desc := "(Z)I" } : Jvm.MethodName) prog_1_method_37_code (1 : Nat) (Option.some Jvm.ClassFile.FieldType.int)) ∈ zG := zG_mem 415 rfl rfl
theorem zw_416 : (Jvm.Cond.methodLink "ShipLanterns" (360 : Nat) ({ cls := "ShipLanterns", name := "lanternsBurningAt", desc := "(I)I" } : Jvm.MethodName)) ∈ zG := zG_mem 416 rfl rfl
theorem zw_418 : (Jvm.Cond.instanceMethod ({ cls := "ShipLanterns", name := "lanternsBurningAt", desc := "(I)I" } : Jvm.MethodName)) ∈ zG := zG_mem 418 rfl rfl
theorem zw_419 : (Jvm.Cond.code ({ cls := "ShipLanterns", name := "lanternsBurningAt", desc := "(I)I" } : Jvm.MethodName) prog_1_method_46_code (4 : Nat) (Option.some Jvm.ClassFile.FieldType.int)) ∈ zG := zG_mem 419 rfl rfl
theorem zw_420 : (Jvm.Cond.methodLink "ShipLanterns" (363 : Nat) ({ cls := "ShipLanterns", name := "unitsAt", desc := "(I)I" } : Jvm.MethodName)) ∈ zG := zG_mem 420 rfl rfl
theorem zw_422 : (Jvm.Cond.instanceMethod ({ cls := "ShipLanterns", name := "unitsAt", desc := "(I)I" } : Jvm.MethodName)) ∈ zG := zG_mem 422 rfl rfl
theorem zw_423 : (Jvm.Cond.code ({ cls := "ShipLanterns", name := "unitsAt", desc := "(I)I" } : Jvm.MethodName) prog_1_method_47_code (4 : Nat) (Option.some Jvm.ClassFile.FieldType.int)) ∈ zG := zG_mem 423 rfl rfl
theorem zw_424 : (Jvm.Cond.methodLink "ShipLanternsLaw" (27 : Nat) ({ cls := "ShipLanterns", name := "terminal", desc := "(III)I" } : Jvm.MethodName)) ∈ zG := zG_mem 424 rfl rfl
theorem zw_425 : (Jvm.Cond.instanceMethod ({ cls := "ShipLanterns", name := "terminal", desc := "(III)I" } : Jvm.MethodName)) ∈ zG := zG_mem 425 rfl rfl
theorem zw_426 : (Jvm.Cond.selects "ShipLanterns" ({ cls := "ShipLanterns", name := "terminal", desc := "(III)I" } : Jvm.MethodName) ({ cls := "ShipLanterns", name := "terminal", desc := "(III)I" } : Jvm.MethodName)) ∈ zG := zG_mem 426 rfl rfl
theorem zw_427 : (Jvm.Cond.code ({ cls := "ShipLanterns", name := "terminal", desc := "(III)I" } : Jvm.MethodName) prog_1_method_18_code (4 : Nat) (Option.some Jvm.ClassFile.FieldType.int)) ∈ zG := zG_mem 427 rfl rfl
theorem zw_428 : (Jvm.Cond.methodLink "ShipLanterns" (118 : Nat) ({ cls := "ShipLanterns", name := "isTerminal", desc := "(I)Z" } : Jvm.MethodName)) ∈ zG := zG_mem 428 rfl rfl
theorem zw_429 : (Jvm.Cond.static ({ cls := "ShipLanterns", name := "isTerminal", desc := "(I)Z" } : Jvm.MethodName)) ∈ zG := zG_mem 429 rfl rfl
theorem zw_430 : (Jvm.Cond.code ({ cls := "ShipLanterns", name := "isTerminal", desc := "(I)Z" } : Jvm.MethodName) prog_1_method_33_code (1 : Nat) (Option.some Jvm.ClassFile.FieldType.boolean)) ∈ zG := zG_mem 430 rfl rfl
theorem zw_433 : (Jvm.Cond.methodLink "ShipLanterns" (250 : Nat) ({ cls := "ShipLanterns", name := "terminalProperty", desc := "(III)I" } : Jvm.MethodName)) ∈ zG := zG_mem 433 rfl rfl
theorem zw_435 : (Jvm.Cond.instanceMethod ({ cls := "ShipLanterns", name := "terminalProperty", desc := "(III)I" } : Jvm.MethodName)) ∈ zG := zG_mem 435 rfl rfl
theorem zw_436 : (Jvm.Cond.code ({ cls := "ShipLanterns", name := "terminalProperty", desc := "(III)I" } : Jvm.MethodName) prog_1_method_48_code (5 : Nat) (Option.some Jvm.ClassFile.FieldType.int)) ∈ zG := zG_mem 436 rfl rfl
theorem zw_437 : (Jvm.Cond.methodLink "ShipLanterns" (375 : Nat) ({ cls := "ShipLanterns$Survey", name := "isAlive", desc := "(I)Z" } : Jvm.MethodName)) ∈ zG := zG_mem 437 rfl rfl
theorem zw_438 : (Jvm.Cond.instanceMethod ({ cls := "ShipLanterns$Survey", name := "isAlive", desc := "(I)Z" } : Jvm.MethodName)) ∈ zG := zG_mem 438 rfl rfl
theorem zw_439 : (Jvm.Cond.selects "ShipLanterns$Survey" ({ cls := "ShipLanterns$Survey", name := "isAlive", desc := "(I)Z" } : Jvm.MethodName) ({ cls := "ShipLanterns$Survey", name := "isAlive", desc := "(I)Z" } : Jvm.MethodName)) ∈ zG := zG_mem 439 rfl rfl
theorem zw_440 : (Jvm.Cond.code ({ cls := "ShipLanterns$Survey", name := "isAlive", desc := "(I)Z" } : Jvm.MethodName) prog_8_method_3_code (2 : Nat) (Option.some Jvm.ClassFile.FieldType.boolean)) ∈ zG := zG_mem 440 rfl rfl
theorem zw_441 : (Jvm.Cond.methodLink "ShipLanterns" (296 : Nat) ({ cls := "ShipLanterns$Survey", name := "current", desc := "(I)I" } : Jvm.MethodName)) ∈ zG := zG_mem 441 rfl rfl
theorem zw_442 : (Jvm.Cond.instanceMethod ({ cls := "ShipLanterns$Survey", name := "current", desc := "(I)I" } : Jvm.MethodName)) ∈ zG := zG_mem 442 rfl rfl
theorem zw_443 : (Jvm.Cond.selects "ShipLanterns$Survey" ({ cls := "ShipLanterns$Survey", name := "current", desc := "(I)I" } : Jvm.MethodName) ({ cls := "ShipLanterns$Survey", name := "current", desc := "(I)I" } : Jvm.MethodName)) ∈ zG := zG_mem 443 rfl rfl
theorem zw_444 : (Jvm.Cond.code ({ cls := "ShipLanterns$Survey", name := "current", desc := "(I)I" } : Jvm.MethodName) prog_8_method_5_code (3 : Nat) (Option.some Jvm.ClassFile.FieldType.int)) ∈ zG := zG_mem 444 rfl rfl
theorem zw_445 : (Jvm.Cond.methodLink "ShipLanterns$Survey" (105 : Nat) ({ cls := "ShipLanterns$Survey", name := "isAlive", desc := "(I)Z" } : Jvm.MethodName)) ∈ zG := zG_mem 445 rfl rfl
theorem zw_446 : (Jvm.Cond.methodLink "ShipLanterns" (378 : Nat) ({ cls := "ShipLanterns", name := "strengthsAt", desc := "(II)I" } : Jvm.MethodName)) ∈ zG := zG_mem 446 rfl rfl
theorem zw_448 : (Jvm.Cond.instanceMethod ({ cls := "ShipLanterns", name := "strengthsAt", desc := "(II)I" } : Jvm.MethodName)) ∈ zG := zG_mem 448 rfl rfl
theorem zw_449 : (Jvm.Cond.code ({ cls := "ShipLanterns", name := "strengthsAt", desc := "(II)I" } : Jvm.MethodName) prog_1_method_49_code (5 : Nat) (Option.some Jvm.ClassFile.FieldType.int)) ∈ zG := zG_mem 449 rfl rfl
theorem zw_450 : (Jvm.Cond.methodLink "ShipLanternsLaw" (31 : Nat) ({ cls := "ShipLanterns", name := "lantern", desc := "(II)I" } : Jvm.MethodName)) ∈ zG := zG_mem 450 rfl rfl
theorem zw_451 : (Jvm.Cond.instanceMethod ({ cls := "ShipLanterns", name := "lantern", desc := "(II)I" } : Jvm.MethodName)) ∈ zG := zG_mem 451 rfl rfl
theorem zw_452 : (Jvm.Cond.selects "ShipLanterns" ({ cls := "ShipLanterns", name := "lantern", desc := "(II)I" } : Jvm.MethodName) ({ cls := "ShipLanterns", name := "lantern", desc := "(II)I" } : Jvm.MethodName)) ∈ zG := zG_mem 452 rfl rfl
theorem zw_453 : (Jvm.Cond.code ({ cls := "ShipLanterns", name := "lantern", desc := "(II)I" } : Jvm.MethodName) prog_1_method_19_code (3 : Nat) (Option.some Jvm.ClassFile.FieldType.int)) ∈ zG := zG_mem 453 rfl rfl
theorem zw_454 : (Jvm.Cond.methodLink "ShipLanterns" (156 : Nat) ({ cls := "ShipLanterns", name := "isLantern", desc := "(I)Z" } : Jvm.MethodName)) ∈ zG := zG_mem 454 rfl rfl
theorem zw_456 : (Jvm.Cond.instanceMethod ({ cls := "ShipLanterns", name := "isLantern", desc := "(I)Z" } : Jvm.MethodName)) ∈ zG := zG_mem 456 rfl rfl
theorem zw_457 : (Jvm.Cond.code ({ cls := "ShipLanterns", name := "isLantern", desc := "(I)Z" } : Jvm.MethodName) prog_1_method_31_code (2 : Nat) (Option.some Jvm.ClassFile.FieldType.boolean)) ∈ zG := zG_mem 457 rfl rfl
theorem zw_460 : (Jvm.Cond.methodLink "ShipLanterns" (256 : Nat) ({ cls := "ShipLanterns", name := "lanternProperty", desc := "(II)I" } : Jvm.MethodName)) ∈ zG := zG_mem 460 rfl rfl
theorem zw_462 : (Jvm.Cond.instanceMethod ({ cls := "ShipLanterns", name := "lanternProperty", desc := "(II)I" } : Jvm.MethodName)) ∈ zG := zG_mem 462 rfl rfl
theorem zw_463 : (Jvm.Cond.code ({ cls := "ShipLanterns", name := "lanternProperty", desc := "(II)I" } : Jvm.MethodName) prog_1_method_50_code (3 : Nat) (Option.some Jvm.ClassFile.FieldType.int)) ∈ zG := zG_mem 463 rfl rfl
theorem zw_464 : (Jvm.Cond.methodLink "ShipLanterns" (388 : Nat) ({ cls := "ShipLanterns", name := "darkReason", desc := "(I)I" } : Jvm.MethodName)) ∈ zG := zG_mem 464 rfl rfl
theorem zw_466 : (Jvm.Cond.instanceMethod ({ cls := "ShipLanterns", name := "darkReason", desc := "(I)I" } : Jvm.MethodName)) ∈ zG := zG_mem 466 rfl rfl
theorem zw_467 : (Jvm.Cond.code ({ cls := "ShipLanterns", name := "darkReason", desc := "(I)I" } : Jvm.MethodName) prog_1_method_51_code (3 : Nat) (Option.some Jvm.ClassFile.FieldType.int)) ∈ zG := zG_mem 467 rfl rfl
theorem zw_468 : (Jvm.Cond.methodLink "ShipLanternsLaw" (34 : Nat) ({ cls := "ShipLanterns", name := "faultAt", desc := "(II)I" } : Jvm.MethodName)) ∈ zG := zG_mem 468 rfl rfl
theorem zw_469 : (Jvm.Cond.instanceMethod ({ cls := "ShipLanterns", name := "faultAt", desc := "(II)I" } : Jvm.MethodName)) ∈ zG := zG_mem 469 rfl rfl
theorem zw_470 : (Jvm.Cond.selects "ShipLanterns" ({ cls := "ShipLanterns", name := "faultAt", desc := "(II)I" } : Jvm.MethodName) ({ cls := "ShipLanterns", name := "faultAt", desc := "(II)I" } : Jvm.MethodName)) ∈ zG := zG_mem 470 rfl rfl
theorem zw_471 : (Jvm.Cond.code ({ cls := "ShipLanterns", name := "faultAt", desc := "(II)I" } : Jvm.MethodName) prog_1_method_20_code (3 : Nat) (Option.some Jvm.ClassFile.FieldType.int)) ∈ zG := zG_mem 471 rfl rfl
theorem zw_472 : (Jvm.Cond.methodLink "ShipLanterns" (187 : Nat) ({ cls := "ShipLanterns", name := "isFault", desc := "(I)Z" } : Jvm.MethodName)) ∈ zG := zG_mem 472 rfl rfl
theorem zw_474 : (Jvm.Cond.instanceMethod ({ cls := "ShipLanterns", name := "isFault", desc := "(I)Z" } : Jvm.MethodName)) ∈ zG := zG_mem 474 rfl rfl
theorem zw_475 : (Jvm.Cond.code ({ cls := "ShipLanterns", name := "isFault", desc := "(I)Z" } : Jvm.MethodName) prog_1_method_32_code (2 : Nat) (Option.some Jvm.ClassFile.FieldType.boolean)) ∈ zG := zG_mem 475 rfl rfl
theorem zw_478 : (Jvm.Cond.methodLink "ShipLanterns" (261 : Nat) ({ cls := "ShipLanterns", name := "faultProperty", desc := "(II)I" } : Jvm.MethodName)) ∈ zG := zG_mem 478 rfl rfl
theorem zw_480 : (Jvm.Cond.instanceMethod ({ cls := "ShipLanterns", name := "faultProperty", desc := "(II)I" } : Jvm.MethodName)) ∈ zG := zG_mem 480 rfl rfl
theorem zw_481 : (Jvm.Cond.code ({ cls := "ShipLanterns", name := "faultProperty", desc := "(II)I" } : Jvm.MethodName) prog_1_method_52_code (4 : Nat) (Option.some Jvm.ClassFile.FieldType.int)) ∈ zG := zG_mem 481 rfl rfl
theorem zw_482 : (Jvm.Cond.methodLink "ShipLanternsLaw" (37 : Nat) ({ cls := "ShipLanterns", name := "lamp", desc := "(I)I" } : Jvm.MethodName)) ∈ zG := zG_mem 482 rfl rfl
theorem zw_483 : (Jvm.Cond.instanceMethod ({ cls := "ShipLanterns", name := "lamp", desc := "(I)I" } : Jvm.MethodName)) ∈ zG := zG_mem 483 rfl rfl
theorem zw_484 : (Jvm.Cond.selects "ShipLanterns" ({ cls := "ShipLanterns", name := "lamp", desc := "(I)I" } : Jvm.MethodName) ({ cls := "ShipLanterns", name := "lamp", desc := "(I)I" } : Jvm.MethodName)) ∈ zG := zG_mem 484 rfl rfl
theorem zw_485 : (Jvm.Cond.code ({ cls := "ShipLanterns", name := "lamp", desc := "(I)I" } : Jvm.MethodName) prog_1_method_22_code (2 : Nat) (Option.some Jvm.ClassFile.FieldType.int)) ∈ zG := zG_mem 485 rfl rfl
theorem zw_486 : (Jvm.Cond.methodLink "ShipLanterns" (270 : Nat) ({ cls := "ShipLanterns", name := "isPole", desc := "(I)Z" } : Jvm.MethodName)) ∈ zG := zG_mem 486 rfl rfl
theorem zw_487 : (Jvm.Cond.static ({ cls := "ShipLanterns", name := "isPole", desc := "(I)Z" } : Jvm.MethodName)) ∈ zG := zG_mem 487 rfl rfl
theorem zw_488 : (Jvm.Cond.code ({ cls := "ShipLanterns", name := "isPole", desc := "(I)Z" } : Jvm.MethodName) prog_1_method_34_code (1 : Nat) (Option.some Jvm.ClassFile.FieldType.boolean)) ∈ zG := zG_mem 488 rfl rfl
theorem zw_490 : (Jvm.Cond.methodLink "ShipLanterns" (275 : Nat) ({ cls := "ShipLanterns$Survey", name := "lampOf", desc := "(I)I" } : Jvm.MethodName)) ∈ zG := zG_mem 490 rfl rfl
theorem zw_491 : (Jvm.Cond.instanceMethod ({ cls := "ShipLanterns$Survey", name := "lampOf", desc := "(I)I" } : Jvm.MethodName)) ∈ zG := zG_mem 491 rfl rfl
theorem zw_492 : (Jvm.Cond.selects "ShipLanterns$Survey" ({ cls := "ShipLanterns$Survey", name := "lampOf", desc := "(I)I" } : Jvm.MethodName) ({ cls := "ShipLanterns$Survey", name := "lampOf", desc := "(I)I" } : Jvm.MethodName)) ∈ zG := zG_mem 492 rfl rfl
theorem zw_493 : (Jvm.Cond.code ({ cls := "ShipLanterns$Survey", name := "lampOf", desc := "(I)I" } : Jvm.MethodName) prog_8_method_4_code (2 : Nat) (Option.some Jvm.ClassFile.FieldType.int)) ∈ zG := zG_mem 493 rfl rfl
theorem zw_494 : (Jvm.Cond.methodLink "ShipLanternsLaw" (40 : Nat) ({ cls := "ShipLanterns", name := "lossShare", desc := "()D" } : Jvm.MethodName)) ∈ zG := zG_mem 494 rfl rfl
theorem zw_495 : (Jvm.Cond.instanceMethod ({ cls := "ShipLanterns", name := "lossShare", desc := "()D" } : Jvm.MethodName)) ∈ zG := zG_mem 495 rfl rfl
theorem zw_496 : (Jvm.Cond.selects "ShipLanterns" ({ cls := "ShipLanterns", name := "lossShare", desc := "()D" } : Jvm.MethodName) ({ cls := "ShipLanterns", name := "lossShare", desc := "()D" } : Jvm.MethodName)) ∈ zG := zG_mem 496 rfl rfl
theorem zw_497 : (Jvm.Cond.code ({ cls := "ShipLanterns", name := "lossShare", desc := "()D" } : Jvm.MethodName) prog_1_method_27_code (2 : Nat) (Option.some Jvm.ClassFile.FieldType.double)) ∈ zG := zG_mem 497 rfl rfl
theorem zw_498 : (Jvm.Cond.methodLink "ShipLanternsLaw" (44 : Nat) ({ cls := "ShipLanterns", name := "count", desc := "(I)I" } : Jvm.MethodName)) ∈ zG := zG_mem 498 rfl rfl
theorem zw_499 : (Jvm.Cond.instanceMethod ({ cls := "ShipLanterns", name := "count", desc := "(I)I" } : Jvm.MethodName)) ∈ zG := zG_mem 499 rfl rfl
theorem zw_500 : (Jvm.Cond.selects "ShipLanterns" ({ cls := "ShipLanterns", name := "count", desc := "(I)I" } : Jvm.MethodName) ({ cls := "ShipLanterns", name := "count", desc := "(I)I" } : Jvm.MethodName)) ∈ zG := zG_mem 500 rfl rfl
theorem zw_501 : (Jvm.Cond.code ({ cls := "ShipLanterns", name := "count", desc := "(I)I" } : Jvm.MethodName) prog_1_method_21_code (2 : Nat) (Option.some Jvm.ClassFile.FieldType.int)) ∈ zG := zG_mem 501 rfl rfl
theorem zw_503 : (Jvm.Cond.methodLink "ShipLanterns" (266 : Nat) ({ cls := "ShipLanterns", name := "countOf", desc := "(I)I" } : Jvm.MethodName)) ∈ zG := zG_mem 503 rfl rfl
theorem zw_505 : (Jvm.Cond.instanceMethod ({ cls := "ShipLanterns", name := "countOf", desc := "(I)I" } : Jvm.MethodName)) ∈ zG := zG_mem 505 rfl rfl
theorem zw_506 : (Jvm.Cond.code ({ cls := "ShipLanterns", name := "countOf", desc := "(I)I" } : Jvm.MethodName) prog_1_method_53_code (2 : Nat) (Option.some Jvm.ClassFile.FieldType.int)) ∈ zG := zG_mem 506 rfl rfl
theorem zw_507 : (Jvm.Cond.methodLink "ShipLanterns" (400 : Nat) ({ cls := "ShipLanterns$Cables", name := "blownFuses", desc := "()I" } : Jvm.MethodName)) ∈ zG := zG_mem 507 rfl rfl
theorem zw_508 : (Jvm.Cond.instanceMethod ({ cls := "ShipLanterns$Cables", name := "blownFuses", desc := "()I" } : Jvm.MethodName)) ∈ zG := zG_mem 508 rfl rfl
theorem zw_509 : (Jvm.Cond.selects "ShipLanterns$Cables" ({ cls := "ShipLanterns$Cables", name := "blownFuses", desc := "()I" } : Jvm.MethodName) ({ cls := "ShipLanterns$Cables", name := "blownFuses", desc := "()I" } : Jvm.MethodName)) ∈ zG := zG_mem 509 rfl rfl
theorem zw_510 : (Jvm.Cond.code ({ cls := "ShipLanterns$Cables", name := "blownFuses", desc := "()I" } : Jvm.MethodName) prog_2_method_4_code (3 : Nat) (Option.some Jvm.ClassFile.FieldType.int)) ∈ zG := zG_mem 510 rfl rfl
theorem zw_511 : (Jvm.Cond.methodLink "ShipLanternsLaw" (47 : Nat) ({ cls := "ShipLanternsLaw", name := "burn", desc := "([I[I[I[IZ)I" } : Jvm.MethodName)) ∈ zG := zG_mem 511 rfl rfl
theorem zw_512 : (Jvm.Cond.static ({ cls := "ShipLanternsLaw", name := "burn", desc := "([I[I[I[IZ)I" } : Jvm.MethodName)) ∈ zG := zG_mem 512 rfl rfl
theorem zw_513 : (Jvm.Cond.code ({ cls := "ShipLanternsLaw", name := "burn", desc := "([I[I[I[IZ)I" } : Jvm.MethodName) method_8_code (7 : Nat) (Option.some Jvm.ClassFile.FieldType.int)) ∈ zG := zG_mem 513 rfl rfl
theorem zw_514 : (Jvm.Cond.methodLink "ShipLanternsLaw" (116 : Nat) ({ cls := "ShipLanternsLaw", name := "ahead", desc := "(LShipLanterns;II[I[I[I[I)Z" } : Jvm.MethodName)) ∈ zG := zG_mem 514 rfl rfl
theorem zw_515 : (Jvm.Cond.static ({ cls := "ShipLanternsLaw", name := "ahead", desc := "(LShipLanterns;II[I[I[I[I)Z" } : Jvm.MethodName)) ∈ zG := zG_mem 515 rfl rfl
theorem zw_516 : (Jvm.Cond.code ({ cls := "ShipLanternsLaw", name := "ahead", desc := "(LShipLanterns;II[I[I[I[I)Z" } : Jvm.MethodName) method_10_code (20 : Nat) (Option.some Jvm.ClassFile.FieldType.boolean)) ∈ zG := zG_mem 516 rfl rfl
theorem zw_517 : (Jvm.Cond.methodLink "ShipLanternsLaw" (54 : Nat) ({ cls := "ShipLanternsLaw", name := "settle", desc := "([I[I[I[I[I[I[I)I" } : Jvm.MethodName)) ∈ zG := zG_mem 517 rfl rfl
theorem zw_518 : (Jvm.Cond.static ({ cls := "ShipLanternsLaw", name := "settle", desc := "([I[I[I[I[I[I[I)I" } : Jvm.MethodName)) ∈ zG := zG_mem 518 rfl rfl
theorem zw_519 : (Jvm.Cond.code ({ cls := "ShipLanternsLaw", name := "settle", desc := "([I[I[I[I[I[I[I)I" } : Jvm.MethodName) method_7_code (10 : Nat) (Option.some Jvm.ClassFile.FieldType.int)) ∈ zG := zG_mem 519 rfl rfl
theorem zw_520 : (Jvm.Cond.methodLink "ShipLanternsLaw" (58 : Nat) ({ cls := "ShipLanterns", name := "ifFault", desc := "(IIII)I" } : Jvm.MethodName)) ∈ zG := zG_mem 520 rfl rfl
theorem zw_521 : (Jvm.Cond.instanceMethod ({ cls := "ShipLanterns", name := "ifFault", desc := "(IIII)I" } : Jvm.MethodName)) ∈ zG := zG_mem 521 rfl rfl
theorem zw_522 : (Jvm.Cond.selects "ShipLanterns" ({ cls := "ShipLanterns", name := "ifFault", desc := "(IIII)I" } : Jvm.MethodName) ({ cls := "ShipLanterns", name := "ifFault", desc := "(IIII)I" } : Jvm.MethodName)) ∈ zG := zG_mem 522 rfl rfl
theorem zw_523 : (Jvm.Cond.code ({ cls := "ShipLanterns", name := "ifFault", desc := "(IIII)I" } : Jvm.MethodName) prog_1_method_24_code (7 : Nat) (Option.some Jvm.ClassFile.FieldType.int)) ∈ zG := zG_mem 523 rfl rfl
theorem zw_524 : (Jvm.Cond.methodLink "ShipLanterns" (170 : Nat) ({ cls := "ShipLanterns", name := "isStrength", desc := "(I)Z" } : Jvm.MethodName)) ∈ zG := zG_mem 524 rfl rfl
theorem zw_525 : (Jvm.Cond.static ({ cls := "ShipLanterns", name := "isStrength", desc := "(I)Z" } : Jvm.MethodName)) ∈ zG := zG_mem 525 rfl rfl
theorem zw_526 : (Jvm.Cond.code ({ cls := "ShipLanterns", name := "isStrength", desc := "(I)Z" } : Jvm.MethodName) prog_1_method_36_code (1 : Nat) (Option.some Jvm.ClassFile.FieldType.boolean)) ∈ zG := zG_mem 526 rfl rfl
theorem zw_528 : (Jvm.Cond.methodLink "ShipLanterns" (283 : Nat) ({ cls := "ShipLanterns$Ship", name := "copy", desc := "(LShipLanterns$Ship;)V" } : Jvm.MethodName)) ∈ zG := zG_mem 528 rfl rfl
theorem zw_529 : (Jvm.Cond.instanceMethod ({ cls := "ShipLanterns$Ship", name := "copy", desc := "(LShipLanterns$Ship;)V" } : Jvm.MethodName)) ∈ zG := zG_mem 529 rfl rfl
theorem zw_530 : (Jvm.Cond.selects "ShipLanterns$Ship" ({ cls := "ShipLanterns$Ship", name := "copy", desc := "(LShipLanterns$Ship;)V" } : Jvm.MethodName) ({ cls := "ShipLanterns$Ship", name := "copy", desc := "(LShipLanterns$Ship;)V" } : Jvm.MethodName)) ∈ zG := zG_mem 530 rfl rfl
theorem zw_531 : (Jvm.Cond.code ({ cls := "ShipLanterns$Ship", name := "copy", desc := "(LShipLanterns$Ship;)V" } : Jvm.MethodName) prog_7_method_2_code (2 : Nat) (Option.none : Option Jvm.ClassFile.FieldType)) ∈ zG := zG_mem 531 rfl rfl
theorem zw_532 : (Jvm.Cond.methodLink "ShipLanterns$Ship" (48 : Nat) ({ cls := "ShipLanterns$Cables", name := "copy", desc := "(LShipLanterns$Cables;)V" } : Jvm.MethodName)) ∈ zG := zG_mem 532 rfl rfl
theorem zw_533 : (Jvm.Cond.instanceMethod ({ cls := "ShipLanterns$Cables", name := "copy", desc := "(LShipLanterns$Cables;)V" } : Jvm.MethodName)) ∈ zG := zG_mem 533 rfl rfl
theorem zw_534 : (Jvm.Cond.selects "ShipLanterns$Cables" ({ cls := "ShipLanterns$Cables", name := "copy", desc := "(LShipLanterns$Cables;)V" } : Jvm.MethodName) ({ cls := "ShipLanterns$Cables", name := "copy", desc := "(LShipLanterns$Cables;)V" } : Jvm.MethodName)) ∈ zG := zG_mem 534 rfl rfl
theorem zw_535 : (Jvm.Cond.code ({ cls := "ShipLanterns$Cables", name := "copy", desc := "(LShipLanterns$Cables;)V" } : Jvm.MethodName) prog_2_method_5_code (3 : Nat) (Option.none : Option Jvm.ClassFile.FieldType)) ∈ zG := zG_mem 535 rfl rfl
theorem zw_536 : (Jvm.Cond.methodLink "ShipLanterns$Ship" (52 : Nat) ({ cls := "ShipLanterns$Lanterns", name := "copy", desc := "(LShipLanterns$Lanterns;)V" } : Jvm.MethodName)) ∈ zG := zG_mem 536 rfl rfl
theorem zw_537 : (Jvm.Cond.instanceMethod ({ cls := "ShipLanterns$Lanterns", name := "copy", desc := "(LShipLanterns$Lanterns;)V" } : Jvm.MethodName)) ∈ zG := zG_mem 537 rfl rfl
theorem zw_538 : (Jvm.Cond.selects "ShipLanterns$Lanterns" ({ cls := "ShipLanterns$Lanterns", name := "copy", desc := "(LShipLanterns$Lanterns;)V" } : Jvm.MethodName) ({ cls := "ShipLanterns$Lanterns", name := "copy", desc := "(LShipLanterns$Lanterns;)V" } : Jvm.MethodName)) ∈ zG := zG_mem 538 rfl rfl
theorem zw_539 : (Jvm.Cond.code ({ cls := "ShipLanterns$Lanterns", name := "copy", desc := "(LShipLanterns$Lanterns;)V" } : Jvm.MethodName) prog_5_method_4_code (3 : Nat) (Option.none : Option Jvm.ClassFile.FieldType)) ∈ zG := zG_mem 539 rfl rfl
theorem zw_540 : (Jvm.Cond.methodLink "ShipLanterns$Ship" (55 : Nat) ({ cls := "ShipLanterns$Faults", name := "copy", desc := "(LShipLanterns$Faults;)V" } : Jvm.MethodName)) ∈ zG := zG_mem 540 rfl rfl
theorem zw_541 : (Jvm.Cond.instanceMethod ({ cls := "ShipLanterns$Faults", name := "copy", desc := "(LShipLanterns$Faults;)V" } : Jvm.MethodName)) ∈ zG := zG_mem 541 rfl rfl
theorem zw_542 : (Jvm.Cond.selects "ShipLanterns$Faults" ({ cls := "ShipLanterns$Faults", name := "copy", desc := "(LShipLanterns$Faults;)V" } : Jvm.MethodName) ({ cls := "ShipLanterns$Faults", name := "copy", desc := "(LShipLanterns$Faults;)V" } : Jvm.MethodName)) ∈ zG := zG_mem 542 rfl rfl
theorem zw_543 : (Jvm.Cond.code ({ cls := "ShipLanterns$Faults", name := "copy", desc := "(LShipLanterns$Faults;)V" } : Jvm.MethodName) prog_3_method_4_code (3 : Nat) (Option.none : Option Jvm.ClassFile.FieldType)) ∈ zG := zG_mem 543 rfl rfl
theorem zw_544 : (Jvm.Cond.methodLink "ShipLanterns" (184 : Nat) ({ cls := "ShipLanterns$Faults", name := "add", desc := "(III)V" } : Jvm.MethodName)) ∈ zG := zG_mem 544 rfl rfl
theorem zw_545 : (Jvm.Cond.instanceMethod ({ cls := "ShipLanterns$Faults", name := "add", desc := "(III)V" } : Jvm.MethodName)) ∈ zG := zG_mem 545 rfl rfl
theorem zw_546 : (Jvm.Cond.selects "ShipLanterns$Faults" ({ cls := "ShipLanterns$Faults", name := "add", desc := "(III)V" } : Jvm.MethodName) ({ cls := "ShipLanterns$Faults", name := "add", desc := "(III)V" } : Jvm.MethodName)) ∈ zG := zG_mem 546 rfl rfl
theorem zw_547 : (Jvm.Cond.code ({ cls := "ShipLanterns$Faults", name := "add", desc := "(III)V" } : Jvm.MethodName) prog_3_method_2_code (4 : Nat) (Option.none : Option Jvm.ClassFile.FieldType)) ∈ zG := zG_mem 547 rfl rfl
theorem zw_548 : (Jvm.Cond.methodLink "ShipLanterns" (239 : Nat) ({ cls := "ShipLanterns$Survey", name := "take", desc := "(LShipLanterns$Ship;)V" } : Jvm.MethodName)) ∈ zG := zG_mem 548 rfl rfl
theorem zw_549 : (Jvm.Cond.instanceMethod ({ cls := "ShipLanterns$Survey", name := "take", desc := "(LShipLanterns$Ship;)V" } : Jvm.MethodName)) ∈ zG := zG_mem 549 rfl rfl
theorem zw_550 : (Jvm.Cond.selects "ShipLanterns$Survey" ({ cls := "ShipLanterns$Survey", name := "take", desc := "(LShipLanterns$Ship;)V" } : Jvm.MethodName) ({ cls := "ShipLanterns$Survey", name := "take", desc := "(LShipLanterns$Ship;)V" } : Jvm.MethodName)) ∈ zG := zG_mem 550 rfl rfl
theorem zw_551 : (Jvm.Cond.code ({ cls := "ShipLanterns$Survey", name := "take", desc := "(LShipLanterns$Ship;)V" } : Jvm.MethodName) prog_8_method_2_code (2 : Nat) (Option.none : Option Jvm.ClassFile.FieldType)) ∈ zG := zG_mem 551 rfl rfl
theorem zw_552 : (Jvm.Cond.methodLink "ShipLanterns$Survey" (61 : Nat) ({ cls := "ShipLanterns$Survey", name := "clearSums", desc := "(I)V" } : Jvm.MethodName)) ∈ zG := zG_mem 552 rfl rfl
theorem zw_554 : (Jvm.Cond.instanceMethod ({ cls := "ShipLanterns$Survey", name := "clearSums", desc := "(I)V" } : Jvm.MethodName)) ∈ zG := zG_mem 554 rfl rfl
theorem zw_555 : (Jvm.Cond.code ({ cls := "ShipLanterns$Survey", name := "clearSums", desc := "(I)V" } : Jvm.MethodName) prog_8_method_7_code (4 : Nat) (Option.none : Option Jvm.ClassFile.FieldType)) ∈ zG := zG_mem 555 rfl rfl
theorem zw_556 : (Jvm.Cond.methodLink "ShipLanterns$Survey" (65 : Nat) ({ cls := "ShipLanterns$Survey", name := "followCables", desc := "(LShipLanterns$Cables;)V" } : Jvm.MethodName)) ∈ zG := zG_mem 556 rfl rfl
theorem zw_558 : (Jvm.Cond.instanceMethod ({ cls := "ShipLanterns$Survey", name := "followCables", desc := "(LShipLanterns$Cables;)V" } : Jvm.MethodName)) ∈ zG := zG_mem 558 rfl rfl
theorem zw_559 : (Jvm.Cond.code ({ cls := "ShipLanterns$Survey", name := "followCables", desc := "(LShipLanterns$Cables;)V" } : Jvm.MethodName) prog_8_method_8_code (7 : Nat) (Option.none : Option Jvm.ClassFile.FieldType)) ∈ zG := zG_mem 559 rfl rfl
theorem zw_560 : (Jvm.Cond.methodLink "ShipLanterns$Survey" (121 : Nat) ({ cls := "ShipLanterns$Cables", name := "connected", desc := "(II)I" } : Jvm.MethodName)) ∈ zG := zG_mem 560 rfl rfl
theorem zw_561 : (Jvm.Cond.instanceMethod ({ cls := "ShipLanterns$Cables", name := "connected", desc := "(II)I" } : Jvm.MethodName)) ∈ zG := zG_mem 561 rfl rfl
theorem zw_562 : (Jvm.Cond.selects "ShipLanterns$Cables" ({ cls := "ShipLanterns$Cables", name := "connected", desc := "(II)I" } : Jvm.MethodName) ({ cls := "ShipLanterns$Cables", name := "connected", desc := "(II)I" } : Jvm.MethodName)) ∈ zG := zG_mem 562 rfl rfl
theorem zw_563 : (Jvm.Cond.code ({ cls := "ShipLanterns$Cables", name := "connected", desc := "(II)I" } : Jvm.MethodName) prog_2_method_3_code (3 : Nat) (Option.some Jvm.ClassFile.FieldType.int)) ∈ zG := zG_mem 563 rfl rfl
theorem zw_564 : (Jvm.Cond.methodLink "ShipLanterns$Survey" (73 : Nat) ({ cls := "ShipLanterns$Survey", name := "findBurning", desc := "(LShipLanterns$Lanterns;)V" } : Jvm.MethodName)) ∈ zG := zG_mem 564 rfl rfl
theorem zw_566 : (Jvm.Cond.instanceMethod ({ cls := "ShipLanterns$Survey", name := "findBurning", desc := "(LShipLanterns$Lanterns;)V" } : Jvm.MethodName)) ∈ zG := zG_mem 566 rfl rfl
theorem zw_567 : (Jvm.Cond.code ({ cls := "ShipLanterns$Survey", name := "findBurning", desc := "(LShipLanterns$Lanterns;)V" } : Jvm.MethodName) prog_8_method_9_code (5 : Nat) (Option.none : Option Jvm.ClassFile.FieldType)) ∈ zG := zG_mem 567 rfl rfl
theorem zw_568 : (Jvm.Cond.methodLink "ShipLanterns$Survey" (81 : Nat) ({ cls := "ShipLanterns$Survey", name := "findStrengths", desc := "(LShipLanterns$Faults;)V" } : Jvm.MethodName)) ∈ zG := zG_mem 568 rfl rfl
theorem zw_570 : (Jvm.Cond.instanceMethod ({ cls := "ShipLanterns$Survey", name := "findStrengths", desc := "(LShipLanterns$Faults;)V" } : Jvm.MethodName)) ∈ zG := zG_mem 570 rfl rfl
theorem zw_571 : (Jvm.Cond.code ({ cls := "ShipLanterns$Survey", name := "findStrengths", desc := "(LShipLanterns$Faults;)V" } : Jvm.MethodName) prog_8_method_10_code (4 : Nat) (Option.none : Option Jvm.ClassFile.FieldType)) ∈ zG := zG_mem 571 rfl rfl
theorem zw_572 : (Jvm.Cond.methodLink "ShipLanterns$Survey" (85 : Nat) ({ cls := "ShipLanterns$Survey", name := "sumUpStrengths", desc := "(LShipLanterns$Cables;)V" } : Jvm.MethodName)) ∈ zG := zG_mem 572 rfl rfl
theorem zw_574 : (Jvm.Cond.instanceMethod ({ cls := "ShipLanterns$Survey", name := "sumUpStrengths", desc := "(LShipLanterns$Cables;)V" } : Jvm.MethodName)) ∈ zG := zG_mem 574 rfl rfl
theorem zw_575 : (Jvm.Cond.code ({ cls := "ShipLanterns$Survey", name := "sumUpStrengths", desc := "(LShipLanterns$Cables;)V" } : Jvm.MethodName) prog_8_method_11_code (4 : Nat) (Option.none : Option Jvm.ClassFile.FieldType)) ∈ zG := zG_mem 575 rfl rfl
theorem zw_576 : (Jvm.Cond.methodLink "ShipLanterns$Survey" (88 : Nat) ({ cls := "ShipLanterns$Survey", name := "lampOf", desc := "(I)I" } : Jvm.MethodName)) ∈ zG := zG_mem 576 rfl rfl
theorem zw_577 : (Jvm.Cond.methodLink "ShipLanterns$Survey" (92 : Nat) ({ cls := "java/lang/Math", name := "min", desc := "(II)I" } : Jvm.MethodName)) ∈ zG := zG_mem 577 rfl rfl
theorem zw_578 : (Jvm.Cond.static ({ cls := "java/lang/Math", name := "min", desc := "(II)I" } : Jvm.MethodName)) ∈ zG := zG_mem 578 rfl rfl
theorem zw_579 : (Jvm.Cond.code ({ cls := "java/lang/Math", name := "min", desc := "(II)I" } : Jvm.MethodName) prog_15_method_69_code (2 : Nat) (Option.some Jvm.ClassFile.FieldType.int)) ∈ zG := zG_mem 579 rfl rfl
theorem zw_580 : (Jvm.Cond.methodLink "ShipLanterns$Survey" (98 : Nat) ({ cls := "ShipLanterns$Survey", name := "shareLeak", desc := "(LShipLanterns$Faults;I)V" } : Jvm.MethodName)) ∈ zG := zG_mem 580 rfl rfl
theorem zw_582 : (Jvm.Cond.instanceMethod ({ cls := "ShipLanterns$Survey", name := "shareLeak", desc := "(LShipLanterns$Faults;I)V" } : Jvm.MethodName)) ∈ zG := zG_mem 582 rfl rfl
theorem zw_583 : (Jvm.Cond.code ({ cls := "ShipLanterns$Survey", name := "shareLeak", desc := "(LShipLanterns$Faults;I)V" } : Jvm.MethodName) prog_8_method_12_code (6 : Nat) (Option.none : Option Jvm.ClassFile.FieldType)) ∈ zG := zG_mem 583 rfl rfl
theorem zw_584 : (Jvm.Cond.methodLink "ShipLanterns$Survey" (102 : Nat) ({ cls := "ShipLanterns$Survey", name := "sumUpCurrents", desc := "(LShipLanterns$Cables;)V" } : Jvm.MethodName)) ∈ zG := zG_mem 584 rfl rfl
theorem zw_586 : (Jvm.Cond.instanceMethod ({ cls := "ShipLanterns$Survey", name := "sumUpCurrents", desc := "(LShipLanterns$Cables;)V" } : Jvm.MethodName)) ∈ zG := zG_mem 586 rfl rfl
theorem zw_587 : (Jvm.Cond.code ({ cls := "ShipLanterns$Survey", name := "sumUpCurrents", desc := "(LShipLanterns$Cables;)V" } : Jvm.MethodName) prog_8_method_13_code (5 : Nat) (Option.none : Option Jvm.ClassFile.FieldType)) ∈ zG := zG_mem 587 rfl rfl
theorem zw_588 : (Jvm.Cond.methodLink "ShipLanterns" (286 : Nat) ({ cls := "ShipLanterns$Survey", name := "fuseToBlow", desc := "(LShipLanterns$Cables;)I" } : Jvm.MethodName)) ∈ zG := zG_mem 588 rfl rfl
theorem zw_589 : (Jvm.Cond.instanceMethod ({ cls := "ShipLanterns$Survey", name := "fuseToBlow", desc := "(LShipLanterns$Cables;)I" } : Jvm.MethodName)) ∈ zG := zG_mem 589 rfl rfl
theorem zw_590 : (Jvm.Cond.selects "ShipLanterns$Survey" ({ cls := "ShipLanterns$Survey", name := "fuseToBlow", desc := "(LShipLanterns$Cables;)I" } : Jvm.MethodName) ({ cls := "ShipLanterns$Survey", name := "fuseToBlow", desc := "(LShipLanterns$Cables;)I" } : Jvm.MethodName)) ∈ zG := zG_mem 590 rfl rfl
theorem zw_591 : (Jvm.Cond.code ({ cls := "ShipLanterns$Survey", name := "fuseToBlow", desc := "(LShipLanterns$Cables;)I" } : Jvm.MethodName) prog_8_method_6_code (6 : Nat) (Option.some Jvm.ClassFile.FieldType.int)) ∈ zG := zG_mem 591 rfl rfl
theorem zw_592 : (Jvm.Cond.methodLink "ShipLanterns$Survey" (109 : Nat) ({ cls := "ShipLanterns$Survey", name := "current", desc := "(I)I" } : Jvm.MethodName)) ∈ zG := zG_mem 592 rfl rfl
theorem zw_593 : (Jvm.Cond.methodLink "ShipLanterns" (95 : Nat) ({ cls := "ShipLanterns", name := "settle", desc := "(LShipLanterns$Ship;LShipLanterns$Survey;)I" } : Jvm.MethodName)) ∈ zG := zG_mem 593 rfl rfl
theorem zw_594 : (Jvm.Cond.static ({ cls := "ShipLanterns", name := "settle", desc := "(LShipLanterns$Ship;LShipLanterns$Survey;)I" } : Jvm.MethodName)) ∈ zG := zG_mem 594 rfl rfl
theorem zw_595 : (Jvm.Cond.code ({ cls := "ShipLanterns", name := "settle", desc := "(LShipLanterns$Ship;LShipLanterns$Survey;)I" } : Jvm.MethodName) prog_1_method_38_code (4 : Nat) (Option.some Jvm.ClassFile.FieldType.int)) ∈ zG := zG_mem 595 rfl rfl
theorem zw_596 : (Jvm.Cond.methodLink "ShipLanternsLaw" (62 : Nat) ({ cls := "ShipLanterns", name := "ifToggled", desc := "(I)I" } : Jvm.MethodName)) ∈ zG := zG_mem 596 rfl rfl
theorem zw_597 : (Jvm.Cond.instanceMethod ({ cls := "ShipLanterns", name := "ifToggled", desc := "(I)I" } : Jvm.MethodName)) ∈ zG := zG_mem 597 rfl rfl
theorem zw_598 : (Jvm.Cond.selects "ShipLanterns" ({ cls := "ShipLanterns", name := "ifToggled", desc := "(I)I" } : Jvm.MethodName) ({ cls := "ShipLanterns", name := "ifToggled", desc := "(I)I" } : Jvm.MethodName)) ∈ zG := zG_mem 598 rfl rfl
theorem zw_599 : (Jvm.Cond.code ({ cls := "ShipLanterns", name := "ifToggled", desc := "(I)I" } : Jvm.MethodName) prog_1_method_25_code (2 : Nat) (Option.some Jvm.ClassFile.FieldType.int)) ∈ zG := zG_mem 599 rfl rfl
theorem zw_600 : (Jvm.Cond.methodLink "ShipLanterns" (99 : Nat) ({ cls := "ShipLanterns", name := "isFedBox", desc := "(I)Z" } : Jvm.MethodName)) ∈ zG := zG_mem 600 rfl rfl
theorem zw_602 : (Jvm.Cond.instanceMethod ({ cls := "ShipLanterns", name := "isFedBox", desc := "(I)Z" } : Jvm.MethodName)) ∈ zG := zG_mem 602 rfl rfl
theorem zw_603 : (Jvm.Cond.code ({ cls := "ShipLanterns", name := "isFedBox", desc := "(I)Z" } : Jvm.MethodName) prog_1_method_30_code (2 : Nat) (Option.some Jvm.ClassFile.FieldType.boolean)) ∈ zG := zG_mem 603 rfl rfl
theorem zw_605 : (Jvm.Cond.methodLink "ShipLanterns" (290 : Nat) ({ cls := "ShipLanterns", name := "burningIfToggled", desc := "(I)I" } : Jvm.MethodName)) ∈ zG := zG_mem 605 rfl rfl
theorem zw_607 : (Jvm.Cond.instanceMethod ({ cls := "ShipLanterns", name := "burningIfToggled", desc := "(I)I" } : Jvm.MethodName)) ∈ zG := zG_mem 607 rfl rfl
theorem zw_608 : (Jvm.Cond.code ({ cls := "ShipLanterns", name := "burningIfToggled", desc := "(I)I" } : Jvm.MethodName) prog_1_method_39_code (2 : Nat) (Option.some Jvm.ClassFile.FieldType.int)) ∈ zG := zG_mem 608 rfl rfl
theorem zw_609 : (Jvm.Cond.methodLink "ShipLanternsLaw" (65 : Nat) ({ cls := "ShipLanterns", name := "neededRating", desc := "(II)I" } : Jvm.MethodName)) ∈ zG := zG_mem 609 rfl rfl
theorem zw_610 : (Jvm.Cond.instanceMethod ({ cls := "ShipLanterns", name := "neededRating", desc := "(II)I" } : Jvm.MethodName)) ∈ zG := zG_mem 610 rfl rfl
theorem zw_611 : (Jvm.Cond.selects "ShipLanterns" ({ cls := "ShipLanterns", name := "neededRating", desc := "(II)I" } : Jvm.MethodName) ({ cls := "ShipLanterns", name := "neededRating", desc := "(II)I" } : Jvm.MethodName)) ∈ zG := zG_mem 611 rfl rfl
theorem zw_612 : (Jvm.Cond.code ({ cls := "ShipLanterns", name := "neededRating", desc := "(II)I" } : Jvm.MethodName) prog_1_method_26_code (3 : Nat) (Option.some Jvm.ClassFile.FieldType.int)) ∈ zG := zG_mem 612 rfl rfl
theorem zw_614 : (Jvm.Cond.methodLink "ShipLanterns" (293 : Nat) ({ cls := "ShipLanterns", name := "surveyWithWholeFuses", desc := "()V" } : Jvm.MethodName)) ∈ zG := zG_mem 614 rfl rfl
theorem zw_616 : (Jvm.Cond.instanceMethod ({ cls := "ShipLanterns", name := "surveyWithWholeFuses", desc := "()V" } : Jvm.MethodName)) ∈ zG := zG_mem 616 rfl rfl
theorem zw_617 : (Jvm.Cond.code ({ cls := "ShipLanterns", name := "surveyWithWholeFuses", desc := "()V" } : Jvm.MethodName) prog_1_method_40_code (2 : Nat) (Option.none : Option Jvm.ClassFile.FieldType)) ∈ zG := zG_mem 617 rfl rfl
theorem zw_618 : (Jvm.Cond.methodLink "ShipLanternsLaw" (68 : Nat) ({ cls := "ShipLanterns", name := "locate", desc := "(I)I" } : Jvm.MethodName)) ∈ zG := zG_mem 618 rfl rfl
theorem zw_619 : (Jvm.Cond.instanceMethod ({ cls := "ShipLanterns", name := "locate", desc := "(I)I" } : Jvm.MethodName)) ∈ zG := zG_mem 619 rfl rfl
theorem zw_620 : (Jvm.Cond.selects "ShipLanterns" ({ cls := "ShipLanterns", name := "locate", desc := "(I)I" } : Jvm.MethodName) ({ cls := "ShipLanterns", name := "locate", desc := "(I)I" } : Jvm.MethodName)) ∈ zG := zG_mem 620 rfl rfl
theorem zw_621 : (Jvm.Cond.code ({ cls := "ShipLanterns", name := "locate", desc := "(I)I" } : Jvm.MethodName) prog_1_method_23_code (2 : Nat) (Option.some Jvm.ClassFile.FieldType.int)) ∈ zG := zG_mem 621 rfl rfl
theorem zw_622 : (Jvm.Cond.methodLink "ShipLanterns" (278 : Nat) ({ cls := "ShipLanterns", name := "boxesChangingLamp", desc := "(I)I" } : Jvm.MethodName)) ∈ zG := zG_mem 622 rfl rfl
theorem zw_624 : (Jvm.Cond.instanceMethod ({ cls := "ShipLanterns", name := "boxesChangingLamp", desc := "(I)I" } : Jvm.MethodName)) ∈ zG := zG_mem 624 rfl rfl
theorem zw_625 : (Jvm.Cond.code ({ cls := "ShipLanterns", name := "boxesChangingLamp", desc := "(I)I" } : Jvm.MethodName) prog_1_method_41_code (4 : Nat) (Option.some Jvm.ClassFile.FieldType.int)) ∈ zG := zG_mem 625 rfl rfl
theorem zw_626 : (Jvm.Cond.methodLink "ShipLanternsLaw" (112 : Nat) ({ cls := "ShipLanternsLaw", name := "act", desc := "(LShipLanterns;III[I[I[I[I[I[I[I)Z" } : Jvm.MethodName)) ∈ zG := zG_mem 626 rfl rfl
theorem zw_627 : (Jvm.Cond.static ({ cls := "ShipLanternsLaw", name := "act", desc := "(LShipLanterns;III[I[I[I[I[I[I[I)Z" } : Jvm.MethodName)) ∈ zG := zG_mem 627 rfl rfl
theorem zw_628 : (Jvm.Cond.code ({ cls := "ShipLanternsLaw", name := "act", desc := "(LShipLanterns;III[I[I[I[I[I[I[I)Z" } : Jvm.MethodName) method_11_code (16 : Nat) (Option.some Jvm.ClassFile.FieldType.boolean)) ∈ zG := zG_mem 628 rfl rfl
theorem zw_629 : (Jvm.Cond.methodLink "ShipLanternsLaw" (71 : Nat) ({ cls := "ShipLanterns", name := "addBox", desc := "(IIIZ)I" } : Jvm.MethodName)) ∈ zG := zG_mem 629 rfl rfl
theorem zw_630 : (Jvm.Cond.instanceMethod ({ cls := "ShipLanterns", name := "addBox", desc := "(IIIZ)I" } : Jvm.MethodName)) ∈ zG := zG_mem 630 rfl rfl
theorem zw_631 : (Jvm.Cond.selects "ShipLanterns" ({ cls := "ShipLanterns", name := "addBox", desc := "(IIIZ)I" } : Jvm.MethodName) ({ cls := "ShipLanterns", name := "addBox", desc := "(IIIZ)I" } : Jvm.MethodName)) ∈ zG := zG_mem 631 rfl rfl
theorem zw_632 : (Jvm.Cond.code ({ cls := "ShipLanterns", name := "addBox", desc := "(IIIZ)I" } : Jvm.MethodName) prog_1_method_2_code (5 : Nat) (Option.some Jvm.ClassFile.FieldType.int)) ∈ zG := zG_mem 632 rfl rfl
theorem zw_634 : (Jvm.Cond.methodLink "ShipLanterns" (65 : Nat) ({ cls := "ShipLanterns", name := "isRating", desc := "(I)Z" } : Jvm.MethodName)) ∈ zG := zG_mem 634 rfl rfl
theorem zw_635 : (Jvm.Cond.static ({ cls := "ShipLanterns", name := "isRating", desc := "(I)Z" } : Jvm.MethodName)) ∈ zG := zG_mem 635 rfl rfl
theorem zw_636 : (Jvm.Cond.code ({ cls := "ShipLanterns", name := "isRating", desc := "(I)Z" } : Jvm.MethodName) prog_1_method_35_code (1 : Nat) (Option.some Jvm.ClassFile.FieldType.boolean)) ∈ zG := zG_mem 636 rfl rfl
theorem zw_638 : (Jvm.Cond.classLink "ShipLanterns" (82 : Nat) "java/lang/IllegalStateException") ∈ zG := zG_mem 638 rfl rfl
theorem zw_639 : (Jvm.Cond.instantiable "java/lang/IllegalStateException" (6 : Nat)) ∈ zG := zG_mem 639 rfl rfl
theorem zw_641 : (Jvm.Cond.selects "java/lang/IllegalStateException" ({ cls := "java/lang/Throwable", name := "fillInStackTrace", desc := "(I)Ljava/lang/Throwable;" } : Jvm.MethodName) ({ cls := "java/lang/Throwable", name := "fillInStackTrace", desc := "(I)Ljava/lang/Throwable;" } : Jvm.MethodName)) ∈ zG := zG_mem 641 rfl rfl
theorem zw_642 : (Jvm.Cond.lays "java/lang/IllegalStateException" "java/lang/Throwable" "cause" "Ljava/lang/Throwable;") ∈ zG := zG_mem 642 rfl rfl
theorem zw_643 : (Jvm.Cond.lays "java/lang/IllegalStateException" "java/lang/Throwable" "stackTrace" "[Ljava/lang/StackTraceElement;") ∈ zG := zG_mem 643 rfl rfl
theorem zw_644 : (Jvm.Cond.lays "java/lang/IllegalStateException" "java/lang/Throwable" "suppressedExceptions" "Ljava/util/List;") ∈ zG := zG_mem 644 rfl rfl
theorem zw_645 : (Jvm.Cond.lays "java/lang/IllegalStateException" "java/lang/Throwable" "detailMessage" "Ljava/lang/String;") ∈ zG := zG_mem 645 rfl rfl
theorem zw_646 : (Jvm.Cond.lays "java/lang/IllegalStateException" "java/lang/Throwable" "backtrace" "Ljava/lang/Object;") ∈ zG := zG_mem 646 rfl rfl
theorem zw_648 : (Jvm.Cond.methodLink "ShipLanterns" (86 : Nat) ({ cls := "java/lang/IllegalStateException", name := "<init>", desc := "(Ljava/lang/String;)V" } : Jvm.MethodName)) ∈ zG := zG_mem 648 rfl rfl
theorem zw_649 : (Jvm.Cond.instanceMethod ({ cls := "java/lang/IllegalStateException", name := "<init>", desc := "(Ljava/lang/String;)V" } : Jvm.MethodName)) ∈ zG := zG_mem 649 rfl rfl
theorem zw_650 : (Jvm.Cond.code ({ cls := "java/lang/IllegalStateException", name := "<init>", desc := "(Ljava/lang/String;)V" } : Jvm.MethodName) prog_13_method_2_code (2 : Nat) (Option.none : Option Jvm.ClassFile.FieldType)) ∈ zG := zG_mem 650 rfl rfl
theorem zw_651 : (Jvm.Cond.methodLink "java/lang/IllegalStateException" (7 : Nat) ({ cls := "java/lang/RuntimeException", name := "<init>", desc := "(Ljava/lang/String;)V" } : Jvm.MethodName)) ∈ zG := zG_mem 651 rfl rfl
theorem zw_652 : (Jvm.Cond.lays "java/lang/IllegalStateException" "java/lang/Throwable" "depth" "I") ∈ zG := zG_mem 652 rfl rfl
theorem zw_654 : (Jvm.Cond.methodLink "ShipLanterns" (87 : Nat) ({ cls := "ShipLanterns$History", name := "save", desc := "(LShipLanterns$Ship;)V" } : Jvm.MethodName)) ∈ zG := zG_mem 654 rfl rfl
theorem zw_655 : (Jvm.Cond.instanceMethod ({ cls := "ShipLanterns$History", name := "save", desc := "(LShipLanterns$Ship;)V" } : Jvm.MethodName)) ∈ zG := zG_mem 655 rfl rfl
theorem zw_656 : (Jvm.Cond.selects "ShipLanterns$History" ({ cls := "ShipLanterns$History", name := "save", desc := "(LShipLanterns$Ship;)V" } : Jvm.MethodName) ({ cls := "ShipLanterns$History", name := "save", desc := "(LShipLanterns$Ship;)V" } : Jvm.MethodName)) ∈ zG := zG_mem 656 rfl rfl
theorem zw_657 : (Jvm.Cond.code ({ cls := "ShipLanterns$History", name := "save", desc := "(LShipLanterns$Ship;)V" } : Jvm.MethodName) prog_4_method_2_code (2 : Nat) (Option.none : Option Jvm.ClassFile.FieldType)) ∈ zG := zG_mem 657 rfl rfl
theorem zw_658 : (Jvm.Cond.methodLink "ShipLanterns$History" (22 : Nat) ({ cls := "ShipLanterns$History", name := "dropOldest", desc := "()V" } : Jvm.MethodName)) ∈ zG := zG_mem 658 rfl rfl
theorem zw_660 : (Jvm.Cond.instanceMethod ({ cls := "ShipLanterns$History", name := "dropOldest", desc := "()V" } : Jvm.MethodName)) ∈ zG := zG_mem 660 rfl rfl
theorem zw_661 : (Jvm.Cond.code ({ cls := "ShipLanterns$History", name := "dropOldest", desc := "()V" } : Jvm.MethodName) prog_4_method_4_code (3 : Nat) (Option.none : Option Jvm.ClassFile.FieldType)) ∈ zG := zG_mem 661 rfl rfl
theorem zw_662 : (Jvm.Cond.methodLink "ShipLanterns$History" (25 : Nat) ({ cls := "ShipLanterns$Ship", name := "copy", desc := "(LShipLanterns$Ship;)V" } : Jvm.MethodName)) ∈ zG := zG_mem 662 rfl rfl
theorem zw_663 : (Jvm.Cond.methodLink "ShipLanterns" (91 : Nat) ({ cls := "ShipLanterns$Cables", name := "add", desc := "(IIIZ)V" } : Jvm.MethodName)) ∈ zG := zG_mem 663 rfl rfl
theorem zw_664 : (Jvm.Cond.instanceMethod ({ cls := "ShipLanterns$Cables", name := "add", desc := "(IIIZ)V" } : Jvm.MethodName)) ∈ zG := zG_mem 664 rfl rfl
theorem zw_665 : (Jvm.Cond.selects "ShipLanterns$Cables" ({ cls := "ShipLanterns$Cables", name := "add", desc := "(IIIZ)V" } : Jvm.MethodName) ({ cls := "ShipLanterns$Cables", name := "add", desc := "(IIIZ)V" } : Jvm.MethodName)) ∈ zG := zG_mem 665 rfl rfl
theorem zw_666 : (Jvm.Cond.code ({ cls := "ShipLanterns$Cables", name := "add", desc := "(IIIZ)V" } : Jvm.MethodName) prog_2_method_2_code (5 : Nat) (Option.none : Option Jvm.ClassFile.FieldType)) ∈ zG := zG_mem 666 rfl rfl
theorem zw_667 : (Jvm.Cond.methodLink "ShipLanternsLaw" (75 : Nat) ({ cls := "ShipLanterns", name := "hang", desc := "(IIZ)I" } : Jvm.MethodName)) ∈ zG := zG_mem 667 rfl rfl
theorem zw_668 : (Jvm.Cond.instanceMethod ({ cls := "ShipLanterns", name := "hang", desc := "(IIZ)I" } : Jvm.MethodName)) ∈ zG := zG_mem 668 rfl rfl
theorem zw_669 : (Jvm.Cond.selects "ShipLanterns" ({ cls := "ShipLanterns", name := "hang", desc := "(IIZ)I" } : Jvm.MethodName) ({ cls := "ShipLanterns", name := "hang", desc := "(IIZ)I" } : Jvm.MethodName)) ∈ zG := zG_mem 669 rfl rfl
theorem zw_670 : (Jvm.Cond.code ({ cls := "ShipLanterns", name := "hang", desc := "(IIZ)I" } : Jvm.MethodName) prog_1_method_7_code (4 : Nat) (Option.some Jvm.ClassFile.FieldType.int)) ∈ zG := zG_mem 670 rfl rfl
theorem zw_673 : (Jvm.Cond.methodLink "ShipLanterns" (153 : Nat) ({ cls := "ShipLanterns$Lanterns", name := "add", desc := "(IIZ)V" } : Jvm.MethodName)) ∈ zG := zG_mem 673 rfl rfl
theorem zw_674 : (Jvm.Cond.instanceMethod ({ cls := "ShipLanterns$Lanterns", name := "add", desc := "(IIZ)V" } : Jvm.MethodName)) ∈ zG := zG_mem 674 rfl rfl
theorem zw_675 : (Jvm.Cond.selects "ShipLanterns$Lanterns" ({ cls := "ShipLanterns$Lanterns", name := "add", desc := "(IIZ)V" } : Jvm.MethodName) ({ cls := "ShipLanterns$Lanterns", name := "add", desc := "(IIZ)V" } : Jvm.MethodName)) ∈ zG := zG_mem 675 rfl rfl
theorem zw_676 : (Jvm.Cond.code ({ cls := "ShipLanterns$Lanterns", name := "add", desc := "(IIZ)V" } : Jvm.MethodName) prog_5_method_2_code (4 : Nat) (Option.none : Option Jvm.ClassFile.FieldType)) ∈ zG := zG_mem 676 rfl rfl
theorem zw_677 : (Jvm.Cond.methodLink "ShipLanternsLaw" (79 : Nat) ({ cls := "ShipLanterns", name := "fault", desc := "(III)I" } : Jvm.MethodName)) ∈ zG := zG_mem 677 rfl rfl
theorem zw_678 : (Jvm.Cond.instanceMethod ({ cls := "ShipLanterns", name := "fault", desc := "(III)I" } : Jvm.MethodName)) ∈ zG := zG_mem 678 rfl rfl
theorem zw_679 : (Jvm.Cond.selects "ShipLanterns" ({ cls := "ShipLanterns", name := "fault", desc := "(III)I" } : Jvm.MethodName) ({ cls := "ShipLanterns", name := "fault", desc := "(III)I" } : Jvm.MethodName)) ∈ zG := zG_mem 679 rfl rfl
theorem zw_680 : (Jvm.Cond.code ({ cls := "ShipLanterns", name := "fault", desc := "(III)I" } : Jvm.MethodName) prog_1_method_9_code (4 : Nat) (Option.some Jvm.ClassFile.FieldType.int)) ∈ zG := zG_mem 680 rfl rfl
theorem zw_683 : (Jvm.Cond.methodLink "ShipLanternsLaw" (82 : Nat) ({ cls := "ShipLanterns", name := "mend", desc := "(I)I" } : Jvm.MethodName)) ∈ zG := zG_mem 683 rfl rfl
theorem zw_684 : (Jvm.Cond.instanceMethod ({ cls := "ShipLanterns", name := "mend", desc := "(I)I" } : Jvm.MethodName)) ∈ zG := zG_mem 684 rfl rfl
theorem zw_685 : (Jvm.Cond.selects "ShipLanterns" ({ cls := "ShipLanterns", name := "mend", desc := "(I)I" } : Jvm.MethodName) ({ cls := "ShipLanterns", name := "mend", desc := "(I)I" } : Jvm.MethodName)) ∈ zG := zG_mem 685 rfl rfl
theorem zw_686 : (Jvm.Cond.code ({ cls := "ShipLanterns", name := "mend", desc := "(I)I" } : Jvm.MethodName) prog_1_method_10_code (3 : Nat) (Option.some Jvm.ClassFile.FieldType.int)) ∈ zG := zG_mem 686 rfl rfl
theorem zw_687 : (Jvm.Cond.methodLink "ShipLanterns" (195 : Nat) ({ cls := "ShipLanterns$Faults", name := "remove", desc := "(I)V" } : Jvm.MethodName)) ∈ zG := zG_mem 687 rfl rfl
theorem zw_688 : (Jvm.Cond.instanceMethod ({ cls := "ShipLanterns$Faults", name := "remove", desc := "(I)V" } : Jvm.MethodName)) ∈ zG := zG_mem 688 rfl rfl
theorem zw_689 : (Jvm.Cond.selects "ShipLanterns$Faults" ({ cls := "ShipLanterns$Faults", name := "remove", desc := "(I)V" } : Jvm.MethodName) ({ cls := "ShipLanterns$Faults", name := "remove", desc := "(I)V" } : Jvm.MethodName)) ∈ zG := zG_mem 689 rfl rfl
theorem zw_690 : (Jvm.Cond.code ({ cls := "ShipLanterns$Faults", name := "remove", desc := "(I)V" } : Jvm.MethodName) prog_3_method_3_code (3 : Nat) (Option.none : Option Jvm.ClassFile.FieldType)) ∈ zG := zG_mem 690 rfl rfl
theorem zw_691 : (Jvm.Cond.methodLink "ShipLanternsLaw" (85 : Nat) ({ cls := "ShipLanterns", name := "takeDown", desc := "(I)I" } : Jvm.MethodName)) ∈ zG := zG_mem 691 rfl rfl
theorem zw_692 : (Jvm.Cond.instanceMethod ({ cls := "ShipLanterns", name := "takeDown", desc := "(I)I" } : Jvm.MethodName)) ∈ zG := zG_mem 692 rfl rfl
theorem zw_693 : (Jvm.Cond.selects "ShipLanterns" ({ cls := "ShipLanterns", name := "takeDown", desc := "(I)I" } : Jvm.MethodName) ({ cls := "ShipLanterns", name := "takeDown", desc := "(I)I" } : Jvm.MethodName)) ∈ zG := zG_mem 693 rfl rfl
theorem zw_694 : (Jvm.Cond.code ({ cls := "ShipLanterns", name := "takeDown", desc := "(I)I" } : Jvm.MethodName) prog_1_method_8_code (3 : Nat) (Option.some Jvm.ClassFile.FieldType.int)) ∈ zG := zG_mem 694 rfl rfl
theorem zw_695 : (Jvm.Cond.methodLink "ShipLanterns" (164 : Nat) ({ cls := "ShipLanterns$Lanterns", name := "remove", desc := "(I)V" } : Jvm.MethodName)) ∈ zG := zG_mem 695 rfl rfl
theorem zw_696 : (Jvm.Cond.instanceMethod ({ cls := "ShipLanterns$Lanterns", name := "remove", desc := "(I)V" } : Jvm.MethodName)) ∈ zG := zG_mem 696 rfl rfl
theorem zw_697 : (Jvm.Cond.selects "ShipLanterns$Lanterns" ({ cls := "ShipLanterns$Lanterns", name := "remove", desc := "(I)V" } : Jvm.MethodName) ({ cls := "ShipLanterns$Lanterns", name := "remove", desc := "(I)V" } : Jvm.MethodName)) ∈ zG := zG_mem 697 rfl rfl
theorem zw_698 : (Jvm.Cond.code ({ cls := "ShipLanterns$Lanterns", name := "remove", desc := "(I)V" } : Jvm.MethodName) prog_5_method_3_code (3 : Nat) (Option.none : Option Jvm.ClassFile.FieldType)) ∈ zG := zG_mem 698 rfl rfl
theorem zw_699 : (Jvm.Cond.methodLink "ShipLanternsLaw" (88 : Nat) ({ cls := "ShipLanterns", name := "burn", desc := "(I)I" } : Jvm.MethodName)) ∈ zG := zG_mem 699 rfl rfl
theorem zw_700 : (Jvm.Cond.instanceMethod ({ cls := "ShipLanterns", name := "burn", desc := "(I)I" } : Jvm.MethodName)) ∈ zG := zG_mem 700 rfl rfl
theorem zw_701 : (Jvm.Cond.selects "ShipLanterns" ({ cls := "ShipLanterns", name := "burn", desc := "(I)I" } : Jvm.MethodName) ({ cls := "ShipLanterns", name := "burn", desc := "(I)I" } : Jvm.MethodName)) ∈ zG := zG_mem 701 rfl rfl
theorem zw_702 : (Jvm.Cond.code ({ cls := "ShipLanterns", name := "burn", desc := "(I)I" } : Jvm.MethodName) prog_1_method_11_code (3 : Nat) (Option.some Jvm.ClassFile.FieldType.int)) ∈ zG := zG_mem 702 rfl rfl
theorem zw_704 : (Jvm.Cond.constant "ShipLanterns" (201 : Nat) (100000 : Int32)) ∈ zG := zG_mem 704 rfl rfl
theorem zw_706 : (Jvm.Cond.methodLink "ShipLanternsLaw" (90 : Nat) ({ cls := "ShipLanterns", name := "toggle", desc := "(I)I" } : Jvm.MethodName)) ∈ zG := zG_mem 706 rfl rfl
theorem zw_707 : (Jvm.Cond.instanceMethod ({ cls := "ShipLanterns", name := "toggle", desc := "(I)I" } : Jvm.MethodName)) ∈ zG := zG_mem 707 rfl rfl
theorem zw_708 : (Jvm.Cond.selects "ShipLanterns" ({ cls := "ShipLanterns", name := "toggle", desc := "(I)I" } : Jvm.MethodName) ({ cls := "ShipLanterns", name := "toggle", desc := "(I)I" } : Jvm.MethodName)) ∈ zG := zG_mem 708 rfl rfl
theorem zw_709 : (Jvm.Cond.code ({ cls := "ShipLanterns", name := "toggle", desc := "(I)I" } : Jvm.MethodName) prog_1_method_3_code (2 : Nat) (Option.some Jvm.ClassFile.FieldType.int)) ∈ zG := zG_mem 709 rfl rfl
theorem zw_710 : (Jvm.Cond.methodLink "ShipLanternsLaw" (93 : Nat) ({ cls := "ShipLanterns", name := "cross", desc := "(I)I" } : Jvm.MethodName)) ∈ zG := zG_mem 710 rfl rfl
theorem zw_711 : (Jvm.Cond.instanceMethod ({ cls := "ShipLanterns", name := "cross", desc := "(I)I" } : Jvm.MethodName)) ∈ zG := zG_mem 711 rfl rfl
theorem zw_712 : (Jvm.Cond.selects "ShipLanterns" ({ cls := "ShipLanterns", name := "cross", desc := "(I)I" } : Jvm.MethodName) ({ cls := "ShipLanterns", name := "cross", desc := "(I)I" } : Jvm.MethodName)) ∈ zG := zG_mem 712 rfl rfl
theorem zw_713 : (Jvm.Cond.code ({ cls := "ShipLanterns", name := "cross", desc := "(I)I" } : Jvm.MethodName) prog_1_method_4_code (2 : Nat) (Option.some Jvm.ClassFile.FieldType.int)) ∈ zG := zG_mem 713 rfl rfl
theorem zw_714 : (Jvm.Cond.methodLink "ShipLanternsLaw" (96 : Nat) ({ cls := "ShipLanterns", name := "buyFuses", desc := "(I)I" } : Jvm.MethodName)) ∈ zG := zG_mem 714 rfl rfl
theorem zw_715 : (Jvm.Cond.instanceMethod ({ cls := "ShipLanterns", name := "buyFuses", desc := "(I)I" } : Jvm.MethodName)) ∈ zG := zG_mem 715 rfl rfl
theorem zw_716 : (Jvm.Cond.selects "ShipLanterns" ({ cls := "ShipLanterns", name := "buyFuses", desc := "(I)I" } : Jvm.MethodName) ({ cls := "ShipLanterns", name := "buyFuses", desc := "(I)I" } : Jvm.MethodName)) ∈ zG := zG_mem 716 rfl rfl
theorem zw_717 : (Jvm.Cond.code ({ cls := "ShipLanterns", name := "buyFuses", desc := "(I)I" } : Jvm.MethodName) prog_1_method_6_code (2 : Nat) (Option.some Jvm.ClassFile.FieldType.int)) ∈ zG := zG_mem 717 rfl rfl
theorem zw_720 : (Jvm.Cond.methodLink "ShipLanternsLaw" (99 : Nat) ({ cls := "ShipLanterns", name := "replace", desc := "(III)I" } : Jvm.MethodName)) ∈ zG := zG_mem 720 rfl rfl
theorem zw_721 : (Jvm.Cond.instanceMethod ({ cls := "ShipLanterns", name := "replace", desc := "(III)I" } : Jvm.MethodName)) ∈ zG := zG_mem 721 rfl rfl
theorem zw_722 : (Jvm.Cond.selects "ShipLanterns" ({ cls := "ShipLanterns", name := "replace", desc := "(III)I" } : Jvm.MethodName) ({ cls := "ShipLanterns", name := "replace", desc := "(III)I" } : Jvm.MethodName)) ∈ zG := zG_mem 722 rfl rfl
theorem zw_723 : (Jvm.Cond.code ({ cls := "ShipLanterns", name := "replace", desc := "(III)I" } : Jvm.MethodName) prog_1_method_5_code (5 : Nat) (Option.some Jvm.ClassFile.FieldType.int)) ∈ zG := zG_mem 723 rfl rfl
theorem zw_725 : (Jvm.Cond.constant "ShipLanternsLaw" (111 : Nat) (2147483647 : Int32)) ∈ zG := zG_mem 725 rfl rfl
theorem zin_X0 : ∀ w ∈ u_ws RX0 TX0 6, w ∈ zG := (List.forall_mem_cons.mpr ⟨zw_78, List.forall_mem_cons.mpr ⟨zw_80, List.forall_mem_cons.mpr ⟨zw_82, List.forall_mem_cons.mpr ⟨zw_84, List.forall_mem_cons.mpr ⟨zw_86, List.forall_mem_cons.mpr ⟨zw_88, fun _ h => nomatch h⟩⟩⟩⟩⟩⟩ : ∀ w ∈ [u_lay RX0 TX0 0, u_lay RX0 TX0 1, u_lay RX0 TX0 2, u_lay RX0 TX0 3, u_lay RX0 TX0 4, u_lay RX0 TX0 5], w ∈ zG)
theorem zin_X1 : ∀ w ∈ u_ws RX1 TX1 4, w ∈ zG := (List.forall_mem_cons.mpr ⟨zw_138, List.forall_mem_cons.mpr ⟨zw_140, List.forall_mem_cons.mpr ⟨zw_142, List.forall_mem_cons.mpr ⟨zw_144, fun _ h => nomatch h⟩⟩⟩⟩ : ∀ w ∈ [u_lay RX1 TX1 0, u_lay RX1 TX1 1, u_lay RX1 TX1 2, u_lay RX1 TX1 3], w ∈ zG)
theorem zin_X2 : ∀ w ∈ u_ws RX2 TX2 2, w ∈ zG := (List.forall_mem_cons.mpr ⟨zw_249, List.forall_mem_cons.mpr ⟨zw_251, fun _ h => nomatch h⟩⟩ : ∀ w ∈ [u_lay RX2 TX2 0, u_lay RX2 TX2 1], w ∈ zG)
theorem zin_X3 : ∀ w ∈ u_ws RX3 TX3 4, w ∈ zG := (List.forall_mem_cons.mpr ⟨zw_111, List.forall_mem_cons.mpr ⟨zw_113, List.forall_mem_cons.mpr ⟨zw_115, List.forall_mem_cons.mpr ⟨zw_117, fun _ h => nomatch h⟩⟩⟩⟩ : ∀ w ∈ [u_lay RX3 TX3 0, u_lay RX3 TX3 1, u_lay RX3 TX3 2, u_lay RX3 TX3 3], w ∈ zG)
theorem zin_X4 : ∀ w ∈ u_ws RX4 TX4 3, w ∈ zG := (List.forall_mem_cons.mpr ⟨zw_263, List.forall_mem_cons.mpr ⟨zw_265, List.forall_mem_cons.mpr ⟨zw_267, fun _ h => nomatch h⟩⟩⟩ : ∀ w ∈ [u_lay RX4 TX4 0, u_lay RX4 TX4 1, u_lay RX4 TX4 2], w ∈ zG)
theorem zin_X5 : ∀ w ∈ u_ws RX5 TX5 8, w ∈ zG := (List.forall_mem_cons.mpr ⟨zw_166, List.forall_mem_cons.mpr ⟨zw_168, List.forall_mem_cons.mpr ⟨zw_170, List.forall_mem_cons.mpr ⟨zw_172, List.forall_mem_cons.mpr ⟨zw_174, List.forall_mem_cons.mpr ⟨zw_176, List.forall_mem_cons.mpr ⟨zw_178, List.forall_mem_cons.mpr ⟨zw_180, fun _ h => nomatch h⟩⟩⟩⟩⟩⟩⟩⟩ : ∀ w ∈ [u_lay RX5 TX5 0, u_lay RX5 TX5 1, u_lay RX5 TX5 2, u_lay RX5 TX5 3, u_lay RX5 TX5 4, u_lay RX5 TX5 5, u_lay RX5 TX5 6, u_lay RX5 TX5 7], w ∈ zG)
theorem zin_X6 : ∀ w ∈ u_ws RX6 TX6 12, w ∈ zG := (List.forall_mem_cons.mpr ⟨zw_212, List.forall_mem_cons.mpr ⟨zw_214, List.forall_mem_cons.mpr ⟨zw_216, List.forall_mem_cons.mpr ⟨zw_218, List.forall_mem_cons.mpr ⟨zw_220, List.forall_mem_cons.mpr ⟨zw_222, List.forall_mem_cons.mpr ⟨zw_224, List.forall_mem_cons.mpr ⟨zw_226, List.forall_mem_cons.mpr ⟨zw_228, List.forall_mem_cons.mpr ⟨zw_230, List.forall_mem_cons.mpr ⟨zw_232, List.forall_mem_cons.mpr ⟨zw_234, fun _ h => nomatch h⟩⟩⟩⟩⟩⟩⟩⟩⟩⟩⟩⟩ : ∀ w ∈ [u_lay RX6 TX6 0, u_lay RX6 TX6 1, u_lay RX6 TX6 2, u_lay RX6 TX6 3, u_lay RX6 TX6 4, u_lay RX6 TX6 5, u_lay RX6 TX6 6, u_lay RX6 TX6 7, u_lay RX6 TX6 8, u_lay RX6 TX6 9, u_lay RX6 TX6 10, u_lay RX6 TX6 11], w ∈ zG)
theorem zin_X7 : ∀ w ∈ u_ws RX7 TX7 9, w ∈ zG := (List.forall_mem_cons.mpr ⟨zw_279, List.forall_mem_cons.mpr ⟨zw_281, List.forall_mem_cons.mpr ⟨zw_283, List.forall_mem_cons.mpr ⟨zw_285, List.forall_mem_cons.mpr ⟨zw_287, List.forall_mem_cons.mpr ⟨zw_289, List.forall_mem_cons.mpr ⟨zw_291, List.forall_mem_cons.mpr ⟨zw_293, List.forall_mem_cons.mpr ⟨zw_295, fun _ h => nomatch h⟩⟩⟩⟩⟩⟩⟩⟩⟩ : ∀ w ∈ [u_lay RX7 TX7 0, u_lay RX7 TX7 1, u_lay RX7 TX7 2, u_lay RX7 TX7 3, u_lay RX7 TX7 4, u_lay RX7 TX7 5, u_lay RX7 TX7 6, u_lay RX7 TX7 7, u_lay RX7 TX7 8], w ∈ zG)
end ZWORDS
