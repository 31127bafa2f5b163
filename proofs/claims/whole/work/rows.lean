section
-- ===== PART A: goes FIRST, ahead of the names: the tables' words, and 'selects' of the private methods out of them =====
/-- a private method of a class that the tables say can be made, by its rows of tables_1 -/
def lw_okq (q : MethodName × Nat) : Prop := (q.1.cls ≠ "java/lang/invoke/MethodHandle" ∧ q.1.cls ≠ "java/lang/invoke/VarHandle") ∧ Cond.instantiable q.1.cls q.2 ∈ tables_1 ∧ Cond.privateMethod q.1 ∈ tables_1 ∧ Cond.instanceMethod q.1 ∈ tables_1
theorem lw_p0 : lw_okq (⟨"ShipLanterns", "readSigns", "()I"⟩, 9) := ⟨⟨by decide +kernel, by decide +kernel⟩, List.mem_of_getElem? (i := 19) (by decide +kernel), List.mem_of_getElem? (i := 286) (by decide +kernel), List.mem_of_getElem? (i := 287) (by decide +kernel)⟩
theorem lw_p1 : lw_okq (⟨"ShipLanterns$PartReader", "takesDigit", "(I)Z"⟩, 3) := ⟨⟨by decide +kernel, by decide +kernel⟩, List.mem_of_getElem? (i := 232) (by decide +kernel), List.mem_of_getElem? (i := 298) (by decide +kernel), List.mem_of_getElem? (i := 299) (by decide +kernel)⟩
theorem lw_p2 : lw_okq (⟨"ShipLanterns$PartReader", "leastValue", "()I"⟩, 3) := ⟨⟨by decide +kernel, by decide +kernel⟩, List.mem_of_getElem? (i := 232) (by decide +kernel), List.mem_of_getElem? (i := 302) (by decide +kernel), List.mem_of_getElem? (i := 303) (by decide +kernel)⟩
theorem lw_p3 : lw_okq (⟨"ShipLanterns$PartReader", "mostValue", "()I"⟩, 3) := ⟨⟨by decide +kernel, by decide +kernel⟩, List.mem_of_getElem? (i := 232) (by decide +kernel), List.mem_of_getElem? (i := 306) (by decide +kernel), List.mem_of_getElem? (i := 307) (by decide +kernel)⟩
theorem lw_p4 : lw_okq (⟨"ShipLanterns$PartReader", "takesKind", "(I)Z"⟩, 3) := ⟨⟨by decide +kernel, by decide +kernel⟩, List.mem_of_getElem? (i := 232) (by decide +kernel), List.mem_of_getElem? (i := 314) (by decide +kernel), List.mem_of_getElem? (i := 315) (by decide +kernel)⟩
theorem lw_p5 : lw_okq (⟨"ShipLanterns$PartReader", "takesSeparator", "(I)Z"⟩, 3) := ⟨⟨by decide +kernel, by decide +kernel⟩, List.mem_of_getElem? (i := 232) (by decide +kernel), List.mem_of_getElem? (i := 318) (by decide +kernel), List.mem_of_getElem? (i := 319) (by decide +kernel)⟩
theorem lw_p6 : lw_okq (⟨"ShipLanterns$PartReader", "lastPlace", "()I"⟩, 3) := ⟨⟨by decide +kernel, by decide +kernel⟩, List.mem_of_getElem? (i := 232) (by decide +kernel), List.mem_of_getElem? (i := 322) (by decide +kernel), List.mem_of_getElem? (i := 323) (by decide +kernel)⟩
theorem lw_p7 : lw_okq (⟨"ShipLanterns", "countOf", "(I)I"⟩, 9) := ⟨⟨by decide +kernel, by decide +kernel⟩, List.mem_of_getElem? (i := 19) (by decide +kernel), List.mem_of_getElem? (i := 337) (by decide +kernel), List.mem_of_getElem? (i := 338) (by decide +kernel)⟩
theorem lw_p8 : lw_okq (⟨"ShipLanterns", "hashBoxes", "(J)J"⟩, 9) := ⟨⟨by decide +kernel, by decide +kernel⟩, List.mem_of_getElem? (i := 19) (by decide +kernel), List.mem_of_getElem? (i := 345) (by decide +kernel), List.mem_of_getElem? (i := 346) (by decide +kernel)⟩
theorem lw_p9 : lw_okq (⟨"ShipLanterns", "boxProperty", "(II)I"⟩, 9) := ⟨⟨by decide +kernel, by decide +kernel⟩, List.mem_of_getElem? (i := 19) (by decide +kernel), List.mem_of_getElem? (i := 349) (by decide +kernel), List.mem_of_getElem? (i := 350) (by decide +kernel)⟩
theorem lw_p10 : lw_okq (⟨"ShipLanterns", "lanternsBurningAt", "(I)I"⟩, 9) := ⟨⟨by decide +kernel, by decide +kernel⟩, List.mem_of_getElem? (i := 19) (by decide +kernel), List.mem_of_getElem? (i := 356) (by decide +kernel), List.mem_of_getElem? (i := 357) (by decide +kernel)⟩
theorem lw_p11 : lw_okq (⟨"ShipLanterns", "unitsAt", "(I)I"⟩, 9) := ⟨⟨by decide +kernel, by decide +kernel⟩, List.mem_of_getElem? (i := 19) (by decide +kernel), List.mem_of_getElem? (i := 360) (by decide +kernel), List.mem_of_getElem? (i := 361) (by decide +kernel)⟩
theorem lw_p12 : lw_okq (⟨"ShipLanterns", "terminalProperty", "(III)I"⟩, 9) := ⟨⟨by decide +kernel, by decide +kernel⟩, List.mem_of_getElem? (i := 19) (by decide +kernel), List.mem_of_getElem? (i := 364) (by decide +kernel), List.mem_of_getElem? (i := 365) (by decide +kernel)⟩
theorem lw_p13 : lw_okq (⟨"ShipLanterns", "strengthsAt", "(II)I"⟩, 9) := ⟨⟨by decide +kernel, by decide +kernel⟩, List.mem_of_getElem? (i := 19) (by decide +kernel), List.mem_of_getElem? (i := 377) (by decide +kernel), List.mem_of_getElem? (i := 378) (by decide +kernel)⟩
theorem lw_p14 : lw_okq (⟨"ShipLanterns", "hashLanternsAndFaults", "(J)J"⟩, 9) := ⟨⟨by decide +kernel, by decide +kernel⟩, List.mem_of_getElem? (i := 19) (by decide +kernel), List.mem_of_getElem? (i := 381) (by decide +kernel), List.mem_of_getElem? (i := 382) (by decide +kernel)⟩
theorem lw_p15 : lw_okq (⟨"ShipLanterns", "lanternProperty", "(II)I"⟩, 9) := ⟨⟨by decide +kernel, by decide +kernel⟩, List.mem_of_getElem? (i := 19) (by decide +kernel), List.mem_of_getElem? (i := 385) (by decide +kernel), List.mem_of_getElem? (i := 386) (by decide +kernel)⟩
def lw_privs_1 : List (MethodName × Nat) := [(⟨"ShipLanterns", "readSigns", "()I"⟩, 9), (⟨"ShipLanterns$PartReader", "takesDigit", "(I)Z"⟩, 3), (⟨"ShipLanterns$PartReader", "leastValue", "()I"⟩, 3), (⟨"ShipLanterns$PartReader", "mostValue", "()I"⟩, 3), (⟨"ShipLanterns$PartReader", "takesKind", "(I)Z"⟩, 3), (⟨"ShipLanterns$PartReader", "takesSeparator", "(I)Z"⟩, 3), (⟨"ShipLanterns$PartReader", "lastPlace", "()I"⟩, 3), (⟨"ShipLanterns", "countOf", "(I)I"⟩, 9), (⟨"ShipLanterns", "hashBoxes", "(J)J"⟩, 9), (⟨"ShipLanterns", "boxProperty", "(II)I"⟩, 9), (⟨"ShipLanterns", "lanternsBurningAt", "(I)I"⟩, 9), (⟨"ShipLanterns", "unitsAt", "(I)I"⟩, 9), (⟨"ShipLanterns", "terminalProperty", "(III)I"⟩, 9), (⟨"ShipLanterns", "strengthsAt", "(II)I"⟩, 9), (⟨"ShipLanterns", "hashLanternsAndFaults", "(J)J"⟩, 9), (⟨"ShipLanterns", "lanternProperty", "(II)I"⟩, 9)]
theorem lw_r1 : ∀ q ∈ lw_privs_1, lw_okq q := List.forall_mem_cons.mpr ⟨lw_p0, List.forall_mem_cons.mpr ⟨lw_p1, List.forall_mem_cons.mpr ⟨lw_p2, List.forall_mem_cons.mpr ⟨lw_p3, List.forall_mem_cons.mpr ⟨lw_p4, List.forall_mem_cons.mpr ⟨lw_p5, List.forall_mem_cons.mpr ⟨lw_p6, List.forall_mem_cons.mpr ⟨lw_p7, List.forall_mem_cons.mpr ⟨lw_p8, List.forall_mem_cons.mpr ⟨lw_p9, List.forall_mem_cons.mpr ⟨lw_p10, List.forall_mem_cons.mpr ⟨lw_p11, List.forall_mem_cons.mpr ⟨lw_p12, List.forall_mem_cons.mpr ⟨lw_p13, List.forall_mem_cons.mpr ⟨lw_p14, List.forall_mem_cons.mpr ⟨lw_p15, fun _ h => absurd h List.not_mem_nil⟩⟩⟩⟩⟩⟩⟩⟩⟩⟩⟩⟩⟩⟩⟩⟩
theorem lw_p16 : lw_okq (⟨"ShipLanterns", "darkReason", "(I)I"⟩, 9) := ⟨⟨by decide +kernel, by decide +kernel⟩, List.mem_of_getElem? (i := 19) (by decide +kernel), List.mem_of_getElem? (i := 389) (by decide +kernel), List.mem_of_getElem? (i := 390) (by decide +kernel)⟩
theorem lw_p17 : lw_okq (⟨"ShipLanterns", "faultProperty", "(II)I"⟩, 9) := ⟨⟨by decide +kernel, by decide +kernel⟩, List.mem_of_getElem? (i := 19) (by decide +kernel), List.mem_of_getElem? (i := 393) (by decide +kernel), List.mem_of_getElem? (i := 394) (by decide +kernel)⟩
theorem lw_p18 : lw_okq (⟨"ShipLanterns", "boxesChangingLamp", "(I)I"⟩, 9) := ⟨⟨by decide +kernel, by decide +kernel⟩, List.mem_of_getElem? (i := 19) (by decide +kernel), List.mem_of_getElem? (i := 401) (by decide +kernel), List.mem_of_getElem? (i := 402) (by decide +kernel)⟩
theorem lw_p19 : lw_okq (⟨"ShipLanterns", "hashTrials", "(J)J"⟩, 9) := ⟨⟨by decide +kernel, by decide +kernel⟩, List.mem_of_getElem? (i := 19) (by decide +kernel), List.mem_of_getElem? (i := 405) (by decide +kernel), List.mem_of_getElem? (i := 406) (by decide +kernel)⟩
theorem lw_p20 : lw_okq (⟨"ShipLanterns", "surveyWithWholeFuses", "()V"⟩, 9) := ⟨⟨by decide +kernel, by decide +kernel⟩, List.mem_of_getElem? (i := 19) (by decide +kernel), List.mem_of_getElem? (i := 409) (by decide +kernel), List.mem_of_getElem? (i := 410) (by decide +kernel)⟩
theorem lw_p21 : lw_okq (⟨"ShipLanterns$Survey", "clearSums", "(I)V"⟩, 12) := ⟨⟨by decide +kernel, by decide +kernel⟩, List.mem_of_getElem? (i := 161) (by decide +kernel), List.mem_of_getElem? (i := 433) (by decide +kernel), List.mem_of_getElem? (i := 434) (by decide +kernel)⟩
theorem lw_p22 : lw_okq (⟨"ShipLanterns$Survey", "followCables", "(LShipLanterns$Cables;)V"⟩, 12) := ⟨⟨by decide +kernel, by decide +kernel⟩, List.mem_of_getElem? (i := 161) (by decide +kernel), List.mem_of_getElem? (i := 437) (by decide +kernel), List.mem_of_getElem? (i := 438) (by decide +kernel)⟩
theorem lw_p23 : lw_okq (⟨"ShipLanterns$Survey", "findBurning", "(LShipLanterns$Lanterns;)V"⟩, 12) := ⟨⟨by decide +kernel, by decide +kernel⟩, List.mem_of_getElem? (i := 161) (by decide +kernel), List.mem_of_getElem? (i := 445) (by decide +kernel), List.mem_of_getElem? (i := 446) (by decide +kernel)⟩
theorem lw_p24 : lw_okq (⟨"ShipLanterns$Survey", "findStrengths", "(LShipLanterns$Faults;)V"⟩, 12) := ⟨⟨by decide +kernel, by decide +kernel⟩, List.mem_of_getElem? (i := 161) (by decide +kernel), List.mem_of_getElem? (i := 449) (by decide +kernel), List.mem_of_getElem? (i := 450) (by decide +kernel)⟩
theorem lw_p25 : lw_okq (⟨"ShipLanterns$Survey", "sumUpStrengths", "(LShipLanterns$Cables;)V"⟩, 12) := ⟨⟨by decide +kernel, by decide +kernel⟩, List.mem_of_getElem? (i := 161) (by decide +kernel), List.mem_of_getElem? (i := 453) (by decide +kernel), List.mem_of_getElem? (i := 454) (by decide +kernel)⟩
theorem lw_p26 : lw_okq (⟨"ShipLanterns$Survey", "shareLeak", "(LShipLanterns$Faults;I)V"⟩, 12) := ⟨⟨by decide +kernel, by decide +kernel⟩, List.mem_of_getElem? (i := 161) (by decide +kernel), List.mem_of_getElem? (i := 461) (by decide +kernel), List.mem_of_getElem? (i := 462) (by decide +kernel)⟩
theorem lw_p27 : lw_okq (⟨"ShipLanterns$Survey", "sumUpCurrents", "(LShipLanterns$Cables;)V"⟩, 12) := ⟨⟨by decide +kernel, by decide +kernel⟩, List.mem_of_getElem? (i := 161) (by decide +kernel), List.mem_of_getElem? (i := 465) (by decide +kernel), List.mem_of_getElem? (i := 466) (by decide +kernel)⟩
theorem lw_p28 : lw_okq (⟨"ShipLanterns", "burningIfToggled", "(I)I"⟩, 9) := ⟨⟨by decide +kernel, by decide +kernel⟩, List.mem_of_getElem? (i := 19) (by decide +kernel), List.mem_of_getElem? (i := 469) (by decide +kernel), List.mem_of_getElem? (i := 470) (by decide +kernel)⟩
theorem lw_p29 : lw_okq (⟨"ShipLanterns", "hashSigns", "(J)J"⟩, 9) := ⟨⟨by decide +kernel, by decide +kernel⟩, List.mem_of_getElem? (i := 19) (by decide +kernel), List.mem_of_getElem? (i := 488) (by decide +kernel), List.mem_of_getElem? (i := 489) (by decide +kernel)⟩
theorem lw_p30 : lw_okq (⟨"ShipLanterns", "isBox", "(I)Z"⟩, 9) := ⟨⟨by decide +kernel, by decide +kernel⟩, List.mem_of_getElem? (i := 19) (by decide +kernel), List.mem_of_getElem? (i := 502) (by decide +kernel), List.mem_of_getElem? (i := 503) (by decide +kernel)⟩
theorem lw_p31 : lw_okq (⟨"java/lang/Throwable", "fillInStackTrace", "(I)Ljava/lang/Throwable;"⟩, 6) := ⟨⟨by decide +kernel, by decide +kernel⟩, List.mem_of_getElem? (i := 544) (by decide +kernel), List.mem_of_getElem? (i := 542) (by decide +kernel), List.mem_of_getElem? (i := 543) (by decide +kernel)⟩
def lw_privs_2 : List (MethodName × Nat) := [(⟨"ShipLanterns", "darkReason", "(I)I"⟩, 9), (⟨"ShipLanterns", "faultProperty", "(II)I"⟩, 9), (⟨"ShipLanterns", "boxesChangingLamp", "(I)I"⟩, 9), (⟨"ShipLanterns", "hashTrials", "(J)J"⟩, 9), (⟨"ShipLanterns", "surveyWithWholeFuses", "()V"⟩, 9), (⟨"ShipLanterns$Survey", "clearSums", "(I)V"⟩, 12), (⟨"ShipLanterns$Survey", "followCables", "(LShipLanterns$Cables;)V"⟩, 12), (⟨"ShipLanterns$Survey", "findBurning", "(LShipLanterns$Lanterns;)V"⟩, 12), (⟨"ShipLanterns$Survey", "findStrengths", "(LShipLanterns$Faults;)V"⟩, 12), (⟨"ShipLanterns$Survey", "sumUpStrengths", "(LShipLanterns$Cables;)V"⟩, 12), (⟨"ShipLanterns$Survey", "shareLeak", "(LShipLanterns$Faults;I)V"⟩, 12), (⟨"ShipLanterns$Survey", "sumUpCurrents", "(LShipLanterns$Cables;)V"⟩, 12), (⟨"ShipLanterns", "burningIfToggled", "(I)I"⟩, 9), (⟨"ShipLanterns", "hashSigns", "(J)J"⟩, 9), (⟨"ShipLanterns", "isBox", "(I)Z"⟩, 9), (⟨"java/lang/Throwable", "fillInStackTrace", "(I)Ljava/lang/Throwable;"⟩, 6)]
theorem lw_r2 : ∀ q ∈ lw_privs_2, lw_okq q := List.forall_mem_cons.mpr ⟨lw_p16, List.forall_mem_cons.mpr ⟨lw_p17, List.forall_mem_cons.mpr ⟨lw_p18, List.forall_mem_cons.mpr ⟨lw_p19, List.forall_mem_cons.mpr ⟨lw_p20, List.forall_mem_cons.mpr ⟨lw_p21, List.forall_mem_cons.mpr ⟨lw_p22, List.forall_mem_cons.mpr ⟨lw_p23, List.forall_mem_cons.mpr ⟨lw_p24, List.forall_mem_cons.mpr ⟨lw_p25, List.forall_mem_cons.mpr ⟨lw_p26, List.forall_mem_cons.mpr ⟨lw_p27, List.forall_mem_cons.mpr ⟨lw_p28, List.forall_mem_cons.mpr ⟨lw_p29, List.forall_mem_cons.mpr ⟨lw_p30, List.forall_mem_cons.mpr ⟨lw_p31, fun _ h => absurd h List.not_mem_nil⟩⟩⟩⟩⟩⟩⟩⟩⟩⟩⟩⟩⟩⟩⟩⟩
theorem lw_p32 : lw_okq (⟨"ShipLanterns$History", "dropOldest", "()V"⟩, 2) := ⟨⟨by decide +kernel, by decide +kernel⟩, List.mem_of_getElem? (i := 215) (by decide +kernel), List.mem_of_getElem? (i := 613) (by decide +kernel), List.mem_of_getElem? (i := 614) (by decide +kernel)⟩
theorem lw_p33 : lw_okq (⟨"ShipLanterns", "isFedBox", "(I)Z"⟩, 9) := ⟨⟨by decide +kernel, by decide +kernel⟩, List.mem_of_getElem? (i := 19) (by decide +kernel), List.mem_of_getElem? (i := 629) (by decide +kernel), List.mem_of_getElem? (i := 630) (by decide +kernel)⟩
theorem lw_p34 : lw_okq (⟨"ShipLanterns", "isLantern", "(I)Z"⟩, 9) := ⟨⟨by decide +kernel, by decide +kernel⟩, List.mem_of_getElem? (i := 19) (by decide +kernel), List.mem_of_getElem? (i := 683) (by decide +kernel), List.mem_of_getElem? (i := 684) (by decide +kernel)⟩
theorem lw_p35 : lw_okq (⟨"ShipLanterns", "isFault", "(I)Z"⟩, 9) := ⟨⟨by decide +kernel, by decide +kernel⟩, List.mem_of_getElem? (i := 19) (by decide +kernel), List.mem_of_getElem? (i := 716) (by decide +kernel), List.mem_of_getElem? (i := 717) (by decide +kernel)⟩
theorem lw_p36 : lw_okq (⟨"ShipLanterns", "addParts", "()I"⟩, 9) := ⟨⟨by decide +kernel, by decide +kernel⟩, List.mem_of_getElem? (i := 19) (by decide +kernel), List.mem_of_getElem? (i := 756) (by decide +kernel), List.mem_of_getElem? (i := 757) (by decide +kernel)⟩
theorem lw_p37 : lw_okq (⟨"ShipLanterns", "addPart", "()Z"⟩, 9) := ⟨⟨by decide +kernel, by decide +kernel⟩, List.mem_of_getElem? (i := 19) (by decide +kernel), List.mem_of_getElem? (i := 760) (by decide +kernel), List.mem_of_getElem? (i := 761) (by decide +kernel)⟩
theorem lw_p38 : lw_okq (⟨"ShipLanternsModel", "whyNoBox", "(III)I"⟩, 15) := ⟨⟨by decide +kernel, by decide +kernel⟩, List.mem_of_getElem? (i := 861) (by decide +kernel), List.mem_of_getElem? (i := 925) (by decide +kernel), List.mem_of_getElem? (i := 926) (by decide +kernel)⟩
theorem lw_p39 : lw_okq (⟨"ShipLanternsModel", "isBox", "(I)Z"⟩, 15) := ⟨⟨by decide +kernel, by decide +kernel⟩, List.mem_of_getElem? (i := 861) (by decide +kernel), List.mem_of_getElem? (i := 929) (by decide +kernel), List.mem_of_getElem? (i := 930) (by decide +kernel)⟩
theorem lw_p40 : lw_okq (⟨"ShipLanternsModel", "save", "()V"⟩, 15) := ⟨⟨by decide +kernel, by decide +kernel⟩, List.mem_of_getElem? (i := 861) (by decide +kernel), List.mem_of_getElem? (i := 939) (by decide +kernel), List.mem_of_getElem? (i := 940) (by decide +kernel)⟩
theorem lw_p41 : lw_okq (⟨"ShipLanternsModel", "bringBox", "(IIIZ)V"⟩, 15) := ⟨⟨by decide +kernel, by decide +kernel⟩, List.mem_of_getElem? (i := 861) (by decide +kernel), List.mem_of_getElem? (i := 943) (by decide +kernel), List.mem_of_getElem? (i := 944) (by decide +kernel)⟩
theorem lw_p42 : lw_okq (⟨"ShipLanternsModel", "settle", "()V"⟩, 15) := ⟨⟨by decide +kernel, by decide +kernel⟩, List.mem_of_getElem? (i := 861) (by decide +kernel), List.mem_of_getElem? (i := 947) (by decide +kernel), List.mem_of_getElem? (i := 948) (by decide +kernel)⟩
theorem lw_p43 : lw_okq (⟨"ShipLanternsModel", "nextToBlow", "()I"⟩, 15) := ⟨⟨by decide +kernel, by decide +kernel⟩, List.mem_of_getElem? (i := 861) (by decide +kernel), List.mem_of_getElem? (i := 951) (by decide +kernel), List.mem_of_getElem? (i := 952) (by decide +kernel)⟩
theorem lw_p44 : lw_okq (⟨"ShipLanternsModel", "current", "(II)I"⟩, 15) := ⟨⟨by decide +kernel, by decide +kernel⟩, List.mem_of_getElem? (i := 861) (by decide +kernel), List.mem_of_getElem? (i := 955) (by decide +kernel), List.mem_of_getElem? (i := 956) (by decide +kernel)⟩
theorem lw_p45 : lw_okq (⟨"ShipLanternsModel", "isAlive", "(II)Z"⟩, 15) := ⟨⟨by decide +kernel, by decide +kernel⟩, List.mem_of_getElem? (i := 861) (by decide +kernel), List.mem_of_getElem? (i := 959) (by decide +kernel), List.mem_of_getElem? (i := 960) (by decide +kernel)⟩
theorem lw_p46 : lw_okq (⟨"ShipLanternsModel", "isSwitched", "(I)Z"⟩, 15) := ⟨⟨by decide +kernel, by decide +kernel⟩, List.mem_of_getElem? (i := 861) (by decide +kernel), List.mem_of_getElem? (i := 963) (by decide +kernel), List.mem_of_getElem? (i := 964) (by decide +kernel)⟩
theorem lw_p47 : lw_okq (⟨"ShipLanternsModel", "ofBox", "(II)I"⟩, 15) := ⟨⟨by decide +kernel, by decide +kernel⟩, List.mem_of_getElem? (i := 861) (by decide +kernel), List.mem_of_getElem? (i := 967) (by decide +kernel), List.mem_of_getElem? (i := 968) (by decide +kernel)⟩
def lw_privs_3 : List (MethodName × Nat) := [(⟨"ShipLanterns$History", "dropOldest", "()V"⟩, 2), (⟨"ShipLanterns", "isFedBox", "(I)Z"⟩, 9), (⟨"ShipLanterns", "isLantern", "(I)Z"⟩, 9), (⟨"ShipLanterns", "isFault", "(I)Z"⟩, 9), (⟨"ShipLanterns", "addParts", "()I"⟩, 9), (⟨"ShipLanterns", "addPart", "()Z"⟩, 9), (⟨"ShipLanternsModel", "whyNoBox", "(III)I"⟩, 15), (⟨"ShipLanternsModel", "isBox", "(I)Z"⟩, 15), (⟨"ShipLanternsModel", "save", "()V"⟩, 15), (⟨"ShipLanternsModel", "bringBox", "(IIIZ)V"⟩, 15), (⟨"ShipLanternsModel", "settle", "()V"⟩, 15), (⟨"ShipLanternsModel", "nextToBlow", "()I"⟩, 15), (⟨"ShipLanternsModel", "current", "(II)I"⟩, 15), (⟨"ShipLanternsModel", "isAlive", "(II)Z"⟩, 15), (⟨"ShipLanternsModel", "isSwitched", "(I)Z"⟩, 15), (⟨"ShipLanternsModel", "ofBox", "(II)I"⟩, 15)]
theorem lw_r3 : ∀ q ∈ lw_privs_3, lw_okq q := List.forall_mem_cons.mpr ⟨lw_p32, List.forall_mem_cons.mpr ⟨lw_p33, List.forall_mem_cons.mpr ⟨lw_p34, List.forall_mem_cons.mpr ⟨lw_p35, List.forall_mem_cons.mpr ⟨lw_p36, List.forall_mem_cons.mpr ⟨lw_p37, List.forall_mem_cons.mpr ⟨lw_p38, List.forall_mem_cons.mpr ⟨lw_p39, List.forall_mem_cons.mpr ⟨lw_p40, List.forall_mem_cons.mpr ⟨lw_p41, List.forall_mem_cons.mpr ⟨lw_p42, List.forall_mem_cons.mpr ⟨lw_p43, List.forall_mem_cons.mpr ⟨lw_p44, List.forall_mem_cons.mpr ⟨lw_p45, List.forall_mem_cons.mpr ⟨lw_p46, List.forall_mem_cons.mpr ⟨lw_p47, fun _ h => absurd h List.not_mem_nil⟩⟩⟩⟩⟩⟩⟩⟩⟩⟩⟩⟩⟩⟩⟩⟩
theorem lw_p48 : lw_okq (⟨"ShipLanternsModel", "isWhole", "(II)Z"⟩, 15) := ⟨⟨by decide +kernel, by decide +kernel⟩, List.mem_of_getElem? (i := 861) (by decide +kernel), List.mem_of_getElem? (i := 971) (by decide +kernel), List.mem_of_getElem? (i := 972) (by decide +kernel)⟩
theorem lw_p49 : lw_okq (⟨"ShipLanternsModel", "above", "(II)I"⟩, 15) := ⟨⟨by decide +kernel, by decide +kernel⟩, List.mem_of_getElem? (i := 861) (by decide +kernel), List.mem_of_getElem? (i := 975) (by decide +kernel), List.mem_of_getElem? (i := 976) (by decide +kernel)⟩
theorem lw_p50 : lw_okq (⟨"ShipLanternsModel", "dark", "(I)I"⟩, 15) := ⟨⟨by decide +kernel, by decide +kernel⟩, List.mem_of_getElem? (i := 861) (by decide +kernel), List.mem_of_getElem? (i := 979) (by decide +kernel), List.mem_of_getElem? (i := 980) (by decide +kernel)⟩
theorem lw_p51 : lw_okq (⟨"ShipLanternsModel", "ofLantern", "(II)I"⟩, 15) := ⟨⟨by decide +kernel, by decide +kernel⟩, List.mem_of_getElem? (i := 861) (by decide +kernel), List.mem_of_getElem? (i := 983) (by decide +kernel), List.mem_of_getElem? (i := 984) (by decide +kernel)⟩
theorem lw_p52 : lw_okq (⟨"ShipLanternsModel", "pole", "(II)I"⟩, 15) := ⟨⟨by decide +kernel, by decide +kernel⟩, List.mem_of_getElem? (i := 861) (by decide +kernel), List.mem_of_getElem? (i := 987) (by decide +kernel), List.mem_of_getElem? (i := 988) (by decide +kernel)⟩
theorem lw_p53 : lw_okq (⟨"ShipLanternsModel", "isBehind", "(II)Z"⟩, 15) := ⟨⟨by decide +kernel, by decide +kernel⟩, List.mem_of_getElem? (i := 861) (by decide +kernel), List.mem_of_getElem? (i := 991) (by decide +kernel), List.mem_of_getElem? (i := 992) (by decide +kernel)⟩
theorem lw_p54 : lw_okq (⟨"ShipLanternsModel", "ofFault", "(II)I"⟩, 15) := ⟨⟨by decide +kernel, by decide +kernel⟩, List.mem_of_getElem? (i := 861) (by decide +kernel), List.mem_of_getElem? (i := 995) (by decide +kernel), List.mem_of_getElem? (i := 996) (by decide +kernel)⟩
theorem lw_p55 : lw_okq (⟨"ShipLanternsModel", "comesBy", "(IIII)Z"⟩, 15) := ⟨⟨by decide +kernel, by decide +kernel⟩, List.mem_of_getElem? (i := 861) (by decide +kernel), List.mem_of_getElem? (i := 999) (by decide +kernel), List.mem_of_getElem? (i := 1000) (by decide +kernel)⟩
theorem lw_p56 : lw_okq (⟨"ShipLanternsModel", "flow", "(I)I"⟩, 15) := ⟨⟨by decide +kernel, by decide +kernel⟩, List.mem_of_getElem? (i := 861) (by decide +kernel), List.mem_of_getElem? (i := 1003) (by decide +kernel), List.mem_of_getElem? (i := 1004) (by decide +kernel)⟩
theorem lw_p57 : lw_okq (⟨"ShipLanternsModel", "isLive", "(I)Z"⟩, 15) := ⟨⟨by decide +kernel, by decide +kernel⟩, List.mem_of_getElem? (i := 861) (by decide +kernel), List.mem_of_getElem? (i := 1007) (by decide +kernel), List.mem_of_getElem? (i := 1008) (by decide +kernel)⟩
theorem lw_p58 : lw_okq (⟨"ShipLanternsModel", "leak", "()I"⟩, 15) := ⟨⟨by decide +kernel, by decide +kernel⟩, List.mem_of_getElem? (i := 861) (by decide +kernel), List.mem_of_getElem? (i := 1011) (by decide +kernel), List.mem_of_getElem? (i := 1012) (by decide +kernel)⟩
theorem lw_p59 : lw_okq (⟨"ShipLanternsModel", "lampOf", "(I)I"⟩, 15) := ⟨⟨by decide +kernel, by decide +kernel⟩, List.mem_of_getElem? (i := 861) (by decide +kernel), List.mem_of_getElem? (i := 1015) (by decide +kernel), List.mem_of_getElem? (i := 1016) (by decide +kernel)⟩
theorem lw_p60 : lw_okq (⟨"ShipLanternsModel", "faultPole", "(I)I"⟩, 15) := ⟨⟨by decide +kernel, by decide +kernel⟩, List.mem_of_getElem? (i := 861) (by decide +kernel), List.mem_of_getElem? (i := 1019) (by decide +kernel), List.mem_of_getElem? (i := 1020) (by decide +kernel)⟩
theorem lw_p61 : lw_okq (⟨"ShipLanternsModel", "depth", "(I)I"⟩, 15) := ⟨⟨by decide +kernel, by decide +kernel⟩, List.mem_of_getElem? (i := 861) (by decide +kernel), List.mem_of_getElem? (i := 1023) (by decide +kernel), List.mem_of_getElem? (i := 1024) (by decide +kernel)⟩
theorem lw_p62 : lw_okq (⟨"ShipLanternsModel", "isFed", "(I)Z"⟩, 15) := ⟨⟨by decide +kernel, by decide +kernel⟩, List.mem_of_getElem? (i := 861) (by decide +kernel), List.mem_of_getElem? (i := 1031) (by decide +kernel), List.mem_of_getElem? (i := 1032) (by decide +kernel)⟩
theorem lw_p63 : lw_okq (⟨"ShipLanternsModel", "turn", "(II)V"⟩, 15) := ⟨⟨by decide +kernel, by decide +kernel⟩, List.mem_of_getElem? (i := 861) (by decide +kernel), List.mem_of_getElem? (i := 1035) (by decide +kernel), List.mem_of_getElem? (i := 1036) (by decide +kernel)⟩
def lw_privs_4 : List (MethodName × Nat) := [(⟨"ShipLanternsModel", "isWhole", "(II)Z"⟩, 15), (⟨"ShipLanternsModel", "above", "(II)I"⟩, 15), (⟨"ShipLanternsModel", "dark", "(I)I"⟩, 15), (⟨"ShipLanternsModel", "ofLantern", "(II)I"⟩, 15), (⟨"ShipLanternsModel", "pole", "(II)I"⟩, 15), (⟨"ShipLanternsModel", "isBehind", "(II)Z"⟩, 15), (⟨"ShipLanternsModel", "ofFault", "(II)I"⟩, 15), (⟨"ShipLanternsModel", "comesBy", "(IIII)Z"⟩, 15), (⟨"ShipLanternsModel", "flow", "(I)I"⟩, 15), (⟨"ShipLanternsModel", "isLive", "(I)Z"⟩, 15), (⟨"ShipLanternsModel", "leak", "()I"⟩, 15), (⟨"ShipLanternsModel", "lampOf", "(I)I"⟩, 15), (⟨"ShipLanternsModel", "faultPole", "(I)I"⟩, 15), (⟨"ShipLanternsModel", "depth", "(I)I"⟩, 15), (⟨"ShipLanternsModel", "isFed", "(I)Z"⟩, 15), (⟨"ShipLanternsModel", "turn", "(II)V"⟩, 15)]
theorem lw_r4 : ∀ q ∈ lw_privs_4, lw_okq q := List.forall_mem_cons.mpr ⟨lw_p48, List.forall_mem_cons.mpr ⟨lw_p49, List.forall_mem_cons.mpr ⟨lw_p50, List.forall_mem_cons.mpr ⟨lw_p51, List.forall_mem_cons.mpr ⟨lw_p52, List.forall_mem_cons.mpr ⟨lw_p53, List.forall_mem_cons.mpr ⟨lw_p54, List.forall_mem_cons.mpr ⟨lw_p55, List.forall_mem_cons.mpr ⟨lw_p56, List.forall_mem_cons.mpr ⟨lw_p57, List.forall_mem_cons.mpr ⟨lw_p58, List.forall_mem_cons.mpr ⟨lw_p59, List.forall_mem_cons.mpr ⟨lw_p60, List.forall_mem_cons.mpr ⟨lw_p61, List.forall_mem_cons.mpr ⟨lw_p62, List.forall_mem_cons.mpr ⟨lw_p63, fun _ h => absurd h List.not_mem_nil⟩⟩⟩⟩⟩⟩⟩⟩⟩⟩⟩⟩⟩⟩⟩⟩
theorem lw_p64 : lw_okq (⟨"ShipLanternsModel", "burning", "()I"⟩, 15) := ⟨⟨by decide +kernel, by decide +kernel⟩, List.mem_of_getElem? (i := 861) (by decide +kernel), List.mem_of_getElem? (i := 1043) (by decide +kernel), List.mem_of_getElem? (i := 1044) (by decide +kernel)⟩
theorem lw_p65 : lw_okq (⟨"ShipLanternsModel", "whyNoLantern", "(II)I"⟩, 15) := ⟨⟨by decide +kernel, by decide +kernel⟩, List.mem_of_getElem? (i := 861) (by decide +kernel), List.mem_of_getElem? (i := 1062) (by decide +kernel), List.mem_of_getElem? (i := 1063) (by decide +kernel)⟩
theorem lw_p66 : lw_okq (⟨"ShipLanternsModel", "bringLantern", "(IIZ)V"⟩, 15) := ⟨⟨by decide +kernel, by decide +kernel⟩, List.mem_of_getElem? (i := 861) (by decide +kernel), List.mem_of_getElem? (i := 1066) (by decide +kernel), List.mem_of_getElem? (i := 1067) (by decide +kernel)⟩
theorem lw_p67 : lw_okq (⟨"ShipLanternsModel", "isLantern", "(I)Z"⟩, 15) := ⟨⟨by decide +kernel, by decide +kernel⟩, List.mem_of_getElem? (i := 861) (by decide +kernel), List.mem_of_getElem? (i := 1074) (by decide +kernel), List.mem_of_getElem? (i := 1075) (by decide +kernel)⟩
theorem lw_p68 : lw_okq (⟨"ShipLanternsModel", "whyNoFault", "(III)I"⟩, 15) := ⟨⟨by decide +kernel, by decide +kernel⟩, List.mem_of_getElem? (i := 861) (by decide +kernel), List.mem_of_getElem? (i := 1082) (by decide +kernel), List.mem_of_getElem? (i := 1083) (by decide +kernel)⟩
theorem lw_p69 : lw_okq (⟨"ShipLanternsModel", "bringFault", "(III)V"⟩, 15) := ⟨⟨by decide +kernel, by decide +kernel⟩, List.mem_of_getElem? (i := 861) (by decide +kernel), List.mem_of_getElem? (i := 1086) (by decide +kernel), List.mem_of_getElem? (i := 1087) (by decide +kernel)⟩
theorem lw_p70 : lw_okq (⟨"ShipLanternsModel", "isFault", "(I)Z"⟩, 15) := ⟨⟨by decide +kernel, by decide +kernel⟩, List.mem_of_getElem? (i := 861) (by decide +kernel), List.mem_of_getElem? (i := 1094) (by decide +kernel), List.mem_of_getElem? (i := 1095) (by decide +kernel)⟩
theorem lw_p71 : lw_okq (⟨"ShipLanternsModel", "drawn", "()I"⟩, 15) := ⟨⟨by decide +kernel, by decide +kernel⟩, List.mem_of_getElem? (i := 861) (by decide +kernel), List.mem_of_getElem? (i := 1103) (by decide +kernel), List.mem_of_getElem? (i := 1104) (by decide +kernel)⟩
theorem lw_p72 : lw_okq (⟨"ShipLanternsModel", "readText", "()I"⟩, 15) := ⟨⟨by decide +kernel, by decide +kernel⟩, List.mem_of_getElem? (i := 861) (by decide +kernel), List.mem_of_getElem? (i := 1119) (by decide +kernel), List.mem_of_getElem? (i := 1120) (by decide +kernel)⟩
theorem lw_p73 : lw_okq (⟨"ShipLanternsModel", "takes", "(I)Z"⟩, 15) := ⟨⟨by decide +kernel, by decide +kernel⟩, List.mem_of_getElem? (i := 861) (by decide +kernel), List.mem_of_getElem? (i := 1123) (by decide +kernel), List.mem_of_getElem? (i := 1124) (by decide +kernel)⟩
theorem lw_p74 : lw_okq (⟨"ShipLanternsModel", "takesDigit", "(I)Z"⟩, 15) := ⟨⟨by decide +kernel, by decide +kernel⟩, List.mem_of_getElem? (i := 861) (by decide +kernel), List.mem_of_getElem? (i := 1127) (by decide +kernel), List.mem_of_getElem? (i := 1128) (by decide +kernel)⟩
theorem lw_p75 : lw_okq (⟨"ShipLanternsModel", "least", "()I"⟩, 15) := ⟨⟨by decide +kernel, by decide +kernel⟩, List.mem_of_getElem? (i := 861) (by decide +kernel), List.mem_of_getElem? (i := 1131) (by decide +kernel), List.mem_of_getElem? (i := 1132) (by decide +kernel)⟩
theorem lw_p76 : lw_okq (⟨"ShipLanternsModel", "greatest", "()I"⟩, 15) := ⟨⟨by decide +kernel, by decide +kernel⟩, List.mem_of_getElem? (i := 861) (by decide +kernel), List.mem_of_getElem? (i := 1135) (by decide +kernel), List.mem_of_getElem? (i := 1136) (by decide +kernel)⟩
theorem lw_p77 : lw_okq (⟨"ShipLanternsModel", "isSign", "(I)Z"⟩, 15) := ⟨⟨by decide +kernel, by decide +kernel⟩, List.mem_of_getElem? (i := 861) (by decide +kernel), List.mem_of_getElem? (i := 1139) (by decide +kernel), List.mem_of_getElem? (i := 1140) (by decide +kernel)⟩
theorem lw_p78 : lw_okq (⟨"ShipLanternsModel", "isPartOver", "()Z"⟩, 15) := ⟨⟨by decide +kernel, by decide +kernel⟩, List.mem_of_getElem? (i := 861) (by decide +kernel), List.mem_of_getElem? (i := 1143) (by decide +kernel), List.mem_of_getElem? (i := 1144) (by decide +kernel)⟩
theorem lw_p79 : lw_okq (⟨"ShipLanternsModel", "endPart", "()V"⟩, 15) := ⟨⟨by decide +kernel, by decide +kernel⟩, List.mem_of_getElem? (i := 861) (by decide +kernel), List.mem_of_getElem? (i := 1147) (by decide +kernel), List.mem_of_getElem? (i := 1148) (by decide +kernel)⟩
def lw_privs_5 : List (MethodName × Nat) := [(⟨"ShipLanternsModel", "burning", "()I"⟩, 15), (⟨"ShipLanternsModel", "whyNoLantern", "(II)I"⟩, 15), (⟨"ShipLanternsModel", "bringLantern", "(IIZ)V"⟩, 15), (⟨"ShipLanternsModel", "isLantern", "(I)Z"⟩, 15), (⟨"ShipLanternsModel", "whyNoFault", "(III)I"⟩, 15), (⟨"ShipLanternsModel", "bringFault", "(III)V"⟩, 15), (⟨"ShipLanternsModel", "isFault", "(I)Z"⟩, 15), (⟨"ShipLanternsModel", "drawn", "()I"⟩, 15), (⟨"ShipLanternsModel", "readText", "()I"⟩, 15), (⟨"ShipLanternsModel", "takes", "(I)Z"⟩, 15), (⟨"ShipLanternsModel", "takesDigit", "(I)Z"⟩, 15), (⟨"ShipLanternsModel", "least", "()I"⟩, 15), (⟨"ShipLanternsModel", "greatest", "()I"⟩, 15), (⟨"ShipLanternsModel", "isSign", "(I)Z"⟩, 15), (⟨"ShipLanternsModel", "isPartOver", "()Z"⟩, 15), (⟨"ShipLanternsModel", "endPart", "()V"⟩, 15)]
theorem lw_r5 : ∀ q ∈ lw_privs_5, lw_okq q := List.forall_mem_cons.mpr ⟨lw_p64, List.forall_mem_cons.mpr ⟨lw_p65, List.forall_mem_cons.mpr ⟨lw_p66, List.forall_mem_cons.mpr ⟨lw_p67, List.forall_mem_cons.mpr ⟨lw_p68, List.forall_mem_cons.mpr ⟨lw_p69, List.forall_mem_cons.mpr ⟨lw_p70, List.forall_mem_cons.mpr ⟨lw_p71, List.forall_mem_cons.mpr ⟨lw_p72, List.forall_mem_cons.mpr ⟨lw_p73, List.forall_mem_cons.mpr ⟨lw_p74, List.forall_mem_cons.mpr ⟨lw_p75, List.forall_mem_cons.mpr ⟨lw_p76, List.forall_mem_cons.mpr ⟨lw_p77, List.forall_mem_cons.mpr ⟨lw_p78, List.forall_mem_cons.mpr ⟨lw_p79, fun _ h => absurd h List.not_mem_nil⟩⟩⟩⟩⟩⟩⟩⟩⟩⟩⟩⟩⟩⟩⟩⟩
theorem lw_p80 : lw_okq (⟨"ShipLanternsModel", "whyNoPart", "(I)I"⟩, 15) := ⟨⟨by decide +kernel, by decide +kernel⟩, List.mem_of_getElem? (i := 861) (by decide +kernel), List.mem_of_getElem? (i := 1155) (by decide +kernel), List.mem_of_getElem? (i := 1156) (by decide +kernel)⟩
theorem lw_p81 : lw_okq (⟨"ShipLanternsModel", "bringPart", "(I)V"⟩, 15) := ⟨⟨by decide +kernel, by decide +kernel⟩, List.mem_of_getElem? (i := 861) (by decide +kernel), List.mem_of_getElem? (i := 1159) (by decide +kernel), List.mem_of_getElem? (i := 1160) (by decide +kernel)⟩
theorem lw_p82 : lw_okq (⟨"ShipLanternsModel", "boxNow", "(II)I"⟩, 15) := ⟨⟨by decide +kernel, by decide +kernel⟩, List.mem_of_getElem? (i := 861) (by decide +kernel), List.mem_of_getElem? (i := 1167) (by decide +kernel), List.mem_of_getElem? (i := 1168) (by decide +kernel)⟩
theorem lw_p83 : lw_okq (⟨"ShipLanternsModel", "behind", "(I)I"⟩, 15) := ⟨⟨by decide +kernel, by decide +kernel⟩, List.mem_of_getElem? (i := 861) (by decide +kernel), List.mem_of_getElem? (i := 1171) (by decide +kernel), List.mem_of_getElem? (i := 1172) (by decide +kernel)⟩
theorem lw_p84 : lw_okq (⟨"ShipLanternsModel", "lanternsAt", "(IZ)I"⟩, 15) := ⟨⟨by decide +kernel, by decide +kernel⟩, List.mem_of_getElem? (i := 861) (by decide +kernel), List.mem_of_getElem? (i := 1175) (by decide +kernel), List.mem_of_getElem? (i := 1176) (by decide +kernel)⟩
theorem lw_p85 : lw_okq (⟨"ShipLanternsModel", "terminalNow", "(III)I"⟩, 15) := ⟨⟨by decide +kernel, by decide +kernel⟩, List.mem_of_getElem? (i := 861) (by decide +kernel), List.mem_of_getElem? (i := 1183) (by decide +kernel), List.mem_of_getElem? (i := 1184) (by decide +kernel)⟩
theorem lw_p86 : lw_okq (⟨"ShipLanternsModel", "faultsAt", "(II)I"⟩, 15) := ⟨⟨by decide +kernel, by decide +kernel⟩, List.mem_of_getElem? (i := 861) (by decide +kernel), List.mem_of_getElem? (i := 1187) (by decide +kernel), List.mem_of_getElem? (i := 1188) (by decide +kernel)⟩
theorem lw_p87 : lw_okq (⟨"ShipLanternsModel", "lanternNow", "(II)I"⟩, 15) := ⟨⟨by decide +kernel, by decide +kernel⟩, List.mem_of_getElem? (i := 861) (by decide +kernel), List.mem_of_getElem? (i := 1195) (by decide +kernel), List.mem_of_getElem? (i := 1196) (by decide +kernel)⟩
theorem lw_p88 : lw_okq (⟨"ShipLanternsModel", "faultNow", "(II)I"⟩, 15) := ⟨⟨by decide +kernel, by decide +kernel⟩, List.mem_of_getElem? (i := 861) (by decide +kernel), List.mem_of_getElem? (i := 1203) (by decide +kernel), List.mem_of_getElem? (i := 1204) (by decide +kernel)⟩
theorem lw_p89 : lw_okq (⟨"ShipLanternsModel", "counted", "(I)I"⟩, 15) := ⟨⟨by decide +kernel, by decide +kernel⟩, List.mem_of_getElem? (i := 861) (by decide +kernel), List.mem_of_getElem? (i := 1211) (by decide +kernel), List.mem_of_getElem? (i := 1212) (by decide +kernel)⟩
theorem lw_p90 : lw_okq (⟨"ShipLanternsModel", "blownNow", "()I"⟩, 15) := ⟨⟨by decide +kernel, by decide +kernel⟩, List.mem_of_getElem? (i := 861) (by decide +kernel), List.mem_of_getElem? (i := 1215) (by decide +kernel), List.mem_of_getElem? (i := 1216) (by decide +kernel)⟩
theorem lw_p91 : lw_okq (⟨"ShipLanternsModel", "located", "(I)I"⟩, 15) := ⟨⟨by decide +kernel, by decide +kernel⟩, List.mem_of_getElem? (i := 861) (by decide +kernel), List.mem_of_getElem? (i := 1227) (by decide +kernel), List.mem_of_getElem? (i := 1228) (by decide +kernel)⟩
theorem lw_p92 : lw_okq (⟨"ShipLanternsModel", "keepAside", "()V"⟩, 15) := ⟨⟨by decide +kernel, by decide +kernel⟩, List.mem_of_getElem? (i := 861) (by decide +kernel), List.mem_of_getElem? (i := 1235) (by decide +kernel), List.mem_of_getElem? (i := 1236) (by decide +kernel)⟩
theorem lw_p93 : lw_okq (⟨"ShipLanternsModel", "faultAnswer", "(I)I"⟩, 15) := ⟨⟨by decide +kernel, by decide +kernel⟩, List.mem_of_getElem? (i := 861) (by decide +kernel), List.mem_of_getElem? (i := 1239) (by decide +kernel), List.mem_of_getElem? (i := 1240) (by decide +kernel)⟩
theorem lw_p94 : lw_okq (⟨"ShipLanternsModel", "takeBack", "()V"⟩, 15) := ⟨⟨by decide +kernel, by decide +kernel⟩, List.mem_of_getElem? (i := 861) (by decide +kernel), List.mem_of_getElem? (i := 1243) (by decide +kernel), List.mem_of_getElem? (i := 1244) (by decide +kernel)⟩
theorem lw_p95 : lw_okq (⟨"ShipLanternsModel", "toggledAnswer", "(I)I"⟩, 15) := ⟨⟨by decide +kernel, by decide +kernel⟩, List.mem_of_getElem? (i := 861) (by decide +kernel), List.mem_of_getElem? (i := 1251) (by decide +kernel), List.mem_of_getElem? (i := 1252) (by decide +kernel)⟩
def lw_privs_6 : List (MethodName × Nat) := [(⟨"ShipLanternsModel", "whyNoPart", "(I)I"⟩, 15), (⟨"ShipLanternsModel", "bringPart", "(I)V"⟩, 15), (⟨"ShipLanternsModel", "boxNow", "(II)I"⟩, 15), (⟨"ShipLanternsModel", "behind", "(I)I"⟩, 15), (⟨"ShipLanternsModel", "lanternsAt", "(IZ)I"⟩, 15), (⟨"ShipLanternsModel", "terminalNow", "(III)I"⟩, 15), (⟨"ShipLanternsModel", "faultsAt", "(II)I"⟩, 15), (⟨"ShipLanternsModel", "lanternNow", "(II)I"⟩, 15), (⟨"ShipLanternsModel", "faultNow", "(II)I"⟩, 15), (⟨"ShipLanternsModel", "counted", "(I)I"⟩, 15), (⟨"ShipLanternsModel", "blownNow", "()I"⟩, 15), (⟨"ShipLanternsModel", "located", "(I)I"⟩, 15), (⟨"ShipLanternsModel", "keepAside", "()V"⟩, 15), (⟨"ShipLanternsModel", "faultAnswer", "(I)I"⟩, 15), (⟨"ShipLanternsModel", "takeBack", "()V"⟩, 15), (⟨"ShipLanternsModel", "toggledAnswer", "(I)I"⟩, 15)]
theorem lw_r6 : ∀ q ∈ lw_privs_6, lw_okq q := List.forall_mem_cons.mpr ⟨lw_p80, List.forall_mem_cons.mpr ⟨lw_p81, List.forall_mem_cons.mpr ⟨lw_p82, List.forall_mem_cons.mpr ⟨lw_p83, List.forall_mem_cons.mpr ⟨lw_p84, List.forall_mem_cons.mpr ⟨lw_p85, List.forall_mem_cons.mpr ⟨lw_p86, List.forall_mem_cons.mpr ⟨lw_p87, List.forall_mem_cons.mpr ⟨lw_p88, List.forall_mem_cons.mpr ⟨lw_p89, List.forall_mem_cons.mpr ⟨lw_p90, List.forall_mem_cons.mpr ⟨lw_p91, List.forall_mem_cons.mpr ⟨lw_p92, List.forall_mem_cons.mpr ⟨lw_p93, List.forall_mem_cons.mpr ⟨lw_p94, List.forall_mem_cons.mpr ⟨lw_p95, fun _ h => absurd h List.not_mem_nil⟩⟩⟩⟩⟩⟩⟩⟩⟩⟩⟩⟩⟩⟩⟩⟩
theorem lw_p96 : lw_okq (⟨"ShipLanternsModel", "ratingAnswer", "(II)I"⟩, 15) := ⟨⟨by decide +kernel, by decide +kernel⟩, List.mem_of_getElem? (i := 861) (by decide +kernel), List.mem_of_getElem? (i := 1259) (by decide +kernel), List.mem_of_getElem? (i := 1260) (by decide +kernel)⟩
theorem lw_p97 : lw_okq (⟨"ShipLanternsModel", "shareNow", "()D"⟩, 15) := ⟨⟨by decide +kernel, by decide +kernel⟩, List.mem_of_getElem? (i := 861) (by decide +kernel), List.mem_of_getElem? (i := 1267) (by decide +kernel), List.mem_of_getElem? (i := 1268) (by decide +kernel)⟩
theorem lw_p98 : lw_okq (⟨"ShipLanternsModel", "mix", "(J)V"⟩, 15) := ⟨⟨by decide +kernel, by decide +kernel⟩, List.mem_of_getElem? (i := 861) (by decide +kernel), List.mem_of_getElem? (i := 1276) (by decide +kernel), List.mem_of_getElem? (i := 1277) (by decide +kernel)⟩
theorem lw_p99 : lw_okq (⟨"ShipLanternsModel", "mixBox", "(I)V"⟩, 15) := ⟨⟨by decide +kernel, by decide +kernel⟩, List.mem_of_getElem? (i := 861) (by decide +kernel), List.mem_of_getElem? (i := 1281) (by decide +kernel), List.mem_of_getElem? (i := 1282) (by decide +kernel)⟩
def lw_privs_7 : List (MethodName × Nat) := [(⟨"ShipLanternsModel", "ratingAnswer", "(II)I"⟩, 15), (⟨"ShipLanternsModel", "shareNow", "()D"⟩, 15), (⟨"ShipLanternsModel", "mix", "(J)V"⟩, 15), (⟨"ShipLanternsModel", "mixBox", "(I)V"⟩, 15)]
theorem lw_r7 : ∀ q ∈ lw_privs_7, lw_okq q := List.forall_mem_cons.mpr ⟨lw_p96, List.forall_mem_cons.mpr ⟨lw_p97, List.forall_mem_cons.mpr ⟨lw_p98, List.forall_mem_cons.mpr ⟨lw_p99, fun _ h => absurd h List.not_mem_nil⟩⟩⟩⟩
def lw_privs : List (MethodName × Nat) := lw_privs_1 ++ (lw_privs_2 ++ (lw_privs_3 ++ (lw_privs_4 ++ (lw_privs_5 ++ (lw_privs_6 ++ (lw_privs_7))))))
def lw_tbl : List Cond := k2_sels lw_privs ++ tables_1
theorem lw_privs_ok : ∀ q ∈ lw_privs, lw_okq q := by
  show ∀ q ∈ lw_privs_1 ++ (lw_privs_2 ++ (lw_privs_3 ++ (lw_privs_4 ++ (lw_privs_5 ++ (lw_privs_6 ++ (lw_privs_7)))))), lw_okq q
  exact List.forall_mem_append.mpr ⟨lw_r1, List.forall_mem_append.mpr ⟨lw_r2, List.forall_mem_append.mpr ⟨lw_r3, List.forall_mem_append.mpr ⟨lw_r4, List.forall_mem_append.mpr ⟨lw_r5, List.forall_mem_append.mpr ⟨lw_r6, lw_r7⟩⟩⟩⟩⟩⟩
/-- the streams that the claim lets the run draw from -/
abbrev lw_cs : List Choice := [Jvm.Choice.named "NaN.bits"]
theorem lw_bits : nanBits ∈ lw_cs := by first | decide | exact List.mem_cons_self | simp [lw_cs, nanBits]
end
section
/-! ===== BEGIN words of one list among another's, by their places ===== -/
theorem goodIn_r {big : List Cond} (ws : List Cond) (ps : List Nat) (hp : ws = ps.filterMap (fun i => big[i]?)) (h : ws.all goodWord = true) : GoodIn big ws := by
  intro w hw
  have h1 := List.all_eq_true.mp h w hw
  rw [hp] at hw
  obtain ⟨i, -, hi⟩ := List.mem_filterMap.mp hw
  have hm : w ∈ big := by first | exact List.mem_of_getElem? hi | exact List.getElem?_mem hi
  exact ⟨hm, good_of_word h1⟩
theorem goodIn_app {big a b : List Cond} (ha : GoodIn big a) (hb : GoodIn big b) : GoodIn big (a ++ b) := fun w h => (List.mem_append.mp h).elim (ha w) (hb w)
theorem goodIn_ca {big a b : List Cond} {c : Cond} (ha : GoodIn big (c :: a)) (hb : GoodIn big b) : GoodIn big (c :: (a ++ b)) := fun w h => (List.mem_cons.mp h).elim (fun e => ha w (List.mem_cons.mpr (Or.inl e))) (fun h => (List.mem_append.mp h).elim (fun h => ha w (List.mem_cons.mpr (Or.inr h))) (hb w))
theorem goodIn_sub {big ws : List Cond} (hm : ∀ w ∈ ws, w ∈ big) (h : ws.all goodWord = true) : GoodIn big ws := fun w hw => ⟨hm w hw, good_of_word (List.all_eq_true.mp h w hw)⟩
/-! ===== END ===== -/

/-! ===== BEGIN exceptions that leave a method, and their catching by the caller (launches without stack traces) ===== -/
section VXA
/-! The laws vx_back, vx_callV, vx_callS, vx_callSW, vx_throw0, vx_throwS follow proofs of the library, with one case more: JvmDerived/Free/Laws.lean (Back.of_free), Shelf42/LK1.lean (callV, callS), Shelf/KitTraced.lean (throwNew0V, throwNewS). -/
/-- where a method has thrown q: the class by its name, the cell, what was written, the world -/
def vx_T (XC : String → State → State → Prop) (st : State) (q : Addr) (t : State) (mc ms : Nat) (free : Addr → Prop) : Prop :=
  ∃ (E : String) (ce : Cell) (L : List Loc), XC E st t ∧ t.heap[q]? = some ce ∧ ce.vm = .none ∧ st.vm.findClass E = some ce.cls ∧ st.WarmedH t.vm ∧ st.sameButNew ({ t with vm := st.vm } : State) L mc ms ∧ ∀ z ∈ L, free z.base
def vx_Q (Qc : Array Value → State → Outcome → State → Prop) (XC : String → State → State → Prop) (mc ms : Nat) (free : Addr → Prop) : Array Value → State → Outcome → State → Prop := fun a st o t =>
  (Qc a st o t ∧ ∃ L, FrameEnd st o t L mc ms ∧ ∀ q ∈ L, free q.base) ∨ ∃ q, o = .threw q ∧ vx_T XC st q t mc ms free
/-- a callee that returns or throws -/
def vx_Met (l : Launch) (y : MethodName) (ws : List Cond) (rm : Room) (Pc : Array Value → State → Prop) (Qc : Array Value → State → Outcome → State → Prop) (XC : String → State → State → Prop) (mc ms : Nat) (free : Addr → Prop) : Prop :=
  MetFree l y (headSpec ws rm) Pc (fun _ _ _ _ _ => True) (vx_Q Qc XC mc ms free)
def vx_Post (XC : String → State → State → Prop) (mc ms : Nat) (free : Addr → Prop) : Pt → Array Value → Addr → Pt → Prop := fun A a q B =>
  ∃ (g : JFrame) (mk : MethodId) (t : State) (L : List Loc) (E : String) (ce : Cell), B.U.heap = t.heap ∧ B.U.vm = t.vm ∧ XC E (A.U.calling g mk a) t ∧ t.heap[q]? = some ce ∧ ce.vm = .none ∧ A.U.vm.findClass E = some ce.cls ∧ B.locs = A.locs ++ L ∧ (∀ z ∈ L, free z.base) ∧ B.cells = A.cells + mc ∧ B.slots = A.slots + ms
def vx_Back (l : Launch) (R : Room) (p : Program) (e : Env) (below : List Frame) (s : State) (sargs : Array Value) (y : MethodName) (len W9 : Nat)
    (Pre : Pt → Array Value → Prop) (Post : Pt → Array Value → Option Value → Pt → Prop) (PostX : Pt → Array Value → Addr → Pt → Prop) : Prop :=
  ∀ (m : MethodId) (meth : Method) (c : Code) (A : Pt) (g : JFrame) (ig : Instr) (mk : MethodId) (a : Array Value),
    Stand p l e R s m sargs below meth c A.U A.locs A.cells A.slots → g.method = m → g.locals.size = c.maxLocals → decode c.code g.pc = .ok (ig, len) →
    2 * g.monitorRoom + (g.stack.map fun v => v.category).sum ≤ W9 → A.U.methodNamed? y = some mk → Pre A a →
    (∃ (v : Option Value) (B : Pt), Stand p l e R s m sargs below meth c B.U B.locs B.cells B.slots ∧ Post A a v B ∧
      Steps p.tables e below (doInvoke e (A.U.setTop g) [] mk a).1 (B.U.setTop { g with pc := g.pc + len, stack := v.toList ++ g.stack })) ∨
    (∃ (q : Addr) (B : Pt), Stand p l e R s m sargs below meth c B.U B.locs B.cells B.slots ∧ PostX A a q B ∧
      Steps p.tables e below (doInvoke e (A.U.setTop g) [] mk a).1 ((B.U.setTop g).pushFrame (.throwing q)))
section Payer
variable {l : Launch} {R : Room} {p : Program} {e : Env} {below : List Frame} {s : State} {sargs : Array Value} {y : MethodName} {len W9 : Nat}
theorem vx_back {ws : List Cond} {rm : Room} {Pc : Array Value → State → Prop} {Qc : Array Value → State → Outcome → State → Prop} {XC : String → State → State → Prop} {mc ms : Nat} {free : Addr → Prop} {bytes : ByteArray} {maxL : Nat} {ret : Option FieldType}
    (hM : vx_Met l y ws rm Pc Qc XC mc ms free) (hblind : FrameBlind Pc) (hrc : rm.cells = mc) (hrs : rm.slots = ms)
    (hframes : rm.frames + 1 ≤ R.frames) (hlocals : W9 + (maxL + 11) + rm.locals ≤ R.locals)
    (hws : ∀ w ∈ ws, ∀ a' U, s.WarmedH U.vm → w.before a' U = true) (hcode : Cond.code y bytes maxL ret ∈ ws) (hinit : ∀ a' U, s.WarmedH U.vm → (Cond.initialized y.cls).before a' U = true) :
    vx_Back l R p e below s sargs y len W9 (PreOf R mc ms Pc) (PostOf Qc mc ms free) (vx_Post XC mc ms free) := by
  intro m meth c A g ig mk a X hg hsize hdg hW hn hp
  have h1 : (headSpec ws rm).pre.before a A.U = true := atoms_intro fun w hw => hws w hw _ _ X.warmed
  have h2 : (Cond.code y bytes maxL ret).before a A.U = true := hws _ hcode _ _ X.warmed
  have h3 : (Cond.initialized y.cls).before a A.U = true := hinit _ _ X.warmed
  have h4 : A.cells + (headSpec ws rm).room.cells ≤ R.cells := by rw [show (headSpec ws rm).room.cells = mc from hrc]; exact hp.1
  have h5 : A.slots + (headSpec ws rm).room.slots ≤ R.slots := by rw [show (headSpec ws rm).room.slots = ms from hrs]; exact hp.2.1
  have hPc : Pc a (A.U.calling g mk a) := hblind _ _ _ _ hp.2.2
  obtain ⟨U, Ls, c0, s0⟩ := A
  dsimp only [Pt.U, Pt.locs, Pt.cells, Pt.slots] at h1 h2 h3 h4 h5 X hn hPc ⊢
  obtain ⟨methY, cY, hmY, hcY, -, hlY, -, -, -, -⟩ := Cond.code_spec hn h2
  obtain ⟨kY, hkY, -⟩ := className_of_methodNamed hn
  have hinitY : kY.init = .initialized := Cond.initialized_spec (findClass_of_methodNamed hn) hkY h3
  have h : At U g.method c below := by rw [hg]; exact X.here
  have hlocals9 : W9 + (maxL + 11) + (headSpec ws rm).room.locals ≤ R.locals := hlocals
  have happ : (headSpec ws rm).appliesLoose y e.platform (U.calling g mk a) = true :=
    Spec.appliesLoose_calling (g := g) h hdg hn hkY hinitY
      (X.room_calling (g := g) (R' := (headSpec ws rm).room) hsize hmY hcY hframes (by rw [hlY]; omega) h4 h5) h1
  obtain ⟨mid, hmid⟩ := h.above
  have hfr : (U.setTop g).frames = (.java g :: mid) ++ below := by rw [State.frames_setTop' g h.top, hmid]; rfl
  obtain ⟨o, s₂, hsteps, -, hend, hq⟩ := Steps.callFree hM p X.admits X.cas X.clock (acts := []) hfr happ hPc trivial
  have hq' : vx_Q Qc XC mc ms free a (U.calling g mk a) o s₂ := hq
  rw [State.frames_setTop' g h.top] at hend
  obtain ⟨g₀, hg0⟩ := Option.isSome_iff_exists.mp h.top
  obtain ⟨r, hr⟩ := State.topJava?_eq_some.mp hg0
  have hr' : (({ U with heap := s₂.heap, slotsUsed := s₂.slotsUsed } : State).setVm s₂.vm).frames = .java g₀ :: r := hr
  rcases hq' with ⟨hqc, L, hfe, hL⟩ | ⟨q, rfl, E, ce, L, hx, hce, hcv, hcl, hW₂, hsm, hL⟩
  · obtain ⟨⟨v, rfl⟩, hW₂, e2, q2, q3, q4, q5, q6⟩ := id hfe
    have e3 : s₂ = ({ (U.calling g mk a).setFrames s₂.frames with heap := s₂.heap, slotsUsed := s₂.slotsUsed } : State).setVm s₂.vm := by
      have : s₂ = ({ s₂ with vm := (U.calling g mk a).vm } : State).setVm s₂.vm := rfl
      rw [e2] at this
      exact this
    obtain ⟨c₂, i₂, len₂, hc₂, hd₂, hf₂⟩ := hend
    have hW' : U.WarmedH s₂.vm := hW₂
    have hcc : c₂ = c := by
      have h1 : s₂.code? g.method = U.code? g.method := by
        rw [State.code?_eq, State.code?_eq, hW'.alike.method?]
      exact Option.some.inj (hc₂.symm.trans (h1.trans h.code))
    subst hcc
    have hlen : len₂ = len := by rw [hdg] at hd₂; cases hd₂; rfl
    subst hlen
    have hs₂ : s₂ = (({ U with heap := s₂.heap, slotsUsed := s₂.slotsUsed } : State).setVm s₂.vm).setTop { g with pc := g.pc + len₂, stack := v.toList ++ g.stack } := by
      refine e3.trans ?_
      rw [hf₂, State.calling_eq h.top, State.setFrames_setFrames, State.setTop_of_frames _ hr', hr]
      rfl
    have hsame : U.sameButNew ({ U with heap := s₂.heap, slotsUsed := s₂.slotsUsed } : State) L mc ms := by
      refine ⟨?_, q2, q3, q4, q5, q6⟩
      obtain ⟨t, ht, -⟩ := State.frames_cons hr
      show ({ U with heap := s₂.heap, slotsUsed := s₂.slotsUsed } : State) = { U.setFrames U.frames with heap := s₂.heap, slotsUsed := s₂.slotsUsed }
      rw [State.setFrames_self ht]
    subst hg
    refine Or.inl ⟨v, ⟨(({ U with heap := s₂.heap, slotsUsed := s₂.slotsUsed } : State).setVm s₂.vm), Ls ++ L, c0 + mc, s0 + ms⟩,
      ⟨X.admits, X.cas, X.clock, X.frames, X.room, X.hears, X.method, X.code, (X.here.setHeapUsed s₂.heap s₂.slotsUsed).setVm hW'.alike, X.tail, State.WarmedH.trans X.warmed hW', X.limits, X.bytes, X.same.trans (hsame.setVm s.vm)⟩,
      ⟨g, mk, s₂, L, rfl, rfl, hqc, rfl, hL, rfl, rfl⟩, ?_⟩
    show Steps p.tables e below _ ((({ U with heap := s₂.heap, slotsUsed := s₂.slotsUsed } : State).setVm s₂.vm).setTop { g with pc := g.pc + len₂, stack := v.toList ++ g.stack })
    rw [← hs₂]
    exact hsteps
  · obtain ⟨e2, q2, q3, q4, q5, q6⟩ := id hsm
    have e3 : s₂ = ({ (U.calling g mk a).setFrames s₂.frames with heap := s₂.heap, slotsUsed := s₂.slotsUsed } : State).setVm s₂.vm := by
      have : s₂ = ({ s₂ with vm := (U.calling g mk a).vm } : State).setVm s₂.vm := rfl
      rw [e2] at this
      exact this
    have hf₂ : s₂.frames = .throwing q :: .java g :: U.frames.tail := hend
    have hW' : U.WarmedH s₂.vm := hW₂
    have hs₂ : s₂ = ((({ U with heap := s₂.heap, slotsUsed := s₂.slotsUsed } : State).setVm s₂.vm).setTop g).pushFrame (.throwing q) := by
      refine e3.trans ?_
      rw [hf₂, State.calling_eq h.top, State.setFrames_setFrames, State.pushFrame, State.frames_setTop _ hr', State.setTop_of_frames _ hr', State.setFrames_setFrames, hr]
      rfl
    have hsame : U.sameButNew ({ U with heap := s₂.heap, slotsUsed := s₂.slotsUsed } : State) L mc ms := by
      refine ⟨?_, q2, q3, q4, q5, q6⟩
      obtain ⟨t, ht, -⟩ := State.frames_cons hr
      show ({ U with heap := s₂.heap, slotsUsed := s₂.slotsUsed } : State) = { U.setFrames U.frames with heap := s₂.heap, slotsUsed := s₂.slotsUsed }
      rw [State.setFrames_self ht]
    subst hg
    refine Or.inr ⟨q, ⟨(({ U with heap := s₂.heap, slotsUsed := s₂.slotsUsed } : State).setVm s₂.vm), Ls ++ L, c0 + mc, s0 + ms⟩,
      ⟨X.admits, X.cas, X.clock, X.frames, X.room, X.hears, X.method, X.code, (X.here.setHeapUsed s₂.heap s₂.slotsUsed).setVm hW'.alike, X.tail, State.WarmedH.trans X.warmed hW', X.limits, X.bytes, X.same.trans (hsame.setVm s.vm)⟩,
      ⟨g, mk, s₂, L, E, ce, rfl, rfl, hx, hce, hcv, hcl, rfl, hL, rfl, rfl⟩, ?_⟩
    show Steps p.tables e below _ (((({ U with heap := s₂.heap, slotsUsed := s₂.slotsUsed } : State).setVm s₂.vm).setTop g).pushFrame (.throwing q))
    rw [← hs₂]
    exact hsteps
end Payer
section Calls
variable {p : Program} {l : Launch} {e : Env} {R : Room} {s : State} {m : MethodId} {args : Array Value} {below : List Frame} {meth : Method} {c : Code} {T : State} {locs : List Loc} {cells slots : Nat}
theorem vx_callV (X : Stand p l e R s m args below meth c T locs cells slots) (hexec : p.tables.exec = Jvm.exec) {own C : String} {index : Nat} {y : MethodName} {bytes : ByteArray} {maxL : Nat} {ret : Option FieldType}
    (hown : s.vm.findClass own = some m.cls) (hlink : (Cond.methodLink own index y).before args s = true) (hinst : (Cond.instanceMethod y).before args s = true) (hsel : (Cond.selects C y y).before args s = true)
    (hcode : (Cond.code y bytes maxL ret).before args s = true) (hy : y.cls ≠ "java/lang/invoke/MethodHandle" ∧ y.cls ≠ "java/lang/invoke/VarHandle")
    {W9 : Nat} {Pre : Pt → Array Value → Prop} {Post : Pt → Array Value → Option Value → Pt → Prop} {PostX : Pt → Array Value → Addr → Pt → Prop} (hK : vx_Back l R p e below s args y 3 W9 Pre Post PostX)
    {b : Addr} {cellB : Cell} (hcell : T.heap[b]? = some cellB) (hobj : cellB.vm.isStatics = false) (hcls : s.vm.findClass C = some cellB.cls)
    {g : JFrame} (hg : g.method = m) (hsize : g.locals.size = c.maxLocals) {argsL rest : List Value} (hlen : ∀ sig, parseMethodDescriptor y.desc = some sig → argsL.length = sig.parameters.length)
    (hstack : g.stack = argsL.reverse ++ .ref b :: rest) (hW : 2 * g.monitorRoom + (rest.map fun v => v.category).sum ≤ W9) (hdg : decode c.code g.pc = .ok (.invokevirtual index, 3))
    (hpre : ∀ vm₁, s.WarmedH vm₁ → Pre ⟨T.setVm vm₁, locs, cells, slots⟩ (Value.ref b :: argsL).toArray) :
    (∃ (v : Option Value) (vm₁ : Vm) (B : Pt), s.WarmedH vm₁ ∧ Stand p l e R s m args below meth c B.U B.locs B.cells B.slots ∧ Post ⟨T.setVm vm₁, locs, cells, slots⟩ (Value.ref b :: argsL).toArray v B ∧
      ∀ target, Steps p.tables e below (B.U.setTop { g with pc := g.pc + 3, stack := v.toList ++ rest }) target → Steps p.tables e below (T.setTop g) target) ∨
    (∃ (q : Addr) (vm₁ : Vm) (B : Pt), s.WarmedH vm₁ ∧ Stand p l e R s m args below meth c B.U B.locs B.cells B.slots ∧ PostX ⟨T.setVm vm₁, locs, cells, slots⟩ (Value.ref b :: argsL).toArray q B ∧
      Steps p.tables e below (T.setTop g) ((B.U.setTop { g with stack := rest }).pushFrame (.throwing q))) := by
  obtain ⟨mk, methM, hnamed, hmethM, hstM, habM⟩ := Cond.instanceMethod_spec hinst
  obtain ⟨methM', cM, hmethM', -, -, -, -, -, -, hsigM⟩ := Cond.code_spec hnamed hcode
  cases hmethM.symm.trans hmethM'
  obtain ⟨c2, r2, m2, q1, q2, q3, q4, kP, hkP, hkPi⟩ := Cond.selects_spec hsel
  cases hcls.symm.trans q1
  cases (State.methodFound?_of_named hnamed hy).symm.trans q2
  cases hnamed.symm.trans q3
  have hselP : selectMethod e.platform s.vm cellB.cls mk = .method mk := by rw [Launch.admits_selectMethod X.admits]; exact q4
  obtain ⟨vm₁, X₁, hstep₁⟩ := X.invokevirtual hexec hown hlink hnamed hmethM hstM hkP hkPi hy (a := b) (cell := cellB) hcell
    (fun z h => by rw [h] at hobj; cases hobj) hselP hmethM habM hkP hkPi (g := g) hg (argsL := argsL) (rest := rest) (hlen _ hsigM) hstack hdg
  rcases hK m meth c ⟨T.setVm vm₁, locs, cells, slots⟩ { g with stack := rest } (.invokevirtual index) mk (Value.ref b :: argsL).toArray X₁ hg hsize hdg hW (X₁.named hnamed) (hpre vm₁ X₁.warmed) with ⟨v, B, X', hpost, hsteps⟩ | ⟨q, B, X', hpost, hsteps⟩
  · exact Or.inl ⟨v, vm₁, B, X₁.warmed, X', hpost, fun target h => hstep₁ _ fun acts => by rw [doInvoke_state]; exact hsteps.trans h⟩
  · exact Or.inr ⟨q, vm₁, B, X₁.warmed, X', hpost, hstep₁ _ fun acts => by rw [doInvoke_state]; exact hsteps⟩
theorem vx_callS (X : Stand p l e R s m args below meth c T locs cells slots) (hexec : p.tables.exec = Jvm.exec) {own : String} {index : Nat} {y : MethodName} {bytes : ByteArray} {maxL : Nat} {ret : Option FieldType}
    (hown : s.vm.findClass own = some m.cls) (hlink : (Cond.methodLink own index y).before args s = true) (hstat : (Cond.static y).before args s = true) (hinit : (Cond.initialized y.cls).before args s = true)
    (hcode : (Cond.code y bytes maxL ret).before args s = true) (hy : y.cls ≠ "java/lang/invoke/MethodHandle" ∧ y.cls ≠ "java/lang/invoke/VarHandle")
    {W9 : Nat} {Pre : Pt → Array Value → Prop} {Post : Pt → Array Value → Option Value → Pt → Prop} {PostX : Pt → Array Value → Addr → Pt → Prop} (hK : vx_Back l R p e below s args y 3 W9 Pre Post PostX)
    {g : JFrame} (hg : g.method = m) (hsize : g.locals.size = c.maxLocals) {argsL rest : List Value} (hlen : ∀ sig, parseMethodDescriptor y.desc = some sig → argsL.length = sig.parameters.length)
    (hstack : g.stack = argsL.reverse ++ rest) (hW : 2 * g.monitorRoom + (rest.map fun v => v.category).sum ≤ W9) (hdg : decode c.code g.pc = .ok (.invokestatic index, 3))
    (hpre : ∀ vm₁, s.WarmedH vm₁ → Pre ⟨T.setVm vm₁, locs, cells, slots⟩ argsL.toArray) :
    (∃ (v : Option Value) (vm₁ : Vm) (B : Pt), s.WarmedH vm₁ ∧ Stand p l e R s m args below meth c B.U B.locs B.cells B.slots ∧ Post ⟨T.setVm vm₁, locs, cells, slots⟩ argsL.toArray v B ∧
      ∀ target, Steps p.tables e below (B.U.setTop { g with pc := g.pc + 3, stack := v.toList ++ rest }) target → Steps p.tables e below (T.setTop g) target) ∨
    (∃ (q : Addr) (vm₁ : Vm) (B : Pt), s.WarmedH vm₁ ∧ Stand p l e R s m args below meth c B.U B.locs B.cells B.slots ∧ PostX ⟨T.setVm vm₁, locs, cells, slots⟩ argsL.toArray q B ∧
      Steps p.tables e below (T.setTop g) ((B.U.setTop { g with stack := rest }).pushFrame (.throwing q))) := by
  obtain ⟨mk, hnamed⟩ := Cond.code_named hcode
  obtain ⟨methM, cM, hmethM, -, -, -, -, -, -, hsigM⟩ := Cond.code_spec hnamed hcode
  have hstatic : methM.isStatic = true := Cond.static_spec hnamed hmethM hstat
  obtain ⟨kP, hkP, -⟩ := className_of_methodNamed hnamed
  have hinitP : kP.init = .initialized := Cond.initialized_spec (findClass_of_methodNamed hnamed) hkP hinit
  obtain ⟨vm₁, X₁, hstep₁⟩ := X.invokestatic hexec hown hlink hnamed hmethM hstatic hkP hinitP hy (g := g) hg (argsL := argsL) (rest := rest) (hlen _ hsigM) hstack hdg
  rcases hK m meth c ⟨T.setVm vm₁, locs, cells, slots⟩ { g with stack := rest } (.invokestatic index) mk argsL.toArray X₁ hg hsize hdg hW (X₁.named hnamed) (hpre vm₁ X₁.warmed) with ⟨v, B, X', hpost, hsteps⟩ | ⟨q, B, X', hpost, hsteps⟩
  · exact Or.inl ⟨v, vm₁, B, X₁.warmed, X', hpost, fun target h => hstep₁ _ fun acts => by rw [doInvoke_state]; exact hsteps.trans h⟩
  · exact Or.inr ⟨q, vm₁, B, X₁.warmed, X', hpost, hstep₁ _ fun acts => by rw [doInvoke_state]; exact hsteps⟩
end Calls
theorem vx_cls {s : State} {T : State} {vm₁ : Vm} {E : String} {k : ClassId} (hW : s.WarmedH vm₁) (h : (T.setVm vm₁).vm.findClass E = some k) : s.vm.findClass E = some k := by
  have h1 : vm₁.findClass E = some k := h
  rw [hW.alike.findClass] at h1
  exact h1
/-- the method's frame g, with q thrown over it -/
def vx_W (p : Program) (l : Launch) (e : Env) (R : Room) (s : State) (m : MethodId) (args : Array Value) (below : List Frame) (meth : Method) (c : Code) (H : Heap) (locs : List Loc) (cells slots : Nat) (Q : State → Prop) (g : JFrame) (q : Addr) : Prop :=
  ∀ T : State, T.heap = H → Stand p l e R s m args below meth c T locs cells slots → ∃ t, Steps p.tables e below ((T.setTop g).pushFrame (.throwing q)) t ∧ Q t
def vx_Run (p : Program) (l : Launch) (e : Env) (R : Room) (s : State) (m : MethodId) (args : Array Value) (below : List Frame) (meth : Method) (c : Code) (H : Heap) (locs : List Loc) (cells slots mc ms : Nat) (g : JFrame) (rest : List Value) (Qa : State → Outcome → State → Prop) (XC : String → State → State → Prop) (free : Addr → Prop) : Prop :=
  ∀ T : State, T.heap = H → Stand p l e R s m args below meth c T locs cells slots →
    (∃ (v : Option Value) (st₀ t T' : State) (L : List Loc), st₀.heap = H ∧ Stand p l e R s m args below meth c T' (locs ++ L) (cells + mc) (slots + ms) ∧ (∀ q ∈ L, free q.base) ∧ T'.heap = t.heap ∧ T'.vm = t.vm ∧ Qa st₀ (.returned v) t ∧
      Goes p e below T g T' { g with pc := g.pc + 3, stack := v.toList ++ rest }) ∨
    (∃ (q : Addr) (st₀ t T' : State) (L : List Loc) (E : String) (ce : Cell), st₀.heap = H ∧ Stand p l e R s m args below meth c T' (locs ++ L) (cells + mc) (slots + ms) ∧ (∀ z ∈ L, free z.base) ∧ T'.heap = t.heap ∧ T'.vm = t.vm ∧ XC E st₀ t ∧ t.heap[q]? = some ce ∧ ce.vm = .none ∧ s.vm.findClass E = some ce.cls ∧
      Steps p.tables e below (T.setTop g) ((T'.setTop { g with stack := rest }).pushFrame (.throwing q)))
def vx_X {S : Type} (px : S → Prop) (B : String → S → State → Prop) (A : Nat → Prop) : String → State → State → Prop := fun E st t => ∃ u : S, px u ∧ B E u t ∧ va_F A st t
section Runs
variable {p : Program} {l : Launch} {e : Env} {R : Room} {s : State} {m : MethodId} {args : Array Value} {below : List Frame} {meth : Method} {c : Code} {H : Heap} {locs : List Loc} {cells slots : Nat}
variable {y : MethodName} {bytes cc : ByteArray} {maxL nL mc ms n index : Nat} {ret : Option FieldType} {ws : List Cond} {rm : Room} {Pc : Array Value → State → Prop} {Qc : Array Value → State → Outcome → State → Prop} {XC : String → State → State → Prop} {free : Addr → Prop} {Ts : List Cond} {own C : String} {b : Addr} {As rest : List Value} {g : JFrame}
theorem vx_callBack (cb : CallB R s args own index y bytes maxL ret ws rm mc ms n) (hM : vx_Met l y ws rm Pc Qc XC mc ms free) (hbl : FrameBlind Pc) : vx_Back l R p e below s args y 3 8 (PreOf R mc ms Pc) (PostOf Qc mc ms free) (vx_Post XC mc ms free) := by
  obtain ⟨hrc, hrs, hfr, hlo, hws, hcw, -, hini, -⟩ := cb
  exact vx_back (bytes := bytes) (maxL := maxL) (ret := ret) hM hbl hrc hrs hfr hlo hws hcw (fun a' U hW => word_at hW (Or.inl (by first | rfl | simp [Cond.onTables, Cond.keeps, Cond.steady])) hini)
theorem vx_runV (S : CallFix p m c cc nL s args Ts own) (hM : vx_Met l y ws rm Pc Qc XC mc ms free) (cw : CallW R s args own C index y bytes maxL ret ws rm mc ms n) (hp : PreV s H C b Pc As)
    (hg : g.method = m) (hn : As.length = n) (hsize : g.locals.size = nL) (hstack : g.stack = As.reverse ++ .ref b :: rest) (hW : 2 * g.monitorRoom + (rest.map fun v => v.category).sum ≤ 8) (hdg : decode cc g.pc = .ok (.invokevirtual index, 3)) (hf : cells + mc ≤ R.cells ∧ slots + ms ≤ R.slots) :
    vx_Run p l e R s m args below meth c H locs cells slots mc ms g rest (Qc (Value.ref b :: As).toArray) XC free := by
  have hK : vx_Back l R p e below s args y 3 8 (PreOf R mc ms Pc) (PostOf Qc mc ms free) (vx_Post XC mc ms free) := vx_callBack cw.1 hM hp.1
  obtain ⟨⟨-, -, -, -, -, -, hcode, -, hy, hlen, hl⟩, hin, hse⟩ := cw
  obtain ⟨hx, hb, hml, ho, -⟩ := S
  obtain ⟨-, ⟨cellB, hcB, hoB, hclB⟩, hPc⟩ := hp
  intro T hT X
  rcases vx_callV X hx (C := C) (bytes := bytes) (maxL := maxL) (ret := ret) ho hl hin hse hcode hy hK (by rw [hT]; exact hcB) hoB hclB hg (hsize.trans hml.symm) (argsL := As) (rest := rest) (fun sig h => hn.trans (hlen sig h)) hstack hW (by rw [hb]; exact hdg)
    (fun vm₁ hW₁ => ⟨hf.1, hf.2, hPc (T.setVm vm₁) hT hW₁⟩) with ⟨v, vm₁, ⟨U', l2, c2, s2⟩, hW₁, X', ⟨g', mk, t, L, e1, e2, hq, h1, hL, h2, h3⟩, st⟩ | ⟨q, vm₁, ⟨U', l2, c2, s2⟩, hW₁, X', ⟨g', mk, t, L, E, ce, e1, e2, hq, hce, hcv, hcl, h1, hL, h2, h3⟩, st⟩
  · dsimp only [Pt.U, Pt.locs, Pt.cells, Pt.slots] at X' e1 e2 h1 h2 h3 st
    subst h1; subst h2; subst h3
    exact Or.inl ⟨v, (T.setVm vm₁).calling g' mk (Value.ref b :: As).toArray, t, U', L, hT, X', hL, e1, e2, hq, st⟩
  · dsimp only [Pt.U, Pt.locs, Pt.cells, Pt.slots] at X' e1 e2 h1 h2 h3 st hcl
    subst h1; subst h2; subst h3
    exact Or.inr ⟨q, (T.setVm vm₁).calling g' mk (Value.ref b :: As).toArray, t, U', L, E, ce, hT, X', hL, e1, e2, hq, hce, hcv, vx_cls hW₁ hcl, st⟩
theorem vx_runS (S : CallFix p m c cc nL s args Ts own) (hM : vx_Met l y ws rm Pc Qc XC mc ms free) (cw : CallB R s args own index y bytes maxL ret ws rm mc ms n ∧ (Cond.static y).before args s = true) (hp : PreS s H Pc As)
    (hg : g.method = m) (hn : As.length = n) (hsize : g.locals.size = nL) (hstack : g.stack = As.reverse ++ rest) (hW : 2 * g.monitorRoom + (rest.map fun v => v.category).sum ≤ 8) (hdg : decode cc g.pc = .ok (.invokestatic index, 3)) (hf : cells + mc ≤ R.cells ∧ slots + ms ≤ R.slots) :
    vx_Run p l e R s m args below meth c H locs cells slots mc ms g rest (Qc As.toArray) XC free := by
  have hK : vx_Back l R p e below s args y 3 8 (PreOf R mc ms Pc) (PostOf Qc mc ms free) (vx_Post XC mc ms free) := vx_callBack cw.1 hM hp.1
  obtain ⟨⟨-, -, -, -, -, -, hcode, hini, hy, hlen, hl⟩, hstt⟩ := cw
  obtain ⟨hx, hb, hml, ho, -⟩ := S
  intro T hT X
  rcases vx_callS X hx (bytes := bytes) (maxL := maxL) (ret := ret) ho hl hstt hini hcode hy hK hg (hsize.trans hml.symm) (argsL := As) (rest := rest) (fun sig h => hn.trans (hlen sig h)) hstack hW (by rw [hb]; exact hdg)
    (fun vm₁ hW₁ => ⟨hf.1, hf.2, hp.2 (T.setVm vm₁) hT hW₁⟩) with ⟨v, vm₁, ⟨U', l2, c2, s2⟩, hW₁, X', ⟨g', mk, t, L, e1, e2, hq, h1, hL, h2, h3⟩, st⟩ | ⟨q, vm₁, ⟨U', l2, c2, s2⟩, hW₁, X', ⟨g', mk, t, L, E, ce, e1, e2, hq, hce, hcv, hcl, h1, hL, h2, h3⟩, st⟩
  · dsimp only [Pt.U, Pt.locs, Pt.cells, Pt.slots] at X' e1 e2 h1 h2 h3 st
    subst h1; subst h2; subst h3
    exact Or.inl ⟨v, (T.setVm vm₁).calling g' mk As.toArray, t, U', L, hT, X', hL, e1, e2, hq, st⟩
  · dsimp only [Pt.U, Pt.locs, Pt.cells, Pt.slots] at X' e1 e2 h1 h2 h3 st hcl
    subst h1; subst h2; subst h3
    exact Or.inr ⟨q, (T.setVm vm₁).calling g' mk As.toArray, t, U', L, E, ce, hT, X', hL, e1, e2, hq, hce, hcv, vx_cls hW₁ hcl, st⟩
end Runs
section Rows
variable {p : Program} {l : Launch} {e : Env} {R : Room} {s : State} {m : MethodId} {args : Array Value} {below : List Frame} {meth : Method} {c : Code} {H : Heap} {locs : List Loc} {cells slots : Nat} {Q : State → Prop}
variable {mc ms : Nat} {free : Addr → Prop} {A0 A1 : Nat → Prop} {H0 : Heap} {a : Array Value} {pc : Nat} {ls : Array Slot} {st0 rest : List Value}
theorem vx_keep {st₀ t T' : State} {L : List Loc} (h0 : st₀.heap = H) (e1 : T'.heap = t.heap) (hS : va_S A0 H0 H locs) (hA : ∀ q, q < H.size → A1 q → A0 q) (hf : ∀ q, free q → A0 q) (hL : ∀ q ∈ L, free q.base) (hF : va_F A1 st₀ t) :
    H.size ≤ T'.heap.size ∧ (∀ q : Nat, q < H.size → ¬ A1 q → T'.heap[q]? = H[q]?) ∧ va_S A0 H0 T'.heap (locs ++ L) := by
  obtain ⟨hz, hk⟩ := hF
  rw [h0] at hz hk
  exact ⟨by rw [e1]; exact hz, fun q h1 h2 => by rw [e1]; exact hk q h1 h2,
    ⟨Nat.le_trans hS.1 (by rw [e1]; exact hz), fun q h1 h2 => by rw [e1, hk q (Nat.lt_of_lt_of_le h1 hS.1) (fun z => h2 (hA q (Nat.lt_of_lt_of_le h1 hS.1) z))]; exact hS.2.1 q h1 h2, fun q hq => by
      rcases List.mem_append.mp hq with h | h
      · exact hS.2.2 q h
      · exact hf _ (hL q h)⟩⟩
theorem vx_calli {S SX : Type} {post : Int32 → S → Prop} {px : SX → Prop} {B : S → State → Prop} {BX : String → SX → State → Prop} {AX : Nat → Prop} (hr : vx_Run p l e R s m args below meth c H locs cells slots mc ms (F0 m pc ls st0) rest (va_Qi post B A1 a) (vx_X px BX AX) free) (hS : va_S A0 H0 H locs) (hA : ∀ q, q < H.size → A1 q → A0 q) (hf : ∀ q, free q → A0 q) (hAX : ∀ q, q < H.size → AX q → A0 q)
    (kx : ∀ (E : String) (ce : Cell) (q9 : Addr) (u : SX) (t : State) (H1 : Heap) (locs1 : List Loc), t.heap = H1 → s.vm.Alike t.vm → px u → BX E u t → H.size ≤ H1.size → (∀ q : Nat, q < H.size → ¬ AX q → H1[q]? = H[q]?) → va_S A0 H0 H1 locs1 → H1[q9]? = some ce → ce.vm = .none → s.vm.findClass E = some ce.cls → vx_W p l e R s m args below meth c H1 locs1 (cells + mc) (slots + ms) Q (F0 m pc ls rest) q9)
    (kk : ∀ (r : Int32) (u : S) (t : State) (H1 : Heap) (locs1 : List Loc), t.heap = H1 → s.vm.Alike t.vm → post r u → B u t → H.size ≤ H1.size → (∀ q : Nat, q < H.size → ¬ A1 q → H1[q]? = H[q]?) → va_S A0 H0 H1 locs1 → W p l e R s m args below meth c H1 locs1 (cells + mc) (slots + ms) Q (F0 m (pc + 3) ls (.int r :: rest))) : W p l e R s m args below meth c H locs cells slots Q (F0 m pc ls st0) := by
  intro T hT X
  rcases hr T hT X with ⟨v, st₀, t, T', L, h0, X', hL, e1, e2, ⟨⟨r, u, hv, hp, hb⟩, hF⟩, st⟩ | ⟨q, st₀, t, T', L, E, ce, h0, X', hL, e1, e2, ⟨u, hp, hb, hF⟩, hce, hcv, hcl, st⟩
  · cases hv
    obtain ⟨k1, k2, k3⟩ := vx_keep h0 e1 hS hA hf hL hF
    obtain ⟨t2, a1, b1⟩ := kk r u t T'.heap (locs ++ L) e1.symm (by rw [← e2]; exact X'.warmed.alike) hp hb k1 k2 k3 T' rfl X'
    exact ⟨t2, st t2 a1, b1⟩
  · obtain ⟨k1, k2, k3⟩ := vx_keep h0 e1 hS hAX hf hL hF
    obtain ⟨t2, a1, b1⟩ := kx E ce q u t T'.heap (locs ++ L) e1.symm (by rw [← e2]; exact X'.warmed.alike) hp hb k1 k2 k3 (by rw [e1]; exact hce) hcv hcl T' rfl X'
    exact ⟨t2, st.trans a1, b1⟩
theorem vx_calll {S SX : Type} {post : Int64 → S → Prop} {px : SX → Prop} {B : S → State → Prop} {BX : String → SX → State → Prop} {AX : Nat → Prop} (hr : vx_Run p l e R s m args below meth c H locs cells slots mc ms (F0 m pc ls st0) rest (va_Ql post B A1 a) (vx_X px BX AX) free) (hS : va_S A0 H0 H locs) (hA : ∀ q, q < H.size → A1 q → A0 q) (hf : ∀ q, free q → A0 q) (hAX : ∀ q, q < H.size → AX q → A0 q)
    (kx : ∀ (E : String) (ce : Cell) (q9 : Addr) (u : SX) (t : State) (H1 : Heap) (locs1 : List Loc), t.heap = H1 → s.vm.Alike t.vm → px u → BX E u t → H.size ≤ H1.size → (∀ q : Nat, q < H.size → ¬ AX q → H1[q]? = H[q]?) → va_S A0 H0 H1 locs1 → H1[q9]? = some ce → ce.vm = .none → s.vm.findClass E = some ce.cls → vx_W p l e R s m args below meth c H1 locs1 (cells + mc) (slots + ms) Q (F0 m pc ls rest) q9)
    (kk : ∀ (r : Int64) (u : S) (t : State) (H1 : Heap) (locs1 : List Loc), t.heap = H1 → s.vm.Alike t.vm → post r u → B u t → H.size ≤ H1.size → (∀ q : Nat, q < H.size → ¬ A1 q → H1[q]? = H[q]?) → va_S A0 H0 H1 locs1 → W p l e R s m args below meth c H1 locs1 (cells + mc) (slots + ms) Q (F0 m (pc + 3) ls (.long r :: rest))) : W p l e R s m args below meth c H locs cells slots Q (F0 m pc ls st0) := by
  intro T hT X
  rcases hr T hT X with ⟨v, st₀, t, T', L, h0, X', hL, e1, e2, ⟨⟨r, u, hv, hp, hb⟩, hF⟩, st⟩ | ⟨q, st₀, t, T', L, E, ce, h0, X', hL, e1, e2, ⟨u, hp, hb, hF⟩, hce, hcv, hcl, st⟩
  · cases hv
    obtain ⟨k1, k2, k3⟩ := vx_keep h0 e1 hS hA hf hL hF
    obtain ⟨t2, a1, b1⟩ := kk r u t T'.heap (locs ++ L) e1.symm (by rw [← e2]; exact X'.warmed.alike) hp hb k1 k2 k3 T' rfl X'
    exact ⟨t2, st t2 a1, b1⟩
  · obtain ⟨k1, k2, k3⟩ := vx_keep h0 e1 hS hAX hf hL hF
    obtain ⟨t2, a1, b1⟩ := kx E ce q u t T'.heap (locs ++ L) e1.symm (by rw [← e2]; exact X'.warmed.alike) hp hb k1 k2 k3 (by rw [e1]; exact hce) hcv hcl T' rfl X'
    exact ⟨t2, st.trans a1, b1⟩
theorem vx_callf {S SX : Type} {post : UInt32 → S → Prop} {px : SX → Prop} {B : S → State → Prop} {BX : String → SX → State → Prop} {AX : Nat → Prop} (hr : vx_Run p l e R s m args below meth c H locs cells slots mc ms (F0 m pc ls st0) rest (va_Qf post B A1 a) (vx_X px BX AX) free) (hS : va_S A0 H0 H locs) (hA : ∀ q, q < H.size → A1 q → A0 q) (hf : ∀ q, free q → A0 q) (hAX : ∀ q, q < H.size → AX q → A0 q)
    (kx : ∀ (E : String) (ce : Cell) (q9 : Addr) (u : SX) (t : State) (H1 : Heap) (locs1 : List Loc), t.heap = H1 → s.vm.Alike t.vm → px u → BX E u t → H.size ≤ H1.size → (∀ q : Nat, q < H.size → ¬ AX q → H1[q]? = H[q]?) → va_S A0 H0 H1 locs1 → H1[q9]? = some ce → ce.vm = .none → s.vm.findClass E = some ce.cls → vx_W p l e R s m args below meth c H1 locs1 (cells + mc) (slots + ms) Q (F0 m pc ls rest) q9)
    (kk : ∀ (r : UInt32) (u : S) (t : State) (H1 : Heap) (locs1 : List Loc), t.heap = H1 → s.vm.Alike t.vm → post r u → B u t → H.size ≤ H1.size → (∀ q : Nat, q < H.size → ¬ A1 q → H1[q]? = H[q]?) → va_S A0 H0 H1 locs1 → W p l e R s m args below meth c H1 locs1 (cells + mc) (slots + ms) Q (F0 m (pc + 3) ls (.float r :: rest))) : W p l e R s m args below meth c H locs cells slots Q (F0 m pc ls st0) := by
  intro T hT X
  rcases hr T hT X with ⟨v, st₀, t, T', L, h0, X', hL, e1, e2, ⟨⟨r, u, hv, hp, hb⟩, hF⟩, st⟩ | ⟨q, st₀, t, T', L, E, ce, h0, X', hL, e1, e2, ⟨u, hp, hb, hF⟩, hce, hcv, hcl, st⟩
  · cases hv
    obtain ⟨k1, k2, k3⟩ := vx_keep h0 e1 hS hA hf hL hF
    obtain ⟨t2, a1, b1⟩ := kk r u t T'.heap (locs ++ L) e1.symm (by rw [← e2]; exact X'.warmed.alike) hp hb k1 k2 k3 T' rfl X'
    exact ⟨t2, st t2 a1, b1⟩
  · obtain ⟨k1, k2, k3⟩ := vx_keep h0 e1 hS hAX hf hL hF
    obtain ⟨t2, a1, b1⟩ := kx E ce q u t T'.heap (locs ++ L) e1.symm (by rw [← e2]; exact X'.warmed.alike) hp hb k1 k2 k3 (by rw [e1]; exact hce) hcv hcl T' rfl X'
    exact ⟨t2, st.trans a1, b1⟩
theorem vx_calld {S SX : Type} {post : UInt64 → S → Prop} {px : SX → Prop} {B : S → State → Prop} {BX : String → SX → State → Prop} {AX : Nat → Prop} (hr : vx_Run p l e R s m args below meth c H locs cells slots mc ms (F0 m pc ls st0) rest (va_Qd post B A1 a) (vx_X px BX AX) free) (hS : va_S A0 H0 H locs) (hA : ∀ q, q < H.size → A1 q → A0 q) (hf : ∀ q, free q → A0 q) (hAX : ∀ q, q < H.size → AX q → A0 q)
    (kx : ∀ (E : String) (ce : Cell) (q9 : Addr) (u : SX) (t : State) (H1 : Heap) (locs1 : List Loc), t.heap = H1 → s.vm.Alike t.vm → px u → BX E u t → H.size ≤ H1.size → (∀ q : Nat, q < H.size → ¬ AX q → H1[q]? = H[q]?) → va_S A0 H0 H1 locs1 → H1[q9]? = some ce → ce.vm = .none → s.vm.findClass E = some ce.cls → vx_W p l e R s m args below meth c H1 locs1 (cells + mc) (slots + ms) Q (F0 m pc ls rest) q9)
    (kk : ∀ (r : UInt64) (u : S) (t : State) (H1 : Heap) (locs1 : List Loc), t.heap = H1 → s.vm.Alike t.vm → post r u → B u t → H.size ≤ H1.size → (∀ q : Nat, q < H.size → ¬ A1 q → H1[q]? = H[q]?) → va_S A0 H0 H1 locs1 → W p l e R s m args below meth c H1 locs1 (cells + mc) (slots + ms) Q (F0 m (pc + 3) ls (.double r :: rest))) : W p l e R s m args below meth c H locs cells slots Q (F0 m pc ls st0) := by
  intro T hT X
  rcases hr T hT X with ⟨v, st₀, t, T', L, h0, X', hL, e1, e2, ⟨⟨r, u, hv, hp, hb⟩, hF⟩, st⟩ | ⟨q, st₀, t, T', L, E, ce, h0, X', hL, e1, e2, ⟨u, hp, hb, hF⟩, hce, hcv, hcl, st⟩
  · cases hv
    obtain ⟨k1, k2, k3⟩ := vx_keep h0 e1 hS hA hf hL hF
    obtain ⟨t2, a1, b1⟩ := kk r u t T'.heap (locs ++ L) e1.symm (by rw [← e2]; exact X'.warmed.alike) hp hb k1 k2 k3 T' rfl X'
    exact ⟨t2, st t2 a1, b1⟩
  · obtain ⟨k1, k2, k3⟩ := vx_keep h0 e1 hS hAX hf hL hF
    obtain ⟨t2, a1, b1⟩ := kx E ce q u t T'.heap (locs ++ L) e1.symm (by rw [← e2]; exact X'.warmed.alike) hp hb k1 k2 k3 (by rw [e1]; exact hce) hcv hcl T' rfl X'
    exact ⟨t2, st.trans a1, b1⟩
theorem vx_callv {S SX : Type} {post : S → Prop} {px : SX → Prop} {B : S → State → Prop} {BX : String → SX → State → Prop} {AX : Nat → Prop} (hr : vx_Run p l e R s m args below meth c H locs cells slots mc ms (F0 m pc ls st0) rest (va_Qv post B A1 a) (vx_X px BX AX) free) (hS : va_S A0 H0 H locs) (hA : ∀ q, q < H.size → A1 q → A0 q) (hf : ∀ q, free q → A0 q) (hAX : ∀ q, q < H.size → AX q → A0 q)
    (kx : ∀ (E : String) (ce : Cell) (q9 : Addr) (u : SX) (t : State) (H1 : Heap) (locs1 : List Loc), t.heap = H1 → s.vm.Alike t.vm → px u → BX E u t → H.size ≤ H1.size → (∀ q : Nat, q < H.size → ¬ AX q → H1[q]? = H[q]?) → va_S A0 H0 H1 locs1 → H1[q9]? = some ce → ce.vm = .none → s.vm.findClass E = some ce.cls → vx_W p l e R s m args below meth c H1 locs1 (cells + mc) (slots + ms) Q (F0 m pc ls rest) q9)
    (kk : ∀ (u : S) (t : State) (H1 : Heap) (locs1 : List Loc), t.heap = H1 → s.vm.Alike t.vm → post u → B u t → H.size ≤ H1.size → (∀ q : Nat, q < H.size → ¬ A1 q → H1[q]? = H[q]?) → va_S A0 H0 H1 locs1 → W p l e R s m args below meth c H1 locs1 (cells + mc) (slots + ms) Q (F0 m (pc + 3) ls (rest))) : W p l e R s m args below meth c H locs cells slots Q (F0 m pc ls st0) := by
  intro T hT X
  rcases hr T hT X with ⟨v, st₀, t, T', L, h0, X', hL, e1, e2, ⟨⟨u, hv, hp, hb⟩, hF⟩, st⟩ | ⟨q, st₀, t, T', L, E, ce, h0, X', hL, e1, e2, ⟨u, hp, hb, hF⟩, hce, hcv, hcl, st⟩
  · cases hv
    obtain ⟨k1, k2, k3⟩ := vx_keep h0 e1 hS hA hf hL hF
    obtain ⟨t2, a1, b1⟩ := kk u t T'.heap (locs ++ L) e1.symm (by rw [← e2]; exact X'.warmed.alike) hp hb k1 k2 k3 T' rfl X'
    exact ⟨t2, st t2 a1, b1⟩
  · obtain ⟨k1, k2, k3⟩ := vx_keep h0 e1 hS hAX hf hL hF
    obtain ⟨t2, a1, b1⟩ := kx E ce q u t T'.heap (locs ++ L) e1.symm (by rw [← e2]; exact X'.warmed.alike) hp hb k1 k2 k3 (by rw [e1]; exact hce) hcv hcl T' rfl X'
    exact ⟨t2, st.trans a1, b1⟩
/-- caught by the row x of this method's table; the rows ahead don't take it -/
theorem vx_catch {own name : String} {E : String} {ce : Cell} {q : Addr} (hown : s.vm.findClass own = some m.cls) (pre : List ExceptionTableEntry) (x : ExceptionTableEntry) (suf : List ExceptionTableEntry) (hsplit : c.exceptionTable.toList = pre ++ x :: suf)
    (hpass : ∀ z ∈ pre, covers z pc = false ∨ (z.catchType ≠ 0 ∧ ∃ nm : String, (Cond.classLink own z.catchType nm).before args s = true ∧ va_Nc E nm s)) (hx : covers x pc = true) (h0 : x.catchType ≠ 0)
    (hlink : (Cond.classLink own x.catchType name).before args s = true) (hcast : (Cond.castable E name).before args s = true) (hcell : H[q]? = some ce) (hv : ce.vm = .none) (hcl : s.vm.findClass E = some ce.cls)
    (kk : W p l e R s m args below meth c H locs cells slots Q (F0 m x.handlerPc ls [.ref q])) : vx_W p l e R s m args below meth c H locs cells slots Q (F0 m pc ls rest) q := by
  intro T hT X
  have hpl : e.platform.magicAccessors = ({} : Platform).magicAccessors := by rw [X.admits.platform]
  obtain ⟨c3, c4, hc3, hc4, hasg⟩ := Cond.castable_spec hcast
  cases Option.some.inj (hc3.symm.trans hcl)
  obtain ⟨c5, hc5, hcl5⟩ := Cond.classLink_spec hown hlink e.platform hpl
  cases Option.some.inj (hc4.symm.trans hc5)
  obtain ⟨vm', X', st⟩ := X.thenCaughtThrough q (g := F0 m pc ls rest) rfl (Steps.refl _) (by rw [hT]; exact hcell) (by rw [hv]; rfl) (by obtain ⟨k9, h9, -⟩ := Vm.findClass_spec hcl; exact ⟨k9, h9⟩) pre x suf hsplit
    (fun z hz => by
      rcases hpass z hz with h | ⟨hz0, nm, hl1, hn1⟩
      · exact Or.inl h
      · obtain ⟨c6, hc6, hcl6⟩ := Cond.classLink_spec hown hl1 e.platform hpl
        obtain ⟨a8, b8, h1, h2, h3⟩ := hn1
        cases Option.some.inj (h1.symm.trans hcl)
        cases Option.some.inj (h2.symm.trans hc6)
        exact Or.inr ⟨hz0, _, hcl6, h3⟩) hx (Or.inr ⟨h0, c4, hcl5, hasg⟩)
  obtain ⟨t, a1, b1⟩ := kk (T.setVm vm') hT X'
  exact ⟨t, st.trans a1, b1⟩
end Rows
section Ends
variable {p : Program} {l : Launch} {e : Env} {R : Room} {s : State} {m : MethodId} {args : Array Value} {below : List Frame} {meth : Method} {c : Code} {H : Heap} {locs : List Loc} {cells slots : Nat} {Q : State → Prop}
variable {mc ms : Nat} {free : Addr → Prop} {A0 A1 : Nat → Prop} {H0 : Heap} {a : Array Value} {ls : Array Slot} {st0 rest : List Value}
variable {Qc : Array Value → State → Outcome → State → Prop} {XC : String → State → State → Prop}
/-- what a body that may throw owes at its end -/
def vx_MQ (below : List Frame) (Qc : Array Value → State → Outcome → State → Prop) (XC : String → State → State → Prop) (a : Array Value) (s : State) (mc ms : Nat) (free : Addr → Prop) : State → Prop := fun t =>
  ∃ o, t.status = .running ∧ Ended t below o ∧ vx_Q Qc XC mc ms free a s o t
theorem vx_ret {g : JFrame} {mc ms : Nat} (k : W p l e R s m args below meth c H locs cells slots (MQ below Qc args s mc ms free) g) : W p l e R s m args below meth c H locs cells slots (vx_MQ below Qc XC args s mc ms free) g := by
  intro T hT X
  obtain ⟨t, a1, o, b1, b2, b3, b4⟩ := k T hT X
  exact ⟨t, a1, o, b1, b2, Or.inl ⟨b3, b4⟩⟩
/-- not caught here: it goes on to the caller -/
theorem vx_widen {g : JFrame} {q : Addr} {k n : Nat} (h1 : cells ≤ k) (h2 : slots ≤ n) (kk : vx_W p l e R s m args below meth c H locs k n Q g q) : vx_W p l e R s m args below meth c H locs cells slots Q g q := fun T hT X => kk T hT (stand_widen X h1 h2)
theorem vx_out {pc : Nat} {E : String} {ce : Cell} {q : Addr} {mc ms : Nat} (hout : ∀ x ∈ c.exceptionTable.toList, covers x pc = false) (hlocks : meth.locks = false) (hcell : H[q]? = some ce) (hv : ce.vm = .none) (hcl : s.vm.findClass E = some ce.cls)
    (hx : ∀ t : State, t.heap = H → s.vm.Alike t.vm → XC E s t) (hf : ∀ z ∈ locs, free z.base) (hc : cells ≤ mc) (hs : slots ≤ ms) :
    vx_W p l e R s m args below meth c H locs cells slots (vx_MQ below Qc XC args s mc ms free) (F0 m pc ls rest) q := by
  intro T hT X
  obtain ⟨st1, hrun, hend, hW, hsm⟩ := X.leaveThrown q (g := F0 m pc ls rest) rfl rfl rfl hout hlocks
  have hcell9 : (T.setFrames (.throwing q :: below)).heap[q]? = some ce := by
    show T.heap[q]? = some ce
    rw [hT]; exact hcell
  exact ⟨_, st1, .threw q, hrun, hend, Or.inr ⟨q, rfl, E, ce, locs, hx _ hT hW.alike, hcell9, hv, hcl, hW, hsm.mono hc hs, hf⟩⟩
theorem vx_frame {U : State} {k n : Nat} (h : s.sameButNew ({ U with vm := s.vm } : State) locs k n) : s.heap.size ≤ U.heap.size ∧ ∀ q : Nat, q < s.heap.size → (∀ z ∈ locs, z.base ≠ q) → U.heap[q]? = s.heap[q]? := by
  obtain ⟨-, h2, -, -, -, h6⟩ := h
  refine ⟨h2, fun q hq hz => ?_⟩
  obtain ⟨c9, e1, e2, e3, e4⟩ := h6 q _ (Array.getElem?_eq_getElem hq)
  have hs : c9.slots = (s.heap[q]).slots := Array.ext_getElem? fun i => e4 i fun hm => hz _ hm rfl
  have h9 : c9 = s.heap[q] := by
    rw [hs] at e2
    exact e2
  have e5 : U.heap[q]? = some c9 := e1
  rw [e5, h9, Array.getElem?_eq_getElem hq]
/-- the words of a throw but the four that speak of the heap -/
def vx_no (w : Cond) : Bool := decide (w ≠ .isRef (.static Bundle.tN "UNASSIGNED_STACK" Bundle.steD)) && decide (w ≠ .isRef (.static Bundle.tN "SUPPRESSED_SENTINEL" Bundle.listD)) && decide (w ≠ .laysStatic Bundle.tN "UNASSIGNED_STACK" Bundle.steD) && decide (w ≠ .laysStatic Bundle.tN "SUPPRESSED_SENTINEL" Bundle.listD)
def vx_at0 (own : String) (ic : Nat) (X : String) (names : List String) : List Cond := (Bundle.ownAtoms0 own ic X names).filter vx_no
def vx_atS (own : String) (ic : Nat) (X : String) (names : List String) : List Cond := (Bundle.ownAtoms own ic X names).filter vx_no
/-- a word that the tables alone decide, or a good one -/
def vx_ot (w : Cond) : Bool := w.onTables || goodWord w
theorem vx_ot_at {args a' : Array Value} {s U : State} {w : Cond} (hW : s.WarmedH U.vm) (hvm : s.vm = U.vm) (hg : vx_ot w = true) (h : w.before args s = true) : w.before a' U = true := by
  simp only [vx_ot, Bool.or_eq_true] at hg
  rcases hg with hg | hg
  · exact va_tabs hg hvm h
  · exact word_at hW (good_of_word hg) h
/-- a list's words: the good ones out of the method's own list, the others by premises of their own -/
theorem vx_hat {args : Array Value} {s : State} {L B : List Cond} (h1 : ∀ w ∈ L.filter goodWord, w.before args s = true) (h2 : ∀ w ∈ L.filter (fun w => !goodWord w), w ∈ B) (h3 : ∀ w ∈ B, w.before args s = true) : ∀ w ∈ L, w.before args s = true := by
  intro w hw
  by_cases g : goodWord w = true
  · exact h1 w (List.mem_filter.mpr ⟨hw, g⟩)
  · refine h3 w (h2 w (List.mem_filter.mpr ⟨hw, ?_⟩))
    show (!goodWord w) = true
    cases hgw : goodWord w
    · rfl
    · exact absurd hgw g
theorem vx_c {args : Array Value} {s : State} {w : Cond} {B : List Cond} (h : w.before args s = true) (t : ∀ w ∈ B, w.before args s = true) : ∀ w' ∈ w :: B, w'.before args s = true := fun w' h' => (List.mem_cons.mp h').elim (fun e => by rw [e]; exact h) (t w')
theorem vx_n {args : Array Value} {s : State} : ∀ w ∈ ([] : List Cond), w.before args s = true := fun _ h => nomatch h
theorem vx_own {args : Array Value} {s : State} {L : List Cond} (h1 : ∀ w ∈ L.filter vx_no, w.before args s = true)
    (hU : (Cond.isRef (.static Bundle.tN "UNASSIGNED_STACK" Bundle.steD)).before args s = true) (hN : (Cond.isRef (.static Bundle.tN "SUPPRESSED_SENTINEL" Bundle.listD)).before args s = true)
    (lU : (Cond.laysStatic Bundle.tN "UNASSIGNED_STACK" Bundle.steD).before args s = true) (lN : (Cond.laysStatic Bundle.tN "SUPPRESSED_SENTINEL" Bundle.listD).before args s = true) : ∀ w ∈ L, w.before args s = true := by
  intro w hw
  by_cases e1 : w = .isRef (.static Bundle.tN "UNASSIGNED_STACK" Bundle.steD)
  · rw [e1]; exact hU
  · by_cases e2 : w = .isRef (.static Bundle.tN "SUPPRESSED_SENTINEL" Bundle.listD)
    · rw [e2]; exact hN
    · by_cases e3 : w = .laysStatic Bundle.tN "UNASSIGNED_STACK" Bundle.steD
      · rw [e3]; exact lU
      · by_cases e4 : w = .laysStatic Bundle.tN "SUPPRESSED_SENTINEL" Bundle.listD
        · rw [e4]; exact lN
        · exact h1 w (List.mem_filter.mpr ⟨hw, by unfold vx_no; rw [decide_eq_true e1, decide_eq_true e2, decide_eq_true e3, decide_eq_true e4]; rfl⟩)
/-- where a static field lies, its class's statics cell in H -/
def vx_L (C n d : String) (A : Nat → Prop) (U : State) (H : Heap) : Prop := ∃ (c : ClassId) (k : Class) (i : Nat) (f : Field) (a : Nat) (cell : Cell), U.vm.findClass C = some c ∧ U.fieldFound? C n d = some (c, k, i, f) ∧ f.isStatic = true ∧ k.statics = some a ∧ H[a]? = some cell ∧ cell.vm.isStatics = true ∧ cell.cls = c ∧ f.slot < cell.slots.size ∧ k.staticTypes[f.slot]? = some f.type ∧ ¬ A a
theorem vx_L.moved {C n d : String} {A : Nat → Prop} {u U : State} {H : Heap} (hvm : u.vm.Alike U.vm) (h : vx_L C n d A u H) : vx_L C n d A U H := by
  obtain ⟨c, k, i, f, a, cell, h1, h2, h3, h4, h5, h6, h7, h8, h9, h10⟩ := h
  obtain ⟨k', hi', he⟩ := State.fieldFound?_setVm hvm h2
  exact ⟨c, k', i, f, a, cell, by rw [hvm.findClass]; exact h1, hi', h3, by rw [he]; exact h4, h5, h6, h7, h8, by rw [he]; exact h9, h10⟩
theorem vx_L.kept {C n d : String} {A : Nat → Prop} {U : State} {H H1 : Heap} (h : vx_L C n d A U H) (hq : ∀ a : Nat, a < H.size → ¬ A a → H1[a]? = H[a]?) : vx_L C n d A U H1 := by
  obtain ⟨c, k, i, f, a, cell, h1, h2, h3, h4, h5, h6, h7, h8, h9, h10⟩ := h
  exact ⟨c, k, i, f, a, cell, h1, h2, h3, h4, by rw [hq a (Array.getElem?_eq_some_iff.mp h5).1 h10]; exact h5, h6, h7, h8, h9, h10⟩
theorem vx_L.narrow {C n d : String} {A B : Nat → Prop} {U : State} {H : Heap} (h : vx_L C n d A U H) (hAB : ∀ q, B q → A q) : vx_L C n d B U H := by
  obtain ⟨c, k, i, f, a, cell, h1, h2, h3, h4, h5, h6, h7, h8, h9, h10⟩ := h
  exact ⟨c, k, i, f, a, cell, h1, h2, h3, h4, h5, h6, h7, h8, h9, fun z => h10 (hAB _ z)⟩
theorem vx_L.word {C n d : String} {A : Nat → Prop} {s : State} {args : Array Value} (h : vx_L C n d A s s.heap) : (Cond.laysStatic C n d).before args s = true := by
  obtain ⟨c, k, i, f, a, cell, h1, h2, h3, h4, h5, h6, h7, h8, h9, -⟩ := h
  show (Cond.laysStatic C n d).holds args s none s [] = true
  exact Cond.laysStatic_of h1 h2 h3 h4 h5 h6 h7 h8 h9
/-- .. and what it holds: null or some reference -/
def vx_Zq (C n d : String) (A : Nat → Prop) (U : State) (H : Heap) : Prop := va_Zq C n d A U H ∧ vx_L C n d A U H
theorem vx_Zq.moved {C n d : String} {A : Nat → Prop} {u U : State} {H : Heap} (hvm : u.vm.Alike U.vm) (h : vx_Zq C n d A u H) : vx_Zq C n d A U H := ⟨va_Zq.moved hvm h.1, vx_L.moved hvm h.2⟩
theorem vx_Zq.kept {C n d : String} {A : Nat → Prop} {U : State} {H H1 : Heap} (h : vx_Zq C n d A U H) (hq : ∀ a : Nat, a < H.size → ¬ A a → H1[a]? = H[a]?) : vx_Zq C n d A U H1 := ⟨va_Zq.kept h.1 hq, vx_L.kept h.2 hq⟩
theorem vx_Zq.narrow {C n d : String} {A B : Nat → Prop} {U : State} {H : Heap} (h : vx_Zq C n d A U H) (hAB : ∀ q, B q → A q) : vx_Zq C n d B U H := ⟨va_Zq.narrow h.1 hAB, vx_L.narrow h.2 hAB⟩
theorem vx_Zqof {args : Array Value} {s : State} {C n d : String} {A : Nat → Prop} (hl : (Cond.laysStatic C n d).before args s = true) (hini : (Cond.initialized C).before args s = true) (h : (Cond.isRef (.static C n d)).before args s = true) (hA : ∀ a : Nat, a < s.heap.size → ¬ A a) : vx_Zq C n d A s s.heap := by
  refine ⟨va_Zqof hl hini h hA, ?_⟩
  obtain ⟨c, k, i, f, a, cell, h1, h2, h3, h4, h5, h6, h7, h8, h9⟩ := Cond.laysStatic_spec hl
  exact ⟨c, k, i, f, a, cell, h1, h2, h3, h4, h5, h6, h7, h8, h9, hA a (Array.getElem?_eq_some_iff.mp h5).1⟩
theorem vx_isRef {C n d : String} {v : Value} {A : Nat → Prop} {s : State} {args : Array Value} (h : va_Z C n d v A s s.heap) (hv : v.isRef = true) : (Cond.isRef (.static C n d)).before args s = true := by
  obtain ⟨cf, kf, fi, f, a, cell, h1, h2, h3, h4, h5, h6, h7, -⟩ := h
  have he : (Term.static C n d).eval args s none [] s = some v := by
    simp [Term.eval, State.fieldNamed?, h1, h2, h4, h5, h6, h7]
  simp only [Cond.before, Cond.holds, Cond.value, he]
  cases v <;> simp_all [Value.isRef]
theorem vx_isRefq {C n d : String} {A : Nat → Prop} {s : State} {args : Array Value} (h : va_Zq C n d A s s.heap) : (Cond.isRef (.static C n d)).before args s = true := by
  rcases h with h | ⟨t, h⟩
  · exact vx_isRef h rfl
  · exact vx_isRef h rfl
/-- the same frame, seen from here: as if the method were called anew in this heap -/
theorem vx_rebase {T : State} (X : Stand p l e R s m args below meth c T locs cells slots) {R' : Room} (hf : R'.frames ≤ R.frames) (hl : R'.locals ≤ R.locals) (hc : cells + R'.cells ≤ R.cells) (hs : slots + R'.slots ≤ R.slots) :
    Stand p l e R' ((T.setVm s.vm).setFrames (.invoking m args :: below)) m args below meth c T [] 0 0 := by
  have htop : (T.setVm s.vm).topJava?.isSome := X.here.top
  have hF : ((T.setVm s.vm).setFrames (.invoking m args :: below)).frames = .invoking m args :: below := State.frames_setFrames _ (State.cur_lt_of_top htop)
  obtain ⟨g₀, hg0⟩ := Option.isSome_iff_exists.mp htop
  obtain ⟨r, hr⟩ := State.topJava?_eq_some.mp hg0
  have hl9 : e.platform.stackLimits (T.setVm s.vm).me = e.platform.stackLimits s.me := X.limits
  have hb9 : (T.setVm s.vm).me.stackBytes = s.me.stackBytes := X.bytes
  refine ⟨X.admits, X.cas, X.clock, hF, ?_, X.hears, X.method, X.code, X.here, X.tail, X.warmed, ?_, ?_, ?_⟩
  · have h := X.room
    have hU : ((T.setVm s.vm).setFrames (.invoking m args :: below)).localsInUse = s.localsInUse := by
      rw [State.localsInUse_invoking hF (meth := meth) (c := c) X.method X.code, State.localsInUse_invoking X.frames X.method X.code]
    simp only [State.hasRoom, Bool.and_eq_true, decide_eq_true_eq] at h ⊢
    obtain ⟨⟨⟨⟨h1, h2, h3, h4, h5, h6⟩, h7⟩, h8⟩, h9⟩ := h
    rw [X.frames, List.length_cons] at h2 h3
    have q1 := X.heapSize
    have q2 := X.used
    simp only [hF, hU, List.length_cons, State.stackLimits_setFrames, State.stackBytes_setFrames, hl9, hb9]
    refine ⟨⟨⟨⟨by omega, by omega, by omega, by omega, by omega, h6⟩, ?_⟩, ?_⟩, X.book⟩
    · show T.heap.size + R'.cells ≤ e.platform.maxCells
      omega
    · show T.slotsUsed + R'.slots ≤ e.platform.maxSlots
      omega
  · rw [State.stackLimits_setFrames]; rfl
  · rw [State.stackBytes_setFrames]; rfl
  · refine ⟨?_, Nat.le_refl _, Nat.le_refl _, ?_, ?_, fun a c9 h9 => ⟨c9, h9, rfl, rfl, fun _ _ => rfl⟩⟩
    · obtain ⟨t, ht, -⟩ := State.frames_cons hr
      show T.setVm s.vm = { ((T.setVm s.vm).setFrames (.invoking m args :: below)).setFrames (T.setVm s.vm).frames with heap := T.heap, slotsUsed := T.slotsUsed }
      rw [State.setFrames_setFrames, State.setFrames_self ht]
      rfl
    · show T.slotsUsed = T.slotsUsed + ((T.heap.toList.drop T.heap.size).map (·.slots.size)).sum
      rw [List.drop_eq_nil_of_le (Nat.le_of_eq Array.length_toList)]
      rfl
    · show ((T.heap.toList.drop T.heap.size).map (·.slots.size)).sum ≤ 0
      rw [List.drop_eq_nil_of_le (Nat.le_of_eq Array.length_toList)]
      exact Nat.le_refl _
/-- 'throw new E()': new; dup; invokespecial; athrow -/
theorem vx_throw0 {cc : ByteArray} {pc : Nat} (hexec : p.tables.exec = Jvm.exec) (hb : c.code = cc) (hl : l.stackTraces = false) {own cls : String} {names : List String} {ik ic mc ms : Nat} {A : Nat → Prop}
    (hown : s.vm.findClass own = some m.cls) (hcls : Bundle.fit cls = true) (hnames : ∀ n ∈ names, Bundle.fit n = true)
    (hk : (Cond.classLink own ik cls).before args s = true) (hini : (Cond.initialized cls).before args s = true) (hat : ∀ w ∈ vx_at0 own ic cls names, w.before args s = true)
    (hgood : ∀ w ∈ Cond.classLink own ik cls :: Cond.initialized cls :: vx_at0 own ic cls names, vx_ot w = true)
    (hU : vx_Zq Bundle.tN "UNASSIGNED_STACK" Bundle.steD A s s.heap) (hN : vx_Zq Bundle.tN "SUPPRESSED_SENTINEL" Bundle.listD A s s.heap) (hS : va_S A s.heap H locs) (hsize : ls.size = c.maxLocals)
    (d0 : decode cc pc = .ok (.new ik, 3)) (d3 : decode cc (pc + 3) = .ok (.dup, 1)) (d4 : decode cc (pc + 4) = .ok (.invokespecial ic, 3)) (d7 : decode cc (pc + 7) = .ok (.athrow, 1))
    (hout : ∀ x ∈ c.exceptionTable.toList, covers x (pc + 7) = false)
    (hRframes : names.length + 3 < R.frames) (hRlocals : (rest.map fun v => v.category).sum + (13 * (names.length + 1) + 42) ≤ R.locals) (hRcells : cells + 1 ≤ R.cells) (hRslots : slots + 6 ≤ R.slots) (hlocks : meth.locks = false)
    (hx : ∀ t : State, s.vm.Alike t.vm → H.size ≤ t.heap.size → (∀ q : Nat, q < H.size → t.heap[q]? = H[q]?) → XC cls s t)
    (hf : ∀ z ∈ locs, free z.base) (hc : cells + 1 ≤ mc) (hs : slots + 6 ≤ ms) :
    W p l e R s m args below meth c H locs cells slots (vx_MQ below Qc XC args s mc ms free) (F0 m pc ls rest) := by
  intro T hT X
  have htr : e.platform.stackTraces = false := (show e.platform.stackTraces = l.stackTraces by rw [X.admits.platform]).trans hl
  have Y := vx_rebase X (R' := { frames := R.frames, locals := R.locals, cells := 1, slots := 6 }) (Nat.le_refl _) (Nat.le_refl _) hRcells hRslots
  obtain ⟨s', hA⟩ : ∃ z, z = (T.setVm s.vm).setFrames (.invoking m args :: below) := ⟨_, rfl⟩
  rw [← hA] at Y
  have hvm : s'.vm = s.vm := by rw [hA]; rfl
  have hhp : s'.heap = H := by rw [hA]; exact hT
  have hW0 : s.WarmedH s'.vm := by rw [hvm]; exact State.WarmedH.refl s
  have hat' : ∀ w ∈ vx_at0 own ic cls names, w.before args s' = true := fun w hw => vx_ot_at hW0 hvm.symm (hgood w (List.mem_cons_of_mem _ (List.mem_cons_of_mem _ hw))) (hat w hw)
  have hk' : (Cond.classLink own ik cls).before args s' = true := vx_ot_at hW0 hvm.symm (hgood _ List.mem_cons_self) hk
  have hini' : (Cond.initialized cls).before args s' = true := vx_ot_at hW0 hvm.symm (hgood _ (List.mem_cons_of_mem _ List.mem_cons_self)) hini
  have hU' : vx_Zq Bundle.tN "UNASSIGNED_STACK" Bundle.steD A s' s'.heap := by rw [hhp]; exact vx_Zq.moved hW0.alike (hU.kept hS.2.1)
  have hN' : vx_Zq Bundle.tN "SUPPRESSED_SENTINEL" Bundle.listD A s' s'.heap := by rw [hhp]; exact vx_Zq.moved hW0.alike (hN.kept hS.2.1)
  have h : ∀ w ∈ Bundle.ownAtoms0 own ic cls names, w.before args s' = true := vx_own hat' (vx_isRefq hU'.1) (vx_isRefq hN'.1) hU'.2.word hN'.2.word
  have hown' : s'.vm.findClass own = some m.cls := by rw [hvm]; exact hown
  have hins : (Cond.instantiable cls 6).before args s' = true := h _ (by simp [Bundle.ownAtoms0])
  obtain ⟨vm₁, cX, kX, hfX, hkX, -, -, X₁, st1⟩ := Y.newCold hexec (own := own) (C := cls) (index := ik) (n := 6) hown' hk' hins hini'
    (g := F0 m pc ls rest) rfl (by rw [hb]; exact d0) (Nat.le_refl _) (Nat.le_refl _)
  generalize hT1 : (T.setVm vm₁).pushCell { cls := cX, slots := kX.instanceTypes.map defaultValue, vm := .none } = T1 at X₁ st1
  have hcat : (Value.ref T.heap.size).category = 1 := rfl
  have hcellA : T1.heap[T.heap.size]? = some (freshCell cX kX) := by rw [← hT1]; exact State.heap_pushCell_size _ _
  have d3' : decode c.code (pc + 3) = .ok (.dup, 1) := by rw [hb]; exact d3
  obtain ⟨U, hsteps, hrun, hend, hW, hsame, ce, hce, hO⟩ := X₁.ctorThrow0 hexec htr (own := own) (cls := cls) (names := names) (ic := ic) hown' hcls hnames h (fun x hx => nomatch hx) hfX hkX hcellA (by rw [hhp, hT]; exact Nat.le_refl _)
    (g := { method := m, pc := pc + 4, locals := ls, stack := .ref T.heap.size :: .ref T.heap.size :: rest, locked := none }) rfl hsize rfl rfl (rest := rest) rfl
    (by rw [hb]; exact d4) (by rw [hb]; exact d7) hout hRframes (by simp only [List.map_cons, List.sum_cons, hcat]; omega) hlocks
  obtain ⟨f1, f2⟩ := vx_frame hsame
  rw [hhp] at f1 f2
  have hWs : s.WarmedH U.vm := State.WarmedH.trans hW0 hW
  have hcl : s.vm.findClass cls = some ce.cls := by
    have h9 := hO.cls
    rw [hvm] at h9
    exact h9
  have hall : s.sameButNew ({ U with vm := s.vm } : State) locs mc ms := by
    subst hA
    obtain ⟨e1, e2⟩ := hsame
    rw [State.setFrames_setFrames] at e1
    have h2 : (T.setVm s.vm).sameButNew ({ U with vm := s.vm } : State) [] (0 + 1) (0 + 6) := ⟨e1, e2⟩
    have h3 := X.same.trans h2
    rw [List.append_nil] at h3
    exact h3.mono hc hs
  refine ⟨U, ?_, .threw T.heap.size, hrun, hend, Or.inr ⟨T.heap.size, rfl, cls, ce, locs, hx U hWs.alike f1 (fun q hq => f2 q hq (fun z hz => nomatch hz)), hce, hO.vm, hcl, hWs, hall, hf⟩⟩
  refine st1 _ ?_
  show Steps p.tables e below (T1.setTop { method := m, pc := pc + 3, locals := ls, stack := .ref T.heap.size :: rest, locked := none }) _
  jvm_step X₁.here [X₁.here.top, hexec, d3', Value.category]
  exact hsteps
/-- 'throw new E("text")': new; dup; ldc; invokespecial; athrow -/
theorem vx_throwS {cc : ByteArray} {pc : Nat} (hexec : p.tables.exec = Jvm.exec) (hb : c.code = cc) (hl : l.stackTraces = false) {own cls text : String} {names : List String} {ik is ic mc ms sa : Nat} {A : Nat → Prop}
    (hown : s.vm.findClass own = some m.cls) (hcls : Bundle.fit cls = true) (hnames : ∀ n ∈ names, Bundle.fit n = true)
    (hk : (Cond.classLink own ik cls).before args s = true) (hini : (Cond.initialized cls).before args s = true) (hstr : vk_R own is text sa s) (hat : ∀ w ∈ vx_atS own ic cls names, w.before args s = true)
    (hgood : ∀ w ∈ Cond.classLink own ik cls :: Cond.initialized cls :: vx_atS own ic cls names, vx_ot w = true)
    (hU : vx_Zq Bundle.tN "UNASSIGNED_STACK" Bundle.steD A s s.heap) (hN : vx_Zq Bundle.tN "SUPPRESSED_SENTINEL" Bundle.listD A s s.heap) (hS : va_S A s.heap H locs) (hsize : ls.size = c.maxLocals)
    (d0 : decode cc pc = .ok (.new ik, 3)) (d3 : decode cc (pc + 3) = .ok (.dup, 1)) (d4 : decode cc (pc + 4) = .ok (.ldc is, 2)) (d6 : decode cc (pc + 6) = .ok (.invokespecial ic, 3)) (d9 : decode cc (pc + 9) = .ok (.athrow, 1))
    (hout : ∀ x ∈ c.exceptionTable.toList, covers x (pc + 9) = false)
    (hRframes : names.length + 3 < R.frames) (hRlocals : (rest.map fun v => v.category).sum + (13 * (names.length + 1) + 43) ≤ R.locals) (hRcells : cells + 1 ≤ R.cells) (hRslots : slots + 6 ≤ R.slots) (hlocks : meth.locks = false)
    (hx : ∀ t : State, s.vm.Alike t.vm → H.size ≤ t.heap.size → (∀ q : Nat, q < H.size → t.heap[q]? = H[q]?) → XC cls s t)
    (hf : ∀ z ∈ locs, free z.base) (hc : cells + 1 ≤ mc) (hs : slots + 6 ≤ ms) :
    W p l e R s m args below meth c H locs cells slots (vx_MQ below Qc XC args s mc ms free) (F0 m pc ls rest) := by
  intro T hT X
  have htr : e.platform.stackTraces = false := (show e.platform.stackTraces = l.stackTraces by rw [X.admits.platform]).trans hl
  have Y := vx_rebase X (R' := { frames := R.frames, locals := R.locals, cells := 1, slots := 6 }) (Nat.le_refl _) (Nat.le_refl _) hRcells hRslots
  obtain ⟨s', hA⟩ : ∃ z, z = (T.setVm s.vm).setFrames (.invoking m args :: below) := ⟨_, rfl⟩
  rw [← hA] at Y
  have hvm : s'.vm = s.vm := by rw [hA]; rfl
  have hhp : s'.heap = H := by rw [hA]; exact hT
  have hW0 : s.WarmedH s'.vm := by rw [hvm]; exact State.WarmedH.refl s
  have hat' : ∀ w ∈ vx_atS own ic cls names, w.before args s' = true := fun w hw => vx_ot_at hW0 hvm.symm (hgood w (List.mem_cons_of_mem _ (List.mem_cons_of_mem _ hw))) (hat w hw)
  have hk' : (Cond.classLink own ik cls).before args s' = true := vx_ot_at hW0 hvm.symm (hgood _ List.mem_cons_self) hk
  have hini' : (Cond.initialized cls).before args s' = true := vx_ot_at hW0 hvm.symm (hgood _ (List.mem_cons_of_mem _ List.mem_cons_self)) hini
  have hU' : vx_Zq Bundle.tN "UNASSIGNED_STACK" Bundle.steD A s' s'.heap := by rw [hhp]; exact vx_Zq.moved hW0.alike (hU.kept hS.2.1)
  have hN' : vx_Zq Bundle.tN "SUPPRESSED_SENTINEL" Bundle.listD A s' s'.heap := by rw [hhp]; exact vx_Zq.moved hW0.alike (hN.kept hS.2.1)
  have h : ∀ w ∈ Bundle.ownAtoms own ic cls names, w.before args s' = true := vx_own hat' (vx_isRefq hU'.1) (vx_isRefq hN'.1) hU'.2.word hN'.2.word
  have hown' : s'.vm.findClass own = some m.cls := by rw [hvm]; exact hown
  have hins : (Cond.instantiable cls 6).before args s' = true := h _ (by simp [Bundle.ownAtoms])
  obtain ⟨vm₁, cX, kX, hfX, hkX, -, -, X₁, st1⟩ := Y.newCold hexec (own := own) (C := cls) (index := ik) (n := 6) hown' hk' hins hini'
    (g := F0 m pc ls rest) rfl (by rw [hb]; exact d0) (Nat.le_refl _) (Nat.le_refl _)
  generalize hT1 : (T.setVm vm₁).pushCell { cls := cX, slots := kX.instanceTypes.map defaultValue, vm := .none } = T1 at X₁ st1
  have hcat : (Value.ref T.heap.size).category = 1 := rfl
  have hcellA : T1.heap[T.heap.size]? = some (freshCell cX kX) := by rw [← hT1]; exact State.heap_pushCell_size _ _
  have d3' : decode c.code (pc + 3) = .ok (.dup, 1) := by rw [hb]; exact d3
  have d4' : decode c.code (pc + 4) = .ok (.ldc is, 2) := by rw [hb]; exact d4
  have hstr' : vk_R own is text sa s' := vk_R.warm hW0 hstr
  obtain ⟨U, hsteps, hrun, hend, hW, hsame, ce, hce, hO⟩ := X₁.ctorThrowS hexec htr (own := own) (cls := cls) (names := names) (ic := ic) hown' hcls hnames h (fun x hx => nomatch hx) hfX hkX hcellA (by rw [hhp, hT]; exact Nat.le_refl _) (msg := .ref sa) rfl
    (g := { method := m, pc := pc + 6, locals := ls, stack := .ref sa :: .ref T.heap.size :: .ref T.heap.size :: rest, locked := none }) rfl hsize rfl rfl (rest := rest) rfl
    (by rw [hb]; exact d6) (by rw [hb]; exact d9) hout hRframes (by simp only [List.map_cons, List.sum_cons, hcat]; omega) hlocks
  obtain ⟨f1, f2⟩ := vx_frame hsame
  rw [hhp] at f1 f2
  have hWs : s.WarmedH U.vm := State.WarmedH.trans hW0 hW
  have hcl : s.vm.findClass cls = some ce.cls := by
    have h9 := hO.cls
    rw [hvm] at h9
    exact h9
  have hall : s.sameButNew ({ U with vm := s.vm } : State) locs mc ms := by
    subst hA
    obtain ⟨e1, e2⟩ := hsame
    rw [State.setFrames_setFrames] at e1
    have h2 : (T.setVm s.vm).sameButNew ({ U with vm := s.vm } : State) [] (0 + 1) (0 + 6) := ⟨e1, e2⟩
    have h3 := X.same.trans h2
    rw [List.append_nil] at h3
    exact h3.mono hc hs
  refine ⟨U, ?_, .threw T.heap.size, hrun, hend, Or.inr ⟨T.heap.size, rfl, cls, ce, locs, hx U hWs.alike f1 (fun q hq => f2 q hq (fun z hz => nomatch hz)), hce, hO.vm, hcl, hWs, hall, hf⟩⟩
  refine st1 _ ?_
  show Steps p.tables e below (T1.setTop { method := m, pc := pc + 3, locals := ls, stack := .ref T.heap.size :: rest, locked := none }) _
  jvm_step X₁.here [X₁.here.top, hexec, d3', Value.category]
  exact X₁.ldcString hexec (own := own) (text := text) (index := is) (a := sa) hown' hstr'.1 hstr'.2
    (g := { method := m, pc := pc + 4, locals := ls, stack := .ref T.heap.size :: .ref T.heap.size :: rest, locked := none }) rfl d4' _ hsteps
/-- 'throw new E("text")', the text by a wide index -/
theorem vx_throwSW {cc : ByteArray} {pc : Nat} (hexec : p.tables.exec = Jvm.exec) (hb : c.code = cc) (hl : l.stackTraces = false) {own cls text : String} {names : List String} {ik is ic mc ms sa : Nat} {A : Nat → Prop}
    (hown : s.vm.findClass own = some m.cls) (hcls : Bundle.fit cls = true) (hnames : ∀ n ∈ names, Bundle.fit n = true)
    (hk : (Cond.classLink own ik cls).before args s = true) (hini : (Cond.initialized cls).before args s = true) (hstr : vk_R own is text sa s) (hat : ∀ w ∈ vx_atS own ic cls names, w.before args s = true)
    (hgood : ∀ w ∈ Cond.classLink own ik cls :: Cond.initialized cls :: vx_atS own ic cls names, vx_ot w = true)
    (hU : vx_Zq Bundle.tN "UNASSIGNED_STACK" Bundle.steD A s s.heap) (hN : vx_Zq Bundle.tN "SUPPRESSED_SENTINEL" Bundle.listD A s s.heap) (hS : va_S A s.heap H locs) (hsize : ls.size = c.maxLocals)
    (d0 : decode cc pc = .ok (.new ik, 3)) (d3 : decode cc (pc + 3) = .ok (.dup, 1)) (d4 : decode cc (pc + 4) = .ok (.ldc_w is, 3)) (d7 : decode cc (pc + 7) = .ok (.invokespecial ic, 3)) (d10 : decode cc (pc + 10) = .ok (.athrow, 1))
    (hout : ∀ x ∈ c.exceptionTable.toList, covers x (pc + 10) = false)
    (hRframes : names.length + 3 < R.frames) (hRlocals : (rest.map fun v => v.category).sum + (13 * (names.length + 1) + 43) ≤ R.locals) (hRcells : cells + 1 ≤ R.cells) (hRslots : slots + 6 ≤ R.slots) (hlocks : meth.locks = false)
    (hx : ∀ t : State, s.vm.Alike t.vm → H.size ≤ t.heap.size → (∀ q : Nat, q < H.size → t.heap[q]? = H[q]?) → XC cls s t)
    (hf : ∀ z ∈ locs, free z.base) (hc : cells + 1 ≤ mc) (hs : slots + 6 ≤ ms) :
    W p l e R s m args below meth c H locs cells slots (vx_MQ below Qc XC args s mc ms free) (F0 m pc ls rest) := by
  intro T hT X
  have htr : e.platform.stackTraces = false := (show e.platform.stackTraces = l.stackTraces by rw [X.admits.platform]).trans hl
  have Y := vx_rebase X (R' := { frames := R.frames, locals := R.locals, cells := 1, slots := 6 }) (Nat.le_refl _) (Nat.le_refl _) hRcells hRslots
  obtain ⟨s', hA⟩ : ∃ z, z = (T.setVm s.vm).setFrames (.invoking m args :: below) := ⟨_, rfl⟩
  rw [← hA] at Y
  have hvm : s'.vm = s.vm := by rw [hA]; rfl
  have hhp : s'.heap = H := by rw [hA]; exact hT
  have hW0 : s.WarmedH s'.vm := by rw [hvm]; exact State.WarmedH.refl s
  have hat' : ∀ w ∈ vx_atS own ic cls names, w.before args s' = true := fun w hw => vx_ot_at hW0 hvm.symm (hgood w (List.mem_cons_of_mem _ (List.mem_cons_of_mem _ hw))) (hat w hw)
  have hk' : (Cond.classLink own ik cls).before args s' = true := vx_ot_at hW0 hvm.symm (hgood _ List.mem_cons_self) hk
  have hini' : (Cond.initialized cls).before args s' = true := vx_ot_at hW0 hvm.symm (hgood _ (List.mem_cons_of_mem _ List.mem_cons_self)) hini
  have hU' : vx_Zq Bundle.tN "UNASSIGNED_STACK" Bundle.steD A s' s'.heap := by rw [hhp]; exact vx_Zq.moved hW0.alike (hU.kept hS.2.1)
  have hN' : vx_Zq Bundle.tN "SUPPRESSED_SENTINEL" Bundle.listD A s' s'.heap := by rw [hhp]; exact vx_Zq.moved hW0.alike (hN.kept hS.2.1)
  have h : ∀ w ∈ Bundle.ownAtoms own ic cls names, w.before args s' = true := vx_own hat' (vx_isRefq hU'.1) (vx_isRefq hN'.1) hU'.2.word hN'.2.word
  have hown' : s'.vm.findClass own = some m.cls := by rw [hvm]; exact hown
  have hins : (Cond.instantiable cls 6).before args s' = true := h _ (by simp [Bundle.ownAtoms])
  obtain ⟨vm₁, cX, kX, hfX, hkX, -, -, X₁, st1⟩ := Y.newCold hexec (own := own) (C := cls) (index := ik) (n := 6) hown' hk' hins hini'
    (g := F0 m pc ls rest) rfl (by rw [hb]; exact d0) (Nat.le_refl _) (Nat.le_refl _)
  generalize hT1 : (T.setVm vm₁).pushCell { cls := cX, slots := kX.instanceTypes.map defaultValue, vm := .none } = T1 at X₁ st1
  have hcat : (Value.ref T.heap.size).category = 1 := rfl
  have hcellA : T1.heap[T.heap.size]? = some (freshCell cX kX) := by rw [← hT1]; exact State.heap_pushCell_size _ _
  have d3' : decode c.code (pc + 3) = .ok (.dup, 1) := by rw [hb]; exact d3
  have d4' : decode c.code (pc + 4) = .ok (.ldc_w is, 3) := by rw [hb]; exact d4
  have hstr' : vk_R own is text sa s' := vk_R.warm hW0 hstr
  obtain ⟨U, hsteps, hrun, hend, hW, hsame, ce, hce, hO⟩ := X₁.ctorThrowS hexec htr (own := own) (cls := cls) (names := names) (ic := ic) hown' hcls hnames h (fun x hx => nomatch hx) hfX hkX hcellA (by rw [hhp, hT]; exact Nat.le_refl _) (msg := .ref sa) rfl
    (g := { method := m, pc := pc + 7, locals := ls, stack := .ref sa :: .ref T.heap.size :: .ref T.heap.size :: rest, locked := none }) rfl hsize rfl rfl (rest := rest) rfl
    (by rw [hb]; exact d7) (by rw [hb]; exact d10) hout hRframes (by simp only [List.map_cons, List.sum_cons, hcat]; omega) hlocks
  obtain ⟨f1, f2⟩ := vx_frame hsame
  rw [hhp] at f1 f2
  have hWs : s.WarmedH U.vm := State.WarmedH.trans hW0 hW
  have hcl : s.vm.findClass cls = some ce.cls := by
    have h9 := hO.cls
    rw [hvm] at h9
    exact h9
  have hall : s.sameButNew ({ U with vm := s.vm } : State) locs mc ms := by
    subst hA
    obtain ⟨e1, e2⟩ := hsame
    rw [State.setFrames_setFrames] at e1
    have h2 : (T.setVm s.vm).sameButNew ({ U with vm := s.vm } : State) [] (0 + 1) (0 + 6) := ⟨e1, e2⟩
    have h3 := X.same.trans h2
    rw [List.append_nil] at h3
    exact h3.mono hc hs
  refine ⟨U, ?_, .threw T.heap.size, hrun, hend, Or.inr ⟨T.heap.size, rfl, cls, ce, locs, hx U hWs.alike f1 (fun q hq => f2 q hq (fun z hz => nomatch hz)), hce, hO.vm, hcl, hWs, hall, hf⟩⟩
  refine st1 _ ?_
  show Steps p.tables e below (T1.setTop { method := m, pc := pc + 3, locals := ls, stack := .ref T.heap.size :: rest, locked := none }) _
  jvm_step X₁.here [X₁.here.top, hexec, d3', Value.category]
  exact X₁.ldcStringW hexec (own := own) (text := text) (index := is) (a := sa) hown' hstr'.1 hstr'.2
    (g := { method := m, pc := pc + 4, locals := ls, stack := .ref T.heap.size :: .ref T.heap.size :: rest, locked := none }) rfl d4' _ hsteps
end Ends
section Bodies
variable {l : Launch}
theorem vx_ofW {y : MethodName} {ws ws' : List Cond} {rm : Room} {Pc : Array Value → State → Prop} {Qc : Array Value → State → Outcome → State → Prop} {XC : String → State → State → Prop} {mc ms : Nat} {free : Addr → Prop} {cc : ByteArray} {maxL : Nat} {ret : Option FieldType}
    (hy : plainName y.cls = true) (hw : ws = Cond.code y cc maxL ret :: ws')
    (body : ∀ p e s m args below meth c s₁, BodyLoose p l y (headSpec ws rm) cc maxL ret e s m args below meth c s₁ → c.maxLocals = maxL → (∀ x ∈ c.exceptionTable.toList, False) → Pc args s →
      W p l e (headSpec ws rm).room s m args below meth c s.heap [] 0 0 (vx_MQ below Qc XC args s mc ms free) (entryFrame m args maxL)) : vx_Met l y ws rm Pc Qc XC mc ms free := by
  refine MetFree.of_bodyS (code := cc) (maxLocals := maxL) (ret := ret) hy ?_ ?_
  · intro args s m h hn
    obtain ⟨meth, c, h1, h2, h3, h4, h5, h6, -, -⟩ := Cond.code_spec hn (atoms_spec (ws := ws) h _ (by rw [hw]; exact List.mem_cons_self))
    exact ⟨meth, c, h1, h2, h3, h4, h5, h6⟩
  · intro p e s m args below meth c s₁ B hml hP _
    have hh0 : s₁.heap = s.heap := by rw [B.state]; rfl
    have ht : ∀ x ∈ c.exceptionTable.toList, False := by
      obtain ⟨meth9, c9, h1, h2, -, -, -, -, h7, -⟩ := Cond.code_spec B.named (atoms_spec (ws := ws) B.pre _ (by rw [hw]; exact List.mem_cons_self))
      cases Option.some.inj (h1.symm.trans B.method)
      cases Option.some.inj (h2.symm.trans (Stand.of_body B).code)
      intro x hx
      rw [Array.isEmpty_iff.mp h7] at hx
      cases hx
    obtain ⟨t, a1, o, b1, b2, b3⟩ := body p e s m args below meth c s₁ B hml ht hP s₁ hh0 (Stand.of_body B)
    exact ⟨t, o, a1, b1, b2, b3⟩
/-- the table of a body with handlers -/
theorem vx_table {p : Program} {x y : MethodName} {S : Spec} {cc bytes : ByteArray} {maxL maxL' : Nat} {ret ret' : Option FieldType} {e : Env} {s s₁ : State} {m : MethodId} {args : Array Value} {below : List Frame} {meth : Method} {c : Code} {hh : List (Nat × Nat × Nat × Nat)}
    (B : BodyLoose p l y S cc maxL ret e s m args below meth c s₁) (h : (Cond.codeWith y bytes maxL' ret' hh).before args s = true) : c.exceptionTable.toList = tableOf hh := by
  obtain ⟨m9, meth9, c9, hn9, h1, h2, -, -, h6, -⟩ := Cond.codeWith_spec h
  cases Option.some.inj (hn9.symm.trans B.named)
  cases Option.some.inj (h1.symm.trans B.method)
  cases Option.some.inj (h2.symm.trans (Stand.of_body B).code)
  rw [← h6, table_eq]
end Bodies
end VXA
/-! ===== END ===== -/
/-! ===== BEGIN a static call of a method with an exception table ===== -/
section VXS
variable {p : Program} {l : Launch} {e : Env} {R : Room} {s : State} {m : MethodId} {args : Array Value} {below : List Frame} {meth : Method} {c : Code} {T : State} {H : Heap} {locs : List Loc} {cells slots : Nat}
abbrev vx_CSW (R : Room) (s : State) (args : Array Value) (own : String) (index : Nat) (y : MethodName) (bytes : ByteArray) (maxL : Nat) (ret : Option FieldType) (hh : List (Nat × Nat × Nat × Nat)) (ws : List Cond) (rm : Room) (mc ms n : Nat) : Prop :=
  (rm.cells = mc ∧ rm.slots = ms ∧ rm.frames + 1 ≤ R.frames ∧ 8 + (maxL + 11) + rm.locals ≤ R.locals ∧ (∀ w ∈ ws, ∀ (a' : Array Value) (U : State), s.WarmedH U.vm → w.before a' U = true) ∧ Cond.codeWith y bytes maxL ret hh ∈ ws) ∧
  (Cond.codeWith y bytes maxL ret hh).before args s = true ∧ (Cond.initialized y.cls).before args s = true ∧ (y.cls ≠ "java/lang/invoke/MethodHandle" ∧ y.cls ≠ "java/lang/invoke/VarHandle") ∧
  (∀ sig, parseMethodDescriptor y.desc = some sig → n = sig.parameters.length) ∧ (Cond.methodLink own index y).before args s = true ∧ (Cond.static y).before args s = true
theorem vx_cwSW {own : String} {index maxL mc ms : Nat} {y : MethodName} {bytes : ByteArray} {ret : Option FieldType} {hh : List (Nat × Nat × Nat × Nat)} {Ts ws ws' : List Cond} {rm : Room} (n : Nat) (ht : ∀ w ∈ Ts, w.before args s = true) (hT : GoodIn Ts (va_wsS own index y ws)) (hw : ws = Cond.codeWith y bytes maxL ret hh :: ws') (hrc : rm.cells = mc) (hrs : rm.slots = ms)
    (hd : y.cls ≠ "java/lang/invoke/MethodHandle" ∧ y.cls ≠ "java/lang/invoke/VarHandle" ∧ (parseMethodDescriptor y.desc).map (fun d => d.parameters.length) = some n) (hR : rm.frames + 1 ≤ R.frames ∧ 8 + (maxL + 11) + rm.locals ≤ R.locals) :
    vx_CSW R s args own index y bytes maxL ret hh ws rm mc ms n := by
  have ok : ∀ w ∈ va_wsS own index y ws, w.before args s = true := fun w h => ht w (hT w h).1
  have hG : GoodIn Ts ws := fun w h => hT w (by unfold va_wsS; exact List.mem_append_right _ h)
  have hc : Cond.codeWith y bytes maxL ret hh ∈ ws := by rw [hw]; exact List.mem_cons_self
  refine ⟨⟨hrc, hrs, hR.1, hR.2, pay_in ht hG, hc⟩, ht _ (hG _ hc).1, ok _ (by simp [va_wsS]), ⟨hd.1, hd.2.1⟩, fun sig h => ?_, ok _ (by simp [va_wsS]), ok _ (by simp [va_wsS])⟩
  have h2 := hd.2.2
  rw [h] at h2
  exact (Option.some.inj h2).symm
theorem vx_callSW (X : Stand p l e R s m args below meth c T locs cells slots) (hexec : p.tables.exec = Jvm.exec) {own : String} {index : Nat} {y : MethodName} {bytes : ByteArray} {maxL : Nat} {ret : Option FieldType} {hh : List (Nat × Nat × Nat × Nat)}
    (hown : s.vm.findClass own = some m.cls) (hlink : (Cond.methodLink own index y).before args s = true) (hstat : (Cond.static y).before args s = true) (hinit : (Cond.initialized y.cls).before args s = true)
    (hcode : (Cond.codeWith y bytes maxL ret hh).before args s = true) (hy : y.cls ≠ "java/lang/invoke/MethodHandle" ∧ y.cls ≠ "java/lang/invoke/VarHandle")
    {W9 : Nat} {Pre : Pt → Array Value → Prop} {Post : Pt → Array Value → Option Value → Pt → Prop} (hK : Back l R p e below s args y 3 W9 Pre Post)
    {g : JFrame} (hg : g.method = m) (hsize : g.locals.size = c.maxLocals) {argsL rest : List Value} (hlen : ∀ sig, parseMethodDescriptor y.desc = some sig → argsL.length = sig.parameters.length)
    (hstack : g.stack = argsL.reverse ++ rest) (hW : 2 * g.monitorRoom + (rest.map fun v => v.category).sum ≤ W9) (hdg : decode c.code g.pc = .ok (.invokestatic index, 3))
    (hpre : ∀ vm₁, s.WarmedH vm₁ → Pre ⟨T.setVm vm₁, locs, cells, slots⟩ argsL.toArray) :
    ∃ (v : Option Value) (vm₁ : Vm) (B : Pt), s.WarmedH vm₁ ∧ Stand p l e R s m args below meth c B.U B.locs B.cells B.slots ∧ Post ⟨T.setVm vm₁, locs, cells, slots⟩ argsL.toArray v B ∧
      ∀ target, Steps p.tables e below (B.U.setTop { g with pc := g.pc + 3, stack := v.toList ++ rest }) target → Steps p.tables e below (T.setTop g) target := by
  obtain ⟨mk, methM, cM, hnamed, hmethM, -, -, -, -, -, -, hsigM⟩ := Cond.codeWith_spec hcode
  have hstatic : methM.isStatic = true := Cond.static_spec hnamed hmethM hstat
  obtain ⟨kP, hkP, -⟩ := className_of_methodNamed hnamed
  have hinitP : kP.init = .initialized := Cond.initialized_spec (findClass_of_methodNamed hnamed) hkP hinit
  obtain ⟨vm₁, X₁, hstep₁⟩ := X.invokestatic hexec hown hlink hnamed hmethM hstatic hkP hinitP hy (g := g) hg (argsL := argsL) (rest := rest) (hlen _ hsigM) hstack hdg
  obtain ⟨v, B, X', hpost, hsteps⟩ := hK m meth c ⟨T.setVm vm₁, locs, cells, slots⟩ { g with stack := rest } (.invokestatic index) mk argsL.toArray X₁ hg hsize hdg hW (X₁.named hnamed) (hpre vm₁ X₁.warmed)
  exact ⟨v, vm₁, B, X₁.warmed, X', hpost, fun target h => hstep₁ _ fun acts => by rw [doInvoke_state]; exact hsteps.trans h⟩
theorem vx_runSW {y : MethodName} {bytes cc : ByteArray} {maxL nL mc ms n index : Nat} {ret : Option FieldType} {hh : List (Nat × Nat × Nat × Nat)} {ws : List Cond} {rm : Room} {Pc : Array Value → State → Prop} {Qc : Array Value → State → Outcome → State → Prop} {free : Addr → Prop} {Ts : List Cond} {own : String} {As rest : List Value} {g : JFrame}
    (S : CallFix p m c cc nL s args Ts own) (hM : Met l y ws rm Pc Qc mc ms free) (cw : vx_CSW R s args own index y bytes maxL ret hh ws rm mc ms n) (hp : PreS s H Pc As)
    (hg : g.method = m) (hn : As.length = n) (hsize : g.locals.size = nL) (hstack : g.stack = As.reverse ++ rest) (hW : 2 * g.monitorRoom + (rest.map fun v => v.category).sum ≤ 8) (hdg : decode cc g.pc = .ok (.invokestatic index, 3)) (hf : cells + mc ≤ R.cells ∧ slots + ms ≤ R.slots) :
    va_Run p l e R s m args below meth c H locs cells slots mc ms g rest (Qc As.toArray) (free) := by
  obtain ⟨⟨hrc, hrs, hfr, hlo, hws, hcw⟩, hcode, hini, hy, hlen, hl, hstt⟩ := cw
  have hK : Back l R p e below s args y 3 8 (PreOf R mc ms Pc) (PostOf Qc mc ms free) := va_backW (hh := hh) (bytes := bytes) (maxL := maxL) (ret := ret) hM hp.1 hrc hrs hfr hlo hws hcw (fun a' U hW => word_at hW (Or.inl (by first | rfl | simp [Cond.onTables, Cond.keeps, Cond.steady])) hini)
  obtain ⟨hx, hb, hml, ho, -⟩ := S
  intro T hT X
  obtain ⟨v, vm₁, ⟨U', l2, c2, s2⟩, hW₁, X', ⟨g', mk, t, L, e1, e2, hq, h1, hL, h2, h3⟩, st⟩ := vx_callSW X hx (hh := hh) (bytes := bytes) (maxL := maxL) (ret := ret) ho hl hstt hini hcode hy hK hg (hsize.trans hml.symm) (argsL := As) (rest := rest) (fun sig h => hn.trans (hlen sig h)) hstack hW (by rw [hb]; exact hdg)
    (fun vm₁ hW₁ => ⟨hf.1, hf.2, hp.2 (T.setVm vm₁) hT hW₁⟩)
  dsimp only [Pt.U, Pt.locs, Pt.cells, Pt.slots] at X' e1 e2 h1 h2 h3 st
  subst h1; subst h2; subst h3
  exact ⟨v, (T.setVm vm₁).calling g' mk As.toArray, t, U', L, hT, X', hL, e1, e2, hq, st⟩
/-- not caught here, past rows that name other classes: it goes on to the caller -/
theorem vx_outP {p : Program} {l : Launch} {e : Env} {R : Room} {s : State} {m : MethodId} {args : Array Value} {below : List Frame} {meth : Method} {c : Code} {H : Heap} {locs : List Loc} {cells slots : Nat} {free : Addr → Prop} {ls : Array Slot} {rest : List Value} {Qc : Array Value → State → Outcome → State → Prop} {XC : String → State → State → Prop}
    {pc : Nat} {own E : String} {ce : Cell} {q : Addr} {mc ms : Nat} (hown : s.vm.findClass own = some m.cls) (hlocks : meth.locks = false)
    (hpass : ∀ z ∈ c.exceptionTable.toList, covers z pc = false ∨ (z.catchType ≠ 0 ∧ ∃ nm : String, (Cond.classLink own z.catchType nm).before args s = true ∧ va_Nc E nm s)) (hcell : H[q]? = some ce) (hv : ce.vm = .none) (hcl : s.vm.findClass E = some ce.cls)
    (hx : ∀ t : State, t.heap = H → s.vm.Alike t.vm → XC E s t) (hf : ∀ z ∈ locs, free z.base) (hc : cells ≤ mc) (hs : slots ≤ ms) :
    vx_W p l e R s m args below meth c H locs cells slots (vx_MQ below Qc XC args s mc ms free) (F0 m pc ls rest) q := by
  intro T hT X
  have hpl : e.platform.magicAccessors = ({} : Platform).magicAccessors := by rw [X.admits.platform]
  obtain ⟨vm', hW', X', st⟩ := X.outThrough hlocks q (g := F0 m pc ls rest) rfl rfl rfl (cell := ce) (by rw [hT]; exact hcell) (by rw [hv]; rfl)
    (by obtain ⟨k9, h9, -⟩ := Vm.findClass_spec hcl; exact ⟨k9, h9⟩) (fun z hz => by
      rcases hpass z hz with h | ⟨hz0, nm, hl1, hn1⟩
      · exact Or.inl h
      · obtain ⟨c6, hc6, hcl6⟩ := Cond.classLink_spec hown hl1 e.platform hpl
        obtain ⟨a8, b8, h1, h2, h3⟩ := hn1
        cases Option.some.inj (h1.symm.trans hcl)
        cases Option.some.inj (h2.symm.trans hc6)
        exact Or.inr ⟨hz0, _, hcl6, h3⟩)
  obtain ⟨g₀, hfr⟩ := X'.frames_eq
  have hcell9 : ((T.setVm vm').setFrames (.throwing q :: below)).heap[q]? = some ce := by
    show T.heap[q]? = some ce
    rw [hT]; exact hcell
  have hend : Ended ((T.setVm vm').setFrames (.throwing q :: below)) below (.threw q) := State.frames_setFrames _ (State.cur_lt_of_frames hfr)
  refine ⟨(T.setVm vm').setFrames (.throwing q :: below), ?_, .threw q, X'.here.running, hend, Or.inr ⟨q, rfl, E, ce, locs, hx _ hT (X'.ends _).1.alike, hcell9, hv, hcl, (X'.ends _).1, (X'.ends _).2.mono hc hs, hf⟩⟩
  rw [X.pushThrowing_eq]
  exact st
/-- a thing of a world lies in the heap -/
theorem vx_lt {D : va_G} {cl : List vw_C} {ws : va_W} {H1 : Heap} (h : va_P D cl ws H1) {k : Nat} {q : Nat × va_E} (hk : ws[k]? = some q) : q.1 < H1.size := (h k q hk).lt
end VXS
/-! ===== END ===== -/
/-! ===== BEGIN methods with a table of their own: called by a name, returning or throwing ===== -/
section VXH
/-! vx_backW, vx_callVX, vx_callSX, vx_callVW, vx_runVW, vx_runVX, vx_runSX, vx_ofWH follow the same proofs as their sisters above (Free/Laws.lean, Shelf42/LK1.lean); vx_outP calls Shelf42/NT130.lean (outThrough). -/
section
variable {l : Launch} {R : Room} {p : Program} {e : Env} {below : List Frame} {s : State} {sargs : Array Value} {y : MethodName} {len W9 : Nat}
theorem vx_backW {ws : List Cond} {rm : Room} {Pc : Array Value → State → Prop} {Qc : Array Value → State → Outcome → State → Prop} {XC : String → State → State → Prop} {mc ms : Nat} {free : Addr → Prop} {bytes : ByteArray} {maxL : Nat} {ret : Option FieldType} {hh : List (Nat × Nat × Nat × Nat)}
    (hM : vx_Met l y ws rm Pc Qc XC mc ms free) (hblind : FrameBlind Pc) (hrc : rm.cells = mc) (hrs : rm.slots = ms)
    (hframes : rm.frames + 1 ≤ R.frames) (hlocals : W9 + (maxL + 11) + rm.locals ≤ R.locals)
    (hws : ∀ w ∈ ws, ∀ a' U, s.WarmedH U.vm → w.before a' U = true) (hcode : Cond.codeWith y bytes maxL ret hh ∈ ws) (hinit : ∀ a' U, s.WarmedH U.vm → (Cond.initialized y.cls).before a' U = true) :
    vx_Back l R p e below s sargs y len W9 (PreOf R mc ms Pc) (PostOf Qc mc ms free) (vx_Post XC mc ms free) := by
  intro m meth c A g ig mk a X hg hsize hdg hW hn hp
  have h1 : (headSpec ws rm).pre.before a A.U = true := atoms_intro fun w hw => hws w hw _ _ X.warmed
  have h2 : (Cond.codeWith y bytes maxL ret hh).before a A.U = true := hws _ hcode _ _ X.warmed
  have h3 : (Cond.initialized y.cls).before a A.U = true := hinit _ _ X.warmed
  have h4 : A.cells + (headSpec ws rm).room.cells ≤ R.cells := by rw [show (headSpec ws rm).room.cells = mc from hrc]; exact hp.1
  have h5 : A.slots + (headSpec ws rm).room.slots ≤ R.slots := by rw [show (headSpec ws rm).room.slots = ms from hrs]; exact hp.2.1
  have hPc : Pc a (A.U.calling g mk a) := hblind _ _ _ _ hp.2.2
  obtain ⟨U, Ls, c0, s0⟩ := A
  dsimp only [Pt.U, Pt.locs, Pt.cells, Pt.slots] at h1 h2 h3 h4 h5 X hn hPc ⊢
  obtain ⟨m9, methY, cY, hn9, hmY, hcY, -, hlY, -⟩ := Cond.codeWith_spec h2
  cases Option.some.inj (hn9.symm.trans hn)
  obtain ⟨kY, hkY, -⟩ := className_of_methodNamed hn
  have hinitY : kY.init = .initialized := Cond.initialized_spec (findClass_of_methodNamed hn) hkY h3
  have h : At U g.method c below := by rw [hg]; exact X.here
  have hlocals9 : W9 + (maxL + 11) + (headSpec ws rm).room.locals ≤ R.locals := hlocals
  have happ : (headSpec ws rm).appliesLoose y e.platform (U.calling g mk a) = true :=
    Spec.appliesLoose_calling (g := g) h hdg hn hkY hinitY
      (X.room_calling (g := g) (R' := (headSpec ws rm).room) hsize hmY hcY hframes (by rw [hlY]; omega) h4 h5) h1
  obtain ⟨mid, hmid⟩ := h.above
  have hfr : (U.setTop g).frames = (.java g :: mid) ++ below := by rw [State.frames_setTop' g h.top, hmid]; rfl
  obtain ⟨o, s₂, hsteps, -, hend, hq⟩ := Steps.callFree hM p X.admits X.cas X.clock (acts := []) hfr happ hPc trivial
  have hq' : vx_Q Qc XC mc ms free a (U.calling g mk a) o s₂ := hq
  rw [State.frames_setTop' g h.top] at hend
  obtain ⟨g₀, hg0⟩ := Option.isSome_iff_exists.mp h.top
  obtain ⟨r, hr⟩ := State.topJava?_eq_some.mp hg0
  have hr' : (({ U with heap := s₂.heap, slotsUsed := s₂.slotsUsed } : State).setVm s₂.vm).frames = .java g₀ :: r := hr
  rcases hq' with ⟨hqc, L, hfe, hL⟩ | ⟨q, rfl, E, ce, L, hx, hce, hcv, hcl, hW₂, hsm, hL⟩
  · obtain ⟨⟨v, rfl⟩, hW₂, e2, q2, q3, q4, q5, q6⟩ := id hfe
    have e3 : s₂ = ({ (U.calling g mk a).setFrames s₂.frames with heap := s₂.heap, slotsUsed := s₂.slotsUsed } : State).setVm s₂.vm := by
      have : s₂ = ({ s₂ with vm := (U.calling g mk a).vm } : State).setVm s₂.vm := rfl
      rw [e2] at this
      exact this
    obtain ⟨c₂, i₂, len₂, hc₂, hd₂, hf₂⟩ := hend
    have hW' : U.WarmedH s₂.vm := hW₂
    have hcc : c₂ = c := by
      have h1 : s₂.code? g.method = U.code? g.method := by
        rw [State.code?_eq, State.code?_eq, hW'.alike.method?]
      exact Option.some.inj (hc₂.symm.trans (h1.trans h.code))
    subst hcc
    have hlen : len₂ = len := by rw [hdg] at hd₂; cases hd₂; rfl
    subst hlen
    have hs₂ : s₂ = (({ U with heap := s₂.heap, slotsUsed := s₂.slotsUsed } : State).setVm s₂.vm).setTop { g with pc := g.pc + len₂, stack := v.toList ++ g.stack } := by
      refine e3.trans ?_
      rw [hf₂, State.calling_eq h.top, State.setFrames_setFrames, State.setTop_of_frames _ hr', hr]
      rfl
    have hsame : U.sameButNew ({ U with heap := s₂.heap, slotsUsed := s₂.slotsUsed } : State) L mc ms := by
      refine ⟨?_, q2, q3, q4, q5, q6⟩
      obtain ⟨t, ht, -⟩ := State.frames_cons hr
      show ({ U with heap := s₂.heap, slotsUsed := s₂.slotsUsed } : State) = { U.setFrames U.frames with heap := s₂.heap, slotsUsed := s₂.slotsUsed }
      rw [State.setFrames_self ht]
    subst hg
    refine Or.inl ⟨v, ⟨(({ U with heap := s₂.heap, slotsUsed := s₂.slotsUsed } : State).setVm s₂.vm), Ls ++ L, c0 + mc, s0 + ms⟩,
      ⟨X.admits, X.cas, X.clock, X.frames, X.room, X.hears, X.method, X.code, (X.here.setHeapUsed s₂.heap s₂.slotsUsed).setVm hW'.alike, X.tail, State.WarmedH.trans X.warmed hW', X.limits, X.bytes, X.same.trans (hsame.setVm s.vm)⟩,
      ⟨g, mk, s₂, L, rfl, rfl, hqc, rfl, hL, rfl, rfl⟩, ?_⟩
    show Steps p.tables e below _ ((({ U with heap := s₂.heap, slotsUsed := s₂.slotsUsed } : State).setVm s₂.vm).setTop { g with pc := g.pc + len₂, stack := v.toList ++ g.stack })
    rw [← hs₂]
    exact hsteps
  · obtain ⟨e2, q2, q3, q4, q5, q6⟩ := id hsm
    have e3 : s₂ = ({ (U.calling g mk a).setFrames s₂.frames with heap := s₂.heap, slotsUsed := s₂.slotsUsed } : State).setVm s₂.vm := by
      have : s₂ = ({ s₂ with vm := (U.calling g mk a).vm } : State).setVm s₂.vm := rfl
      rw [e2] at this
      exact this
    have hf₂ : s₂.frames = .throwing q :: .java g :: U.frames.tail := hend
    have hW' : U.WarmedH s₂.vm := hW₂
    have hs₂ : s₂ = ((({ U with heap := s₂.heap, slotsUsed := s₂.slotsUsed } : State).setVm s₂.vm).setTop g).pushFrame (.throwing q) := by
      refine e3.trans ?_
      rw [hf₂, State.calling_eq h.top, State.setFrames_setFrames, State.pushFrame, State.frames_setTop _ hr', State.setTop_of_frames _ hr', State.setFrames_setFrames, hr]
      rfl
    have hsame : U.sameButNew ({ U with heap := s₂.heap, slotsUsed := s₂.slotsUsed } : State) L mc ms := by
      refine ⟨?_, q2, q3, q4, q5, q6⟩
      obtain ⟨t, ht, -⟩ := State.frames_cons hr
      show ({ U with heap := s₂.heap, slotsUsed := s₂.slotsUsed } : State) = { U.setFrames U.frames with heap := s₂.heap, slotsUsed := s₂.slotsUsed }
      rw [State.setFrames_self ht]
    subst hg
    refine Or.inr ⟨q, ⟨(({ U with heap := s₂.heap, slotsUsed := s₂.slotsUsed } : State).setVm s₂.vm), Ls ++ L, c0 + mc, s0 + ms⟩,
      ⟨X.admits, X.cas, X.clock, X.frames, X.room, X.hears, X.method, X.code, (X.here.setHeapUsed s₂.heap s₂.slotsUsed).setVm hW'.alike, X.tail, State.WarmedH.trans X.warmed hW', X.limits, X.bytes, X.same.trans (hsame.setVm s.vm)⟩,
      ⟨g, mk, s₂, L, E, ce, rfl, rfl, hx, hce, hcv, hcl, rfl, hL, rfl, rfl⟩, ?_⟩
    show Steps p.tables e below _ (((({ U with heap := s₂.heap, slotsUsed := s₂.slotsUsed } : State).setVm s₂.vm).setTop g).pushFrame (.throwing q))
    rw [← hs₂]
    exact hsteps
end
variable {p : Program} {l : Launch} {e : Env} {R : Room} {s : State} {m : MethodId} {args : Array Value} {below : List Frame} {meth : Method} {c : Code} {T : State} {H : Heap} {locs : List Loc} {cells slots : Nat}
theorem vx_callVX (X : Stand p l e R s m args below meth c T locs cells slots) (hexec : p.tables.exec = Jvm.exec) {own C : String} {index : Nat} {y : MethodName} {bytes : ByteArray} {maxL : Nat} {ret : Option FieldType} {hh : List (Nat × Nat × Nat × Nat)}
    (hown : s.vm.findClass own = some m.cls) (hlink : (Cond.methodLink own index y).before args s = true) (hinst : (Cond.instanceMethod y).before args s = true) (hsel : (Cond.selects C y y).before args s = true)
    (hcode : (Cond.codeWith y bytes maxL ret hh).before args s = true) (hy : y.cls ≠ "java/lang/invoke/MethodHandle" ∧ y.cls ≠ "java/lang/invoke/VarHandle")
    {W9 : Nat} {Pre : Pt → Array Value → Prop} {Post : Pt → Array Value → Option Value → Pt → Prop} {PostX : Pt → Array Value → Addr → Pt → Prop} (hK : vx_Back l R p e below s args y 3 W9 Pre Post PostX)
    {b : Addr} {cellB : Cell} (hcell : T.heap[b]? = some cellB) (hobj : cellB.vm.isStatics = false) (hcls : s.vm.findClass C = some cellB.cls)
    {g : JFrame} (hg : g.method = m) (hsize : g.locals.size = c.maxLocals) {argsL rest : List Value} (hlen : ∀ sig, parseMethodDescriptor y.desc = some sig → argsL.length = sig.parameters.length)
    (hstack : g.stack = argsL.reverse ++ .ref b :: rest) (hW : 2 * g.monitorRoom + (rest.map fun v => v.category).sum ≤ W9) (hdg : decode c.code g.pc = .ok (.invokevirtual index, 3))
    (hpre : ∀ vm₁, s.WarmedH vm₁ → Pre ⟨T.setVm vm₁, locs, cells, slots⟩ (Value.ref b :: argsL).toArray) :
    (∃ (v : Option Value) (vm₁ : Vm) (B : Pt), s.WarmedH vm₁ ∧ Stand p l e R s m args below meth c B.U B.locs B.cells B.slots ∧ Post ⟨T.setVm vm₁, locs, cells, slots⟩ (Value.ref b :: argsL).toArray v B ∧
      ∀ target, Steps p.tables e below (B.U.setTop { g with pc := g.pc + 3, stack := v.toList ++ rest }) target → Steps p.tables e below (T.setTop g) target) ∨
    (∃ (q : Addr) (vm₁ : Vm) (B : Pt), s.WarmedH vm₁ ∧ Stand p l e R s m args below meth c B.U B.locs B.cells B.slots ∧ PostX ⟨T.setVm vm₁, locs, cells, slots⟩ (Value.ref b :: argsL).toArray q B ∧
      Steps p.tables e below (T.setTop g) ((B.U.setTop { g with stack := rest }).pushFrame (.throwing q))) := by
  obtain ⟨mk, methM, hnamed, hmethM, hstM, habM⟩ := Cond.instanceMethod_spec hinst
  obtain ⟨m8, methM', cM, hn8, hmethM', -, -, -, -, -, -, hsigM⟩ := Cond.codeWith_spec hcode
  cases Option.some.inj (hn8.symm.trans hnamed)
  cases hmethM.symm.trans hmethM'
  obtain ⟨c2, r2, m2, q1, q2, q3, q4, kP, hkP, hkPi⟩ := Cond.selects_spec hsel
  cases hcls.symm.trans q1
  cases (State.methodFound?_of_named hnamed hy).symm.trans q2
  cases hnamed.symm.trans q3
  have hselP : selectMethod e.platform s.vm cellB.cls mk = .method mk := by rw [Launch.admits_selectMethod X.admits]; exact q4
  obtain ⟨vm₁, X₁, hstep₁⟩ := X.invokevirtual hexec hown hlink hnamed hmethM hstM hkP hkPi hy (a := b) (cell := cellB) hcell
    (fun z h => by rw [h] at hobj; cases hobj) hselP hmethM habM hkP hkPi (g := g) hg (argsL := argsL) (rest := rest) (hlen _ hsigM) hstack hdg
  rcases hK m meth c ⟨T.setVm vm₁, locs, cells, slots⟩ { g with stack := rest } (.invokevirtual index) mk (Value.ref b :: argsL).toArray X₁ hg hsize hdg hW (X₁.named hnamed) (hpre vm₁ X₁.warmed) with ⟨v, B, X', hpost, hsteps⟩ | ⟨q, B, X', hpost, hsteps⟩
  · exact Or.inl ⟨v, vm₁, B, X₁.warmed, X', hpost, fun target h => hstep₁ _ fun acts => by rw [doInvoke_state]; exact hsteps.trans h⟩
  · exact Or.inr ⟨q, vm₁, B, X₁.warmed, X', hpost, hstep₁ _ fun acts => by rw [doInvoke_state]; exact hsteps⟩
theorem vx_callSX (X : Stand p l e R s m args below meth c T locs cells slots) (hexec : p.tables.exec = Jvm.exec) {own : String} {index : Nat} {y : MethodName} {bytes : ByteArray} {maxL : Nat} {ret : Option FieldType} {hh : List (Nat × Nat × Nat × Nat)}
    (hown : s.vm.findClass own = some m.cls) (hlink : (Cond.methodLink own index y).before args s = true) (hstat : (Cond.static y).before args s = true) (hinit : (Cond.initialized y.cls).before args s = true)
    (hcode : (Cond.codeWith y bytes maxL ret hh).before args s = true) (hy : y.cls ≠ "java/lang/invoke/MethodHandle" ∧ y.cls ≠ "java/lang/invoke/VarHandle")
    {W9 : Nat} {Pre : Pt → Array Value → Prop} {Post : Pt → Array Value → Option Value → Pt → Prop} {PostX : Pt → Array Value → Addr → Pt → Prop} (hK : vx_Back l R p e below s args y 3 W9 Pre Post PostX)
    {g : JFrame} (hg : g.method = m) (hsize : g.locals.size = c.maxLocals) {argsL rest : List Value} (hlen : ∀ sig, parseMethodDescriptor y.desc = some sig → argsL.length = sig.parameters.length)
    (hstack : g.stack = argsL.reverse ++ rest) (hW : 2 * g.monitorRoom + (rest.map fun v => v.category).sum ≤ W9) (hdg : decode c.code g.pc = .ok (.invokestatic index, 3))
    (hpre : ∀ vm₁, s.WarmedH vm₁ → Pre ⟨T.setVm vm₁, locs, cells, slots⟩ argsL.toArray) :
    (∃ (v : Option Value) (vm₁ : Vm) (B : Pt), s.WarmedH vm₁ ∧ Stand p l e R s m args below meth c B.U B.locs B.cells B.slots ∧ Post ⟨T.setVm vm₁, locs, cells, slots⟩ argsL.toArray v B ∧
      ∀ target, Steps p.tables e below (B.U.setTop { g with pc := g.pc + 3, stack := v.toList ++ rest }) target → Steps p.tables e below (T.setTop g) target) ∨
    (∃ (q : Addr) (vm₁ : Vm) (B : Pt), s.WarmedH vm₁ ∧ Stand p l e R s m args below meth c B.U B.locs B.cells B.slots ∧ PostX ⟨T.setVm vm₁, locs, cells, slots⟩ argsL.toArray q B ∧
      Steps p.tables e below (T.setTop g) ((B.U.setTop { g with stack := rest }).pushFrame (.throwing q))) := by
  obtain ⟨mk, methM, cM, hnamed, hmethM, -, -, -, -, -, -, hsigM⟩ := Cond.codeWith_spec hcode
  have hstatic : methM.isStatic = true := Cond.static_spec hnamed hmethM hstat
  obtain ⟨kP, hkP, -⟩ := className_of_methodNamed hnamed
  have hinitP : kP.init = .initialized := Cond.initialized_spec (findClass_of_methodNamed hnamed) hkP hinit
  obtain ⟨vm₁, X₁, hstep₁⟩ := X.invokestatic hexec hown hlink hnamed hmethM hstatic hkP hinitP hy (g := g) hg (argsL := argsL) (rest := rest) (hlen _ hsigM) hstack hdg
  rcases hK m meth c ⟨T.setVm vm₁, locs, cells, slots⟩ { g with stack := rest } (.invokestatic index) mk argsL.toArray X₁ hg hsize hdg hW (X₁.named hnamed) (hpre vm₁ X₁.warmed) with ⟨v, B, X', hpost, hsteps⟩ | ⟨q, B, X', hpost, hsteps⟩
  · exact Or.inl ⟨v, vm₁, B, X₁.warmed, X', hpost, fun target h => hstep₁ _ fun acts => by rw [doInvoke_state]; exact hsteps.trans h⟩
  · exact Or.inr ⟨q, vm₁, B, X₁.warmed, X', hpost, hstep₁ _ fun acts => by rw [doInvoke_state]; exact hsteps⟩
theorem vx_callVW (X : Stand p l e R s m args below meth c T locs cells slots) (hexec : p.tables.exec = Jvm.exec) {own C : String} {index : Nat} {y : MethodName} {bytes : ByteArray} {maxL : Nat} {ret : Option FieldType} {hh : List (Nat × Nat × Nat × Nat)}
    (hown : s.vm.findClass own = some m.cls) (hlink : (Cond.methodLink own index y).before args s = true) (hinst : (Cond.instanceMethod y).before args s = true) (hsel : (Cond.selects C y y).before args s = true)
    (hcode : (Cond.codeWith y bytes maxL ret hh).before args s = true) (hy : y.cls ≠ "java/lang/invoke/MethodHandle" ∧ y.cls ≠ "java/lang/invoke/VarHandle")
    {W9 : Nat} {Pre : Pt → Array Value → Prop} {Post : Pt → Array Value → Option Value → Pt → Prop} (hK : Back l R p e below s args y 3 W9 Pre Post)
    {b : Addr} {cellB : Cell} (hcell : T.heap[b]? = some cellB) (hobj : cellB.vm.isStatics = false) (hcls : s.vm.findClass C = some cellB.cls)
    {g : JFrame} (hg : g.method = m) (hsize : g.locals.size = c.maxLocals) {argsL rest : List Value} (hlen : ∀ sig, parseMethodDescriptor y.desc = some sig → argsL.length = sig.parameters.length)
    (hstack : g.stack = argsL.reverse ++ .ref b :: rest) (hW : 2 * g.monitorRoom + (rest.map fun v => v.category).sum ≤ W9) (hdg : decode c.code g.pc = .ok (.invokevirtual index, 3))
    (hpre : ∀ vm₁, s.WarmedH vm₁ → Pre ⟨T.setVm vm₁, locs, cells, slots⟩ (Value.ref b :: argsL).toArray) :
    ∃ (v : Option Value) (vm₁ : Vm) (B : Pt), s.WarmedH vm₁ ∧ Stand p l e R s m args below meth c B.U B.locs B.cells B.slots ∧ Post ⟨T.setVm vm₁, locs, cells, slots⟩ (Value.ref b :: argsL).toArray v B ∧
      ∀ target, Steps p.tables e below (B.U.setTop { g with pc := g.pc + 3, stack := v.toList ++ rest }) target → Steps p.tables e below (T.setTop g) target := by
  obtain ⟨mk, methM, hnamed, hmethM, hstM, habM⟩ := Cond.instanceMethod_spec hinst
  obtain ⟨m8, methM', cM, hn8, hmethM', -, -, -, -, -, -, hsigM⟩ := Cond.codeWith_spec hcode
  cases Option.some.inj (hn8.symm.trans hnamed)
  cases hmethM.symm.trans hmethM'
  obtain ⟨c2, r2, m2, q1, q2, q3, q4, kP, hkP, hkPi⟩ := Cond.selects_spec hsel
  cases hcls.symm.trans q1
  cases (State.methodFound?_of_named hnamed hy).symm.trans q2
  cases hnamed.symm.trans q3
  have hselP : selectMethod e.platform s.vm cellB.cls mk = .method mk := by rw [Launch.admits_selectMethod X.admits]; exact q4
  obtain ⟨vm₁, X₁, hstep₁⟩ := X.invokevirtual hexec hown hlink hnamed hmethM hstM hkP hkPi hy (a := b) (cell := cellB) hcell
    (fun z h => by rw [h] at hobj; cases hobj) hselP hmethM habM hkP hkPi (g := g) hg (argsL := argsL) (rest := rest) (hlen _ hsigM) hstack hdg
  obtain ⟨v, B, X', hpost, hsteps⟩ := hK m meth c ⟨T.setVm vm₁, locs, cells, slots⟩ { g with stack := rest } (.invokevirtual index) mk (Value.ref b :: argsL).toArray X₁ hg hsize hdg hW (X₁.named hnamed) (hpre vm₁ X₁.warmed)
  exact ⟨v, vm₁, B, X₁.warmed, X', hpost, fun target h => hstep₁ _ fun acts => by rw [doInvoke_state]; exact hsteps.trans h⟩
abbrev vx_CVW (R : Room) (s : State) (args : Array Value) (own C : String) (index : Nat) (y : MethodName) (bytes : ByteArray) (maxL : Nat) (ret : Option FieldType) (hh : List (Nat × Nat × Nat × Nat)) (ws : List Cond) (rm : Room) (mc ms n : Nat) : Prop :=
  (rm.cells = mc ∧ rm.slots = ms ∧ rm.frames + 1 ≤ R.frames ∧ 8 + (maxL + 11) + rm.locals ≤ R.locals ∧ (∀ w ∈ ws, ∀ (a' : Array Value) (U : State), s.WarmedH U.vm → w.before a' U = true) ∧ Cond.codeWith y bytes maxL ret hh ∈ ws) ∧
  (Cond.codeWith y bytes maxL ret hh).before args s = true ∧ (Cond.initialized y.cls).before args s = true ∧ (y.cls ≠ "java/lang/invoke/MethodHandle" ∧ y.cls ≠ "java/lang/invoke/VarHandle") ∧
  (∀ sig, parseMethodDescriptor y.desc = some sig → n = sig.parameters.length) ∧ (Cond.methodLink own index y).before args s = true ∧ (Cond.instanceMethod y).before args s = true ∧ (Cond.selects C y y).before args s = true
theorem vx_cwVW {own C : String} {index maxL mc ms : Nat} {y : MethodName} {bytes : ByteArray} {ret : Option FieldType} {hh : List (Nat × Nat × Nat × Nat)} {Ts ws ws' : List Cond} {rm : Room} (n : Nat) (ht : ∀ w ∈ Ts, w.before args s = true) (hT : GoodIn Ts (wsV own index C y ws)) (hw : ws = Cond.codeWith y bytes maxL ret hh :: ws') (hrc : rm.cells = mc) (hrs : rm.slots = ms)
    (hd : y.cls = C ∧ y.cls ≠ "java/lang/invoke/MethodHandle" ∧ y.cls ≠ "java/lang/invoke/VarHandle" ∧ (parseMethodDescriptor y.desc).map (fun d => d.parameters.length) = some n) (hR : rm.frames + 1 ≤ R.frames ∧ 8 + (maxL + 11) + rm.locals ≤ R.locals) :
    vx_CVW R s args own C index y bytes maxL ret hh ws rm mc ms n := by
  obtain ⟨hC, hd⟩ := hd
  subst hC
  have ok : ∀ w ∈ wsV own index y.cls y ws, w.before args s = true := fun w h => ht w (hT w h).1
  have hG : GoodIn Ts ws := fun w h => hT w (by unfold wsV; exact List.mem_append_right _ h)
  have hc : Cond.codeWith y bytes maxL ret hh ∈ ws := by rw [hw]; exact List.mem_cons_self
  refine ⟨⟨hrc, hrs, hR.1, hR.2, pay_in ht hG, hc⟩, ht _ (hG _ hc).1, ok _ (by simp [wsV]), ⟨hd.1, hd.2.1⟩, fun sig h => ?_, ok _ (by simp [wsV]), ok _ (by simp [wsV]), ok _ (by simp [wsV])⟩
  have h2 := hd.2.2
  rw [h] at h2
  exact (Option.some.inj h2).symm
theorem vx_runVW {y : MethodName} {bytes cc : ByteArray} {maxL nL mc ms n index : Nat} {ret : Option FieldType} {hh : List (Nat × Nat × Nat × Nat)} {ws : List Cond} {rm : Room} {Pc : Array Value → State → Prop} {Qc : Array Value → State → Outcome → State → Prop} {free : Addr → Prop} {Ts : List Cond} {own C : String} {b : Addr} {As rest : List Value} {g : JFrame}
    (S : CallFix p m c cc nL s args Ts own) (hM : Met l y ws rm Pc Qc mc ms free) (cw : vx_CVW R s args own C index y bytes maxL ret hh ws rm mc ms n) (hp : PreV s H C b Pc As)
    (hg : g.method = m) (hn : As.length = n) (hsize : g.locals.size = nL) (hstack : g.stack = As.reverse ++ .ref b :: rest) (hW : 2 * g.monitorRoom + (rest.map fun v => v.category).sum ≤ 8) (hdg : decode cc g.pc = .ok (.invokevirtual index, 3)) (hf : cells + mc ≤ R.cells ∧ slots + ms ≤ R.slots) :
    va_Run p l e R s m args below meth c H locs cells slots mc ms g rest (Qc (Value.ref b :: As).toArray) free := by
  obtain ⟨⟨hrc, hrs, hfr, hlo, hws, hcw⟩, hcode, hini, hy, hlen, hl, hin, hse⟩ := cw
  have hK : Back l R p e below s args y 3 8 (PreOf R mc ms Pc) (PostOf Qc mc ms free) := va_backW (hh := hh) (bytes := bytes) (maxL := maxL) (ret := ret) hM hp.1 hrc hrs hfr hlo hws hcw (fun a' U hW => word_at hW (Or.inl (by first | rfl | simp [Cond.onTables, Cond.keeps, Cond.steady])) hini)
  obtain ⟨hx, hb, hml, ho, -⟩ := S
  obtain ⟨-, ⟨cellB, hcB, hoB, hclB⟩, hPc⟩ := hp
  intro T hT X
  obtain ⟨v, vm₁, ⟨U', l2, c2, s2⟩, hW₁, X', ⟨g', mk, t, L, e1, e2, hq, h1, hL, h2, h3⟩, st⟩ := vx_callVW X hx (C := C) (hh := hh) (bytes := bytes) (maxL := maxL) (ret := ret) ho hl hin hse hcode hy hK (by rw [hT]; exact hcB) hoB hclB hg (hsize.trans hml.symm) (argsL := As) (rest := rest) (fun sig h => hn.trans (hlen sig h)) hstack hW (by rw [hb]; exact hdg)
    (fun vm₁ hW₁ => ⟨hf.1, hf.2, hPc (T.setVm vm₁) hT hW₁⟩)
  dsimp only [Pt.U, Pt.locs, Pt.cells, Pt.slots] at X' e1 e2 h1 h2 h3 st
  subst h1; subst h2; subst h3
  exact ⟨v, (T.setVm vm₁).calling g' mk (Value.ref b :: As).toArray, t, U', L, hT, X', hL, e1, e2, hq, st⟩
section
variable {y : MethodName} {bytes cc : ByteArray} {maxL nL mc ms n index : Nat} {ret : Option FieldType} {ws : List Cond} {rm : Room} {Pc : Array Value → State → Prop} {Qc : Array Value → State → Outcome → State → Prop} {XC : String → State → State → Prop} {free : Addr → Prop} {Ts : List Cond} {own C : String} {b : Addr} {As rest : List Value} {g : JFrame}
theorem vx_runVX {hh : List (Nat × Nat × Nat × Nat)} (S : CallFix p m c cc nL s args Ts own) (hM : vx_Met l y ws rm Pc Qc XC mc ms free) (cw : vx_CVW R s args own C index y bytes maxL ret hh ws rm mc ms n) (hp : PreV s H C b Pc As)
    (hg : g.method = m) (hn : As.length = n) (hsize : g.locals.size = nL) (hstack : g.stack = As.reverse ++ .ref b :: rest) (hW : 2 * g.monitorRoom + (rest.map fun v => v.category).sum ≤ 8) (hdg : decode cc g.pc = .ok (.invokevirtual index, 3)) (hf : cells + mc ≤ R.cells ∧ slots + ms ≤ R.slots) :
    vx_Run p l e R s m args below meth c H locs cells slots mc ms g rest (Qc (Value.ref b :: As).toArray) XC free := by
  obtain ⟨⟨hrc, hrs, hfr, hlo, hws, hcw⟩, hcode, hini, hy, hlen, hl, hin, hse⟩ := cw
  have hK : vx_Back l R p e below s args y 3 8 (PreOf R mc ms Pc) (PostOf Qc mc ms free) (vx_Post XC mc ms free) := vx_backW (hh := hh) (bytes := bytes) (maxL := maxL) (ret := ret) hM hp.1 hrc hrs hfr hlo hws hcw (fun a' U hW => word_at hW (Or.inl (by first | rfl | simp [Cond.onTables, Cond.keeps, Cond.steady])) hini)
  obtain ⟨hx, hb, hml, ho, -⟩ := S
  obtain ⟨-, ⟨cellB, hcB, hoB, hclB⟩, hPc⟩ := hp
  intro T hT X
  rcases vx_callVX X hx (C := C) (hh := hh) (bytes := bytes) (maxL := maxL) (ret := ret) ho hl hin hse hcode hy hK (by rw [hT]; exact hcB) hoB hclB hg (hsize.trans hml.symm) (argsL := As) (rest := rest) (fun sig h => hn.trans (hlen sig h)) hstack hW (by rw [hb]; exact hdg)
    (fun vm₁ hW₁ => ⟨hf.1, hf.2, hPc (T.setVm vm₁) hT hW₁⟩) with ⟨v, vm₁, ⟨U', l2, c2, s2⟩, hW₁, X', ⟨g', mk, t, L, e1, e2, hq, h1, hL, h2, h3⟩, st⟩ | ⟨q, vm₁, ⟨U', l2, c2, s2⟩, hW₁, X', ⟨g', mk, t, L, E, ce, e1, e2, hq, hce, hcv, hcl, h1, hL, h2, h3⟩, st⟩
  · dsimp only [Pt.U, Pt.locs, Pt.cells, Pt.slots] at X' e1 e2 h1 h2 h3 st
    subst h1; subst h2; subst h3
    exact Or.inl ⟨v, (T.setVm vm₁).calling g' mk (Value.ref b :: As).toArray, t, U', L, hT, X', hL, e1, e2, hq, st⟩
  · dsimp only [Pt.U, Pt.locs, Pt.cells, Pt.slots] at X' e1 e2 h1 h2 h3 st hcl
    subst h1; subst h2; subst h3
    exact Or.inr ⟨q, (T.setVm vm₁).calling g' mk (Value.ref b :: As).toArray, t, U', L, E, ce, hT, X', hL, e1, e2, hq, hce, hcv, vx_cls hW₁ hcl, st⟩
theorem vx_runSX {hh : List (Nat × Nat × Nat × Nat)} (S : CallFix p m c cc nL s args Ts own) (hM : vx_Met l y ws rm Pc Qc XC mc ms free) (cw : vx_CSW R s args own index y bytes maxL ret hh ws rm mc ms n) (hp : PreS s H Pc As)
    (hg : g.method = m) (hn : As.length = n) (hsize : g.locals.size = nL) (hstack : g.stack = As.reverse ++ rest) (hW : 2 * g.monitorRoom + (rest.map fun v => v.category).sum ≤ 8) (hdg : decode cc g.pc = .ok (.invokestatic index, 3)) (hf : cells + mc ≤ R.cells ∧ slots + ms ≤ R.slots) :
    vx_Run p l e R s m args below meth c H locs cells slots mc ms g rest (Qc As.toArray) XC free := by
  obtain ⟨⟨hrc, hrs, hfr, hlo, hws, hcw⟩, hcode, hini, hy, hlen, hl, hstt⟩ := cw
  have hK : vx_Back l R p e below s args y 3 8 (PreOf R mc ms Pc) (PostOf Qc mc ms free) (vx_Post XC mc ms free) := vx_backW (hh := hh) (bytes := bytes) (maxL := maxL) (ret := ret) hM hp.1 hrc hrs hfr hlo hws hcw (fun a' U hW => word_at hW (Or.inl (by first | rfl | simp [Cond.onTables, Cond.keeps, Cond.steady])) hini)
  obtain ⟨hx, hb, hml, ho, -⟩ := S
  intro T hT X
  rcases vx_callSX X hx (hh := hh) (bytes := bytes) (maxL := maxL) (ret := ret) ho hl hstt hini hcode hy hK hg (hsize.trans hml.symm) (argsL := As) (rest := rest) (fun sig h => hn.trans (hlen sig h)) hstack hW (by rw [hb]; exact hdg)
    (fun vm₁ hW₁ => ⟨hf.1, hf.2, hp.2 (T.setVm vm₁) hT hW₁⟩) with ⟨v, vm₁, ⟨U', l2, c2, s2⟩, hW₁, X', ⟨g', mk, t, L, e1, e2, hq, h1, hL, h2, h3⟩, st⟩ | ⟨q, vm₁, ⟨U', l2, c2, s2⟩, hW₁, X', ⟨g', mk, t, L, E, ce, e1, e2, hq, hce, hcv, hcl, h1, hL, h2, h3⟩, st⟩
  · dsimp only [Pt.U, Pt.locs, Pt.cells, Pt.slots] at X' e1 e2 h1 h2 h3 st
    subst h1; subst h2; subst h3
    exact Or.inl ⟨v, (T.setVm vm₁).calling g' mk As.toArray, t, U', L, hT, X', hL, e1, e2, hq, st⟩
  · dsimp only [Pt.U, Pt.locs, Pt.cells, Pt.slots] at X' e1 e2 h1 h2 h3 st hcl
    subst h1; subst h2; subst h3
    exact Or.inr ⟨q, (T.setVm vm₁).calling g' mk As.toArray, t, U', L, E, ce, hT, X', hL, e1, e2, hq, hce, hcv, vx_cls hW₁ hcl, st⟩
end
end VXH
theorem vx_ofWH {l : Launch} {y : MethodName} {ws ws' : List Cond} {rm : Room} {Pc : Array Value → State → Prop} {Qc : Array Value → State → Outcome → State → Prop} {XC : String → State → State → Prop} {mc ms : Nat} {free : Addr → Prop} {cc : ByteArray} {maxL : Nat} {ret : Option FieldType} {hh : List (Nat × Nat × Nat × Nat)}
    (hy : plainName y.cls = true) (hw : ws = Cond.codeWith y cc maxL ret hh :: ws')
    (body : ∀ p e s m args below meth c s₁, BodyLoose p l y (headSpec ws rm) cc maxL ret e s m args below meth c s₁ → c.maxLocals = maxL → Pc args s →
      W p l e (headSpec ws rm).room s m args below meth c s.heap [] 0 0 (vx_MQ below Qc XC args s mc ms free) (entryFrame m args maxL)) : vx_Met l y ws rm Pc Qc XC mc ms free := by
  refine MetFree.of_bodyS (code := cc) (maxLocals := maxL) (ret := ret) hy ?_ ?_
  · intro args s m h hn
    obtain ⟨m9, meth, c, hn9, h1, h2, h3, h4, -, h5, h6, -⟩ := Cond.codeWith_spec (atoms_spec (ws := ws) h _ (by rw [hw]; exact List.mem_cons_self))
    cases hn.symm.trans hn9
    exact ⟨meth, c, h1, h2, h3, h4, h5, h6⟩
  · intro p e s m args below meth c s₁ B hml hP _
    have hh0 : s₁.heap = s.heap := by rw [B.state]; rfl
    obtain ⟨t, a1, o, b1, b2, b3⟩ := body p e s m args below meth c s₁ B hml hP s₁ hh0 (Stand.of_body B)
    exact ⟨t, o, a1, b1, b2, b3⟩
/-! ===== END ===== -/
end
section
def RX0 : String := "ShipLanterns$Cables"
def TX0 : u_T := fun k => match k with
  | 0 => ("ShipLanterns$Cables", "boxes", "I", false)
  | 1 => ("ShipLanterns$Cables", "parent", "[I", true)
  | 2 => ("ShipLanterns$Cables", "crossed", "[Z", true)
  | 3 => ("ShipLanterns$Cables", "closed", "[Z", true)
  | 4 => ("ShipLanterns$Cables", "rating", "[I", true)
  | _ => ("ShipLanterns$Cables", "blown", "[Z", true)
def tyX0 : Nat → FieldType := fun k => match k with
  | 0 => .int
  | 1 => .array .int
  | 2 => .array .boolean
  | 3 => .array .boolean
  | 4 => .array .int
  | _ => .array .boolean
abbrev wsX00 : List Cond := u_ws RX0 TX0 6
theorem nmX0 : ∀ a, a < 6 → ∀ b, b < 6 → a ≠ b → (TX0 a).2.1 ≠ (TX0 b).2.1 := by decide +kernel
theorem tyX0_ok : ∀ k, k < 6 → parseFieldDescriptor (TX0 k).2.2.1 = some (tyX0 k) := by decide +kernel
abbrev cX0_init : ByteArray := prog_2_method_1_code
def yX0_init : MethodName := ⟨RX0, "<init>", "()V"⟩
abbrev cX0_add : ByteArray := prog_2_method_2_code
def yX0_add : MethodName := ⟨RX0, "add", "(IIIZ)V"⟩
abbrev cX0_connected : ByteArray := prog_2_method_3_code
def yX0_connected : MethodName := ⟨RX0, "connected", "(II)I"⟩
abbrev cX0_blownFuses : ByteArray := prog_2_method_4_code
def yX0_blownFuses : MethodName := ⟨RX0, "blownFuses", "()I"⟩
abbrev cX0_copy : ByteArray := prog_2_method_5_code
def yX0_copy : MethodName := ⟨RX0, "copy", "(LShipLanterns$Cables;)V"⟩
def RX1 : String := "ShipLanterns$Faults"
def TX1 : u_T := fun k => match k with
  | 0 => ("ShipLanterns$Faults", "many", "I", false)
  | 1 => ("ShipLanterns$Faults", "box", "[I", true)
  | 2 => ("ShipLanterns$Faults", "terminal", "[I", true)
  | _ => ("ShipLanterns$Faults", "strength", "[I", true)
def tyX1 : Nat → FieldType := fun k => match k with
  | 0 => .int
  | 1 => .array .int
  | 2 => .array .int
  | _ => .array .int
abbrev wsX10 : List Cond := u_ws RX1 TX1 4
theorem nmX1 : ∀ a, a < 4 → ∀ b, b < 4 → a ≠ b → (TX1 a).2.1 ≠ (TX1 b).2.1 := by decide +kernel
theorem tyX1_ok : ∀ k, k < 4 → parseFieldDescriptor (TX1 k).2.2.1 = some (tyX1 k) := by decide +kernel
abbrev cX1_init : ByteArray := prog_3_method_1_code
def yX1_init : MethodName := ⟨RX1, "<init>", "()V"⟩
abbrev cX1_add : ByteArray := prog_3_method_2_code
def yX1_add : MethodName := ⟨RX1, "add", "(III)V"⟩
abbrev cX1_remove : ByteArray := prog_3_method_3_code
def yX1_remove : MethodName := ⟨RX1, "remove", "(I)V"⟩
abbrev cX1_copy : ByteArray := prog_3_method_4_code
def yX1_copy : MethodName := ⟨RX1, "copy", "(LShipLanterns$Faults;)V"⟩
def RX2 : String := "ShipLanterns$History"
def TX2 : u_T := fun k => match k with
  | 0 => ("ShipLanterns$History", "many", "I", false)
  | _ => ("ShipLanterns$History", "saved", "[LShipLanterns$Ship;", true)
def tyX2 : Nat → FieldType := fun k => match k with
  | 0 => .int
  | _ => .array (.object "ShipLanterns$Ship")
abbrev wsX20 : List Cond := u_ws RX2 TX2 2
theorem nmX2 : ∀ a, a < 2 → ∀ b, b < 2 → a ≠ b → (TX2 a).2.1 ≠ (TX2 b).2.1 := by decide +kernel
theorem tyX2_ok : ∀ k, k < 2 → parseFieldDescriptor (TX2 k).2.2.1 = some (tyX2 k) := by decide +kernel
abbrev cX2_init : ByteArray := prog_4_method_1_code
def yX2_init : MethodName := ⟨RX2, "<init>", "()V"⟩
abbrev cX2_save : ByteArray := prog_4_method_2_code
def yX2_save : MethodName := ⟨RX2, "save", "(LShipLanterns$Ship;)V"⟩
abbrev cX2_restore : ByteArray := prog_4_method_3_code
def yX2_restore : MethodName := ⟨RX2, "restore", "(LShipLanterns$Ship;)V"⟩
abbrev cX2_dropOldest : ByteArray := prog_4_method_4_code
def yX2_dropOldest : MethodName := ⟨RX2, "dropOldest", "()V"⟩
def RX3 : String := "ShipLanterns$Lanterns"
def TX3 : u_T := fun k => match k with
  | 0 => ("ShipLanterns$Lanterns", "many", "I", false)
  | 1 => ("ShipLanterns$Lanterns", "box", "[I", true)
  | 2 => ("ShipLanterns$Lanterns", "units", "[I", true)
  | _ => ("ShipLanterns$Lanterns", "particular", "[Z", true)
def tyX3 : Nat → FieldType := fun k => match k with
  | 0 => .int
  | 1 => .array .int
  | 2 => .array .int
  | _ => .array .boolean
abbrev wsX30 : List Cond := u_ws RX3 TX3 4
theorem nmX3 : ∀ a, a < 4 → ∀ b, b < 4 → a ≠ b → (TX3 a).2.1 ≠ (TX3 b).2.1 := by decide +kernel
theorem tyX3_ok : ∀ k, k < 4 → parseFieldDescriptor (TX3 k).2.2.1 = some (tyX3 k) := by decide +kernel
abbrev cX3_init : ByteArray := prog_5_method_1_code
def yX3_init : MethodName := ⟨RX3, "<init>", "()V"⟩
abbrev cX3_add : ByteArray := prog_5_method_2_code
def yX3_add : MethodName := ⟨RX3, "add", "(IIZ)V"⟩
abbrev cX3_remove : ByteArray := prog_5_method_3_code
def yX3_remove : MethodName := ⟨RX3, "remove", "(I)V"⟩
abbrev cX3_copy : ByteArray := prog_5_method_4_code
def yX3_copy : MethodName := ⟨RX3, "copy", "(LShipLanterns$Lanterns;)V"⟩
def RX4 : String := "ShipLanterns$PartReader"
def TX4 : u_T := fun k => match k with
  | 0 => ("ShipLanterns$PartReader", "values", "[I", true)
  | 1 => ("ShipLanterns$PartReader", "kind", "I", false)
  | _ => ("ShipLanterns$PartReader", "place", "I", false)
def tyX4 : Nat → FieldType := fun k => match k with
  | 0 => .array .int
  | 1 => .int
  | _ => .int
abbrev wsX40 : List Cond := u_ws RX4 TX4 3
theorem nmX4 : ∀ a, a < 3 → ∀ b, b < 3 → a ≠ b → (TX4 a).2.1 ≠ (TX4 b).2.1 := by decide +kernel
theorem tyX4_ok : ∀ k, k < 3 → parseFieldDescriptor (TX4 k).2.2.1 = some (tyX4 k) := by decide +kernel
abbrev cX4_init : ByteArray := prog_6_method_1_code
def yX4_init : MethodName := ⟨RX4, "<init>", "()V"⟩
abbrev cX4_restart : ByteArray := prog_6_method_2_code
def yX4_restart : MethodName := ⟨RX4, "restart", "()V"⟩
abbrev cX4_holdsBox : ByteArray := prog_6_method_3_code
def yX4_holdsBox : MethodName := ⟨RX4, "holdsBox", "()Z"⟩
abbrev cX4_holdsLantern : ByteArray := prog_6_method_4_code
def yX4_holdsLantern : MethodName := ⟨RX4, "holdsLantern", "()Z"⟩
abbrev cX4_isComplete : ByteArray := prog_6_method_5_code
def yX4_isComplete : MethodName := ⟨RX4, "isComplete", "()Z"⟩
abbrev cX4_takes : ByteArray := prog_6_method_6_code
def yX4_takes : MethodName := ⟨RX4, "takes", "(I)Z"⟩
abbrev cX4_takesSeparator : ByteArray := prog_6_method_7_code
def yX4_takesSeparator : MethodName := ⟨RX4, "takesSeparator", "(I)Z"⟩
abbrev cX4_takesKind : ByteArray := prog_6_method_8_code
def yX4_takesKind : MethodName := ⟨RX4, "takesKind", "(I)Z"⟩
abbrev cX4_takesDigit : ByteArray := prog_6_method_9_code
def yX4_takesDigit : MethodName := ⟨RX4, "takesDigit", "(I)Z"⟩
abbrev cX4_lastPlace : ByteArray := prog_6_method_10_code
def yX4_lastPlace : MethodName := ⟨RX4, "lastPlace", "()I"⟩
abbrev cX4_leastValue : ByteArray := prog_6_method_11_code
def yX4_leastValue : MethodName := ⟨RX4, "leastValue", "()I"⟩
abbrev cX4_mostValue : ByteArray := prog_6_method_12_code
def yX4_mostValue : MethodName := ⟨RX4, "mostValue", "()I"⟩
def RX5 : String := "ShipLanterns$Ship"
def TX5 : u_T := fun k => match k with
  | 0 => ("ShipLanterns$Ship", "cables", "LShipLanterns$Cables;", true)
  | 1 => ("ShipLanterns$Ship", "lanterns", "LShipLanterns$Lanterns;", true)
  | 2 => ("ShipLanterns$Ship", "faults", "LShipLanterns$Faults;", true)
  | 3 => ("ShipLanterns$Ship", "spareFuses", "I", false)
  | 4 => ("ShipLanterns$Ship", "blownSoFar", "I", false)
  | 5 => ("ShipLanterns$Ship", "hours", "I", false)
  | 6 => ("ShipLanterns$Ship", "used", "I", false)
  | _ => ("ShipLanterns$Ship", "lost", "I", false)
def tyX5 : Nat → FieldType := fun k => match k with
  | 0 => .object "ShipLanterns$Cables"
  | 1 => .object "ShipLanterns$Lanterns"
  | 2 => .object "ShipLanterns$Faults"
  | 3 => .int
  | 4 => .int
  | 5 => .int
  | 6 => .int
  | _ => .int
abbrev wsX50 : List Cond := u_ws RX5 TX5 8
theorem nmX5 : ∀ a, a < 8 → ∀ b, b < 8 → a ≠ b → (TX5 a).2.1 ≠ (TX5 b).2.1 := by decide +kernel
theorem tyX5_ok : ∀ k, k < 8 → parseFieldDescriptor (TX5 k).2.2.1 = some (tyX5 k) := by decide +kernel
abbrev cX5_init : ByteArray := prog_7_method_1_code
def yX5_init : MethodName := ⟨RX5, "<init>", "()V"⟩
abbrev cX5_copy : ByteArray := prog_7_method_2_code
def yX5_copy : MethodName := ⟨RX5, "copy", "(LShipLanterns$Ship;)V"⟩
def RX6 : String := "ShipLanterns$Survey"
def TX6 : u_T := fun k => match k with
  | 0 => ("ShipLanterns$Survey", "depth", "[I", true)
  | 1 => ("ShipLanterns$Survey", "behind", "[I", true)
  | 2 => ("ShipLanterns$Survey", "openOnWay", "[Z", true)
  | 3 => ("ShipLanterns$Survey", "blownOnWay", "[Z", true)
  | 4 => ("ShipLanterns$Survey", "pole", "[I", true)
  | 5 => ("ShipLanterns$Survey", "burning", "[Z", true)
  | 6 => ("ShipLanterns$Survey", "burningLanterns", "I", false)
  | 7 => ("ShipLanterns$Survey", "leak", "I", false)
  | 8 => ("ShipLanterns$Survey", "flow", "[I", true)
  | 9 => ("ShipLanterns$Survey", "unitsFrom", "[I", true)
  | 10 => ("ShipLanterns$Survey", "flowFrom", "[I", true)
  | _ => ("ShipLanterns$Survey", "strengthFrom", "[I", true)
def tyX6 : Nat → FieldType := fun k => match k with
  | 0 => .array .int
  | 1 => .array .int
  | 2 => .array .boolean
  | 3 => .array .boolean
  | 4 => .array .int
  | 5 => .array .boolean
  | 6 => .int
  | 7 => .int
  | 8 => .array .int
  | 9 => .array .int
  | 10 => .array .int
  | _ => .array .int
abbrev wsX60 : List Cond := u_ws RX6 TX6 12
theorem nmX6 : ∀ a, a < 12 → ∀ b, b < 12 → a ≠ b → (TX6 a).2.1 ≠ (TX6 b).2.1 := by decide +kernel
theorem tyX6_ok : ∀ k, k < 12 → parseFieldDescriptor (TX6 k).2.2.1 = some (tyX6 k) := by decide +kernel
abbrev cX6_init : ByteArray := prog_8_method_1_code
def yX6_init : MethodName := ⟨RX6, "<init>", "()V"⟩
abbrev cX6_take : ByteArray := prog_8_method_2_code
def yX6_take : MethodName := ⟨RX6, "take", "(LShipLanterns$Ship;)V"⟩
abbrev cX6_isAlive : ByteArray := prog_8_method_3_code
def yX6_isAlive : MethodName := ⟨RX6, "isAlive", "(I)Z"⟩
abbrev cX6_lampOf : ByteArray := prog_8_method_4_code
def yX6_lampOf : MethodName := ⟨RX6, "lampOf", "(I)I"⟩
abbrev cX6_current : ByteArray := prog_8_method_5_code
def yX6_current : MethodName := ⟨RX6, "current", "(I)I"⟩
abbrev cX6_fuseToBlow : ByteArray := prog_8_method_6_code
def yX6_fuseToBlow : MethodName := ⟨RX6, "fuseToBlow", "(LShipLanterns$Cables;)I"⟩
abbrev cX6_clearSums : ByteArray := prog_8_method_7_code
def yX6_clearSums : MethodName := ⟨RX6, "clearSums", "(I)V"⟩
abbrev cX6_followCables : ByteArray := prog_8_method_8_code
def yX6_followCables : MethodName := ⟨RX6, "followCables", "(LShipLanterns$Cables;)V"⟩
abbrev cX6_findBurning : ByteArray := prog_8_method_9_code
def yX6_findBurning : MethodName := ⟨RX6, "findBurning", "(LShipLanterns$Lanterns;)V"⟩
abbrev cX6_findStrengths : ByteArray := prog_8_method_10_code
def yX6_findStrengths : MethodName := ⟨RX6, "findStrengths", "(LShipLanterns$Faults;)V"⟩
abbrev cX6_sumUpStrengths : ByteArray := prog_8_method_11_code
def yX6_sumUpStrengths : MethodName := ⟨RX6, "sumUpStrengths", "(LShipLanterns$Cables;)V"⟩
abbrev cX6_shareLeak : ByteArray := prog_8_method_12_code
def yX6_shareLeak : MethodName := ⟨RX6, "shareLeak", "(LShipLanterns$Faults;I)V"⟩
abbrev cX6_sumUpCurrents : ByteArray := prog_8_method_13_code
def yX6_sumUpCurrents : MethodName := ⟨RX6, "sumUpCurrents", "(LShipLanterns$Cables;)V"⟩
def RX7 : String := "ShipLanterns"
def TX7 : u_T := fun k => match k with
  | 0 => ("ShipLanterns", "ship", "LShipLanterns$Ship;", true)
  | 1 => ("ShipLanterns", "survey", "LShipLanterns$Survey;", true)
  | 2 => ("ShipLanterns", "trial", "LShipLanterns$Ship;", true)
  | 3 => ("ShipLanterns", "trialSurvey", "LShipLanterns$Survey;", true)
  | 4 => ("ShipLanterns", "wholeSurvey", "LShipLanterns$Survey;", true)
  | 5 => ("ShipLanterns", "history", "LShipLanterns$History;", true)
  | 6 => ("ShipLanterns", "reader", "LShipLanterns$PartReader;", true)
  | 7 => ("ShipLanterns", "signs", "[I", true)
  | _ => ("ShipLanterns", "length", "I", false)
def tyX7 : Nat → FieldType := fun k => match k with
  | 0 => .object "ShipLanterns$Ship"
  | 1 => .object "ShipLanterns$Survey"
  | 2 => .object "ShipLanterns$Ship"
  | 3 => .object "ShipLanterns$Survey"
  | 4 => .object "ShipLanterns$Survey"
  | 5 => .object "ShipLanterns$History"
  | 6 => .object "ShipLanterns$PartReader"
  | 7 => .array .int
  | _ => .int
abbrev wsX70 : List Cond := u_ws RX7 TX7 9
theorem nmX7 : ∀ a, a < 9 → ∀ b, b < 9 → a ≠ b → (TX7 a).2.1 ≠ (TX7 b).2.1 := by decide +kernel
theorem tyX7_ok : ∀ k, k < 9 → parseFieldDescriptor (TX7 k).2.2.1 = some (tyX7 k) := by decide +kernel
abbrev cX7_init : ByteArray := prog_1_method_1_code
def yX7_init : MethodName := ⟨RX7, "<init>", "()V"⟩
abbrev cX7_addBox : ByteArray := prog_1_method_2_code
def yX7_addBox : MethodName := ⟨RX7, "addBox", "(IIIZ)I"⟩
abbrev cX7_toggle : ByteArray := prog_1_method_3_code
def yX7_toggle : MethodName := ⟨RX7, "toggle", "(I)I"⟩
abbrev cX7_cross : ByteArray := prog_1_method_4_code
def yX7_cross : MethodName := ⟨RX7, "cross", "(I)I"⟩
abbrev cX7_replace : ByteArray := prog_1_method_5_code
def yX7_replace : MethodName := ⟨RX7, "replace", "(III)I"⟩
abbrev cX7_buyFuses : ByteArray := prog_1_method_6_code
def yX7_buyFuses : MethodName := ⟨RX7, "buyFuses", "(I)I"⟩
abbrev cX7_hang : ByteArray := prog_1_method_7_code
def yX7_hang : MethodName := ⟨RX7, "hang", "(IIZ)I"⟩
abbrev cX7_takeDown : ByteArray := prog_1_method_8_code
def yX7_takeDown : MethodName := ⟨RX7, "takeDown", "(I)I"⟩
abbrev cX7_fault : ByteArray := prog_1_method_9_code
def yX7_fault : MethodName := ⟨RX7, "fault", "(III)I"⟩
abbrev cX7_mend : ByteArray := prog_1_method_10_code
def yX7_mend : MethodName := ⟨RX7, "mend", "(I)I"⟩
abbrev cX7_burn : ByteArray := prog_1_method_11_code
def yX7_burn : MethodName := ⟨RX7, "burn", "(I)I"⟩
abbrev cX7_append : ByteArray := prog_1_method_12_code
def yX7_append : MethodName := ⟨RX7, "append", "(I)I"⟩
abbrev cX7_clearBuffer : ByteArray := prog_1_method_13_code
def yX7_clearBuffer : MethodName := ⟨RX7, "clearBuffer", "()I"⟩
abbrev cX7_firstError : ByteArray := prog_1_method_14_code
def yX7_firstError : MethodName := ⟨RX7, "firstError", "()I"⟩
abbrev cX7_load : ByteArray := prog_1_method_15_code
def yX7_load : MethodName := ⟨RX7, "load", "()I"⟩
abbrev cX7_undo : ByteArray := prog_1_method_16_code
def yX7_undo : MethodName := ⟨RX7, "undo", "()I"⟩
abbrev cX7_box : ByteArray := prog_1_method_17_code
def yX7_box : MethodName := ⟨RX7, "box", "(II)I"⟩
abbrev cX7_terminal : ByteArray := prog_1_method_18_code
def yX7_terminal : MethodName := ⟨RX7, "terminal", "(III)I"⟩
abbrev cX7_lantern : ByteArray := prog_1_method_19_code
def yX7_lantern : MethodName := ⟨RX7, "lantern", "(II)I"⟩
abbrev cX7_faultAt : ByteArray := prog_1_method_20_code
def yX7_faultAt : MethodName := ⟨RX7, "faultAt", "(II)I"⟩
abbrev cX7_count : ByteArray := prog_1_method_21_code
def yX7_count : MethodName := ⟨RX7, "count", "(I)I"⟩
abbrev cX7_lamp : ByteArray := prog_1_method_22_code
def yX7_lamp : MethodName := ⟨RX7, "lamp", "(I)I"⟩
abbrev cX7_locate : ByteArray := prog_1_method_23_code
def yX7_locate : MethodName := ⟨RX7, "locate", "(I)I"⟩
abbrev cX7_ifFault : ByteArray := prog_1_method_24_code
def yX7_ifFault : MethodName := ⟨RX7, "ifFault", "(IIII)I"⟩
abbrev cX7_ifToggled : ByteArray := prog_1_method_25_code
def yX7_ifToggled : MethodName := ⟨RX7, "ifToggled", "(I)I"⟩
abbrev cX7_neededRating : ByteArray := prog_1_method_26_code
def yX7_neededRating : MethodName := ⟨RX7, "neededRating", "(II)I"⟩
abbrev cX7_lossShare : ByteArray := prog_1_method_27_code
def yX7_lossShare : MethodName := ⟨RX7, "lossShare", "()D"⟩
abbrev cX7_digest : ByteArray := prog_1_method_28_code
def yX7_digest : MethodName := ⟨RX7, "digest", "()J"⟩
abbrev cX7_isBox : ByteArray := prog_1_method_29_code
def yX7_isBox : MethodName := ⟨RX7, "isBox", "(I)Z"⟩
abbrev cX7_isFedBox : ByteArray := prog_1_method_30_code
def yX7_isFedBox : MethodName := ⟨RX7, "isFedBox", "(I)Z"⟩
abbrev cX7_isLantern : ByteArray := prog_1_method_31_code
def yX7_isLantern : MethodName := ⟨RX7, "isLantern", "(I)Z"⟩
abbrev cX7_isFault : ByteArray := prog_1_method_32_code
def yX7_isFault : MethodName := ⟨RX7, "isFault", "(I)Z"⟩
abbrev cX7_isTerminal : ByteArray := prog_1_method_33_code
def yX7_isTerminal : MethodName := ⟨RX7, "isTerminal", "(I)Z"⟩
abbrev cX7_isPole : ByteArray := prog_1_method_34_code
def yX7_isPole : MethodName := ⟨RX7, "isPole", "(I)Z"⟩
abbrev cX7_isRating : ByteArray := prog_1_method_35_code
def yX7_isRating : MethodName := ⟨RX7, "isRating", "(I)Z"⟩
abbrev cX7_isStrength : ByteArray := prog_1_method_36_code
def yX7_isStrength : MethodName := ⟨RX7, "isStrength", "(I)Z"⟩
abbrev cX7_oneIf : ByteArray := prog_1_method_37_code
def yX7_oneIf : MethodName := ⟨RX7, "oneIf", "(Z)I"⟩
abbrev cX7_settle : ByteArray := prog_1_method_38_code
def yX7_settle : MethodName := ⟨RX7, "settle", "(LShipLanterns$Ship;LShipLanterns$Survey;)I"⟩
abbrev cX7_burningIfToggled : ByteArray := prog_1_method_39_code
def yX7_burningIfToggled : MethodName := ⟨RX7, "burningIfToggled", "(I)I"⟩
abbrev cX7_surveyWithWholeFuses : ByteArray := prog_1_method_40_code
def yX7_surveyWithWholeFuses : MethodName := ⟨RX7, "surveyWithWholeFuses", "()V"⟩
abbrev cX7_boxesChangingLamp : ByteArray := prog_1_method_41_code
def yX7_boxesChangingLamp : MethodName := ⟨RX7, "boxesChangingLamp", "(I)I"⟩
abbrev cX7_readSigns : ByteArray := prog_1_method_42_code
def yX7_readSigns : MethodName := ⟨RX7, "readSigns", "()I"⟩
abbrev cX7_addParts : ByteArray := prog_1_method_43_code
def yX7_addParts : MethodName := ⟨RX7, "addParts", "()I"⟩
abbrev cX7_addPart : ByteArray := prog_1_method_44_code
def yX7_addPart : MethodName := ⟨RX7, "addPart", "()Z"⟩
abbrev cX7_boxProperty : ByteArray := prog_1_method_45_code
def yX7_boxProperty : MethodName := ⟨RX7, "boxProperty", "(II)I"⟩
abbrev cX7_lanternsBurningAt : ByteArray := prog_1_method_46_code
def yX7_lanternsBurningAt : MethodName := ⟨RX7, "lanternsBurningAt", "(I)I"⟩
abbrev cX7_unitsAt : ByteArray := prog_1_method_47_code
def yX7_unitsAt : MethodName := ⟨RX7, "unitsAt", "(I)I"⟩
abbrev cX7_terminalProperty : ByteArray := prog_1_method_48_code
def yX7_terminalProperty : MethodName := ⟨RX7, "terminalProperty", "(III)I"⟩
abbrev cX7_strengthsAt : ByteArray := prog_1_method_49_code
def yX7_strengthsAt : MethodName := ⟨RX7, "strengthsAt", "(II)I"⟩
abbrev cX7_lanternProperty : ByteArray := prog_1_method_50_code
def yX7_lanternProperty : MethodName := ⟨RX7, "lanternProperty", "(II)I"⟩
abbrev cX7_darkReason : ByteArray := prog_1_method_51_code
def yX7_darkReason : MethodName := ⟨RX7, "darkReason", "(I)I"⟩
abbrev cX7_faultProperty : ByteArray := prog_1_method_52_code
def yX7_faultProperty : MethodName := ⟨RX7, "faultProperty", "(II)I"⟩
abbrev cX7_countOf : ByteArray := prog_1_method_53_code
def yX7_countOf : MethodName := ⟨RX7, "countOf", "(I)I"⟩
abbrev cX7_hashBoxes : ByteArray := prog_1_method_54_code
def yX7_hashBoxes : MethodName := ⟨RX7, "hashBoxes", "(J)J"⟩
abbrev cX7_hashLanternsAndFaults : ByteArray := prog_1_method_55_code
def yX7_hashLanternsAndFaults : MethodName := ⟨RX7, "hashLanternsAndFaults", "(J)J"⟩
abbrev cX7_hashTrials : ByteArray := prog_1_method_56_code
def yX7_hashTrials : MethodName := ⟨RX7, "hashTrials", "(J)J"⟩
abbrev cX7_hashSigns : ByteArray := prog_1_method_57_code
def yX7_hashSigns : MethodName := ⟨RX7, "hashSigns", "(J)J"⟩
abbrev cX7_bitsOfShare : ByteArray := prog_1_method_58_code
def yX7_bitsOfShare : MethodName := ⟨RX7, "bitsOfShare", "(D)J"⟩
def RX8 : String := "ShipLanternsModel"
def TX8 : u_T := fun k => match k with
  | 0 => ("ShipLanternsModel", "thrown", "I", false)
  | 1 => ("ShipLanternsModel", "z", "[I", true)
  | 2 => ("ShipLanternsModel", "saves", "I", false)
  | 3 => ("ShipLanternsModel", "saved", "[I", true)
  | 4 => ("ShipLanternsModel", "length", "I", false)
  | 5 => ("ShipLanternsModel", "text", "[I", true)
  | 6 => ("ShipLanternsModel", "blown", "I", false)
  | 7 => ("ShipLanternsModel", "firstBlown", "I", false)
  | 8 => ("ShipLanternsModel", "aside", "[I", true)
  | 9 => ("ShipLanternsModel", "sign", "I", false)
  | 10 => ("ShipLanternsModel", "which", "I", false)
  | 11 => ("ShipLanternsModel", "digits", "I", false)
  | 12 => ("ShipLanternsModel", "parts", "I", false)
  | 13 => ("ShipLanternsModel", "read", "[I", true)
  | _ => ("ShipLanternsModel", "h", "J", false)
def tyX8 : Nat → FieldType := fun k => match k with
  | 0 => .int
  | 1 => .array .int
  | 2 => .int
  | 3 => .array .int
  | 4 => .int
  | 5 => .array .int
  | 6 => .int
  | 7 => .int
  | 8 => .array .int
  | 9 => .int
  | 10 => .int
  | 11 => .int
  | 12 => .int
  | 13 => .array .int
  | _ => .long
abbrev wsX80 : List Cond := u_ws RX8 TX8 15
theorem nmX8 : ∀ a, a < 15 → ∀ b, b < 15 → a ≠ b → (TX8 a).2.1 ≠ (TX8 b).2.1 := by decide +kernel
theorem tyX8_ok : ∀ k, k < 15 → parseFieldDescriptor (TX8 k).2.2.1 = some (tyX8 k) := by decide +kernel
abbrev cX8_init : ByteArray := prog_10_method_1_code
def yX8_init : MethodName := ⟨RX8, "<init>", "()V"⟩
abbrev cX8_thrown : ByteArray := prog_10_method_2_code
def yX8_thrown : MethodName := ⟨RX8, "thrown", "()I"⟩
abbrev cX8_within : ByteArray := prog_10_method_3_code
def yX8_within : MethodName := ⟨RX8, "within", "(III)Z"⟩
abbrev cX8_ofBox : ByteArray := prog_10_method_4_code
def yX8_ofBox : MethodName := ⟨RX8, "ofBox", "(II)I"⟩
abbrev cX8_ofLantern : ByteArray := prog_10_method_5_code
def yX8_ofLantern : MethodName := ⟨RX8, "ofLantern", "(II)I"⟩
abbrev cX8_ofFault : ByteArray := prog_10_method_6_code
def yX8_ofFault : MethodName := ⟨RX8, "ofFault", "(II)I"⟩
abbrev cX8_isBox : ByteArray := prog_10_method_7_code
def yX8_isBox : MethodName := ⟨RX8, "isBox", "(I)Z"⟩
abbrev cX8_isFed : ByteArray := prog_10_method_8_code
def yX8_isFed : MethodName := ⟨RX8, "isFed", "(I)Z"⟩
abbrev cX8_isTerminal : ByteArray := prog_10_method_9_code
def yX8_isTerminal : MethodName := ⟨RX8, "isTerminal", "(I)Z"⟩
abbrev cX8_above : ByteArray := prog_10_method_10_code
def yX8_above : MethodName := ⟨RX8, "above", "(II)I"⟩
abbrev cX8_pole : ByteArray := prog_10_method_11_code
def yX8_pole : MethodName := ⟨RX8, "pole", "(II)I"⟩
abbrev cX8_depth : ByteArray := prog_10_method_12_code
def yX8_depth : MethodName := ⟨RX8, "depth", "(I)I"⟩
abbrev cX8_isSwitched : ByteArray := prog_10_method_13_code
def yX8_isSwitched : MethodName := ⟨RX8, "isSwitched", "(I)Z"⟩
abbrev cX8_isWhole : ByteArray := prog_10_method_14_code
def yX8_isWhole : MethodName := ⟨RX8, "isWhole", "(II)Z"⟩
abbrev cX8_isAlive : ByteArray := prog_10_method_15_code
def yX8_isAlive : MethodName := ⟨RX8, "isAlive", "(II)Z"⟩
abbrev cX8_comesBy : ByteArray := prog_10_method_16_code
def yX8_comesBy : MethodName := ⟨RX8, "comesBy", "(IIII)Z"⟩
abbrev cX8_isBehind : ByteArray := prog_10_method_17_code
def yX8_isBehind : MethodName := ⟨RX8, "isBehind", "(II)Z"⟩
abbrev cX8_dark : ByteArray := prog_10_method_18_code
def yX8_dark : MethodName := ⟨RX8, "dark", "(I)I"⟩
abbrev cX8_burning : ByteArray := prog_10_method_19_code
def yX8_burning : MethodName := ⟨RX8, "burning", "()I"⟩
abbrev cX8_drawn : ByteArray := prog_10_method_20_code
def yX8_drawn : MethodName := ⟨RX8, "drawn", "()I"⟩
abbrev cX8_isLive : ByteArray := prog_10_method_21_code
def yX8_isLive : MethodName := ⟨RX8, "isLive", "(I)Z"⟩
abbrev cX8_faultPole : ByteArray := prog_10_method_22_code
def yX8_faultPole : MethodName := ⟨RX8, "faultPole", "(I)I"⟩
abbrev cX8_lampOf : ByteArray := prog_10_method_23_code
def yX8_lampOf : MethodName := ⟨RX8, "lampOf", "(I)I"⟩
abbrev cX8_leak : ByteArray := prog_10_method_24_code
def yX8_leak : MethodName := ⟨RX8, "leak", "()I"⟩
abbrev cX8_flow : ByteArray := prog_10_method_25_code
def yX8_flow : MethodName := ⟨RX8, "flow", "(I)I"⟩
abbrev cX8_current : ByteArray := prog_10_method_26_code
def yX8_current : MethodName := ⟨RX8, "current", "(II)I"⟩
abbrev cX8_nextToBlow : ByteArray := prog_10_method_27_code
def yX8_nextToBlow : MethodName := ⟨RX8, "nextToBlow", "()I"⟩
abbrev cX8_settle : ByteArray := prog_10_method_28_code
def yX8_settle : MethodName := ⟨RX8, "settle", "()V"⟩
abbrev cX8_save : ByteArray := prog_10_method_29_code
def yX8_save : MethodName := ⟨RX8, "save", "()V"⟩
abbrev cX8_undo : ByteArray := prog_10_method_30_code
def yX8_undo : MethodName := ⟨RX8, "undo", "()I"⟩
abbrev cX8_keepAside : ByteArray := prog_10_method_31_code
def yX8_keepAside : MethodName := ⟨RX8, "keepAside", "()V"⟩
abbrev cX8_takeBack : ByteArray := prog_10_method_32_code
def yX8_takeBack : MethodName := ⟨RX8, "takeBack", "()V"⟩
abbrev cX8_isRating : ByteArray := prog_10_method_33_code
def yX8_isRating : MethodName := ⟨RX8, "isRating", "(I)Z"⟩
abbrev cX8_whyNoBox : ByteArray := prog_10_method_34_code
def yX8_whyNoBox : MethodName := ⟨RX8, "whyNoBox", "(III)I"⟩
abbrev cX8_bringBox : ByteArray := prog_10_method_35_code
def yX8_bringBox : MethodName := ⟨RX8, "bringBox", "(IIIZ)V"⟩
abbrev cX8_addBox : ByteArray := prog_10_method_36_code
def yX8_addBox : MethodName := ⟨RX8, "addBox", "(IIIZ)I"⟩
abbrev cX8_turn : ByteArray := prog_10_method_37_code
def yX8_turn : MethodName := ⟨RX8, "turn", "(II)V"⟩
abbrev cX8_toggle : ByteArray := prog_10_method_38_code
def yX8_toggle : MethodName := ⟨RX8, "toggle", "(I)I"⟩
abbrev cX8_cross : ByteArray := prog_10_method_39_code
def yX8_cross : MethodName := ⟨RX8, "cross", "(I)I"⟩
abbrev cX8_replace : ByteArray := prog_10_method_40_code
def yX8_replace : MethodName := ⟨RX8, "replace", "(III)I"⟩
abbrev cX8_buyFuses : ByteArray := prog_10_method_41_code
def yX8_buyFuses : MethodName := ⟨RX8, "buyFuses", "(I)I"⟩
abbrev cX8_whyNoLantern : ByteArray := prog_10_method_42_code
def yX8_whyNoLantern : MethodName := ⟨RX8, "whyNoLantern", "(II)I"⟩
abbrev cX8_bringLantern : ByteArray := prog_10_method_43_code
def yX8_bringLantern : MethodName := ⟨RX8, "bringLantern", "(IIZ)V"⟩
abbrev cX8_hang : ByteArray := prog_10_method_44_code
def yX8_hang : MethodName := ⟨RX8, "hang", "(IIZ)I"⟩
abbrev cX8_isLantern : ByteArray := prog_10_method_45_code
def yX8_isLantern : MethodName := ⟨RX8, "isLantern", "(I)Z"⟩
abbrev cX8_takeDown : ByteArray := prog_10_method_46_code
def yX8_takeDown : MethodName := ⟨RX8, "takeDown", "(I)I"⟩
abbrev cX8_whyNoFault : ByteArray := prog_10_method_47_code
def yX8_whyNoFault : MethodName := ⟨RX8, "whyNoFault", "(III)I"⟩
abbrev cX8_bringFault : ByteArray := prog_10_method_48_code
def yX8_bringFault : MethodName := ⟨RX8, "bringFault", "(III)V"⟩
abbrev cX8_fault : ByteArray := prog_10_method_49_code
def yX8_fault : MethodName := ⟨RX8, "fault", "(III)I"⟩
abbrev cX8_isFault : ByteArray := prog_10_method_50_code
def yX8_isFault : MethodName := ⟨RX8, "isFault", "(I)Z"⟩
abbrev cX8_mend : ByteArray := prog_10_method_51_code
def yX8_mend : MethodName := ⟨RX8, "mend", "(I)I"⟩
abbrev cX8_burn : ByteArray := prog_10_method_52_code
def yX8_burn : MethodName := ⟨RX8, "burn", "(I)I"⟩
abbrev cX8_append : ByteArray := prog_10_method_53_code
def yX8_append : MethodName := ⟨RX8, "append", "(I)I"⟩
abbrev cX8_clearBuffer : ByteArray := prog_10_method_54_code
def yX8_clearBuffer : MethodName := ⟨RX8, "clearBuffer", "()I"⟩
abbrev cX8_least : ByteArray := prog_10_method_55_code
def yX8_least : MethodName := ⟨RX8, "least", "()I"⟩
abbrev cX8_greatest : ByteArray := prog_10_method_56_code
def yX8_greatest : MethodName := ⟨RX8, "greatest", "()I"⟩
abbrev cX8_takesDigit : ByteArray := prog_10_method_57_code
def yX8_takesDigit : MethodName := ⟨RX8, "takesDigit", "(I)Z"⟩
abbrev cX8_isSign : ByteArray := prog_10_method_58_code
def yX8_isSign : MethodName := ⟨RX8, "isSign", "(I)Z"⟩
abbrev cX8_isPartOver : ByteArray := prog_10_method_59_code
def yX8_isPartOver : MethodName := ⟨RX8, "isPartOver", "()Z"⟩
abbrev cX8_endPart : ByteArray := prog_10_method_60_code
def yX8_endPart : MethodName := ⟨RX8, "endPart", "()V"⟩
abbrev cX8_takes : ByteArray := prog_10_method_61_code
def yX8_takes : MethodName := ⟨RX8, "takes", "(I)Z"⟩
abbrev cX8_readText : ByteArray := prog_10_method_62_code
def yX8_readText : MethodName := ⟨RX8, "readText", "()I"⟩
abbrev cX8_firstError : ByteArray := prog_10_method_63_code
def yX8_firstError : MethodName := ⟨RX8, "firstError", "()I"⟩
abbrev cX8_whyNoPart : ByteArray := prog_10_method_64_code
def yX8_whyNoPart : MethodName := ⟨RX8, "whyNoPart", "(I)I"⟩
abbrev cX8_bringPart : ByteArray := prog_10_method_65_code
def yX8_bringPart : MethodName := ⟨RX8, "bringPart", "(I)V"⟩
abbrev cX8_load : ByteArray := prog_10_method_66_code
def yX8_load : MethodName := ⟨RX8, "load", "()I"⟩
abbrev cX8_behind : ByteArray := prog_10_method_67_code
def yX8_behind : MethodName := ⟨RX8, "behind", "(I)I"⟩
abbrev cX8_lanternsAt : ByteArray := prog_10_method_68_code
def yX8_lanternsAt : MethodName := ⟨RX8, "lanternsAt", "(IZ)I"⟩
abbrev cX8_boxNow : ByteArray := prog_10_method_69_code
def yX8_boxNow : MethodName := ⟨RX8, "boxNow", "(II)I"⟩
abbrev cX8_box : ByteArray := prog_10_method_70_code
def yX8_box : MethodName := ⟨RX8, "box", "(II)I"⟩
abbrev cX8_faultsAt : ByteArray := prog_10_method_71_code
def yX8_faultsAt : MethodName := ⟨RX8, "faultsAt", "(II)I"⟩
abbrev cX8_terminalNow : ByteArray := prog_10_method_72_code
def yX8_terminalNow : MethodName := ⟨RX8, "terminalNow", "(III)I"⟩
abbrev cX8_terminal : ByteArray := prog_10_method_73_code
def yX8_terminal : MethodName := ⟨RX8, "terminal", "(III)I"⟩
abbrev cX8_lanternNow : ByteArray := prog_10_method_74_code
def yX8_lanternNow : MethodName := ⟨RX8, "lanternNow", "(II)I"⟩
abbrev cX8_lantern : ByteArray := prog_10_method_75_code
def yX8_lantern : MethodName := ⟨RX8, "lantern", "(II)I"⟩
abbrev cX8_faultNow : ByteArray := prog_10_method_76_code
def yX8_faultNow : MethodName := ⟨RX8, "faultNow", "(II)I"⟩
abbrev cX8_faultAt : ByteArray := prog_10_method_77_code
def yX8_faultAt : MethodName := ⟨RX8, "faultAt", "(II)I"⟩
abbrev cX8_blownNow : ByteArray := prog_10_method_78_code
def yX8_blownNow : MethodName := ⟨RX8, "blownNow", "()I"⟩
abbrev cX8_counted : ByteArray := prog_10_method_79_code
def yX8_counted : MethodName := ⟨RX8, "counted", "(I)I"⟩
abbrev cX8_count : ByteArray := prog_10_method_80_code
def yX8_count : MethodName := ⟨RX8, "count", "(I)I"⟩
abbrev cX8_lamp : ByteArray := prog_10_method_81_code
def yX8_lamp : MethodName := ⟨RX8, "lamp", "(I)I"⟩
abbrev cX8_located : ByteArray := prog_10_method_82_code
def yX8_located : MethodName := ⟨RX8, "located", "(I)I"⟩
abbrev cX8_locate : ByteArray := prog_10_method_83_code
def yX8_locate : MethodName := ⟨RX8, "locate", "(I)I"⟩
abbrev cX8_faultAnswer : ByteArray := prog_10_method_84_code
def yX8_faultAnswer : MethodName := ⟨RX8, "faultAnswer", "(I)I"⟩
abbrev cX8_ifFault : ByteArray := prog_10_method_85_code
def yX8_ifFault : MethodName := ⟨RX8, "ifFault", "(IIII)I"⟩
abbrev cX8_toggledAnswer : ByteArray := prog_10_method_86_code
def yX8_toggledAnswer : MethodName := ⟨RX8, "toggledAnswer", "(I)I"⟩
abbrev cX8_ifToggled : ByteArray := prog_10_method_87_code
def yX8_ifToggled : MethodName := ⟨RX8, "ifToggled", "(I)I"⟩
abbrev cX8_ratingAnswer : ByteArray := prog_10_method_88_code
def yX8_ratingAnswer : MethodName := ⟨RX8, "ratingAnswer", "(II)I"⟩
abbrev cX8_neededRating : ByteArray := prog_10_method_89_code
def yX8_neededRating : MethodName := ⟨RX8, "neededRating", "(II)I"⟩
abbrev cX8_shareNow : ByteArray := prog_10_method_90_code
def yX8_shareNow : MethodName := ⟨RX8, "shareNow", "()D"⟩
abbrev cX8_lossShare : ByteArray := prog_10_method_91_code
def yX8_lossShare : MethodName := ⟨RX8, "lossShare", "()D"⟩
abbrev cX8_mix : ByteArray := prog_10_method_92_code
def yX8_mix : MethodName := ⟨RX8, "mix", "(J)V"⟩
abbrev cX8_mixBox : ByteArray := prog_10_method_93_code
def yX8_mixBox : MethodName := ⟨RX8, "mixBox", "(I)V"⟩
abbrev cX8_digest : ByteArray := prog_10_method_94_code
def yX8_digest : MethodName := ⟨RX8, "digest", "()J"⟩
def RJxe99ae : String := "java/lang/Double"
def TJxe99ae : u_T := fun k => match k with
  | _ => ("", "", "", false)
def tyJxe99ae : Nat → FieldType := fun k => match k with
  | _ => .int
abbrev wsJxe99ae0 : List Cond := u_ws RJxe99ae TJxe99ae 0
theorem nmJxe99ae : ∀ a, a < 0 → ∀ b, b < 0 → a ≠ b → (TJxe99ae a).2.1 ≠ (TJxe99ae b).2.1 := by decide +kernel
theorem tyJxe99ae_ok : ∀ k, k < 0 → parseFieldDescriptor (TJxe99ae k).2.2.1 = some (tyJxe99ae k) := by decide +kernel
abbrev cJxe99ae_isNaN_b9ae7 : ByteArray := prog_11_method_6_code
def yJxe99ae_isNaN_b9ae7 : MethodName := ⟨RJxe99ae, "isNaN", "(D)Z"⟩
abbrev cJxe99ae_doubleToLongBits_ccdee : ByteArray := prog_11_method_23_code
def yJxe99ae_doubleToLongBits_ccdee : MethodName := ⟨RJxe99ae, "doubleToLongBits", "(D)J"⟩
def RJ9 : String := "java/lang/Math"
def TJ9 : u_T := fun k => match k with
  | _ => ("", "", "", false)
def tyJ9 : Nat → FieldType := fun k => match k with
  | _ => .int
abbrev wsJ90 : List Cond := u_ws RJ9 TJ9 0
theorem nmJ9 : ∀ a, a < 0 → ∀ b, b < 0 → a ≠ b → (TJ9 a).2.1 ≠ (TJ9 b).2.1 := by decide +kernel
theorem tyJ9_ok : ∀ k, k < 0 → parseFieldDescriptor (TJ9 k).2.2.1 = some (tyJ9 k) := by decide +kernel
abbrev cJ9_min_7cf53 : ByteArray := prog_16_method_69_code
def yJ9_min_7cf53 : MethodName := ⟨RJ9, "min", "(II)I"⟩
def RJ0 : String := "java/lang/String"
def TJ0 : u_T := fun k => match k with
  | _ => ("", "", "", false)
def tyJ0 : Nat → FieldType := fun k => match k with
  | _ => .int
abbrev wsJ00 : List Cond := u_ws RJ0 TJ0 0
theorem nmJ0 : ∀ a, a < 0 → ∀ b, b < 0 → a ≠ b → (TJ0 a).2.1 ≠ (TJ0 b).2.1 := by decide +kernel
theorem tyJ0_ok : ∀ k, k < 0 → parseFieldDescriptor (TJ0 k).2.2.1 = some (tyJ0 k) := by decide +kernel
def RL : String := "ShipLanternsLaw"
abbrev cL_addBox : ByteArray := method_3_code
def yL_addBox : MethodName := ⟨RL, "addBox", "(LShipLanterns;IIIZ[J)I"⟩
abbrev cL_toggle : ByteArray := method_4_code
def yL_toggle : MethodName := ⟨RL, "toggle", "(LShipLanterns;I[J)I"⟩
abbrev cL_cross : ByteArray := method_5_code
def yL_cross : MethodName := ⟨RL, "cross", "(LShipLanterns;I[J)I"⟩
abbrev cL_replace : ByteArray := method_6_code
def yL_replace : MethodName := ⟨RL, "replace", "(LShipLanterns;III[J)I"⟩
abbrev cL_buyFuses : ByteArray := method_7_code
def yL_buyFuses : MethodName := ⟨RL, "buyFuses", "(LShipLanterns;I[J)I"⟩
abbrev cL_hang : ByteArray := method_8_code
def yL_hang : MethodName := ⟨RL, "hang", "(LShipLanterns;IIZ[J)I"⟩
abbrev cL_takeDown : ByteArray := method_9_code
def yL_takeDown : MethodName := ⟨RL, "takeDown", "(LShipLanterns;I[J)I"⟩
abbrev cL_fault : ByteArray := method_10_code
def yL_fault : MethodName := ⟨RL, "fault", "(LShipLanterns;III[J)I"⟩
abbrev cL_mend : ByteArray := method_11_code
def yL_mend : MethodName := ⟨RL, "mend", "(LShipLanterns;I[J)I"⟩
abbrev cL_burn : ByteArray := method_12_code
def yL_burn : MethodName := ⟨RL, "burn", "(LShipLanterns;I[J)I"⟩
abbrev cL_append : ByteArray := method_13_code
def yL_append : MethodName := ⟨RL, "append", "(LShipLanterns;I[J)I"⟩
abbrev cL_load : ByteArray := method_14_code
def yL_load : MethodName := ⟨RL, "load", "(LShipLanterns;[J)I"⟩
abbrev cL_undo : ByteArray := method_15_code
def yL_undo : MethodName := ⟨RL, "undo", "(LShipLanterns;[J)I"⟩
abbrev cL_box : ByteArray := method_16_code
def yL_box : MethodName := ⟨RL, "box", "(LShipLanterns;II[J)I"⟩
abbrev cL_terminal : ByteArray := method_17_code
def yL_terminal : MethodName := ⟨RL, "terminal", "(LShipLanterns;III[J)I"⟩
abbrev cL_lantern : ByteArray := method_18_code
def yL_lantern : MethodName := ⟨RL, "lantern", "(LShipLanterns;II[J)I"⟩
abbrev cL_faultAt : ByteArray := method_19_code
def yL_faultAt : MethodName := ⟨RL, "faultAt", "(LShipLanterns;II[J)I"⟩
abbrev cL_count : ByteArray := method_20_code
def yL_count : MethodName := ⟨RL, "count", "(LShipLanterns;I[J)I"⟩
abbrev cL_lamp : ByteArray := method_21_code
def yL_lamp : MethodName := ⟨RL, "lamp", "(LShipLanterns;I[J)I"⟩
abbrev cL_locate : ByteArray := method_22_code
def yL_locate : MethodName := ⟨RL, "locate", "(LShipLanterns;I[J)I"⟩
abbrev cL_ifFault : ByteArray := method_23_code
def yL_ifFault : MethodName := ⟨RL, "ifFault", "(LShipLanterns;IIII[J)I"⟩
abbrev cL_ifToggled : ByteArray := method_24_code
def yL_ifToggled : MethodName := ⟨RL, "ifToggled", "(LShipLanterns;I[J)I"⟩
abbrev cL_neededRating : ByteArray := method_25_code
def yL_neededRating : MethodName := ⟨RL, "neededRating", "(LShipLanterns;II[J)I"⟩
abbrev cL_law : ByteArray := code
def yL_law : MethodName := ⟨RL, "law", "([I)Z"⟩
end
section
theorem dX0_init_0 : decode cX0_init 0 = .ok (.aload_n 0, 1) := by decide +kernel
theorem dX0_init_1 : decode cX0_init 1 = .ok (.invokespecial 3, 3) := by decide +kernel
theorem dX0_init_4 : decode cX0_init 4 = .ok (.aload_n 0, 1) := by decide +kernel
theorem dX0_init_5 : decode cX0_init 5 = .ok (.iconst 1, 1) := by decide +kernel
theorem dX0_init_6 : decode cX0_init 6 = .ok (.putfield 9, 3) := by decide +kernel
theorem dX0_init_9 : decode cX0_init 9 = .ok (.aload_n 0, 1) := by decide +kernel
theorem dX0_init_10 : decode cX0_init 10 = .ok (.bipush 12, 2) := by decide +kernel
theorem dX0_init_12 : decode cX0_init 12 = .ok (.newarray .int, 2) := by decide +kernel
theorem dX0_init_14 : decode cX0_init 14 = .ok (.putfield 15, 3) := by decide +kernel
theorem dX0_init_17 : decode cX0_init 17 = .ok (.aload_n 0, 1) := by decide +kernel
theorem dX0_init_18 : decode cX0_init 18 = .ok (.bipush 12, 2) := by decide +kernel
theorem dX0_init_20 : decode cX0_init 20 = .ok (.newarray .boolean, 2) := by decide +kernel
theorem dX0_init_22 : decode cX0_init 22 = .ok (.putfield 19, 3) := by decide +kernel
theorem dX0_init_25 : decode cX0_init 25 = .ok (.aload_n 0, 1) := by decide +kernel
theorem dX0_init_26 : decode cX0_init 26 = .ok (.bipush 12, 2) := by decide +kernel
theorem dX0_init_28 : decode cX0_init 28 = .ok (.newarray .boolean, 2) := by decide +kernel
theorem dX0_init_30 : decode cX0_init 30 = .ok (.putfield 23, 3) := by decide +kernel
theorem dX0_init_33 : decode cX0_init 33 = .ok (.aload_n 0, 1) := by decide +kernel
theorem dX0_init_34 : decode cX0_init 34 = .ok (.bipush 24, 2) := by decide +kernel
theorem dX0_init_36 : decode cX0_init 36 = .ok (.newarray .int, 2) := by decide +kernel
theorem dX0_init_38 : decode cX0_init 38 = .ok (.putfield 26, 3) := by decide +kernel
theorem dX0_init_41 : decode cX0_init 41 = .ok (.aload_n 0, 1) := by decide +kernel
theorem dX0_init_42 : decode cX0_init 42 = .ok (.bipush 24, 2) := by decide +kernel
theorem dX0_init_44 : decode cX0_init 44 = .ok (.newarray .boolean, 2) := by decide +kernel
theorem dX0_init_46 : decode cX0_init 46 = .ok (.putfield 29, 3) := by decide +kernel
theorem dX0_init_49 : decode cX0_init 49 = .ok (.aload_n 0, 1) := by decide +kernel
theorem dX0_init_50 : decode cX0_init 50 = .ok (.getfield 15, 3) := by decide +kernel
theorem dX0_init_53 : decode cX0_init 53 = .ok (.iconst 0, 1) := by decide +kernel
theorem dX0_init_54 : decode cX0_init 54 = .ok (.iconst (-1), 1) := by decide +kernel
theorem dX0_init_55 : decode cX0_init 55 = .ok (.iastore, 1) := by decide +kernel
theorem dX0_init_56 : decode cX0_init 56 = .ok (.return_, 1) := by decide +kernel
theorem dX0_add_0 : decode cX0_add 0 = .ok (.aload_n 0, 1) := by decide +kernel
theorem dX0_add_1 : decode cX0_add 1 = .ok (.getfield 9, 3) := by decide +kernel
theorem dX0_add_4 : decode cX0_add 4 = .ok (.bipush 12, 2) := by decide +kernel
theorem dX0_add_6 : decode cX0_add 6 = .ok (.if_icmp .lt 4, 3) := by decide +kernel
theorem dX0_add_9 : decode cX0_add 9 = .ok (.return_, 1) := by decide +kernel
theorem dX0_add_10 : decode cX0_add 10 = .ok (.aload_n 0, 1) := by decide +kernel
theorem dX0_add_11 : decode cX0_add 11 = .ok (.getfield 15, 3) := by decide +kernel
theorem dX0_add_14 : decode cX0_add 14 = .ok (.aload_n 0, 1) := by decide +kernel
theorem dX0_add_15 : decode cX0_add 15 = .ok (.getfield 9, 3) := by decide +kernel
theorem dX0_add_18 : decode cX0_add 18 = .ok (.iload_n 1, 1) := by decide +kernel
theorem dX0_add_19 : decode cX0_add 19 = .ok (.iastore, 1) := by decide +kernel
theorem dX0_add_20 : decode cX0_add 20 = .ok (.aload_n 0, 1) := by decide +kernel
theorem dX0_add_21 : decode cX0_add 21 = .ok (.getfield 19, 3) := by decide +kernel
theorem dX0_add_24 : decode cX0_add 24 = .ok (.aload_n 0, 1) := by decide +kernel
theorem dX0_add_25 : decode cX0_add 25 = .ok (.getfield 9, 3) := by decide +kernel
theorem dX0_add_28 : decode cX0_add 28 = .ok (.iload 4, 2) := by decide +kernel
theorem dX0_add_30 : decode cX0_add 30 = .ok (.bastore, 1) := by decide +kernel
theorem dX0_add_31 : decode cX0_add 31 = .ok (.aload_n 0, 1) := by decide +kernel
theorem dX0_add_32 : decode cX0_add 32 = .ok (.getfield 23, 3) := by decide +kernel
theorem dX0_add_35 : decode cX0_add 35 = .ok (.aload_n 0, 1) := by decide +kernel
theorem dX0_add_36 : decode cX0_add 36 = .ok (.getfield 9, 3) := by decide +kernel
theorem dX0_add_39 : decode cX0_add 39 = .ok (.iconst 1, 1) := by decide +kernel
theorem dX0_add_40 : decode cX0_add 40 = .ok (.bastore, 1) := by decide +kernel
theorem dX0_add_41 : decode cX0_add 41 = .ok (.aload_n 0, 1) := by decide +kernel
theorem dX0_add_42 : decode cX0_add 42 = .ok (.getfield 26, 3) := by decide +kernel
theorem dX0_add_45 : decode cX0_add 45 = .ok (.iconst 2, 1) := by decide +kernel
theorem dX0_add_46 : decode cX0_add 46 = .ok (.aload_n 0, 1) := by decide +kernel
theorem dX0_add_47 : decode cX0_add 47 = .ok (.getfield 9, 3) := by decide +kernel
theorem dX0_add_50 : decode cX0_add 50 = .ok (.imul, 1) := by decide +kernel
theorem dX0_add_51 : decode cX0_add 51 = .ok (.iload_n 2, 1) := by decide +kernel
theorem dX0_add_52 : decode cX0_add 52 = .ok (.iastore, 1) := by decide +kernel
theorem dX0_add_53 : decode cX0_add 53 = .ok (.aload_n 0, 1) := by decide +kernel
theorem dX0_add_54 : decode cX0_add 54 = .ok (.getfield 26, 3) := by decide +kernel
theorem dX0_add_57 : decode cX0_add 57 = .ok (.iconst 2, 1) := by decide +kernel
theorem dX0_add_58 : decode cX0_add 58 = .ok (.aload_n 0, 1) := by decide +kernel
theorem dX0_add_59 : decode cX0_add 59 = .ok (.getfield 9, 3) := by decide +kernel
theorem dX0_add_62 : decode cX0_add 62 = .ok (.imul, 1) := by decide +kernel
theorem dX0_add_63 : decode cX0_add 63 = .ok (.iconst 1, 1) := by decide +kernel
theorem dX0_add_64 : decode cX0_add 64 = .ok (.iadd, 1) := by decide +kernel
theorem dX0_add_65 : decode cX0_add 65 = .ok (.iload_n 3, 1) := by decide +kernel
theorem dX0_add_66 : decode cX0_add 66 = .ok (.iastore, 1) := by decide +kernel
theorem dX0_add_67 : decode cX0_add 67 = .ok (.aload_n 0, 1) := by decide +kernel
theorem dX0_add_68 : decode cX0_add 68 = .ok (.getfield 29, 3) := by decide +kernel
theorem dX0_add_71 : decode cX0_add 71 = .ok (.iconst 2, 1) := by decide +kernel
theorem dX0_add_72 : decode cX0_add 72 = .ok (.aload_n 0, 1) := by decide +kernel
theorem dX0_add_73 : decode cX0_add 73 = .ok (.getfield 9, 3) := by decide +kernel
theorem dX0_add_76 : decode cX0_add 76 = .ok (.imul, 1) := by decide +kernel
theorem dX0_add_77 : decode cX0_add 77 = .ok (.iconst 0, 1) := by decide +kernel
theorem dX0_add_78 : decode cX0_add 78 = .ok (.bastore, 1) := by decide +kernel
theorem dX0_add_79 : decode cX0_add 79 = .ok (.aload_n 0, 1) := by decide +kernel
theorem dX0_add_80 : decode cX0_add 80 = .ok (.getfield 29, 3) := by decide +kernel
theorem dX0_add_83 : decode cX0_add 83 = .ok (.iconst 2, 1) := by decide +kernel
theorem dX0_add_84 : decode cX0_add 84 = .ok (.aload_n 0, 1) := by decide +kernel
theorem dX0_add_85 : decode cX0_add 85 = .ok (.getfield 9, 3) := by decide +kernel
theorem dX0_add_88 : decode cX0_add 88 = .ok (.imul, 1) := by decide +kernel
theorem dX0_add_89 : decode cX0_add 89 = .ok (.iconst 1, 1) := by decide +kernel
theorem dX0_add_90 : decode cX0_add 90 = .ok (.iadd, 1) := by decide +kernel
theorem dX0_add_91 : decode cX0_add 91 = .ok (.iconst 0, 1) := by decide +kernel
theorem dX0_add_92 : decode cX0_add 92 = .ok (.bastore, 1) := by decide +kernel
theorem dX0_add_93 : decode cX0_add 93 = .ok (.aload_n 0, 1) := by decide +kernel
theorem dX0_add_94 : decode cX0_add 94 = .ok (.dup, 1) := by decide +kernel
theorem dX0_add_95 : decode cX0_add 95 = .ok (.getfield 9, 3) := by decide +kernel
theorem dX0_add_98 : decode cX0_add 98 = .ok (.iconst 1, 1) := by decide +kernel
theorem dX0_add_99 : decode cX0_add 99 = .ok (.iadd, 1) := by decide +kernel
theorem dX0_add_100 : decode cX0_add 100 = .ok (.putfield 9, 3) := by decide +kernel
theorem dX0_add_103 : decode cX0_add 103 = .ok (.return_, 1) := by decide +kernel
theorem dX0_connected_0 : decode cX0_connected 0 = .ok (.iconst 2, 1) := by decide +kernel
theorem dX0_connected_1 : decode cX0_connected 1 = .ok (.aload_n 0, 1) := by decide +kernel
theorem dX0_connected_2 : decode cX0_connected 2 = .ok (.getfield 15, 3) := by decide +kernel
theorem dX0_connected_5 : decode cX0_connected 5 = .ok (.iload_n 1, 1) := by decide +kernel
theorem dX0_connected_6 : decode cX0_connected 6 = .ok (.iaload, 1) := by decide +kernel
theorem dX0_connected_7 : decode cX0_connected 7 = .ok (.imul, 1) := by decide +kernel
theorem dX0_connected_8 : decode cX0_connected 8 = .ok (.aload_n 0, 1) := by decide +kernel
theorem dX0_connected_9 : decode cX0_connected 9 = .ok (.getfield 19, 3) := by decide +kernel
theorem dX0_connected_12 : decode cX0_connected 12 = .ok (.iload_n 1, 1) := by decide +kernel
theorem dX0_connected_13 : decode cX0_connected 13 = .ok (.baload, 1) := by decide +kernel
theorem dX0_connected_14 : decode cX0_connected 14 = .ok (.ifCond .eq 9, 3) := by decide +kernel
theorem dX0_connected_17 : decode cX0_connected 17 = .ok (.iconst 1, 1) := by decide +kernel
theorem dX0_connected_18 : decode cX0_connected 18 = .ok (.iload_n 2, 1) := by decide +kernel
theorem dX0_connected_19 : decode cX0_connected 19 = .ok (.isub, 1) := by decide +kernel
theorem dX0_connected_20 : decode cX0_connected 20 = .ok (.goto 4, 3) := by decide +kernel
theorem dX0_connected_23 : decode cX0_connected 23 = .ok (.iload_n 2, 1) := by decide +kernel
theorem dX0_connected_24 : decode cX0_connected 24 = .ok (.iadd, 1) := by decide +kernel
theorem dX0_connected_25 : decode cX0_connected 25 = .ok (.ireturn, 1) := by decide +kernel
theorem dX0_blownFuses_0 : decode cX0_blownFuses 0 = .ok (.iconst 0, 1) := by decide +kernel
theorem dX0_blownFuses_1 : decode cX0_blownFuses 1 = .ok (.istore_n 1, 1) := by decide +kernel
theorem dX0_blownFuses_2 : decode cX0_blownFuses 2 = .ok (.iconst 2, 1) := by decide +kernel
theorem dX0_blownFuses_3 : decode cX0_blownFuses 3 = .ok (.istore_n 2, 1) := by decide +kernel
theorem dX0_blownFuses_4 : decode cX0_blownFuses 4 = .ok (.iload_n 2, 1) := by decide +kernel
theorem dX0_blownFuses_5 : decode cX0_blownFuses 5 = .ok (.iconst 2, 1) := by decide +kernel
theorem dX0_blownFuses_6 : decode cX0_blownFuses 6 = .ok (.aload_n 0, 1) := by decide +kernel
theorem dX0_blownFuses_7 : decode cX0_blownFuses 7 = .ok (.getfield 9, 3) := by decide +kernel
theorem dX0_blownFuses_10 : decode cX0_blownFuses 10 = .ok (.imul, 1) := by decide +kernel
theorem dX0_blownFuses_11 : decode cX0_blownFuses 11 = .ok (.if_icmp .ge 21, 3) := by decide +kernel
theorem dX0_blownFuses_14 : decode cX0_blownFuses 14 = .ok (.aload_n 0, 1) := by decide +kernel
theorem dX0_blownFuses_15 : decode cX0_blownFuses 15 = .ok (.getfield 29, 3) := by decide +kernel
theorem dX0_blownFuses_18 : decode cX0_blownFuses 18 = .ok (.iload_n 2, 1) := by decide +kernel
theorem dX0_blownFuses_19 : decode cX0_blownFuses 19 = .ok (.baload, 1) := by decide +kernel
theorem dX0_blownFuses_20 : decode cX0_blownFuses 20 = .ok (.ifCond .eq 6, 3) := by decide +kernel
theorem dX0_blownFuses_23 : decode cX0_blownFuses 23 = .ok (.iinc 1 1, 3) := by decide +kernel
theorem dX0_blownFuses_26 : decode cX0_blownFuses 26 = .ok (.iinc 2 1, 3) := by decide +kernel
theorem dX0_blownFuses_29 : decode cX0_blownFuses 29 = .ok (.goto (-25), 3) := by decide +kernel
theorem dX0_blownFuses_32 : decode cX0_blownFuses 32 = .ok (.iload_n 1, 1) := by decide +kernel
theorem dX0_blownFuses_33 : decode cX0_blownFuses 33 = .ok (.ireturn, 1) := by decide +kernel
theorem dX0_copy_0 : decode cX0_copy 0 = .ok (.aload_n 0, 1) := by decide +kernel
theorem dX0_copy_1 : decode cX0_copy 1 = .ok (.aload_n 1, 1) := by decide +kernel
theorem dX0_copy_2 : decode cX0_copy 2 = .ok (.getfield 9, 3) := by decide +kernel
theorem dX0_copy_5 : decode cX0_copy 5 = .ok (.putfield 9, 3) := by decide +kernel
theorem dX0_copy_8 : decode cX0_copy 8 = .ok (.iconst 0, 1) := by decide +kernel
theorem dX0_copy_9 : decode cX0_copy 9 = .ok (.istore_n 2, 1) := by decide +kernel
theorem dX0_copy_10 : decode cX0_copy 10 = .ok (.iload_n 2, 1) := by decide +kernel
theorem dX0_copy_11 : decode cX0_copy 11 = .ok (.aload_n 0, 1) := by decide +kernel
theorem dX0_copy_12 : decode cX0_copy 12 = .ok (.getfield 9, 3) := by decide +kernel
theorem dX0_copy_15 : decode cX0_copy 15 = .ok (.if_icmp .ge 45, 3) := by decide +kernel
theorem dX0_copy_18 : decode cX0_copy 18 = .ok (.aload_n 0, 1) := by decide +kernel
theorem dX0_copy_19 : decode cX0_copy 19 = .ok (.getfield 15, 3) := by decide +kernel
theorem dX0_copy_22 : decode cX0_copy 22 = .ok (.iload_n 2, 1) := by decide +kernel
theorem dX0_copy_23 : decode cX0_copy 23 = .ok (.aload_n 1, 1) := by decide +kernel
theorem dX0_copy_24 : decode cX0_copy 24 = .ok (.getfield 15, 3) := by decide +kernel
theorem dX0_copy_27 : decode cX0_copy 27 = .ok (.iload_n 2, 1) := by decide +kernel
theorem dX0_copy_28 : decode cX0_copy 28 = .ok (.iaload, 1) := by decide +kernel
theorem dX0_copy_29 : decode cX0_copy 29 = .ok (.iastore, 1) := by decide +kernel
theorem dX0_copy_30 : decode cX0_copy 30 = .ok (.aload_n 0, 1) := by decide +kernel
theorem dX0_copy_31 : decode cX0_copy 31 = .ok (.getfield 19, 3) := by decide +kernel
theorem dX0_copy_34 : decode cX0_copy 34 = .ok (.iload_n 2, 1) := by decide +kernel
theorem dX0_copy_35 : decode cX0_copy 35 = .ok (.aload_n 1, 1) := by decide +kernel
theorem dX0_copy_36 : decode cX0_copy 36 = .ok (.getfield 19, 3) := by decide +kernel
theorem dX0_copy_39 : decode cX0_copy 39 = .ok (.iload_n 2, 1) := by decide +kernel
theorem dX0_copy_40 : decode cX0_copy 40 = .ok (.baload, 1) := by decide +kernel
theorem dX0_copy_41 : decode cX0_copy 41 = .ok (.bastore, 1) := by decide +kernel
theorem dX0_copy_42 : decode cX0_copy 42 = .ok (.aload_n 0, 1) := by decide +kernel
theorem dX0_copy_43 : decode cX0_copy 43 = .ok (.getfield 23, 3) := by decide +kernel
theorem dX0_copy_46 : decode cX0_copy 46 = .ok (.iload_n 2, 1) := by decide +kernel
theorem dX0_copy_47 : decode cX0_copy 47 = .ok (.aload_n 1, 1) := by decide +kernel
theorem dX0_copy_48 : decode cX0_copy 48 = .ok (.getfield 23, 3) := by decide +kernel
theorem dX0_copy_51 : decode cX0_copy 51 = .ok (.iload_n 2, 1) := by decide +kernel
theorem dX0_copy_52 : decode cX0_copy 52 = .ok (.baload, 1) := by decide +kernel
theorem dX0_copy_53 : decode cX0_copy 53 = .ok (.bastore, 1) := by decide +kernel
theorem dX0_copy_54 : decode cX0_copy 54 = .ok (.iinc 2 1, 3) := by decide +kernel
theorem dX0_copy_57 : decode cX0_copy 57 = .ok (.goto (-47), 3) := by decide +kernel
theorem dX0_copy_60 : decode cX0_copy 60 = .ok (.iconst 0, 1) := by decide +kernel
theorem dX0_copy_61 : decode cX0_copy 61 = .ok (.istore_n 2, 1) := by decide +kernel
theorem dX0_copy_62 : decode cX0_copy 62 = .ok (.iload_n 2, 1) := by decide +kernel
theorem dX0_copy_63 : decode cX0_copy 63 = .ok (.iconst 2, 1) := by decide +kernel
theorem dX0_copy_64 : decode cX0_copy 64 = .ok (.aload_n 0, 1) := by decide +kernel
theorem dX0_copy_65 : decode cX0_copy 65 = .ok (.getfield 9, 3) := by decide +kernel
theorem dX0_copy_68 : decode cX0_copy 68 = .ok (.imul, 1) := by decide +kernel
theorem dX0_copy_69 : decode cX0_copy 69 = .ok (.if_icmp .ge 33, 3) := by decide +kernel
theorem dX0_copy_72 : decode cX0_copy 72 = .ok (.aload_n 0, 1) := by decide +kernel
theorem dX0_copy_73 : decode cX0_copy 73 = .ok (.getfield 26, 3) := by decide +kernel
theorem dX0_copy_76 : decode cX0_copy 76 = .ok (.iload_n 2, 1) := by decide +kernel
theorem dX0_copy_77 : decode cX0_copy 77 = .ok (.aload_n 1, 1) := by decide +kernel
theorem dX0_copy_78 : decode cX0_copy 78 = .ok (.getfield 26, 3) := by decide +kernel
theorem dX0_copy_81 : decode cX0_copy 81 = .ok (.iload_n 2, 1) := by decide +kernel
theorem dX0_copy_82 : decode cX0_copy 82 = .ok (.iaload, 1) := by decide +kernel
theorem dX0_copy_83 : decode cX0_copy 83 = .ok (.iastore, 1) := by decide +kernel
theorem dX0_copy_84 : decode cX0_copy 84 = .ok (.aload_n 0, 1) := by decide +kernel
theorem dX0_copy_85 : decode cX0_copy 85 = .ok (.getfield 29, 3) := by decide +kernel
theorem dX0_copy_88 : decode cX0_copy 88 = .ok (.iload_n 2, 1) := by decide +kernel
theorem dX0_copy_89 : decode cX0_copy 89 = .ok (.aload_n 1, 1) := by decide +kernel
theorem dX0_copy_90 : decode cX0_copy 90 = .ok (.getfield 29, 3) := by decide +kernel
theorem dX0_copy_93 : decode cX0_copy 93 = .ok (.iload_n 2, 1) := by decide +kernel
theorem dX0_copy_94 : decode cX0_copy 94 = .ok (.baload, 1) := by decide +kernel
theorem dX0_copy_95 : decode cX0_copy 95 = .ok (.bastore, 1) := by decide +kernel
theorem dX0_copy_96 : decode cX0_copy 96 = .ok (.iinc 2 1, 3) := by decide +kernel
theorem dX0_copy_99 : decode cX0_copy 99 = .ok (.goto (-37), 3) := by decide +kernel
theorem dX0_copy_102 : decode cX0_copy 102 = .ok (.return_, 1) := by decide +kernel
theorem dX1_init_0 : decode cX1_init 0 = .ok (.aload_n 0, 1) := by decide +kernel
theorem dX1_init_1 : decode cX1_init 1 = .ok (.invokespecial 3, 3) := by decide +kernel
theorem dX1_init_4 : decode cX1_init 4 = .ok (.aload_n 0, 1) := by decide +kernel
theorem dX1_init_5 : decode cX1_init 5 = .ok (.iconst 0, 1) := by decide +kernel
theorem dX1_init_6 : decode cX1_init 6 = .ok (.putfield 9, 3) := by decide +kernel
theorem dX1_init_9 : decode cX1_init 9 = .ok (.aload_n 0, 1) := by decide +kernel
theorem dX1_init_10 : decode cX1_init 10 = .ok (.bipush 9, 2) := by decide +kernel
theorem dX1_init_12 : decode cX1_init 12 = .ok (.newarray .int, 2) := by decide +kernel
theorem dX1_init_14 : decode cX1_init 14 = .ok (.putfield 15, 3) := by decide +kernel
theorem dX1_init_17 : decode cX1_init 17 = .ok (.aload_n 0, 1) := by decide +kernel
theorem dX1_init_18 : decode cX1_init 18 = .ok (.bipush 9, 2) := by decide +kernel
theorem dX1_init_20 : decode cX1_init 20 = .ok (.newarray .int, 2) := by decide +kernel
theorem dX1_init_22 : decode cX1_init 22 = .ok (.putfield 19, 3) := by decide +kernel
theorem dX1_init_25 : decode cX1_init 25 = .ok (.aload_n 0, 1) := by decide +kernel
theorem dX1_init_26 : decode cX1_init 26 = .ok (.bipush 9, 2) := by decide +kernel
theorem dX1_init_28 : decode cX1_init 28 = .ok (.newarray .int, 2) := by decide +kernel
theorem dX1_init_30 : decode cX1_init 30 = .ok (.putfield 22, 3) := by decide +kernel
theorem dX1_init_33 : decode cX1_init 33 = .ok (.return_, 1) := by decide +kernel
theorem dX1_add_0 : decode cX1_add 0 = .ok (.aload_n 0, 1) := by decide +kernel
theorem dX1_add_1 : decode cX1_add 1 = .ok (.getfield 9, 3) := by decide +kernel
theorem dX1_add_4 : decode cX1_add 4 = .ok (.bipush 9, 2) := by decide +kernel
theorem dX1_add_6 : decode cX1_add 6 = .ok (.if_icmp .lt 4, 3) := by decide +kernel
theorem dX1_add_9 : decode cX1_add 9 = .ok (.return_, 1) := by decide +kernel
theorem dX1_add_10 : decode cX1_add 10 = .ok (.aload_n 0, 1) := by decide +kernel
theorem dX1_add_11 : decode cX1_add 11 = .ok (.getfield 15, 3) := by decide +kernel
theorem dX1_add_14 : decode cX1_add 14 = .ok (.aload_n 0, 1) := by decide +kernel
theorem dX1_add_15 : decode cX1_add 15 = .ok (.getfield 9, 3) := by decide +kernel
theorem dX1_add_18 : decode cX1_add 18 = .ok (.iload_n 1, 1) := by decide +kernel
theorem dX1_add_19 : decode cX1_add 19 = .ok (.iastore, 1) := by decide +kernel
theorem dX1_add_20 : decode cX1_add 20 = .ok (.aload_n 0, 1) := by decide +kernel
theorem dX1_add_21 : decode cX1_add 21 = .ok (.getfield 19, 3) := by decide +kernel
theorem dX1_add_24 : decode cX1_add 24 = .ok (.aload_n 0, 1) := by decide +kernel
theorem dX1_add_25 : decode cX1_add 25 = .ok (.getfield 9, 3) := by decide +kernel
theorem dX1_add_28 : decode cX1_add 28 = .ok (.iload_n 2, 1) := by decide +kernel
theorem dX1_add_29 : decode cX1_add 29 = .ok (.iastore, 1) := by decide +kernel
theorem dX1_add_30 : decode cX1_add 30 = .ok (.aload_n 0, 1) := by decide +kernel
theorem dX1_add_31 : decode cX1_add 31 = .ok (.getfield 22, 3) := by decide +kernel
theorem dX1_add_34 : decode cX1_add 34 = .ok (.aload_n 0, 1) := by decide +kernel
theorem dX1_add_35 : decode cX1_add 35 = .ok (.getfield 9, 3) := by decide +kernel
theorem dX1_add_38 : decode cX1_add 38 = .ok (.iload_n 3, 1) := by decide +kernel
theorem dX1_add_39 : decode cX1_add 39 = .ok (.iastore, 1) := by decide +kernel
theorem dX1_add_40 : decode cX1_add 40 = .ok (.aload_n 0, 1) := by decide +kernel
theorem dX1_add_41 : decode cX1_add 41 = .ok (.dup, 1) := by decide +kernel
theorem dX1_add_42 : decode cX1_add 42 = .ok (.getfield 9, 3) := by decide +kernel
theorem dX1_add_45 : decode cX1_add 45 = .ok (.iconst 1, 1) := by decide +kernel
theorem dX1_add_46 : decode cX1_add 46 = .ok (.iadd, 1) := by decide +kernel
theorem dX1_add_47 : decode cX1_add 47 = .ok (.putfield 9, 3) := by decide +kernel
theorem dX1_add_50 : decode cX1_add 50 = .ok (.return_, 1) := by decide +kernel
theorem dX1_remove_0 : decode cX1_remove 0 = .ok (.iload_n 1, 1) := by decide +kernel
theorem dX1_remove_1 : decode cX1_remove 1 = .ok (.istore_n 2, 1) := by decide +kernel
theorem dX1_remove_2 : decode cX1_remove 2 = .ok (.iload_n 2, 1) := by decide +kernel
theorem dX1_remove_3 : decode cX1_remove 3 = .ok (.aload_n 0, 1) := by decide +kernel
theorem dX1_remove_4 : decode cX1_remove 4 = .ok (.getfield 9, 3) := by decide +kernel
theorem dX1_remove_7 : decode cX1_remove 7 = .ok (.iconst 1, 1) := by decide +kernel
theorem dX1_remove_8 : decode cX1_remove 8 = .ok (.isub, 1) := by decide +kernel
theorem dX1_remove_9 : decode cX1_remove 9 = .ok (.if_icmp .ge 51, 3) := by decide +kernel
theorem dX1_remove_12 : decode cX1_remove 12 = .ok (.aload_n 0, 1) := by decide +kernel
theorem dX1_remove_13 : decode cX1_remove 13 = .ok (.getfield 15, 3) := by decide +kernel
theorem dX1_remove_16 : decode cX1_remove 16 = .ok (.iload_n 2, 1) := by decide +kernel
theorem dX1_remove_17 : decode cX1_remove 17 = .ok (.aload_n 0, 1) := by decide +kernel
theorem dX1_remove_18 : decode cX1_remove 18 = .ok (.getfield 15, 3) := by decide +kernel
theorem dX1_remove_21 : decode cX1_remove 21 = .ok (.iload_n 2, 1) := by decide +kernel
theorem dX1_remove_22 : decode cX1_remove 22 = .ok (.iconst 1, 1) := by decide +kernel
theorem dX1_remove_23 : decode cX1_remove 23 = .ok (.iadd, 1) := by decide +kernel
theorem dX1_remove_24 : decode cX1_remove 24 = .ok (.iaload, 1) := by decide +kernel
theorem dX1_remove_25 : decode cX1_remove 25 = .ok (.iastore, 1) := by decide +kernel
theorem dX1_remove_26 : decode cX1_remove 26 = .ok (.aload_n 0, 1) := by decide +kernel
theorem dX1_remove_27 : decode cX1_remove 27 = .ok (.getfield 19, 3) := by decide +kernel
theorem dX1_remove_30 : decode cX1_remove 30 = .ok (.iload_n 2, 1) := by decide +kernel
theorem dX1_remove_31 : decode cX1_remove 31 = .ok (.aload_n 0, 1) := by decide +kernel
theorem dX1_remove_32 : decode cX1_remove 32 = .ok (.getfield 19, 3) := by decide +kernel
theorem dX1_remove_35 : decode cX1_remove 35 = .ok (.iload_n 2, 1) := by decide +kernel
theorem dX1_remove_36 : decode cX1_remove 36 = .ok (.iconst 1, 1) := by decide +kernel
theorem dX1_remove_37 : decode cX1_remove 37 = .ok (.iadd, 1) := by decide +kernel
theorem dX1_remove_38 : decode cX1_remove 38 = .ok (.iaload, 1) := by decide +kernel
theorem dX1_remove_39 : decode cX1_remove 39 = .ok (.iastore, 1) := by decide +kernel
theorem dX1_remove_40 : decode cX1_remove 40 = .ok (.aload_n 0, 1) := by decide +kernel
theorem dX1_remove_41 : decode cX1_remove 41 = .ok (.getfield 22, 3) := by decide +kernel
theorem dX1_remove_44 : decode cX1_remove 44 = .ok (.iload_n 2, 1) := by decide +kernel
theorem dX1_remove_45 : decode cX1_remove 45 = .ok (.aload_n 0, 1) := by decide +kernel
theorem dX1_remove_46 : decode cX1_remove 46 = .ok (.getfield 22, 3) := by decide +kernel
theorem dX1_remove_49 : decode cX1_remove 49 = .ok (.iload_n 2, 1) := by decide +kernel
theorem dX1_remove_50 : decode cX1_remove 50 = .ok (.iconst 1, 1) := by decide +kernel
theorem dX1_remove_51 : decode cX1_remove 51 = .ok (.iadd, 1) := by decide +kernel
theorem dX1_remove_52 : decode cX1_remove 52 = .ok (.iaload, 1) := by decide +kernel
theorem dX1_remove_53 : decode cX1_remove 53 = .ok (.iastore, 1) := by decide +kernel
theorem dX1_remove_54 : decode cX1_remove 54 = .ok (.iinc 2 1, 3) := by decide +kernel
theorem dX1_remove_57 : decode cX1_remove 57 = .ok (.goto (-55), 3) := by decide +kernel
theorem dX1_remove_60 : decode cX1_remove 60 = .ok (.aload_n 0, 1) := by decide +kernel
theorem dX1_remove_61 : decode cX1_remove 61 = .ok (.dup, 1) := by decide +kernel
theorem dX1_remove_62 : decode cX1_remove 62 = .ok (.getfield 9, 3) := by decide +kernel
theorem dX1_remove_65 : decode cX1_remove 65 = .ok (.iconst 1, 1) := by decide +kernel
theorem dX1_remove_66 : decode cX1_remove 66 = .ok (.isub, 1) := by decide +kernel
theorem dX1_remove_67 : decode cX1_remove 67 = .ok (.putfield 9, 3) := by decide +kernel
theorem dX1_remove_70 : decode cX1_remove 70 = .ok (.return_, 1) := by decide +kernel
theorem dX1_copy_0 : decode cX1_copy 0 = .ok (.aload_n 0, 1) := by decide +kernel
theorem dX1_copy_1 : decode cX1_copy 1 = .ok (.aload_n 1, 1) := by decide +kernel
theorem dX1_copy_2 : decode cX1_copy 2 = .ok (.getfield 9, 3) := by decide +kernel
theorem dX1_copy_5 : decode cX1_copy 5 = .ok (.putfield 9, 3) := by decide +kernel
theorem dX1_copy_8 : decode cX1_copy 8 = .ok (.iconst 0, 1) := by decide +kernel
theorem dX1_copy_9 : decode cX1_copy 9 = .ok (.istore_n 2, 1) := by decide +kernel
theorem dX1_copy_10 : decode cX1_copy 10 = .ok (.iload_n 2, 1) := by decide +kernel
theorem dX1_copy_11 : decode cX1_copy 11 = .ok (.aload_n 0, 1) := by decide +kernel
theorem dX1_copy_12 : decode cX1_copy 12 = .ok (.getfield 9, 3) := by decide +kernel
theorem dX1_copy_15 : decode cX1_copy 15 = .ok (.if_icmp .ge 45, 3) := by decide +kernel
theorem dX1_copy_18 : decode cX1_copy 18 = .ok (.aload_n 0, 1) := by decide +kernel
theorem dX1_copy_19 : decode cX1_copy 19 = .ok (.getfield 15, 3) := by decide +kernel
theorem dX1_copy_22 : decode cX1_copy 22 = .ok (.iload_n 2, 1) := by decide +kernel
theorem dX1_copy_23 : decode cX1_copy 23 = .ok (.aload_n 1, 1) := by decide +kernel
theorem dX1_copy_24 : decode cX1_copy 24 = .ok (.getfield 15, 3) := by decide +kernel
theorem dX1_copy_27 : decode cX1_copy 27 = .ok (.iload_n 2, 1) := by decide +kernel
theorem dX1_copy_28 : decode cX1_copy 28 = .ok (.iaload, 1) := by decide +kernel
theorem dX1_copy_29 : decode cX1_copy 29 = .ok (.iastore, 1) := by decide +kernel
theorem dX1_copy_30 : decode cX1_copy 30 = .ok (.aload_n 0, 1) := by decide +kernel
theorem dX1_copy_31 : decode cX1_copy 31 = .ok (.getfield 19, 3) := by decide +kernel
theorem dX1_copy_34 : decode cX1_copy 34 = .ok (.iload_n 2, 1) := by decide +kernel
theorem dX1_copy_35 : decode cX1_copy 35 = .ok (.aload_n 1, 1) := by decide +kernel
theorem dX1_copy_36 : decode cX1_copy 36 = .ok (.getfield 19, 3) := by decide +kernel
theorem dX1_copy_39 : decode cX1_copy 39 = .ok (.iload_n 2, 1) := by decide +kernel
theorem dX1_copy_40 : decode cX1_copy 40 = .ok (.iaload, 1) := by decide +kernel
theorem dX1_copy_41 : decode cX1_copy 41 = .ok (.iastore, 1) := by decide +kernel
theorem dX1_copy_42 : decode cX1_copy 42 = .ok (.aload_n 0, 1) := by decide +kernel
theorem dX1_copy_43 : decode cX1_copy 43 = .ok (.getfield 22, 3) := by decide +kernel
theorem dX1_copy_46 : decode cX1_copy 46 = .ok (.iload_n 2, 1) := by decide +kernel
theorem dX1_copy_47 : decode cX1_copy 47 = .ok (.aload_n 1, 1) := by decide +kernel
theorem dX1_copy_48 : decode cX1_copy 48 = .ok (.getfield 22, 3) := by decide +kernel
theorem dX1_copy_51 : decode cX1_copy 51 = .ok (.iload_n 2, 1) := by decide +kernel
theorem dX1_copy_52 : decode cX1_copy 52 = .ok (.iaload, 1) := by decide +kernel
theorem dX1_copy_53 : decode cX1_copy 53 = .ok (.iastore, 1) := by decide +kernel
theorem dX1_copy_54 : decode cX1_copy 54 = .ok (.iinc 2 1, 3) := by decide +kernel
theorem dX1_copy_57 : decode cX1_copy 57 = .ok (.goto (-47), 3) := by decide +kernel
theorem dX1_copy_60 : decode cX1_copy 60 = .ok (.return_, 1) := by decide +kernel
theorem dX2_init_0 : decode cX2_init 0 = .ok (.aload_n 0, 1) := by decide +kernel
theorem dX2_init_1 : decode cX2_init 1 = .ok (.invokespecial 3, 3) := by decide +kernel
theorem dX2_init_4 : decode cX2_init 4 = .ok (.aload_n 0, 1) := by decide +kernel
theorem dX2_init_5 : decode cX2_init 5 = .ok (.iconst 0, 1) := by decide +kernel
theorem dX2_init_6 : decode cX2_init 6 = .ok (.putfield 9, 3) := by decide +kernel
theorem dX2_init_9 : decode cX2_init 9 = .ok (.aload_n 0, 1) := by decide +kernel
theorem dX2_init_10 : decode cX2_init 10 = .ok (.bipush 6, 2) := by decide +kernel
theorem dX2_init_12 : decode cX2_init 12 = .ok (.anewarray 15, 3) := by decide +kernel
theorem dX2_init_15 : decode cX2_init 15 = .ok (.putfield 17, 3) := by decide +kernel
theorem dX2_init_18 : decode cX2_init 18 = .ok (.iconst 0, 1) := by decide +kernel
theorem dX2_init_19 : decode cX2_init 19 = .ok (.istore_n 1, 1) := by decide +kernel
theorem dX2_init_20 : decode cX2_init 20 = .ok (.iload_n 1, 1) := by decide +kernel
theorem dX2_init_21 : decode cX2_init 21 = .ok (.bipush 6, 2) := by decide +kernel
theorem dX2_init_23 : decode cX2_init 23 = .ok (.if_icmp .ge 22, 3) := by decide +kernel
theorem dX2_init_26 : decode cX2_init 26 = .ok (.aload_n 0, 1) := by decide +kernel
theorem dX2_init_27 : decode cX2_init 27 = .ok (.getfield 17, 3) := by decide +kernel
theorem dX2_init_30 : decode cX2_init 30 = .ok (.iload_n 1, 1) := by decide +kernel
theorem dX2_init_31 : decode cX2_init 31 = .ok (.new 15, 3) := by decide +kernel
theorem dX2_init_34 : decode cX2_init 34 = .ok (.dup, 1) := by decide +kernel
theorem dX2_init_35 : decode cX2_init 35 = .ok (.invokespecial 21, 3) := by decide +kernel
theorem dX2_init_38 : decode cX2_init 38 = .ok (.aastore, 1) := by decide +kernel
theorem dX2_init_39 : decode cX2_init 39 = .ok (.iinc 1 1, 3) := by decide +kernel
theorem dX2_init_42 : decode cX2_init 42 = .ok (.goto (-22), 3) := by decide +kernel
theorem dX2_init_45 : decode cX2_init 45 = .ok (.return_, 1) := by decide +kernel
theorem dX2_save_0 : decode cX2_save 0 = .ok (.aload_n 0, 1) := by decide +kernel
theorem dX2_save_1 : decode cX2_save 1 = .ok (.getfield 9, 3) := by decide +kernel
theorem dX2_save_4 : decode cX2_save 4 = .ok (.bipush 6, 2) := by decide +kernel
theorem dX2_save_6 : decode cX2_save 6 = .ok (.if_icmp .lt 7, 3) := by decide +kernel
theorem dX2_save_9 : decode cX2_save 9 = .ok (.aload_n 0, 1) := by decide +kernel
theorem dX2_save_10 : decode cX2_save 10 = .ok (.invokevirtual 22, 3) := by decide +kernel
theorem dX2_save_13 : decode cX2_save 13 = .ok (.aload_n 0, 1) := by decide +kernel
theorem dX2_save_14 : decode cX2_save 14 = .ok (.getfield 17, 3) := by decide +kernel
theorem dX2_save_17 : decode cX2_save 17 = .ok (.aload_n 0, 1) := by decide +kernel
theorem dX2_save_18 : decode cX2_save 18 = .ok (.getfield 9, 3) := by decide +kernel
theorem dX2_save_21 : decode cX2_save 21 = .ok (.aaload, 1) := by decide +kernel
theorem dX2_save_22 : decode cX2_save 22 = .ok (.aload_n 1, 1) := by decide +kernel
theorem dX2_save_23 : decode cX2_save 23 = .ok (.invokevirtual 25, 3) := by decide +kernel
theorem dX2_save_26 : decode cX2_save 26 = .ok (.aload_n 0, 1) := by decide +kernel
theorem dX2_save_27 : decode cX2_save 27 = .ok (.dup, 1) := by decide +kernel
theorem dX2_save_28 : decode cX2_save 28 = .ok (.getfield 9, 3) := by decide +kernel
theorem dX2_save_31 : decode cX2_save 31 = .ok (.iconst 1, 1) := by decide +kernel
theorem dX2_save_32 : decode cX2_save 32 = .ok (.iadd, 1) := by decide +kernel
theorem dX2_save_33 : decode cX2_save 33 = .ok (.putfield 9, 3) := by decide +kernel
theorem dX2_save_36 : decode cX2_save 36 = .ok (.return_, 1) := by decide +kernel
theorem dX2_restore_0 : decode cX2_restore 0 = .ok (.aload_n 0, 1) := by decide +kernel
theorem dX2_restore_1 : decode cX2_restore 1 = .ok (.getfield 9, 3) := by decide +kernel
theorem dX2_restore_4 : decode cX2_restore 4 = .ok (.ifCond .le 26, 3) := by decide +kernel
theorem dX2_restore_7 : decode cX2_restore 7 = .ok (.aload_n 0, 1) := by decide +kernel
theorem dX2_restore_8 : decode cX2_restore 8 = .ok (.dup, 1) := by decide +kernel
theorem dX2_restore_9 : decode cX2_restore 9 = .ok (.getfield 9, 3) := by decide +kernel
theorem dX2_restore_12 : decode cX2_restore 12 = .ok (.iconst 1, 1) := by decide +kernel
theorem dX2_restore_13 : decode cX2_restore 13 = .ok (.isub, 1) := by decide +kernel
theorem dX2_restore_14 : decode cX2_restore 14 = .ok (.putfield 9, 3) := by decide +kernel
theorem dX2_restore_17 : decode cX2_restore 17 = .ok (.aload_n 1, 1) := by decide +kernel
theorem dX2_restore_18 : decode cX2_restore 18 = .ok (.aload_n 0, 1) := by decide +kernel
theorem dX2_restore_19 : decode cX2_restore 19 = .ok (.getfield 17, 3) := by decide +kernel
theorem dX2_restore_22 : decode cX2_restore 22 = .ok (.aload_n 0, 1) := by decide +kernel
theorem dX2_restore_23 : decode cX2_restore 23 = .ok (.getfield 9, 3) := by decide +kernel
theorem dX2_restore_26 : decode cX2_restore 26 = .ok (.aaload, 1) := by decide +kernel
theorem dX2_restore_27 : decode cX2_restore 27 = .ok (.invokevirtual 25, 3) := by decide +kernel
theorem dX2_restore_30 : decode cX2_restore 30 = .ok (.return_, 1) := by decide +kernel
theorem dX2_dropOldest_0 : decode cX2_dropOldest 0 = .ok (.aload_n 0, 1) := by decide +kernel
theorem dX2_dropOldest_1 : decode cX2_dropOldest 1 = .ok (.getfield 17, 3) := by decide +kernel
theorem dX2_dropOldest_4 : decode cX2_dropOldest 4 = .ok (.iconst 0, 1) := by decide +kernel
theorem dX2_dropOldest_5 : decode cX2_dropOldest 5 = .ok (.aaload, 1) := by decide +kernel
theorem dX2_dropOldest_6 : decode cX2_dropOldest 6 = .ok (.astore_n 1, 1) := by decide +kernel
theorem dX2_dropOldest_7 : decode cX2_dropOldest 7 = .ok (.iconst 0, 1) := by decide +kernel
theorem dX2_dropOldest_8 : decode cX2_dropOldest 8 = .ok (.istore_n 2, 1) := by decide +kernel
theorem dX2_dropOldest_9 : decode cX2_dropOldest 9 = .ok (.iload_n 2, 1) := by decide +kernel
theorem dX2_dropOldest_10 : decode cX2_dropOldest 10 = .ok (.iconst 5, 1) := by decide +kernel
theorem dX2_dropOldest_11 : decode cX2_dropOldest 11 = .ok (.if_icmp .ge 23, 3) := by decide +kernel
theorem dX2_dropOldest_14 : decode cX2_dropOldest 14 = .ok (.aload_n 0, 1) := by decide +kernel
theorem dX2_dropOldest_15 : decode cX2_dropOldest 15 = .ok (.getfield 17, 3) := by decide +kernel
theorem dX2_dropOldest_18 : decode cX2_dropOldest 18 = .ok (.iload_n 2, 1) := by decide +kernel
theorem dX2_dropOldest_19 : decode cX2_dropOldest 19 = .ok (.aload_n 0, 1) := by decide +kernel
theorem dX2_dropOldest_20 : decode cX2_dropOldest 20 = .ok (.getfield 17, 3) := by decide +kernel
theorem dX2_dropOldest_23 : decode cX2_dropOldest 23 = .ok (.iload_n 2, 1) := by decide +kernel
theorem dX2_dropOldest_24 : decode cX2_dropOldest 24 = .ok (.iconst 1, 1) := by decide +kernel
theorem dX2_dropOldest_25 : decode cX2_dropOldest 25 = .ok (.iadd, 1) := by decide +kernel
theorem dX2_dropOldest_26 : decode cX2_dropOldest 26 = .ok (.aaload, 1) := by decide +kernel
theorem dX2_dropOldest_27 : decode cX2_dropOldest 27 = .ok (.aastore, 1) := by decide +kernel
theorem dX2_dropOldest_28 : decode cX2_dropOldest 28 = .ok (.iinc 2 1, 3) := by decide +kernel
theorem dX2_dropOldest_31 : decode cX2_dropOldest 31 = .ok (.goto (-22), 3) := by decide +kernel
theorem dX2_dropOldest_34 : decode cX2_dropOldest 34 = .ok (.aload_n 0, 1) := by decide +kernel
theorem dX2_dropOldest_35 : decode cX2_dropOldest 35 = .ok (.getfield 17, 3) := by decide +kernel
theorem dX2_dropOldest_38 : decode cX2_dropOldest 38 = .ok (.iconst 5, 1) := by decide +kernel
theorem dX2_dropOldest_39 : decode cX2_dropOldest 39 = .ok (.aload_n 1, 1) := by decide +kernel
theorem dX2_dropOldest_40 : decode cX2_dropOldest 40 = .ok (.aastore, 1) := by decide +kernel
theorem dX2_dropOldest_41 : decode cX2_dropOldest 41 = .ok (.aload_n 0, 1) := by decide +kernel
theorem dX2_dropOldest_42 : decode cX2_dropOldest 42 = .ok (.iconst 5, 1) := by decide +kernel
theorem dX2_dropOldest_43 : decode cX2_dropOldest 43 = .ok (.putfield 9, 3) := by decide +kernel
theorem dX2_dropOldest_46 : decode cX2_dropOldest 46 = .ok (.return_, 1) := by decide +kernel
theorem dX3_init_0 : decode cX3_init 0 = .ok (.aload_n 0, 1) := by decide +kernel
theorem dX3_init_1 : decode cX3_init 1 = .ok (.invokespecial 3, 3) := by decide +kernel
theorem dX3_init_4 : decode cX3_init 4 = .ok (.aload_n 0, 1) := by decide +kernel
theorem dX3_init_5 : decode cX3_init 5 = .ok (.iconst 0, 1) := by decide +kernel
theorem dX3_init_6 : decode cX3_init 6 = .ok (.putfield 9, 3) := by decide +kernel
theorem dX3_init_9 : decode cX3_init 9 = .ok (.aload_n 0, 1) := by decide +kernel
theorem dX3_init_10 : decode cX3_init 10 = .ok (.bipush 16, 2) := by decide +kernel
theorem dX3_init_12 : decode cX3_init 12 = .ok (.newarray .int, 2) := by decide +kernel
theorem dX3_init_14 : decode cX3_init 14 = .ok (.putfield 15, 3) := by decide +kernel
theorem dX3_init_17 : decode cX3_init 17 = .ok (.aload_n 0, 1) := by decide +kernel
theorem dX3_init_18 : decode cX3_init 18 = .ok (.bipush 16, 2) := by decide +kernel
theorem dX3_init_20 : decode cX3_init 20 = .ok (.newarray .int, 2) := by decide +kernel
theorem dX3_init_22 : decode cX3_init 22 = .ok (.putfield 19, 3) := by decide +kernel
theorem dX3_init_25 : decode cX3_init 25 = .ok (.aload_n 0, 1) := by decide +kernel
theorem dX3_init_26 : decode cX3_init 26 = .ok (.bipush 16, 2) := by decide +kernel
theorem dX3_init_28 : decode cX3_init 28 = .ok (.newarray .boolean, 2) := by decide +kernel
theorem dX3_init_30 : decode cX3_init 30 = .ok (.putfield 22, 3) := by decide +kernel
theorem dX3_init_33 : decode cX3_init 33 = .ok (.return_, 1) := by decide +kernel
theorem dX3_add_0 : decode cX3_add 0 = .ok (.aload_n 0, 1) := by decide +kernel
theorem dX3_add_1 : decode cX3_add 1 = .ok (.getfield 9, 3) := by decide +kernel
theorem dX3_add_4 : decode cX3_add 4 = .ok (.bipush 16, 2) := by decide +kernel
theorem dX3_add_6 : decode cX3_add 6 = .ok (.if_icmp .lt 4, 3) := by decide +kernel
theorem dX3_add_9 : decode cX3_add 9 = .ok (.return_, 1) := by decide +kernel
theorem dX3_add_10 : decode cX3_add 10 = .ok (.aload_n 0, 1) := by decide +kernel
theorem dX3_add_11 : decode cX3_add 11 = .ok (.getfield 15, 3) := by decide +kernel
theorem dX3_add_14 : decode cX3_add 14 = .ok (.aload_n 0, 1) := by decide +kernel
theorem dX3_add_15 : decode cX3_add 15 = .ok (.getfield 9, 3) := by decide +kernel
theorem dX3_add_18 : decode cX3_add 18 = .ok (.iload_n 1, 1) := by decide +kernel
theorem dX3_add_19 : decode cX3_add 19 = .ok (.iastore, 1) := by decide +kernel
theorem dX3_add_20 : decode cX3_add 20 = .ok (.aload_n 0, 1) := by decide +kernel
theorem dX3_add_21 : decode cX3_add 21 = .ok (.getfield 19, 3) := by decide +kernel
theorem dX3_add_24 : decode cX3_add 24 = .ok (.aload_n 0, 1) := by decide +kernel
theorem dX3_add_25 : decode cX3_add 25 = .ok (.getfield 9, 3) := by decide +kernel
theorem dX3_add_28 : decode cX3_add 28 = .ok (.iload_n 2, 1) := by decide +kernel
theorem dX3_add_29 : decode cX3_add 29 = .ok (.iastore, 1) := by decide +kernel
theorem dX3_add_30 : decode cX3_add 30 = .ok (.aload_n 0, 1) := by decide +kernel
theorem dX3_add_31 : decode cX3_add 31 = .ok (.getfield 22, 3) := by decide +kernel
theorem dX3_add_34 : decode cX3_add 34 = .ok (.aload_n 0, 1) := by decide +kernel
theorem dX3_add_35 : decode cX3_add 35 = .ok (.getfield 9, 3) := by decide +kernel
theorem dX3_add_38 : decode cX3_add 38 = .ok (.iload_n 3, 1) := by decide +kernel
theorem dX3_add_39 : decode cX3_add 39 = .ok (.bastore, 1) := by decide +kernel
theorem dX3_add_40 : decode cX3_add 40 = .ok (.aload_n 0, 1) := by decide +kernel
theorem dX3_add_41 : decode cX3_add 41 = .ok (.dup, 1) := by decide +kernel
theorem dX3_add_42 : decode cX3_add 42 = .ok (.getfield 9, 3) := by decide +kernel
theorem dX3_add_45 : decode cX3_add 45 = .ok (.iconst 1, 1) := by decide +kernel
theorem dX3_add_46 : decode cX3_add 46 = .ok (.iadd, 1) := by decide +kernel
theorem dX3_add_47 : decode cX3_add 47 = .ok (.putfield 9, 3) := by decide +kernel
theorem dX3_add_50 : decode cX3_add 50 = .ok (.return_, 1) := by decide +kernel
theorem dX3_remove_0 : decode cX3_remove 0 = .ok (.iload_n 1, 1) := by decide +kernel
theorem dX3_remove_1 : decode cX3_remove 1 = .ok (.istore_n 2, 1) := by decide +kernel
theorem dX3_remove_2 : decode cX3_remove 2 = .ok (.iload_n 2, 1) := by decide +kernel
theorem dX3_remove_3 : decode cX3_remove 3 = .ok (.aload_n 0, 1) := by decide +kernel
theorem dX3_remove_4 : decode cX3_remove 4 = .ok (.getfield 9, 3) := by decide +kernel
theorem dX3_remove_7 : decode cX3_remove 7 = .ok (.iconst 1, 1) := by decide +kernel
theorem dX3_remove_8 : decode cX3_remove 8 = .ok (.isub, 1) := by decide +kernel
theorem dX3_remove_9 : decode cX3_remove 9 = .ok (.if_icmp .ge 51, 3) := by decide +kernel
theorem dX3_remove_12 : decode cX3_remove 12 = .ok (.aload_n 0, 1) := by decide +kernel
theorem dX3_remove_13 : decode cX3_remove 13 = .ok (.getfield 15, 3) := by decide +kernel
theorem dX3_remove_16 : decode cX3_remove 16 = .ok (.iload_n 2, 1) := by decide +kernel
theorem dX3_remove_17 : decode cX3_remove 17 = .ok (.aload_n 0, 1) := by decide +kernel
theorem dX3_remove_18 : decode cX3_remove 18 = .ok (.getfield 15, 3) := by decide +kernel
theorem dX3_remove_21 : decode cX3_remove 21 = .ok (.iload_n 2, 1) := by decide +kernel
theorem dX3_remove_22 : decode cX3_remove 22 = .ok (.iconst 1, 1) := by decide +kernel
theorem dX3_remove_23 : decode cX3_remove 23 = .ok (.iadd, 1) := by decide +kernel
theorem dX3_remove_24 : decode cX3_remove 24 = .ok (.iaload, 1) := by decide +kernel
theorem dX3_remove_25 : decode cX3_remove 25 = .ok (.iastore, 1) := by decide +kernel
theorem dX3_remove_26 : decode cX3_remove 26 = .ok (.aload_n 0, 1) := by decide +kernel
theorem dX3_remove_27 : decode cX3_remove 27 = .ok (.getfield 19, 3) := by decide +kernel
theorem dX3_remove_30 : decode cX3_remove 30 = .ok (.iload_n 2, 1) := by decide +kernel
theorem dX3_remove_31 : decode cX3_remove 31 = .ok (.aload_n 0, 1) := by decide +kernel
theorem dX3_remove_32 : decode cX3_remove 32 = .ok (.getfield 19, 3) := by decide +kernel
theorem dX3_remove_35 : decode cX3_remove 35 = .ok (.iload_n 2, 1) := by decide +kernel
theorem dX3_remove_36 : decode cX3_remove 36 = .ok (.iconst 1, 1) := by decide +kernel
theorem dX3_remove_37 : decode cX3_remove 37 = .ok (.iadd, 1) := by decide +kernel
theorem dX3_remove_38 : decode cX3_remove 38 = .ok (.iaload, 1) := by decide +kernel
theorem dX3_remove_39 : decode cX3_remove 39 = .ok (.iastore, 1) := by decide +kernel
theorem dX3_remove_40 : decode cX3_remove 40 = .ok (.aload_n 0, 1) := by decide +kernel
theorem dX3_remove_41 : decode cX3_remove 41 = .ok (.getfield 22, 3) := by decide +kernel
theorem dX3_remove_44 : decode cX3_remove 44 = .ok (.iload_n 2, 1) := by decide +kernel
theorem dX3_remove_45 : decode cX3_remove 45 = .ok (.aload_n 0, 1) := by decide +kernel
theorem dX3_remove_46 : decode cX3_remove 46 = .ok (.getfield 22, 3) := by decide +kernel
theorem dX3_remove_49 : decode cX3_remove 49 = .ok (.iload_n 2, 1) := by decide +kernel
theorem dX3_remove_50 : decode cX3_remove 50 = .ok (.iconst 1, 1) := by decide +kernel
theorem dX3_remove_51 : decode cX3_remove 51 = .ok (.iadd, 1) := by decide +kernel
theorem dX3_remove_52 : decode cX3_remove 52 = .ok (.baload, 1) := by decide +kernel
theorem dX3_remove_53 : decode cX3_remove 53 = .ok (.bastore, 1) := by decide +kernel
theorem dX3_remove_54 : decode cX3_remove 54 = .ok (.iinc 2 1, 3) := by decide +kernel
theorem dX3_remove_57 : decode cX3_remove 57 = .ok (.goto (-55), 3) := by decide +kernel
theorem dX3_remove_60 : decode cX3_remove 60 = .ok (.aload_n 0, 1) := by decide +kernel
theorem dX3_remove_61 : decode cX3_remove 61 = .ok (.dup, 1) := by decide +kernel
theorem dX3_remove_62 : decode cX3_remove 62 = .ok (.getfield 9, 3) := by decide +kernel
theorem dX3_remove_65 : decode cX3_remove 65 = .ok (.iconst 1, 1) := by decide +kernel
theorem dX3_remove_66 : decode cX3_remove 66 = .ok (.isub, 1) := by decide +kernel
theorem dX3_remove_67 : decode cX3_remove 67 = .ok (.putfield 9, 3) := by decide +kernel
theorem dX3_remove_70 : decode cX3_remove 70 = .ok (.return_, 1) := by decide +kernel
theorem dX3_copy_0 : decode cX3_copy 0 = .ok (.aload_n 0, 1) := by decide +kernel
theorem dX3_copy_1 : decode cX3_copy 1 = .ok (.aload_n 1, 1) := by decide +kernel
theorem dX3_copy_2 : decode cX3_copy 2 = .ok (.getfield 9, 3) := by decide +kernel
theorem dX3_copy_5 : decode cX3_copy 5 = .ok (.putfield 9, 3) := by decide +kernel
theorem dX3_copy_8 : decode cX3_copy 8 = .ok (.iconst 0, 1) := by decide +kernel
theorem dX3_copy_9 : decode cX3_copy 9 = .ok (.istore_n 2, 1) := by decide +kernel
theorem dX3_copy_10 : decode cX3_copy 10 = .ok (.iload_n 2, 1) := by decide +kernel
theorem dX3_copy_11 : decode cX3_copy 11 = .ok (.aload_n 0, 1) := by decide +kernel
theorem dX3_copy_12 : decode cX3_copy 12 = .ok (.getfield 9, 3) := by decide +kernel
theorem dX3_copy_15 : decode cX3_copy 15 = .ok (.if_icmp .ge 45, 3) := by decide +kernel
theorem dX3_copy_18 : decode cX3_copy 18 = .ok (.aload_n 0, 1) := by decide +kernel
theorem dX3_copy_19 : decode cX3_copy 19 = .ok (.getfield 15, 3) := by decide +kernel
theorem dX3_copy_22 : decode cX3_copy 22 = .ok (.iload_n 2, 1) := by decide +kernel
theorem dX3_copy_23 : decode cX3_copy 23 = .ok (.aload_n 1, 1) := by decide +kernel
theorem dX3_copy_24 : decode cX3_copy 24 = .ok (.getfield 15, 3) := by decide +kernel
theorem dX3_copy_27 : decode cX3_copy 27 = .ok (.iload_n 2, 1) := by decide +kernel
theorem dX3_copy_28 : decode cX3_copy 28 = .ok (.iaload, 1) := by decide +kernel
theorem dX3_copy_29 : decode cX3_copy 29 = .ok (.iastore, 1) := by decide +kernel
theorem dX3_copy_30 : decode cX3_copy 30 = .ok (.aload_n 0, 1) := by decide +kernel
theorem dX3_copy_31 : decode cX3_copy 31 = .ok (.getfield 19, 3) := by decide +kernel
theorem dX3_copy_34 : decode cX3_copy 34 = .ok (.iload_n 2, 1) := by decide +kernel
theorem dX3_copy_35 : decode cX3_copy 35 = .ok (.aload_n 1, 1) := by decide +kernel
theorem dX3_copy_36 : decode cX3_copy 36 = .ok (.getfield 19, 3) := by decide +kernel
theorem dX3_copy_39 : decode cX3_copy 39 = .ok (.iload_n 2, 1) := by decide +kernel
theorem dX3_copy_40 : decode cX3_copy 40 = .ok (.iaload, 1) := by decide +kernel
theorem dX3_copy_41 : decode cX3_copy 41 = .ok (.iastore, 1) := by decide +kernel
theorem dX3_copy_42 : decode cX3_copy 42 = .ok (.aload_n 0, 1) := by decide +kernel
theorem dX3_copy_43 : decode cX3_copy 43 = .ok (.getfield 22, 3) := by decide +kernel
theorem dX3_copy_46 : decode cX3_copy 46 = .ok (.iload_n 2, 1) := by decide +kernel
theorem dX3_copy_47 : decode cX3_copy 47 = .ok (.aload_n 1, 1) := by decide +kernel
theorem dX3_copy_48 : decode cX3_copy 48 = .ok (.getfield 22, 3) := by decide +kernel
theorem dX3_copy_51 : decode cX3_copy 51 = .ok (.iload_n 2, 1) := by decide +kernel
theorem dX3_copy_52 : decode cX3_copy 52 = .ok (.baload, 1) := by decide +kernel
theorem dX3_copy_53 : decode cX3_copy 53 = .ok (.bastore, 1) := by decide +kernel
theorem dX3_copy_54 : decode cX3_copy 54 = .ok (.iinc 2 1, 3) := by decide +kernel
theorem dX3_copy_57 : decode cX3_copy 57 = .ok (.goto (-47), 3) := by decide +kernel
theorem dX3_copy_60 : decode cX3_copy 60 = .ok (.return_, 1) := by decide +kernel
theorem dX4_init_0 : decode cX4_init 0 = .ok (.aload_n 0, 1) := by decide +kernel
theorem dX4_init_1 : decode cX4_init 1 = .ok (.invokespecial 3, 3) := by decide +kernel
theorem dX4_init_4 : decode cX4_init 4 = .ok (.aload_n 0, 1) := by decide +kernel
theorem dX4_init_5 : decode cX4_init 5 = .ok (.iconst 3, 1) := by decide +kernel
theorem dX4_init_6 : decode cX4_init 6 = .ok (.newarray .int, 2) := by decide +kernel
theorem dX4_init_8 : decode cX4_init 8 = .ok (.putfield 11, 3) := by decide +kernel
theorem dX4_init_11 : decode cX4_init 11 = .ok (.aload_n 0, 1) := by decide +kernel
theorem dX4_init_12 : decode cX4_init 12 = .ok (.iconst 0, 1) := by decide +kernel
theorem dX4_init_13 : decode cX4_init 13 = .ok (.putfield 15, 3) := by decide +kernel
theorem dX4_init_16 : decode cX4_init 16 = .ok (.aload_n 0, 1) := by decide +kernel
theorem dX4_init_17 : decode cX4_init 17 = .ok (.iconst 0, 1) := by decide +kernel
theorem dX4_init_18 : decode cX4_init 18 = .ok (.putfield 19, 3) := by decide +kernel
theorem dX4_init_21 : decode cX4_init 21 = .ok (.return_, 1) := by decide +kernel
theorem dX4_restart_0 : decode cX4_restart 0 = .ok (.aload_n 0, 1) := by decide +kernel
theorem dX4_restart_1 : decode cX4_restart 1 = .ok (.iconst 0, 1) := by decide +kernel
theorem dX4_restart_2 : decode cX4_restart 2 = .ok (.putfield 15, 3) := by decide +kernel
theorem dX4_restart_5 : decode cX4_restart 5 = .ok (.aload_n 0, 1) := by decide +kernel
theorem dX4_restart_6 : decode cX4_restart 6 = .ok (.iconst 0, 1) := by decide +kernel
theorem dX4_restart_7 : decode cX4_restart 7 = .ok (.putfield 19, 3) := by decide +kernel
theorem dX4_restart_10 : decode cX4_restart 10 = .ok (.iconst 0, 1) := by decide +kernel
theorem dX4_restart_11 : decode cX4_restart 11 = .ok (.istore_n 1, 1) := by decide +kernel
theorem dX4_restart_12 : decode cX4_restart 12 = .ok (.iload_n 1, 1) := by decide +kernel
theorem dX4_restart_13 : decode cX4_restart 13 = .ok (.iconst 3, 1) := by decide +kernel
theorem dX4_restart_14 : decode cX4_restart 14 = .ok (.if_icmp .ge 16, 3) := by decide +kernel
theorem dX4_restart_17 : decode cX4_restart 17 = .ok (.aload_n 0, 1) := by decide +kernel
theorem dX4_restart_18 : decode cX4_restart 18 = .ok (.getfield 11, 3) := by decide +kernel
theorem dX4_restart_21 : decode cX4_restart 21 = .ok (.iload_n 1, 1) := by decide +kernel
theorem dX4_restart_22 : decode cX4_restart 22 = .ok (.iconst (-1), 1) := by decide +kernel
theorem dX4_restart_23 : decode cX4_restart 23 = .ok (.iastore, 1) := by decide +kernel
theorem dX4_restart_24 : decode cX4_restart 24 = .ok (.iinc 1 1, 3) := by decide +kernel
theorem dX4_restart_27 : decode cX4_restart 27 = .ok (.goto (-15), 3) := by decide +kernel
theorem dX4_restart_30 : decode cX4_restart 30 = .ok (.return_, 1) := by decide +kernel
theorem dX4_holdsBox_0 : decode cX4_holdsBox 0 = .ok (.aload_n 0, 1) := by decide +kernel
theorem dX4_holdsBox_1 : decode cX4_holdsBox 1 = .ok (.getfield 15, 3) := by decide +kernel
theorem dX4_holdsBox_4 : decode cX4_holdsBox 4 = .ok (.bipush 62, 2) := by decide +kernel
theorem dX4_holdsBox_6 : decode cX4_holdsBox 6 = .ok (.if_icmp .eq 12, 3) := by decide +kernel
theorem dX4_holdsBox_9 : decode cX4_holdsBox 9 = .ok (.aload_n 0, 1) := by decide +kernel
theorem dX4_holdsBox_10 : decode cX4_holdsBox 10 = .ok (.getfield 15, 3) := by decide +kernel
theorem dX4_holdsBox_13 : decode cX4_holdsBox 13 = .ok (.bipush 37, 2) := by decide +kernel
theorem dX4_holdsBox_15 : decode cX4_holdsBox 15 = .ok (.if_icmp .ne 7, 3) := by decide +kernel
theorem dX4_holdsBox_18 : decode cX4_holdsBox 18 = .ok (.iconst 1, 1) := by decide +kernel
theorem dX4_holdsBox_19 : decode cX4_holdsBox 19 = .ok (.goto 4, 3) := by decide +kernel
theorem dX4_holdsBox_22 : decode cX4_holdsBox 22 = .ok (.iconst 0, 1) := by decide +kernel
theorem dX4_holdsBox_23 : decode cX4_holdsBox 23 = .ok (.ireturn, 1) := by decide +kernel
theorem dX4_holdsLantern_0 : decode cX4_holdsLantern 0 = .ok (.aload_n 0, 1) := by decide +kernel
theorem dX4_holdsLantern_1 : decode cX4_holdsLantern 1 = .ok (.getfield 15, 3) := by decide +kernel
theorem dX4_holdsLantern_4 : decode cX4_holdsLantern 4 = .ok (.bipush 42, 2) := by decide +kernel
theorem dX4_holdsLantern_6 : decode cX4_holdsLantern 6 = .ok (.if_icmp .eq 12, 3) := by decide +kernel
theorem dX4_holdsLantern_9 : decode cX4_holdsLantern 9 = .ok (.aload_n 0, 1) := by decide +kernel
theorem dX4_holdsLantern_10 : decode cX4_holdsLantern 10 = .ok (.getfield 15, 3) := by decide +kernel
theorem dX4_holdsLantern_13 : decode cX4_holdsLantern 13 = .ok (.bipush 33, 2) := by decide +kernel
theorem dX4_holdsLantern_15 : decode cX4_holdsLantern 15 = .ok (.if_icmp .ne 7, 3) := by decide +kernel
theorem dX4_holdsLantern_18 : decode cX4_holdsLantern 18 = .ok (.iconst 1, 1) := by decide +kernel
theorem dX4_holdsLantern_19 : decode cX4_holdsLantern 19 = .ok (.goto 4, 3) := by decide +kernel
theorem dX4_holdsLantern_22 : decode cX4_holdsLantern 22 = .ok (.iconst 0, 1) := by decide +kernel
theorem dX4_holdsLantern_23 : decode cX4_holdsLantern 23 = .ok (.ireturn, 1) := by decide +kernel
theorem dX4_isComplete_0 : decode cX4_isComplete 0 = .ok (.aload_n 0, 1) := by decide +kernel
theorem dX4_isComplete_1 : decode cX4_isComplete 1 = .ok (.getfield 15, 3) := by decide +kernel
theorem dX4_isComplete_4 : decode cX4_isComplete 4 = .ok (.ifCond .eq 31, 3) := by decide +kernel
theorem dX4_isComplete_7 : decode cX4_isComplete 7 = .ok (.aload_n 0, 1) := by decide +kernel
theorem dX4_isComplete_8 : decode cX4_isComplete 8 = .ok (.getfield 19, 3) := by decide +kernel
theorem dX4_isComplete_11 : decode cX4_isComplete 11 = .ok (.aload_n 0, 1) := by decide +kernel
theorem dX4_isComplete_12 : decode cX4_isComplete 12 = .ok (.invokevirtual 22, 3) := by decide +kernel
theorem dX4_isComplete_15 : decode cX4_isComplete 15 = .ok (.if_icmp .ne 20, 3) := by decide +kernel
theorem dX4_isComplete_18 : decode cX4_isComplete 18 = .ok (.aload_n 0, 1) := by decide +kernel
theorem dX4_isComplete_19 : decode cX4_isComplete 19 = .ok (.getfield 11, 3) := by decide +kernel
theorem dX4_isComplete_22 : decode cX4_isComplete 22 = .ok (.aload_n 0, 1) := by decide +kernel
theorem dX4_isComplete_23 : decode cX4_isComplete 23 = .ok (.getfield 19, 3) := by decide +kernel
theorem dX4_isComplete_26 : decode cX4_isComplete 26 = .ok (.iaload, 1) := by decide +kernel
theorem dX4_isComplete_27 : decode cX4_isComplete 27 = .ok (.iconst (-1), 1) := by decide +kernel
theorem dX4_isComplete_28 : decode cX4_isComplete 28 = .ok (.if_icmp .eq 7, 3) := by decide +kernel
theorem dX4_isComplete_31 : decode cX4_isComplete 31 = .ok (.iconst 1, 1) := by decide +kernel
theorem dX4_isComplete_32 : decode cX4_isComplete 32 = .ok (.goto 4, 3) := by decide +kernel
theorem dX4_isComplete_35 : decode cX4_isComplete 35 = .ok (.iconst 0, 1) := by decide +kernel
theorem dX4_isComplete_36 : decode cX4_isComplete 36 = .ok (.ireturn, 1) := by decide +kernel
theorem dX4_takes_0 : decode cX4_takes 0 = .ok (.iload_n 1, 1) := by decide +kernel
theorem dX4_takes_1 : decode cX4_takes 1 = .ok (.bipush 48, 2) := by decide +kernel
theorem dX4_takes_3 : decode cX4_takes 3 = .ok (.if_icmp .lt 18, 3) := by decide +kernel
theorem dX4_takes_6 : decode cX4_takes 6 = .ok (.iload_n 1, 1) := by decide +kernel
theorem dX4_takes_7 : decode cX4_takes 7 = .ok (.bipush 57, 2) := by decide +kernel
theorem dX4_takes_9 : decode cX4_takes 9 = .ok (.if_icmp .gt 12, 3) := by decide +kernel
theorem dX4_takes_12 : decode cX4_takes 12 = .ok (.aload_n 0, 1) := by decide +kernel
theorem dX4_takes_13 : decode cX4_takes 13 = .ok (.iload_n 1, 1) := by decide +kernel
theorem dX4_takes_14 : decode cX4_takes 14 = .ok (.bipush 48, 2) := by decide +kernel
theorem dX4_takes_16 : decode cX4_takes 16 = .ok (.isub, 1) := by decide +kernel
theorem dX4_takes_17 : decode cX4_takes 17 = .ok (.invokevirtual 26, 3) := by decide +kernel
theorem dX4_takes_20 : decode cX4_takes 20 = .ok (.ireturn, 1) := by decide +kernel
theorem dX4_takes_21 : decode cX4_takes 21 = .ok (.aload_n 0, 1) := by decide +kernel
theorem dX4_takes_22 : decode cX4_takes 22 = .ok (.getfield 11, 3) := by decide +kernel
theorem dX4_takes_25 : decode cX4_takes 25 = .ok (.aload_n 0, 1) := by decide +kernel
theorem dX4_takes_26 : decode cX4_takes 26 = .ok (.getfield 19, 3) := by decide +kernel
theorem dX4_takes_29 : decode cX4_takes 29 = .ok (.iaload, 1) := by decide +kernel
theorem dX4_takes_30 : decode cX4_takes 30 = .ok (.iconst (-1), 1) := by decide +kernel
theorem dX4_takes_31 : decode cX4_takes 31 = .ok (.if_icmp .ne 5, 3) := by decide +kernel
theorem dX4_takes_34 : decode cX4_takes 34 = .ok (.iconst 0, 1) := by decide +kernel
theorem dX4_takes_35 : decode cX4_takes 35 = .ok (.ireturn, 1) := by decide +kernel
theorem dX4_takes_36 : decode cX4_takes 36 = .ok (.aload_n 0, 1) := by decide +kernel
theorem dX4_takes_37 : decode cX4_takes 37 = .ok (.getfield 15, 3) := by decide +kernel
theorem dX4_takes_40 : decode cX4_takes 40 = .ok (.ifCond .ne 9, 3) := by decide +kernel
theorem dX4_takes_43 : decode cX4_takes 43 = .ok (.aload_n 0, 1) := by decide +kernel
theorem dX4_takes_44 : decode cX4_takes 44 = .ok (.iload_n 1, 1) := by decide +kernel
theorem dX4_takes_45 : decode cX4_takes 45 = .ok (.invokevirtual 30, 3) := by decide +kernel
theorem dX4_takes_48 : decode cX4_takes 48 = .ok (.ireturn, 1) := by decide +kernel
theorem dX4_takes_49 : decode cX4_takes 49 = .ok (.aload_n 0, 1) := by decide +kernel
theorem dX4_takes_50 : decode cX4_takes 50 = .ok (.iload_n 1, 1) := by decide +kernel
theorem dX4_takes_51 : decode cX4_takes 51 = .ok (.invokevirtual 33, 3) := by decide +kernel
theorem dX4_takes_54 : decode cX4_takes 54 = .ok (.ireturn, 1) := by decide +kernel
theorem dX4_takesSeparator_0 : decode cX4_takesSeparator 0 = .ok (.aload_n 0, 1) := by decide +kernel
theorem dX4_takesSeparator_1 : decode cX4_takesSeparator 1 = .ok (.getfield 19, 3) := by decide +kernel
theorem dX4_takesSeparator_4 : decode cX4_takesSeparator 4 = .ok (.aload_n 0, 1) := by decide +kernel
theorem dX4_takesSeparator_5 : decode cX4_takesSeparator 5 = .ok (.invokevirtual 22, 3) := by decide +kernel
theorem dX4_takesSeparator_8 : decode cX4_takesSeparator 8 = .ok (.if_icmp .ne 7, 3) := by decide +kernel
theorem dX4_takesSeparator_11 : decode cX4_takesSeparator 11 = .ok (.iconst 1, 1) := by decide +kernel
theorem dX4_takesSeparator_12 : decode cX4_takesSeparator 12 = .ok (.goto 4, 3) := by decide +kernel
theorem dX4_takesSeparator_15 : decode cX4_takesSeparator 15 = .ok (.iconst 0, 1) := by decide +kernel
theorem dX4_takesSeparator_16 : decode cX4_takesSeparator 16 = .ok (.istore_n 2, 1) := by decide +kernel
theorem dX4_takesSeparator_17 : decode cX4_takesSeparator 17 = .ok (.iload_n 1, 1) := by decide +kernel
theorem dX4_takesSeparator_18 : decode cX4_takesSeparator 18 = .ok (.iload_n 2, 1) := by decide +kernel
theorem dX4_takesSeparator_19 : decode cX4_takesSeparator 19 = .ok (.ifCond .eq 8, 3) := by decide +kernel
theorem dX4_takesSeparator_22 : decode cX4_takesSeparator 22 = .ok (.bipush 59, 2) := by decide +kernel
theorem dX4_takesSeparator_24 : decode cX4_takesSeparator 24 = .ok (.goto 5, 3) := by decide +kernel
theorem dX4_takesSeparator_27 : decode cX4_takesSeparator 27 = .ok (.bipush 44, 2) := by decide +kernel
theorem dX4_takesSeparator_29 : decode cX4_takesSeparator 29 = .ok (.if_icmp .eq 5, 3) := by decide +kernel
theorem dX4_takesSeparator_32 : decode cX4_takesSeparator 32 = .ok (.iconst 0, 1) := by decide +kernel
theorem dX4_takesSeparator_33 : decode cX4_takesSeparator 33 = .ok (.ireturn, 1) := by decide +kernel
theorem dX4_takesSeparator_34 : decode cX4_takesSeparator 34 = .ok (.iload_n 2, 1) := by decide +kernel
theorem dX4_takesSeparator_35 : decode cX4_takesSeparator 35 = .ok (.ifCond .eq 10, 3) := by decide +kernel
theorem dX4_takesSeparator_38 : decode cX4_takesSeparator 38 = .ok (.aload_n 0, 1) := by decide +kernel
theorem dX4_takesSeparator_39 : decode cX4_takesSeparator 39 = .ok (.invokevirtual 36, 3) := by decide +kernel
theorem dX4_takesSeparator_42 : decode cX4_takesSeparator 42 = .ok (.goto 13, 3) := by decide +kernel
theorem dX4_takesSeparator_45 : decode cX4_takesSeparator 45 = .ok (.aload_n 0, 1) := by decide +kernel
theorem dX4_takesSeparator_46 : decode cX4_takesSeparator 46 = .ok (.dup, 1) := by decide +kernel
theorem dX4_takesSeparator_47 : decode cX4_takesSeparator 47 = .ok (.getfield 19, 3) := by decide +kernel
theorem dX4_takesSeparator_50 : decode cX4_takesSeparator 50 = .ok (.iconst 1, 1) := by decide +kernel
theorem dX4_takesSeparator_51 : decode cX4_takesSeparator 51 = .ok (.iadd, 1) := by decide +kernel
theorem dX4_takesSeparator_52 : decode cX4_takesSeparator 52 = .ok (.putfield 19, 3) := by decide +kernel
theorem dX4_takesSeparator_55 : decode cX4_takesSeparator 55 = .ok (.iconst 1, 1) := by decide +kernel
theorem dX4_takesSeparator_56 : decode cX4_takesSeparator 56 = .ok (.ireturn, 1) := by decide +kernel
theorem dX4_takesKind_0 : decode cX4_takesKind 0 = .ok (.iload_n 1, 1) := by decide +kernel
theorem dX4_takesKind_1 : decode cX4_takesKind 1 = .ok (.bipush 62, 2) := by decide +kernel
theorem dX4_takesKind_3 : decode cX4_takesKind 3 = .ok (.if_icmp .eq 29, 3) := by decide +kernel
theorem dX4_takesKind_6 : decode cX4_takesKind 6 = .ok (.iload_n 1, 1) := by decide +kernel
theorem dX4_takesKind_7 : decode cX4_takesKind 7 = .ok (.bipush 37, 2) := by decide +kernel
theorem dX4_takesKind_9 : decode cX4_takesKind 9 = .ok (.if_icmp .eq 23, 3) := by decide +kernel
theorem dX4_takesKind_12 : decode cX4_takesKind 12 = .ok (.iload_n 1, 1) := by decide +kernel
theorem dX4_takesKind_13 : decode cX4_takesKind 13 = .ok (.bipush 42, 2) := by decide +kernel
theorem dX4_takesKind_15 : decode cX4_takesKind 15 = .ok (.if_icmp .eq 17, 3) := by decide +kernel
theorem dX4_takesKind_18 : decode cX4_takesKind 18 = .ok (.iload_n 1, 1) := by decide +kernel
theorem dX4_takesKind_19 : decode cX4_takesKind 19 = .ok (.bipush 33, 2) := by decide +kernel
theorem dX4_takesKind_21 : decode cX4_takesKind 21 = .ok (.if_icmp .eq 11, 3) := by decide +kernel
theorem dX4_takesKind_24 : decode cX4_takesKind 24 = .ok (.iload_n 1, 1) := by decide +kernel
theorem dX4_takesKind_25 : decode cX4_takesKind 25 = .ok (.bipush 35, 2) := by decide +kernel
theorem dX4_takesKind_27 : decode cX4_takesKind 27 = .ok (.if_icmp .eq 5, 3) := by decide +kernel
theorem dX4_takesKind_30 : decode cX4_takesKind 30 = .ok (.iconst 0, 1) := by decide +kernel
theorem dX4_takesKind_31 : decode cX4_takesKind 31 = .ok (.ireturn, 1) := by decide +kernel
theorem dX4_takesKind_32 : decode cX4_takesKind 32 = .ok (.aload_n 0, 1) := by decide +kernel
theorem dX4_takesKind_33 : decode cX4_takesKind 33 = .ok (.iload_n 1, 1) := by decide +kernel
theorem dX4_takesKind_34 : decode cX4_takesKind 34 = .ok (.putfield 15, 3) := by decide +kernel
theorem dX4_takesKind_37 : decode cX4_takesKind 37 = .ok (.aload_n 0, 1) := by decide +kernel
theorem dX4_takesKind_38 : decode cX4_takesKind 38 = .ok (.iconst 1, 1) := by decide +kernel
theorem dX4_takesKind_39 : decode cX4_takesKind 39 = .ok (.putfield 19, 3) := by decide +kernel
theorem dX4_takesKind_42 : decode cX4_takesKind 42 = .ok (.iconst 1, 1) := by decide +kernel
theorem dX4_takesKind_43 : decode cX4_takesKind 43 = .ok (.ireturn, 1) := by decide +kernel
theorem dX4_takesDigit_0 : decode cX4_takesDigit 0 = .ok (.aload_n 0, 1) := by decide +kernel
theorem dX4_takesDigit_1 : decode cX4_takesDigit 1 = .ok (.getfield 11, 3) := by decide +kernel
theorem dX4_takesDigit_4 : decode cX4_takesDigit 4 = .ok (.aload_n 0, 1) := by decide +kernel
theorem dX4_takesDigit_5 : decode cX4_takesDigit 5 = .ok (.getfield 19, 3) := by decide +kernel
theorem dX4_takesDigit_8 : decode cX4_takesDigit 8 = .ok (.iaload, 1) := by decide +kernel
theorem dX4_takesDigit_9 : decode cX4_takesDigit 9 = .ok (.istore_n 2, 1) := by decide +kernel
theorem dX4_takesDigit_10 : decode cX4_takesDigit 10 = .ok (.iload_n 2, 1) := by decide +kernel
theorem dX4_takesDigit_11 : decode cX4_takesDigit 11 = .ok (.iconst (-1), 1) := by decide +kernel
theorem dX4_takesDigit_12 : decode cX4_takesDigit 12 = .ok (.if_icmp .ne 7, 3) := by decide +kernel
theorem dX4_takesDigit_15 : decode cX4_takesDigit 15 = .ok (.iload_n 1, 1) := by decide +kernel
theorem dX4_takesDigit_16 : decode cX4_takesDigit 16 = .ok (.goto 9, 3) := by decide +kernel
theorem dX4_takesDigit_19 : decode cX4_takesDigit 19 = .ok (.bipush 10, 2) := by decide +kernel
theorem dX4_takesDigit_21 : decode cX4_takesDigit 21 = .ok (.iload_n 2, 1) := by decide +kernel
theorem dX4_takesDigit_22 : decode cX4_takesDigit 22 = .ok (.imul, 1) := by decide +kernel
theorem dX4_takesDigit_23 : decode cX4_takesDigit 23 = .ok (.iload_n 1, 1) := by decide +kernel
theorem dX4_takesDigit_24 : decode cX4_takesDigit 24 = .ok (.iadd, 1) := by decide +kernel
theorem dX4_takesDigit_25 : decode cX4_takesDigit 25 = .ok (.istore_n 3, 1) := by decide +kernel
theorem dX4_takesDigit_26 : decode cX4_takesDigit 26 = .ok (.iload_n 2, 1) := by decide +kernel
theorem dX4_takesDigit_27 : decode cX4_takesDigit 27 = .ok (.ifCond .eq 19, 3) := by decide +kernel
theorem dX4_takesDigit_30 : decode cX4_takesDigit 30 = .ok (.iload_n 3, 1) := by decide +kernel
theorem dX4_takesDigit_31 : decode cX4_takesDigit 31 = .ok (.aload_n 0, 1) := by decide +kernel
theorem dX4_takesDigit_32 : decode cX4_takesDigit 32 = .ok (.invokevirtual 39, 3) := by decide +kernel
theorem dX4_takesDigit_35 : decode cX4_takesDigit 35 = .ok (.if_icmp .lt 11, 3) := by decide +kernel
theorem dX4_takesDigit_38 : decode cX4_takesDigit 38 = .ok (.iload_n 3, 1) := by decide +kernel
theorem dX4_takesDigit_39 : decode cX4_takesDigit 39 = .ok (.aload_n 0, 1) := by decide +kernel
theorem dX4_takesDigit_40 : decode cX4_takesDigit 40 = .ok (.invokevirtual 42, 3) := by decide +kernel
theorem dX4_takesDigit_43 : decode cX4_takesDigit 43 = .ok (.if_icmp .le 5, 3) := by decide +kernel
theorem dX4_takesDigit_46 : decode cX4_takesDigit 46 = .ok (.iconst 0, 1) := by decide +kernel
theorem dX4_takesDigit_47 : decode cX4_takesDigit 47 = .ok (.ireturn, 1) := by decide +kernel
theorem dX4_takesDigit_48 : decode cX4_takesDigit 48 = .ok (.aload_n 0, 1) := by decide +kernel
theorem dX4_takesDigit_49 : decode cX4_takesDigit 49 = .ok (.getfield 11, 3) := by decide +kernel
theorem dX4_takesDigit_52 : decode cX4_takesDigit 52 = .ok (.aload_n 0, 1) := by decide +kernel
theorem dX4_takesDigit_53 : decode cX4_takesDigit 53 = .ok (.getfield 19, 3) := by decide +kernel
theorem dX4_takesDigit_56 : decode cX4_takesDigit 56 = .ok (.iload_n 3, 1) := by decide +kernel
theorem dX4_takesDigit_57 : decode cX4_takesDigit 57 = .ok (.iastore, 1) := by decide +kernel
theorem dX4_takesDigit_58 : decode cX4_takesDigit 58 = .ok (.iconst 1, 1) := by decide +kernel
theorem dX4_takesDigit_59 : decode cX4_takesDigit 59 = .ok (.ireturn, 1) := by decide +kernel
theorem dX4_lastPlace_0 : decode cX4_lastPlace 0 = .ok (.aload_n 0, 1) := by decide +kernel
theorem dX4_lastPlace_1 : decode cX4_lastPlace 1 = .ok (.invokevirtual 45, 3) := by decide +kernel
theorem dX4_lastPlace_4 : decode cX4_lastPlace 4 = .ok (.ifCond .eq 7, 3) := by decide +kernel
theorem dX4_lastPlace_7 : decode cX4_lastPlace 7 = .ok (.iconst 1, 1) := by decide +kernel
theorem dX4_lastPlace_8 : decode cX4_lastPlace 8 = .ok (.goto 4, 3) := by decide +kernel
theorem dX4_lastPlace_11 : decode cX4_lastPlace 11 = .ok (.iconst 2, 1) := by decide +kernel
theorem dX4_lastPlace_12 : decode cX4_lastPlace 12 = .ok (.ireturn, 1) := by decide +kernel
theorem dX4_leastValue_0 : decode cX4_leastValue 0 = .ok (.aload_n 0, 1) := by decide +kernel
theorem dX4_leastValue_1 : decode cX4_leastValue 1 = .ok (.getfield 19, 3) := by decide +kernel
theorem dX4_leastValue_4 : decode cX4_leastValue 4 = .ok (.ifCond .eq 20, 3) := by decide +kernel
theorem dX4_leastValue_7 : decode cX4_leastValue 7 = .ok (.aload_n 0, 1) := by decide +kernel
theorem dX4_leastValue_8 : decode cX4_leastValue 8 = .ok (.getfield 19, 3) := by decide +kernel
theorem dX4_leastValue_11 : decode cX4_leastValue 11 = .ok (.iconst 1, 1) := by decide +kernel
theorem dX4_leastValue_12 : decode cX4_leastValue 12 = .ok (.if_icmp .ne 16, 3) := by decide +kernel
theorem dX4_leastValue_15 : decode cX4_leastValue 15 = .ok (.aload_n 0, 1) := by decide +kernel
theorem dX4_leastValue_16 : decode cX4_leastValue 16 = .ok (.getfield 15, 3) := by decide +kernel
theorem dX4_leastValue_19 : decode cX4_leastValue 19 = .ok (.bipush 35, 2) := by decide +kernel
theorem dX4_leastValue_21 : decode cX4_leastValue 21 = .ok (.if_icmp .ne 7, 3) := by decide +kernel
theorem dX4_leastValue_24 : decode cX4_leastValue 24 = .ok (.iconst 0, 1) := by decide +kernel
theorem dX4_leastValue_25 : decode cX4_leastValue 25 = .ok (.goto 4, 3) := by decide +kernel
theorem dX4_leastValue_28 : decode cX4_leastValue 28 = .ok (.iconst 1, 1) := by decide +kernel
theorem dX4_leastValue_29 : decode cX4_leastValue 29 = .ok (.ireturn, 1) := by decide +kernel
theorem dX4_mostValue_0 : decode cX4_mostValue 0 = .ok (.aload_n 0, 1) := by decide +kernel
theorem dX4_mostValue_1 : decode cX4_mostValue 1 = .ok (.getfield 19, 3) := by decide +kernel
theorem dX4_mostValue_4 : decode cX4_mostValue 4 = .ok (.ifCond .ne 6, 3) := by decide +kernel
theorem dX4_mostValue_7 : decode cX4_mostValue 7 = .ok (.bipush 11, 2) := by decide +kernel
theorem dX4_mostValue_9 : decode cX4_mostValue 9 = .ok (.ireturn, 1) := by decide +kernel
theorem dX4_mostValue_10 : decode cX4_mostValue 10 = .ok (.aload_n 0, 1) := by decide +kernel
theorem dX4_mostValue_11 : decode cX4_mostValue 11 = .ok (.getfield 15, 3) := by decide +kernel
theorem dX4_mostValue_14 : decode cX4_mostValue 14 = .ok (.bipush 35, 2) := by decide +kernel
theorem dX4_mostValue_16 : decode cX4_mostValue 16 = .ok (.if_icmp .ne 18, 3) := by decide +kernel
theorem dX4_mostValue_19 : decode cX4_mostValue 19 = .ok (.aload_n 0, 1) := by decide +kernel
theorem dX4_mostValue_20 : decode cX4_mostValue 20 = .ok (.getfield 19, 3) := by decide +kernel
theorem dX4_mostValue_23 : decode cX4_mostValue 23 = .ok (.iconst 1, 1) := by decide +kernel
theorem dX4_mostValue_24 : decode cX4_mostValue 24 = .ok (.if_icmp .ne 7, 3) := by decide +kernel
theorem dX4_mostValue_27 : decode cX4_mostValue 27 = .ok (.iconst 1, 1) := by decide +kernel
theorem dX4_mostValue_28 : decode cX4_mostValue 28 = .ok (.goto 5, 3) := by decide +kernel
theorem dX4_mostValue_31 : decode cX4_mostValue 31 = .ok (.bipush 30, 2) := by decide +kernel
theorem dX4_mostValue_33 : decode cX4_mostValue 33 = .ok (.ireturn, 1) := by decide +kernel
theorem dX4_mostValue_34 : decode cX4_mostValue 34 = .ok (.aload_n 0, 1) := by decide +kernel
theorem dX4_mostValue_35 : decode cX4_mostValue 35 = .ok (.invokevirtual 45, 3) := by decide +kernel
theorem dX4_mostValue_38 : decode cX4_mostValue 38 = .ok (.ifCond .eq 8, 3) := by decide +kernel
theorem dX4_mostValue_41 : decode cX4_mostValue 41 = .ok (.bipush 9, 2) := by decide +kernel
theorem dX4_mostValue_43 : decode cX4_mostValue 43 = .ok (.goto 5, 3) := by decide +kernel
theorem dX4_mostValue_46 : decode cX4_mostValue 46 = .ok (.bipush 60, 2) := by decide +kernel
theorem dX4_mostValue_48 : decode cX4_mostValue 48 = .ok (.ireturn, 1) := by decide +kernel
theorem dX5_init_0 : decode cX5_init 0 = .ok (.aload_n 0, 1) := by decide +kernel
theorem dX5_init_1 : decode cX5_init 1 = .ok (.invokespecial 3, 3) := by decide +kernel
theorem dX5_init_4 : decode cX5_init 4 = .ok (.aload_n 0, 1) := by decide +kernel
theorem dX5_init_5 : decode cX5_init 5 = .ok (.new 9, 3) := by decide +kernel
theorem dX5_init_8 : decode cX5_init 8 = .ok (.dup, 1) := by decide +kernel
theorem dX5_init_9 : decode cX5_init 9 = .ok (.invokespecial 11, 3) := by decide +kernel
theorem dX5_init_12 : decode cX5_init 12 = .ok (.putfield 12, 3) := by decide +kernel
theorem dX5_init_15 : decode cX5_init 15 = .ok (.aload_n 0, 1) := by decide +kernel
theorem dX5_init_16 : decode cX5_init 16 = .ok (.new 18, 3) := by decide +kernel
theorem dX5_init_19 : decode cX5_init 19 = .ok (.dup, 1) := by decide +kernel
theorem dX5_init_20 : decode cX5_init 20 = .ok (.invokespecial 20, 3) := by decide +kernel
theorem dX5_init_23 : decode cX5_init 23 = .ok (.putfield 21, 3) := by decide +kernel
theorem dX5_init_26 : decode cX5_init 26 = .ok (.aload_n 0, 1) := by decide +kernel
theorem dX5_init_27 : decode cX5_init 27 = .ok (.new 25, 3) := by decide +kernel
theorem dX5_init_30 : decode cX5_init 30 = .ok (.dup, 1) := by decide +kernel
theorem dX5_init_31 : decode cX5_init 31 = .ok (.invokespecial 27, 3) := by decide +kernel
theorem dX5_init_34 : decode cX5_init 34 = .ok (.putfield 28, 3) := by decide +kernel
theorem dX5_init_37 : decode cX5_init 37 = .ok (.aload_n 0, 1) := by decide +kernel
theorem dX5_init_38 : decode cX5_init 38 = .ok (.bipush 10, 2) := by decide +kernel
theorem dX5_init_40 : decode cX5_init 40 = .ok (.putfield 32, 3) := by decide +kernel
theorem dX5_init_43 : decode cX5_init 43 = .ok (.aload_n 0, 1) := by decide +kernel
theorem dX5_init_44 : decode cX5_init 44 = .ok (.iconst 0, 1) := by decide +kernel
theorem dX5_init_45 : decode cX5_init 45 = .ok (.putfield 36, 3) := by decide +kernel
theorem dX5_init_48 : decode cX5_init 48 = .ok (.aload_n 0, 1) := by decide +kernel
theorem dX5_init_49 : decode cX5_init 49 = .ok (.iconst 0, 1) := by decide +kernel
theorem dX5_init_50 : decode cX5_init 50 = .ok (.putfield 39, 3) := by decide +kernel
theorem dX5_init_53 : decode cX5_init 53 = .ok (.aload_n 0, 1) := by decide +kernel
theorem dX5_init_54 : decode cX5_init 54 = .ok (.iconst 0, 1) := by decide +kernel
theorem dX5_init_55 : decode cX5_init 55 = .ok (.putfield 42, 3) := by decide +kernel
theorem dX5_init_58 : decode cX5_init 58 = .ok (.aload_n 0, 1) := by decide +kernel
theorem dX5_init_59 : decode cX5_init 59 = .ok (.iconst 0, 1) := by decide +kernel
theorem dX5_init_60 : decode cX5_init 60 = .ok (.putfield 45, 3) := by decide +kernel
theorem dX5_init_63 : decode cX5_init 63 = .ok (.return_, 1) := by decide +kernel
theorem dX5_copy_0 : decode cX5_copy 0 = .ok (.aload_n 0, 1) := by decide +kernel
theorem dX5_copy_1 : decode cX5_copy 1 = .ok (.getfield 12, 3) := by decide +kernel
theorem dX5_copy_4 : decode cX5_copy 4 = .ok (.aload_n 1, 1) := by decide +kernel
theorem dX5_copy_5 : decode cX5_copy 5 = .ok (.getfield 12, 3) := by decide +kernel
theorem dX5_copy_8 : decode cX5_copy 8 = .ok (.invokevirtual 48, 3) := by decide +kernel
theorem dX5_copy_11 : decode cX5_copy 11 = .ok (.aload_n 0, 1) := by decide +kernel
theorem dX5_copy_12 : decode cX5_copy 12 = .ok (.getfield 21, 3) := by decide +kernel
theorem dX5_copy_15 : decode cX5_copy 15 = .ok (.aload_n 1, 1) := by decide +kernel
theorem dX5_copy_16 : decode cX5_copy 16 = .ok (.getfield 21, 3) := by decide +kernel
theorem dX5_copy_19 : decode cX5_copy 19 = .ok (.invokevirtual 52, 3) := by decide +kernel
theorem dX5_copy_22 : decode cX5_copy 22 = .ok (.aload_n 0, 1) := by decide +kernel
theorem dX5_copy_23 : decode cX5_copy 23 = .ok (.getfield 28, 3) := by decide +kernel
theorem dX5_copy_26 : decode cX5_copy 26 = .ok (.aload_n 1, 1) := by decide +kernel
theorem dX5_copy_27 : decode cX5_copy 27 = .ok (.getfield 28, 3) := by decide +kernel
theorem dX5_copy_30 : decode cX5_copy 30 = .ok (.invokevirtual 55, 3) := by decide +kernel
theorem dX5_copy_33 : decode cX5_copy 33 = .ok (.aload_n 0, 1) := by decide +kernel
theorem dX5_copy_34 : decode cX5_copy 34 = .ok (.aload_n 1, 1) := by decide +kernel
theorem dX5_copy_35 : decode cX5_copy 35 = .ok (.getfield 32, 3) := by decide +kernel
theorem dX5_copy_38 : decode cX5_copy 38 = .ok (.putfield 32, 3) := by decide +kernel
theorem dX5_copy_41 : decode cX5_copy 41 = .ok (.aload_n 0, 1) := by decide +kernel
theorem dX5_copy_42 : decode cX5_copy 42 = .ok (.aload_n 1, 1) := by decide +kernel
theorem dX5_copy_43 : decode cX5_copy 43 = .ok (.getfield 36, 3) := by decide +kernel
theorem dX5_copy_46 : decode cX5_copy 46 = .ok (.putfield 36, 3) := by decide +kernel
theorem dX5_copy_49 : decode cX5_copy 49 = .ok (.aload_n 0, 1) := by decide +kernel
theorem dX5_copy_50 : decode cX5_copy 50 = .ok (.aload_n 1, 1) := by decide +kernel
theorem dX5_copy_51 : decode cX5_copy 51 = .ok (.getfield 39, 3) := by decide +kernel
theorem dX5_copy_54 : decode cX5_copy 54 = .ok (.putfield 39, 3) := by decide +kernel
theorem dX5_copy_57 : decode cX5_copy 57 = .ok (.aload_n 0, 1) := by decide +kernel
theorem dX5_copy_58 : decode cX5_copy 58 = .ok (.aload_n 1, 1) := by decide +kernel
theorem dX5_copy_59 : decode cX5_copy 59 = .ok (.getfield 42, 3) := by decide +kernel
theorem dX5_copy_62 : decode cX5_copy 62 = .ok (.putfield 42, 3) := by decide +kernel
theorem dX5_copy_65 : decode cX5_copy 65 = .ok (.aload_n 0, 1) := by decide +kernel
theorem dX5_copy_66 : decode cX5_copy 66 = .ok (.aload_n 1, 1) := by decide +kernel
theorem dX5_copy_67 : decode cX5_copy 67 = .ok (.getfield 45, 3) := by decide +kernel
theorem dX5_copy_70 : decode cX5_copy 70 = .ok (.putfield 45, 3) := by decide +kernel
theorem dX5_copy_73 : decode cX5_copy 73 = .ok (.return_, 1) := by decide +kernel
theorem dX6_init_0 : decode cX6_init 0 = .ok (.aload_n 0, 1) := by decide +kernel
theorem dX6_init_1 : decode cX6_init 1 = .ok (.invokespecial 3, 3) := by decide +kernel
theorem dX6_init_4 : decode cX6_init 4 = .ok (.aload_n 0, 1) := by decide +kernel
theorem dX6_init_5 : decode cX6_init 5 = .ok (.bipush 12, 2) := by decide +kernel
theorem dX6_init_7 : decode cX6_init 7 = .ok (.newarray .int, 2) := by decide +kernel
theorem dX6_init_9 : decode cX6_init 9 = .ok (.putfield 9, 3) := by decide +kernel
theorem dX6_init_12 : decode cX6_init 12 = .ok (.aload_n 0, 1) := by decide +kernel
theorem dX6_init_13 : decode cX6_init 13 = .ok (.bipush 12, 2) := by decide +kernel
theorem dX6_init_15 : decode cX6_init 15 = .ok (.newarray .int, 2) := by decide +kernel
theorem dX6_init_17 : decode cX6_init 17 = .ok (.putfield 15, 3) := by decide +kernel
theorem dX6_init_20 : decode cX6_init 20 = .ok (.aload_n 0, 1) := by decide +kernel
theorem dX6_init_21 : decode cX6_init 21 = .ok (.bipush 12, 2) := by decide +kernel
theorem dX6_init_23 : decode cX6_init 23 = .ok (.newarray .boolean, 2) := by decide +kernel
theorem dX6_init_25 : decode cX6_init 25 = .ok (.putfield 18, 3) := by decide +kernel
theorem dX6_init_28 : decode cX6_init 28 = .ok (.aload_n 0, 1) := by decide +kernel
theorem dX6_init_29 : decode cX6_init 29 = .ok (.bipush 24, 2) := by decide +kernel
theorem dX6_init_31 : decode cX6_init 31 = .ok (.newarray .boolean, 2) := by decide +kernel
theorem dX6_init_33 : decode cX6_init 33 = .ok (.putfield 22, 3) := by decide +kernel
theorem dX6_init_36 : decode cX6_init 36 = .ok (.aload_n 0, 1) := by decide +kernel
theorem dX6_init_37 : decode cX6_init 37 = .ok (.bipush 24, 2) := by decide +kernel
theorem dX6_init_39 : decode cX6_init 39 = .ok (.newarray .int, 2) := by decide +kernel
theorem dX6_init_41 : decode cX6_init 41 = .ok (.putfield 25, 3) := by decide +kernel
theorem dX6_init_44 : decode cX6_init 44 = .ok (.aload_n 0, 1) := by decide +kernel
theorem dX6_init_45 : decode cX6_init 45 = .ok (.bipush 16, 2) := by decide +kernel
theorem dX6_init_47 : decode cX6_init 47 = .ok (.newarray .boolean, 2) := by decide +kernel
theorem dX6_init_49 : decode cX6_init 49 = .ok (.putfield 28, 3) := by decide +kernel
theorem dX6_init_52 : decode cX6_init 52 = .ok (.aload_n 0, 1) := by decide +kernel
theorem dX6_init_53 : decode cX6_init 53 = .ok (.iconst 0, 1) := by decide +kernel
theorem dX6_init_54 : decode cX6_init 54 = .ok (.putfield 31, 3) := by decide +kernel
theorem dX6_init_57 : decode cX6_init 57 = .ok (.aload_n 0, 1) := by decide +kernel
theorem dX6_init_58 : decode cX6_init 58 = .ok (.iconst 0, 1) := by decide +kernel
theorem dX6_init_59 : decode cX6_init 59 = .ok (.putfield 35, 3) := by decide +kernel
theorem dX6_init_62 : decode cX6_init 62 = .ok (.aload_n 0, 1) := by decide +kernel
theorem dX6_init_63 : decode cX6_init 63 = .ok (.bipush 9, 2) := by decide +kernel
theorem dX6_init_65 : decode cX6_init 65 = .ok (.newarray .int, 2) := by decide +kernel
theorem dX6_init_67 : decode cX6_init 67 = .ok (.putfield 38, 3) := by decide +kernel
theorem dX6_init_70 : decode cX6_init 70 = .ok (.aload_n 0, 1) := by decide +kernel
theorem dX6_init_71 : decode cX6_init 71 = .ok (.bipush 12, 2) := by decide +kernel
theorem dX6_init_73 : decode cX6_init 73 = .ok (.newarray .int, 2) := by decide +kernel
theorem dX6_init_75 : decode cX6_init 75 = .ok (.putfield 41, 3) := by decide +kernel
theorem dX6_init_78 : decode cX6_init 78 = .ok (.aload_n 0, 1) := by decide +kernel
theorem dX6_init_79 : decode cX6_init 79 = .ok (.bipush 24, 2) := by decide +kernel
theorem dX6_init_81 : decode cX6_init 81 = .ok (.newarray .int, 2) := by decide +kernel
theorem dX6_init_83 : decode cX6_init 83 = .ok (.putfield 44, 3) := by decide +kernel
theorem dX6_init_86 : decode cX6_init 86 = .ok (.aload_n 0, 1) := by decide +kernel
theorem dX6_init_87 : decode cX6_init 87 = .ok (.bipush 24, 2) := by decide +kernel
theorem dX6_init_89 : decode cX6_init 89 = .ok (.newarray .int, 2) := by decide +kernel
theorem dX6_init_91 : decode cX6_init 91 = .ok (.putfield 47, 3) := by decide +kernel
theorem dX6_init_94 : decode cX6_init 94 = .ok (.aload_n 0, 1) := by decide +kernel
theorem dX6_init_95 : decode cX6_init 95 = .ok (.getfield 25, 3) := by decide +kernel
theorem dX6_init_98 : decode cX6_init 98 = .ok (.iconst 1, 1) := by decide +kernel
theorem dX6_init_99 : decode cX6_init 99 = .ok (.iconst 1, 1) := by decide +kernel
theorem dX6_init_100 : decode cX6_init 100 = .ok (.iastore, 1) := by decide +kernel
theorem dX6_init_101 : decode cX6_init 101 = .ok (.return_, 1) := by decide +kernel
theorem dX6_take_0 : decode cX6_take 0 = .ok (.aload_n 0, 1) := by decide +kernel
theorem dX6_take_1 : decode cX6_take 1 = .ok (.aload_n 1, 1) := by decide +kernel
theorem dX6_take_2 : decode cX6_take 2 = .ok (.getfield 50, 3) := by decide +kernel
theorem dX6_take_5 : decode cX6_take 5 = .ok (.getfield 56, 3) := by decide +kernel
theorem dX6_take_8 : decode cX6_take 8 = .ok (.invokevirtual 61, 3) := by decide +kernel
theorem dX6_take_11 : decode cX6_take 11 = .ok (.aload_n 0, 1) := by decide +kernel
theorem dX6_take_12 : decode cX6_take 12 = .ok (.aload_n 1, 1) := by decide +kernel
theorem dX6_take_13 : decode cX6_take 13 = .ok (.getfield 50, 3) := by decide +kernel
theorem dX6_take_16 : decode cX6_take 16 = .ok (.invokevirtual 65, 3) := by decide +kernel
theorem dX6_take_19 : decode cX6_take 19 = .ok (.aload_n 0, 1) := by decide +kernel
theorem dX6_take_20 : decode cX6_take 20 = .ok (.aload_n 1, 1) := by decide +kernel
theorem dX6_take_21 : decode cX6_take 21 = .ok (.getfield 69, 3) := by decide +kernel
theorem dX6_take_24 : decode cX6_take 24 = .ok (.invokevirtual 73, 3) := by decide +kernel
theorem dX6_take_27 : decode cX6_take 27 = .ok (.aload_n 0, 1) := by decide +kernel
theorem dX6_take_28 : decode cX6_take 28 = .ok (.aload_n 1, 1) := by decide +kernel
theorem dX6_take_29 : decode cX6_take 29 = .ok (.getfield 77, 3) := by decide +kernel
theorem dX6_take_32 : decode cX6_take 32 = .ok (.invokevirtual 81, 3) := by decide +kernel
theorem dX6_take_35 : decode cX6_take 35 = .ok (.aload_n 0, 1) := by decide +kernel
theorem dX6_take_36 : decode cX6_take 36 = .ok (.aload_n 1, 1) := by decide +kernel
theorem dX6_take_37 : decode cX6_take 37 = .ok (.getfield 50, 3) := by decide +kernel
theorem dX6_take_40 : decode cX6_take 40 = .ok (.invokevirtual 85, 3) := by decide +kernel
theorem dX6_take_43 : decode cX6_take 43 = .ok (.aload_n 0, 1) := by decide +kernel
theorem dX6_take_44 : decode cX6_take 44 = .ok (.aload_n 0, 1) := by decide +kernel
theorem dX6_take_45 : decode cX6_take 45 = .ok (.iconst 0, 1) := by decide +kernel
theorem dX6_take_46 : decode cX6_take 46 = .ok (.invokevirtual 88, 3) := by decide +kernel
theorem dX6_take_49 : decode cX6_take 49 = .ok (.aload_n 0, 1) := by decide +kernel
theorem dX6_take_50 : decode cX6_take 50 = .ok (.iconst 1, 1) := by decide +kernel
theorem dX6_take_51 : decode cX6_take 51 = .ok (.invokevirtual 88, 3) := by decide +kernel
theorem dX6_take_54 : decode cX6_take 54 = .ok (.invokestatic 92, 3) := by decide +kernel
theorem dX6_take_57 : decode cX6_take 57 = .ok (.putfield 35, 3) := by decide +kernel
theorem dX6_take_60 : decode cX6_take 60 = .ok (.aload_n 0, 1) := by decide +kernel
theorem dX6_take_61 : decode cX6_take 61 = .ok (.aload_n 1, 1) := by decide +kernel
theorem dX6_take_62 : decode cX6_take 62 = .ok (.getfield 77, 3) := by decide +kernel
theorem dX6_take_65 : decode cX6_take 65 = .ok (.iconst 0, 1) := by decide +kernel
theorem dX6_take_66 : decode cX6_take 66 = .ok (.invokevirtual 98, 3) := by decide +kernel
theorem dX6_take_69 : decode cX6_take 69 = .ok (.aload_n 0, 1) := by decide +kernel
theorem dX6_take_70 : decode cX6_take 70 = .ok (.aload_n 1, 1) := by decide +kernel
theorem dX6_take_71 : decode cX6_take 71 = .ok (.getfield 77, 3) := by decide +kernel
theorem dX6_take_74 : decode cX6_take 74 = .ok (.iconst 1, 1) := by decide +kernel
theorem dX6_take_75 : decode cX6_take 75 = .ok (.invokevirtual 98, 3) := by decide +kernel
theorem dX6_take_78 : decode cX6_take 78 = .ok (.aload_n 0, 1) := by decide +kernel
theorem dX6_take_79 : decode cX6_take 79 = .ok (.aload_n 1, 1) := by decide +kernel
theorem dX6_take_80 : decode cX6_take 80 = .ok (.getfield 50, 3) := by decide +kernel
theorem dX6_take_83 : decode cX6_take 83 = .ok (.invokevirtual 102, 3) := by decide +kernel
theorem dX6_take_86 : decode cX6_take 86 = .ok (.return_, 1) := by decide +kernel
theorem dX6_isAlive_0 : decode cX6_isAlive 0 = .ok (.aload_n 0, 1) := by decide +kernel
theorem dX6_isAlive_1 : decode cX6_isAlive 1 = .ok (.getfield 18, 3) := by decide +kernel
theorem dX6_isAlive_4 : decode cX6_isAlive 4 = .ok (.iload_n 1, 1) := by decide +kernel
theorem dX6_isAlive_5 : decode cX6_isAlive 5 = .ok (.iconst 1, 1) := by decide +kernel
theorem dX6_isAlive_6 : decode cX6_isAlive 6 = .ok (.ishr, 1) := by decide +kernel
theorem dX6_isAlive_7 : decode cX6_isAlive 7 = .ok (.baload, 1) := by decide +kernel
theorem dX6_isAlive_8 : decode cX6_isAlive 8 = .ok (.ifCond .ne 16, 3) := by decide +kernel
theorem dX6_isAlive_11 : decode cX6_isAlive 11 = .ok (.aload_n 0, 1) := by decide +kernel
theorem dX6_isAlive_12 : decode cX6_isAlive 12 = .ok (.getfield 22, 3) := by decide +kernel
theorem dX6_isAlive_15 : decode cX6_isAlive 15 = .ok (.iload_n 1, 1) := by decide +kernel
theorem dX6_isAlive_16 : decode cX6_isAlive 16 = .ok (.baload, 1) := by decide +kernel
theorem dX6_isAlive_17 : decode cX6_isAlive 17 = .ok (.ifCond .ne 7, 3) := by decide +kernel
theorem dX6_isAlive_20 : decode cX6_isAlive 20 = .ok (.iconst 1, 1) := by decide +kernel
theorem dX6_isAlive_21 : decode cX6_isAlive 21 = .ok (.goto 4, 3) := by decide +kernel
theorem dX6_isAlive_24 : decode cX6_isAlive 24 = .ok (.iconst 0, 1) := by decide +kernel
theorem dX6_isAlive_25 : decode cX6_isAlive 25 = .ok (.ireturn, 1) := by decide +kernel
theorem dX6_lampOf_0 : decode cX6_lampOf 0 = .ok (.aload_n 0, 1) := by decide +kernel
theorem dX6_lampOf_1 : decode cX6_lampOf 1 = .ok (.getfield 47, 3) := by decide +kernel
theorem dX6_lampOf_4 : decode cX6_lampOf 4 = .ok (.iload_n 1, 1) := by decide +kernel
theorem dX6_lampOf_5 : decode cX6_lampOf 5 = .ok (.iaload, 1) := by decide +kernel
theorem dX6_lampOf_6 : decode cX6_lampOf 6 = .ok (.ireturn, 1) := by decide +kernel
theorem dX6_current_0 : decode cX6_current 0 = .ok (.iload_n 1, 1) := by decide +kernel
theorem dX6_current_1 : decode cX6_current 1 = .ok (.iconst 1, 1) := by decide +kernel
theorem dX6_current_2 : decode cX6_current 2 = .ok (.ishr, 1) := by decide +kernel
theorem dX6_current_3 : decode cX6_current 3 = .ok (.istore_n 2, 1) := by decide +kernel
theorem dX6_current_4 : decode cX6_current 4 = .ok (.aload_n 0, 1) := by decide +kernel
theorem dX6_current_5 : decode cX6_current 5 = .ok (.iload_n 1, 1) := by decide +kernel
theorem dX6_current_6 : decode cX6_current 6 = .ok (.invokevirtual 105, 3) := by decide +kernel
theorem dX6_current_9 : decode cX6_current 9 = .ok (.ifCond .eq 28, 3) := by decide +kernel
theorem dX6_current_12 : decode cX6_current 12 = .ok (.aload_n 0, 1) := by decide +kernel
theorem dX6_current_13 : decode cX6_current 13 = .ok (.getfield 41, 3) := by decide +kernel
theorem dX6_current_16 : decode cX6_current 16 = .ok (.iload_n 2, 1) := by decide +kernel
theorem dX6_current_17 : decode cX6_current 17 = .ok (.iaload, 1) := by decide +kernel
theorem dX6_current_18 : decode cX6_current 18 = .ok (.aload_n 0, 1) := by decide +kernel
theorem dX6_current_19 : decode cX6_current 19 = .ok (.getfield 44, 3) := by decide +kernel
theorem dX6_current_22 : decode cX6_current 22 = .ok (.iconst 2, 1) := by decide +kernel
theorem dX6_current_23 : decode cX6_current 23 = .ok (.iload_n 2, 1) := by decide +kernel
theorem dX6_current_24 : decode cX6_current 24 = .ok (.imul, 1) := by decide +kernel
theorem dX6_current_25 : decode cX6_current 25 = .ok (.aload_n 0, 1) := by decide +kernel
theorem dX6_current_26 : decode cX6_current 26 = .ok (.getfield 25, 3) := by decide +kernel
theorem dX6_current_29 : decode cX6_current 29 = .ok (.iload_n 1, 1) := by decide +kernel
theorem dX6_current_30 : decode cX6_current 30 = .ok (.iaload, 1) := by decide +kernel
theorem dX6_current_31 : decode cX6_current 31 = .ok (.iadd, 1) := by decide +kernel
theorem dX6_current_32 : decode cX6_current 32 = .ok (.iaload, 1) := by decide +kernel
theorem dX6_current_33 : decode cX6_current 33 = .ok (.iadd, 1) := by decide +kernel
theorem dX6_current_34 : decode cX6_current 34 = .ok (.goto 4, 3) := by decide +kernel
theorem dX6_current_37 : decode cX6_current 37 = .ok (.iconst 0, 1) := by decide +kernel
theorem dX6_current_38 : decode cX6_current 38 = .ok (.ireturn, 1) := by decide +kernel
theorem dX6_fuseToBlow_0 : decode cX6_fuseToBlow 0 = .ok (.iconst (-1), 1) := by decide +kernel
theorem dX6_fuseToBlow_1 : decode cX6_fuseToBlow 1 = .ok (.istore_n 2, 1) := by decide +kernel
theorem dX6_fuseToBlow_2 : decode cX6_fuseToBlow 2 = .ok (.iconst 0, 1) := by decide +kernel
theorem dX6_fuseToBlow_3 : decode cX6_fuseToBlow 3 = .ok (.istore_n 3, 1) := by decide +kernel
theorem dX6_fuseToBlow_4 : decode cX6_fuseToBlow 4 = .ok (.iconst 2, 1) := by decide +kernel
theorem dX6_fuseToBlow_5 : decode cX6_fuseToBlow 5 = .ok (.istore 4, 2) := by decide +kernel
theorem dX6_fuseToBlow_7 : decode cX6_fuseToBlow 7 = .ok (.iload 4, 2) := by decide +kernel
theorem dX6_fuseToBlow_9 : decode cX6_fuseToBlow 9 = .ok (.iconst 2, 1) := by decide +kernel
theorem dX6_fuseToBlow_10 : decode cX6_fuseToBlow 10 = .ok (.aload_n 1, 1) := by decide +kernel
theorem dX6_fuseToBlow_11 : decode cX6_fuseToBlow 11 = .ok (.getfield 56, 3) := by decide +kernel
theorem dX6_fuseToBlow_14 : decode cX6_fuseToBlow 14 = .ok (.imul, 1) := by decide +kernel
theorem dX6_fuseToBlow_15 : decode cX6_fuseToBlow 15 = .ok (.if_icmp .ge 48, 3) := by decide +kernel
theorem dX6_fuseToBlow_18 : decode cX6_fuseToBlow 18 = .ok (.aload_n 0, 1) := by decide +kernel
theorem dX6_fuseToBlow_19 : decode cX6_fuseToBlow 19 = .ok (.getfield 9, 3) := by decide +kernel
theorem dX6_fuseToBlow_22 : decode cX6_fuseToBlow 22 = .ok (.iload 4, 2) := by decide +kernel
theorem dX6_fuseToBlow_24 : decode cX6_fuseToBlow 24 = .ok (.iconst 1, 1) := by decide +kernel
theorem dX6_fuseToBlow_25 : decode cX6_fuseToBlow 25 = .ok (.ishr, 1) := by decide +kernel
theorem dX6_fuseToBlow_26 : decode cX6_fuseToBlow 26 = .ok (.iaload, 1) := by decide +kernel
theorem dX6_fuseToBlow_27 : decode cX6_fuseToBlow 27 = .ok (.istore 5, 2) := by decide +kernel
theorem dX6_fuseToBlow_29 : decode cX6_fuseToBlow 29 = .ok (.iload 5, 2) := by decide +kernel
theorem dX6_fuseToBlow_31 : decode cX6_fuseToBlow 31 = .ok (.iload_n 3, 1) := by decide +kernel
theorem dX6_fuseToBlow_32 : decode cX6_fuseToBlow 32 = .ok (.if_icmp .le 25, 3) := by decide +kernel
theorem dX6_fuseToBlow_35 : decode cX6_fuseToBlow 35 = .ok (.aload_n 0, 1) := by decide +kernel
theorem dX6_fuseToBlow_36 : decode cX6_fuseToBlow 36 = .ok (.iload 4, 2) := by decide +kernel
theorem dX6_fuseToBlow_38 : decode cX6_fuseToBlow 38 = .ok (.invokevirtual 109, 3) := by decide +kernel
theorem dX6_fuseToBlow_41 : decode cX6_fuseToBlow 41 = .ok (.aload_n 1, 1) := by decide +kernel
theorem dX6_fuseToBlow_42 : decode cX6_fuseToBlow 42 = .ok (.getfield 112, 3) := by decide +kernel
theorem dX6_fuseToBlow_45 : decode cX6_fuseToBlow 45 = .ok (.iload 4, 2) := by decide +kernel
theorem dX6_fuseToBlow_47 : decode cX6_fuseToBlow 47 = .ok (.iaload, 1) := by decide +kernel
theorem dX6_fuseToBlow_48 : decode cX6_fuseToBlow 48 = .ok (.if_icmp .le 9, 3) := by decide +kernel
theorem dX6_fuseToBlow_51 : decode cX6_fuseToBlow 51 = .ok (.iload 4, 2) := by decide +kernel
theorem dX6_fuseToBlow_53 : decode cX6_fuseToBlow 53 = .ok (.istore_n 2, 1) := by decide +kernel
theorem dX6_fuseToBlow_54 : decode cX6_fuseToBlow 54 = .ok (.iload 5, 2) := by decide +kernel
theorem dX6_fuseToBlow_56 : decode cX6_fuseToBlow 56 = .ok (.istore_n 3, 1) := by decide +kernel
theorem dX6_fuseToBlow_57 : decode cX6_fuseToBlow 57 = .ok (.iinc 4 1, 3) := by decide +kernel
theorem dX6_fuseToBlow_60 : decode cX6_fuseToBlow 60 = .ok (.goto (-53), 3) := by decide +kernel
theorem dX6_fuseToBlow_63 : decode cX6_fuseToBlow 63 = .ok (.iload_n 2, 1) := by decide +kernel
theorem dX6_fuseToBlow_64 : decode cX6_fuseToBlow 64 = .ok (.ireturn, 1) := by decide +kernel
theorem dX6_clearSums_0 : decode cX6_clearSums 0 = .ok (.iconst 0, 1) := by decide +kernel
theorem dX6_clearSums_1 : decode cX6_clearSums 1 = .ok (.istore_n 2, 1) := by decide +kernel
theorem dX6_clearSums_2 : decode cX6_clearSums 2 = .ok (.iload_n 2, 1) := by decide +kernel
theorem dX6_clearSums_3 : decode cX6_clearSums 3 = .ok (.iload_n 1, 1) := by decide +kernel
theorem dX6_clearSums_4 : decode cX6_clearSums 4 = .ok (.if_icmp .ge 58, 3) := by decide +kernel
theorem dX6_clearSums_7 : decode cX6_clearSums 7 = .ok (.aload_n 0, 1) := by decide +kernel
theorem dX6_clearSums_8 : decode cX6_clearSums 8 = .ok (.getfield 15, 3) := by decide +kernel
theorem dX6_clearSums_11 : decode cX6_clearSums 11 = .ok (.iload_n 2, 1) := by decide +kernel
theorem dX6_clearSums_12 : decode cX6_clearSums 12 = .ok (.iconst 0, 1) := by decide +kernel
theorem dX6_clearSums_13 : decode cX6_clearSums 13 = .ok (.iastore, 1) := by decide +kernel
theorem dX6_clearSums_14 : decode cX6_clearSums 14 = .ok (.aload_n 0, 1) := by decide +kernel
theorem dX6_clearSums_15 : decode cX6_clearSums 15 = .ok (.getfield 41, 3) := by decide +kernel
theorem dX6_clearSums_18 : decode cX6_clearSums 18 = .ok (.iload_n 2, 1) := by decide +kernel
theorem dX6_clearSums_19 : decode cX6_clearSums 19 = .ok (.iconst 0, 1) := by decide +kernel
theorem dX6_clearSums_20 : decode cX6_clearSums 20 = .ok (.iastore, 1) := by decide +kernel
theorem dX6_clearSums_21 : decode cX6_clearSums 21 = .ok (.iconst 0, 1) := by decide +kernel
theorem dX6_clearSums_22 : decode cX6_clearSums 22 = .ok (.istore_n 3, 1) := by decide +kernel
theorem dX6_clearSums_23 : decode cX6_clearSums 23 = .ok (.iload_n 3, 1) := by decide +kernel
theorem dX6_clearSums_24 : decode cX6_clearSums 24 = .ok (.iconst 2, 1) := by decide +kernel
theorem dX6_clearSums_25 : decode cX6_clearSums 25 = .ok (.if_icmp .ge 31, 3) := by decide +kernel
theorem dX6_clearSums_28 : decode cX6_clearSums 28 = .ok (.aload_n 0, 1) := by decide +kernel
theorem dX6_clearSums_29 : decode cX6_clearSums 29 = .ok (.getfield 44, 3) := by decide +kernel
theorem dX6_clearSums_32 : decode cX6_clearSums 32 = .ok (.iconst 2, 1) := by decide +kernel
theorem dX6_clearSums_33 : decode cX6_clearSums 33 = .ok (.iload_n 2, 1) := by decide +kernel
theorem dX6_clearSums_34 : decode cX6_clearSums 34 = .ok (.imul, 1) := by decide +kernel
theorem dX6_clearSums_35 : decode cX6_clearSums 35 = .ok (.iload_n 3, 1) := by decide +kernel
theorem dX6_clearSums_36 : decode cX6_clearSums 36 = .ok (.iadd, 1) := by decide +kernel
theorem dX6_clearSums_37 : decode cX6_clearSums 37 = .ok (.iconst 0, 1) := by decide +kernel
theorem dX6_clearSums_38 : decode cX6_clearSums 38 = .ok (.iastore, 1) := by decide +kernel
theorem dX6_clearSums_39 : decode cX6_clearSums 39 = .ok (.aload_n 0, 1) := by decide +kernel
theorem dX6_clearSums_40 : decode cX6_clearSums 40 = .ok (.getfield 47, 3) := by decide +kernel
theorem dX6_clearSums_43 : decode cX6_clearSums 43 = .ok (.iconst 2, 1) := by decide +kernel
theorem dX6_clearSums_44 : decode cX6_clearSums 44 = .ok (.iload_n 2, 1) := by decide +kernel
theorem dX6_clearSums_45 : decode cX6_clearSums 45 = .ok (.imul, 1) := by decide +kernel
theorem dX6_clearSums_46 : decode cX6_clearSums 46 = .ok (.iload_n 3, 1) := by decide +kernel
theorem dX6_clearSums_47 : decode cX6_clearSums 47 = .ok (.iadd, 1) := by decide +kernel
theorem dX6_clearSums_48 : decode cX6_clearSums 48 = .ok (.iconst 0, 1) := by decide +kernel
theorem dX6_clearSums_49 : decode cX6_clearSums 49 = .ok (.iastore, 1) := by decide +kernel
theorem dX6_clearSums_50 : decode cX6_clearSums 50 = .ok (.iinc 3 1, 3) := by decide +kernel
theorem dX6_clearSums_53 : decode cX6_clearSums 53 = .ok (.goto (-30), 3) := by decide +kernel
theorem dX6_clearSums_56 : decode cX6_clearSums 56 = .ok (.iinc 2 1, 3) := by decide +kernel
theorem dX6_clearSums_59 : decode cX6_clearSums 59 = .ok (.goto (-57), 3) := by decide +kernel
theorem dX6_clearSums_62 : decode cX6_clearSums 62 = .ok (.return_, 1) := by decide +kernel
theorem dX6_followCables_0 : decode cX6_followCables 0 = .ok (.iconst 1, 1) := by decide +kernel
theorem dX6_followCables_1 : decode cX6_followCables 1 = .ok (.istore_n 2, 1) := by decide +kernel
theorem dX6_followCables_2 : decode cX6_followCables 2 = .ok (.iload_n 2, 1) := by decide +kernel
theorem dX6_followCables_3 : decode cX6_followCables 3 = .ok (.aload_n 1, 1) := by decide +kernel
theorem dX6_followCables_4 : decode cX6_followCables 4 = .ok (.getfield 56, 3) := by decide +kernel
theorem dX6_followCables_7 : decode cX6_followCables 7 = .ok (.if_icmp .ge 137, 3) := by decide +kernel
theorem dX6_followCables_10 : decode cX6_followCables 10 = .ok (.aload_n 1, 1) := by decide +kernel
theorem dX6_followCables_11 : decode cX6_followCables 11 = .ok (.getfield 115, 3) := by decide +kernel
theorem dX6_followCables_14 : decode cX6_followCables 14 = .ok (.iload_n 2, 1) := by decide +kernel
theorem dX6_followCables_15 : decode cX6_followCables 15 = .ok (.iaload, 1) := by decide +kernel
theorem dX6_followCables_16 : decode cX6_followCables 16 = .ok (.istore_n 3, 1) := by decide +kernel
theorem dX6_followCables_17 : decode cX6_followCables 17 = .ok (.aload_n 0, 1) := by decide +kernel
theorem dX6_followCables_18 : decode cX6_followCables 18 = .ok (.getfield 9, 3) := by decide +kernel
theorem dX6_followCables_21 : decode cX6_followCables 21 = .ok (.iload_n 2, 1) := by decide +kernel
theorem dX6_followCables_22 : decode cX6_followCables 22 = .ok (.aload_n 0, 1) := by decide +kernel
theorem dX6_followCables_23 : decode cX6_followCables 23 = .ok (.getfield 9, 3) := by decide +kernel
theorem dX6_followCables_26 : decode cX6_followCables 26 = .ok (.iload_n 3, 1) := by decide +kernel
theorem dX6_followCables_27 : decode cX6_followCables 27 = .ok (.iaload, 1) := by decide +kernel
theorem dX6_followCables_28 : decode cX6_followCables 28 = .ok (.iconst 1, 1) := by decide +kernel
theorem dX6_followCables_29 : decode cX6_followCables 29 = .ok (.iadd, 1) := by decide +kernel
theorem dX6_followCables_30 : decode cX6_followCables 30 = .ok (.iastore, 1) := by decide +kernel
theorem dX6_followCables_31 : decode cX6_followCables 31 = .ok (.aload_n 0, 1) := by decide +kernel
theorem dX6_followCables_32 : decode cX6_followCables 32 = .ok (.getfield 18, 3) := by decide +kernel
theorem dX6_followCables_35 : decode cX6_followCables 35 = .ok (.iload_n 2, 1) := by decide +kernel
theorem dX6_followCables_36 : decode cX6_followCables 36 = .ok (.aload_n 1, 1) := by decide +kernel
theorem dX6_followCables_37 : decode cX6_followCables 37 = .ok (.getfield 118, 3) := by decide +kernel
theorem dX6_followCables_40 : decode cX6_followCables 40 = .ok (.iload_n 2, 1) := by decide +kernel
theorem dX6_followCables_41 : decode cX6_followCables 41 = .ok (.baload, 1) := by decide +kernel
theorem dX6_followCables_42 : decode cX6_followCables 42 = .ok (.ifCond .eq 12, 3) := by decide +kernel
theorem dX6_followCables_45 : decode cX6_followCables 45 = .ok (.aload_n 0, 1) := by decide +kernel
theorem dX6_followCables_46 : decode cX6_followCables 46 = .ok (.getfield 18, 3) := by decide +kernel
theorem dX6_followCables_49 : decode cX6_followCables 49 = .ok (.iload_n 3, 1) := by decide +kernel
theorem dX6_followCables_50 : decode cX6_followCables 50 = .ok (.baload, 1) := by decide +kernel
theorem dX6_followCables_51 : decode cX6_followCables 51 = .ok (.ifCond .eq 7, 3) := by decide +kernel
theorem dX6_followCables_54 : decode cX6_followCables 54 = .ok (.iconst 1, 1) := by decide +kernel
theorem dX6_followCables_55 : decode cX6_followCables 55 = .ok (.goto 4, 3) := by decide +kernel
theorem dX6_followCables_58 : decode cX6_followCables 58 = .ok (.iconst 0, 1) := by decide +kernel
theorem dX6_followCables_59 : decode cX6_followCables 59 = .ok (.bastore, 1) := by decide +kernel
theorem dX6_followCables_60 : decode cX6_followCables 60 = .ok (.iconst 0, 1) := by decide +kernel
theorem dX6_followCables_61 : decode cX6_followCables 61 = .ok (.istore 4, 2) := by decide +kernel
theorem dX6_followCables_63 : decode cX6_followCables 63 = .ok (.iload 4, 2) := by decide +kernel
theorem dX6_followCables_65 : decode cX6_followCables 65 = .ok (.iconst 2, 1) := by decide +kernel
theorem dX6_followCables_66 : decode cX6_followCables 66 = .ok (.if_icmp .ge 72, 3) := by decide +kernel
theorem dX6_followCables_69 : decode cX6_followCables 69 = .ok (.iconst 2, 1) := by decide +kernel
theorem dX6_followCables_70 : decode cX6_followCables 70 = .ok (.iload_n 2, 1) := by decide +kernel
theorem dX6_followCables_71 : decode cX6_followCables 71 = .ok (.imul, 1) := by decide +kernel
theorem dX6_followCables_72 : decode cX6_followCables 72 = .ok (.iload 4, 2) := by decide +kernel
theorem dX6_followCables_74 : decode cX6_followCables 74 = .ok (.iadd, 1) := by decide +kernel
theorem dX6_followCables_75 : decode cX6_followCables 75 = .ok (.istore 5, 2) := by decide +kernel
theorem dX6_followCables_77 : decode cX6_followCables 77 = .ok (.aload_n 1, 1) := by decide +kernel
theorem dX6_followCables_78 : decode cX6_followCables 78 = .ok (.iload_n 2, 1) := by decide +kernel
theorem dX6_followCables_79 : decode cX6_followCables 79 = .ok (.iload 4, 2) := by decide +kernel
theorem dX6_followCables_81 : decode cX6_followCables 81 = .ok (.invokevirtual 121, 3) := by decide +kernel
theorem dX6_followCables_84 : decode cX6_followCables 84 = .ok (.istore 6, 2) := by decide +kernel
theorem dX6_followCables_86 : decode cX6_followCables 86 = .ok (.aload_n 0, 1) := by decide +kernel
theorem dX6_followCables_87 : decode cX6_followCables 87 = .ok (.getfield 25, 3) := by decide +kernel
theorem dX6_followCables_90 : decode cX6_followCables 90 = .ok (.iload 5, 2) := by decide +kernel
theorem dX6_followCables_92 : decode cX6_followCables 92 = .ok (.aload_n 0, 1) := by decide +kernel
theorem dX6_followCables_93 : decode cX6_followCables 93 = .ok (.getfield 25, 3) := by decide +kernel
theorem dX6_followCables_96 : decode cX6_followCables 96 = .ok (.iload 6, 2) := by decide +kernel
theorem dX6_followCables_98 : decode cX6_followCables 98 = .ok (.iaload, 1) := by decide +kernel
theorem dX6_followCables_99 : decode cX6_followCables 99 = .ok (.iastore, 1) := by decide +kernel
theorem dX6_followCables_100 : decode cX6_followCables 100 = .ok (.aload_n 0, 1) := by decide +kernel
theorem dX6_followCables_101 : decode cX6_followCables 101 = .ok (.getfield 22, 3) := by decide +kernel
theorem dX6_followCables_104 : decode cX6_followCables 104 = .ok (.iload 5, 2) := by decide +kernel
theorem dX6_followCables_106 : decode cX6_followCables 106 = .ok (.aload_n 1, 1) := by decide +kernel
theorem dX6_followCables_107 : decode cX6_followCables 107 = .ok (.getfield 124, 3) := by decide +kernel
theorem dX6_followCables_110 : decode cX6_followCables 110 = .ok (.iload 5, 2) := by decide +kernel
theorem dX6_followCables_112 : decode cX6_followCables 112 = .ok (.baload, 1) := by decide +kernel
theorem dX6_followCables_113 : decode cX6_followCables 113 = .ok (.ifCond .ne 13, 3) := by decide +kernel
theorem dX6_followCables_116 : decode cX6_followCables 116 = .ok (.aload_n 0, 1) := by decide +kernel
theorem dX6_followCables_117 : decode cX6_followCables 117 = .ok (.getfield 22, 3) := by decide +kernel
theorem dX6_followCables_120 : decode cX6_followCables 120 = .ok (.iload 6, 2) := by decide +kernel
theorem dX6_followCables_122 : decode cX6_followCables 122 = .ok (.baload, 1) := by decide +kernel
theorem dX6_followCables_123 : decode cX6_followCables 123 = .ok (.ifCond .eq 7, 3) := by decide +kernel
theorem dX6_followCables_126 : decode cX6_followCables 126 = .ok (.iconst 1, 1) := by decide +kernel
theorem dX6_followCables_127 : decode cX6_followCables 127 = .ok (.goto 4, 3) := by decide +kernel
theorem dX6_followCables_130 : decode cX6_followCables 130 = .ok (.iconst 0, 1) := by decide +kernel
theorem dX6_followCables_131 : decode cX6_followCables 131 = .ok (.bastore, 1) := by decide +kernel
theorem dX6_followCables_132 : decode cX6_followCables 132 = .ok (.iinc 4 1, 3) := by decide +kernel
theorem dX6_followCables_135 : decode cX6_followCables 135 = .ok (.goto (-72), 3) := by decide +kernel
theorem dX6_followCables_138 : decode cX6_followCables 138 = .ok (.iinc 2 1, 3) := by decide +kernel
theorem dX6_followCables_141 : decode cX6_followCables 141 = .ok (.goto (-139), 3) := by decide +kernel
theorem dX6_followCables_144 : decode cX6_followCables 144 = .ok (.aload_n 1, 1) := by decide +kernel
theorem dX6_followCables_145 : decode cX6_followCables 145 = .ok (.getfield 56, 3) := by decide +kernel
theorem dX6_followCables_148 : decode cX6_followCables 148 = .ok (.iconst 1, 1) := by decide +kernel
theorem dX6_followCables_149 : decode cX6_followCables 149 = .ok (.isub, 1) := by decide +kernel
theorem dX6_followCables_150 : decode cX6_followCables 150 = .ok (.istore_n 2, 1) := by decide +kernel
theorem dX6_followCables_151 : decode cX6_followCables 151 = .ok (.iload_n 2, 1) := by decide +kernel
theorem dX6_followCables_152 : decode cX6_followCables 152 = .ok (.ifCond .le 31, 3) := by decide +kernel
theorem dX6_followCables_155 : decode cX6_followCables 155 = .ok (.aload_n 0, 1) := by decide +kernel
theorem dX6_followCables_156 : decode cX6_followCables 156 = .ok (.getfield 15, 3) := by decide +kernel
theorem dX6_followCables_159 : decode cX6_followCables 159 = .ok (.aload_n 1, 1) := by decide +kernel
theorem dX6_followCables_160 : decode cX6_followCables 160 = .ok (.getfield 115, 3) := by decide +kernel
theorem dX6_followCables_163 : decode cX6_followCables 163 = .ok (.iload_n 2, 1) := by decide +kernel
theorem dX6_followCables_164 : decode cX6_followCables 164 = .ok (.iaload, 1) := by decide +kernel
theorem dX6_followCables_165 : decode cX6_followCables 165 = .ok (.dup2, 1) := by decide +kernel
theorem dX6_followCables_166 : decode cX6_followCables 166 = .ok (.iaload, 1) := by decide +kernel
theorem dX6_followCables_167 : decode cX6_followCables 167 = .ok (.aload_n 0, 1) := by decide +kernel
theorem dX6_followCables_168 : decode cX6_followCables 168 = .ok (.getfield 15, 3) := by decide +kernel
theorem dX6_followCables_171 : decode cX6_followCables 171 = .ok (.iload_n 2, 1) := by decide +kernel
theorem dX6_followCables_172 : decode cX6_followCables 172 = .ok (.iaload, 1) := by decide +kernel
theorem dX6_followCables_173 : decode cX6_followCables 173 = .ok (.iconst 1, 1) := by decide +kernel
theorem dX6_followCables_174 : decode cX6_followCables 174 = .ok (.iadd, 1) := by decide +kernel
theorem dX6_followCables_175 : decode cX6_followCables 175 = .ok (.iadd, 1) := by decide +kernel
theorem dX6_followCables_176 : decode cX6_followCables 176 = .ok (.iastore, 1) := by decide +kernel
theorem dX6_followCables_177 : decode cX6_followCables 177 = .ok (.iinc 2 (-1), 3) := by decide +kernel
theorem dX6_followCables_180 : decode cX6_followCables 180 = .ok (.goto (-29), 3) := by decide +kernel
theorem dX6_followCables_183 : decode cX6_followCables 183 = .ok (.return_, 1) := by decide +kernel
theorem dX6_findBurning_0 : decode cX6_findBurning 0 = .ok (.aload_n 0, 1) := by decide +kernel
theorem dX6_findBurning_1 : decode cX6_findBurning 1 = .ok (.iconst 0, 1) := by decide +kernel
theorem dX6_findBurning_2 : decode cX6_findBurning 2 = .ok (.putfield 31, 3) := by decide +kernel
theorem dX6_findBurning_5 : decode cX6_findBurning 5 = .ok (.iconst 0, 1) := by decide +kernel
theorem dX6_findBurning_6 : decode cX6_findBurning 6 = .ok (.istore_n 2, 1) := by decide +kernel
theorem dX6_findBurning_7 : decode cX6_findBurning 7 = .ok (.iload_n 2, 1) := by decide +kernel
theorem dX6_findBurning_8 : decode cX6_findBurning 8 = .ok (.aload_n 1, 1) := by decide +kernel
theorem dX6_findBurning_9 : decode cX6_findBurning 9 = .ok (.getfield 127, 3) := by decide +kernel
theorem dX6_findBurning_12 : decode cX6_findBurning 12 = .ok (.if_icmp .ge 115, 3) := by decide +kernel
theorem dX6_findBurning_15 : decode cX6_findBurning 15 = .ok (.aload_n 1, 1) := by decide +kernel
theorem dX6_findBurning_16 : decode cX6_findBurning 16 = .ok (.getfield 132, 3) := by decide +kernel
theorem dX6_findBurning_19 : decode cX6_findBurning 19 = .ok (.iload_n 2, 1) := by decide +kernel
theorem dX6_findBurning_20 : decode cX6_findBurning 20 = .ok (.iaload, 1) := by decide +kernel
theorem dX6_findBurning_21 : decode cX6_findBurning 21 = .ok (.istore_n 3, 1) := by decide +kernel
theorem dX6_findBurning_22 : decode cX6_findBurning 22 = .ok (.aload_n 1, 1) := by decide +kernel
theorem dX6_findBurning_23 : decode cX6_findBurning 23 = .ok (.getfield 135, 3) := by decide +kernel
theorem dX6_findBurning_26 : decode cX6_findBurning 26 = .ok (.iload_n 2, 1) := by decide +kernel
theorem dX6_findBurning_27 : decode cX6_findBurning 27 = .ok (.baload, 1) := by decide +kernel
theorem dX6_findBurning_28 : decode cX6_findBurning 28 = .ok (.ifCond .eq 18, 3) := by decide +kernel
theorem dX6_findBurning_31 : decode cX6_findBurning 31 = .ok (.aload_n 0, 1) := by decide +kernel
theorem dX6_findBurning_32 : decode cX6_findBurning 32 = .ok (.getfield 25, 3) := by decide +kernel
theorem dX6_findBurning_35 : decode cX6_findBurning 35 = .ok (.iconst 2, 1) := by decide +kernel
theorem dX6_findBurning_36 : decode cX6_findBurning 36 = .ok (.iload_n 3, 1) := by decide +kernel
theorem dX6_findBurning_37 : decode cX6_findBurning 37 = .ok (.imul, 1) := by decide +kernel
theorem dX6_findBurning_38 : decode cX6_findBurning 38 = .ok (.iaload, 1) := by decide +kernel
theorem dX6_findBurning_39 : decode cX6_findBurning 39 = .ok (.ifCond .eq 7, 3) := by decide +kernel
theorem dX6_findBurning_42 : decode cX6_findBurning 42 = .ok (.iconst 1, 1) := by decide +kernel
theorem dX6_findBurning_43 : decode cX6_findBurning 43 = .ok (.goto 4, 3) := by decide +kernel
theorem dX6_findBurning_46 : decode cX6_findBurning 46 = .ok (.iconst 0, 1) := by decide +kernel
theorem dX6_findBurning_47 : decode cX6_findBurning 47 = .ok (.istore 4, 2) := by decide +kernel
theorem dX6_findBurning_49 : decode cX6_findBurning 49 = .ok (.aload_n 0, 1) := by decide +kernel
theorem dX6_findBurning_50 : decode cX6_findBurning 50 = .ok (.getfield 28, 3) := by decide +kernel
theorem dX6_findBurning_53 : decode cX6_findBurning 53 = .ok (.iload_n 2, 1) := by decide +kernel
theorem dX6_findBurning_54 : decode cX6_findBurning 54 = .ok (.aload_n 0, 1) := by decide +kernel
theorem dX6_findBurning_55 : decode cX6_findBurning 55 = .ok (.iconst 2, 1) := by decide +kernel
theorem dX6_findBurning_56 : decode cX6_findBurning 56 = .ok (.iload_n 3, 1) := by decide +kernel
theorem dX6_findBurning_57 : decode cX6_findBurning 57 = .ok (.imul, 1) := by decide +kernel
theorem dX6_findBurning_58 : decode cX6_findBurning 58 = .ok (.invokevirtual 105, 3) := by decide +kernel
theorem dX6_findBurning_61 : decode cX6_findBurning 61 = .ok (.ifCond .eq 24, 3) := by decide +kernel
theorem dX6_findBurning_64 : decode cX6_findBurning 64 = .ok (.aload_n 0, 1) := by decide +kernel
theorem dX6_findBurning_65 : decode cX6_findBurning 65 = .ok (.iconst 2, 1) := by decide +kernel
theorem dX6_findBurning_66 : decode cX6_findBurning 66 = .ok (.iload_n 3, 1) := by decide +kernel
theorem dX6_findBurning_67 : decode cX6_findBurning 67 = .ok (.imul, 1) := by decide +kernel
theorem dX6_findBurning_68 : decode cX6_findBurning 68 = .ok (.iconst 1, 1) := by decide +kernel
theorem dX6_findBurning_69 : decode cX6_findBurning 69 = .ok (.iadd, 1) := by decide +kernel
theorem dX6_findBurning_70 : decode cX6_findBurning 70 = .ok (.invokevirtual 105, 3) := by decide +kernel
theorem dX6_findBurning_73 : decode cX6_findBurning 73 = .ok (.ifCond .eq 12, 3) := by decide +kernel
theorem dX6_findBurning_76 : decode cX6_findBurning 76 = .ok (.iload 4, 2) := by decide +kernel
theorem dX6_findBurning_78 : decode cX6_findBurning 78 = .ok (.ifCond .ne 7, 3) := by decide +kernel
theorem dX6_findBurning_81 : decode cX6_findBurning 81 = .ok (.iconst 1, 1) := by decide +kernel
theorem dX6_findBurning_82 : decode cX6_findBurning 82 = .ok (.goto 4, 3) := by decide +kernel
theorem dX6_findBurning_85 : decode cX6_findBurning 85 = .ok (.iconst 0, 1) := by decide +kernel
theorem dX6_findBurning_86 : decode cX6_findBurning 86 = .ok (.bastore, 1) := by decide +kernel
theorem dX6_findBurning_87 : decode cX6_findBurning 87 = .ok (.aload_n 0, 1) := by decide +kernel
theorem dX6_findBurning_88 : decode cX6_findBurning 88 = .ok (.getfield 28, 3) := by decide +kernel
theorem dX6_findBurning_91 : decode cX6_findBurning 91 = .ok (.iload_n 2, 1) := by decide +kernel
theorem dX6_findBurning_92 : decode cX6_findBurning 92 = .ok (.baload, 1) := by decide +kernel
theorem dX6_findBurning_93 : decode cX6_findBurning 93 = .ok (.ifCond .eq 28, 3) := by decide +kernel
theorem dX6_findBurning_96 : decode cX6_findBurning 96 = .ok (.aload_n 0, 1) := by decide +kernel
theorem dX6_findBurning_97 : decode cX6_findBurning 97 = .ok (.dup, 1) := by decide +kernel
theorem dX6_findBurning_98 : decode cX6_findBurning 98 = .ok (.getfield 31, 3) := by decide +kernel
theorem dX6_findBurning_101 : decode cX6_findBurning 101 = .ok (.iconst 1, 1) := by decide +kernel
theorem dX6_findBurning_102 : decode cX6_findBurning 102 = .ok (.iadd, 1) := by decide +kernel
theorem dX6_findBurning_103 : decode cX6_findBurning 103 = .ok (.putfield 31, 3) := by decide +kernel
theorem dX6_findBurning_106 : decode cX6_findBurning 106 = .ok (.aload_n 0, 1) := by decide +kernel
theorem dX6_findBurning_107 : decode cX6_findBurning 107 = .ok (.getfield 41, 3) := by decide +kernel
theorem dX6_findBurning_110 : decode cX6_findBurning 110 = .ok (.iload_n 3, 1) := by decide +kernel
theorem dX6_findBurning_111 : decode cX6_findBurning 111 = .ok (.dup2, 1) := by decide +kernel
theorem dX6_findBurning_112 : decode cX6_findBurning 112 = .ok (.iaload, 1) := by decide +kernel
theorem dX6_findBurning_113 : decode cX6_findBurning 113 = .ok (.aload_n 1, 1) := by decide +kernel
theorem dX6_findBurning_114 : decode cX6_findBurning 114 = .ok (.getfield 138, 3) := by decide +kernel
theorem dX6_findBurning_117 : decode cX6_findBurning 117 = .ok (.iload_n 2, 1) := by decide +kernel
theorem dX6_findBurning_118 : decode cX6_findBurning 118 = .ok (.iaload, 1) := by decide +kernel
theorem dX6_findBurning_119 : decode cX6_findBurning 119 = .ok (.iadd, 1) := by decide +kernel
theorem dX6_findBurning_120 : decode cX6_findBurning 120 = .ok (.iastore, 1) := by decide +kernel
theorem dX6_findBurning_121 : decode cX6_findBurning 121 = .ok (.iinc 2 1, 3) := by decide +kernel
theorem dX6_findBurning_124 : decode cX6_findBurning 124 = .ok (.goto (-117), 3) := by decide +kernel
theorem dX6_findBurning_127 : decode cX6_findBurning 127 = .ok (.return_, 1) := by decide +kernel
theorem dX6_findStrengths_0 : decode cX6_findStrengths 0 = .ok (.iconst 0, 1) := by decide +kernel
theorem dX6_findStrengths_1 : decode cX6_findStrengths 1 = .ok (.istore_n 2, 1) := by decide +kernel
theorem dX6_findStrengths_2 : decode cX6_findStrengths 2 = .ok (.iload_n 2, 1) := by decide +kernel
theorem dX6_findStrengths_3 : decode cX6_findStrengths 3 = .ok (.aload_n 1, 1) := by decide +kernel
theorem dX6_findStrengths_4 : decode cX6_findStrengths 4 = .ok (.getfield 141, 3) := by decide +kernel
theorem dX6_findStrengths_7 : decode cX6_findStrengths 7 = .ok (.if_icmp .ge 62, 3) := by decide +kernel
theorem dX6_findStrengths_10 : decode cX6_findStrengths 10 = .ok (.iconst 2, 1) := by decide +kernel
theorem dX6_findStrengths_11 : decode cX6_findStrengths 11 = .ok (.aload_n 1, 1) := by decide +kernel
theorem dX6_findStrengths_12 : decode cX6_findStrengths 12 = .ok (.getfield 144, 3) := by decide +kernel
theorem dX6_findStrengths_15 : decode cX6_findStrengths 15 = .ok (.iload_n 2, 1) := by decide +kernel
theorem dX6_findStrengths_16 : decode cX6_findStrengths 16 = .ok (.iaload, 1) := by decide +kernel
theorem dX6_findStrengths_17 : decode cX6_findStrengths 17 = .ok (.imul, 1) := by decide +kernel
theorem dX6_findStrengths_18 : decode cX6_findStrengths 18 = .ok (.aload_n 1, 1) := by decide +kernel
theorem dX6_findStrengths_19 : decode cX6_findStrengths 19 = .ok (.getfield 145, 3) := by decide +kernel
theorem dX6_findStrengths_22 : decode cX6_findStrengths 22 = .ok (.iload_n 2, 1) := by decide +kernel
theorem dX6_findStrengths_23 : decode cX6_findStrengths 23 = .ok (.iaload, 1) := by decide +kernel
theorem dX6_findStrengths_24 : decode cX6_findStrengths 24 = .ok (.iadd, 1) := by decide +kernel
theorem dX6_findStrengths_25 : decode cX6_findStrengths 25 = .ok (.istore_n 3, 1) := by decide +kernel
theorem dX6_findStrengths_26 : decode cX6_findStrengths 26 = .ok (.aload_n 0, 1) := by decide +kernel
theorem dX6_findStrengths_27 : decode cX6_findStrengths 27 = .ok (.iload_n 3, 1) := by decide +kernel
theorem dX6_findStrengths_28 : decode cX6_findStrengths 28 = .ok (.invokevirtual 105, 3) := by decide +kernel
theorem dX6_findStrengths_31 : decode cX6_findStrengths 31 = .ok (.ifCond .eq 32, 3) := by decide +kernel
theorem dX6_findStrengths_34 : decode cX6_findStrengths 34 = .ok (.aload_n 0, 1) := by decide +kernel
theorem dX6_findStrengths_35 : decode cX6_findStrengths 35 = .ok (.getfield 47, 3) := by decide +kernel
theorem dX6_findStrengths_38 : decode cX6_findStrengths 38 = .ok (.iconst 2, 1) := by decide +kernel
theorem dX6_findStrengths_39 : decode cX6_findStrengths 39 = .ok (.aload_n 1, 1) := by decide +kernel
theorem dX6_findStrengths_40 : decode cX6_findStrengths 40 = .ok (.getfield 144, 3) := by decide +kernel
theorem dX6_findStrengths_43 : decode cX6_findStrengths 43 = .ok (.iload_n 2, 1) := by decide +kernel
theorem dX6_findStrengths_44 : decode cX6_findStrengths 44 = .ok (.iaload, 1) := by decide +kernel
theorem dX6_findStrengths_45 : decode cX6_findStrengths 45 = .ok (.imul, 1) := by decide +kernel
theorem dX6_findStrengths_46 : decode cX6_findStrengths 46 = .ok (.aload_n 0, 1) := by decide +kernel
theorem dX6_findStrengths_47 : decode cX6_findStrengths 47 = .ok (.getfield 25, 3) := by decide +kernel
theorem dX6_findStrengths_50 : decode cX6_findStrengths 50 = .ok (.iload_n 3, 1) := by decide +kernel
theorem dX6_findStrengths_51 : decode cX6_findStrengths 51 = .ok (.iaload, 1) := by decide +kernel
theorem dX6_findStrengths_52 : decode cX6_findStrengths 52 = .ok (.iadd, 1) := by decide +kernel
theorem dX6_findStrengths_53 : decode cX6_findStrengths 53 = .ok (.dup2, 1) := by decide +kernel
theorem dX6_findStrengths_54 : decode cX6_findStrengths 54 = .ok (.iaload, 1) := by decide +kernel
theorem dX6_findStrengths_55 : decode cX6_findStrengths 55 = .ok (.aload_n 1, 1) := by decide +kernel
theorem dX6_findStrengths_56 : decode cX6_findStrengths 56 = .ok (.getfield 148, 3) := by decide +kernel
theorem dX6_findStrengths_59 : decode cX6_findStrengths 59 = .ok (.iload_n 2, 1) := by decide +kernel
theorem dX6_findStrengths_60 : decode cX6_findStrengths 60 = .ok (.iaload, 1) := by decide +kernel
theorem dX6_findStrengths_61 : decode cX6_findStrengths 61 = .ok (.iadd, 1) := by decide +kernel
theorem dX6_findStrengths_62 : decode cX6_findStrengths 62 = .ok (.iastore, 1) := by decide +kernel
theorem dX6_findStrengths_63 : decode cX6_findStrengths 63 = .ok (.iinc 2 1, 3) := by decide +kernel
theorem dX6_findStrengths_66 : decode cX6_findStrengths 66 = .ok (.goto (-64), 3) := by decide +kernel
theorem dX6_findStrengths_69 : decode cX6_findStrengths 69 = .ok (.return_, 1) := by decide +kernel
theorem dX6_sumUpStrengths_0 : decode cX6_sumUpStrengths 0 = .ok (.aload_n 1, 1) := by decide +kernel
theorem dX6_sumUpStrengths_1 : decode cX6_sumUpStrengths 1 = .ok (.getfield 56, 3) := by decide +kernel
theorem dX6_sumUpStrengths_4 : decode cX6_sumUpStrengths 4 = .ok (.iconst 1, 1) := by decide +kernel
theorem dX6_sumUpStrengths_5 : decode cX6_sumUpStrengths 5 = .ok (.isub, 1) := by decide +kernel
theorem dX6_sumUpStrengths_6 : decode cX6_sumUpStrengths 6 = .ok (.istore_n 2, 1) := by decide +kernel
theorem dX6_sumUpStrengths_7 : decode cX6_sumUpStrengths 7 = .ok (.iload_n 2, 1) := by decide +kernel
theorem dX6_sumUpStrengths_8 : decode cX6_sumUpStrengths 8 = .ok (.ifCond .le 50, 3) := by decide +kernel
theorem dX6_sumUpStrengths_11 : decode cX6_sumUpStrengths 11 = .ok (.iconst 0, 1) := by decide +kernel
theorem dX6_sumUpStrengths_12 : decode cX6_sumUpStrengths 12 = .ok (.istore_n 3, 1) := by decide +kernel
theorem dX6_sumUpStrengths_13 : decode cX6_sumUpStrengths 13 = .ok (.iload_n 3, 1) := by decide +kernel
theorem dX6_sumUpStrengths_14 : decode cX6_sumUpStrengths 14 = .ok (.iconst 2, 1) := by decide +kernel
theorem dX6_sumUpStrengths_15 : decode cX6_sumUpStrengths 15 = .ok (.if_icmp .ge 37, 3) := by decide +kernel
theorem dX6_sumUpStrengths_18 : decode cX6_sumUpStrengths 18 = .ok (.aload_n 0, 1) := by decide +kernel
theorem dX6_sumUpStrengths_19 : decode cX6_sumUpStrengths 19 = .ok (.getfield 47, 3) := by decide +kernel
theorem dX6_sumUpStrengths_22 : decode cX6_sumUpStrengths 22 = .ok (.iconst 2, 1) := by decide +kernel
theorem dX6_sumUpStrengths_23 : decode cX6_sumUpStrengths 23 = .ok (.aload_n 1, 1) := by decide +kernel
theorem dX6_sumUpStrengths_24 : decode cX6_sumUpStrengths 24 = .ok (.getfield 115, 3) := by decide +kernel
theorem dX6_sumUpStrengths_27 : decode cX6_sumUpStrengths 27 = .ok (.iload_n 2, 1) := by decide +kernel
theorem dX6_sumUpStrengths_28 : decode cX6_sumUpStrengths 28 = .ok (.iaload, 1) := by decide +kernel
theorem dX6_sumUpStrengths_29 : decode cX6_sumUpStrengths 29 = .ok (.imul, 1) := by decide +kernel
theorem dX6_sumUpStrengths_30 : decode cX6_sumUpStrengths 30 = .ok (.iload_n 3, 1) := by decide +kernel
theorem dX6_sumUpStrengths_31 : decode cX6_sumUpStrengths 31 = .ok (.iadd, 1) := by decide +kernel
theorem dX6_sumUpStrengths_32 : decode cX6_sumUpStrengths 32 = .ok (.dup2, 1) := by decide +kernel
theorem dX6_sumUpStrengths_33 : decode cX6_sumUpStrengths 33 = .ok (.iaload, 1) := by decide +kernel
theorem dX6_sumUpStrengths_34 : decode cX6_sumUpStrengths 34 = .ok (.aload_n 0, 1) := by decide +kernel
theorem dX6_sumUpStrengths_35 : decode cX6_sumUpStrengths 35 = .ok (.getfield 47, 3) := by decide +kernel
theorem dX6_sumUpStrengths_38 : decode cX6_sumUpStrengths 38 = .ok (.iconst 2, 1) := by decide +kernel
theorem dX6_sumUpStrengths_39 : decode cX6_sumUpStrengths 39 = .ok (.iload_n 2, 1) := by decide +kernel
theorem dX6_sumUpStrengths_40 : decode cX6_sumUpStrengths 40 = .ok (.imul, 1) := by decide +kernel
theorem dX6_sumUpStrengths_41 : decode cX6_sumUpStrengths 41 = .ok (.iload_n 3, 1) := by decide +kernel
theorem dX6_sumUpStrengths_42 : decode cX6_sumUpStrengths 42 = .ok (.iadd, 1) := by decide +kernel
theorem dX6_sumUpStrengths_43 : decode cX6_sumUpStrengths 43 = .ok (.iaload, 1) := by decide +kernel
theorem dX6_sumUpStrengths_44 : decode cX6_sumUpStrengths 44 = .ok (.iadd, 1) := by decide +kernel
theorem dX6_sumUpStrengths_45 : decode cX6_sumUpStrengths 45 = .ok (.iastore, 1) := by decide +kernel
theorem dX6_sumUpStrengths_46 : decode cX6_sumUpStrengths 46 = .ok (.iinc 3 1, 3) := by decide +kernel
theorem dX6_sumUpStrengths_49 : decode cX6_sumUpStrengths 49 = .ok (.goto (-36), 3) := by decide +kernel
theorem dX6_sumUpStrengths_52 : decode cX6_sumUpStrengths 52 = .ok (.iinc 2 (-1), 3) := by decide +kernel
theorem dX6_sumUpStrengths_55 : decode cX6_sumUpStrengths 55 = .ok (.goto (-48), 3) := by decide +kernel
theorem dX6_sumUpStrengths_58 : decode cX6_sumUpStrengths 58 = .ok (.return_, 1) := by decide +kernel
theorem dX6_shareLeak_0 : decode cX6_shareLeak 0 = .ok (.aload_n 0, 1) := by decide +kernel
theorem dX6_shareLeak_1 : decode cX6_shareLeak 1 = .ok (.getfield 35, 3) := by decide +kernel
theorem dX6_shareLeak_4 : decode cX6_shareLeak 4 = .ok (.istore_n 3, 1) := by decide +kernel
theorem dX6_shareLeak_5 : decode cX6_shareLeak 5 = .ok (.iconst 0, 1) := by decide +kernel
theorem dX6_shareLeak_6 : decode cX6_shareLeak 6 = .ok (.istore 4, 2) := by decide +kernel
theorem dX6_shareLeak_8 : decode cX6_shareLeak 8 = .ok (.iload 4, 2) := by decide +kernel
theorem dX6_shareLeak_10 : decode cX6_shareLeak 10 = .ok (.aload_n 1, 1) := by decide +kernel
theorem dX6_shareLeak_11 : decode cX6_shareLeak 11 = .ok (.getfield 141, 3) := by decide +kernel
theorem dX6_shareLeak_14 : decode cX6_shareLeak 14 = .ok (.if_icmp .ge 106, 3) := by decide +kernel
theorem dX6_shareLeak_17 : decode cX6_shareLeak 17 = .ok (.iconst 2, 1) := by decide +kernel
theorem dX6_shareLeak_18 : decode cX6_shareLeak 18 = .ok (.aload_n 1, 1) := by decide +kernel
theorem dX6_shareLeak_19 : decode cX6_shareLeak 19 = .ok (.getfield 144, 3) := by decide +kernel
theorem dX6_shareLeak_22 : decode cX6_shareLeak 22 = .ok (.iload 4, 2) := by decide +kernel
theorem dX6_shareLeak_24 : decode cX6_shareLeak 24 = .ok (.iaload, 1) := by decide +kernel
theorem dX6_shareLeak_25 : decode cX6_shareLeak 25 = .ok (.imul, 1) := by decide +kernel
theorem dX6_shareLeak_26 : decode cX6_shareLeak 26 = .ok (.aload_n 1, 1) := by decide +kernel
theorem dX6_shareLeak_27 : decode cX6_shareLeak 27 = .ok (.getfield 145, 3) := by decide +kernel
theorem dX6_shareLeak_30 : decode cX6_shareLeak 30 = .ok (.iload 4, 2) := by decide +kernel
theorem dX6_shareLeak_32 : decode cX6_shareLeak 32 = .ok (.iaload, 1) := by decide +kernel
theorem dX6_shareLeak_33 : decode cX6_shareLeak 33 = .ok (.iadd, 1) := by decide +kernel
theorem dX6_shareLeak_34 : decode cX6_shareLeak 34 = .ok (.istore 5, 2) := by decide +kernel
theorem dX6_shareLeak_36 : decode cX6_shareLeak 36 = .ok (.aload_n 0, 1) := by decide +kernel
theorem dX6_shareLeak_37 : decode cX6_shareLeak 37 = .ok (.getfield 25, 3) := by decide +kernel
theorem dX6_shareLeak_40 : decode cX6_shareLeak 40 = .ok (.iload 5, 2) := by decide +kernel
theorem dX6_shareLeak_42 : decode cX6_shareLeak 42 = .ok (.iaload, 1) := by decide +kernel
theorem dX6_shareLeak_43 : decode cX6_shareLeak 43 = .ok (.iload_n 2, 1) := by decide +kernel
theorem dX6_shareLeak_44 : decode cX6_shareLeak 44 = .ok (.if_icmp .ne 70, 3) := by decide +kernel
theorem dX6_shareLeak_47 : decode cX6_shareLeak 47 = .ok (.aload_n 0, 1) := by decide +kernel
theorem dX6_shareLeak_48 : decode cX6_shareLeak 48 = .ok (.getfield 38, 3) := by decide +kernel
theorem dX6_shareLeak_51 : decode cX6_shareLeak 51 = .ok (.iload 4, 2) := by decide +kernel
theorem dX6_shareLeak_53 : decode cX6_shareLeak 53 = .ok (.aload_n 0, 1) := by decide +kernel
theorem dX6_shareLeak_54 : decode cX6_shareLeak 54 = .ok (.iload 5, 2) := by decide +kernel
theorem dX6_shareLeak_56 : decode cX6_shareLeak 56 = .ok (.invokevirtual 105, 3) := by decide +kernel
theorem dX6_shareLeak_59 : decode cX6_shareLeak 59 = .ok (.ifCond .eq 17, 3) := by decide +kernel
theorem dX6_shareLeak_62 : decode cX6_shareLeak 62 = .ok (.aload_n 1, 1) := by decide +kernel
theorem dX6_shareLeak_63 : decode cX6_shareLeak 63 = .ok (.getfield 148, 3) := by decide +kernel
theorem dX6_shareLeak_66 : decode cX6_shareLeak 66 = .ok (.iload 4, 2) := by decide +kernel
theorem dX6_shareLeak_68 : decode cX6_shareLeak 68 = .ok (.iaload, 1) := by decide +kernel
theorem dX6_shareLeak_69 : decode cX6_shareLeak 69 = .ok (.iload_n 3, 1) := by decide +kernel
theorem dX6_shareLeak_70 : decode cX6_shareLeak 70 = .ok (.invokestatic 92, 3) := by decide +kernel
theorem dX6_shareLeak_73 : decode cX6_shareLeak 73 = .ok (.goto 4, 3) := by decide +kernel
theorem dX6_shareLeak_76 : decode cX6_shareLeak 76 = .ok (.iconst 0, 1) := by decide +kernel
theorem dX6_shareLeak_77 : decode cX6_shareLeak 77 = .ok (.iastore, 1) := by decide +kernel
theorem dX6_shareLeak_78 : decode cX6_shareLeak 78 = .ok (.iload_n 3, 1) := by decide +kernel
theorem dX6_shareLeak_79 : decode cX6_shareLeak 79 = .ok (.aload_n 0, 1) := by decide +kernel
theorem dX6_shareLeak_80 : decode cX6_shareLeak 80 = .ok (.getfield 38, 3) := by decide +kernel
theorem dX6_shareLeak_83 : decode cX6_shareLeak 83 = .ok (.iload 4, 2) := by decide +kernel
theorem dX6_shareLeak_85 : decode cX6_shareLeak 85 = .ok (.iaload, 1) := by decide +kernel
theorem dX6_shareLeak_86 : decode cX6_shareLeak 86 = .ok (.isub, 1) := by decide +kernel
theorem dX6_shareLeak_87 : decode cX6_shareLeak 87 = .ok (.istore_n 3, 1) := by decide +kernel
theorem dX6_shareLeak_88 : decode cX6_shareLeak 88 = .ok (.aload_n 0, 1) := by decide +kernel
theorem dX6_shareLeak_89 : decode cX6_shareLeak 89 = .ok (.getfield 44, 3) := by decide +kernel
theorem dX6_shareLeak_92 : decode cX6_shareLeak 92 = .ok (.iconst 2, 1) := by decide +kernel
theorem dX6_shareLeak_93 : decode cX6_shareLeak 93 = .ok (.aload_n 1, 1) := by decide +kernel
theorem dX6_shareLeak_94 : decode cX6_shareLeak 94 = .ok (.getfield 144, 3) := by decide +kernel
theorem dX6_shareLeak_97 : decode cX6_shareLeak 97 = .ok (.iload 4, 2) := by decide +kernel
theorem dX6_shareLeak_99 : decode cX6_shareLeak 99 = .ok (.iaload, 1) := by decide +kernel
theorem dX6_shareLeak_100 : decode cX6_shareLeak 100 = .ok (.imul, 1) := by decide +kernel
theorem dX6_shareLeak_101 : decode cX6_shareLeak 101 = .ok (.iload_n 2, 1) := by decide +kernel
theorem dX6_shareLeak_102 : decode cX6_shareLeak 102 = .ok (.iadd, 1) := by decide +kernel
theorem dX6_shareLeak_103 : decode cX6_shareLeak 103 = .ok (.dup2, 1) := by decide +kernel
theorem dX6_shareLeak_104 : decode cX6_shareLeak 104 = .ok (.iaload, 1) := by decide +kernel
theorem dX6_shareLeak_105 : decode cX6_shareLeak 105 = .ok (.aload_n 0, 1) := by decide +kernel
theorem dX6_shareLeak_106 : decode cX6_shareLeak 106 = .ok (.getfield 38, 3) := by decide +kernel
theorem dX6_shareLeak_109 : decode cX6_shareLeak 109 = .ok (.iload 4, 2) := by decide +kernel
theorem dX6_shareLeak_111 : decode cX6_shareLeak 111 = .ok (.iaload, 1) := by decide +kernel
theorem dX6_shareLeak_112 : decode cX6_shareLeak 112 = .ok (.iadd, 1) := by decide +kernel
theorem dX6_shareLeak_113 : decode cX6_shareLeak 113 = .ok (.iastore, 1) := by decide +kernel
theorem dX6_shareLeak_114 : decode cX6_shareLeak 114 = .ok (.iinc 4 1, 3) := by decide +kernel
theorem dX6_shareLeak_117 : decode cX6_shareLeak 117 = .ok (.goto (-109), 3) := by decide +kernel
theorem dX6_shareLeak_120 : decode cX6_shareLeak 120 = .ok (.return_, 1) := by decide +kernel
theorem dX6_sumUpCurrents_0 : decode cX6_sumUpCurrents 0 = .ok (.aload_n 1, 1) := by decide +kernel
theorem dX6_sumUpCurrents_1 : decode cX6_sumUpCurrents 1 = .ok (.getfield 56, 3) := by decide +kernel
theorem dX6_sumUpCurrents_4 : decode cX6_sumUpCurrents 4 = .ok (.iconst 1, 1) := by decide +kernel
theorem dX6_sumUpCurrents_5 : decode cX6_sumUpCurrents 5 = .ok (.isub, 1) := by decide +kernel
theorem dX6_sumUpCurrents_6 : decode cX6_sumUpCurrents 6 = .ok (.istore_n 2, 1) := by decide +kernel
theorem dX6_sumUpCurrents_7 : decode cX6_sumUpCurrents 7 = .ok (.iload_n 2, 1) := by decide +kernel
theorem dX6_sumUpCurrents_8 : decode cX6_sumUpCurrents 8 = .ok (.ifCond .le 71, 3) := by decide +kernel
theorem dX6_sumUpCurrents_11 : decode cX6_sumUpCurrents 11 = .ok (.aload_n 1, 1) := by decide +kernel
theorem dX6_sumUpCurrents_12 : decode cX6_sumUpCurrents 12 = .ok (.getfield 115, 3) := by decide +kernel
theorem dX6_sumUpCurrents_15 : decode cX6_sumUpCurrents 15 = .ok (.iload_n 2, 1) := by decide +kernel
theorem dX6_sumUpCurrents_16 : decode cX6_sumUpCurrents 16 = .ok (.iaload, 1) := by decide +kernel
theorem dX6_sumUpCurrents_17 : decode cX6_sumUpCurrents 17 = .ok (.istore_n 3, 1) := by decide +kernel
theorem dX6_sumUpCurrents_18 : decode cX6_sumUpCurrents 18 = .ok (.aload_n 0, 1) := by decide +kernel
theorem dX6_sumUpCurrents_19 : decode cX6_sumUpCurrents 19 = .ok (.getfield 41, 3) := by decide +kernel
theorem dX6_sumUpCurrents_22 : decode cX6_sumUpCurrents 22 = .ok (.iload_n 3, 1) := by decide +kernel
theorem dX6_sumUpCurrents_23 : decode cX6_sumUpCurrents 23 = .ok (.dup2, 1) := by decide +kernel
theorem dX6_sumUpCurrents_24 : decode cX6_sumUpCurrents 24 = .ok (.iaload, 1) := by decide +kernel
theorem dX6_sumUpCurrents_25 : decode cX6_sumUpCurrents 25 = .ok (.aload_n 0, 1) := by decide +kernel
theorem dX6_sumUpCurrents_26 : decode cX6_sumUpCurrents 26 = .ok (.getfield 41, 3) := by decide +kernel
theorem dX6_sumUpCurrents_29 : decode cX6_sumUpCurrents 29 = .ok (.iload_n 2, 1) := by decide +kernel
theorem dX6_sumUpCurrents_30 : decode cX6_sumUpCurrents 30 = .ok (.iaload, 1) := by decide +kernel
theorem dX6_sumUpCurrents_31 : decode cX6_sumUpCurrents 31 = .ok (.iadd, 1) := by decide +kernel
theorem dX6_sumUpCurrents_32 : decode cX6_sumUpCurrents 32 = .ok (.iastore, 1) := by decide +kernel
theorem dX6_sumUpCurrents_33 : decode cX6_sumUpCurrents 33 = .ok (.iconst 0, 1) := by decide +kernel
theorem dX6_sumUpCurrents_34 : decode cX6_sumUpCurrents 34 = .ok (.istore 4, 2) := by decide +kernel
theorem dX6_sumUpCurrents_36 : decode cX6_sumUpCurrents 36 = .ok (.iload 4, 2) := by decide +kernel
theorem dX6_sumUpCurrents_38 : decode cX6_sumUpCurrents 38 = .ok (.iconst 2, 1) := by decide +kernel
theorem dX6_sumUpCurrents_39 : decode cX6_sumUpCurrents 39 = .ok (.if_icmp .ge 34, 3) := by decide +kernel
theorem dX6_sumUpCurrents_42 : decode cX6_sumUpCurrents 42 = .ok (.aload_n 0, 1) := by decide +kernel
theorem dX6_sumUpCurrents_43 : decode cX6_sumUpCurrents 43 = .ok (.getfield 44, 3) := by decide +kernel
theorem dX6_sumUpCurrents_46 : decode cX6_sumUpCurrents 46 = .ok (.iconst 2, 1) := by decide +kernel
theorem dX6_sumUpCurrents_47 : decode cX6_sumUpCurrents 47 = .ok (.iload_n 3, 1) := by decide +kernel
theorem dX6_sumUpCurrents_48 : decode cX6_sumUpCurrents 48 = .ok (.imul, 1) := by decide +kernel
theorem dX6_sumUpCurrents_49 : decode cX6_sumUpCurrents 49 = .ok (.iload 4, 2) := by decide +kernel
theorem dX6_sumUpCurrents_51 : decode cX6_sumUpCurrents 51 = .ok (.iadd, 1) := by decide +kernel
theorem dX6_sumUpCurrents_52 : decode cX6_sumUpCurrents 52 = .ok (.dup2, 1) := by decide +kernel
theorem dX6_sumUpCurrents_53 : decode cX6_sumUpCurrents 53 = .ok (.iaload, 1) := by decide +kernel
theorem dX6_sumUpCurrents_54 : decode cX6_sumUpCurrents 54 = .ok (.aload_n 0, 1) := by decide +kernel
theorem dX6_sumUpCurrents_55 : decode cX6_sumUpCurrents 55 = .ok (.getfield 44, 3) := by decide +kernel
theorem dX6_sumUpCurrents_58 : decode cX6_sumUpCurrents 58 = .ok (.iconst 2, 1) := by decide +kernel
theorem dX6_sumUpCurrents_59 : decode cX6_sumUpCurrents 59 = .ok (.iload_n 2, 1) := by decide +kernel
theorem dX6_sumUpCurrents_60 : decode cX6_sumUpCurrents 60 = .ok (.imul, 1) := by decide +kernel
theorem dX6_sumUpCurrents_61 : decode cX6_sumUpCurrents 61 = .ok (.iload 4, 2) := by decide +kernel
theorem dX6_sumUpCurrents_63 : decode cX6_sumUpCurrents 63 = .ok (.iadd, 1) := by decide +kernel
theorem dX6_sumUpCurrents_64 : decode cX6_sumUpCurrents 64 = .ok (.iaload, 1) := by decide +kernel
theorem dX6_sumUpCurrents_65 : decode cX6_sumUpCurrents 65 = .ok (.iadd, 1) := by decide +kernel
theorem dX6_sumUpCurrents_66 : decode cX6_sumUpCurrents 66 = .ok (.iastore, 1) := by decide +kernel
theorem dX6_sumUpCurrents_67 : decode cX6_sumUpCurrents 67 = .ok (.iinc 4 1, 3) := by decide +kernel
theorem dX6_sumUpCurrents_70 : decode cX6_sumUpCurrents 70 = .ok (.goto (-34), 3) := by decide +kernel
theorem dX6_sumUpCurrents_73 : decode cX6_sumUpCurrents 73 = .ok (.iinc 2 (-1), 3) := by decide +kernel
theorem dX6_sumUpCurrents_76 : decode cX6_sumUpCurrents 76 = .ok (.goto (-69), 3) := by decide +kernel
theorem dX6_sumUpCurrents_79 : decode cX6_sumUpCurrents 79 = .ok (.return_, 1) := by decide +kernel
theorem dJxe99ae_isNaN_b9ae7_0 : decode cJxe99ae_isNaN_b9ae7 0 = .ok (.dload_n 0, 1) := by decide +kernel
theorem dJxe99ae_isNaN_b9ae7_1 : decode cJxe99ae_isNaN_b9ae7 1 = .ok (.dload_n 0, 1) := by decide +kernel
theorem dJxe99ae_isNaN_b9ae7_2 : decode cJxe99ae_isNaN_b9ae7 2 = .ok (.dcmp .l, 1) := by decide +kernel
theorem dJxe99ae_isNaN_b9ae7_3 : decode cJxe99ae_isNaN_b9ae7 3 = .ok (.ifCond .eq 7, 3) := by decide +kernel
theorem dJxe99ae_isNaN_b9ae7_6 : decode cJxe99ae_isNaN_b9ae7 6 = .ok (.iconst 1, 1) := by decide +kernel
theorem dJxe99ae_isNaN_b9ae7_7 : decode cJxe99ae_isNaN_b9ae7 7 = .ok (.goto 4, 3) := by decide +kernel
theorem dJxe99ae_isNaN_b9ae7_10 : decode cJxe99ae_isNaN_b9ae7 10 = .ok (.iconst 0, 1) := by decide +kernel
theorem dJxe99ae_isNaN_b9ae7_11 : decode cJxe99ae_isNaN_b9ae7 11 = .ok (.ireturn, 1) := by decide +kernel
theorem dJxe99ae_doubleToLongBits_ccdee_0 : decode cJxe99ae_doubleToLongBits_ccdee 0 = .ok (.dload_n 0, 1) := by decide +kernel
theorem dJxe99ae_doubleToLongBits_ccdee_1 : decode cJxe99ae_doubleToLongBits_ccdee 1 = .ok (.invokestatic 122, 3) := by decide +kernel
theorem dJxe99ae_doubleToLongBits_ccdee_4 : decode cJxe99ae_doubleToLongBits_ccdee 4 = .ok (.ifCond .ne 8, 3) := by decide +kernel
theorem dJxe99ae_doubleToLongBits_ccdee_7 : decode cJxe99ae_doubleToLongBits_ccdee 7 = .ok (.dload_n 0, 1) := by decide +kernel
theorem dJxe99ae_doubleToLongBits_ccdee_8 : decode cJxe99ae_doubleToLongBits_ccdee 8 = .ok (.invokestatic 134, 3) := by decide +kernel
theorem dJxe99ae_doubleToLongBits_ccdee_11 : decode cJxe99ae_doubleToLongBits_ccdee 11 = .ok (.lreturn, 1) := by decide +kernel
theorem dJxe99ae_doubleToLongBits_ccdee_12 : decode cJxe99ae_doubleToLongBits_ccdee 12 = .ok (.ldc2_w 137, 3) := by decide +kernel
theorem dJxe99ae_doubleToLongBits_ccdee_15 : decode cJxe99ae_doubleToLongBits_ccdee 15 = .ok (.lreturn, 1) := by decide +kernel
theorem dJ9_min_7cf53_0 : decode cJ9_min_7cf53 0 = .ok (.iload_n 0, 1) := by decide +kernel
theorem dJ9_min_7cf53_1 : decode cJ9_min_7cf53 1 = .ok (.iload_n 1, 1) := by decide +kernel
theorem dJ9_min_7cf53_2 : decode cJ9_min_7cf53 2 = .ok (.if_icmp .gt 7, 3) := by decide +kernel
theorem dJ9_min_7cf53_5 : decode cJ9_min_7cf53 5 = .ok (.iload_n 0, 1) := by decide +kernel
theorem dJ9_min_7cf53_6 : decode cJ9_min_7cf53 6 = .ok (.goto 4, 3) := by decide +kernel
theorem dJ9_min_7cf53_9 : decode cJ9_min_7cf53 9 = .ok (.iload_n 1, 1) := by decide +kernel
theorem dJ9_min_7cf53_10 : decode cJ9_min_7cf53 10 = .ok (.ireturn, 1) := by decide +kernel
end
section
theorem dX7_init_0 : decode cX7_init 0 = .ok (.aload_n 0, 1) := by decide +kernel
theorem dX7_init_1 : decode cX7_init 1 = .ok (.invokespecial 3, 3) := by decide +kernel
theorem dX7_init_4 : decode cX7_init 4 = .ok (.aload_n 0, 1) := by decide +kernel
theorem dX7_init_5 : decode cX7_init 5 = .ok (.new 9, 3) := by decide +kernel
theorem dX7_init_8 : decode cX7_init 8 = .ok (.dup, 1) := by decide +kernel
theorem dX7_init_9 : decode cX7_init 9 = .ok (.invokespecial 11, 3) := by decide +kernel
theorem dX7_init_12 : decode cX7_init 12 = .ok (.putfield 12, 3) := by decide +kernel
theorem dX7_init_15 : decode cX7_init 15 = .ok (.aload_n 0, 1) := by decide +kernel
theorem dX7_init_16 : decode cX7_init 16 = .ok (.new 16, 3) := by decide +kernel
theorem dX7_init_19 : decode cX7_init 19 = .ok (.dup, 1) := by decide +kernel
theorem dX7_init_20 : decode cX7_init 20 = .ok (.invokespecial 18, 3) := by decide +kernel
theorem dX7_init_23 : decode cX7_init 23 = .ok (.putfield 19, 3) := by decide +kernel
theorem dX7_init_26 : decode cX7_init 26 = .ok (.aload_n 0, 1) := by decide +kernel
theorem dX7_init_27 : decode cX7_init 27 = .ok (.new 9, 3) := by decide +kernel
theorem dX7_init_30 : decode cX7_init 30 = .ok (.dup, 1) := by decide +kernel
theorem dX7_init_31 : decode cX7_init 31 = .ok (.invokespecial 11, 3) := by decide +kernel
theorem dX7_init_34 : decode cX7_init 34 = .ok (.putfield 23, 3) := by decide +kernel
theorem dX7_init_37 : decode cX7_init 37 = .ok (.aload_n 0, 1) := by decide +kernel
theorem dX7_init_38 : decode cX7_init 38 = .ok (.new 16, 3) := by decide +kernel
theorem dX7_init_41 : decode cX7_init 41 = .ok (.dup, 1) := by decide +kernel
theorem dX7_init_42 : decode cX7_init 42 = .ok (.invokespecial 18, 3) := by decide +kernel
theorem dX7_init_45 : decode cX7_init 45 = .ok (.putfield 26, 3) := by decide +kernel
theorem dX7_init_48 : decode cX7_init 48 = .ok (.aload_n 0, 1) := by decide +kernel
theorem dX7_init_49 : decode cX7_init 49 = .ok (.new 16, 3) := by decide +kernel
theorem dX7_init_52 : decode cX7_init 52 = .ok (.dup, 1) := by decide +kernel
theorem dX7_init_53 : decode cX7_init 53 = .ok (.invokespecial 18, 3) := by decide +kernel
theorem dX7_init_56 : decode cX7_init 56 = .ok (.putfield 29, 3) := by decide +kernel
theorem dX7_init_59 : decode cX7_init 59 = .ok (.aload_n 0, 1) := by decide +kernel
theorem dX7_init_60 : decode cX7_init 60 = .ok (.new 32, 3) := by decide +kernel
theorem dX7_init_63 : decode cX7_init 63 = .ok (.dup, 1) := by decide +kernel
theorem dX7_init_64 : decode cX7_init 64 = .ok (.invokespecial 34, 3) := by decide +kernel
theorem dX7_init_67 : decode cX7_init 67 = .ok (.putfield 35, 3) := by decide +kernel
theorem dX7_init_70 : decode cX7_init 70 = .ok (.aload_n 0, 1) := by decide +kernel
theorem dX7_init_71 : decode cX7_init 71 = .ok (.new 39, 3) := by decide +kernel
theorem dX7_init_74 : decode cX7_init 74 = .ok (.dup, 1) := by decide +kernel
theorem dX7_init_75 : decode cX7_init 75 = .ok (.invokespecial 41, 3) := by decide +kernel
theorem dX7_init_78 : decode cX7_init 78 = .ok (.putfield 42, 3) := by decide +kernel
theorem dX7_init_81 : decode cX7_init 81 = .ok (.aload_n 0, 1) := by decide +kernel
theorem dX7_init_82 : decode cX7_init 82 = .ok (.bipush 60, 2) := by decide +kernel
theorem dX7_init_84 : decode cX7_init 84 = .ok (.newarray .int, 2) := by decide +kernel
theorem dX7_init_86 : decode cX7_init 86 = .ok (.putfield 46, 3) := by decide +kernel
theorem dX7_init_89 : decode cX7_init 89 = .ok (.aload_n 0, 1) := by decide +kernel
theorem dX7_init_90 : decode cX7_init 90 = .ok (.iconst 0, 1) := by decide +kernel
theorem dX7_init_91 : decode cX7_init 91 = .ok (.putfield 50, 3) := by decide +kernel
theorem dX7_init_94 : decode cX7_init 94 = .ok (.return_, 1) := by decide +kernel
theorem dX7_addBox_0 : decode cX7_addBox 0 = .ok (.aload_n 0, 1) := by decide +kernel
theorem dX7_addBox_1 : decode cX7_addBox 1 = .ok (.iload_n 1, 1) := by decide +kernel
theorem dX7_addBox_2 : decode cX7_addBox 2 = .ok (.invokevirtual 54, 3) := by decide +kernel
theorem dX7_addBox_5 : decode cX7_addBox 5 = .ok (.ifCond .ne 13, 3) := by decide +kernel
theorem dX7_addBox_8 : decode cX7_addBox 8 = .ok (.new 58, 3) := by decide +kernel
theorem dX7_addBox_11 : decode cX7_addBox 11 = .ok (.dup, 1) := by decide +kernel
theorem dX7_addBox_12 : decode cX7_addBox 12 = .ok (.ldc 60, 2) := by decide +kernel
theorem dX7_addBox_14 : decode cX7_addBox 14 = .ok (.invokespecial 62, 3) := by decide +kernel
theorem dX7_addBox_17 : decode cX7_addBox 17 = .ok (.athrow, 1) := by decide +kernel
theorem dX7_addBox_18 : decode cX7_addBox 18 = .ok (.iload_n 2, 1) := by decide +kernel
theorem dX7_addBox_19 : decode cX7_addBox 19 = .ok (.invokestatic 65, 3) := by decide +kernel
theorem dX7_addBox_22 : decode cX7_addBox 22 = .ok (.ifCond .eq 10, 3) := by decide +kernel
theorem dX7_addBox_25 : decode cX7_addBox 25 = .ok (.iload_n 3, 1) := by decide +kernel
theorem dX7_addBox_26 : decode cX7_addBox 26 = .ok (.invokestatic 65, 3) := by decide +kernel
theorem dX7_addBox_29 : decode cX7_addBox 29 = .ok (.ifCond .ne 13, 3) := by decide +kernel
theorem dX7_addBox_32 : decode cX7_addBox 32 = .ok (.new 68, 3) := by decide +kernel
theorem dX7_addBox_35 : decode cX7_addBox 35 = .ok (.dup, 1) := by decide +kernel
theorem dX7_addBox_36 : decode cX7_addBox 36 = .ok (.ldc 70, 2) := by decide +kernel
theorem dX7_addBox_38 : decode cX7_addBox 38 = .ok (.invokespecial 72, 3) := by decide +kernel
theorem dX7_addBox_41 : decode cX7_addBox 41 = .ok (.athrow, 1) := by decide +kernel
theorem dX7_addBox_42 : decode cX7_addBox 42 = .ok (.aload_n 0, 1) := by decide +kernel
theorem dX7_addBox_43 : decode cX7_addBox 43 = .ok (.getfield 12, 3) := by decide +kernel
theorem dX7_addBox_46 : decode cX7_addBox 46 = .ok (.getfield 73, 3) := by decide +kernel
theorem dX7_addBox_49 : decode cX7_addBox 49 = .ok (.getfield 77, 3) := by decide +kernel
theorem dX7_addBox_52 : decode cX7_addBox 52 = .ok (.bipush 12, 2) := by decide +kernel
theorem dX7_addBox_54 : decode cX7_addBox 54 = .ok (.if_icmp .lt 13, 3) := by decide +kernel
theorem dX7_addBox_57 : decode cX7_addBox 57 = .ok (.new 82, 3) := by decide +kernel
theorem dX7_addBox_60 : decode cX7_addBox 60 = .ok (.dup, 1) := by decide +kernel
theorem dX7_addBox_61 : decode cX7_addBox 61 = .ok (.ldc 84, 2) := by decide +kernel
theorem dX7_addBox_63 : decode cX7_addBox 63 = .ok (.invokespecial 86, 3) := by decide +kernel
theorem dX7_addBox_66 : decode cX7_addBox 66 = .ok (.athrow, 1) := by decide +kernel
theorem dX7_addBox_67 : decode cX7_addBox 67 = .ok (.aload_n 0, 1) := by decide +kernel
theorem dX7_addBox_68 : decode cX7_addBox 68 = .ok (.getfield 35, 3) := by decide +kernel
theorem dX7_addBox_71 : decode cX7_addBox 71 = .ok (.aload_n 0, 1) := by decide +kernel
theorem dX7_addBox_72 : decode cX7_addBox 72 = .ok (.getfield 12, 3) := by decide +kernel
theorem dX7_addBox_75 : decode cX7_addBox 75 = .ok (.invokevirtual 87, 3) := by decide +kernel
theorem dX7_addBox_78 : decode cX7_addBox 78 = .ok (.aload_n 0, 1) := by decide +kernel
theorem dX7_addBox_79 : decode cX7_addBox 79 = .ok (.getfield 12, 3) := by decide +kernel
theorem dX7_addBox_82 : decode cX7_addBox 82 = .ok (.getfield 73, 3) := by decide +kernel
theorem dX7_addBox_85 : decode cX7_addBox 85 = .ok (.iload_n 1, 1) := by decide +kernel
theorem dX7_addBox_86 : decode cX7_addBox 86 = .ok (.iload_n 2, 1) := by decide +kernel
theorem dX7_addBox_87 : decode cX7_addBox 87 = .ok (.iload_n 3, 1) := by decide +kernel
theorem dX7_addBox_88 : decode cX7_addBox 88 = .ok (.iload 4, 2) := by decide +kernel
theorem dX7_addBox_90 : decode cX7_addBox 90 = .ok (.invokevirtual 91, 3) := by decide +kernel
theorem dX7_addBox_93 : decode cX7_addBox 93 = .ok (.aload_n 0, 1) := by decide +kernel
theorem dX7_addBox_94 : decode cX7_addBox 94 = .ok (.getfield 12, 3) := by decide +kernel
theorem dX7_addBox_97 : decode cX7_addBox 97 = .ok (.aload_n 0, 1) := by decide +kernel
theorem dX7_addBox_98 : decode cX7_addBox 98 = .ok (.getfield 19, 3) := by decide +kernel
theorem dX7_addBox_101 : decode cX7_addBox 101 = .ok (.invokestatic 95, 3) := by decide +kernel
theorem dX7_addBox_104 : decode cX7_addBox 104 = .ok (.pop, 1) := by decide +kernel
theorem dX7_addBox_105 : decode cX7_addBox 105 = .ok (.aload_n 0, 1) := by decide +kernel
theorem dX7_addBox_106 : decode cX7_addBox 106 = .ok (.getfield 12, 3) := by decide +kernel
theorem dX7_addBox_109 : decode cX7_addBox 109 = .ok (.getfield 73, 3) := by decide +kernel
theorem dX7_addBox_112 : decode cX7_addBox 112 = .ok (.getfield 77, 3) := by decide +kernel
theorem dX7_addBox_115 : decode cX7_addBox 115 = .ok (.iconst 1, 1) := by decide +kernel
theorem dX7_addBox_116 : decode cX7_addBox 116 = .ok (.isub, 1) := by decide +kernel
theorem dX7_addBox_117 : decode cX7_addBox 117 = .ok (.ireturn, 1) := by decide +kernel
theorem dX7_toggle_0 : decode cX7_toggle 0 = .ok (.aload_n 0, 1) := by decide +kernel
theorem dX7_toggle_1 : decode cX7_toggle 1 = .ok (.iload_n 1, 1) := by decide +kernel
theorem dX7_toggle_2 : decode cX7_toggle 2 = .ok (.invokevirtual 99, 3) := by decide +kernel
theorem dX7_toggle_5 : decode cX7_toggle 5 = .ok (.ifCond .ne 13, 3) := by decide +kernel
theorem dX7_toggle_8 : decode cX7_toggle 8 = .ok (.new 58, 3) := by decide +kernel
theorem dX7_toggle_11 : decode cX7_toggle 11 = .ok (.dup, 1) := by decide +kernel
theorem dX7_toggle_12 : decode cX7_toggle 12 = .ok (.ldc 102, 2) := by decide +kernel
theorem dX7_toggle_14 : decode cX7_toggle 14 = .ok (.invokespecial 62, 3) := by decide +kernel
theorem dX7_toggle_17 : decode cX7_toggle 17 = .ok (.athrow, 1) := by decide +kernel
theorem dX7_toggle_18 : decode cX7_toggle 18 = .ok (.aload_n 0, 1) := by decide +kernel
theorem dX7_toggle_19 : decode cX7_toggle 19 = .ok (.getfield 35, 3) := by decide +kernel
theorem dX7_toggle_22 : decode cX7_toggle 22 = .ok (.aload_n 0, 1) := by decide +kernel
theorem dX7_toggle_23 : decode cX7_toggle 23 = .ok (.getfield 12, 3) := by decide +kernel
theorem dX7_toggle_26 : decode cX7_toggle 26 = .ok (.invokevirtual 87, 3) := by decide +kernel
theorem dX7_toggle_29 : decode cX7_toggle 29 = .ok (.aload_n 0, 1) := by decide +kernel
theorem dX7_toggle_30 : decode cX7_toggle 30 = .ok (.getfield 12, 3) := by decide +kernel
theorem dX7_toggle_33 : decode cX7_toggle 33 = .ok (.getfield 73, 3) := by decide +kernel
theorem dX7_toggle_36 : decode cX7_toggle 36 = .ok (.getfield 104, 3) := by decide +kernel
theorem dX7_toggle_39 : decode cX7_toggle 39 = .ok (.iload_n 1, 1) := by decide +kernel
theorem dX7_toggle_40 : decode cX7_toggle 40 = .ok (.aload_n 0, 1) := by decide +kernel
theorem dX7_toggle_41 : decode cX7_toggle 41 = .ok (.getfield 12, 3) := by decide +kernel
theorem dX7_toggle_44 : decode cX7_toggle 44 = .ok (.getfield 73, 3) := by decide +kernel
theorem dX7_toggle_47 : decode cX7_toggle 47 = .ok (.getfield 104, 3) := by decide +kernel
theorem dX7_toggle_50 : decode cX7_toggle 50 = .ok (.iload_n 1, 1) := by decide +kernel
theorem dX7_toggle_51 : decode cX7_toggle 51 = .ok (.baload, 1) := by decide +kernel
theorem dX7_toggle_52 : decode cX7_toggle 52 = .ok (.ifCond .ne 7, 3) := by decide +kernel
theorem dX7_toggle_55 : decode cX7_toggle 55 = .ok (.iconst 1, 1) := by decide +kernel
theorem dX7_toggle_56 : decode cX7_toggle 56 = .ok (.goto 4, 3) := by decide +kernel
theorem dX7_toggle_59 : decode cX7_toggle 59 = .ok (.iconst 0, 1) := by decide +kernel
theorem dX7_toggle_60 : decode cX7_toggle 60 = .ok (.bastore, 1) := by decide +kernel
theorem dX7_toggle_61 : decode cX7_toggle 61 = .ok (.aload_n 0, 1) := by decide +kernel
theorem dX7_toggle_62 : decode cX7_toggle 62 = .ok (.getfield 12, 3) := by decide +kernel
theorem dX7_toggle_65 : decode cX7_toggle 65 = .ok (.aload_n 0, 1) := by decide +kernel
theorem dX7_toggle_66 : decode cX7_toggle 66 = .ok (.getfield 19, 3) := by decide +kernel
theorem dX7_toggle_69 : decode cX7_toggle 69 = .ok (.invokestatic 95, 3) := by decide +kernel
theorem dX7_toggle_72 : decode cX7_toggle 72 = .ok (.pop, 1) := by decide +kernel
theorem dX7_toggle_73 : decode cX7_toggle 73 = .ok (.aload_n 0, 1) := by decide +kernel
theorem dX7_toggle_74 : decode cX7_toggle 74 = .ok (.getfield 12, 3) := by decide +kernel
theorem dX7_toggle_77 : decode cX7_toggle 77 = .ok (.getfield 73, 3) := by decide +kernel
theorem dX7_toggle_80 : decode cX7_toggle 80 = .ok (.getfield 104, 3) := by decide +kernel
theorem dX7_toggle_83 : decode cX7_toggle 83 = .ok (.iload_n 1, 1) := by decide +kernel
theorem dX7_toggle_84 : decode cX7_toggle 84 = .ok (.baload, 1) := by decide +kernel
theorem dX7_toggle_85 : decode cX7_toggle 85 = .ok (.invokestatic 108, 3) := by decide +kernel
theorem dX7_toggle_88 : decode cX7_toggle 88 = .ok (.ireturn, 1) := by decide +kernel
theorem dX7_cross_0 : decode cX7_cross 0 = .ok (.aload_n 0, 1) := by decide +kernel
theorem dX7_cross_1 : decode cX7_cross 1 = .ok (.iload_n 1, 1) := by decide +kernel
theorem dX7_cross_2 : decode cX7_cross 2 = .ok (.invokevirtual 99, 3) := by decide +kernel
theorem dX7_cross_5 : decode cX7_cross 5 = .ok (.ifCond .ne 13, 3) := by decide +kernel
theorem dX7_cross_8 : decode cX7_cross 8 = .ok (.new 58, 3) := by decide +kernel
theorem dX7_cross_11 : decode cX7_cross 11 = .ok (.dup, 1) := by decide +kernel
theorem dX7_cross_12 : decode cX7_cross 12 = .ok (.ldc 102, 2) := by decide +kernel
theorem dX7_cross_14 : decode cX7_cross 14 = .ok (.invokespecial 62, 3) := by decide +kernel
theorem dX7_cross_17 : decode cX7_cross 17 = .ok (.athrow, 1) := by decide +kernel
theorem dX7_cross_18 : decode cX7_cross 18 = .ok (.aload_n 0, 1) := by decide +kernel
theorem dX7_cross_19 : decode cX7_cross 19 = .ok (.getfield 35, 3) := by decide +kernel
theorem dX7_cross_22 : decode cX7_cross 22 = .ok (.aload_n 0, 1) := by decide +kernel
theorem dX7_cross_23 : decode cX7_cross 23 = .ok (.getfield 12, 3) := by decide +kernel
theorem dX7_cross_26 : decode cX7_cross 26 = .ok (.invokevirtual 87, 3) := by decide +kernel
theorem dX7_cross_29 : decode cX7_cross 29 = .ok (.aload_n 0, 1) := by decide +kernel
theorem dX7_cross_30 : decode cX7_cross 30 = .ok (.getfield 12, 3) := by decide +kernel
theorem dX7_cross_33 : decode cX7_cross 33 = .ok (.getfield 73, 3) := by decide +kernel
theorem dX7_cross_36 : decode cX7_cross 36 = .ok (.getfield 112, 3) := by decide +kernel
theorem dX7_cross_39 : decode cX7_cross 39 = .ok (.iload_n 1, 1) := by decide +kernel
theorem dX7_cross_40 : decode cX7_cross 40 = .ok (.aload_n 0, 1) := by decide +kernel
theorem dX7_cross_41 : decode cX7_cross 41 = .ok (.getfield 12, 3) := by decide +kernel
theorem dX7_cross_44 : decode cX7_cross 44 = .ok (.getfield 73, 3) := by decide +kernel
theorem dX7_cross_47 : decode cX7_cross 47 = .ok (.getfield 112, 3) := by decide +kernel
theorem dX7_cross_50 : decode cX7_cross 50 = .ok (.iload_n 1, 1) := by decide +kernel
theorem dX7_cross_51 : decode cX7_cross 51 = .ok (.baload, 1) := by decide +kernel
theorem dX7_cross_52 : decode cX7_cross 52 = .ok (.ifCond .ne 7, 3) := by decide +kernel
theorem dX7_cross_55 : decode cX7_cross 55 = .ok (.iconst 1, 1) := by decide +kernel
theorem dX7_cross_56 : decode cX7_cross 56 = .ok (.goto 4, 3) := by decide +kernel
theorem dX7_cross_59 : decode cX7_cross 59 = .ok (.iconst 0, 1) := by decide +kernel
theorem dX7_cross_60 : decode cX7_cross 60 = .ok (.bastore, 1) := by decide +kernel
theorem dX7_cross_61 : decode cX7_cross 61 = .ok (.aload_n 0, 1) := by decide +kernel
theorem dX7_cross_62 : decode cX7_cross 62 = .ok (.getfield 12, 3) := by decide +kernel
theorem dX7_cross_65 : decode cX7_cross 65 = .ok (.aload_n 0, 1) := by decide +kernel
theorem dX7_cross_66 : decode cX7_cross 66 = .ok (.getfield 19, 3) := by decide +kernel
theorem dX7_cross_69 : decode cX7_cross 69 = .ok (.invokestatic 95, 3) := by decide +kernel
theorem dX7_cross_72 : decode cX7_cross 72 = .ok (.pop, 1) := by decide +kernel
theorem dX7_cross_73 : decode cX7_cross 73 = .ok (.aload_n 0, 1) := by decide +kernel
theorem dX7_cross_74 : decode cX7_cross 74 = .ok (.getfield 19, 3) := by decide +kernel
theorem dX7_cross_77 : decode cX7_cross 77 = .ok (.getfield 115, 3) := by decide +kernel
theorem dX7_cross_80 : decode cX7_cross 80 = .ok (.ireturn, 1) := by decide +kernel
theorem dX7_replace_0 : decode cX7_replace 0 = .ok (.aload_n 0, 1) := by decide +kernel
theorem dX7_replace_1 : decode cX7_replace 1 = .ok (.iload_n 1, 1) := by decide +kernel
theorem dX7_replace_2 : decode cX7_replace 2 = .ok (.invokevirtual 99, 3) := by decide +kernel
theorem dX7_replace_5 : decode cX7_replace 5 = .ok (.ifCond .eq 10, 3) := by decide +kernel
theorem dX7_replace_8 : decode cX7_replace 8 = .ok (.iload_n 2, 1) := by decide +kernel
theorem dX7_replace_9 : decode cX7_replace 9 = .ok (.invokestatic 118, 3) := by decide +kernel
theorem dX7_replace_12 : decode cX7_replace 12 = .ok (.ifCond .ne 13, 3) := by decide +kernel
theorem dX7_replace_15 : decode cX7_replace 15 = .ok (.new 58, 3) := by decide +kernel
theorem dX7_replace_18 : decode cX7_replace 18 = .ok (.dup, 1) := by decide +kernel
theorem dX7_replace_19 : decode cX7_replace 19 = .ok (.ldc 121, 2) := by decide +kernel
theorem dX7_replace_21 : decode cX7_replace 21 = .ok (.invokespecial 62, 3) := by decide +kernel
theorem dX7_replace_24 : decode cX7_replace 24 = .ok (.athrow, 1) := by decide +kernel
theorem dX7_replace_25 : decode cX7_replace 25 = .ok (.iload_n 3, 1) := by decide +kernel
theorem dX7_replace_26 : decode cX7_replace 26 = .ok (.invokestatic 65, 3) := by decide +kernel
theorem dX7_replace_29 : decode cX7_replace 29 = .ok (.ifCond .ne 13, 3) := by decide +kernel
theorem dX7_replace_32 : decode cX7_replace 32 = .ok (.new 68, 3) := by decide +kernel
theorem dX7_replace_35 : decode cX7_replace 35 = .ok (.dup, 1) := by decide +kernel
theorem dX7_replace_36 : decode cX7_replace 36 = .ok (.ldc 70, 2) := by decide +kernel
theorem dX7_replace_38 : decode cX7_replace 38 = .ok (.invokespecial 72, 3) := by decide +kernel
theorem dX7_replace_41 : decode cX7_replace 41 = .ok (.athrow, 1) := by decide +kernel
theorem dX7_replace_42 : decode cX7_replace 42 = .ok (.aload_n 0, 1) := by decide +kernel
theorem dX7_replace_43 : decode cX7_replace 43 = .ok (.getfield 12, 3) := by decide +kernel
theorem dX7_replace_46 : decode cX7_replace 46 = .ok (.getfield 123, 3) := by decide +kernel
theorem dX7_replace_49 : decode cX7_replace 49 = .ok (.ifCond .gt 13, 3) := by decide +kernel
theorem dX7_replace_52 : decode cX7_replace 52 = .ok (.new 82, 3) := by decide +kernel
theorem dX7_replace_55 : decode cX7_replace 55 = .ok (.dup, 1) := by decide +kernel
theorem dX7_replace_56 : decode cX7_replace 56 = .ok (.ldc 126, 2) := by decide +kernel
theorem dX7_replace_58 : decode cX7_replace 58 = .ok (.invokespecial 86, 3) := by decide +kernel
theorem dX7_replace_61 : decode cX7_replace 61 = .ok (.athrow, 1) := by decide +kernel
theorem dX7_replace_62 : decode cX7_replace 62 = .ok (.aload_n 0, 1) := by decide +kernel
theorem dX7_replace_63 : decode cX7_replace 63 = .ok (.getfield 35, 3) := by decide +kernel
theorem dX7_replace_66 : decode cX7_replace 66 = .ok (.aload_n 0, 1) := by decide +kernel
theorem dX7_replace_67 : decode cX7_replace 67 = .ok (.getfield 12, 3) := by decide +kernel
theorem dX7_replace_70 : decode cX7_replace 70 = .ok (.invokevirtual 87, 3) := by decide +kernel
theorem dX7_replace_73 : decode cX7_replace 73 = .ok (.iconst 2, 1) := by decide +kernel
theorem dX7_replace_74 : decode cX7_replace 74 = .ok (.iload_n 1, 1) := by decide +kernel
theorem dX7_replace_75 : decode cX7_replace 75 = .ok (.imul, 1) := by decide +kernel
theorem dX7_replace_76 : decode cX7_replace 76 = .ok (.iload_n 2, 1) := by decide +kernel
theorem dX7_replace_77 : decode cX7_replace 77 = .ok (.iadd, 1) := by decide +kernel
theorem dX7_replace_78 : decode cX7_replace 78 = .ok (.istore 4, 2) := by decide +kernel
theorem dX7_replace_80 : decode cX7_replace 80 = .ok (.aload_n 0, 1) := by decide +kernel
theorem dX7_replace_81 : decode cX7_replace 81 = .ok (.getfield 12, 3) := by decide +kernel
theorem dX7_replace_84 : decode cX7_replace 84 = .ok (.dup, 1) := by decide +kernel
theorem dX7_replace_85 : decode cX7_replace 85 = .ok (.getfield 123, 3) := by decide +kernel
theorem dX7_replace_88 : decode cX7_replace 88 = .ok (.iconst 1, 1) := by decide +kernel
theorem dX7_replace_89 : decode cX7_replace 89 = .ok (.isub, 1) := by decide +kernel
theorem dX7_replace_90 : decode cX7_replace 90 = .ok (.putfield 123, 3) := by decide +kernel
theorem dX7_replace_93 : decode cX7_replace 93 = .ok (.aload_n 0, 1) := by decide +kernel
theorem dX7_replace_94 : decode cX7_replace 94 = .ok (.getfield 12, 3) := by decide +kernel
theorem dX7_replace_97 : decode cX7_replace 97 = .ok (.getfield 73, 3) := by decide +kernel
theorem dX7_replace_100 : decode cX7_replace 100 = .ok (.getfield 128, 3) := by decide +kernel
theorem dX7_replace_103 : decode cX7_replace 103 = .ok (.iload 4, 2) := by decide +kernel
theorem dX7_replace_105 : decode cX7_replace 105 = .ok (.iload_n 3, 1) := by decide +kernel
theorem dX7_replace_106 : decode cX7_replace 106 = .ok (.iastore, 1) := by decide +kernel
theorem dX7_replace_107 : decode cX7_replace 107 = .ok (.aload_n 0, 1) := by decide +kernel
theorem dX7_replace_108 : decode cX7_replace 108 = .ok (.getfield 12, 3) := by decide +kernel
theorem dX7_replace_111 : decode cX7_replace 111 = .ok (.getfield 73, 3) := by decide +kernel
theorem dX7_replace_114 : decode cX7_replace 114 = .ok (.getfield 131, 3) := by decide +kernel
theorem dX7_replace_117 : decode cX7_replace 117 = .ok (.iload 4, 2) := by decide +kernel
theorem dX7_replace_119 : decode cX7_replace 119 = .ok (.iconst 0, 1) := by decide +kernel
theorem dX7_replace_120 : decode cX7_replace 120 = .ok (.bastore, 1) := by decide +kernel
theorem dX7_replace_121 : decode cX7_replace 121 = .ok (.aload_n 0, 1) := by decide +kernel
theorem dX7_replace_122 : decode cX7_replace 122 = .ok (.getfield 12, 3) := by decide +kernel
theorem dX7_replace_125 : decode cX7_replace 125 = .ok (.aload_n 0, 1) := by decide +kernel
theorem dX7_replace_126 : decode cX7_replace 126 = .ok (.getfield 19, 3) := by decide +kernel
theorem dX7_replace_129 : decode cX7_replace 129 = .ok (.invokestatic 95, 3) := by decide +kernel
theorem dX7_replace_132 : decode cX7_replace 132 = .ok (.pop, 1) := by decide +kernel
theorem dX7_replace_133 : decode cX7_replace 133 = .ok (.aload_n 0, 1) := by decide +kernel
theorem dX7_replace_134 : decode cX7_replace 134 = .ok (.getfield 12, 3) := by decide +kernel
theorem dX7_replace_137 : decode cX7_replace 137 = .ok (.getfield 73, 3) := by decide +kernel
theorem dX7_replace_140 : decode cX7_replace 140 = .ok (.getfield 131, 3) := by decide +kernel
theorem dX7_replace_143 : decode cX7_replace 143 = .ok (.iload 4, 2) := by decide +kernel
theorem dX7_replace_145 : decode cX7_replace 145 = .ok (.baload, 1) := by decide +kernel
theorem dX7_replace_146 : decode cX7_replace 146 = .ok (.ifCond .ne 7, 3) := by decide +kernel
theorem dX7_replace_149 : decode cX7_replace 149 = .ok (.iconst 1, 1) := by decide +kernel
theorem dX7_replace_150 : decode cX7_replace 150 = .ok (.goto 4, 3) := by decide +kernel
theorem dX7_replace_153 : decode cX7_replace 153 = .ok (.iconst 0, 1) := by decide +kernel
theorem dX7_replace_154 : decode cX7_replace 154 = .ok (.invokestatic 108, 3) := by decide +kernel
theorem dX7_replace_157 : decode cX7_replace 157 = .ok (.ireturn, 1) := by decide +kernel
theorem dX7_buyFuses_0 : decode cX7_buyFuses 0 = .ok (.iload_n 1, 1) := by decide +kernel
theorem dX7_buyFuses_1 : decode cX7_buyFuses 1 = .ok (.iconst 1, 1) := by decide +kernel
theorem dX7_buyFuses_2 : decode cX7_buyFuses 2 = .ok (.if_icmp .lt 9, 3) := by decide +kernel
theorem dX7_buyFuses_5 : decode cX7_buyFuses 5 = .ok (.iload_n 1, 1) := by decide +kernel
theorem dX7_buyFuses_6 : decode cX7_buyFuses 6 = .ok (.bipush 20, 2) := by decide +kernel
theorem dX7_buyFuses_8 : decode cX7_buyFuses 8 = .ok (.if_icmp .le 13, 3) := by decide +kernel
theorem dX7_buyFuses_11 : decode cX7_buyFuses 11 = .ok (.new 68, 3) := by decide +kernel
theorem dX7_buyFuses_14 : decode cX7_buyFuses 14 = .ok (.dup, 1) := by decide +kernel
theorem dX7_buyFuses_15 : decode cX7_buyFuses 15 = .ok (.ldc 134, 2) := by decide +kernel
theorem dX7_buyFuses_17 : decode cX7_buyFuses 17 = .ok (.invokespecial 72, 3) := by decide +kernel
theorem dX7_buyFuses_20 : decode cX7_buyFuses 20 = .ok (.athrow, 1) := by decide +kernel
theorem dX7_buyFuses_21 : decode cX7_buyFuses 21 = .ok (.aload_n 0, 1) := by decide +kernel
theorem dX7_buyFuses_22 : decode cX7_buyFuses 22 = .ok (.getfield 12, 3) := by decide +kernel
theorem dX7_buyFuses_25 : decode cX7_buyFuses 25 = .ok (.getfield 123, 3) := by decide +kernel
theorem dX7_buyFuses_28 : decode cX7_buyFuses 28 = .ok (.iload_n 1, 1) := by decide +kernel
theorem dX7_buyFuses_29 : decode cX7_buyFuses 29 = .ok (.iadd, 1) := by decide +kernel
theorem dX7_buyFuses_30 : decode cX7_buyFuses 30 = .ok (.bipush 50, 2) := by decide +kernel
theorem dX7_buyFuses_32 : decode cX7_buyFuses 32 = .ok (.if_icmp .le 13, 3) := by decide +kernel
theorem dX7_buyFuses_35 : decode cX7_buyFuses 35 = .ok (.new 82, 3) := by decide +kernel
theorem dX7_buyFuses_38 : decode cX7_buyFuses 38 = .ok (.dup, 1) := by decide +kernel
theorem dX7_buyFuses_39 : decode cX7_buyFuses 39 = .ok (.ldc 136, 2) := by decide +kernel
theorem dX7_buyFuses_41 : decode cX7_buyFuses 41 = .ok (.invokespecial 86, 3) := by decide +kernel
theorem dX7_buyFuses_44 : decode cX7_buyFuses 44 = .ok (.athrow, 1) := by decide +kernel
theorem dX7_buyFuses_45 : decode cX7_buyFuses 45 = .ok (.aload_n 0, 1) := by decide +kernel
theorem dX7_buyFuses_46 : decode cX7_buyFuses 46 = .ok (.getfield 35, 3) := by decide +kernel
theorem dX7_buyFuses_49 : decode cX7_buyFuses 49 = .ok (.aload_n 0, 1) := by decide +kernel
theorem dX7_buyFuses_50 : decode cX7_buyFuses 50 = .ok (.getfield 12, 3) := by decide +kernel
theorem dX7_buyFuses_53 : decode cX7_buyFuses 53 = .ok (.invokevirtual 87, 3) := by decide +kernel
theorem dX7_buyFuses_56 : decode cX7_buyFuses 56 = .ok (.aload_n 0, 1) := by decide +kernel
theorem dX7_buyFuses_57 : decode cX7_buyFuses 57 = .ok (.getfield 12, 3) := by decide +kernel
theorem dX7_buyFuses_60 : decode cX7_buyFuses 60 = .ok (.dup, 1) := by decide +kernel
theorem dX7_buyFuses_61 : decode cX7_buyFuses 61 = .ok (.getfield 123, 3) := by decide +kernel
theorem dX7_buyFuses_64 : decode cX7_buyFuses 64 = .ok (.iload_n 1, 1) := by decide +kernel
theorem dX7_buyFuses_65 : decode cX7_buyFuses 65 = .ok (.iadd, 1) := by decide +kernel
theorem dX7_buyFuses_66 : decode cX7_buyFuses 66 = .ok (.putfield 123, 3) := by decide +kernel
theorem dX7_buyFuses_69 : decode cX7_buyFuses 69 = .ok (.aload_n 0, 1) := by decide +kernel
theorem dX7_buyFuses_70 : decode cX7_buyFuses 70 = .ok (.getfield 12, 3) := by decide +kernel
theorem dX7_buyFuses_73 : decode cX7_buyFuses 73 = .ok (.getfield 123, 3) := by decide +kernel
theorem dX7_buyFuses_76 : decode cX7_buyFuses 76 = .ok (.ireturn, 1) := by decide +kernel
theorem dX7_hang_0 : decode cX7_hang 0 = .ok (.aload_n 0, 1) := by decide +kernel
theorem dX7_hang_1 : decode cX7_hang 1 = .ok (.iload_n 1, 1) := by decide +kernel
theorem dX7_hang_2 : decode cX7_hang 2 = .ok (.invokevirtual 54, 3) := by decide +kernel
theorem dX7_hang_5 : decode cX7_hang 5 = .ok (.ifCond .ne 13, 3) := by decide +kernel
theorem dX7_hang_8 : decode cX7_hang 8 = .ok (.new 58, 3) := by decide +kernel
theorem dX7_hang_11 : decode cX7_hang 11 = .ok (.dup, 1) := by decide +kernel
theorem dX7_hang_12 : decode cX7_hang 12 = .ok (.ldc 138, 2) := by decide +kernel
theorem dX7_hang_14 : decode cX7_hang 14 = .ok (.invokespecial 62, 3) := by decide +kernel
theorem dX7_hang_17 : decode cX7_hang 17 = .ok (.athrow, 1) := by decide +kernel
theorem dX7_hang_18 : decode cX7_hang 18 = .ok (.iload_n 2, 1) := by decide +kernel
theorem dX7_hang_19 : decode cX7_hang 19 = .ok (.iconst 1, 1) := by decide +kernel
theorem dX7_hang_20 : decode cX7_hang 20 = .ok (.if_icmp .lt 9, 3) := by decide +kernel
theorem dX7_hang_23 : decode cX7_hang 23 = .ok (.iload_n 2, 1) := by decide +kernel
theorem dX7_hang_24 : decode cX7_hang 24 = .ok (.bipush 9, 2) := by decide +kernel
theorem dX7_hang_26 : decode cX7_hang 26 = .ok (.if_icmp .le 13, 3) := by decide +kernel
theorem dX7_hang_29 : decode cX7_hang 29 = .ok (.new 68, 3) := by decide +kernel
theorem dX7_hang_32 : decode cX7_hang 32 = .ok (.dup, 1) := by decide +kernel
theorem dX7_hang_33 : decode cX7_hang 33 = .ok (.ldc 140, 2) := by decide +kernel
theorem dX7_hang_35 : decode cX7_hang 35 = .ok (.invokespecial 72, 3) := by decide +kernel
theorem dX7_hang_38 : decode cX7_hang 38 = .ok (.athrow, 1) := by decide +kernel
theorem dX7_hang_39 : decode cX7_hang 39 = .ok (.aload_n 0, 1) := by decide +kernel
theorem dX7_hang_40 : decode cX7_hang 40 = .ok (.getfield 12, 3) := by decide +kernel
theorem dX7_hang_43 : decode cX7_hang 43 = .ok (.getfield 142, 3) := by decide +kernel
theorem dX7_hang_46 : decode cX7_hang 46 = .ok (.getfield 146, 3) := by decide +kernel
theorem dX7_hang_49 : decode cX7_hang 49 = .ok (.bipush 16, 2) := by decide +kernel
theorem dX7_hang_51 : decode cX7_hang 51 = .ok (.if_icmp .lt 13, 3) := by decide +kernel
theorem dX7_hang_54 : decode cX7_hang 54 = .ok (.new 82, 3) := by decide +kernel
theorem dX7_hang_57 : decode cX7_hang 57 = .ok (.dup, 1) := by decide +kernel
theorem dX7_hang_58 : decode cX7_hang 58 = .ok (.ldc 151, 2) := by decide +kernel
theorem dX7_hang_60 : decode cX7_hang 60 = .ok (.invokespecial 86, 3) := by decide +kernel
theorem dX7_hang_63 : decode cX7_hang 63 = .ok (.athrow, 1) := by decide +kernel
theorem dX7_hang_64 : decode cX7_hang 64 = .ok (.aload_n 0, 1) := by decide +kernel
theorem dX7_hang_65 : decode cX7_hang 65 = .ok (.getfield 35, 3) := by decide +kernel
theorem dX7_hang_68 : decode cX7_hang 68 = .ok (.aload_n 0, 1) := by decide +kernel
theorem dX7_hang_69 : decode cX7_hang 69 = .ok (.getfield 12, 3) := by decide +kernel
theorem dX7_hang_72 : decode cX7_hang 72 = .ok (.invokevirtual 87, 3) := by decide +kernel
theorem dX7_hang_75 : decode cX7_hang 75 = .ok (.aload_n 0, 1) := by decide +kernel
theorem dX7_hang_76 : decode cX7_hang 76 = .ok (.getfield 12, 3) := by decide +kernel
theorem dX7_hang_79 : decode cX7_hang 79 = .ok (.getfield 142, 3) := by decide +kernel
theorem dX7_hang_82 : decode cX7_hang 82 = .ok (.iload_n 1, 1) := by decide +kernel
theorem dX7_hang_83 : decode cX7_hang 83 = .ok (.iload_n 2, 1) := by decide +kernel
theorem dX7_hang_84 : decode cX7_hang 84 = .ok (.iload_n 3, 1) := by decide +kernel
theorem dX7_hang_85 : decode cX7_hang 85 = .ok (.invokevirtual 153, 3) := by decide +kernel
theorem dX7_hang_88 : decode cX7_hang 88 = .ok (.aload_n 0, 1) := by decide +kernel
theorem dX7_hang_89 : decode cX7_hang 89 = .ok (.getfield 12, 3) := by decide +kernel
theorem dX7_hang_92 : decode cX7_hang 92 = .ok (.aload_n 0, 1) := by decide +kernel
theorem dX7_hang_93 : decode cX7_hang 93 = .ok (.getfield 19, 3) := by decide +kernel
theorem dX7_hang_96 : decode cX7_hang 96 = .ok (.invokestatic 95, 3) := by decide +kernel
theorem dX7_hang_99 : decode cX7_hang 99 = .ok (.pop, 1) := by decide +kernel
theorem dX7_hang_100 : decode cX7_hang 100 = .ok (.aload_n 0, 1) := by decide +kernel
theorem dX7_hang_101 : decode cX7_hang 101 = .ok (.getfield 12, 3) := by decide +kernel
theorem dX7_hang_104 : decode cX7_hang 104 = .ok (.getfield 142, 3) := by decide +kernel
theorem dX7_hang_107 : decode cX7_hang 107 = .ok (.getfield 146, 3) := by decide +kernel
theorem dX7_hang_110 : decode cX7_hang 110 = .ok (.iconst 1, 1) := by decide +kernel
theorem dX7_hang_111 : decode cX7_hang 111 = .ok (.isub, 1) := by decide +kernel
theorem dX7_hang_112 : decode cX7_hang 112 = .ok (.ireturn, 1) := by decide +kernel
theorem dX7_takeDown_0 : decode cX7_takeDown 0 = .ok (.aload_n 0, 1) := by decide +kernel
theorem dX7_takeDown_1 : decode cX7_takeDown 1 = .ok (.iload_n 1, 1) := by decide +kernel
theorem dX7_takeDown_2 : decode cX7_takeDown 2 = .ok (.invokevirtual 156, 3) := by decide +kernel
theorem dX7_takeDown_5 : decode cX7_takeDown 5 = .ok (.ifCond .ne 13, 3) := by decide +kernel
theorem dX7_takeDown_8 : decode cX7_takeDown 8 = .ok (.new 58, 3) := by decide +kernel
theorem dX7_takeDown_11 : decode cX7_takeDown 11 = .ok (.dup, 1) := by decide +kernel
theorem dX7_takeDown_12 : decode cX7_takeDown 12 = .ok (.ldc 159, 2) := by decide +kernel
theorem dX7_takeDown_14 : decode cX7_takeDown 14 = .ok (.invokespecial 62, 3) := by decide +kernel
theorem dX7_takeDown_17 : decode cX7_takeDown 17 = .ok (.athrow, 1) := by decide +kernel
theorem dX7_takeDown_18 : decode cX7_takeDown 18 = .ok (.aload_n 0, 1) := by decide +kernel
theorem dX7_takeDown_19 : decode cX7_takeDown 19 = .ok (.getfield 35, 3) := by decide +kernel
theorem dX7_takeDown_22 : decode cX7_takeDown 22 = .ok (.aload_n 0, 1) := by decide +kernel
theorem dX7_takeDown_23 : decode cX7_takeDown 23 = .ok (.getfield 12, 3) := by decide +kernel
theorem dX7_takeDown_26 : decode cX7_takeDown 26 = .ok (.invokevirtual 87, 3) := by decide +kernel
theorem dX7_takeDown_29 : decode cX7_takeDown 29 = .ok (.aload_n 0, 1) := by decide +kernel
theorem dX7_takeDown_30 : decode cX7_takeDown 30 = .ok (.getfield 19, 3) := by decide +kernel
theorem dX7_takeDown_33 : decode cX7_takeDown 33 = .ok (.getfield 161, 3) := by decide +kernel
theorem dX7_takeDown_36 : decode cX7_takeDown 36 = .ok (.iload_n 1, 1) := by decide +kernel
theorem dX7_takeDown_37 : decode cX7_takeDown 37 = .ok (.baload, 1) := by decide +kernel
theorem dX7_takeDown_38 : decode cX7_takeDown 38 = .ok (.invokestatic 108, 3) := by decide +kernel
theorem dX7_takeDown_41 : decode cX7_takeDown 41 = .ok (.istore_n 2, 1) := by decide +kernel
theorem dX7_takeDown_42 : decode cX7_takeDown 42 = .ok (.aload_n 0, 1) := by decide +kernel
theorem dX7_takeDown_43 : decode cX7_takeDown 43 = .ok (.getfield 12, 3) := by decide +kernel
theorem dX7_takeDown_46 : decode cX7_takeDown 46 = .ok (.getfield 142, 3) := by decide +kernel
theorem dX7_takeDown_49 : decode cX7_takeDown 49 = .ok (.iload_n 1, 1) := by decide +kernel
theorem dX7_takeDown_50 : decode cX7_takeDown 50 = .ok (.invokevirtual 164, 3) := by decide +kernel
theorem dX7_takeDown_53 : decode cX7_takeDown 53 = .ok (.aload_n 0, 1) := by decide +kernel
theorem dX7_takeDown_54 : decode cX7_takeDown 54 = .ok (.getfield 12, 3) := by decide +kernel
theorem dX7_takeDown_57 : decode cX7_takeDown 57 = .ok (.aload_n 0, 1) := by decide +kernel
theorem dX7_takeDown_58 : decode cX7_takeDown 58 = .ok (.getfield 19, 3) := by decide +kernel
theorem dX7_takeDown_61 : decode cX7_takeDown 61 = .ok (.invokestatic 95, 3) := by decide +kernel
theorem dX7_takeDown_64 : decode cX7_takeDown 64 = .ok (.pop, 1) := by decide +kernel
theorem dX7_takeDown_65 : decode cX7_takeDown 65 = .ok (.iload_n 2, 1) := by decide +kernel
theorem dX7_takeDown_66 : decode cX7_takeDown 66 = .ok (.ireturn, 1) := by decide +kernel
theorem dX7_fault_0 : decode cX7_fault 0 = .ok (.aload_n 0, 1) := by decide +kernel
theorem dX7_fault_1 : decode cX7_fault 1 = .ok (.iload_n 1, 1) := by decide +kernel
theorem dX7_fault_2 : decode cX7_fault 2 = .ok (.invokevirtual 54, 3) := by decide +kernel
theorem dX7_fault_5 : decode cX7_fault 5 = .ok (.ifCond .eq 10, 3) := by decide +kernel
theorem dX7_fault_8 : decode cX7_fault 8 = .ok (.iload_n 2, 1) := by decide +kernel
theorem dX7_fault_9 : decode cX7_fault 9 = .ok (.invokestatic 118, 3) := by decide +kernel
theorem dX7_fault_12 : decode cX7_fault 12 = .ok (.ifCond .ne 13, 3) := by decide +kernel
theorem dX7_fault_15 : decode cX7_fault 15 = .ok (.new 58, 3) := by decide +kernel
theorem dX7_fault_18 : decode cX7_fault 18 = .ok (.dup, 1) := by decide +kernel
theorem dX7_fault_19 : decode cX7_fault 19 = .ok (.ldc 168, 2) := by decide +kernel
theorem dX7_fault_21 : decode cX7_fault 21 = .ok (.invokespecial 62, 3) := by decide +kernel
theorem dX7_fault_24 : decode cX7_fault 24 = .ok (.athrow, 1) := by decide +kernel
theorem dX7_fault_25 : decode cX7_fault 25 = .ok (.iload_n 3, 1) := by decide +kernel
theorem dX7_fault_26 : decode cX7_fault 26 = .ok (.invokestatic 170, 3) := by decide +kernel
theorem dX7_fault_29 : decode cX7_fault 29 = .ok (.ifCond .ne 13, 3) := by decide +kernel
theorem dX7_fault_32 : decode cX7_fault 32 = .ok (.new 68, 3) := by decide +kernel
theorem dX7_fault_35 : decode cX7_fault 35 = .ok (.dup, 1) := by decide +kernel
theorem dX7_fault_36 : decode cX7_fault 36 = .ok (.ldc 173, 2) := by decide +kernel
theorem dX7_fault_38 : decode cX7_fault 38 = .ok (.invokespecial 72, 3) := by decide +kernel
theorem dX7_fault_41 : decode cX7_fault 41 = .ok (.athrow, 1) := by decide +kernel
theorem dX7_fault_42 : decode cX7_fault 42 = .ok (.aload_n 0, 1) := by decide +kernel
theorem dX7_fault_43 : decode cX7_fault 43 = .ok (.getfield 12, 3) := by decide +kernel
theorem dX7_fault_46 : decode cX7_fault 46 = .ok (.getfield 175, 3) := by decide +kernel
theorem dX7_fault_49 : decode cX7_fault 49 = .ok (.getfield 179, 3) := by decide +kernel
theorem dX7_fault_52 : decode cX7_fault 52 = .ok (.bipush 8, 2) := by decide +kernel
theorem dX7_fault_54 : decode cX7_fault 54 = .ok (.if_icmp .lt 13, 3) := by decide +kernel
theorem dX7_fault_57 : decode cX7_fault 57 = .ok (.new 82, 3) := by decide +kernel
theorem dX7_fault_60 : decode cX7_fault 60 = .ok (.dup, 1) := by decide +kernel
theorem dX7_fault_61 : decode cX7_fault 61 = .ok (.ldc 182, 2) := by decide +kernel
theorem dX7_fault_63 : decode cX7_fault 63 = .ok (.invokespecial 86, 3) := by decide +kernel
theorem dX7_fault_66 : decode cX7_fault 66 = .ok (.athrow, 1) := by decide +kernel
theorem dX7_fault_67 : decode cX7_fault 67 = .ok (.aload_n 0, 1) := by decide +kernel
theorem dX7_fault_68 : decode cX7_fault 68 = .ok (.getfield 35, 3) := by decide +kernel
theorem dX7_fault_71 : decode cX7_fault 71 = .ok (.aload_n 0, 1) := by decide +kernel
theorem dX7_fault_72 : decode cX7_fault 72 = .ok (.getfield 12, 3) := by decide +kernel
theorem dX7_fault_75 : decode cX7_fault 75 = .ok (.invokevirtual 87, 3) := by decide +kernel
theorem dX7_fault_78 : decode cX7_fault 78 = .ok (.aload_n 0, 1) := by decide +kernel
theorem dX7_fault_79 : decode cX7_fault 79 = .ok (.getfield 12, 3) := by decide +kernel
theorem dX7_fault_82 : decode cX7_fault 82 = .ok (.getfield 175, 3) := by decide +kernel
theorem dX7_fault_85 : decode cX7_fault 85 = .ok (.iload_n 1, 1) := by decide +kernel
theorem dX7_fault_86 : decode cX7_fault 86 = .ok (.iload_n 2, 1) := by decide +kernel
theorem dX7_fault_87 : decode cX7_fault 87 = .ok (.iload_n 3, 1) := by decide +kernel
theorem dX7_fault_88 : decode cX7_fault 88 = .ok (.invokevirtual 184, 3) := by decide +kernel
theorem dX7_fault_91 : decode cX7_fault 91 = .ok (.aload_n 0, 1) := by decide +kernel
theorem dX7_fault_92 : decode cX7_fault 92 = .ok (.getfield 12, 3) := by decide +kernel
theorem dX7_fault_95 : decode cX7_fault 95 = .ok (.aload_n 0, 1) := by decide +kernel
theorem dX7_fault_96 : decode cX7_fault 96 = .ok (.getfield 19, 3) := by decide +kernel
theorem dX7_fault_99 : decode cX7_fault 99 = .ok (.invokestatic 95, 3) := by decide +kernel
theorem dX7_fault_102 : decode cX7_fault 102 = .ok (.ireturn, 1) := by decide +kernel
theorem dX7_mend_0 : decode cX7_mend 0 = .ok (.aload_n 0, 1) := by decide +kernel
theorem dX7_mend_1 : decode cX7_mend 1 = .ok (.iload_n 1, 1) := by decide +kernel
theorem dX7_mend_2 : decode cX7_mend 2 = .ok (.invokevirtual 187, 3) := by decide +kernel
theorem dX7_mend_5 : decode cX7_mend 5 = .ok (.ifCond .ne 13, 3) := by decide +kernel
theorem dX7_mend_8 : decode cX7_mend 8 = .ok (.new 58, 3) := by decide +kernel
theorem dX7_mend_11 : decode cX7_mend 11 = .ok (.dup, 1) := by decide +kernel
theorem dX7_mend_12 : decode cX7_mend 12 = .ok (.ldc 190, 2) := by decide +kernel
theorem dX7_mend_14 : decode cX7_mend 14 = .ok (.invokespecial 62, 3) := by decide +kernel
theorem dX7_mend_17 : decode cX7_mend 17 = .ok (.athrow, 1) := by decide +kernel
theorem dX7_mend_18 : decode cX7_mend 18 = .ok (.aload_n 0, 1) := by decide +kernel
theorem dX7_mend_19 : decode cX7_mend 19 = .ok (.getfield 35, 3) := by decide +kernel
theorem dX7_mend_22 : decode cX7_mend 22 = .ok (.aload_n 0, 1) := by decide +kernel
theorem dX7_mend_23 : decode cX7_mend 23 = .ok (.getfield 12, 3) := by decide +kernel
theorem dX7_mend_26 : decode cX7_mend 26 = .ok (.invokevirtual 87, 3) := by decide +kernel
theorem dX7_mend_29 : decode cX7_mend 29 = .ok (.aload_n 0, 1) := by decide +kernel
theorem dX7_mend_30 : decode cX7_mend 30 = .ok (.getfield 12, 3) := by decide +kernel
theorem dX7_mend_33 : decode cX7_mend 33 = .ok (.getfield 175, 3) := by decide +kernel
theorem dX7_mend_36 : decode cX7_mend 36 = .ok (.getfield 192, 3) := by decide +kernel
theorem dX7_mend_39 : decode cX7_mend 39 = .ok (.iload_n 1, 1) := by decide +kernel
theorem dX7_mend_40 : decode cX7_mend 40 = .ok (.iaload, 1) := by decide +kernel
theorem dX7_mend_41 : decode cX7_mend 41 = .ok (.istore_n 2, 1) := by decide +kernel
theorem dX7_mend_42 : decode cX7_mend 42 = .ok (.aload_n 0, 1) := by decide +kernel
theorem dX7_mend_43 : decode cX7_mend 43 = .ok (.getfield 12, 3) := by decide +kernel
theorem dX7_mend_46 : decode cX7_mend 46 = .ok (.getfield 175, 3) := by decide +kernel
theorem dX7_mend_49 : decode cX7_mend 49 = .ok (.iload_n 1, 1) := by decide +kernel
theorem dX7_mend_50 : decode cX7_mend 50 = .ok (.invokevirtual 195, 3) := by decide +kernel
theorem dX7_mend_53 : decode cX7_mend 53 = .ok (.aload_n 0, 1) := by decide +kernel
theorem dX7_mend_54 : decode cX7_mend 54 = .ok (.getfield 12, 3) := by decide +kernel
theorem dX7_mend_57 : decode cX7_mend 57 = .ok (.aload_n 0, 1) := by decide +kernel
theorem dX7_mend_58 : decode cX7_mend 58 = .ok (.getfield 19, 3) := by decide +kernel
theorem dX7_mend_61 : decode cX7_mend 61 = .ok (.invokestatic 95, 3) := by decide +kernel
theorem dX7_mend_64 : decode cX7_mend 64 = .ok (.pop, 1) := by decide +kernel
theorem dX7_mend_65 : decode cX7_mend 65 = .ok (.iload_n 2, 1) := by decide +kernel
theorem dX7_mend_66 : decode cX7_mend 66 = .ok (.ireturn, 1) := by decide +kernel
theorem dX7_burn_0 : decode cX7_burn 0 = .ok (.iload_n 1, 1) := by decide +kernel
theorem dX7_burn_1 : decode cX7_burn 1 = .ok (.iconst 1, 1) := by decide +kernel
theorem dX7_burn_2 : decode cX7_burn 2 = .ok (.if_icmp .lt 10, 3) := by decide +kernel
theorem dX7_burn_5 : decode cX7_burn 5 = .ok (.iload_n 1, 1) := by decide +kernel
theorem dX7_burn_6 : decode cX7_burn 6 = .ok (.sipush 1000, 3) := by decide +kernel
theorem dX7_burn_9 : decode cX7_burn 9 = .ok (.if_icmp .le 13, 3) := by decide +kernel
theorem dX7_burn_12 : decode cX7_burn 12 = .ok (.new 68, 3) := by decide +kernel
theorem dX7_burn_15 : decode cX7_burn 15 = .ok (.dup, 1) := by decide +kernel
theorem dX7_burn_16 : decode cX7_burn 16 = .ok (.ldc 196, 2) := by decide +kernel
theorem dX7_burn_18 : decode cX7_burn 18 = .ok (.invokespecial 72, 3) := by decide +kernel
theorem dX7_burn_21 : decode cX7_burn 21 = .ok (.athrow, 1) := by decide +kernel
theorem dX7_burn_22 : decode cX7_burn 22 = .ok (.aload_n 0, 1) := by decide +kernel
theorem dX7_burn_23 : decode cX7_burn 23 = .ok (.getfield 12, 3) := by decide +kernel
theorem dX7_burn_26 : decode cX7_burn 26 = .ok (.getfield 198, 3) := by decide +kernel
theorem dX7_burn_29 : decode cX7_burn 29 = .ok (.iload_n 1, 1) := by decide +kernel
theorem dX7_burn_30 : decode cX7_burn 30 = .ok (.iadd, 1) := by decide +kernel
theorem dX7_burn_31 : decode cX7_burn 31 = .ok (.ldc 201, 2) := by decide +kernel
theorem dX7_burn_33 : decode cX7_burn 33 = .ok (.if_icmp .le 13, 3) := by decide +kernel
theorem dX7_burn_36 : decode cX7_burn 36 = .ok (.new 82, 3) := by decide +kernel
theorem dX7_burn_39 : decode cX7_burn 39 = .ok (.dup, 1) := by decide +kernel
theorem dX7_burn_40 : decode cX7_burn 40 = .ok (.ldc 202, 2) := by decide +kernel
theorem dX7_burn_42 : decode cX7_burn 42 = .ok (.invokespecial 86, 3) := by decide +kernel
theorem dX7_burn_45 : decode cX7_burn 45 = .ok (.athrow, 1) := by decide +kernel
theorem dX7_burn_46 : decode cX7_burn 46 = .ok (.aload_n 0, 1) := by decide +kernel
theorem dX7_burn_47 : decode cX7_burn 47 = .ok (.getfield 35, 3) := by decide +kernel
theorem dX7_burn_50 : decode cX7_burn 50 = .ok (.aload_n 0, 1) := by decide +kernel
theorem dX7_burn_51 : decode cX7_burn 51 = .ok (.getfield 12, 3) := by decide +kernel
theorem dX7_burn_54 : decode cX7_burn 54 = .ok (.invokevirtual 87, 3) := by decide +kernel
theorem dX7_burn_57 : decode cX7_burn 57 = .ok (.aload_n 0, 1) := by decide +kernel
theorem dX7_burn_58 : decode cX7_burn 58 = .ok (.getfield 19, 3) := by decide +kernel
theorem dX7_burn_61 : decode cX7_burn 61 = .ok (.getfield 204, 3) := by decide +kernel
theorem dX7_burn_64 : decode cX7_burn 64 = .ok (.iconst 0, 1) := by decide +kernel
theorem dX7_burn_65 : decode cX7_burn 65 = .ok (.iaload, 1) := by decide +kernel
theorem dX7_burn_66 : decode cX7_burn 66 = .ok (.iload_n 1, 1) := by decide +kernel
theorem dX7_burn_67 : decode cX7_burn 67 = .ok (.imul, 1) := by decide +kernel
theorem dX7_burn_68 : decode cX7_burn 68 = .ok (.istore_n 2, 1) := by decide +kernel
theorem dX7_burn_69 : decode cX7_burn 69 = .ok (.aload_n 0, 1) := by decide +kernel
theorem dX7_burn_70 : decode cX7_burn 70 = .ok (.getfield 12, 3) := by decide +kernel
theorem dX7_burn_73 : decode cX7_burn 73 = .ok (.dup, 1) := by decide +kernel
theorem dX7_burn_74 : decode cX7_burn 74 = .ok (.getfield 198, 3) := by decide +kernel
theorem dX7_burn_77 : decode cX7_burn 77 = .ok (.iload_n 1, 1) := by decide +kernel
theorem dX7_burn_78 : decode cX7_burn 78 = .ok (.iadd, 1) := by decide +kernel
theorem dX7_burn_79 : decode cX7_burn 79 = .ok (.putfield 198, 3) := by decide +kernel
theorem dX7_burn_82 : decode cX7_burn 82 = .ok (.aload_n 0, 1) := by decide +kernel
theorem dX7_burn_83 : decode cX7_burn 83 = .ok (.getfield 12, 3) := by decide +kernel
theorem dX7_burn_86 : decode cX7_burn 86 = .ok (.dup, 1) := by decide +kernel
theorem dX7_burn_87 : decode cX7_burn 87 = .ok (.getfield 207, 3) := by decide +kernel
theorem dX7_burn_90 : decode cX7_burn 90 = .ok (.iload_n 2, 1) := by decide +kernel
theorem dX7_burn_91 : decode cX7_burn 91 = .ok (.iadd, 1) := by decide +kernel
theorem dX7_burn_92 : decode cX7_burn 92 = .ok (.putfield 207, 3) := by decide +kernel
theorem dX7_burn_95 : decode cX7_burn 95 = .ok (.aload_n 0, 1) := by decide +kernel
theorem dX7_burn_96 : decode cX7_burn 96 = .ok (.getfield 12, 3) := by decide +kernel
theorem dX7_burn_99 : decode cX7_burn 99 = .ok (.dup, 1) := by decide +kernel
theorem dX7_burn_100 : decode cX7_burn 100 = .ok (.getfield 210, 3) := by decide +kernel
theorem dX7_burn_103 : decode cX7_burn 103 = .ok (.aload_n 0, 1) := by decide +kernel
theorem dX7_burn_104 : decode cX7_burn 104 = .ok (.getfield 19, 3) := by decide +kernel
theorem dX7_burn_107 : decode cX7_burn 107 = .ok (.getfield 213, 3) := by decide +kernel
theorem dX7_burn_110 : decode cX7_burn 110 = .ok (.iload_n 1, 1) := by decide +kernel
theorem dX7_burn_111 : decode cX7_burn 111 = .ok (.imul, 1) := by decide +kernel
theorem dX7_burn_112 : decode cX7_burn 112 = .ok (.iadd, 1) := by decide +kernel
theorem dX7_burn_113 : decode cX7_burn 113 = .ok (.putfield 210, 3) := by decide +kernel
theorem dX7_burn_116 : decode cX7_burn 116 = .ok (.iload_n 2, 1) := by decide +kernel
theorem dX7_burn_117 : decode cX7_burn 117 = .ok (.ireturn, 1) := by decide +kernel
theorem dX7_append_0 : decode cX7_append 0 = .ok (.iload_n 1, 1) := by decide +kernel
theorem dX7_append_1 : decode cX7_append 1 = .ok (.bipush 33, 2) := by decide +kernel
theorem dX7_append_3 : decode cX7_append 3 = .ok (.if_icmp .lt 9, 3) := by decide +kernel
theorem dX7_append_6 : decode cX7_append 6 = .ok (.iload_n 1, 1) := by decide +kernel
theorem dX7_append_7 : decode cX7_append 7 = .ok (.bipush 126, 2) := by decide +kernel
theorem dX7_append_9 : decode cX7_append 9 = .ok (.if_icmp .le 13, 3) := by decide +kernel
theorem dX7_append_12 : decode cX7_append 12 = .ok (.new 68, 3) := by decide +kernel
theorem dX7_append_15 : decode cX7_append 15 = .ok (.dup, 1) := by decide +kernel
theorem dX7_append_16 : decode cX7_append 16 = .ok (.ldc 216, 2) := by decide +kernel
theorem dX7_append_18 : decode cX7_append 18 = .ok (.invokespecial 72, 3) := by decide +kernel
theorem dX7_append_21 : decode cX7_append 21 = .ok (.athrow, 1) := by decide +kernel
theorem dX7_append_22 : decode cX7_append 22 = .ok (.aload_n 0, 1) := by decide +kernel
theorem dX7_append_23 : decode cX7_append 23 = .ok (.getfield 50, 3) := by decide +kernel
theorem dX7_append_26 : decode cX7_append 26 = .ok (.bipush 60, 2) := by decide +kernel
theorem dX7_append_28 : decode cX7_append 28 = .ok (.if_icmp .lt 13, 3) := by decide +kernel
theorem dX7_append_31 : decode cX7_append 31 = .ok (.new 82, 3) := by decide +kernel
theorem dX7_append_34 : decode cX7_append 34 = .ok (.dup, 1) := by decide +kernel
theorem dX7_append_35 : decode cX7_append 35 = .ok (.ldc 218, 2) := by decide +kernel
theorem dX7_append_37 : decode cX7_append 37 = .ok (.invokespecial 86, 3) := by decide +kernel
theorem dX7_append_40 : decode cX7_append 40 = .ok (.athrow, 1) := by decide +kernel
theorem dX7_append_41 : decode cX7_append 41 = .ok (.aload_n 0, 1) := by decide +kernel
theorem dX7_append_42 : decode cX7_append 42 = .ok (.getfield 46, 3) := by decide +kernel
theorem dX7_append_45 : decode cX7_append 45 = .ok (.aload_n 0, 1) := by decide +kernel
theorem dX7_append_46 : decode cX7_append 46 = .ok (.getfield 50, 3) := by decide +kernel
theorem dX7_append_49 : decode cX7_append 49 = .ok (.iload_n 1, 1) := by decide +kernel
theorem dX7_append_50 : decode cX7_append 50 = .ok (.iastore, 1) := by decide +kernel
theorem dX7_append_51 : decode cX7_append 51 = .ok (.aload_n 0, 1) := by decide +kernel
theorem dX7_append_52 : decode cX7_append 52 = .ok (.dup, 1) := by decide +kernel
theorem dX7_append_53 : decode cX7_append 53 = .ok (.getfield 50, 3) := by decide +kernel
theorem dX7_append_56 : decode cX7_append 56 = .ok (.iconst 1, 1) := by decide +kernel
theorem dX7_append_57 : decode cX7_append 57 = .ok (.iadd, 1) := by decide +kernel
theorem dX7_append_58 : decode cX7_append 58 = .ok (.putfield 50, 3) := by decide +kernel
theorem dX7_append_61 : decode cX7_append 61 = .ok (.aload_n 0, 1) := by decide +kernel
theorem dX7_append_62 : decode cX7_append 62 = .ok (.getfield 50, 3) := by decide +kernel
theorem dX7_append_65 : decode cX7_append 65 = .ok (.ireturn, 1) := by decide +kernel
theorem dX7_clearBuffer_0 : decode cX7_clearBuffer 0 = .ok (.aload_n 0, 1) := by decide +kernel
theorem dX7_clearBuffer_1 : decode cX7_clearBuffer 1 = .ok (.getfield 50, 3) := by decide +kernel
theorem dX7_clearBuffer_4 : decode cX7_clearBuffer 4 = .ok (.istore_n 1, 1) := by decide +kernel
theorem dX7_clearBuffer_5 : decode cX7_clearBuffer 5 = .ok (.aload_n 0, 1) := by decide +kernel
theorem dX7_clearBuffer_6 : decode cX7_clearBuffer 6 = .ok (.iconst 0, 1) := by decide +kernel
theorem dX7_clearBuffer_7 : decode cX7_clearBuffer 7 = .ok (.putfield 50, 3) := by decide +kernel
theorem dX7_clearBuffer_10 : decode cX7_clearBuffer 10 = .ok (.iload_n 1, 1) := by decide +kernel
theorem dX7_clearBuffer_11 : decode cX7_clearBuffer 11 = .ok (.ireturn, 1) := by decide +kernel
theorem dX7_firstError_0 : decode cX7_firstError 0 = .ok (.aload_n 0, 1) := by decide +kernel
theorem dX7_firstError_1 : decode cX7_firstError 1 = .ok (.invokevirtual 220, 3) := by decide +kernel
theorem dX7_firstError_4 : decode cX7_firstError 4 = .ok (.ireturn, 1) := by decide +kernel
theorem dX7_load_0 : decode cX7_load 0 = .ok (.aload_n 0, 1) := by decide +kernel
theorem dX7_load_1 : decode cX7_load 1 = .ok (.invokevirtual 220, 3) := by decide +kernel
theorem dX7_load_4 : decode cX7_load 4 = .ok (.aload_n 0, 1) := by decide +kernel
theorem dX7_load_5 : decode cX7_load 5 = .ok (.getfield 50, 3) := by decide +kernel
theorem dX7_load_8 : decode cX7_load 8 = .ok (.if_icmp .lt 13, 3) := by decide +kernel
theorem dX7_load_11 : decode cX7_load 11 = .ok (.aload_n 0, 1) := by decide +kernel
theorem dX7_load_12 : decode cX7_load 12 = .ok (.getfield 42, 3) := by decide +kernel
theorem dX7_load_15 : decode cX7_load 15 = .ok (.invokevirtual 224, 3) := by decide +kernel
theorem dX7_load_18 : decode cX7_load 18 = .ok (.ifCond .ne 13, 3) := by decide +kernel
theorem dX7_load_21 : decode cX7_load 21 = .ok (.new 68, 3) := by decide +kernel
theorem dX7_load_24 : decode cX7_load 24 = .ok (.dup, 1) := by decide +kernel
theorem dX7_load_25 : decode cX7_load 25 = .ok (.ldc 228, 2) := by decide +kernel
theorem dX7_load_27 : decode cX7_load 27 = .ok (.invokespecial 72, 3) := by decide +kernel
theorem dX7_load_30 : decode cX7_load 30 = .ok (.athrow, 1) := by decide +kernel
theorem dX7_load_31 : decode cX7_load 31 = .ok (.aload_n 0, 1) := by decide +kernel
theorem dX7_load_32 : decode cX7_load 32 = .ok (.getfield 35, 3) := by decide +kernel
theorem dX7_load_35 : decode cX7_load 35 = .ok (.aload_n 0, 1) := by decide +kernel
theorem dX7_load_36 : decode cX7_load 36 = .ok (.getfield 12, 3) := by decide +kernel
theorem dX7_load_39 : decode cX7_load 39 = .ok (.invokevirtual 87, 3) := by decide +kernel
theorem dX7_load_42 : decode cX7_load 42 = .ok (.aload_n 0, 1) := by decide +kernel
theorem dX7_load_43 : decode cX7_load 43 = .ok (.invokevirtual 230, 3) := by decide +kernel
theorem dX7_load_46 : decode cX7_load 46 = .ok (.istore_n 1, 1) := by decide +kernel
theorem dX7_load_47 : decode cX7_load 47 = .ok (.aload_n 0, 1) := by decide +kernel
theorem dX7_load_48 : decode cX7_load 48 = .ok (.iconst 0, 1) := by decide +kernel
theorem dX7_load_49 : decode cX7_load 49 = .ok (.putfield 50, 3) := by decide +kernel
theorem dX7_load_52 : decode cX7_load 52 = .ok (.iload_n 1, 1) := by decide +kernel
theorem dX7_load_53 : decode cX7_load 53 = .ok (.ireturn, 1) := by decide +kernel
theorem dX7_undo_0 : decode cX7_undo 0 = .ok (.aload_n 0, 1) := by decide +kernel
theorem dX7_undo_1 : decode cX7_undo 1 = .ok (.getfield 35, 3) := by decide +kernel
theorem dX7_undo_4 : decode cX7_undo 4 = .ok (.getfield 233, 3) := by decide +kernel
theorem dX7_undo_7 : decode cX7_undo 7 = .ok (.ifCond .ne 13, 3) := by decide +kernel
theorem dX7_undo_10 : decode cX7_undo 10 = .ok (.new 82, 3) := by decide +kernel
theorem dX7_undo_13 : decode cX7_undo 13 = .ok (.dup, 1) := by decide +kernel
theorem dX7_undo_14 : decode cX7_undo 14 = .ok (.ldc 234, 2) := by decide +kernel
theorem dX7_undo_16 : decode cX7_undo 16 = .ok (.invokespecial 86, 3) := by decide +kernel
theorem dX7_undo_19 : decode cX7_undo 19 = .ok (.athrow, 1) := by decide +kernel
theorem dX7_undo_20 : decode cX7_undo 20 = .ok (.aload_n 0, 1) := by decide +kernel
theorem dX7_undo_21 : decode cX7_undo 21 = .ok (.getfield 35, 3) := by decide +kernel
theorem dX7_undo_24 : decode cX7_undo 24 = .ok (.aload_n 0, 1) := by decide +kernel
theorem dX7_undo_25 : decode cX7_undo 25 = .ok (.getfield 12, 3) := by decide +kernel
theorem dX7_undo_28 : decode cX7_undo 28 = .ok (.invokevirtual 236, 3) := by decide +kernel
theorem dX7_undo_31 : decode cX7_undo 31 = .ok (.aload_n 0, 1) := by decide +kernel
theorem dX7_undo_32 : decode cX7_undo 32 = .ok (.getfield 19, 3) := by decide +kernel
theorem dX7_undo_35 : decode cX7_undo 35 = .ok (.aload_n 0, 1) := by decide +kernel
theorem dX7_undo_36 : decode cX7_undo 36 = .ok (.getfield 12, 3) := by decide +kernel
theorem dX7_undo_39 : decode cX7_undo 39 = .ok (.invokevirtual 239, 3) := by decide +kernel
theorem dX7_undo_42 : decode cX7_undo 42 = .ok (.aload_n 0, 1) := by decide +kernel
theorem dX7_undo_43 : decode cX7_undo 43 = .ok (.getfield 35, 3) := by decide +kernel
theorem dX7_undo_46 : decode cX7_undo 46 = .ok (.getfield 233, 3) := by decide +kernel
theorem dX7_undo_49 : decode cX7_undo 49 = .ok (.ireturn, 1) := by decide +kernel
theorem dX7_box_0 : decode cX7_box 0 = .ok (.aload_n 0, 1) := by decide +kernel
theorem dX7_box_1 : decode cX7_box 1 = .ok (.iload_n 1, 1) := by decide +kernel
theorem dX7_box_2 : decode cX7_box 2 = .ok (.invokevirtual 54, 3) := by decide +kernel
theorem dX7_box_5 : decode cX7_box 5 = .ok (.ifCond .ne 13, 3) := by decide +kernel
theorem dX7_box_8 : decode cX7_box 8 = .ok (.new 58, 3) := by decide +kernel
theorem dX7_box_11 : decode cX7_box 11 = .ok (.dup, 1) := by decide +kernel
theorem dX7_box_12 : decode cX7_box 12 = .ok (.ldc 138, 2) := by decide +kernel
theorem dX7_box_14 : decode cX7_box 14 = .ok (.invokespecial 62, 3) := by decide +kernel
theorem dX7_box_17 : decode cX7_box 17 = .ok (.athrow, 1) := by decide +kernel
theorem dX7_box_18 : decode cX7_box 18 = .ok (.iload_n 2, 1) := by decide +kernel
theorem dX7_box_19 : decode cX7_box 19 = .ok (.ifCond .lt 9, 3) := by decide +kernel
theorem dX7_box_22 : decode cX7_box 22 = .ok (.iload_n 2, 1) := by decide +kernel
theorem dX7_box_23 : decode cX7_box 23 = .ok (.bipush 7, 2) := by decide +kernel
theorem dX7_box_25 : decode cX7_box 25 = .ok (.if_icmp .lt 13, 3) := by decide +kernel
theorem dX7_box_28 : decode cX7_box 28 = .ok (.new 68, 3) := by decide +kernel
theorem dX7_box_31 : decode cX7_box 31 = .ok (.dup, 1) := by decide +kernel
theorem dX7_box_32 : decode cX7_box 32 = .ok (.ldc 242, 2) := by decide +kernel
theorem dX7_box_34 : decode cX7_box 34 = .ok (.invokespecial 72, 3) := by decide +kernel
theorem dX7_box_37 : decode cX7_box 37 = .ok (.athrow, 1) := by decide +kernel
theorem dX7_box_38 : decode cX7_box 38 = .ok (.aload_n 0, 1) := by decide +kernel
theorem dX7_box_39 : decode cX7_box 39 = .ok (.iload_n 1, 1) := by decide +kernel
theorem dX7_box_40 : decode cX7_box 40 = .ok (.iload_n 2, 1) := by decide +kernel
theorem dX7_box_41 : decode cX7_box 41 = .ok (.invokevirtual 244, 3) := by decide +kernel
theorem dX7_box_44 : decode cX7_box 44 = .ok (.ireturn, 1) := by decide +kernel
theorem dX7_terminal_0 : decode cX7_terminal 0 = .ok (.aload_n 0, 1) := by decide +kernel
theorem dX7_terminal_1 : decode cX7_terminal 1 = .ok (.iload_n 1, 1) := by decide +kernel
theorem dX7_terminal_2 : decode cX7_terminal 2 = .ok (.invokevirtual 54, 3) := by decide +kernel
theorem dX7_terminal_5 : decode cX7_terminal 5 = .ok (.ifCond .eq 10, 3) := by decide +kernel
theorem dX7_terminal_8 : decode cX7_terminal 8 = .ok (.iload_n 2, 1) := by decide +kernel
theorem dX7_terminal_9 : decode cX7_terminal 9 = .ok (.invokestatic 118, 3) := by decide +kernel
theorem dX7_terminal_12 : decode cX7_terminal 12 = .ok (.ifCond .ne 13, 3) := by decide +kernel
theorem dX7_terminal_15 : decode cX7_terminal 15 = .ok (.new 58, 3) := by decide +kernel
theorem dX7_terminal_18 : decode cX7_terminal 18 = .ok (.dup, 1) := by decide +kernel
theorem dX7_terminal_19 : decode cX7_terminal 19 = .ok (.ldc 168, 2) := by decide +kernel
theorem dX7_terminal_21 : decode cX7_terminal 21 = .ok (.invokespecial 62, 3) := by decide +kernel
theorem dX7_terminal_24 : decode cX7_terminal 24 = .ok (.athrow, 1) := by decide +kernel
theorem dX7_terminal_25 : decode cX7_terminal 25 = .ok (.iload_n 3, 1) := by decide +kernel
theorem dX7_terminal_26 : decode cX7_terminal 26 = .ok (.ifCond .lt 9, 3) := by decide +kernel
theorem dX7_terminal_29 : decode cX7_terminal 29 = .ok (.iload_n 3, 1) := by decide +kernel
theorem dX7_terminal_30 : decode cX7_terminal 30 = .ok (.bipush 6, 2) := by decide +kernel
theorem dX7_terminal_32 : decode cX7_terminal 32 = .ok (.if_icmp .lt 13, 3) := by decide +kernel
theorem dX7_terminal_35 : decode cX7_terminal 35 = .ok (.new 68, 3) := by decide +kernel
theorem dX7_terminal_38 : decode cX7_terminal 38 = .ok (.dup, 1) := by decide +kernel
theorem dX7_terminal_39 : decode cX7_terminal 39 = .ok (.ldc 248, 2) := by decide +kernel
theorem dX7_terminal_41 : decode cX7_terminal 41 = .ok (.invokespecial 72, 3) := by decide +kernel
theorem dX7_terminal_44 : decode cX7_terminal 44 = .ok (.athrow, 1) := by decide +kernel
theorem dX7_terminal_45 : decode cX7_terminal 45 = .ok (.aload_n 0, 1) := by decide +kernel
theorem dX7_terminal_46 : decode cX7_terminal 46 = .ok (.iload_n 1, 1) := by decide +kernel
theorem dX7_terminal_47 : decode cX7_terminal 47 = .ok (.iload_n 2, 1) := by decide +kernel
theorem dX7_terminal_48 : decode cX7_terminal 48 = .ok (.iload_n 3, 1) := by decide +kernel
theorem dX7_terminal_49 : decode cX7_terminal 49 = .ok (.invokevirtual 250, 3) := by decide +kernel
theorem dX7_terminal_52 : decode cX7_terminal 52 = .ok (.ireturn, 1) := by decide +kernel
theorem dX7_lantern_0 : decode cX7_lantern 0 = .ok (.aload_n 0, 1) := by decide +kernel
theorem dX7_lantern_1 : decode cX7_lantern 1 = .ok (.iload_n 1, 1) := by decide +kernel
theorem dX7_lantern_2 : decode cX7_lantern 2 = .ok (.invokevirtual 156, 3) := by decide +kernel
theorem dX7_lantern_5 : decode cX7_lantern 5 = .ok (.ifCond .ne 13, 3) := by decide +kernel
theorem dX7_lantern_8 : decode cX7_lantern 8 = .ok (.new 58, 3) := by decide +kernel
theorem dX7_lantern_11 : decode cX7_lantern 11 = .ok (.dup, 1) := by decide +kernel
theorem dX7_lantern_12 : decode cX7_lantern 12 = .ok (.ldc 159, 2) := by decide +kernel
theorem dX7_lantern_14 : decode cX7_lantern 14 = .ok (.invokespecial 62, 3) := by decide +kernel
theorem dX7_lantern_17 : decode cX7_lantern 17 = .ok (.athrow, 1) := by decide +kernel
theorem dX7_lantern_18 : decode cX7_lantern 18 = .ok (.iload_n 2, 1) := by decide +kernel
theorem dX7_lantern_19 : decode cX7_lantern 19 = .ok (.ifCond .lt 8, 3) := by decide +kernel
theorem dX7_lantern_22 : decode cX7_lantern 22 = .ok (.iload_n 2, 1) := by decide +kernel
theorem dX7_lantern_23 : decode cX7_lantern 23 = .ok (.iconst 4, 1) := by decide +kernel
theorem dX7_lantern_24 : decode cX7_lantern 24 = .ok (.if_icmp .lt 13, 3) := by decide +kernel
theorem dX7_lantern_27 : decode cX7_lantern 27 = .ok (.new 68, 3) := by decide +kernel
theorem dX7_lantern_30 : decode cX7_lantern 30 = .ok (.dup, 1) := by decide +kernel
theorem dX7_lantern_31 : decode cX7_lantern 31 = .ok (.ldc 254, 2) := by decide +kernel
theorem dX7_lantern_33 : decode cX7_lantern 33 = .ok (.invokespecial 72, 3) := by decide +kernel
theorem dX7_lantern_36 : decode cX7_lantern 36 = .ok (.athrow, 1) := by decide +kernel
theorem dX7_lantern_37 : decode cX7_lantern 37 = .ok (.aload_n 0, 1) := by decide +kernel
theorem dX7_lantern_38 : decode cX7_lantern 38 = .ok (.iload_n 1, 1) := by decide +kernel
theorem dX7_lantern_39 : decode cX7_lantern 39 = .ok (.iload_n 2, 1) := by decide +kernel
theorem dX7_lantern_40 : decode cX7_lantern 40 = .ok (.invokevirtual 256, 3) := by decide +kernel
theorem dX7_lantern_43 : decode cX7_lantern 43 = .ok (.ireturn, 1) := by decide +kernel
theorem dX7_faultAt_0 : decode cX7_faultAt 0 = .ok (.aload_n 0, 1) := by decide +kernel
theorem dX7_faultAt_1 : decode cX7_faultAt 1 = .ok (.iload_n 1, 1) := by decide +kernel
theorem dX7_faultAt_2 : decode cX7_faultAt 2 = .ok (.invokevirtual 187, 3) := by decide +kernel
theorem dX7_faultAt_5 : decode cX7_faultAt 5 = .ok (.ifCond .ne 13, 3) := by decide +kernel
theorem dX7_faultAt_8 : decode cX7_faultAt 8 = .ok (.new 58, 3) := by decide +kernel
theorem dX7_faultAt_11 : decode cX7_faultAt 11 = .ok (.dup, 1) := by decide +kernel
theorem dX7_faultAt_12 : decode cX7_faultAt 12 = .ok (.ldc 190, 2) := by decide +kernel
theorem dX7_faultAt_14 : decode cX7_faultAt 14 = .ok (.invokespecial 62, 3) := by decide +kernel
theorem dX7_faultAt_17 : decode cX7_faultAt 17 = .ok (.athrow, 1) := by decide +kernel
theorem dX7_faultAt_18 : decode cX7_faultAt 18 = .ok (.iload_n 2, 1) := by decide +kernel
theorem dX7_faultAt_19 : decode cX7_faultAt 19 = .ok (.ifCond .lt 8, 3) := by decide +kernel
theorem dX7_faultAt_22 : decode cX7_faultAt 22 = .ok (.iload_n 2, 1) := by decide +kernel
theorem dX7_faultAt_23 : decode cX7_faultAt 23 = .ok (.iconst 5, 1) := by decide +kernel
theorem dX7_faultAt_24 : decode cX7_faultAt 24 = .ok (.if_icmp .lt 14, 3) := by decide +kernel
theorem dX7_faultAt_27 : decode cX7_faultAt 27 = .ok (.new 68, 3) := by decide +kernel
theorem dX7_faultAt_30 : decode cX7_faultAt 30 = .ok (.dup, 1) := by decide +kernel
theorem dX7_faultAt_31 : decode cX7_faultAt 31 = .ok (.ldc_w 259, 3) := by decide +kernel
theorem dX7_faultAt_34 : decode cX7_faultAt 34 = .ok (.invokespecial 72, 3) := by decide +kernel
theorem dX7_faultAt_37 : decode cX7_faultAt 37 = .ok (.athrow, 1) := by decide +kernel
theorem dX7_faultAt_38 : decode cX7_faultAt 38 = .ok (.aload_n 0, 1) := by decide +kernel
theorem dX7_faultAt_39 : decode cX7_faultAt 39 = .ok (.iload_n 1, 1) := by decide +kernel
theorem dX7_faultAt_40 : decode cX7_faultAt 40 = .ok (.iload_n 2, 1) := by decide +kernel
theorem dX7_faultAt_41 : decode cX7_faultAt 41 = .ok (.invokevirtual 261, 3) := by decide +kernel
theorem dX7_faultAt_44 : decode cX7_faultAt 44 = .ok (.ireturn, 1) := by decide +kernel
theorem dX7_count_0 : decode cX7_count 0 = .ok (.iload_n 1, 1) := by decide +kernel
theorem dX7_count_1 : decode cX7_count 1 = .ok (.ifCond .lt 9, 3) := by decide +kernel
theorem dX7_count_4 : decode cX7_count 4 = .ok (.iload_n 1, 1) := by decide +kernel
theorem dX7_count_5 : decode cX7_count 5 = .ok (.bipush 12, 2) := by decide +kernel
theorem dX7_count_7 : decode cX7_count 7 = .ok (.if_icmp .lt 14, 3) := by decide +kernel
theorem dX7_count_10 : decode cX7_count 10 = .ok (.new 68, 3) := by decide +kernel
theorem dX7_count_13 : decode cX7_count 13 = .ok (.dup, 1) := by decide +kernel
theorem dX7_count_14 : decode cX7_count 14 = .ok (.ldc_w 264, 3) := by decide +kernel
theorem dX7_count_17 : decode cX7_count 17 = .ok (.invokespecial 72, 3) := by decide +kernel
theorem dX7_count_20 : decode cX7_count 20 = .ok (.athrow, 1) := by decide +kernel
theorem dX7_count_21 : decode cX7_count 21 = .ok (.aload_n 0, 1) := by decide +kernel
theorem dX7_count_22 : decode cX7_count 22 = .ok (.iload_n 1, 1) := by decide +kernel
theorem dX7_count_23 : decode cX7_count 23 = .ok (.invokevirtual 266, 3) := by decide +kernel
theorem dX7_count_26 : decode cX7_count 26 = .ok (.ireturn, 1) := by decide +kernel
theorem dX7_lamp_0 : decode cX7_lamp 0 = .ok (.iload_n 1, 1) := by decide +kernel
theorem dX7_lamp_1 : decode cX7_lamp 1 = .ok (.invokestatic 270, 3) := by decide +kernel
theorem dX7_lamp_4 : decode cX7_lamp 4 = .ok (.ifCond .ne 14, 3) := by decide +kernel
theorem dX7_lamp_7 : decode cX7_lamp 7 = .ok (.new 58, 3) := by decide +kernel
theorem dX7_lamp_10 : decode cX7_lamp 10 = .ok (.dup, 1) := by decide +kernel
theorem dX7_lamp_11 : decode cX7_lamp 11 = .ok (.ldc_w 273, 3) := by decide +kernel
theorem dX7_lamp_14 : decode cX7_lamp 14 = .ok (.invokespecial 62, 3) := by decide +kernel
theorem dX7_lamp_17 : decode cX7_lamp 17 = .ok (.athrow, 1) := by decide +kernel
theorem dX7_lamp_18 : decode cX7_lamp 18 = .ok (.aload_n 0, 1) := by decide +kernel
theorem dX7_lamp_19 : decode cX7_lamp 19 = .ok (.getfield 19, 3) := by decide +kernel
theorem dX7_lamp_22 : decode cX7_lamp 22 = .ok (.iload_n 1, 1) := by decide +kernel
theorem dX7_lamp_23 : decode cX7_lamp 23 = .ok (.invokevirtual 275, 3) := by decide +kernel
theorem dX7_lamp_26 : decode cX7_lamp 26 = .ok (.ireturn, 1) := by decide +kernel
theorem dX7_locate_0 : decode cX7_locate 0 = .ok (.iload_n 1, 1) := by decide +kernel
theorem dX7_locate_1 : decode cX7_locate 1 = .ok (.invokestatic 270, 3) := by decide +kernel
theorem dX7_locate_4 : decode cX7_locate 4 = .ok (.ifCond .ne 14, 3) := by decide +kernel
theorem dX7_locate_7 : decode cX7_locate 7 = .ok (.new 58, 3) := by decide +kernel
theorem dX7_locate_10 : decode cX7_locate 10 = .ok (.dup, 1) := by decide +kernel
theorem dX7_locate_11 : decode cX7_locate 11 = .ok (.ldc_w 273, 3) := by decide +kernel
theorem dX7_locate_14 : decode cX7_locate 14 = .ok (.invokespecial 62, 3) := by decide +kernel
theorem dX7_locate_17 : decode cX7_locate 17 = .ok (.athrow, 1) := by decide +kernel
theorem dX7_locate_18 : decode cX7_locate 18 = .ok (.aload_n 0, 1) := by decide +kernel
theorem dX7_locate_19 : decode cX7_locate 19 = .ok (.iload_n 1, 1) := by decide +kernel
theorem dX7_locate_20 : decode cX7_locate 20 = .ok (.invokevirtual 278, 3) := by decide +kernel
theorem dX7_locate_23 : decode cX7_locate 23 = .ok (.ireturn, 1) := by decide +kernel
theorem dX7_ifFault_0 : decode cX7_ifFault 0 = .ok (.aload_n 0, 1) := by decide +kernel
theorem dX7_ifFault_1 : decode cX7_ifFault 1 = .ok (.iload_n 1, 1) := by decide +kernel
theorem dX7_ifFault_2 : decode cX7_ifFault 2 = .ok (.invokevirtual 54, 3) := by decide +kernel
theorem dX7_ifFault_5 : decode cX7_ifFault 5 = .ok (.ifCond .eq 10, 3) := by decide +kernel
theorem dX7_ifFault_8 : decode cX7_ifFault 8 = .ok (.iload_n 2, 1) := by decide +kernel
theorem dX7_ifFault_9 : decode cX7_ifFault 9 = .ok (.invokestatic 118, 3) := by decide +kernel
theorem dX7_ifFault_12 : decode cX7_ifFault 12 = .ok (.ifCond .ne 13, 3) := by decide +kernel
theorem dX7_ifFault_15 : decode cX7_ifFault 15 = .ok (.new 58, 3) := by decide +kernel
theorem dX7_ifFault_18 : decode cX7_ifFault 18 = .ok (.dup, 1) := by decide +kernel
theorem dX7_ifFault_19 : decode cX7_ifFault 19 = .ok (.ldc 168, 2) := by decide +kernel
theorem dX7_ifFault_21 : decode cX7_ifFault 21 = .ok (.invokespecial 62, 3) := by decide +kernel
theorem dX7_ifFault_24 : decode cX7_ifFault 24 = .ok (.athrow, 1) := by decide +kernel
theorem dX7_ifFault_25 : decode cX7_ifFault 25 = .ok (.iload_n 3, 1) := by decide +kernel
theorem dX7_ifFault_26 : decode cX7_ifFault 26 = .ok (.invokestatic 170, 3) := by decide +kernel
theorem dX7_ifFault_29 : decode cX7_ifFault 29 = .ok (.ifCond .eq 14, 3) := by decide +kernel
theorem dX7_ifFault_32 : decode cX7_ifFault 32 = .ok (.iload 4, 2) := by decide +kernel
theorem dX7_ifFault_34 : decode cX7_ifFault 34 = .ok (.ifCond .lt 9, 3) := by decide +kernel
theorem dX7_ifFault_37 : decode cX7_ifFault 37 = .ok (.iload 4, 2) := by decide +kernel
theorem dX7_ifFault_39 : decode cX7_ifFault 39 = .ok (.iconst 4, 1) := by decide +kernel
theorem dX7_ifFault_40 : decode cX7_ifFault 40 = .ok (.if_icmp .lt 14, 3) := by decide +kernel
theorem dX7_ifFault_43 : decode cX7_ifFault 43 = .ok (.new 68, 3) := by decide +kernel
theorem dX7_ifFault_46 : decode cX7_ifFault 46 = .ok (.dup, 1) := by decide +kernel
theorem dX7_ifFault_47 : decode cX7_ifFault 47 = .ok (.ldc_w 281, 3) := by decide +kernel
theorem dX7_ifFault_50 : decode cX7_ifFault 50 = .ok (.invokespecial 72, 3) := by decide +kernel
theorem dX7_ifFault_53 : decode cX7_ifFault 53 = .ok (.athrow, 1) := by decide +kernel
theorem dX7_ifFault_54 : decode cX7_ifFault 54 = .ok (.aload_n 0, 1) := by decide +kernel
theorem dX7_ifFault_55 : decode cX7_ifFault 55 = .ok (.getfield 23, 3) := by decide +kernel
theorem dX7_ifFault_58 : decode cX7_ifFault 58 = .ok (.aload_n 0, 1) := by decide +kernel
theorem dX7_ifFault_59 : decode cX7_ifFault 59 = .ok (.getfield 12, 3) := by decide +kernel
theorem dX7_ifFault_62 : decode cX7_ifFault 62 = .ok (.invokevirtual 283, 3) := by decide +kernel
theorem dX7_ifFault_65 : decode cX7_ifFault 65 = .ok (.aload_n 0, 1) := by decide +kernel
theorem dX7_ifFault_66 : decode cX7_ifFault 66 = .ok (.getfield 23, 3) := by decide +kernel
theorem dX7_ifFault_69 : decode cX7_ifFault 69 = .ok (.getfield 175, 3) := by decide +kernel
theorem dX7_ifFault_72 : decode cX7_ifFault 72 = .ok (.iload_n 1, 1) := by decide +kernel
theorem dX7_ifFault_73 : decode cX7_ifFault 73 = .ok (.iload_n 2, 1) := by decide +kernel
theorem dX7_ifFault_74 : decode cX7_ifFault 74 = .ok (.iload_n 3, 1) := by decide +kernel
theorem dX7_ifFault_75 : decode cX7_ifFault 75 = .ok (.invokevirtual 184, 3) := by decide +kernel
theorem dX7_ifFault_78 : decode cX7_ifFault 78 = .ok (.aload_n 0, 1) := by decide +kernel
theorem dX7_ifFault_79 : decode cX7_ifFault 79 = .ok (.getfield 26, 3) := by decide +kernel
theorem dX7_ifFault_82 : decode cX7_ifFault 82 = .ok (.aload_n 0, 1) := by decide +kernel
theorem dX7_ifFault_83 : decode cX7_ifFault 83 = .ok (.getfield 23, 3) := by decide +kernel
theorem dX7_ifFault_86 : decode cX7_ifFault 86 = .ok (.invokevirtual 239, 3) := by decide +kernel
theorem dX7_ifFault_89 : decode cX7_ifFault 89 = .ok (.aload_n 0, 1) := by decide +kernel
theorem dX7_ifFault_90 : decode cX7_ifFault 90 = .ok (.getfield 26, 3) := by decide +kernel
theorem dX7_ifFault_93 : decode cX7_ifFault 93 = .ok (.aload_n 0, 1) := by decide +kernel
theorem dX7_ifFault_94 : decode cX7_ifFault 94 = .ok (.getfield 23, 3) := by decide +kernel
theorem dX7_ifFault_97 : decode cX7_ifFault 97 = .ok (.getfield 73, 3) := by decide +kernel
theorem dX7_ifFault_100 : decode cX7_ifFault 100 = .ok (.invokevirtual 286, 3) := by decide +kernel
theorem dX7_ifFault_103 : decode cX7_ifFault 103 = .ok (.istore 5, 2) := by decide +kernel
theorem dX7_ifFault_105 : decode cX7_ifFault 105 = .ok (.aload_n 0, 1) := by decide +kernel
theorem dX7_ifFault_106 : decode cX7_ifFault 106 = .ok (.getfield 23, 3) := by decide +kernel
theorem dX7_ifFault_109 : decode cX7_ifFault 109 = .ok (.aload_n 0, 1) := by decide +kernel
theorem dX7_ifFault_110 : decode cX7_ifFault 110 = .ok (.getfield 26, 3) := by decide +kernel
theorem dX7_ifFault_113 : decode cX7_ifFault 113 = .ok (.invokestatic 95, 3) := by decide +kernel
theorem dX7_ifFault_116 : decode cX7_ifFault 116 = .ok (.istore 6, 2) := by decide +kernel
theorem dX7_ifFault_118 : decode cX7_ifFault 118 = .ok (.iload 4, 2) := by decide +kernel
theorem dX7_ifFault_120 : decode cX7_ifFault 120 = .ok (.tableswitch 47 0 2 #[28, 31, 39], 28) := by decide +kernel
theorem dX7_ifFault_148 : decode cX7_ifFault 148 = .ok (.iload 6, 2) := by decide +kernel
theorem dX7_ifFault_150 : decode cX7_ifFault 150 = .ok (.ireturn, 1) := by decide +kernel
theorem dX7_ifFault_151 : decode cX7_ifFault 151 = .ok (.aload_n 0, 1) := by decide +kernel
theorem dX7_ifFault_152 : decode cX7_ifFault 152 = .ok (.getfield 26, 3) := by decide +kernel
theorem dX7_ifFault_155 : decode cX7_ifFault 155 = .ok (.getfield 115, 3) := by decide +kernel
theorem dX7_ifFault_158 : decode cX7_ifFault 158 = .ok (.ireturn, 1) := by decide +kernel
theorem dX7_ifFault_159 : decode cX7_ifFault 159 = .ok (.aload_n 0, 1) := by decide +kernel
theorem dX7_ifFault_160 : decode cX7_ifFault 160 = .ok (.getfield 26, 3) := by decide +kernel
theorem dX7_ifFault_163 : decode cX7_ifFault 163 = .ok (.getfield 213, 3) := by decide +kernel
theorem dX7_ifFault_166 : decode cX7_ifFault 166 = .ok (.ireturn, 1) := by decide +kernel
theorem dX7_ifFault_167 : decode cX7_ifFault 167 = .ok (.iload 5, 2) := by decide +kernel
theorem dX7_ifFault_169 : decode cX7_ifFault 169 = .ok (.iconst (-1), 1) := by decide +kernel
theorem dX7_ifFault_170 : decode cX7_ifFault 170 = .ok (.if_icmp .ne 7, 3) := by decide +kernel
theorem dX7_ifFault_173 : decode cX7_ifFault 173 = .ok (.iconst (-1), 1) := by decide +kernel
theorem dX7_ifFault_174 : decode cX7_ifFault 174 = .ok (.goto 18, 3) := by decide +kernel
theorem dX7_ifFault_177 : decode cX7_ifFault 177 = .ok (.bipush 100, 2) := by decide +kernel
theorem dX7_ifFault_179 : decode cX7_ifFault 179 = .ok (.iload 5, 2) := by decide +kernel
theorem dX7_ifFault_181 : decode cX7_ifFault 181 = .ok (.iconst 1, 1) := by decide +kernel
theorem dX7_ifFault_182 : decode cX7_ifFault 182 = .ok (.ishr, 1) := by decide +kernel
theorem dX7_ifFault_183 : decode cX7_ifFault 183 = .ok (.imul, 1) := by decide +kernel
theorem dX7_ifFault_184 : decode cX7_ifFault 184 = .ok (.bipush 10, 2) := by decide +kernel
theorem dX7_ifFault_186 : decode cX7_ifFault 186 = .ok (.iload 5, 2) := by decide +kernel
theorem dX7_ifFault_188 : decode cX7_ifFault 188 = .ok (.iconst 1, 1) := by decide +kernel
theorem dX7_ifFault_189 : decode cX7_ifFault 189 = .ok (.iand, 1) := by decide +kernel
theorem dX7_ifFault_190 : decode cX7_ifFault 190 = .ok (.imul, 1) := by decide +kernel
theorem dX7_ifFault_191 : decode cX7_ifFault 191 = .ok (.iadd, 1) := by decide +kernel
theorem dX7_ifFault_192 : decode cX7_ifFault 192 = .ok (.ireturn, 1) := by decide +kernel
theorem dX7_ifToggled_0 : decode cX7_ifToggled 0 = .ok (.aload_n 0, 1) := by decide +kernel
theorem dX7_ifToggled_1 : decode cX7_ifToggled 1 = .ok (.iload_n 1, 1) := by decide +kernel
theorem dX7_ifToggled_2 : decode cX7_ifToggled 2 = .ok (.invokevirtual 99, 3) := by decide +kernel
theorem dX7_ifToggled_5 : decode cX7_ifToggled 5 = .ok (.ifCond .ne 13, 3) := by decide +kernel
theorem dX7_ifToggled_8 : decode cX7_ifToggled 8 = .ok (.new 58, 3) := by decide +kernel
theorem dX7_ifToggled_11 : decode cX7_ifToggled 11 = .ok (.dup, 1) := by decide +kernel
theorem dX7_ifToggled_12 : decode cX7_ifToggled 12 = .ok (.ldc 102, 2) := by decide +kernel
theorem dX7_ifToggled_14 : decode cX7_ifToggled 14 = .ok (.invokespecial 62, 3) := by decide +kernel
theorem dX7_ifToggled_17 : decode cX7_ifToggled 17 = .ok (.athrow, 1) := by decide +kernel
theorem dX7_ifToggled_18 : decode cX7_ifToggled 18 = .ok (.aload_n 0, 1) := by decide +kernel
theorem dX7_ifToggled_19 : decode cX7_ifToggled 19 = .ok (.iload_n 1, 1) := by decide +kernel
theorem dX7_ifToggled_20 : decode cX7_ifToggled 20 = .ok (.invokevirtual 290, 3) := by decide +kernel
theorem dX7_ifToggled_23 : decode cX7_ifToggled 23 = .ok (.ireturn, 1) := by decide +kernel
theorem dX7_neededRating_0 : decode cX7_neededRating 0 = .ok (.aload_n 0, 1) := by decide +kernel
theorem dX7_neededRating_1 : decode cX7_neededRating 1 = .ok (.iload_n 1, 1) := by decide +kernel
theorem dX7_neededRating_2 : decode cX7_neededRating 2 = .ok (.invokevirtual 99, 3) := by decide +kernel
theorem dX7_neededRating_5 : decode cX7_neededRating 5 = .ok (.ifCond .eq 10, 3) := by decide +kernel
theorem dX7_neededRating_8 : decode cX7_neededRating 8 = .ok (.iload_n 2, 1) := by decide +kernel
theorem dX7_neededRating_9 : decode cX7_neededRating 9 = .ok (.invokestatic 118, 3) := by decide +kernel
theorem dX7_neededRating_12 : decode cX7_neededRating 12 = .ok (.ifCond .ne 13, 3) := by decide +kernel
theorem dX7_neededRating_15 : decode cX7_neededRating 15 = .ok (.new 58, 3) := by decide +kernel
theorem dX7_neededRating_18 : decode cX7_neededRating 18 = .ok (.dup, 1) := by decide +kernel
theorem dX7_neededRating_19 : decode cX7_neededRating 19 = .ok (.ldc 121, 2) := by decide +kernel
theorem dX7_neededRating_21 : decode cX7_neededRating 21 = .ok (.invokespecial 62, 3) := by decide +kernel
theorem dX7_neededRating_24 : decode cX7_neededRating 24 = .ok (.athrow, 1) := by decide +kernel
theorem dX7_neededRating_25 : decode cX7_neededRating 25 = .ok (.aload_n 0, 1) := by decide +kernel
theorem dX7_neededRating_26 : decode cX7_neededRating 26 = .ok (.invokevirtual 293, 3) := by decide +kernel
theorem dX7_neededRating_29 : decode cX7_neededRating 29 = .ok (.aload_n 0, 1) := by decide +kernel
theorem dX7_neededRating_30 : decode cX7_neededRating 30 = .ok (.getfield 29, 3) := by decide +kernel
theorem dX7_neededRating_33 : decode cX7_neededRating 33 = .ok (.iconst 2, 1) := by decide +kernel
theorem dX7_neededRating_34 : decode cX7_neededRating 34 = .ok (.iload_n 1, 1) := by decide +kernel
theorem dX7_neededRating_35 : decode cX7_neededRating 35 = .ok (.imul, 1) := by decide +kernel
theorem dX7_neededRating_36 : decode cX7_neededRating 36 = .ok (.iload_n 2, 1) := by decide +kernel
theorem dX7_neededRating_37 : decode cX7_neededRating 37 = .ok (.iadd, 1) := by decide +kernel
theorem dX7_neededRating_38 : decode cX7_neededRating 38 = .ok (.invokevirtual 296, 3) := by decide +kernel
theorem dX7_neededRating_41 : decode cX7_neededRating 41 = .ok (.ireturn, 1) := by decide +kernel
theorem dX7_lossShare_0 : decode cX7_lossShare 0 = .ok (.aload_n 0, 1) := by decide +kernel
theorem dX7_lossShare_1 : decode cX7_lossShare 1 = .ok (.getfield 12, 3) := by decide +kernel
theorem dX7_lossShare_4 : decode cX7_lossShare 4 = .ok (.getfield 207, 3) := by decide +kernel
theorem dX7_lossShare_7 : decode cX7_lossShare 7 = .ok (.aload_n 0, 1) := by decide +kernel
theorem dX7_lossShare_8 : decode cX7_lossShare 8 = .ok (.getfield 12, 3) := by decide +kernel
theorem dX7_lossShare_11 : decode cX7_lossShare 11 = .ok (.getfield 210, 3) := by decide +kernel
theorem dX7_lossShare_14 : decode cX7_lossShare 14 = .ok (.iadd, 1) := by decide +kernel
theorem dX7_lossShare_15 : decode cX7_lossShare 15 = .ok (.istore_n 1, 1) := by decide +kernel
theorem dX7_lossShare_16 : decode cX7_lossShare 16 = .ok (.iload_n 1, 1) := by decide +kernel
theorem dX7_lossShare_17 : decode cX7_lossShare 17 = .ok (.ifCond .ne 5, 3) := by decide +kernel
theorem dX7_lossShare_20 : decode cX7_lossShare 20 = .ok (.dconst 0, 1) := by decide +kernel
theorem dX7_lossShare_21 : decode cX7_lossShare 21 = .ok (.dreturn, 1) := by decide +kernel
theorem dX7_lossShare_22 : decode cX7_lossShare 22 = .ok (.aload_n 0, 1) := by decide +kernel
theorem dX7_lossShare_23 : decode cX7_lossShare 23 = .ok (.getfield 12, 3) := by decide +kernel
theorem dX7_lossShare_26 : decode cX7_lossShare 26 = .ok (.getfield 210, 3) := by decide +kernel
theorem dX7_lossShare_29 : decode cX7_lossShare 29 = .ok (.i2d, 1) := by decide +kernel
theorem dX7_lossShare_30 : decode cX7_lossShare 30 = .ok (.iload_n 1, 1) := by decide +kernel
theorem dX7_lossShare_31 : decode cX7_lossShare 31 = .ok (.i2d, 1) := by decide +kernel
theorem dX7_lossShare_32 : decode cX7_lossShare 32 = .ok (.ddiv, 1) := by decide +kernel
theorem dX7_lossShare_33 : decode cX7_lossShare 33 = .ok (.dreturn, 1) := by decide +kernel
theorem dX7_digest_0 : decode cX7_digest 0 = .ok (.ldc2_w 299, 3) := by decide +kernel
theorem dX7_digest_3 : decode cX7_digest 3 = .ok (.lstore_n 1, 1) := by decide +kernel
theorem dX7_digest_4 : decode cX7_digest 4 = .ok (.iconst 0, 1) := by decide +kernel
theorem dX7_digest_5 : decode cX7_digest 5 = .ok (.istore_n 3, 1) := by decide +kernel
theorem dX7_digest_6 : decode cX7_digest 6 = .ok (.iload_n 3, 1) := by decide +kernel
theorem dX7_digest_7 : decode cX7_digest 7 = .ok (.bipush 12, 2) := by decide +kernel
theorem dX7_digest_9 : decode cX7_digest 9 = .ok (.if_icmp .ge 22, 3) := by decide +kernel
theorem dX7_digest_12 : decode cX7_digest 12 = .ok (.ldc2_w 301, 3) := by decide +kernel
theorem dX7_digest_15 : decode cX7_digest 15 = .ok (.lload_n 1, 1) := by decide +kernel
theorem dX7_digest_16 : decode cX7_digest 16 = .ok (.lmul, 1) := by decide +kernel
theorem dX7_digest_17 : decode cX7_digest 17 = .ok (.aload_n 0, 1) := by decide +kernel
theorem dX7_digest_18 : decode cX7_digest 18 = .ok (.iload_n 3, 1) := by decide +kernel
theorem dX7_digest_19 : decode cX7_digest 19 = .ok (.invokevirtual 266, 3) := by decide +kernel
theorem dX7_digest_22 : decode cX7_digest 22 = .ok (.i2l, 1) := by decide +kernel
theorem dX7_digest_23 : decode cX7_digest 23 = .ok (.ladd, 1) := by decide +kernel
theorem dX7_digest_24 : decode cX7_digest 24 = .ok (.lstore_n 1, 1) := by decide +kernel
theorem dX7_digest_25 : decode cX7_digest 25 = .ok (.iinc 3 1, 3) := by decide +kernel
theorem dX7_digest_28 : decode cX7_digest 28 = .ok (.goto (-22), 3) := by decide +kernel
theorem dX7_digest_31 : decode cX7_digest 31 = .ok (.aload_n 0, 1) := by decide +kernel
theorem dX7_digest_32 : decode cX7_digest 32 = .ok (.lload_n 1, 1) := by decide +kernel
theorem dX7_digest_33 : decode cX7_digest 33 = .ok (.invokevirtual 303, 3) := by decide +kernel
theorem dX7_digest_36 : decode cX7_digest 36 = .ok (.lstore_n 1, 1) := by decide +kernel
theorem dX7_digest_37 : decode cX7_digest 37 = .ok (.aload_n 0, 1) := by decide +kernel
theorem dX7_digest_38 : decode cX7_digest 38 = .ok (.lload_n 1, 1) := by decide +kernel
theorem dX7_digest_39 : decode cX7_digest 39 = .ok (.invokevirtual 307, 3) := by decide +kernel
theorem dX7_digest_42 : decode cX7_digest 42 = .ok (.lstore_n 1, 1) := by decide +kernel
theorem dX7_digest_43 : decode cX7_digest 43 = .ok (.iconst 0, 1) := by decide +kernel
theorem dX7_digest_44 : decode cX7_digest 44 = .ok (.istore_n 3, 1) := by decide +kernel
theorem dX7_digest_45 : decode cX7_digest 45 = .ok (.iload_n 3, 1) := by decide +kernel
theorem dX7_digest_46 : decode cX7_digest 46 = .ok (.iconst 2, 1) := by decide +kernel
theorem dX7_digest_47 : decode cX7_digest 47 = .ok (.if_icmp .ge 38, 3) := by decide +kernel
theorem dX7_digest_50 : decode cX7_digest 50 = .ok (.ldc2_w 301, 3) := by decide +kernel
theorem dX7_digest_53 : decode cX7_digest 53 = .ok (.lload_n 1, 1) := by decide +kernel
theorem dX7_digest_54 : decode cX7_digest 54 = .ok (.lmul, 1) := by decide +kernel
theorem dX7_digest_55 : decode cX7_digest 55 = .ok (.aload_n 0, 1) := by decide +kernel
theorem dX7_digest_56 : decode cX7_digest 56 = .ok (.getfield 19, 3) := by decide +kernel
theorem dX7_digest_59 : decode cX7_digest 59 = .ok (.iload_n 3, 1) := by decide +kernel
theorem dX7_digest_60 : decode cX7_digest 60 = .ok (.invokevirtual 275, 3) := by decide +kernel
theorem dX7_digest_63 : decode cX7_digest 63 = .ok (.i2l, 1) := by decide +kernel
theorem dX7_digest_64 : decode cX7_digest 64 = .ok (.ladd, 1) := by decide +kernel
theorem dX7_digest_65 : decode cX7_digest 65 = .ok (.lstore_n 1, 1) := by decide +kernel
theorem dX7_digest_66 : decode cX7_digest 66 = .ok (.ldc2_w 301, 3) := by decide +kernel
theorem dX7_digest_69 : decode cX7_digest 69 = .ok (.lload_n 1, 1) := by decide +kernel
theorem dX7_digest_70 : decode cX7_digest 70 = .ok (.lmul, 1) := by decide +kernel
theorem dX7_digest_71 : decode cX7_digest 71 = .ok (.aload_n 0, 1) := by decide +kernel
theorem dX7_digest_72 : decode cX7_digest 72 = .ok (.iload_n 3, 1) := by decide +kernel
theorem dX7_digest_73 : decode cX7_digest 73 = .ok (.invokevirtual 278, 3) := by decide +kernel
theorem dX7_digest_76 : decode cX7_digest 76 = .ok (.i2l, 1) := by decide +kernel
theorem dX7_digest_77 : decode cX7_digest 77 = .ok (.ladd, 1) := by decide +kernel
theorem dX7_digest_78 : decode cX7_digest 78 = .ok (.lstore_n 1, 1) := by decide +kernel
theorem dX7_digest_79 : decode cX7_digest 79 = .ok (.iinc 3 1, 3) := by decide +kernel
theorem dX7_digest_82 : decode cX7_digest 82 = .ok (.goto (-37), 3) := by decide +kernel
theorem dX7_digest_85 : decode cX7_digest 85 = .ok (.aload_n 0, 1) := by decide +kernel
theorem dX7_digest_86 : decode cX7_digest 86 = .ok (.lload_n 1, 1) := by decide +kernel
theorem dX7_digest_87 : decode cX7_digest 87 = .ok (.invokevirtual 310, 3) := by decide +kernel
theorem dX7_digest_90 : decode cX7_digest 90 = .ok (.lstore_n 1, 1) := by decide +kernel
theorem dX7_digest_91 : decode cX7_digest 91 = .ok (.ldc2_w 301, 3) := by decide +kernel
theorem dX7_digest_94 : decode cX7_digest 94 = .ok (.lload_n 1, 1) := by decide +kernel
theorem dX7_digest_95 : decode cX7_digest 95 = .ok (.lmul, 1) := by decide +kernel
theorem dX7_digest_96 : decode cX7_digest 96 = .ok (.aload_n 0, 1) := by decide +kernel
theorem dX7_digest_97 : decode cX7_digest 97 = .ok (.invokevirtual 313, 3) := by decide +kernel
theorem dX7_digest_100 : decode cX7_digest 100 = .ok (.invokestatic 317, 3) := by decide +kernel
theorem dX7_digest_103 : decode cX7_digest 103 = .ok (.ladd, 1) := by decide +kernel
theorem dX7_digest_104 : decode cX7_digest 104 = .ok (.lstore_n 1, 1) := by decide +kernel
theorem dX7_digest_105 : decode cX7_digest 105 = .ok (.aload_n 0, 1) := by decide +kernel
theorem dX7_digest_106 : decode cX7_digest 106 = .ok (.lload_n 1, 1) := by decide +kernel
theorem dX7_digest_107 : decode cX7_digest 107 = .ok (.invokevirtual 321, 3) := by decide +kernel
theorem dX7_digest_110 : decode cX7_digest 110 = .ok (.lreturn, 1) := by decide +kernel
theorem dX7_isBox_0 : decode cX7_isBox 0 = .ok (.iload_n 1, 1) := by decide +kernel
theorem dX7_isBox_1 : decode cX7_isBox 1 = .ok (.ifCond .lt 21, 3) := by decide +kernel
theorem dX7_isBox_4 : decode cX7_isBox 4 = .ok (.iload_n 1, 1) := by decide +kernel
theorem dX7_isBox_5 : decode cX7_isBox 5 = .ok (.aload_n 0, 1) := by decide +kernel
theorem dX7_isBox_6 : decode cX7_isBox 6 = .ok (.getfield 12, 3) := by decide +kernel
theorem dX7_isBox_9 : decode cX7_isBox 9 = .ok (.getfield 73, 3) := by decide +kernel
theorem dX7_isBox_12 : decode cX7_isBox 12 = .ok (.getfield 77, 3) := by decide +kernel
theorem dX7_isBox_15 : decode cX7_isBox 15 = .ok (.if_icmp .ge 7, 3) := by decide +kernel
theorem dX7_isBox_18 : decode cX7_isBox 18 = .ok (.iconst 1, 1) := by decide +kernel
theorem dX7_isBox_19 : decode cX7_isBox 19 = .ok (.goto 4, 3) := by decide +kernel
theorem dX7_isBox_22 : decode cX7_isBox 22 = .ok (.iconst 0, 1) := by decide +kernel
theorem dX7_isBox_23 : decode cX7_isBox 23 = .ok (.ireturn, 1) := by decide +kernel
theorem dX7_isFedBox_0 : decode cX7_isFedBox 0 = .ok (.iload_n 1, 1) := by decide +kernel
theorem dX7_isFedBox_1 : decode cX7_isFedBox 1 = .ok (.ifCond .le 21, 3) := by decide +kernel
theorem dX7_isFedBox_4 : decode cX7_isFedBox 4 = .ok (.iload_n 1, 1) := by decide +kernel
theorem dX7_isFedBox_5 : decode cX7_isFedBox 5 = .ok (.aload_n 0, 1) := by decide +kernel
theorem dX7_isFedBox_6 : decode cX7_isFedBox 6 = .ok (.getfield 12, 3) := by decide +kernel
theorem dX7_isFedBox_9 : decode cX7_isFedBox 9 = .ok (.getfield 73, 3) := by decide +kernel
theorem dX7_isFedBox_12 : decode cX7_isFedBox 12 = .ok (.getfield 77, 3) := by decide +kernel
theorem dX7_isFedBox_15 : decode cX7_isFedBox 15 = .ok (.if_icmp .ge 7, 3) := by decide +kernel
theorem dX7_isFedBox_18 : decode cX7_isFedBox 18 = .ok (.iconst 1, 1) := by decide +kernel
theorem dX7_isFedBox_19 : decode cX7_isFedBox 19 = .ok (.goto 4, 3) := by decide +kernel
theorem dX7_isFedBox_22 : decode cX7_isFedBox 22 = .ok (.iconst 0, 1) := by decide +kernel
theorem dX7_isFedBox_23 : decode cX7_isFedBox 23 = .ok (.ireturn, 1) := by decide +kernel
theorem dX7_isLantern_0 : decode cX7_isLantern 0 = .ok (.iload_n 1, 1) := by decide +kernel
theorem dX7_isLantern_1 : decode cX7_isLantern 1 = .ok (.ifCond .lt 21, 3) := by decide +kernel
theorem dX7_isLantern_4 : decode cX7_isLantern 4 = .ok (.iload_n 1, 1) := by decide +kernel
theorem dX7_isLantern_5 : decode cX7_isLantern 5 = .ok (.aload_n 0, 1) := by decide +kernel
theorem dX7_isLantern_6 : decode cX7_isLantern 6 = .ok (.getfield 12, 3) := by decide +kernel
theorem dX7_isLantern_9 : decode cX7_isLantern 9 = .ok (.getfield 142, 3) := by decide +kernel
theorem dX7_isLantern_12 : decode cX7_isLantern 12 = .ok (.getfield 146, 3) := by decide +kernel
theorem dX7_isLantern_15 : decode cX7_isLantern 15 = .ok (.if_icmp .ge 7, 3) := by decide +kernel
theorem dX7_isLantern_18 : decode cX7_isLantern 18 = .ok (.iconst 1, 1) := by decide +kernel
theorem dX7_isLantern_19 : decode cX7_isLantern 19 = .ok (.goto 4, 3) := by decide +kernel
theorem dX7_isLantern_22 : decode cX7_isLantern 22 = .ok (.iconst 0, 1) := by decide +kernel
theorem dX7_isLantern_23 : decode cX7_isLantern 23 = .ok (.ireturn, 1) := by decide +kernel
theorem dX7_isFault_0 : decode cX7_isFault 0 = .ok (.iload_n 1, 1) := by decide +kernel
theorem dX7_isFault_1 : decode cX7_isFault 1 = .ok (.ifCond .lt 21, 3) := by decide +kernel
theorem dX7_isFault_4 : decode cX7_isFault 4 = .ok (.iload_n 1, 1) := by decide +kernel
theorem dX7_isFault_5 : decode cX7_isFault 5 = .ok (.aload_n 0, 1) := by decide +kernel
theorem dX7_isFault_6 : decode cX7_isFault 6 = .ok (.getfield 12, 3) := by decide +kernel
theorem dX7_isFault_9 : decode cX7_isFault 9 = .ok (.getfield 175, 3) := by decide +kernel
theorem dX7_isFault_12 : decode cX7_isFault 12 = .ok (.getfield 179, 3) := by decide +kernel
theorem dX7_isFault_15 : decode cX7_isFault 15 = .ok (.if_icmp .ge 7, 3) := by decide +kernel
theorem dX7_isFault_18 : decode cX7_isFault 18 = .ok (.iconst 1, 1) := by decide +kernel
theorem dX7_isFault_19 : decode cX7_isFault 19 = .ok (.goto 4, 3) := by decide +kernel
theorem dX7_isFault_22 : decode cX7_isFault 22 = .ok (.iconst 0, 1) := by decide +kernel
theorem dX7_isFault_23 : decode cX7_isFault 23 = .ok (.ireturn, 1) := by decide +kernel
theorem dX7_isTerminal_0 : decode cX7_isTerminal 0 = .ok (.iload_n 0, 1) := by decide +kernel
theorem dX7_isTerminal_1 : decode cX7_isTerminal 1 = .ok (.ifCond .eq 8, 3) := by decide +kernel
theorem dX7_isTerminal_4 : decode cX7_isTerminal 4 = .ok (.iload_n 0, 1) := by decide +kernel
theorem dX7_isTerminal_5 : decode cX7_isTerminal 5 = .ok (.iconst 1, 1) := by decide +kernel
theorem dX7_isTerminal_6 : decode cX7_isTerminal 6 = .ok (.if_icmp .ne 7, 3) := by decide +kernel
theorem dX7_isTerminal_9 : decode cX7_isTerminal 9 = .ok (.iconst 1, 1) := by decide +kernel
theorem dX7_isTerminal_10 : decode cX7_isTerminal 10 = .ok (.goto 4, 3) := by decide +kernel
theorem dX7_isTerminal_13 : decode cX7_isTerminal 13 = .ok (.iconst 0, 1) := by decide +kernel
theorem dX7_isTerminal_14 : decode cX7_isTerminal 14 = .ok (.ireturn, 1) := by decide +kernel
theorem dX7_isPole_0 : decode cX7_isPole 0 = .ok (.iload_n 0, 1) := by decide +kernel
theorem dX7_isPole_1 : decode cX7_isPole 1 = .ok (.ifCond .eq 8, 3) := by decide +kernel
theorem dX7_isPole_4 : decode cX7_isPole 4 = .ok (.iload_n 0, 1) := by decide +kernel
theorem dX7_isPole_5 : decode cX7_isPole 5 = .ok (.iconst 1, 1) := by decide +kernel
theorem dX7_isPole_6 : decode cX7_isPole 6 = .ok (.if_icmp .ne 7, 3) := by decide +kernel
theorem dX7_isPole_9 : decode cX7_isPole 9 = .ok (.iconst 1, 1) := by decide +kernel
theorem dX7_isPole_10 : decode cX7_isPole 10 = .ok (.goto 4, 3) := by decide +kernel
theorem dX7_isPole_13 : decode cX7_isPole 13 = .ok (.iconst 0, 1) := by decide +kernel
theorem dX7_isPole_14 : decode cX7_isPole 14 = .ok (.ireturn, 1) := by decide +kernel
theorem dX7_isRating_0 : decode cX7_isRating 0 = .ok (.iload_n 0, 1) := by decide +kernel
theorem dX7_isRating_1 : decode cX7_isRating 1 = .ok (.iconst 1, 1) := by decide +kernel
theorem dX7_isRating_2 : decode cX7_isRating 2 = .ok (.if_icmp .lt 13, 3) := by decide +kernel
theorem dX7_isRating_5 : decode cX7_isRating 5 = .ok (.iload_n 0, 1) := by decide +kernel
theorem dX7_isRating_6 : decode cX7_isRating 6 = .ok (.bipush 60, 2) := by decide +kernel
theorem dX7_isRating_8 : decode cX7_isRating 8 = .ok (.if_icmp .gt 7, 3) := by decide +kernel
theorem dX7_isRating_11 : decode cX7_isRating 11 = .ok (.iconst 1, 1) := by decide +kernel
theorem dX7_isRating_12 : decode cX7_isRating 12 = .ok (.goto 4, 3) := by decide +kernel
theorem dX7_isRating_15 : decode cX7_isRating 15 = .ok (.iconst 0, 1) := by decide +kernel
theorem dX7_isRating_16 : decode cX7_isRating 16 = .ok (.ireturn, 1) := by decide +kernel
theorem dX7_isStrength_0 : decode cX7_isStrength 0 = .ok (.iload_n 0, 1) := by decide +kernel
theorem dX7_isStrength_1 : decode cX7_isStrength 1 = .ok (.iconst 1, 1) := by decide +kernel
theorem dX7_isStrength_2 : decode cX7_isStrength 2 = .ok (.if_icmp .lt 13, 3) := by decide +kernel
theorem dX7_isStrength_5 : decode cX7_isStrength 5 = .ok (.iload_n 0, 1) := by decide +kernel
theorem dX7_isStrength_6 : decode cX7_isStrength 6 = .ok (.bipush 30, 2) := by decide +kernel
theorem dX7_isStrength_8 : decode cX7_isStrength 8 = .ok (.if_icmp .gt 7, 3) := by decide +kernel
theorem dX7_isStrength_11 : decode cX7_isStrength 11 = .ok (.iconst 1, 1) := by decide +kernel
theorem dX7_isStrength_12 : decode cX7_isStrength 12 = .ok (.goto 4, 3) := by decide +kernel
theorem dX7_isStrength_15 : decode cX7_isStrength 15 = .ok (.iconst 0, 1) := by decide +kernel
theorem dX7_isStrength_16 : decode cX7_isStrength 16 = .ok (.ireturn, 1) := by decide +kernel
theorem dX7_oneIf_0 : decode cX7_oneIf 0 = .ok (.iload_n 0, 1) := by decide +kernel
theorem dX7_oneIf_1 : decode cX7_oneIf 1 = .ok (.ifCond .eq 7, 3) := by decide +kernel
theorem dX7_oneIf_4 : decode cX7_oneIf 4 = .ok (.iconst 1, 1) := by decide +kernel
theorem dX7_oneIf_5 : decode cX7_oneIf 5 = .ok (.goto 4, 3) := by decide +kernel
theorem dX7_oneIf_8 : decode cX7_oneIf 8 = .ok (.iconst 0, 1) := by decide +kernel
theorem dX7_oneIf_9 : decode cX7_oneIf 9 = .ok (.ireturn, 1) := by decide +kernel
theorem dX7_settle_0 : decode cX7_settle 0 = .ok (.aload_n 1, 1) := by decide +kernel
theorem dX7_settle_1 : decode cX7_settle 1 = .ok (.aload_n 0, 1) := by decide +kernel
theorem dX7_settle_2 : decode cX7_settle 2 = .ok (.invokevirtual 239, 3) := by decide +kernel
theorem dX7_settle_5 : decode cX7_settle 5 = .ok (.iconst 0, 1) := by decide +kernel
theorem dX7_settle_6 : decode cX7_settle 6 = .ok (.istore_n 2, 1) := by decide +kernel
theorem dX7_settle_7 : decode cX7_settle 7 = .ok (.iload_n 2, 1) := by decide +kernel
theorem dX7_settle_8 : decode cX7_settle 8 = .ok (.bipush 24, 2) := by decide +kernel
theorem dX7_settle_10 : decode cX7_settle 10 = .ok (.if_icmp .ge 50, 3) := by decide +kernel
theorem dX7_settle_13 : decode cX7_settle 13 = .ok (.aload_n 1, 1) := by decide +kernel
theorem dX7_settle_14 : decode cX7_settle 14 = .ok (.aload_n 0, 1) := by decide +kernel
theorem dX7_settle_15 : decode cX7_settle 15 = .ok (.getfield 73, 3) := by decide +kernel
theorem dX7_settle_18 : decode cX7_settle 18 = .ok (.invokevirtual 286, 3) := by decide +kernel
theorem dX7_settle_21 : decode cX7_settle 21 = .ok (.istore_n 3, 1) := by decide +kernel
theorem dX7_settle_22 : decode cX7_settle 22 = .ok (.iload_n 3, 1) := by decide +kernel
theorem dX7_settle_23 : decode cX7_settle 23 = .ok (.iconst (-1), 1) := by decide +kernel
theorem dX7_settle_24 : decode cX7_settle 24 = .ok (.if_icmp .ne 5, 3) := by decide +kernel
theorem dX7_settle_27 : decode cX7_settle 27 = .ok (.iload_n 2, 1) := by decide +kernel
theorem dX7_settle_28 : decode cX7_settle 28 = .ok (.ireturn, 1) := by decide +kernel
theorem dX7_settle_29 : decode cX7_settle 29 = .ok (.aload_n 0, 1) := by decide +kernel
theorem dX7_settle_30 : decode cX7_settle 30 = .ok (.getfield 73, 3) := by decide +kernel
theorem dX7_settle_33 : decode cX7_settle 33 = .ok (.getfield 131, 3) := by decide +kernel
theorem dX7_settle_36 : decode cX7_settle 36 = .ok (.iload_n 3, 1) := by decide +kernel
theorem dX7_settle_37 : decode cX7_settle 37 = .ok (.iconst 1, 1) := by decide +kernel
theorem dX7_settle_38 : decode cX7_settle 38 = .ok (.bastore, 1) := by decide +kernel
theorem dX7_settle_39 : decode cX7_settle 39 = .ok (.aload_n 0, 1) := by decide +kernel
theorem dX7_settle_40 : decode cX7_settle 40 = .ok (.dup, 1) := by decide +kernel
theorem dX7_settle_41 : decode cX7_settle 41 = .ok (.getfield 324, 3) := by decide +kernel
theorem dX7_settle_44 : decode cX7_settle 44 = .ok (.iconst 1, 1) := by decide +kernel
theorem dX7_settle_45 : decode cX7_settle 45 = .ok (.iadd, 1) := by decide +kernel
theorem dX7_settle_46 : decode cX7_settle 46 = .ok (.putfield 324, 3) := by decide +kernel
theorem dX7_settle_49 : decode cX7_settle 49 = .ok (.iinc 2 1, 3) := by decide +kernel
theorem dX7_settle_52 : decode cX7_settle 52 = .ok (.aload_n 1, 1) := by decide +kernel
theorem dX7_settle_53 : decode cX7_settle 53 = .ok (.aload_n 0, 1) := by decide +kernel
theorem dX7_settle_54 : decode cX7_settle 54 = .ok (.invokevirtual 239, 3) := by decide +kernel
theorem dX7_settle_57 : decode cX7_settle 57 = .ok (.goto (-50), 3) := by decide +kernel
theorem dX7_settle_60 : decode cX7_settle 60 = .ok (.iload_n 2, 1) := by decide +kernel
theorem dX7_settle_61 : decode cX7_settle 61 = .ok (.ireturn, 1) := by decide +kernel
theorem dX7_burningIfToggled_0 : decode cX7_burningIfToggled 0 = .ok (.aload_n 0, 1) := by decide +kernel
theorem dX7_burningIfToggled_1 : decode cX7_burningIfToggled 1 = .ok (.getfield 23, 3) := by decide +kernel
theorem dX7_burningIfToggled_4 : decode cX7_burningIfToggled 4 = .ok (.aload_n 0, 1) := by decide +kernel
theorem dX7_burningIfToggled_5 : decode cX7_burningIfToggled 5 = .ok (.getfield 12, 3) := by decide +kernel
theorem dX7_burningIfToggled_8 : decode cX7_burningIfToggled 8 = .ok (.invokevirtual 283, 3) := by decide +kernel
theorem dX7_burningIfToggled_11 : decode cX7_burningIfToggled 11 = .ok (.aload_n 0, 1) := by decide +kernel
theorem dX7_burningIfToggled_12 : decode cX7_burningIfToggled 12 = .ok (.getfield 23, 3) := by decide +kernel
theorem dX7_burningIfToggled_15 : decode cX7_burningIfToggled 15 = .ok (.getfield 73, 3) := by decide +kernel
theorem dX7_burningIfToggled_18 : decode cX7_burningIfToggled 18 = .ok (.getfield 104, 3) := by decide +kernel
theorem dX7_burningIfToggled_21 : decode cX7_burningIfToggled 21 = .ok (.iload_n 1, 1) := by decide +kernel
theorem dX7_burningIfToggled_22 : decode cX7_burningIfToggled 22 = .ok (.aload_n 0, 1) := by decide +kernel
theorem dX7_burningIfToggled_23 : decode cX7_burningIfToggled 23 = .ok (.getfield 23, 3) := by decide +kernel
theorem dX7_burningIfToggled_26 : decode cX7_burningIfToggled 26 = .ok (.getfield 73, 3) := by decide +kernel
theorem dX7_burningIfToggled_29 : decode cX7_burningIfToggled 29 = .ok (.getfield 104, 3) := by decide +kernel
theorem dX7_burningIfToggled_32 : decode cX7_burningIfToggled 32 = .ok (.iload_n 1, 1) := by decide +kernel
theorem dX7_burningIfToggled_33 : decode cX7_burningIfToggled 33 = .ok (.baload, 1) := by decide +kernel
theorem dX7_burningIfToggled_34 : decode cX7_burningIfToggled 34 = .ok (.ifCond .ne 7, 3) := by decide +kernel
theorem dX7_burningIfToggled_37 : decode cX7_burningIfToggled 37 = .ok (.iconst 1, 1) := by decide +kernel
theorem dX7_burningIfToggled_38 : decode cX7_burningIfToggled 38 = .ok (.goto 4, 3) := by decide +kernel
theorem dX7_burningIfToggled_41 : decode cX7_burningIfToggled 41 = .ok (.iconst 0, 1) := by decide +kernel
theorem dX7_burningIfToggled_42 : decode cX7_burningIfToggled 42 = .ok (.bastore, 1) := by decide +kernel
theorem dX7_burningIfToggled_43 : decode cX7_burningIfToggled 43 = .ok (.aload_n 0, 1) := by decide +kernel
theorem dX7_burningIfToggled_44 : decode cX7_burningIfToggled 44 = .ok (.getfield 23, 3) := by decide +kernel
theorem dX7_burningIfToggled_47 : decode cX7_burningIfToggled 47 = .ok (.aload_n 0, 1) := by decide +kernel
theorem dX7_burningIfToggled_48 : decode cX7_burningIfToggled 48 = .ok (.getfield 26, 3) := by decide +kernel
theorem dX7_burningIfToggled_51 : decode cX7_burningIfToggled 51 = .ok (.invokestatic 95, 3) := by decide +kernel
theorem dX7_burningIfToggled_54 : decode cX7_burningIfToggled 54 = .ok (.pop, 1) := by decide +kernel
theorem dX7_burningIfToggled_55 : decode cX7_burningIfToggled 55 = .ok (.aload_n 0, 1) := by decide +kernel
theorem dX7_burningIfToggled_56 : decode cX7_burningIfToggled 56 = .ok (.getfield 26, 3) := by decide +kernel
theorem dX7_burningIfToggled_59 : decode cX7_burningIfToggled 59 = .ok (.getfield 115, 3) := by decide +kernel
theorem dX7_burningIfToggled_62 : decode cX7_burningIfToggled 62 = .ok (.ireturn, 1) := by decide +kernel
theorem dX7_surveyWithWholeFuses_0 : decode cX7_surveyWithWholeFuses 0 = .ok (.aload_n 0, 1) := by decide +kernel
theorem dX7_surveyWithWholeFuses_1 : decode cX7_surveyWithWholeFuses 1 = .ok (.getfield 23, 3) := by decide +kernel
theorem dX7_surveyWithWholeFuses_4 : decode cX7_surveyWithWholeFuses 4 = .ok (.aload_n 0, 1) := by decide +kernel
theorem dX7_surveyWithWholeFuses_5 : decode cX7_surveyWithWholeFuses 5 = .ok (.getfield 12, 3) := by decide +kernel
theorem dX7_surveyWithWholeFuses_8 : decode cX7_surveyWithWholeFuses 8 = .ok (.invokevirtual 283, 3) := by decide +kernel
theorem dX7_surveyWithWholeFuses_11 : decode cX7_surveyWithWholeFuses 11 = .ok (.iconst 0, 1) := by decide +kernel
theorem dX7_surveyWithWholeFuses_12 : decode cX7_surveyWithWholeFuses 12 = .ok (.istore_n 1, 1) := by decide +kernel
theorem dX7_surveyWithWholeFuses_13 : decode cX7_surveyWithWholeFuses 13 = .ok (.iload_n 1, 1) := by decide +kernel
theorem dX7_surveyWithWholeFuses_14 : decode cX7_surveyWithWholeFuses 14 = .ok (.iconst 2, 1) := by decide +kernel
theorem dX7_surveyWithWholeFuses_15 : decode cX7_surveyWithWholeFuses 15 = .ok (.aload_n 0, 1) := by decide +kernel
theorem dX7_surveyWithWholeFuses_16 : decode cX7_surveyWithWholeFuses 16 = .ok (.getfield 23, 3) := by decide +kernel
theorem dX7_surveyWithWholeFuses_19 : decode cX7_surveyWithWholeFuses 19 = .ok (.getfield 73, 3) := by decide +kernel
theorem dX7_surveyWithWholeFuses_22 : decode cX7_surveyWithWholeFuses 22 = .ok (.getfield 77, 3) := by decide +kernel
theorem dX7_surveyWithWholeFuses_25 : decode cX7_surveyWithWholeFuses 25 = .ok (.imul, 1) := by decide +kernel
theorem dX7_surveyWithWholeFuses_26 : decode cX7_surveyWithWholeFuses 26 = .ok (.if_icmp .ge 22, 3) := by decide +kernel
theorem dX7_surveyWithWholeFuses_29 : decode cX7_surveyWithWholeFuses 29 = .ok (.aload_n 0, 1) := by decide +kernel
theorem dX7_surveyWithWholeFuses_30 : decode cX7_surveyWithWholeFuses 30 = .ok (.getfield 23, 3) := by decide +kernel
theorem dX7_surveyWithWholeFuses_33 : decode cX7_surveyWithWholeFuses 33 = .ok (.getfield 73, 3) := by decide +kernel
theorem dX7_surveyWithWholeFuses_36 : decode cX7_surveyWithWholeFuses 36 = .ok (.getfield 131, 3) := by decide +kernel
theorem dX7_surveyWithWholeFuses_39 : decode cX7_surveyWithWholeFuses 39 = .ok (.iload_n 1, 1) := by decide +kernel
theorem dX7_surveyWithWholeFuses_40 : decode cX7_surveyWithWholeFuses 40 = .ok (.iconst 0, 1) := by decide +kernel
theorem dX7_surveyWithWholeFuses_41 : decode cX7_surveyWithWholeFuses 41 = .ok (.bastore, 1) := by decide +kernel
theorem dX7_surveyWithWholeFuses_42 : decode cX7_surveyWithWholeFuses 42 = .ok (.iinc 1 1, 3) := by decide +kernel
theorem dX7_surveyWithWholeFuses_45 : decode cX7_surveyWithWholeFuses 45 = .ok (.goto (-32), 3) := by decide +kernel
theorem dX7_surveyWithWholeFuses_48 : decode cX7_surveyWithWholeFuses 48 = .ok (.aload_n 0, 1) := by decide +kernel
theorem dX7_surveyWithWholeFuses_49 : decode cX7_surveyWithWholeFuses 49 = .ok (.getfield 29, 3) := by decide +kernel
theorem dX7_surveyWithWholeFuses_52 : decode cX7_surveyWithWholeFuses 52 = .ok (.aload_n 0, 1) := by decide +kernel
theorem dX7_surveyWithWholeFuses_53 : decode cX7_surveyWithWholeFuses 53 = .ok (.getfield 23, 3) := by decide +kernel
theorem dX7_surveyWithWholeFuses_56 : decode cX7_surveyWithWholeFuses 56 = .ok (.invokevirtual 239, 3) := by decide +kernel
theorem dX7_surveyWithWholeFuses_59 : decode cX7_surveyWithWholeFuses 59 = .ok (.return_, 1) := by decide +kernel
theorem dX7_boxesChangingLamp_0 : decode cX7_boxesChangingLamp 0 = .ok (.iconst 0, 1) := by decide +kernel
theorem dX7_boxesChangingLamp_1 : decode cX7_boxesChangingLamp 1 = .ok (.istore_n 2, 1) := by decide +kernel
theorem dX7_boxesChangingLamp_2 : decode cX7_boxesChangingLamp 2 = .ok (.iconst 1, 1) := by decide +kernel
theorem dX7_boxesChangingLamp_3 : decode cX7_boxesChangingLamp 3 = .ok (.istore_n 3, 1) := by decide +kernel
theorem dX7_boxesChangingLamp_4 : decode cX7_boxesChangingLamp 4 = .ok (.iload_n 3, 1) := by decide +kernel
theorem dX7_boxesChangingLamp_5 : decode cX7_boxesChangingLamp 5 = .ok (.aload_n 0, 1) := by decide +kernel
theorem dX7_boxesChangingLamp_6 : decode cX7_boxesChangingLamp 6 = .ok (.getfield 12, 3) := by decide +kernel
theorem dX7_boxesChangingLamp_9 : decode cX7_boxesChangingLamp 9 = .ok (.getfield 73, 3) := by decide +kernel
theorem dX7_boxesChangingLamp_12 : decode cX7_boxesChangingLamp 12 = .ok (.getfield 77, 3) := by decide +kernel
theorem dX7_boxesChangingLamp_15 : decode cX7_boxesChangingLamp 15 = .ok (.if_icmp .ge 46, 3) := by decide +kernel
theorem dX7_boxesChangingLamp_18 : decode cX7_boxesChangingLamp 18 = .ok (.aload_n 0, 1) := by decide +kernel
theorem dX7_boxesChangingLamp_19 : decode cX7_boxesChangingLamp 19 = .ok (.getfield 12, 3) := by decide +kernel
theorem dX7_boxesChangingLamp_22 : decode cX7_boxesChangingLamp 22 = .ok (.getfield 73, 3) := by decide +kernel
theorem dX7_boxesChangingLamp_25 : decode cX7_boxesChangingLamp 25 = .ok (.getfield 104, 3) := by decide +kernel
theorem dX7_boxesChangingLamp_28 : decode cX7_boxesChangingLamp 28 = .ok (.iload_n 3, 1) := by decide +kernel
theorem dX7_boxesChangingLamp_29 : decode cX7_boxesChangingLamp 29 = .ok (.baload, 1) := by decide +kernel
theorem dX7_boxesChangingLamp_30 : decode cX7_boxesChangingLamp 30 = .ok (.ifCond .eq 25, 3) := by decide +kernel
theorem dX7_boxesChangingLamp_33 : decode cX7_boxesChangingLamp 33 = .ok (.aload_n 0, 1) := by decide +kernel
theorem dX7_boxesChangingLamp_34 : decode cX7_boxesChangingLamp 34 = .ok (.getfield 19, 3) := by decide +kernel
theorem dX7_boxesChangingLamp_37 : decode cX7_boxesChangingLamp 37 = .ok (.getfield 327, 3) := by decide +kernel
theorem dX7_boxesChangingLamp_40 : decode cX7_boxesChangingLamp 40 = .ok (.iconst 2, 1) := by decide +kernel
theorem dX7_boxesChangingLamp_41 : decode cX7_boxesChangingLamp 41 = .ok (.iload_n 3, 1) := by decide +kernel
theorem dX7_boxesChangingLamp_42 : decode cX7_boxesChangingLamp 42 = .ok (.imul, 1) := by decide +kernel
theorem dX7_boxesChangingLamp_43 : decode cX7_boxesChangingLamp 43 = .ok (.iload_n 1, 1) := by decide +kernel
theorem dX7_boxesChangingLamp_44 : decode cX7_boxesChangingLamp 44 = .ok (.iadd, 1) := by decide +kernel
theorem dX7_boxesChangingLamp_45 : decode cX7_boxesChangingLamp 45 = .ok (.iaload, 1) := by decide +kernel
theorem dX7_boxesChangingLamp_46 : decode cX7_boxesChangingLamp 46 = .ok (.ifCond .le 9, 3) := by decide +kernel
theorem dX7_boxesChangingLamp_49 : decode cX7_boxesChangingLamp 49 = .ok (.iload_n 2, 1) := by decide +kernel
theorem dX7_boxesChangingLamp_50 : decode cX7_boxesChangingLamp 50 = .ok (.iconst 1, 1) := by decide +kernel
theorem dX7_boxesChangingLamp_51 : decode cX7_boxesChangingLamp 51 = .ok (.iload_n 3, 1) := by decide +kernel
theorem dX7_boxesChangingLamp_52 : decode cX7_boxesChangingLamp 52 = .ok (.ishl, 1) := by decide +kernel
theorem dX7_boxesChangingLamp_53 : decode cX7_boxesChangingLamp 53 = .ok (.ior, 1) := by decide +kernel
theorem dX7_boxesChangingLamp_54 : decode cX7_boxesChangingLamp 54 = .ok (.istore_n 2, 1) := by decide +kernel
theorem dX7_boxesChangingLamp_55 : decode cX7_boxesChangingLamp 55 = .ok (.iinc 3 1, 3) := by decide +kernel
theorem dX7_boxesChangingLamp_58 : decode cX7_boxesChangingLamp 58 = .ok (.goto (-54), 3) := by decide +kernel
theorem dX7_boxesChangingLamp_61 : decode cX7_boxesChangingLamp 61 = .ok (.iload_n 2, 1) := by decide +kernel
theorem dX7_boxesChangingLamp_62 : decode cX7_boxesChangingLamp 62 = .ok (.ireturn, 1) := by decide +kernel
theorem dX7_readSigns_0 : decode cX7_readSigns 0 = .ok (.aload_n 0, 1) := by decide +kernel
theorem dX7_readSigns_1 : decode cX7_readSigns 1 = .ok (.getfield 42, 3) := by decide +kernel
theorem dX7_readSigns_4 : decode cX7_readSigns 4 = .ok (.invokevirtual 330, 3) := by decide +kernel
theorem dX7_readSigns_7 : decode cX7_readSigns 7 = .ok (.iconst 0, 1) := by decide +kernel
theorem dX7_readSigns_8 : decode cX7_readSigns 8 = .ok (.istore_n 1, 1) := by decide +kernel
theorem dX7_readSigns_9 : decode cX7_readSigns 9 = .ok (.iload_n 1, 1) := by decide +kernel
theorem dX7_readSigns_10 : decode cX7_readSigns 10 = .ok (.aload_n 0, 1) := by decide +kernel
theorem dX7_readSigns_11 : decode cX7_readSigns 11 = .ok (.getfield 50, 3) := by decide +kernel
theorem dX7_readSigns_14 : decode cX7_readSigns 14 = .ok (.if_icmp .ge 27, 3) := by decide +kernel
theorem dX7_readSigns_17 : decode cX7_readSigns 17 = .ok (.aload_n 0, 1) := by decide +kernel
theorem dX7_readSigns_18 : decode cX7_readSigns 18 = .ok (.getfield 42, 3) := by decide +kernel
theorem dX7_readSigns_21 : decode cX7_readSigns 21 = .ok (.aload_n 0, 1) := by decide +kernel
theorem dX7_readSigns_22 : decode cX7_readSigns 22 = .ok (.getfield 46, 3) := by decide +kernel
theorem dX7_readSigns_25 : decode cX7_readSigns 25 = .ok (.iload_n 1, 1) := by decide +kernel
theorem dX7_readSigns_26 : decode cX7_readSigns 26 = .ok (.iaload, 1) := by decide +kernel
theorem dX7_readSigns_27 : decode cX7_readSigns 27 = .ok (.invokevirtual 333, 3) := by decide +kernel
theorem dX7_readSigns_30 : decode cX7_readSigns 30 = .ok (.ifCond .ne 5, 3) := by decide +kernel
theorem dX7_readSigns_33 : decode cX7_readSigns 33 = .ok (.iload_n 1, 1) := by decide +kernel
theorem dX7_readSigns_34 : decode cX7_readSigns 34 = .ok (.ireturn, 1) := by decide +kernel
theorem dX7_readSigns_35 : decode cX7_readSigns 35 = .ok (.iinc 1 1, 3) := by decide +kernel
theorem dX7_readSigns_38 : decode cX7_readSigns 38 = .ok (.goto (-29), 3) := by decide +kernel
theorem dX7_readSigns_41 : decode cX7_readSigns 41 = .ok (.aload_n 0, 1) := by decide +kernel
theorem dX7_readSigns_42 : decode cX7_readSigns 42 = .ok (.getfield 50, 3) := by decide +kernel
theorem dX7_readSigns_45 : decode cX7_readSigns 45 = .ok (.ireturn, 1) := by decide +kernel
theorem dX7_addParts_0 : decode cX7_addParts 0 = .ok (.iconst 0, 1) := by decide +kernel
theorem dX7_addParts_1 : decode cX7_addParts 1 = .ok (.istore_n 1, 1) := by decide +kernel
theorem dX7_addParts_2 : decode cX7_addParts 2 = .ok (.aload_n 0, 1) := by decide +kernel
theorem dX7_addParts_3 : decode cX7_addParts 3 = .ok (.getfield 42, 3) := by decide +kernel
theorem dX7_addParts_6 : decode cX7_addParts 6 = .ok (.invokevirtual 330, 3) := by decide +kernel
theorem dX7_addParts_9 : decode cX7_addParts 9 = .ok (.iconst 0, 1) := by decide +kernel
theorem dX7_addParts_10 : decode cX7_addParts 10 = .ok (.istore_n 2, 1) := by decide +kernel
theorem dX7_addParts_11 : decode cX7_addParts 11 = .ok (.iload_n 2, 1) := by decide +kernel
theorem dX7_addParts_12 : decode cX7_addParts 12 = .ok (.aload_n 0, 1) := by decide +kernel
theorem dX7_addParts_13 : decode cX7_addParts 13 = .ok (.getfield 50, 3) := by decide +kernel
theorem dX7_addParts_16 : decode cX7_addParts 16 = .ok (.if_icmp .ge 46, 3) := by decide +kernel
theorem dX7_addParts_19 : decode cX7_addParts 19 = .ok (.aload_n 0, 1) := by decide +kernel
theorem dX7_addParts_20 : decode cX7_addParts 20 = .ok (.getfield 46, 3) := by decide +kernel
theorem dX7_addParts_23 : decode cX7_addParts 23 = .ok (.iload_n 2, 1) := by decide +kernel
theorem dX7_addParts_24 : decode cX7_addParts 24 = .ok (.iaload, 1) := by decide +kernel
theorem dX7_addParts_25 : decode cX7_addParts 25 = .ok (.bipush 59, 2) := by decide +kernel
theorem dX7_addParts_27 : decode cX7_addParts 27 = .ok (.if_icmp .ne 15, 3) := by decide +kernel
theorem dX7_addParts_30 : decode cX7_addParts 30 = .ok (.aload_n 0, 1) := by decide +kernel
theorem dX7_addParts_31 : decode cX7_addParts 31 = .ok (.invokevirtual 336, 3) := by decide +kernel
theorem dX7_addParts_34 : decode cX7_addParts 34 = .ok (.ifCond .ne 5, 3) := by decide +kernel
theorem dX7_addParts_37 : decode cX7_addParts 37 = .ok (.iload_n 1, 1) := by decide +kernel
theorem dX7_addParts_38 : decode cX7_addParts 38 = .ok (.ireturn, 1) := by decide +kernel
theorem dX7_addParts_39 : decode cX7_addParts 39 = .ok (.iinc 1 1, 3) := by decide +kernel
theorem dX7_addParts_42 : decode cX7_addParts 42 = .ok (.aload_n 0, 1) := by decide +kernel
theorem dX7_addParts_43 : decode cX7_addParts 43 = .ok (.getfield 42, 3) := by decide +kernel
theorem dX7_addParts_46 : decode cX7_addParts 46 = .ok (.aload_n 0, 1) := by decide +kernel
theorem dX7_addParts_47 : decode cX7_addParts 47 = .ok (.getfield 46, 3) := by decide +kernel
theorem dX7_addParts_50 : decode cX7_addParts 50 = .ok (.iload_n 2, 1) := by decide +kernel
theorem dX7_addParts_51 : decode cX7_addParts 51 = .ok (.iaload, 1) := by decide +kernel
theorem dX7_addParts_52 : decode cX7_addParts 52 = .ok (.invokevirtual 333, 3) := by decide +kernel
theorem dX7_addParts_55 : decode cX7_addParts 55 = .ok (.pop, 1) := by decide +kernel
theorem dX7_addParts_56 : decode cX7_addParts 56 = .ok (.iinc 2 1, 3) := by decide +kernel
theorem dX7_addParts_59 : decode cX7_addParts 59 = .ok (.goto (-48), 3) := by decide +kernel
theorem dX7_addParts_62 : decode cX7_addParts 62 = .ok (.aload_n 0, 1) := by decide +kernel
theorem dX7_addParts_63 : decode cX7_addParts 63 = .ok (.invokevirtual 336, 3) := by decide +kernel
theorem dX7_addParts_66 : decode cX7_addParts 66 = .ok (.ifCond .eq 9, 3) := by decide +kernel
theorem dX7_addParts_69 : decode cX7_addParts 69 = .ok (.iload_n 1, 1) := by decide +kernel
theorem dX7_addParts_70 : decode cX7_addParts 70 = .ok (.iconst 1, 1) := by decide +kernel
theorem dX7_addParts_71 : decode cX7_addParts 71 = .ok (.iadd, 1) := by decide +kernel
theorem dX7_addParts_72 : decode cX7_addParts 72 = .ok (.goto 4, 3) := by decide +kernel
theorem dX7_addParts_75 : decode cX7_addParts 75 = .ok (.iload_n 1, 1) := by decide +kernel
theorem dX7_addParts_76 : decode cX7_addParts 76 = .ok (.ireturn, 1) := by decide +kernel
theorem dX7_addPart_0 : decode cX7_addPart 0 = .ok (.aload_n 0, 1) := by decide +kernel
theorem dX7_addPart_1 : decode cX7_addPart 1 = .ok (.getfield 42, 3) := by decide +kernel
theorem dX7_addPart_4 : decode cX7_addPart 4 = .ok (.getfield 339, 3) := by decide +kernel
theorem dX7_addPart_7 : decode cX7_addPart 7 = .ok (.iconst 0, 1) := by decide +kernel
theorem dX7_addPart_8 : decode cX7_addPart 8 = .ok (.iaload, 1) := by decide +kernel
theorem dX7_addPart_9 : decode cX7_addPart 9 = .ok (.istore_n 1, 1) := by decide +kernel
theorem dX7_addPart_10 : decode cX7_addPart 10 = .ok (.aload_n 0, 1) := by decide +kernel
theorem dX7_addPart_11 : decode cX7_addPart 11 = .ok (.iload_n 1, 1) := by decide +kernel
theorem dX7_addPart_12 : decode cX7_addPart 12 = .ok (.invokevirtual 54, 3) := by decide +kernel
theorem dX7_addPart_15 : decode cX7_addPart 15 = .ok (.ifCond .ne 5, 3) := by decide +kernel
theorem dX7_addPart_18 : decode cX7_addPart 18 = .ok (.iconst 0, 1) := by decide +kernel
theorem dX7_addPart_19 : decode cX7_addPart 19 = .ok (.ireturn, 1) := by decide +kernel
theorem dX7_addPart_20 : decode cX7_addPart 20 = .ok (.aload_n 0, 1) := by decide +kernel
theorem dX7_addPart_21 : decode cX7_addPart 21 = .ok (.getfield 42, 3) := by decide +kernel
theorem dX7_addPart_24 : decode cX7_addPart 24 = .ok (.invokevirtual 342, 3) := by decide +kernel
theorem dX7_addPart_27 : decode cX7_addPart 27 = .ok (.ifCond .eq 69, 3) := by decide +kernel
theorem dX7_addPart_30 : decode cX7_addPart 30 = .ok (.aload_n 0, 1) := by decide +kernel
theorem dX7_addPart_31 : decode cX7_addPart 31 = .ok (.getfield 12, 3) := by decide +kernel
theorem dX7_addPart_34 : decode cX7_addPart 34 = .ok (.getfield 73, 3) := by decide +kernel
theorem dX7_addPart_37 : decode cX7_addPart 37 = .ok (.getfield 77, 3) := by decide +kernel
theorem dX7_addPart_40 : decode cX7_addPart 40 = .ok (.bipush 12, 2) := by decide +kernel
theorem dX7_addPart_42 : decode cX7_addPart 42 = .ok (.if_icmp .lt 5, 3) := by decide +kernel
theorem dX7_addPart_45 : decode cX7_addPart 45 = .ok (.iconst 0, 1) := by decide +kernel
theorem dX7_addPart_46 : decode cX7_addPart 46 = .ok (.ireturn, 1) := by decide +kernel
theorem dX7_addPart_47 : decode cX7_addPart 47 = .ok (.aload_n 0, 1) := by decide +kernel
theorem dX7_addPart_48 : decode cX7_addPart 48 = .ok (.getfield 12, 3) := by decide +kernel
theorem dX7_addPart_51 : decode cX7_addPart 51 = .ok (.getfield 73, 3) := by decide +kernel
theorem dX7_addPart_54 : decode cX7_addPart 54 = .ok (.iload_n 1, 1) := by decide +kernel
theorem dX7_addPart_55 : decode cX7_addPart 55 = .ok (.aload_n 0, 1) := by decide +kernel
theorem dX7_addPart_56 : decode cX7_addPart 56 = .ok (.getfield 42, 3) := by decide +kernel
theorem dX7_addPart_59 : decode cX7_addPart 59 = .ok (.getfield 339, 3) := by decide +kernel
theorem dX7_addPart_62 : decode cX7_addPart 62 = .ok (.iconst 1, 1) := by decide +kernel
theorem dX7_addPart_63 : decode cX7_addPart 63 = .ok (.iaload, 1) := by decide +kernel
theorem dX7_addPart_64 : decode cX7_addPart 64 = .ok (.aload_n 0, 1) := by decide +kernel
theorem dX7_addPart_65 : decode cX7_addPart 65 = .ok (.getfield 42, 3) := by decide +kernel
theorem dX7_addPart_68 : decode cX7_addPart 68 = .ok (.getfield 339, 3) := by decide +kernel
theorem dX7_addPart_71 : decode cX7_addPart 71 = .ok (.iconst 2, 1) := by decide +kernel
theorem dX7_addPart_72 : decode cX7_addPart 72 = .ok (.iaload, 1) := by decide +kernel
theorem dX7_addPart_73 : decode cX7_addPart 73 = .ok (.aload_n 0, 1) := by decide +kernel
theorem dX7_addPart_74 : decode cX7_addPart 74 = .ok (.getfield 42, 3) := by decide +kernel
theorem dX7_addPart_77 : decode cX7_addPart 77 = .ok (.getfield 345, 3) := by decide +kernel
theorem dX7_addPart_80 : decode cX7_addPart 80 = .ok (.bipush 37, 2) := by decide +kernel
theorem dX7_addPart_82 : decode cX7_addPart 82 = .ok (.if_icmp .ne 7, 3) := by decide +kernel
theorem dX7_addPart_85 : decode cX7_addPart 85 = .ok (.iconst 1, 1) := by decide +kernel
theorem dX7_addPart_86 : decode cX7_addPart 86 = .ok (.goto 4, 3) := by decide +kernel
theorem dX7_addPart_89 : decode cX7_addPart 89 = .ok (.iconst 0, 1) := by decide +kernel
theorem dX7_addPart_90 : decode cX7_addPart 90 = .ok (.invokevirtual 91, 3) := by decide +kernel
theorem dX7_addPart_93 : decode cX7_addPart 93 = .ok (.goto 116, 3) := by decide +kernel
theorem dX7_addPart_96 : decode cX7_addPart 96 = .ok (.aload_n 0, 1) := by decide +kernel
theorem dX7_addPart_97 : decode cX7_addPart 97 = .ok (.getfield 42, 3) := by decide +kernel
theorem dX7_addPart_100 : decode cX7_addPart 100 = .ok (.invokevirtual 348, 3) := by decide +kernel
theorem dX7_addPart_103 : decode cX7_addPart 103 = .ok (.ifCond .eq 60, 3) := by decide +kernel
theorem dX7_addPart_106 : decode cX7_addPart 106 = .ok (.aload_n 0, 1) := by decide +kernel
theorem dX7_addPart_107 : decode cX7_addPart 107 = .ok (.getfield 12, 3) := by decide +kernel
theorem dX7_addPart_110 : decode cX7_addPart 110 = .ok (.getfield 142, 3) := by decide +kernel
theorem dX7_addPart_113 : decode cX7_addPart 113 = .ok (.getfield 146, 3) := by decide +kernel
theorem dX7_addPart_116 : decode cX7_addPart 116 = .ok (.bipush 16, 2) := by decide +kernel
theorem dX7_addPart_118 : decode cX7_addPart 118 = .ok (.if_icmp .lt 5, 3) := by decide +kernel
theorem dX7_addPart_121 : decode cX7_addPart 121 = .ok (.iconst 0, 1) := by decide +kernel
theorem dX7_addPart_122 : decode cX7_addPart 122 = .ok (.ireturn, 1) := by decide +kernel
theorem dX7_addPart_123 : decode cX7_addPart 123 = .ok (.aload_n 0, 1) := by decide +kernel
theorem dX7_addPart_124 : decode cX7_addPart 124 = .ok (.getfield 12, 3) := by decide +kernel
theorem dX7_addPart_127 : decode cX7_addPart 127 = .ok (.getfield 142, 3) := by decide +kernel
theorem dX7_addPart_130 : decode cX7_addPart 130 = .ok (.iload_n 1, 1) := by decide +kernel
theorem dX7_addPart_131 : decode cX7_addPart 131 = .ok (.aload_n 0, 1) := by decide +kernel
theorem dX7_addPart_132 : decode cX7_addPart 132 = .ok (.getfield 42, 3) := by decide +kernel
theorem dX7_addPart_135 : decode cX7_addPart 135 = .ok (.getfield 339, 3) := by decide +kernel
theorem dX7_addPart_138 : decode cX7_addPart 138 = .ok (.iconst 1, 1) := by decide +kernel
theorem dX7_addPart_139 : decode cX7_addPart 139 = .ok (.iaload, 1) := by decide +kernel
theorem dX7_addPart_140 : decode cX7_addPart 140 = .ok (.aload_n 0, 1) := by decide +kernel
theorem dX7_addPart_141 : decode cX7_addPart 141 = .ok (.getfield 42, 3) := by decide +kernel
theorem dX7_addPart_144 : decode cX7_addPart 144 = .ok (.getfield 345, 3) := by decide +kernel
theorem dX7_addPart_147 : decode cX7_addPart 147 = .ok (.bipush 33, 2) := by decide +kernel
theorem dX7_addPart_149 : decode cX7_addPart 149 = .ok (.if_icmp .ne 7, 3) := by decide +kernel
theorem dX7_addPart_152 : decode cX7_addPart 152 = .ok (.iconst 1, 1) := by decide +kernel
theorem dX7_addPart_153 : decode cX7_addPart 153 = .ok (.goto 4, 3) := by decide +kernel
theorem dX7_addPart_156 : decode cX7_addPart 156 = .ok (.iconst 0, 1) := by decide +kernel
theorem dX7_addPart_157 : decode cX7_addPart 157 = .ok (.invokevirtual 153, 3) := by decide +kernel
theorem dX7_addPart_160 : decode cX7_addPart 160 = .ok (.goto 49, 3) := by decide +kernel
theorem dX7_addPart_163 : decode cX7_addPart 163 = .ok (.aload_n 0, 1) := by decide +kernel
theorem dX7_addPart_164 : decode cX7_addPart 164 = .ok (.getfield 12, 3) := by decide +kernel
theorem dX7_addPart_167 : decode cX7_addPart 167 = .ok (.getfield 175, 3) := by decide +kernel
theorem dX7_addPart_170 : decode cX7_addPart 170 = .ok (.getfield 179, 3) := by decide +kernel
theorem dX7_addPart_173 : decode cX7_addPart 173 = .ok (.bipush 8, 2) := by decide +kernel
theorem dX7_addPart_175 : decode cX7_addPart 175 = .ok (.if_icmp .lt 5, 3) := by decide +kernel
theorem dX7_addPart_178 : decode cX7_addPart 178 = .ok (.iconst 0, 1) := by decide +kernel
theorem dX7_addPart_179 : decode cX7_addPart 179 = .ok (.ireturn, 1) := by decide +kernel
theorem dX7_addPart_180 : decode cX7_addPart 180 = .ok (.aload_n 0, 1) := by decide +kernel
theorem dX7_addPart_181 : decode cX7_addPart 181 = .ok (.getfield 12, 3) := by decide +kernel
theorem dX7_addPart_184 : decode cX7_addPart 184 = .ok (.getfield 175, 3) := by decide +kernel
theorem dX7_addPart_187 : decode cX7_addPart 187 = .ok (.iload_n 1, 1) := by decide +kernel
theorem dX7_addPart_188 : decode cX7_addPart 188 = .ok (.aload_n 0, 1) := by decide +kernel
theorem dX7_addPart_189 : decode cX7_addPart 189 = .ok (.getfield 42, 3) := by decide +kernel
theorem dX7_addPart_192 : decode cX7_addPart 192 = .ok (.getfield 339, 3) := by decide +kernel
theorem dX7_addPart_195 : decode cX7_addPart 195 = .ok (.iconst 1, 1) := by decide +kernel
theorem dX7_addPart_196 : decode cX7_addPart 196 = .ok (.iaload, 1) := by decide +kernel
theorem dX7_addPart_197 : decode cX7_addPart 197 = .ok (.aload_n 0, 1) := by decide +kernel
theorem dX7_addPart_198 : decode cX7_addPart 198 = .ok (.getfield 42, 3) := by decide +kernel
theorem dX7_addPart_201 : decode cX7_addPart 201 = .ok (.getfield 339, 3) := by decide +kernel
theorem dX7_addPart_204 : decode cX7_addPart 204 = .ok (.iconst 2, 1) := by decide +kernel
theorem dX7_addPart_205 : decode cX7_addPart 205 = .ok (.iaload, 1) := by decide +kernel
theorem dX7_addPart_206 : decode cX7_addPart 206 = .ok (.invokevirtual 184, 3) := by decide +kernel
theorem dX7_addPart_209 : decode cX7_addPart 209 = .ok (.aload_n 0, 1) := by decide +kernel
theorem dX7_addPart_210 : decode cX7_addPart 210 = .ok (.getfield 12, 3) := by decide +kernel
theorem dX7_addPart_213 : decode cX7_addPart 213 = .ok (.aload_n 0, 1) := by decide +kernel
theorem dX7_addPart_214 : decode cX7_addPart 214 = .ok (.getfield 19, 3) := by decide +kernel
theorem dX7_addPart_217 : decode cX7_addPart 217 = .ok (.invokestatic 95, 3) := by decide +kernel
theorem dX7_addPart_220 : decode cX7_addPart 220 = .ok (.pop, 1) := by decide +kernel
theorem dX7_addPart_221 : decode cX7_addPart 221 = .ok (.iconst 1, 1) := by decide +kernel
theorem dX7_addPart_222 : decode cX7_addPart 222 = .ok (.ireturn, 1) := by decide +kernel
theorem dX7_boxProperty_0 : decode cX7_boxProperty 0 = .ok (.aload_n 0, 1) := by decide +kernel
theorem dX7_boxProperty_1 : decode cX7_boxProperty 1 = .ok (.getfield 12, 3) := by decide +kernel
theorem dX7_boxProperty_4 : decode cX7_boxProperty 4 = .ok (.getfield 73, 3) := by decide +kernel
theorem dX7_boxProperty_7 : decode cX7_boxProperty 7 = .ok (.astore_n 3, 1) := by decide +kernel
theorem dX7_boxProperty_8 : decode cX7_boxProperty 8 = .ok (.iload_n 2, 1) := by decide +kernel
theorem dX7_boxProperty_9 : decode cX7_boxProperty 9 = .ok (.tableswitch 108 0 5 #[39, 46, 64, 82, 92, 102], 39) := by decide +kernel
theorem dX7_boxProperty_48 : decode cX7_boxProperty 48 = .ok (.aload_n 3, 1) := by decide +kernel
theorem dX7_boxProperty_49 : decode cX7_boxProperty 49 = .ok (.getfield 351, 3) := by decide +kernel
theorem dX7_boxProperty_52 : decode cX7_boxProperty 52 = .ok (.iload_n 1, 1) := by decide +kernel
theorem dX7_boxProperty_53 : decode cX7_boxProperty 53 = .ok (.iaload, 1) := by decide +kernel
theorem dX7_boxProperty_54 : decode cX7_boxProperty 54 = .ok (.ireturn, 1) := by decide +kernel
theorem dX7_boxProperty_55 : decode cX7_boxProperty 55 = .ok (.iload_n 1, 1) := by decide +kernel
theorem dX7_boxProperty_56 : decode cX7_boxProperty 56 = .ok (.ifCond .ne 7, 3) := by decide +kernel
theorem dX7_boxProperty_59 : decode cX7_boxProperty 59 = .ok (.iconst (-1), 1) := by decide +kernel
theorem dX7_boxProperty_60 : decode cX7_boxProperty 60 = .ok (.goto 12, 3) := by decide +kernel
theorem dX7_boxProperty_63 : decode cX7_boxProperty 63 = .ok (.aload_n 3, 1) := by decide +kernel
theorem dX7_boxProperty_64 : decode cX7_boxProperty 64 = .ok (.getfield 112, 3) := by decide +kernel
theorem dX7_boxProperty_67 : decode cX7_boxProperty 67 = .ok (.iload_n 1, 1) := by decide +kernel
theorem dX7_boxProperty_68 : decode cX7_boxProperty 68 = .ok (.baload, 1) := by decide +kernel
theorem dX7_boxProperty_69 : decode cX7_boxProperty 69 = .ok (.invokestatic 108, 3) := by decide +kernel
theorem dX7_boxProperty_72 : decode cX7_boxProperty 72 = .ok (.ireturn, 1) := by decide +kernel
theorem dX7_boxProperty_73 : decode cX7_boxProperty 73 = .ok (.iload_n 1, 1) := by decide +kernel
theorem dX7_boxProperty_74 : decode cX7_boxProperty 74 = .ok (.ifCond .ne 7, 3) := by decide +kernel
theorem dX7_boxProperty_77 : decode cX7_boxProperty 77 = .ok (.iconst (-1), 1) := by decide +kernel
theorem dX7_boxProperty_78 : decode cX7_boxProperty 78 = .ok (.goto 12, 3) := by decide +kernel
theorem dX7_boxProperty_81 : decode cX7_boxProperty 81 = .ok (.aload_n 3, 1) := by decide +kernel
theorem dX7_boxProperty_82 : decode cX7_boxProperty 82 = .ok (.getfield 104, 3) := by decide +kernel
theorem dX7_boxProperty_85 : decode cX7_boxProperty 85 = .ok (.iload_n 1, 1) := by decide +kernel
theorem dX7_boxProperty_86 : decode cX7_boxProperty 86 = .ok (.baload, 1) := by decide +kernel
theorem dX7_boxProperty_87 : decode cX7_boxProperty 87 = .ok (.invokestatic 108, 3) := by decide +kernel
theorem dX7_boxProperty_90 : decode cX7_boxProperty 90 = .ok (.ireturn, 1) := by decide +kernel
theorem dX7_boxProperty_91 : decode cX7_boxProperty 91 = .ok (.aload_n 0, 1) := by decide +kernel
theorem dX7_boxProperty_92 : decode cX7_boxProperty 92 = .ok (.getfield 19, 3) := by decide +kernel
theorem dX7_boxProperty_95 : decode cX7_boxProperty 95 = .ok (.getfield 354, 3) := by decide +kernel
theorem dX7_boxProperty_98 : decode cX7_boxProperty 98 = .ok (.iload_n 1, 1) := by decide +kernel
theorem dX7_boxProperty_99 : decode cX7_boxProperty 99 = .ok (.iaload, 1) := by decide +kernel
theorem dX7_boxProperty_100 : decode cX7_boxProperty 100 = .ok (.ireturn, 1) := by decide +kernel
theorem dX7_boxProperty_101 : decode cX7_boxProperty 101 = .ok (.aload_n 0, 1) := by decide +kernel
theorem dX7_boxProperty_102 : decode cX7_boxProperty 102 = .ok (.getfield 19, 3) := by decide +kernel
theorem dX7_boxProperty_105 : decode cX7_boxProperty 105 = .ok (.getfield 357, 3) := by decide +kernel
theorem dX7_boxProperty_108 : decode cX7_boxProperty 108 = .ok (.iload_n 1, 1) := by decide +kernel
theorem dX7_boxProperty_109 : decode cX7_boxProperty 109 = .ok (.iaload, 1) := by decide +kernel
theorem dX7_boxProperty_110 : decode cX7_boxProperty 110 = .ok (.ireturn, 1) := by decide +kernel
theorem dX7_boxProperty_111 : decode cX7_boxProperty 111 = .ok (.aload_n 0, 1) := by decide +kernel
theorem dX7_boxProperty_112 : decode cX7_boxProperty 112 = .ok (.iload_n 1, 1) := by decide +kernel
theorem dX7_boxProperty_113 : decode cX7_boxProperty 113 = .ok (.invokevirtual 360, 3) := by decide +kernel
theorem dX7_boxProperty_116 : decode cX7_boxProperty 116 = .ok (.ireturn, 1) := by decide +kernel
theorem dX7_boxProperty_117 : decode cX7_boxProperty 117 = .ok (.aload_n 0, 1) := by decide +kernel
theorem dX7_boxProperty_118 : decode cX7_boxProperty 118 = .ok (.iload_n 1, 1) := by decide +kernel
theorem dX7_boxProperty_119 : decode cX7_boxProperty 119 = .ok (.invokevirtual 363, 3) := by decide +kernel
theorem dX7_boxProperty_122 : decode cX7_boxProperty 122 = .ok (.ireturn, 1) := by decide +kernel
theorem dX7_lanternsBurningAt_0 : decode cX7_lanternsBurningAt 0 = .ok (.iconst 0, 1) := by decide +kernel
theorem dX7_lanternsBurningAt_1 : decode cX7_lanternsBurningAt 1 = .ok (.istore_n 2, 1) := by decide +kernel
theorem dX7_lanternsBurningAt_2 : decode cX7_lanternsBurningAt 2 = .ok (.iconst 0, 1) := by decide +kernel
theorem dX7_lanternsBurningAt_3 : decode cX7_lanternsBurningAt 3 = .ok (.istore_n 3, 1) := by decide +kernel
theorem dX7_lanternsBurningAt_4 : decode cX7_lanternsBurningAt 4 = .ok (.iload_n 3, 1) := by decide +kernel
theorem dX7_lanternsBurningAt_5 : decode cX7_lanternsBurningAt 5 = .ok (.aload_n 0, 1) := by decide +kernel
theorem dX7_lanternsBurningAt_6 : decode cX7_lanternsBurningAt 6 = .ok (.getfield 12, 3) := by decide +kernel
theorem dX7_lanternsBurningAt_9 : decode cX7_lanternsBurningAt 9 = .ok (.getfield 142, 3) := by decide +kernel
theorem dX7_lanternsBurningAt_12 : decode cX7_lanternsBurningAt 12 = .ok (.getfield 146, 3) := by decide +kernel
theorem dX7_lanternsBurningAt_15 : decode cX7_lanternsBurningAt 15 = .ok (.if_icmp .ge 40, 3) := by decide +kernel
theorem dX7_lanternsBurningAt_18 : decode cX7_lanternsBurningAt 18 = .ok (.aload_n 0, 1) := by decide +kernel
theorem dX7_lanternsBurningAt_19 : decode cX7_lanternsBurningAt 19 = .ok (.getfield 12, 3) := by decide +kernel
theorem dX7_lanternsBurningAt_22 : decode cX7_lanternsBurningAt 22 = .ok (.getfield 142, 3) := by decide +kernel
theorem dX7_lanternsBurningAt_25 : decode cX7_lanternsBurningAt 25 = .ok (.getfield 366, 3) := by decide +kernel
theorem dX7_lanternsBurningAt_28 : decode cX7_lanternsBurningAt 28 = .ok (.iload_n 3, 1) := by decide +kernel
theorem dX7_lanternsBurningAt_29 : decode cX7_lanternsBurningAt 29 = .ok (.iaload, 1) := by decide +kernel
theorem dX7_lanternsBurningAt_30 : decode cX7_lanternsBurningAt 30 = .ok (.iload_n 1, 1) := by decide +kernel
theorem dX7_lanternsBurningAt_31 : decode cX7_lanternsBurningAt 31 = .ok (.if_icmp .ne 18, 3) := by decide +kernel
theorem dX7_lanternsBurningAt_34 : decode cX7_lanternsBurningAt 34 = .ok (.aload_n 0, 1) := by decide +kernel
theorem dX7_lanternsBurningAt_35 : decode cX7_lanternsBurningAt 35 = .ok (.getfield 19, 3) := by decide +kernel
theorem dX7_lanternsBurningAt_38 : decode cX7_lanternsBurningAt 38 = .ok (.getfield 161, 3) := by decide +kernel
theorem dX7_lanternsBurningAt_41 : decode cX7_lanternsBurningAt 41 = .ok (.iload_n 3, 1) := by decide +kernel
theorem dX7_lanternsBurningAt_42 : decode cX7_lanternsBurningAt 42 = .ok (.baload, 1) := by decide +kernel
theorem dX7_lanternsBurningAt_43 : decode cX7_lanternsBurningAt 43 = .ok (.ifCond .eq 6, 3) := by decide +kernel
theorem dX7_lanternsBurningAt_46 : decode cX7_lanternsBurningAt 46 = .ok (.iinc 2 1, 3) := by decide +kernel
theorem dX7_lanternsBurningAt_49 : decode cX7_lanternsBurningAt 49 = .ok (.iinc 3 1, 3) := by decide +kernel
theorem dX7_lanternsBurningAt_52 : decode cX7_lanternsBurningAt 52 = .ok (.goto (-48), 3) := by decide +kernel
theorem dX7_lanternsBurningAt_55 : decode cX7_lanternsBurningAt 55 = .ok (.iload_n 2, 1) := by decide +kernel
theorem dX7_lanternsBurningAt_56 : decode cX7_lanternsBurningAt 56 = .ok (.ireturn, 1) := by decide +kernel
theorem dX7_unitsAt_0 : decode cX7_unitsAt 0 = .ok (.iconst 0, 1) := by decide +kernel
theorem dX7_unitsAt_1 : decode cX7_unitsAt 1 = .ok (.istore_n 2, 1) := by decide +kernel
theorem dX7_unitsAt_2 : decode cX7_unitsAt 2 = .ok (.iconst 0, 1) := by decide +kernel
theorem dX7_unitsAt_3 : decode cX7_unitsAt 3 = .ok (.istore_n 3, 1) := by decide +kernel
theorem dX7_unitsAt_4 : decode cX7_unitsAt 4 = .ok (.iload_n 3, 1) := by decide +kernel
theorem dX7_unitsAt_5 : decode cX7_unitsAt 5 = .ok (.aload_n 0, 1) := by decide +kernel
theorem dX7_unitsAt_6 : decode cX7_unitsAt 6 = .ok (.getfield 12, 3) := by decide +kernel
theorem dX7_unitsAt_9 : decode cX7_unitsAt 9 = .ok (.getfield 142, 3) := by decide +kernel
theorem dX7_unitsAt_12 : decode cX7_unitsAt 12 = .ok (.getfield 146, 3) := by decide +kernel
theorem dX7_unitsAt_15 : decode cX7_unitsAt 15 = .ok (.if_icmp .ge 40, 3) := by decide +kernel
theorem dX7_unitsAt_18 : decode cX7_unitsAt 18 = .ok (.aload_n 0, 1) := by decide +kernel
theorem dX7_unitsAt_19 : decode cX7_unitsAt 19 = .ok (.getfield 12, 3) := by decide +kernel
theorem dX7_unitsAt_22 : decode cX7_unitsAt 22 = .ok (.getfield 142, 3) := by decide +kernel
theorem dX7_unitsAt_25 : decode cX7_unitsAt 25 = .ok (.getfield 366, 3) := by decide +kernel
theorem dX7_unitsAt_28 : decode cX7_unitsAt 28 = .ok (.iload_n 3, 1) := by decide +kernel
theorem dX7_unitsAt_29 : decode cX7_unitsAt 29 = .ok (.iaload, 1) := by decide +kernel
theorem dX7_unitsAt_30 : decode cX7_unitsAt 30 = .ok (.iload_n 1, 1) := by decide +kernel
theorem dX7_unitsAt_31 : decode cX7_unitsAt 31 = .ok (.if_icmp .ne 18, 3) := by decide +kernel
theorem dX7_unitsAt_34 : decode cX7_unitsAt 34 = .ok (.iload_n 2, 1) := by decide +kernel
theorem dX7_unitsAt_35 : decode cX7_unitsAt 35 = .ok (.aload_n 0, 1) := by decide +kernel
theorem dX7_unitsAt_36 : decode cX7_unitsAt 36 = .ok (.getfield 12, 3) := by decide +kernel
theorem dX7_unitsAt_39 : decode cX7_unitsAt 39 = .ok (.getfield 142, 3) := by decide +kernel
theorem dX7_unitsAt_42 : decode cX7_unitsAt 42 = .ok (.getfield 369, 3) := by decide +kernel
theorem dX7_unitsAt_45 : decode cX7_unitsAt 45 = .ok (.iload_n 3, 1) := by decide +kernel
theorem dX7_unitsAt_46 : decode cX7_unitsAt 46 = .ok (.iaload, 1) := by decide +kernel
theorem dX7_unitsAt_47 : decode cX7_unitsAt 47 = .ok (.iadd, 1) := by decide +kernel
theorem dX7_unitsAt_48 : decode cX7_unitsAt 48 = .ok (.istore_n 2, 1) := by decide +kernel
theorem dX7_unitsAt_49 : decode cX7_unitsAt 49 = .ok (.iinc 3 1, 3) := by decide +kernel
theorem dX7_unitsAt_52 : decode cX7_unitsAt 52 = .ok (.goto (-48), 3) := by decide +kernel
theorem dX7_unitsAt_55 : decode cX7_unitsAt 55 = .ok (.iload_n 2, 1) := by decide +kernel
theorem dX7_unitsAt_56 : decode cX7_unitsAt 56 = .ok (.ireturn, 1) := by decide +kernel
theorem dX7_terminalProperty_0 : decode cX7_terminalProperty 0 = .ok (.iconst 2, 1) := by decide +kernel
theorem dX7_terminalProperty_1 : decode cX7_terminalProperty 1 = .ok (.iload_n 1, 1) := by decide +kernel
theorem dX7_terminalProperty_2 : decode cX7_terminalProperty 2 = .ok (.imul, 1) := by decide +kernel
theorem dX7_terminalProperty_3 : decode cX7_terminalProperty 3 = .ok (.iload_n 2, 1) := by decide +kernel
theorem dX7_terminalProperty_4 : decode cX7_terminalProperty 4 = .ok (.iadd, 1) := by decide +kernel
theorem dX7_terminalProperty_5 : decode cX7_terminalProperty 5 = .ok (.istore 4, 2) := by decide +kernel
theorem dX7_terminalProperty_7 : decode cX7_terminalProperty 7 = .ok (.iload_n 3, 1) := by decide +kernel
theorem dX7_terminalProperty_8 : decode cX7_terminalProperty 8 = .ok (.tableswitch 117 0 4 #[36, 47, 60, 70, 92], 36) := by decide +kernel
theorem dX7_terminalProperty_44 : decode cX7_terminalProperty 44 = .ok (.aload_n 0, 1) := by decide +kernel
theorem dX7_terminalProperty_45 : decode cX7_terminalProperty 45 = .ok (.getfield 19, 3) := by decide +kernel
theorem dX7_terminalProperty_48 : decode cX7_terminalProperty 48 = .ok (.getfield 372, 3) := by decide +kernel
theorem dX7_terminalProperty_51 : decode cX7_terminalProperty 51 = .ok (.iload 4, 2) := by decide +kernel
theorem dX7_terminalProperty_53 : decode cX7_terminalProperty 53 = .ok (.iaload, 1) := by decide +kernel
theorem dX7_terminalProperty_54 : decode cX7_terminalProperty 54 = .ok (.ireturn, 1) := by decide +kernel
theorem dX7_terminalProperty_55 : decode cX7_terminalProperty 55 = .ok (.aload_n 0, 1) := by decide +kernel
theorem dX7_terminalProperty_56 : decode cX7_terminalProperty 56 = .ok (.getfield 19, 3) := by decide +kernel
theorem dX7_terminalProperty_59 : decode cX7_terminalProperty 59 = .ok (.iload 4, 2) := by decide +kernel
theorem dX7_terminalProperty_61 : decode cX7_terminalProperty 61 = .ok (.invokevirtual 375, 3) := by decide +kernel
theorem dX7_terminalProperty_64 : decode cX7_terminalProperty 64 = .ok (.invokestatic 108, 3) := by decide +kernel
theorem dX7_terminalProperty_67 : decode cX7_terminalProperty 67 = .ok (.ireturn, 1) := by decide +kernel
theorem dX7_terminalProperty_68 : decode cX7_terminalProperty 68 = .ok (.aload_n 0, 1) := by decide +kernel
theorem dX7_terminalProperty_69 : decode cX7_terminalProperty 69 = .ok (.getfield 19, 3) := by decide +kernel
theorem dX7_terminalProperty_72 : decode cX7_terminalProperty 72 = .ok (.iload 4, 2) := by decide +kernel
theorem dX7_terminalProperty_74 : decode cX7_terminalProperty 74 = .ok (.invokevirtual 296, 3) := by decide +kernel
theorem dX7_terminalProperty_77 : decode cX7_terminalProperty 77 = .ok (.ireturn, 1) := by decide +kernel
theorem dX7_terminalProperty_78 : decode cX7_terminalProperty 78 = .ok (.iload_n 1, 1) := by decide +kernel
theorem dX7_terminalProperty_79 : decode cX7_terminalProperty 79 = .ok (.ifCond .ne 7, 3) := by decide +kernel
theorem dX7_terminalProperty_82 : decode cX7_terminalProperty 82 = .ok (.iconst (-1), 1) := by decide +kernel
theorem dX7_terminalProperty_83 : decode cX7_terminalProperty 83 = .ok (.goto 16, 3) := by decide +kernel
theorem dX7_terminalProperty_86 : decode cX7_terminalProperty 86 = .ok (.aload_n 0, 1) := by decide +kernel
theorem dX7_terminalProperty_87 : decode cX7_terminalProperty 87 = .ok (.getfield 12, 3) := by decide +kernel
theorem dX7_terminalProperty_90 : decode cX7_terminalProperty 90 = .ok (.getfield 73, 3) := by decide +kernel
theorem dX7_terminalProperty_93 : decode cX7_terminalProperty 93 = .ok (.getfield 128, 3) := by decide +kernel
theorem dX7_terminalProperty_96 : decode cX7_terminalProperty 96 = .ok (.iload 4, 2) := by decide +kernel
theorem dX7_terminalProperty_98 : decode cX7_terminalProperty 98 = .ok (.iaload, 1) := by decide +kernel
theorem dX7_terminalProperty_99 : decode cX7_terminalProperty 99 = .ok (.ireturn, 1) := by decide +kernel
theorem dX7_terminalProperty_100 : decode cX7_terminalProperty 100 = .ok (.iload_n 1, 1) := by decide +kernel
theorem dX7_terminalProperty_101 : decode cX7_terminalProperty 101 = .ok (.ifCond .ne 7, 3) := by decide +kernel
theorem dX7_terminalProperty_104 : decode cX7_terminalProperty 104 = .ok (.iconst (-1), 1) := by decide +kernel
theorem dX7_terminalProperty_105 : decode cX7_terminalProperty 105 = .ok (.goto 19, 3) := by decide +kernel
theorem dX7_terminalProperty_108 : decode cX7_terminalProperty 108 = .ok (.aload_n 0, 1) := by decide +kernel
theorem dX7_terminalProperty_109 : decode cX7_terminalProperty 109 = .ok (.getfield 12, 3) := by decide +kernel
theorem dX7_terminalProperty_112 : decode cX7_terminalProperty 112 = .ok (.getfield 73, 3) := by decide +kernel
theorem dX7_terminalProperty_115 : decode cX7_terminalProperty 115 = .ok (.getfield 131, 3) := by decide +kernel
theorem dX7_terminalProperty_118 : decode cX7_terminalProperty 118 = .ok (.iload 4, 2) := by decide +kernel
theorem dX7_terminalProperty_120 : decode cX7_terminalProperty 120 = .ok (.baload, 1) := by decide +kernel
theorem dX7_terminalProperty_121 : decode cX7_terminalProperty 121 = .ok (.invokestatic 108, 3) := by decide +kernel
theorem dX7_terminalProperty_124 : decode cX7_terminalProperty 124 = .ok (.ireturn, 1) := by decide +kernel
theorem dX7_terminalProperty_125 : decode cX7_terminalProperty 125 = .ok (.aload_n 0, 1) := by decide +kernel
theorem dX7_terminalProperty_126 : decode cX7_terminalProperty 126 = .ok (.iload_n 1, 1) := by decide +kernel
theorem dX7_terminalProperty_127 : decode cX7_terminalProperty 127 = .ok (.iload_n 2, 1) := by decide +kernel
theorem dX7_terminalProperty_128 : decode cX7_terminalProperty 128 = .ok (.invokevirtual 378, 3) := by decide +kernel
theorem dX7_terminalProperty_131 : decode cX7_terminalProperty 131 = .ok (.ireturn, 1) := by decide +kernel
theorem dX7_strengthsAt_0 : decode cX7_strengthsAt 0 = .ok (.iconst 0, 1) := by decide +kernel
theorem dX7_strengthsAt_1 : decode cX7_strengthsAt 1 = .ok (.istore_n 3, 1) := by decide +kernel
theorem dX7_strengthsAt_2 : decode cX7_strengthsAt 2 = .ok (.iconst 0, 1) := by decide +kernel
theorem dX7_strengthsAt_3 : decode cX7_strengthsAt 3 = .ok (.istore 4, 2) := by decide +kernel
theorem dX7_strengthsAt_5 : decode cX7_strengthsAt 5 = .ok (.iload 4, 2) := by decide +kernel
theorem dX7_strengthsAt_7 : decode cX7_strengthsAt 7 = .ok (.aload_n 0, 1) := by decide +kernel
theorem dX7_strengthsAt_8 : decode cX7_strengthsAt 8 = .ok (.getfield 12, 3) := by decide +kernel
theorem dX7_strengthsAt_11 : decode cX7_strengthsAt 11 = .ok (.getfield 175, 3) := by decide +kernel
theorem dX7_strengthsAt_14 : decode cX7_strengthsAt 14 = .ok (.getfield 179, 3) := by decide +kernel
theorem dX7_strengthsAt_17 : decode cX7_strengthsAt 17 = .ok (.if_icmp .ge 59, 3) := by decide +kernel
theorem dX7_strengthsAt_20 : decode cX7_strengthsAt 20 = .ok (.aload_n 0, 1) := by decide +kernel
theorem dX7_strengthsAt_21 : decode cX7_strengthsAt 21 = .ok (.getfield 12, 3) := by decide +kernel
theorem dX7_strengthsAt_24 : decode cX7_strengthsAt 24 = .ok (.getfield 175, 3) := by decide +kernel
theorem dX7_strengthsAt_27 : decode cX7_strengthsAt 27 = .ok (.getfield 381, 3) := by decide +kernel
theorem dX7_strengthsAt_30 : decode cX7_strengthsAt 30 = .ok (.iload 4, 2) := by decide +kernel
theorem dX7_strengthsAt_32 : decode cX7_strengthsAt 32 = .ok (.iaload, 1) := by decide +kernel
theorem dX7_strengthsAt_33 : decode cX7_strengthsAt 33 = .ok (.iload_n 1, 1) := by decide +kernel
theorem dX7_strengthsAt_34 : decode cX7_strengthsAt 34 = .ok (.if_icmp .ne 36, 3) := by decide +kernel
theorem dX7_strengthsAt_37 : decode cX7_strengthsAt 37 = .ok (.aload_n 0, 1) := by decide +kernel
theorem dX7_strengthsAt_38 : decode cX7_strengthsAt 38 = .ok (.getfield 12, 3) := by decide +kernel
theorem dX7_strengthsAt_41 : decode cX7_strengthsAt 41 = .ok (.getfield 175, 3) := by decide +kernel
theorem dX7_strengthsAt_44 : decode cX7_strengthsAt 44 = .ok (.getfield 382, 3) := by decide +kernel
theorem dX7_strengthsAt_47 : decode cX7_strengthsAt 47 = .ok (.iload 4, 2) := by decide +kernel
theorem dX7_strengthsAt_49 : decode cX7_strengthsAt 49 = .ok (.iaload, 1) := by decide +kernel
theorem dX7_strengthsAt_50 : decode cX7_strengthsAt 50 = .ok (.iload_n 2, 1) := by decide +kernel
theorem dX7_strengthsAt_51 : decode cX7_strengthsAt 51 = .ok (.if_icmp .ne 19, 3) := by decide +kernel
theorem dX7_strengthsAt_54 : decode cX7_strengthsAt 54 = .ok (.iload_n 3, 1) := by decide +kernel
theorem dX7_strengthsAt_55 : decode cX7_strengthsAt 55 = .ok (.aload_n 0, 1) := by decide +kernel
theorem dX7_strengthsAt_56 : decode cX7_strengthsAt 56 = .ok (.getfield 12, 3) := by decide +kernel
theorem dX7_strengthsAt_59 : decode cX7_strengthsAt 59 = .ok (.getfield 175, 3) := by decide +kernel
theorem dX7_strengthsAt_62 : decode cX7_strengthsAt 62 = .ok (.getfield 192, 3) := by decide +kernel
theorem dX7_strengthsAt_65 : decode cX7_strengthsAt 65 = .ok (.iload 4, 2) := by decide +kernel
theorem dX7_strengthsAt_67 : decode cX7_strengthsAt 67 = .ok (.iaload, 1) := by decide +kernel
theorem dX7_strengthsAt_68 : decode cX7_strengthsAt 68 = .ok (.iadd, 1) := by decide +kernel
theorem dX7_strengthsAt_69 : decode cX7_strengthsAt 69 = .ok (.istore_n 3, 1) := by decide +kernel
theorem dX7_strengthsAt_70 : decode cX7_strengthsAt 70 = .ok (.iinc 4 1, 3) := by decide +kernel
theorem dX7_strengthsAt_73 : decode cX7_strengthsAt 73 = .ok (.goto (-68), 3) := by decide +kernel
theorem dX7_strengthsAt_76 : decode cX7_strengthsAt 76 = .ok (.iload_n 3, 1) := by decide +kernel
theorem dX7_strengthsAt_77 : decode cX7_strengthsAt 77 = .ok (.ireturn, 1) := by decide +kernel
theorem dX7_lanternProperty_0 : decode cX7_lanternProperty 0 = .ok (.iload_n 2, 1) := by decide +kernel
theorem dX7_lanternProperty_1 : decode cX7_lanternProperty 1 = .ok (.tableswitch 69 0 2 #[27, 40, 53], 27) := by decide +kernel
theorem dX7_lanternProperty_28 : decode cX7_lanternProperty 28 = .ok (.aload_n 0, 1) := by decide +kernel
theorem dX7_lanternProperty_29 : decode cX7_lanternProperty 29 = .ok (.getfield 12, 3) := by decide +kernel
theorem dX7_lanternProperty_32 : decode cX7_lanternProperty 32 = .ok (.getfield 142, 3) := by decide +kernel
theorem dX7_lanternProperty_35 : decode cX7_lanternProperty 35 = .ok (.getfield 366, 3) := by decide +kernel
theorem dX7_lanternProperty_38 : decode cX7_lanternProperty 38 = .ok (.iload_n 1, 1) := by decide +kernel
theorem dX7_lanternProperty_39 : decode cX7_lanternProperty 39 = .ok (.iaload, 1) := by decide +kernel
theorem dX7_lanternProperty_40 : decode cX7_lanternProperty 40 = .ok (.ireturn, 1) := by decide +kernel
theorem dX7_lanternProperty_41 : decode cX7_lanternProperty 41 = .ok (.aload_n 0, 1) := by decide +kernel
theorem dX7_lanternProperty_42 : decode cX7_lanternProperty 42 = .ok (.getfield 12, 3) := by decide +kernel
theorem dX7_lanternProperty_45 : decode cX7_lanternProperty 45 = .ok (.getfield 142, 3) := by decide +kernel
theorem dX7_lanternProperty_48 : decode cX7_lanternProperty 48 = .ok (.getfield 369, 3) := by decide +kernel
theorem dX7_lanternProperty_51 : decode cX7_lanternProperty 51 = .ok (.iload_n 1, 1) := by decide +kernel
theorem dX7_lanternProperty_52 : decode cX7_lanternProperty 52 = .ok (.iaload, 1) := by decide +kernel
theorem dX7_lanternProperty_53 : decode cX7_lanternProperty 53 = .ok (.ireturn, 1) := by decide +kernel
theorem dX7_lanternProperty_54 : decode cX7_lanternProperty 54 = .ok (.aload_n 0, 1) := by decide +kernel
theorem dX7_lanternProperty_55 : decode cX7_lanternProperty 55 = .ok (.getfield 12, 3) := by decide +kernel
theorem dX7_lanternProperty_58 : decode cX7_lanternProperty 58 = .ok (.getfield 142, 3) := by decide +kernel
theorem dX7_lanternProperty_61 : decode cX7_lanternProperty 61 = .ok (.getfield 385, 3) := by decide +kernel
theorem dX7_lanternProperty_64 : decode cX7_lanternProperty 64 = .ok (.iload_n 1, 1) := by decide +kernel
theorem dX7_lanternProperty_65 : decode cX7_lanternProperty 65 = .ok (.baload, 1) := by decide +kernel
theorem dX7_lanternProperty_66 : decode cX7_lanternProperty 66 = .ok (.invokestatic 108, 3) := by decide +kernel
theorem dX7_lanternProperty_69 : decode cX7_lanternProperty 69 = .ok (.ireturn, 1) := by decide +kernel
theorem dX7_lanternProperty_70 : decode cX7_lanternProperty 70 = .ok (.aload_n 0, 1) := by decide +kernel
theorem dX7_lanternProperty_71 : decode cX7_lanternProperty 71 = .ok (.iload_n 1, 1) := by decide +kernel
theorem dX7_lanternProperty_72 : decode cX7_lanternProperty 72 = .ok (.invokevirtual 388, 3) := by decide +kernel
theorem dX7_lanternProperty_75 : decode cX7_lanternProperty 75 = .ok (.ireturn, 1) := by decide +kernel
theorem dX7_darkReason_0 : decode cX7_darkReason 0 = .ok (.aload_n 0, 1) := by decide +kernel
theorem dX7_darkReason_1 : decode cX7_darkReason 1 = .ok (.getfield 12, 3) := by decide +kernel
theorem dX7_darkReason_4 : decode cX7_darkReason 4 = .ok (.getfield 142, 3) := by decide +kernel
theorem dX7_darkReason_7 : decode cX7_darkReason 7 = .ok (.getfield 366, 3) := by decide +kernel
theorem dX7_darkReason_10 : decode cX7_darkReason 10 = .ok (.iload_n 1, 1) := by decide +kernel
theorem dX7_darkReason_11 : decode cX7_darkReason 11 = .ok (.iaload, 1) := by decide +kernel
theorem dX7_darkReason_12 : decode cX7_darkReason 12 = .ok (.istore_n 2, 1) := by decide +kernel
theorem dX7_darkReason_13 : decode cX7_darkReason 13 = .ok (.aload_n 0, 1) := by decide +kernel
theorem dX7_darkReason_14 : decode cX7_darkReason 14 = .ok (.getfield 19, 3) := by decide +kernel
theorem dX7_darkReason_17 : decode cX7_darkReason 17 = .ok (.getfield 161, 3) := by decide +kernel
theorem dX7_darkReason_20 : decode cX7_darkReason 20 = .ok (.iload_n 1, 1) := by decide +kernel
theorem dX7_darkReason_21 : decode cX7_darkReason 21 = .ok (.baload, 1) := by decide +kernel
theorem dX7_darkReason_22 : decode cX7_darkReason 22 = .ok (.ifCond .eq 5, 3) := by decide +kernel
theorem dX7_darkReason_25 : decode cX7_darkReason 25 = .ok (.iconst 0, 1) := by decide +kernel
theorem dX7_darkReason_26 : decode cX7_darkReason 26 = .ok (.ireturn, 1) := by decide +kernel
theorem dX7_darkReason_27 : decode cX7_darkReason 27 = .ok (.aload_n 0, 1) := by decide +kernel
theorem dX7_darkReason_28 : decode cX7_darkReason 28 = .ok (.getfield 19, 3) := by decide +kernel
theorem dX7_darkReason_31 : decode cX7_darkReason 31 = .ok (.getfield 391, 3) := by decide +kernel
theorem dX7_darkReason_34 : decode cX7_darkReason 34 = .ok (.iload_n 2, 1) := by decide +kernel
theorem dX7_darkReason_35 : decode cX7_darkReason 35 = .ok (.baload, 1) := by decide +kernel
theorem dX7_darkReason_36 : decode cX7_darkReason 36 = .ok (.ifCond .eq 5, 3) := by decide +kernel
theorem dX7_darkReason_39 : decode cX7_darkReason 39 = .ok (.iconst 1, 1) := by decide +kernel
theorem dX7_darkReason_40 : decode cX7_darkReason 40 = .ok (.ireturn, 1) := by decide +kernel
theorem dX7_darkReason_41 : decode cX7_darkReason 41 = .ok (.aload_n 0, 1) := by decide +kernel
theorem dX7_darkReason_42 : decode cX7_darkReason 42 = .ok (.getfield 19, 3) := by decide +kernel
theorem dX7_darkReason_45 : decode cX7_darkReason 45 = .ok (.getfield 394, 3) := by decide +kernel
theorem dX7_darkReason_48 : decode cX7_darkReason 48 = .ok (.iconst 2, 1) := by decide +kernel
theorem dX7_darkReason_49 : decode cX7_darkReason 49 = .ok (.iload_n 2, 1) := by decide +kernel
theorem dX7_darkReason_50 : decode cX7_darkReason 50 = .ok (.imul, 1) := by decide +kernel
theorem dX7_darkReason_51 : decode cX7_darkReason 51 = .ok (.baload, 1) := by decide +kernel
theorem dX7_darkReason_52 : decode cX7_darkReason 52 = .ok (.ifCond .eq 5, 3) := by decide +kernel
theorem dX7_darkReason_55 : decode cX7_darkReason 55 = .ok (.iconst 2, 1) := by decide +kernel
theorem dX7_darkReason_56 : decode cX7_darkReason 56 = .ok (.ireturn, 1) := by decide +kernel
theorem dX7_darkReason_57 : decode cX7_darkReason 57 = .ok (.aload_n 0, 1) := by decide +kernel
theorem dX7_darkReason_58 : decode cX7_darkReason 58 = .ok (.getfield 19, 3) := by decide +kernel
theorem dX7_darkReason_61 : decode cX7_darkReason 61 = .ok (.getfield 394, 3) := by decide +kernel
theorem dX7_darkReason_64 : decode cX7_darkReason 64 = .ok (.iconst 2, 1) := by decide +kernel
theorem dX7_darkReason_65 : decode cX7_darkReason 65 = .ok (.iload_n 2, 1) := by decide +kernel
theorem dX7_darkReason_66 : decode cX7_darkReason 66 = .ok (.imul, 1) := by decide +kernel
theorem dX7_darkReason_67 : decode cX7_darkReason 67 = .ok (.iconst 1, 1) := by decide +kernel
theorem dX7_darkReason_68 : decode cX7_darkReason 68 = .ok (.iadd, 1) := by decide +kernel
theorem dX7_darkReason_69 : decode cX7_darkReason 69 = .ok (.baload, 1) := by decide +kernel
theorem dX7_darkReason_70 : decode cX7_darkReason 70 = .ok (.ifCond .eq 7, 3) := by decide +kernel
theorem dX7_darkReason_73 : decode cX7_darkReason 73 = .ok (.iconst 3, 1) := by decide +kernel
theorem dX7_darkReason_74 : decode cX7_darkReason 74 = .ok (.goto 4, 3) := by decide +kernel
theorem dX7_darkReason_77 : decode cX7_darkReason 77 = .ok (.iconst 4, 1) := by decide +kernel
theorem dX7_darkReason_78 : decode cX7_darkReason 78 = .ok (.ireturn, 1) := by decide +kernel
theorem dX7_faultProperty_0 : decode cX7_faultProperty 0 = .ok (.aload_n 0, 1) := by decide +kernel
theorem dX7_faultProperty_1 : decode cX7_faultProperty 1 = .ok (.getfield 12, 3) := by decide +kernel
theorem dX7_faultProperty_4 : decode cX7_faultProperty 4 = .ok (.getfield 175, 3) := by decide +kernel
theorem dX7_faultProperty_7 : decode cX7_faultProperty 7 = .ok (.astore_n 3, 1) := by decide +kernel
theorem dX7_faultProperty_8 : decode cX7_faultProperty 8 = .ok (.iload_n 2, 1) := by decide +kernel
theorem dX7_faultProperty_9 : decode cX7_faultProperty 9 = .ok (.tableswitch 76 0 3 #[31, 38, 45, 52], 31) := by decide +kernel
theorem dX7_faultProperty_40 : decode cX7_faultProperty 40 = .ok (.aload_n 3, 1) := by decide +kernel
theorem dX7_faultProperty_41 : decode cX7_faultProperty 41 = .ok (.getfield 381, 3) := by decide +kernel
theorem dX7_faultProperty_44 : decode cX7_faultProperty 44 = .ok (.iload_n 1, 1) := by decide +kernel
theorem dX7_faultProperty_45 : decode cX7_faultProperty 45 = .ok (.iaload, 1) := by decide +kernel
theorem dX7_faultProperty_46 : decode cX7_faultProperty 46 = .ok (.ireturn, 1) := by decide +kernel
theorem dX7_faultProperty_47 : decode cX7_faultProperty 47 = .ok (.aload_n 3, 1) := by decide +kernel
theorem dX7_faultProperty_48 : decode cX7_faultProperty 48 = .ok (.getfield 382, 3) := by decide +kernel
theorem dX7_faultProperty_51 : decode cX7_faultProperty 51 = .ok (.iload_n 1, 1) := by decide +kernel
theorem dX7_faultProperty_52 : decode cX7_faultProperty 52 = .ok (.iaload, 1) := by decide +kernel
theorem dX7_faultProperty_53 : decode cX7_faultProperty 53 = .ok (.ireturn, 1) := by decide +kernel
theorem dX7_faultProperty_54 : decode cX7_faultProperty 54 = .ok (.aload_n 3, 1) := by decide +kernel
theorem dX7_faultProperty_55 : decode cX7_faultProperty 55 = .ok (.getfield 192, 3) := by decide +kernel
theorem dX7_faultProperty_58 : decode cX7_faultProperty 58 = .ok (.iload_n 1, 1) := by decide +kernel
theorem dX7_faultProperty_59 : decode cX7_faultProperty 59 = .ok (.iaload, 1) := by decide +kernel
theorem dX7_faultProperty_60 : decode cX7_faultProperty 60 = .ok (.ireturn, 1) := by decide +kernel
theorem dX7_faultProperty_61 : decode cX7_faultProperty 61 = .ok (.aload_n 0, 1) := by decide +kernel
theorem dX7_faultProperty_62 : decode cX7_faultProperty 62 = .ok (.getfield 19, 3) := by decide +kernel
theorem dX7_faultProperty_65 : decode cX7_faultProperty 65 = .ok (.getfield 372, 3) := by decide +kernel
theorem dX7_faultProperty_68 : decode cX7_faultProperty 68 = .ok (.iconst 2, 1) := by decide +kernel
theorem dX7_faultProperty_69 : decode cX7_faultProperty 69 = .ok (.aload_n 3, 1) := by decide +kernel
theorem dX7_faultProperty_70 : decode cX7_faultProperty 70 = .ok (.getfield 381, 3) := by decide +kernel
theorem dX7_faultProperty_73 : decode cX7_faultProperty 73 = .ok (.iload_n 1, 1) := by decide +kernel
theorem dX7_faultProperty_74 : decode cX7_faultProperty 74 = .ok (.iaload, 1) := by decide +kernel
theorem dX7_faultProperty_75 : decode cX7_faultProperty 75 = .ok (.imul, 1) := by decide +kernel
theorem dX7_faultProperty_76 : decode cX7_faultProperty 76 = .ok (.aload_n 3, 1) := by decide +kernel
theorem dX7_faultProperty_77 : decode cX7_faultProperty 77 = .ok (.getfield 382, 3) := by decide +kernel
theorem dX7_faultProperty_80 : decode cX7_faultProperty 80 = .ok (.iload_n 1, 1) := by decide +kernel
theorem dX7_faultProperty_81 : decode cX7_faultProperty 81 = .ok (.iaload, 1) := by decide +kernel
theorem dX7_faultProperty_82 : decode cX7_faultProperty 82 = .ok (.iadd, 1) := by decide +kernel
theorem dX7_faultProperty_83 : decode cX7_faultProperty 83 = .ok (.iaload, 1) := by decide +kernel
theorem dX7_faultProperty_84 : decode cX7_faultProperty 84 = .ok (.ireturn, 1) := by decide +kernel
theorem dX7_faultProperty_85 : decode cX7_faultProperty 85 = .ok (.aload_n 0, 1) := by decide +kernel
theorem dX7_faultProperty_86 : decode cX7_faultProperty 86 = .ok (.getfield 19, 3) := by decide +kernel
theorem dX7_faultProperty_89 : decode cX7_faultProperty 89 = .ok (.getfield 397, 3) := by decide +kernel
theorem dX7_faultProperty_92 : decode cX7_faultProperty 92 = .ok (.iload_n 1, 1) := by decide +kernel
theorem dX7_faultProperty_93 : decode cX7_faultProperty 93 = .ok (.iaload, 1) := by decide +kernel
theorem dX7_faultProperty_94 : decode cX7_faultProperty 94 = .ok (.ireturn, 1) := by decide +kernel
theorem dX7_countOf_0 : decode cX7_countOf 0 = .ok (.iload_n 1, 1) := by decide +kernel
theorem dX7_countOf_1 : decode cX7_countOf 1 = .ok (.tableswitch 159 0 10 #[59, 70, 81, 89, 100, 108, 119, 127, 135, 143, 151], 59) := by decide +kernel
theorem dX7_countOf_60 : decode cX7_countOf 60 = .ok (.aload_n 0, 1) := by decide +kernel
theorem dX7_countOf_61 : decode cX7_countOf 61 = .ok (.getfield 12, 3) := by decide +kernel
theorem dX7_countOf_64 : decode cX7_countOf 64 = .ok (.getfield 73, 3) := by decide +kernel
theorem dX7_countOf_67 : decode cX7_countOf 67 = .ok (.getfield 77, 3) := by decide +kernel
theorem dX7_countOf_70 : decode cX7_countOf 70 = .ok (.ireturn, 1) := by decide +kernel
theorem dX7_countOf_71 : decode cX7_countOf 71 = .ok (.aload_n 0, 1) := by decide +kernel
theorem dX7_countOf_72 : decode cX7_countOf 72 = .ok (.getfield 12, 3) := by decide +kernel
theorem dX7_countOf_75 : decode cX7_countOf 75 = .ok (.getfield 142, 3) := by decide +kernel
theorem dX7_countOf_78 : decode cX7_countOf 78 = .ok (.getfield 146, 3) := by decide +kernel
theorem dX7_countOf_81 : decode cX7_countOf 81 = .ok (.ireturn, 1) := by decide +kernel
theorem dX7_countOf_82 : decode cX7_countOf 82 = .ok (.aload_n 0, 1) := by decide +kernel
theorem dX7_countOf_83 : decode cX7_countOf 83 = .ok (.getfield 19, 3) := by decide +kernel
theorem dX7_countOf_86 : decode cX7_countOf 86 = .ok (.getfield 115, 3) := by decide +kernel
theorem dX7_countOf_89 : decode cX7_countOf 89 = .ok (.ireturn, 1) := by decide +kernel
theorem dX7_countOf_90 : decode cX7_countOf 90 = .ok (.aload_n 0, 1) := by decide +kernel
theorem dX7_countOf_91 : decode cX7_countOf 91 = .ok (.getfield 12, 3) := by decide +kernel
theorem dX7_countOf_94 : decode cX7_countOf 94 = .ok (.getfield 175, 3) := by decide +kernel
theorem dX7_countOf_97 : decode cX7_countOf 97 = .ok (.getfield 179, 3) := by decide +kernel
theorem dX7_countOf_100 : decode cX7_countOf 100 = .ok (.ireturn, 1) := by decide +kernel
theorem dX7_countOf_101 : decode cX7_countOf 101 = .ok (.aload_n 0, 1) := by decide +kernel
theorem dX7_countOf_102 : decode cX7_countOf 102 = .ok (.getfield 19, 3) := by decide +kernel
theorem dX7_countOf_105 : decode cX7_countOf 105 = .ok (.getfield 213, 3) := by decide +kernel
theorem dX7_countOf_108 : decode cX7_countOf 108 = .ok (.ireturn, 1) := by decide +kernel
theorem dX7_countOf_109 : decode cX7_countOf 109 = .ok (.aload_n 0, 1) := by decide +kernel
theorem dX7_countOf_110 : decode cX7_countOf 110 = .ok (.getfield 12, 3) := by decide +kernel
theorem dX7_countOf_113 : decode cX7_countOf 113 = .ok (.getfield 73, 3) := by decide +kernel
theorem dX7_countOf_116 : decode cX7_countOf 116 = .ok (.invokevirtual 400, 3) := by decide +kernel
theorem dX7_countOf_119 : decode cX7_countOf 119 = .ok (.ireturn, 1) := by decide +kernel
theorem dX7_countOf_120 : decode cX7_countOf 120 = .ok (.aload_n 0, 1) := by decide +kernel
theorem dX7_countOf_121 : decode cX7_countOf 121 = .ok (.getfield 12, 3) := by decide +kernel
theorem dX7_countOf_124 : decode cX7_countOf 124 = .ok (.getfield 123, 3) := by decide +kernel
theorem dX7_countOf_127 : decode cX7_countOf 127 = .ok (.ireturn, 1) := by decide +kernel
theorem dX7_countOf_128 : decode cX7_countOf 128 = .ok (.aload_n 0, 1) := by decide +kernel
theorem dX7_countOf_129 : decode cX7_countOf 129 = .ok (.getfield 12, 3) := by decide +kernel
theorem dX7_countOf_132 : decode cX7_countOf 132 = .ok (.getfield 324, 3) := by decide +kernel
theorem dX7_countOf_135 : decode cX7_countOf 135 = .ok (.ireturn, 1) := by decide +kernel
theorem dX7_countOf_136 : decode cX7_countOf 136 = .ok (.aload_n 0, 1) := by decide +kernel
theorem dX7_countOf_137 : decode cX7_countOf 137 = .ok (.getfield 12, 3) := by decide +kernel
theorem dX7_countOf_140 : decode cX7_countOf 140 = .ok (.getfield 198, 3) := by decide +kernel
theorem dX7_countOf_143 : decode cX7_countOf 143 = .ok (.ireturn, 1) := by decide +kernel
theorem dX7_countOf_144 : decode cX7_countOf 144 = .ok (.aload_n 0, 1) := by decide +kernel
theorem dX7_countOf_145 : decode cX7_countOf 145 = .ok (.getfield 12, 3) := by decide +kernel
theorem dX7_countOf_148 : decode cX7_countOf 148 = .ok (.getfield 207, 3) := by decide +kernel
theorem dX7_countOf_151 : decode cX7_countOf 151 = .ok (.ireturn, 1) := by decide +kernel
theorem dX7_countOf_152 : decode cX7_countOf 152 = .ok (.aload_n 0, 1) := by decide +kernel
theorem dX7_countOf_153 : decode cX7_countOf 153 = .ok (.getfield 12, 3) := by decide +kernel
theorem dX7_countOf_156 : decode cX7_countOf 156 = .ok (.getfield 210, 3) := by decide +kernel
theorem dX7_countOf_159 : decode cX7_countOf 159 = .ok (.ireturn, 1) := by decide +kernel
theorem dX7_countOf_160 : decode cX7_countOf 160 = .ok (.aload_n 0, 1) := by decide +kernel
theorem dX7_countOf_161 : decode cX7_countOf 161 = .ok (.getfield 35, 3) := by decide +kernel
theorem dX7_countOf_164 : decode cX7_countOf 164 = .ok (.getfield 233, 3) := by decide +kernel
theorem dX7_countOf_167 : decode cX7_countOf 167 = .ok (.ireturn, 1) := by decide +kernel
theorem dX7_hashBoxes_0 : decode cX7_hashBoxes 0 = .ok (.lload_n 1, 1) := by decide +kernel
theorem dX7_hashBoxes_1 : decode cX7_hashBoxes 1 = .ok (.lstore_n 3, 1) := by decide +kernel
theorem dX7_hashBoxes_2 : decode cX7_hashBoxes 2 = .ok (.iconst 0, 1) := by decide +kernel
theorem dX7_hashBoxes_3 : decode cX7_hashBoxes 3 = .ok (.istore 5, 2) := by decide +kernel
theorem dX7_hashBoxes_5 : decode cX7_hashBoxes 5 = .ok (.iload 5, 2) := by decide +kernel
theorem dX7_hashBoxes_7 : decode cX7_hashBoxes 7 = .ok (.aload_n 0, 1) := by decide +kernel
theorem dX7_hashBoxes_8 : decode cX7_hashBoxes 8 = .ok (.getfield 12, 3) := by decide +kernel
theorem dX7_hashBoxes_11 : decode cX7_hashBoxes 11 = .ok (.getfield 73, 3) := by decide +kernel
theorem dX7_hashBoxes_14 : decode cX7_hashBoxes 14 = .ok (.getfield 77, 3) := by decide +kernel
theorem dX7_hashBoxes_17 : decode cX7_hashBoxes 17 = .ok (.if_icmp .ge 90, 3) := by decide +kernel
theorem dX7_hashBoxes_20 : decode cX7_hashBoxes 20 = .ok (.iconst 0, 1) := by decide +kernel
theorem dX7_hashBoxes_21 : decode cX7_hashBoxes 21 = .ok (.istore 6, 2) := by decide +kernel
theorem dX7_hashBoxes_23 : decode cX7_hashBoxes 23 = .ok (.iload 6, 2) := by decide +kernel
theorem dX7_hashBoxes_25 : decode cX7_hashBoxes 25 = .ok (.bipush 7, 2) := by decide +kernel
theorem dX7_hashBoxes_27 : decode cX7_hashBoxes 27 = .ok (.if_icmp .ge 25, 3) := by decide +kernel
theorem dX7_hashBoxes_30 : decode cX7_hashBoxes 30 = .ok (.ldc2_w 301, 3) := by decide +kernel
theorem dX7_hashBoxes_33 : decode cX7_hashBoxes 33 = .ok (.lload_n 3, 1) := by decide +kernel
theorem dX7_hashBoxes_34 : decode cX7_hashBoxes 34 = .ok (.lmul, 1) := by decide +kernel
theorem dX7_hashBoxes_35 : decode cX7_hashBoxes 35 = .ok (.aload_n 0, 1) := by decide +kernel
theorem dX7_hashBoxes_36 : decode cX7_hashBoxes 36 = .ok (.iload 5, 2) := by decide +kernel
theorem dX7_hashBoxes_38 : decode cX7_hashBoxes 38 = .ok (.iload 6, 2) := by decide +kernel
theorem dX7_hashBoxes_40 : decode cX7_hashBoxes 40 = .ok (.invokevirtual 244, 3) := by decide +kernel
theorem dX7_hashBoxes_43 : decode cX7_hashBoxes 43 = .ok (.i2l, 1) := by decide +kernel
theorem dX7_hashBoxes_44 : decode cX7_hashBoxes 44 = .ok (.ladd, 1) := by decide +kernel
theorem dX7_hashBoxes_45 : decode cX7_hashBoxes 45 = .ok (.lstore_n 3, 1) := by decide +kernel
theorem dX7_hashBoxes_46 : decode cX7_hashBoxes 46 = .ok (.iinc 6 1, 3) := by decide +kernel
theorem dX7_hashBoxes_49 : decode cX7_hashBoxes 49 = .ok (.goto (-26), 3) := by decide +kernel
theorem dX7_hashBoxes_52 : decode cX7_hashBoxes 52 = .ok (.iconst 0, 1) := by decide +kernel
theorem dX7_hashBoxes_53 : decode cX7_hashBoxes 53 = .ok (.istore 6, 2) := by decide +kernel
theorem dX7_hashBoxes_55 : decode cX7_hashBoxes 55 = .ok (.iload 6, 2) := by decide +kernel
theorem dX7_hashBoxes_57 : decode cX7_hashBoxes 57 = .ok (.iconst 2, 1) := by decide +kernel
theorem dX7_hashBoxes_58 : decode cX7_hashBoxes 58 = .ok (.if_icmp .ge 43, 3) := by decide +kernel
theorem dX7_hashBoxes_61 : decode cX7_hashBoxes 61 = .ok (.iconst 0, 1) := by decide +kernel
theorem dX7_hashBoxes_62 : decode cX7_hashBoxes 62 = .ok (.istore 7, 2) := by decide +kernel
theorem dX7_hashBoxes_64 : decode cX7_hashBoxes 64 = .ok (.iload 7, 2) := by decide +kernel
theorem dX7_hashBoxes_66 : decode cX7_hashBoxes 66 = .ok (.bipush 6, 2) := by decide +kernel
theorem dX7_hashBoxes_68 : decode cX7_hashBoxes 68 = .ok (.if_icmp .ge 27, 3) := by decide +kernel
theorem dX7_hashBoxes_71 : decode cX7_hashBoxes 71 = .ok (.ldc2_w 301, 3) := by decide +kernel
theorem dX7_hashBoxes_74 : decode cX7_hashBoxes 74 = .ok (.lload_n 3, 1) := by decide +kernel
theorem dX7_hashBoxes_75 : decode cX7_hashBoxes 75 = .ok (.lmul, 1) := by decide +kernel
theorem dX7_hashBoxes_76 : decode cX7_hashBoxes 76 = .ok (.aload_n 0, 1) := by decide +kernel
theorem dX7_hashBoxes_77 : decode cX7_hashBoxes 77 = .ok (.iload 5, 2) := by decide +kernel
theorem dX7_hashBoxes_79 : decode cX7_hashBoxes 79 = .ok (.iload 6, 2) := by decide +kernel
theorem dX7_hashBoxes_81 : decode cX7_hashBoxes 81 = .ok (.iload 7, 2) := by decide +kernel
theorem dX7_hashBoxes_83 : decode cX7_hashBoxes 83 = .ok (.invokevirtual 250, 3) := by decide +kernel
theorem dX7_hashBoxes_86 : decode cX7_hashBoxes 86 = .ok (.i2l, 1) := by decide +kernel
theorem dX7_hashBoxes_87 : decode cX7_hashBoxes 87 = .ok (.ladd, 1) := by decide +kernel
theorem dX7_hashBoxes_88 : decode cX7_hashBoxes 88 = .ok (.lstore_n 3, 1) := by decide +kernel
theorem dX7_hashBoxes_89 : decode cX7_hashBoxes 89 = .ok (.iinc 7 1, 3) := by decide +kernel
theorem dX7_hashBoxes_92 : decode cX7_hashBoxes 92 = .ok (.goto (-28), 3) := by decide +kernel
theorem dX7_hashBoxes_95 : decode cX7_hashBoxes 95 = .ok (.iinc 6 1, 3) := by decide +kernel
theorem dX7_hashBoxes_98 : decode cX7_hashBoxes 98 = .ok (.goto (-43), 3) := by decide +kernel
theorem dX7_hashBoxes_101 : decode cX7_hashBoxes 101 = .ok (.iinc 5 1, 3) := by decide +kernel
theorem dX7_hashBoxes_104 : decode cX7_hashBoxes 104 = .ok (.goto (-99), 3) := by decide +kernel
theorem dX7_hashBoxes_107 : decode cX7_hashBoxes 107 = .ok (.lload_n 3, 1) := by decide +kernel
theorem dX7_hashBoxes_108 : decode cX7_hashBoxes 108 = .ok (.lreturn, 1) := by decide +kernel
theorem dX7_hashLanternsAndFaults_0 : decode cX7_hashLanternsAndFaults 0 = .ok (.lload_n 1, 1) := by decide +kernel
theorem dX7_hashLanternsAndFaults_1 : decode cX7_hashLanternsAndFaults 1 = .ok (.lstore_n 3, 1) := by decide +kernel
theorem dX7_hashLanternsAndFaults_2 : decode cX7_hashLanternsAndFaults 2 = .ok (.iconst 0, 1) := by decide +kernel
theorem dX7_hashLanternsAndFaults_3 : decode cX7_hashLanternsAndFaults 3 = .ok (.istore 5, 2) := by decide +kernel
theorem dX7_hashLanternsAndFaults_5 : decode cX7_hashLanternsAndFaults 5 = .ok (.iload 5, 2) := by decide +kernel
theorem dX7_hashLanternsAndFaults_7 : decode cX7_hashLanternsAndFaults 7 = .ok (.aload_n 0, 1) := by decide +kernel
theorem dX7_hashLanternsAndFaults_8 : decode cX7_hashLanternsAndFaults 8 = .ok (.getfield 12, 3) := by decide +kernel
theorem dX7_hashLanternsAndFaults_11 : decode cX7_hashLanternsAndFaults 11 = .ok (.getfield 142, 3) := by decide +kernel
theorem dX7_hashLanternsAndFaults_14 : decode cX7_hashLanternsAndFaults 14 = .ok (.getfield 146, 3) := by decide +kernel
theorem dX7_hashLanternsAndFaults_17 : decode cX7_hashLanternsAndFaults 17 = .ok (.if_icmp .ge 40, 3) := by decide +kernel
theorem dX7_hashLanternsAndFaults_20 : decode cX7_hashLanternsAndFaults 20 = .ok (.iconst 0, 1) := by decide +kernel
theorem dX7_hashLanternsAndFaults_21 : decode cX7_hashLanternsAndFaults 21 = .ok (.istore 6, 2) := by decide +kernel
theorem dX7_hashLanternsAndFaults_23 : decode cX7_hashLanternsAndFaults 23 = .ok (.iload 6, 2) := by decide +kernel
theorem dX7_hashLanternsAndFaults_25 : decode cX7_hashLanternsAndFaults 25 = .ok (.iconst 4, 1) := by decide +kernel
theorem dX7_hashLanternsAndFaults_26 : decode cX7_hashLanternsAndFaults 26 = .ok (.if_icmp .ge 25, 3) := by decide +kernel
theorem dX7_hashLanternsAndFaults_29 : decode cX7_hashLanternsAndFaults 29 = .ok (.ldc2_w 301, 3) := by decide +kernel
theorem dX7_hashLanternsAndFaults_32 : decode cX7_hashLanternsAndFaults 32 = .ok (.lload_n 3, 1) := by decide +kernel
theorem dX7_hashLanternsAndFaults_33 : decode cX7_hashLanternsAndFaults 33 = .ok (.lmul, 1) := by decide +kernel
theorem dX7_hashLanternsAndFaults_34 : decode cX7_hashLanternsAndFaults 34 = .ok (.aload_n 0, 1) := by decide +kernel
theorem dX7_hashLanternsAndFaults_35 : decode cX7_hashLanternsAndFaults 35 = .ok (.iload 5, 2) := by decide +kernel
theorem dX7_hashLanternsAndFaults_37 : decode cX7_hashLanternsAndFaults 37 = .ok (.iload 6, 2) := by decide +kernel
theorem dX7_hashLanternsAndFaults_39 : decode cX7_hashLanternsAndFaults 39 = .ok (.invokevirtual 256, 3) := by decide +kernel
theorem dX7_hashLanternsAndFaults_42 : decode cX7_hashLanternsAndFaults 42 = .ok (.i2l, 1) := by decide +kernel
theorem dX7_hashLanternsAndFaults_43 : decode cX7_hashLanternsAndFaults 43 = .ok (.ladd, 1) := by decide +kernel
theorem dX7_hashLanternsAndFaults_44 : decode cX7_hashLanternsAndFaults 44 = .ok (.lstore_n 3, 1) := by decide +kernel
theorem dX7_hashLanternsAndFaults_45 : decode cX7_hashLanternsAndFaults 45 = .ok (.iinc 6 1, 3) := by decide +kernel
theorem dX7_hashLanternsAndFaults_48 : decode cX7_hashLanternsAndFaults 48 = .ok (.goto (-25), 3) := by decide +kernel
theorem dX7_hashLanternsAndFaults_51 : decode cX7_hashLanternsAndFaults 51 = .ok (.iinc 5 1, 3) := by decide +kernel
theorem dX7_hashLanternsAndFaults_54 : decode cX7_hashLanternsAndFaults 54 = .ok (.goto (-49), 3) := by decide +kernel
theorem dX7_hashLanternsAndFaults_57 : decode cX7_hashLanternsAndFaults 57 = .ok (.iconst 0, 1) := by decide +kernel
theorem dX7_hashLanternsAndFaults_58 : decode cX7_hashLanternsAndFaults 58 = .ok (.istore 5, 2) := by decide +kernel
theorem dX7_hashLanternsAndFaults_60 : decode cX7_hashLanternsAndFaults 60 = .ok (.iload 5, 2) := by decide +kernel
theorem dX7_hashLanternsAndFaults_62 : decode cX7_hashLanternsAndFaults 62 = .ok (.aload_n 0, 1) := by decide +kernel
theorem dX7_hashLanternsAndFaults_63 : decode cX7_hashLanternsAndFaults 63 = .ok (.getfield 12, 3) := by decide +kernel
theorem dX7_hashLanternsAndFaults_66 : decode cX7_hashLanternsAndFaults 66 = .ok (.getfield 175, 3) := by decide +kernel
theorem dX7_hashLanternsAndFaults_69 : decode cX7_hashLanternsAndFaults 69 = .ok (.getfield 179, 3) := by decide +kernel
theorem dX7_hashLanternsAndFaults_72 : decode cX7_hashLanternsAndFaults 72 = .ok (.if_icmp .ge 40, 3) := by decide +kernel
theorem dX7_hashLanternsAndFaults_75 : decode cX7_hashLanternsAndFaults 75 = .ok (.iconst 0, 1) := by decide +kernel
theorem dX7_hashLanternsAndFaults_76 : decode cX7_hashLanternsAndFaults 76 = .ok (.istore 6, 2) := by decide +kernel
theorem dX7_hashLanternsAndFaults_78 : decode cX7_hashLanternsAndFaults 78 = .ok (.iload 6, 2) := by decide +kernel
theorem dX7_hashLanternsAndFaults_80 : decode cX7_hashLanternsAndFaults 80 = .ok (.iconst 5, 1) := by decide +kernel
theorem dX7_hashLanternsAndFaults_81 : decode cX7_hashLanternsAndFaults 81 = .ok (.if_icmp .ge 25, 3) := by decide +kernel
theorem dX7_hashLanternsAndFaults_84 : decode cX7_hashLanternsAndFaults 84 = .ok (.ldc2_w 301, 3) := by decide +kernel
theorem dX7_hashLanternsAndFaults_87 : decode cX7_hashLanternsAndFaults 87 = .ok (.lload_n 3, 1) := by decide +kernel
theorem dX7_hashLanternsAndFaults_88 : decode cX7_hashLanternsAndFaults 88 = .ok (.lmul, 1) := by decide +kernel
theorem dX7_hashLanternsAndFaults_89 : decode cX7_hashLanternsAndFaults 89 = .ok (.aload_n 0, 1) := by decide +kernel
theorem dX7_hashLanternsAndFaults_90 : decode cX7_hashLanternsAndFaults 90 = .ok (.iload 5, 2) := by decide +kernel
theorem dX7_hashLanternsAndFaults_92 : decode cX7_hashLanternsAndFaults 92 = .ok (.iload 6, 2) := by decide +kernel
theorem dX7_hashLanternsAndFaults_94 : decode cX7_hashLanternsAndFaults 94 = .ok (.invokevirtual 261, 3) := by decide +kernel
theorem dX7_hashLanternsAndFaults_97 : decode cX7_hashLanternsAndFaults 97 = .ok (.i2l, 1) := by decide +kernel
theorem dX7_hashLanternsAndFaults_98 : decode cX7_hashLanternsAndFaults 98 = .ok (.ladd, 1) := by decide +kernel
theorem dX7_hashLanternsAndFaults_99 : decode cX7_hashLanternsAndFaults 99 = .ok (.lstore_n 3, 1) := by decide +kernel
theorem dX7_hashLanternsAndFaults_100 : decode cX7_hashLanternsAndFaults 100 = .ok (.iinc 6 1, 3) := by decide +kernel
theorem dX7_hashLanternsAndFaults_103 : decode cX7_hashLanternsAndFaults 103 = .ok (.goto (-25), 3) := by decide +kernel
theorem dX7_hashLanternsAndFaults_106 : decode cX7_hashLanternsAndFaults 106 = .ok (.iinc 5 1, 3) := by decide +kernel
theorem dX7_hashLanternsAndFaults_109 : decode cX7_hashLanternsAndFaults 109 = .ok (.goto (-49), 3) := by decide +kernel
theorem dX7_hashLanternsAndFaults_112 : decode cX7_hashLanternsAndFaults 112 = .ok (.lload_n 3, 1) := by decide +kernel
theorem dX7_hashLanternsAndFaults_113 : decode cX7_hashLanternsAndFaults 113 = .ok (.lreturn, 1) := by decide +kernel
theorem dX7_hashTrials_0 : decode cX7_hashTrials 0 = .ok (.lload_n 1, 1) := by decide +kernel
theorem dX7_hashTrials_1 : decode cX7_hashTrials 1 = .ok (.lstore_n 3, 1) := by decide +kernel
theorem dX7_hashTrials_2 : decode cX7_hashTrials 2 = .ok (.aload_n 0, 1) := by decide +kernel
theorem dX7_hashTrials_3 : decode cX7_hashTrials 3 = .ok (.invokevirtual 293, 3) := by decide +kernel
theorem dX7_hashTrials_6 : decode cX7_hashTrials 6 = .ok (.iconst 1, 1) := by decide +kernel
theorem dX7_hashTrials_7 : decode cX7_hashTrials 7 = .ok (.istore 5, 2) := by decide +kernel
theorem dX7_hashTrials_9 : decode cX7_hashTrials 9 = .ok (.iload 5, 2) := by decide +kernel
theorem dX7_hashTrials_11 : decode cX7_hashTrials 11 = .ok (.aload_n 0, 1) := by decide +kernel
theorem dX7_hashTrials_12 : decode cX7_hashTrials 12 = .ok (.getfield 12, 3) := by decide +kernel
theorem dX7_hashTrials_15 : decode cX7_hashTrials 15 = .ok (.getfield 73, 3) := by decide +kernel
theorem dX7_hashTrials_18 : decode cX7_hashTrials 18 = .ok (.getfield 77, 3) := by decide +kernel
theorem dX7_hashTrials_21 : decode cX7_hashTrials 21 = .ok (.if_icmp .ge 63, 3) := by decide +kernel
theorem dX7_hashTrials_24 : decode cX7_hashTrials 24 = .ok (.ldc2_w 301, 3) := by decide +kernel
theorem dX7_hashTrials_27 : decode cX7_hashTrials 27 = .ok (.lload_n 3, 1) := by decide +kernel
theorem dX7_hashTrials_28 : decode cX7_hashTrials 28 = .ok (.lmul, 1) := by decide +kernel
theorem dX7_hashTrials_29 : decode cX7_hashTrials 29 = .ok (.aload_n 0, 1) := by decide +kernel
theorem dX7_hashTrials_30 : decode cX7_hashTrials 30 = .ok (.iload 5, 2) := by decide +kernel
theorem dX7_hashTrials_32 : decode cX7_hashTrials 32 = .ok (.invokevirtual 290, 3) := by decide +kernel
theorem dX7_hashTrials_35 : decode cX7_hashTrials 35 = .ok (.i2l, 1) := by decide +kernel
theorem dX7_hashTrials_36 : decode cX7_hashTrials 36 = .ok (.ladd, 1) := by decide +kernel
theorem dX7_hashTrials_37 : decode cX7_hashTrials 37 = .ok (.lstore_n 3, 1) := by decide +kernel
theorem dX7_hashTrials_38 : decode cX7_hashTrials 38 = .ok (.ldc2_w 301, 3) := by decide +kernel
theorem dX7_hashTrials_41 : decode cX7_hashTrials 41 = .ok (.lload_n 3, 1) := by decide +kernel
theorem dX7_hashTrials_42 : decode cX7_hashTrials 42 = .ok (.lmul, 1) := by decide +kernel
theorem dX7_hashTrials_43 : decode cX7_hashTrials 43 = .ok (.aload_n 0, 1) := by decide +kernel
theorem dX7_hashTrials_44 : decode cX7_hashTrials 44 = .ok (.getfield 29, 3) := by decide +kernel
theorem dX7_hashTrials_47 : decode cX7_hashTrials 47 = .ok (.iconst 2, 1) := by decide +kernel
theorem dX7_hashTrials_48 : decode cX7_hashTrials 48 = .ok (.iload 5, 2) := by decide +kernel
theorem dX7_hashTrials_50 : decode cX7_hashTrials 50 = .ok (.imul, 1) := by decide +kernel
theorem dX7_hashTrials_51 : decode cX7_hashTrials 51 = .ok (.invokevirtual 296, 3) := by decide +kernel
theorem dX7_hashTrials_54 : decode cX7_hashTrials 54 = .ok (.i2l, 1) := by decide +kernel
theorem dX7_hashTrials_55 : decode cX7_hashTrials 55 = .ok (.ladd, 1) := by decide +kernel
theorem dX7_hashTrials_56 : decode cX7_hashTrials 56 = .ok (.lstore_n 3, 1) := by decide +kernel
theorem dX7_hashTrials_57 : decode cX7_hashTrials 57 = .ok (.ldc2_w 301, 3) := by decide +kernel
theorem dX7_hashTrials_60 : decode cX7_hashTrials 60 = .ok (.lload_n 3, 1) := by decide +kernel
theorem dX7_hashTrials_61 : decode cX7_hashTrials 61 = .ok (.lmul, 1) := by decide +kernel
theorem dX7_hashTrials_62 : decode cX7_hashTrials 62 = .ok (.aload_n 0, 1) := by decide +kernel
theorem dX7_hashTrials_63 : decode cX7_hashTrials 63 = .ok (.getfield 29, 3) := by decide +kernel
theorem dX7_hashTrials_66 : decode cX7_hashTrials 66 = .ok (.iconst 2, 1) := by decide +kernel
theorem dX7_hashTrials_67 : decode cX7_hashTrials 67 = .ok (.iload 5, 2) := by decide +kernel
theorem dX7_hashTrials_69 : decode cX7_hashTrials 69 = .ok (.imul, 1) := by decide +kernel
theorem dX7_hashTrials_70 : decode cX7_hashTrials 70 = .ok (.iconst 1, 1) := by decide +kernel
theorem dX7_hashTrials_71 : decode cX7_hashTrials 71 = .ok (.iadd, 1) := by decide +kernel
theorem dX7_hashTrials_72 : decode cX7_hashTrials 72 = .ok (.invokevirtual 296, 3) := by decide +kernel
theorem dX7_hashTrials_75 : decode cX7_hashTrials 75 = .ok (.i2l, 1) := by decide +kernel
theorem dX7_hashTrials_76 : decode cX7_hashTrials 76 = .ok (.ladd, 1) := by decide +kernel
theorem dX7_hashTrials_77 : decode cX7_hashTrials 77 = .ok (.lstore_n 3, 1) := by decide +kernel
theorem dX7_hashTrials_78 : decode cX7_hashTrials 78 = .ok (.iinc 5 1, 3) := by decide +kernel
theorem dX7_hashTrials_81 : decode cX7_hashTrials 81 = .ok (.goto (-72), 3) := by decide +kernel
theorem dX7_hashTrials_84 : decode cX7_hashTrials 84 = .ok (.lload_n 3, 1) := by decide +kernel
theorem dX7_hashTrials_85 : decode cX7_hashTrials 85 = .ok (.lreturn, 1) := by decide +kernel
theorem dX7_hashSigns_0 : decode cX7_hashSigns 0 = .ok (.ldc2_w 301, 3) := by decide +kernel
theorem dX7_hashSigns_3 : decode cX7_hashSigns 3 = .ok (.lload_n 1, 1) := by decide +kernel
theorem dX7_hashSigns_4 : decode cX7_hashSigns 4 = .ok (.lmul, 1) := by decide +kernel
theorem dX7_hashSigns_5 : decode cX7_hashSigns 5 = .ok (.aload_n 0, 1) := by decide +kernel
theorem dX7_hashSigns_6 : decode cX7_hashSigns 6 = .ok (.getfield 50, 3) := by decide +kernel
theorem dX7_hashSigns_9 : decode cX7_hashSigns 9 = .ok (.i2l, 1) := by decide +kernel
theorem dX7_hashSigns_10 : decode cX7_hashSigns 10 = .ok (.ladd, 1) := by decide +kernel
theorem dX7_hashSigns_11 : decode cX7_hashSigns 11 = .ok (.lstore_n 3, 1) := by decide +kernel
theorem dX7_hashSigns_12 : decode cX7_hashSigns 12 = .ok (.iconst 0, 1) := by decide +kernel
theorem dX7_hashSigns_13 : decode cX7_hashSigns 13 = .ok (.istore 5, 2) := by decide +kernel
theorem dX7_hashSigns_15 : decode cX7_hashSigns 15 = .ok (.iload 5, 2) := by decide +kernel
theorem dX7_hashSigns_17 : decode cX7_hashSigns 17 = .ok (.aload_n 0, 1) := by decide +kernel
theorem dX7_hashSigns_18 : decode cX7_hashSigns 18 = .ok (.getfield 50, 3) := by decide +kernel
theorem dX7_hashSigns_21 : decode cX7_hashSigns 21 = .ok (.if_icmp .ge 24, 3) := by decide +kernel
theorem dX7_hashSigns_24 : decode cX7_hashSigns 24 = .ok (.ldc2_w 301, 3) := by decide +kernel
theorem dX7_hashSigns_27 : decode cX7_hashSigns 27 = .ok (.lload_n 3, 1) := by decide +kernel
theorem dX7_hashSigns_28 : decode cX7_hashSigns 28 = .ok (.lmul, 1) := by decide +kernel
theorem dX7_hashSigns_29 : decode cX7_hashSigns 29 = .ok (.aload_n 0, 1) := by decide +kernel
theorem dX7_hashSigns_30 : decode cX7_hashSigns 30 = .ok (.getfield 46, 3) := by decide +kernel
theorem dX7_hashSigns_33 : decode cX7_hashSigns 33 = .ok (.iload 5, 2) := by decide +kernel
theorem dX7_hashSigns_35 : decode cX7_hashSigns 35 = .ok (.iaload, 1) := by decide +kernel
theorem dX7_hashSigns_36 : decode cX7_hashSigns 36 = .ok (.i2l, 1) := by decide +kernel
theorem dX7_hashSigns_37 : decode cX7_hashSigns 37 = .ok (.ladd, 1) := by decide +kernel
theorem dX7_hashSigns_38 : decode cX7_hashSigns 38 = .ok (.lstore_n 3, 1) := by decide +kernel
theorem dX7_hashSigns_39 : decode cX7_hashSigns 39 = .ok (.iinc 5 1, 3) := by decide +kernel
theorem dX7_hashSigns_42 : decode cX7_hashSigns 42 = .ok (.goto (-27), 3) := by decide +kernel
theorem dX7_hashSigns_45 : decode cX7_hashSigns 45 = .ok (.lload_n 3, 1) := by decide +kernel
theorem dX7_hashSigns_46 : decode cX7_hashSigns 46 = .ok (.lreturn, 1) := by decide +kernel
theorem dX7_bitsOfShare_0 : decode cX7_bitsOfShare 0 = .ok (.dload_n 0, 1) := by decide +kernel
theorem dX7_bitsOfShare_1 : decode cX7_bitsOfShare 1 = .ok (.dconst 0, 1) := by decide +kernel
theorem dX7_bitsOfShare_2 : decode cX7_bitsOfShare 2 = .ok (.dcmp .g, 1) := by decide +kernel
theorem dX7_bitsOfShare_3 : decode cX7_bitsOfShare 3 = .ok (.ifCond .gt 5, 3) := by decide +kernel
theorem dX7_bitsOfShare_6 : decode cX7_bitsOfShare 6 = .ok (.lconst 0, 1) := by decide +kernel
theorem dX7_bitsOfShare_7 : decode cX7_bitsOfShare 7 = .ok (.lreturn, 1) := by decide +kernel
theorem dX7_bitsOfShare_8 : decode cX7_bitsOfShare 8 = .ok (.dload_n 0, 1) := by decide +kernel
theorem dX7_bitsOfShare_9 : decode cX7_bitsOfShare 9 = .ok (.dstore_n 2, 1) := by decide +kernel
theorem dX7_bitsOfShare_10 : decode cX7_bitsOfShare 10 = .ok (.ldc2_w 403, 3) := by decide +kernel
theorem dX7_bitsOfShare_13 : decode cX7_bitsOfShare 13 = .ok (.lstore 4, 2) := by decide +kernel
theorem dX7_bitsOfShare_15 : decode cX7_bitsOfShare 15 = .ok (.dload_n 2, 1) := by decide +kernel
theorem dX7_bitsOfShare_16 : decode cX7_bitsOfShare 16 = .ok (.dconst 1, 1) := by decide +kernel
theorem dX7_bitsOfShare_17 : decode cX7_bitsOfShare 17 = .ok (.dcmp .g, 1) := by decide +kernel
theorem dX7_bitsOfShare_18 : decode cX7_bitsOfShare 18 = .ok (.ifCond .ge 25, 3) := by decide +kernel
theorem dX7_bitsOfShare_21 : decode cX7_bitsOfShare 21 = .ok (.lload 4, 2) := by decide +kernel
theorem dX7_bitsOfShare_23 : decode cX7_bitsOfShare 23 = .ok (.lconst 1, 1) := by decide +kernel
theorem dX7_bitsOfShare_24 : decode cX7_bitsOfShare 24 = .ok (.lcmp, 1) := by decide +kernel
theorem dX7_bitsOfShare_25 : decode cX7_bitsOfShare 25 = .ok (.ifCond .le 18, 3) := by decide +kernel
theorem dX7_bitsOfShare_28 : decode cX7_bitsOfShare 28 = .ok (.dload_n 2, 1) := by decide +kernel
theorem dX7_bitsOfShare_29 : decode cX7_bitsOfShare 29 = .ok (.ldc2_w 405, 3) := by decide +kernel
theorem dX7_bitsOfShare_32 : decode cX7_bitsOfShare 32 = .ok (.dmul, 1) := by decide +kernel
theorem dX7_bitsOfShare_33 : decode cX7_bitsOfShare 33 = .ok (.dstore_n 2, 1) := by decide +kernel
theorem dX7_bitsOfShare_34 : decode cX7_bitsOfShare 34 = .ok (.lload 4, 2) := by decide +kernel
theorem dX7_bitsOfShare_36 : decode cX7_bitsOfShare 36 = .ok (.lconst 1, 1) := by decide +kernel
theorem dX7_bitsOfShare_37 : decode cX7_bitsOfShare 37 = .ok (.lsub, 1) := by decide +kernel
theorem dX7_bitsOfShare_38 : decode cX7_bitsOfShare 38 = .ok (.lstore 4, 2) := by decide +kernel
theorem dX7_bitsOfShare_40 : decode cX7_bitsOfShare 40 = .ok (.goto (-25), 3) := by decide +kernel
theorem dX7_bitsOfShare_43 : decode cX7_bitsOfShare 43 = .ok (.dload_n 2, 1) := by decide +kernel
theorem dX7_bitsOfShare_44 : decode cX7_bitsOfShare 44 = .ok (.dconst 1, 1) := by decide +kernel
theorem dX7_bitsOfShare_45 : decode cX7_bitsOfShare 45 = .ok (.dsub, 1) := by decide +kernel
theorem dX7_bitsOfShare_46 : decode cX7_bitsOfShare 46 = .ok (.ldc2_w 407, 3) := by decide +kernel
theorem dX7_bitsOfShare_49 : decode cX7_bitsOfShare 49 = .ok (.dmul, 1) := by decide +kernel
theorem dX7_bitsOfShare_50 : decode cX7_bitsOfShare 50 = .ok (.d2l, 1) := by decide +kernel
theorem dX7_bitsOfShare_51 : decode cX7_bitsOfShare 51 = .ok (.lstore 6, 2) := by decide +kernel
theorem dX7_bitsOfShare_53 : decode cX7_bitsOfShare 53 = .ok (.lload 4, 2) := by decide +kernel
theorem dX7_bitsOfShare_55 : decode cX7_bitsOfShare 55 = .ok (.bipush 52, 2) := by decide +kernel
theorem dX7_bitsOfShare_57 : decode cX7_bitsOfShare 57 = .ok (.lshl, 1) := by decide +kernel
theorem dX7_bitsOfShare_58 : decode cX7_bitsOfShare 58 = .ok (.lload 6, 2) := by decide +kernel
theorem dX7_bitsOfShare_60 : decode cX7_bitsOfShare 60 = .ok (.ladd, 1) := by decide +kernel
theorem dX7_bitsOfShare_61 : decode cX7_bitsOfShare 61 = .ok (.lreturn, 1) := by decide +kernel
end
section
theorem dX8_init_0 : decode cX8_init 0 = .ok (.aload_n 0, 1) := by decide +kernel
theorem dX8_init_1 : decode cX8_init 1 = .ok (.invokespecial 1, 3) := by decide +kernel
theorem dX8_init_4 : decode cX8_init 4 = .ok (.aload_n 0, 1) := by decide +kernel
theorem dX8_init_5 : decode cX8_init 5 = .ok (.sipush 168, 3) := by decide +kernel
theorem dX8_init_8 : decode cX8_init 8 = .ok (.newarray .int, 2) := by decide +kernel
theorem dX8_init_10 : decode cX8_init 10 = .ok (.putfield 7, 3) := by decide +kernel
theorem dX8_init_13 : decode cX8_init 13 = .ok (.aload_n 0, 1) := by decide +kernel
theorem dX8_init_14 : decode cX8_init 14 = .ok (.sipush 1008, 3) := by decide +kernel
theorem dX8_init_17 : decode cX8_init 17 = .ok (.newarray .int, 2) := by decide +kernel
theorem dX8_init_19 : decode cX8_init 19 = .ok (.putfield 13, 3) := by decide +kernel
theorem dX8_init_22 : decode cX8_init 22 = .ok (.aload_n 0, 1) := by decide +kernel
theorem dX8_init_23 : decode cX8_init 23 = .ok (.bipush 60, 2) := by decide +kernel
theorem dX8_init_25 : decode cX8_init 25 = .ok (.newarray .int, 2) := by decide +kernel
theorem dX8_init_27 : decode cX8_init 27 = .ok (.putfield 16, 3) := by decide +kernel
theorem dX8_init_30 : decode cX8_init 30 = .ok (.aload_n 0, 1) := by decide +kernel
theorem dX8_init_31 : decode cX8_init 31 = .ok (.sipush 168, 3) := by decide +kernel
theorem dX8_init_34 : decode cX8_init 34 = .ok (.newarray .int, 2) := by decide +kernel
theorem dX8_init_36 : decode cX8_init 36 = .ok (.putfield 19, 3) := by decide +kernel
theorem dX8_init_39 : decode cX8_init 39 = .ok (.aload_n 0, 1) := by decide +kernel
theorem dX8_init_40 : decode cX8_init 40 = .ok (.bipush 80, 2) := by decide +kernel
theorem dX8_init_42 : decode cX8_init 42 = .ok (.newarray .int, 2) := by decide +kernel
theorem dX8_init_44 : decode cX8_init 44 = .ok (.putfield 22, 3) := by decide +kernel
theorem dX8_init_47 : decode cX8_init 47 = .ok (.aload_n 0, 1) := by decide +kernel
theorem dX8_init_48 : decode cX8_init 48 = .ok (.getfield 7, 3) := by decide +kernel
theorem dX8_init_51 : decode cX8_init 51 = .ok (.iconst 0, 1) := by decide +kernel
theorem dX8_init_52 : decode cX8_init 52 = .ok (.iconst 1, 1) := by decide +kernel
theorem dX8_init_53 : decode cX8_init 53 = .ok (.iastore, 1) := by decide +kernel
theorem dX8_init_54 : decode cX8_init 54 = .ok (.aload_n 0, 1) := by decide +kernel
theorem dX8_init_55 : decode cX8_init 55 = .ok (.getfield 7, 3) := by decide +kernel
theorem dX8_init_58 : decode cX8_init 58 = .ok (.sipush 162, 3) := by decide +kernel
theorem dX8_init_61 : decode cX8_init 61 = .ok (.bipush 10, 2) := by decide +kernel
theorem dX8_init_63 : decode cX8_init 63 = .ok (.iastore, 1) := by decide +kernel
theorem dX8_init_64 : decode cX8_init 64 = .ok (.return_, 1) := by decide +kernel
theorem dX8_thrown_0 : decode cX8_thrown 0 = .ok (.aload_n 0, 1) := by decide +kernel
theorem dX8_thrown_1 : decode cX8_thrown 1 = .ok (.getfield 25, 3) := by decide +kernel
theorem dX8_thrown_4 : decode cX8_thrown 4 = .ok (.ireturn, 1) := by decide +kernel
theorem dX8_within_0 : decode cX8_within 0 = .ok (.iload_n 0, 1) := by decide +kernel
theorem dX8_within_1 : decode cX8_within 1 = .ok (.iload_n 1, 1) := by decide +kernel
theorem dX8_within_2 : decode cX8_within 2 = .ok (.if_icmp .lt 12, 3) := by decide +kernel
theorem dX8_within_5 : decode cX8_within 5 = .ok (.iload_n 0, 1) := by decide +kernel
theorem dX8_within_6 : decode cX8_within 6 = .ok (.iload_n 2, 1) := by decide +kernel
theorem dX8_within_7 : decode cX8_within 7 = .ok (.if_icmp .gt 7, 3) := by decide +kernel
theorem dX8_within_10 : decode cX8_within 10 = .ok (.iconst 1, 1) := by decide +kernel
theorem dX8_within_11 : decode cX8_within 11 = .ok (.goto 4, 3) := by decide +kernel
theorem dX8_within_14 : decode cX8_within 14 = .ok (.iconst 0, 1) := by decide +kernel
theorem dX8_within_15 : decode cX8_within 15 = .ok (.ireturn, 1) := by decide +kernel
theorem dX8_ofBox_0 : decode cX8_ofBox 0 = .ok (.aload_n 0, 1) := by decide +kernel
theorem dX8_ofBox_1 : decode cX8_ofBox 1 = .ok (.getfield 7, 3) := by decide +kernel
theorem dX8_ofBox_4 : decode cX8_ofBox 4 = .ok (.iconst 1, 1) := by decide +kernel
theorem dX8_ofBox_5 : decode cX8_ofBox 5 = .ok (.bipush 7, 2) := by decide +kernel
theorem dX8_ofBox_7 : decode cX8_ofBox 7 = .ok (.iload_n 1, 1) := by decide +kernel
theorem dX8_ofBox_8 : decode cX8_ofBox 8 = .ok (.imul, 1) := by decide +kernel
theorem dX8_ofBox_9 : decode cX8_ofBox 9 = .ok (.iadd, 1) := by decide +kernel
theorem dX8_ofBox_10 : decode cX8_ofBox 10 = .ok (.iload_n 2, 1) := by decide +kernel
theorem dX8_ofBox_11 : decode cX8_ofBox 11 = .ok (.iadd, 1) := by decide +kernel
theorem dX8_ofBox_12 : decode cX8_ofBox 12 = .ok (.iaload, 1) := by decide +kernel
theorem dX8_ofBox_13 : decode cX8_ofBox 13 = .ok (.ireturn, 1) := by decide +kernel
theorem dX8_ofLantern_0 : decode cX8_ofLantern 0 = .ok (.aload_n 0, 1) := by decide +kernel
theorem dX8_ofLantern_1 : decode cX8_ofLantern 1 = .ok (.getfield 7, 3) := by decide +kernel
theorem dX8_ofLantern_4 : decode cX8_ofLantern 4 = .ok (.bipush 86, 2) := by decide +kernel
theorem dX8_ofLantern_6 : decode cX8_ofLantern 6 = .ok (.iconst 3, 1) := by decide +kernel
theorem dX8_ofLantern_7 : decode cX8_ofLantern 7 = .ok (.iload_n 1, 1) := by decide +kernel
theorem dX8_ofLantern_8 : decode cX8_ofLantern 8 = .ok (.imul, 1) := by decide +kernel
theorem dX8_ofLantern_9 : decode cX8_ofLantern 9 = .ok (.iadd, 1) := by decide +kernel
theorem dX8_ofLantern_10 : decode cX8_ofLantern 10 = .ok (.iload_n 2, 1) := by decide +kernel
theorem dX8_ofLantern_11 : decode cX8_ofLantern 11 = .ok (.iadd, 1) := by decide +kernel
theorem dX8_ofLantern_12 : decode cX8_ofLantern 12 = .ok (.iaload, 1) := by decide +kernel
theorem dX8_ofLantern_13 : decode cX8_ofLantern 13 = .ok (.ireturn, 1) := by decide +kernel
theorem dX8_ofFault_0 : decode cX8_ofFault 0 = .ok (.aload_n 0, 1) := by decide +kernel
theorem dX8_ofFault_1 : decode cX8_ofFault 1 = .ok (.getfield 7, 3) := by decide +kernel
theorem dX8_ofFault_4 : decode cX8_ofFault 4 = .ok (.sipush 135, 3) := by decide +kernel
theorem dX8_ofFault_7 : decode cX8_ofFault 7 = .ok (.iconst 3, 1) := by decide +kernel
theorem dX8_ofFault_8 : decode cX8_ofFault 8 = .ok (.iload_n 1, 1) := by decide +kernel
theorem dX8_ofFault_9 : decode cX8_ofFault 9 = .ok (.imul, 1) := by decide +kernel
theorem dX8_ofFault_10 : decode cX8_ofFault 10 = .ok (.iadd, 1) := by decide +kernel
theorem dX8_ofFault_11 : decode cX8_ofFault 11 = .ok (.iload_n 2, 1) := by decide +kernel
theorem dX8_ofFault_12 : decode cX8_ofFault 12 = .ok (.iadd, 1) := by decide +kernel
theorem dX8_ofFault_13 : decode cX8_ofFault 13 = .ok (.iaload, 1) := by decide +kernel
theorem dX8_ofFault_14 : decode cX8_ofFault 14 = .ok (.ireturn, 1) := by decide +kernel
theorem dX8_isBox_0 : decode cX8_isBox 0 = .ok (.iload_n 1, 1) := by decide +kernel
theorem dX8_isBox_1 : decode cX8_isBox 1 = .ok (.iconst 0, 1) := by decide +kernel
theorem dX8_isBox_2 : decode cX8_isBox 2 = .ok (.aload_n 0, 1) := by decide +kernel
theorem dX8_isBox_3 : decode cX8_isBox 3 = .ok (.getfield 7, 3) := by decide +kernel
theorem dX8_isBox_6 : decode cX8_isBox 6 = .ok (.iconst 0, 1) := by decide +kernel
theorem dX8_isBox_7 : decode cX8_isBox 7 = .ok (.iaload, 1) := by decide +kernel
theorem dX8_isBox_8 : decode cX8_isBox 8 = .ok (.iconst 1, 1) := by decide +kernel
theorem dX8_isBox_9 : decode cX8_isBox 9 = .ok (.isub, 1) := by decide +kernel
theorem dX8_isBox_10 : decode cX8_isBox 10 = .ok (.invokestatic 29, 3) := by decide +kernel
theorem dX8_isBox_13 : decode cX8_isBox 13 = .ok (.ireturn, 1) := by decide +kernel
theorem dX8_isFed_0 : decode cX8_isFed 0 = .ok (.iload_n 1, 1) := by decide +kernel
theorem dX8_isFed_1 : decode cX8_isFed 1 = .ok (.iconst 1, 1) := by decide +kernel
theorem dX8_isFed_2 : decode cX8_isFed 2 = .ok (.aload_n 0, 1) := by decide +kernel
theorem dX8_isFed_3 : decode cX8_isFed 3 = .ok (.getfield 7, 3) := by decide +kernel
theorem dX8_isFed_6 : decode cX8_isFed 6 = .ok (.iconst 0, 1) := by decide +kernel
theorem dX8_isFed_7 : decode cX8_isFed 7 = .ok (.iaload, 1) := by decide +kernel
theorem dX8_isFed_8 : decode cX8_isFed 8 = .ok (.iconst 1, 1) := by decide +kernel
theorem dX8_isFed_9 : decode cX8_isFed 9 = .ok (.isub, 1) := by decide +kernel
theorem dX8_isFed_10 : decode cX8_isFed 10 = .ok (.invokestatic 29, 3) := by decide +kernel
theorem dX8_isFed_13 : decode cX8_isFed 13 = .ok (.ireturn, 1) := by decide +kernel
theorem dX8_isTerminal_0 : decode cX8_isTerminal 0 = .ok (.iload_n 0, 1) := by decide +kernel
theorem dX8_isTerminal_1 : decode cX8_isTerminal 1 = .ok (.iconst 0, 1) := by decide +kernel
theorem dX8_isTerminal_2 : decode cX8_isTerminal 2 = .ok (.iconst 1, 1) := by decide +kernel
theorem dX8_isTerminal_3 : decode cX8_isTerminal 3 = .ok (.invokestatic 29, 3) := by decide +kernel
theorem dX8_isTerminal_6 : decode cX8_isTerminal 6 = .ok (.ireturn, 1) := by decide +kernel
theorem dX8_above_0 : decode cX8_above 0 = .ok (.aload_n 0, 1) := by decide +kernel
theorem dX8_above_1 : decode cX8_above 1 = .ok (.iload_n 1, 1) := by decide +kernel
theorem dX8_above_2 : decode cX8_above 2 = .ok (.iconst 1, 1) := by decide +kernel
theorem dX8_above_3 : decode cX8_above 3 = .ok (.invokevirtual 33, 3) := by decide +kernel
theorem dX8_above_6 : decode cX8_above 6 = .ok (.iconst 1, 1) := by decide +kernel
theorem dX8_above_7 : decode cX8_above 7 = .ok (.if_icmp .ne 9, 3) := by decide +kernel
theorem dX8_above_10 : decode cX8_above 10 = .ok (.iconst 1, 1) := by decide +kernel
theorem dX8_above_11 : decode cX8_above 11 = .ok (.iload_n 2, 1) := by decide +kernel
theorem dX8_above_12 : decode cX8_above 12 = .ok (.isub, 1) := by decide +kernel
theorem dX8_above_13 : decode cX8_above 13 = .ok (.goto 4, 3) := by decide +kernel
theorem dX8_above_16 : decode cX8_above 16 = .ok (.iload_n 2, 1) := by decide +kernel
theorem dX8_above_17 : decode cX8_above 17 = .ok (.ireturn, 1) := by decide +kernel
theorem dX8_pole_0 : decode cX8_pole 0 = .ok (.iload_n 2, 1) := by decide +kernel
theorem dX8_pole_1 : decode cX8_pole 1 = .ok (.istore_n 3, 1) := by decide +kernel
theorem dX8_pole_2 : decode cX8_pole 2 = .ok (.iload_n 1, 1) := by decide +kernel
theorem dX8_pole_3 : decode cX8_pole 3 = .ok (.istore 4, 2) := by decide +kernel
theorem dX8_pole_5 : decode cX8_pole 5 = .ok (.iload 4, 2) := by decide +kernel
theorem dX8_pole_7 : decode cX8_pole 7 = .ok (.ifCond .le 23, 3) := by decide +kernel
theorem dX8_pole_10 : decode cX8_pole 10 = .ok (.aload_n 0, 1) := by decide +kernel
theorem dX8_pole_11 : decode cX8_pole 11 = .ok (.iload 4, 2) := by decide +kernel
theorem dX8_pole_13 : decode cX8_pole 13 = .ok (.iload_n 3, 1) := by decide +kernel
theorem dX8_pole_14 : decode cX8_pole 14 = .ok (.invokevirtual 37, 3) := by decide +kernel
theorem dX8_pole_17 : decode cX8_pole 17 = .ok (.istore_n 3, 1) := by decide +kernel
theorem dX8_pole_18 : decode cX8_pole 18 = .ok (.aload_n 0, 1) := by decide +kernel
theorem dX8_pole_19 : decode cX8_pole 19 = .ok (.iload 4, 2) := by decide +kernel
theorem dX8_pole_21 : decode cX8_pole 21 = .ok (.iconst 0, 1) := by decide +kernel
theorem dX8_pole_22 : decode cX8_pole 22 = .ok (.invokevirtual 33, 3) := by decide +kernel
theorem dX8_pole_25 : decode cX8_pole 25 = .ok (.istore 4, 2) := by decide +kernel
theorem dX8_pole_27 : decode cX8_pole 27 = .ok (.goto (-22), 3) := by decide +kernel
theorem dX8_pole_30 : decode cX8_pole 30 = .ok (.iload_n 3, 1) := by decide +kernel
theorem dX8_pole_31 : decode cX8_pole 31 = .ok (.ireturn, 1) := by decide +kernel
theorem dX8_depth_0 : decode cX8_depth 0 = .ok (.iconst 0, 1) := by decide +kernel
theorem dX8_depth_1 : decode cX8_depth 1 = .ok (.istore_n 2, 1) := by decide +kernel
theorem dX8_depth_2 : decode cX8_depth 2 = .ok (.iload_n 1, 1) := by decide +kernel
theorem dX8_depth_3 : decode cX8_depth 3 = .ok (.istore_n 3, 1) := by decide +kernel
theorem dX8_depth_4 : decode cX8_depth 4 = .ok (.iload_n 3, 1) := by decide +kernel
theorem dX8_depth_5 : decode cX8_depth 5 = .ok (.ifCond .le 16, 3) := by decide +kernel
theorem dX8_depth_8 : decode cX8_depth 8 = .ok (.iinc 2 1, 3) := by decide +kernel
theorem dX8_depth_11 : decode cX8_depth 11 = .ok (.aload_n 0, 1) := by decide +kernel
theorem dX8_depth_12 : decode cX8_depth 12 = .ok (.iload_n 3, 1) := by decide +kernel
theorem dX8_depth_13 : decode cX8_depth 13 = .ok (.iconst 0, 1) := by decide +kernel
theorem dX8_depth_14 : decode cX8_depth 14 = .ok (.invokevirtual 33, 3) := by decide +kernel
theorem dX8_depth_17 : decode cX8_depth 17 = .ok (.istore_n 3, 1) := by decide +kernel
theorem dX8_depth_18 : decode cX8_depth 18 = .ok (.goto (-14), 3) := by decide +kernel
theorem dX8_depth_21 : decode cX8_depth 21 = .ok (.iload_n 2, 1) := by decide +kernel
theorem dX8_depth_22 : decode cX8_depth 22 = .ok (.ireturn, 1) := by decide +kernel
theorem dX8_isSwitched_0 : decode cX8_isSwitched 0 = .ok (.iconst 1, 1) := by decide +kernel
theorem dX8_isSwitched_1 : decode cX8_isSwitched 1 = .ok (.istore_n 2, 1) := by decide +kernel
theorem dX8_isSwitched_2 : decode cX8_isSwitched 2 = .ok (.iload_n 1, 1) := by decide +kernel
theorem dX8_isSwitched_3 : decode cX8_isSwitched 3 = .ok (.istore_n 3, 1) := by decide +kernel
theorem dX8_isSwitched_4 : decode cX8_isSwitched 4 = .ok (.iload_n 3, 1) := by decide +kernel
theorem dX8_isSwitched_5 : decode cX8_isSwitched 5 = .ok (.ifCond .le 33, 3) := by decide +kernel
theorem dX8_isSwitched_8 : decode cX8_isSwitched 8 = .ok (.iload_n 2, 1) := by decide +kernel
theorem dX8_isSwitched_9 : decode cX8_isSwitched 9 = .ok (.ifCond .eq 17, 3) := by decide +kernel
theorem dX8_isSwitched_12 : decode cX8_isSwitched 12 = .ok (.aload_n 0, 1) := by decide +kernel
theorem dX8_isSwitched_13 : decode cX8_isSwitched 13 = .ok (.iload_n 3, 1) := by decide +kernel
theorem dX8_isSwitched_14 : decode cX8_isSwitched 14 = .ok (.iconst 2, 1) := by decide +kernel
theorem dX8_isSwitched_15 : decode cX8_isSwitched 15 = .ok (.invokevirtual 33, 3) := by decide +kernel
theorem dX8_isSwitched_18 : decode cX8_isSwitched 18 = .ok (.iconst 1, 1) := by decide +kernel
theorem dX8_isSwitched_19 : decode cX8_isSwitched 19 = .ok (.if_icmp .ne 7, 3) := by decide +kernel
theorem dX8_isSwitched_22 : decode cX8_isSwitched 22 = .ok (.iconst 1, 1) := by decide +kernel
theorem dX8_isSwitched_23 : decode cX8_isSwitched 23 = .ok (.goto 4, 3) := by decide +kernel
theorem dX8_isSwitched_26 : decode cX8_isSwitched 26 = .ok (.iconst 0, 1) := by decide +kernel
theorem dX8_isSwitched_27 : decode cX8_isSwitched 27 = .ok (.istore_n 2, 1) := by decide +kernel
theorem dX8_isSwitched_28 : decode cX8_isSwitched 28 = .ok (.aload_n 0, 1) := by decide +kernel
theorem dX8_isSwitched_29 : decode cX8_isSwitched 29 = .ok (.iload_n 3, 1) := by decide +kernel
theorem dX8_isSwitched_30 : decode cX8_isSwitched 30 = .ok (.iconst 0, 1) := by decide +kernel
theorem dX8_isSwitched_31 : decode cX8_isSwitched 31 = .ok (.invokevirtual 33, 3) := by decide +kernel
theorem dX8_isSwitched_34 : decode cX8_isSwitched 34 = .ok (.istore_n 3, 1) := by decide +kernel
theorem dX8_isSwitched_35 : decode cX8_isSwitched 35 = .ok (.goto (-31), 3) := by decide +kernel
theorem dX8_isSwitched_38 : decode cX8_isSwitched 38 = .ok (.iload_n 2, 1) := by decide +kernel
theorem dX8_isSwitched_39 : decode cX8_isSwitched 39 = .ok (.ireturn, 1) := by decide +kernel
theorem dX8_isWhole_0 : decode cX8_isWhole 0 = .ok (.iconst 1, 1) := by decide +kernel
theorem dX8_isWhole_1 : decode cX8_isWhole 1 = .ok (.istore_n 3, 1) := by decide +kernel
theorem dX8_isWhole_2 : decode cX8_isWhole 2 = .ok (.iload_n 2, 1) := by decide +kernel
theorem dX8_isWhole_3 : decode cX8_isWhole 3 = .ok (.istore 4, 2) := by decide +kernel
theorem dX8_isWhole_5 : decode cX8_isWhole 5 = .ok (.iload_n 1, 1) := by decide +kernel
theorem dX8_isWhole_6 : decode cX8_isWhole 6 = .ok (.istore 5, 2) := by decide +kernel
theorem dX8_isWhole_8 : decode cX8_isWhole 8 = .ok (.iload 5, 2) := by decide +kernel
theorem dX8_isWhole_10 : decode cX8_isWhole 10 = .ok (.ifCond .le 48, 3) := by decide +kernel
theorem dX8_isWhole_13 : decode cX8_isWhole 13 = .ok (.iload_n 3, 1) := by decide +kernel
theorem dX8_isWhole_14 : decode cX8_isWhole 14 = .ok (.ifCond .eq 20, 3) := by decide +kernel
theorem dX8_isWhole_17 : decode cX8_isWhole 17 = .ok (.aload_n 0, 1) := by decide +kernel
theorem dX8_isWhole_18 : decode cX8_isWhole 18 = .ok (.iload 5, 2) := by decide +kernel
theorem dX8_isWhole_20 : decode cX8_isWhole 20 = .ok (.iconst 5, 1) := by decide +kernel
theorem dX8_isWhole_21 : decode cX8_isWhole 21 = .ok (.iload 4, 2) := by decide +kernel
theorem dX8_isWhole_23 : decode cX8_isWhole 23 = .ok (.iadd, 1) := by decide +kernel
theorem dX8_isWhole_24 : decode cX8_isWhole 24 = .ok (.invokevirtual 33, 3) := by decide +kernel
theorem dX8_isWhole_27 : decode cX8_isWhole 27 = .ok (.ifCond .ne 7, 3) := by decide +kernel
theorem dX8_isWhole_30 : decode cX8_isWhole 30 = .ok (.iconst 1, 1) := by decide +kernel
theorem dX8_isWhole_31 : decode cX8_isWhole 31 = .ok (.goto 4, 3) := by decide +kernel
theorem dX8_isWhole_34 : decode cX8_isWhole 34 = .ok (.iconst 0, 1) := by decide +kernel
theorem dX8_isWhole_35 : decode cX8_isWhole 35 = .ok (.istore_n 3, 1) := by decide +kernel
theorem dX8_isWhole_36 : decode cX8_isWhole 36 = .ok (.aload_n 0, 1) := by decide +kernel
theorem dX8_isWhole_37 : decode cX8_isWhole 37 = .ok (.iload 5, 2) := by decide +kernel
theorem dX8_isWhole_39 : decode cX8_isWhole 39 = .ok (.iload 4, 2) := by decide +kernel
theorem dX8_isWhole_41 : decode cX8_isWhole 41 = .ok (.invokevirtual 37, 3) := by decide +kernel
theorem dX8_isWhole_44 : decode cX8_isWhole 44 = .ok (.istore 4, 2) := by decide +kernel
theorem dX8_isWhole_46 : decode cX8_isWhole 46 = .ok (.aload_n 0, 1) := by decide +kernel
theorem dX8_isWhole_47 : decode cX8_isWhole 47 = .ok (.iload 5, 2) := by decide +kernel
theorem dX8_isWhole_49 : decode cX8_isWhole 49 = .ok (.iconst 0, 1) := by decide +kernel
theorem dX8_isWhole_50 : decode cX8_isWhole 50 = .ok (.invokevirtual 33, 3) := by decide +kernel
theorem dX8_isWhole_53 : decode cX8_isWhole 53 = .ok (.istore 5, 2) := by decide +kernel
theorem dX8_isWhole_55 : decode cX8_isWhole 55 = .ok (.goto (-47), 3) := by decide +kernel
theorem dX8_isWhole_58 : decode cX8_isWhole 58 = .ok (.iload_n 3, 1) := by decide +kernel
theorem dX8_isWhole_59 : decode cX8_isWhole 59 = .ok (.ireturn, 1) := by decide +kernel
theorem dX8_isAlive_0 : decode cX8_isAlive 0 = .ok (.aload_n 0, 1) := by decide +kernel
theorem dX8_isAlive_1 : decode cX8_isAlive 1 = .ok (.iload_n 1, 1) := by decide +kernel
theorem dX8_isAlive_2 : decode cX8_isAlive 2 = .ok (.invokevirtual 40, 3) := by decide +kernel
theorem dX8_isAlive_5 : decode cX8_isAlive 5 = .ok (.ifCond .eq 16, 3) := by decide +kernel
theorem dX8_isAlive_8 : decode cX8_isAlive 8 = .ok (.aload_n 0, 1) := by decide +kernel
theorem dX8_isAlive_9 : decode cX8_isAlive 9 = .ok (.iload_n 1, 1) := by decide +kernel
theorem dX8_isAlive_10 : decode cX8_isAlive 10 = .ok (.iload_n 2, 1) := by decide +kernel
theorem dX8_isAlive_11 : decode cX8_isAlive 11 = .ok (.invokevirtual 44, 3) := by decide +kernel
theorem dX8_isAlive_14 : decode cX8_isAlive 14 = .ok (.ifCond .eq 7, 3) := by decide +kernel
theorem dX8_isAlive_17 : decode cX8_isAlive 17 = .ok (.iconst 1, 1) := by decide +kernel
theorem dX8_isAlive_18 : decode cX8_isAlive 18 = .ok (.goto 4, 3) := by decide +kernel
theorem dX8_isAlive_21 : decode cX8_isAlive 21 = .ok (.iconst 0, 1) := by decide +kernel
theorem dX8_isAlive_22 : decode cX8_isAlive 22 = .ok (.ireturn, 1) := by decide +kernel
theorem dX8_comesBy_0 : decode cX8_comesBy 0 = .ok (.iload_n 1, 1) := by decide +kernel
theorem dX8_comesBy_1 : decode cX8_comesBy 1 = .ok (.istore 5, 2) := by decide +kernel
theorem dX8_comesBy_3 : decode cX8_comesBy 3 = .ok (.iload_n 2, 1) := by decide +kernel
theorem dX8_comesBy_4 : decode cX8_comesBy 4 = .ok (.istore 6, 2) := by decide +kernel
theorem dX8_comesBy_6 : decode cX8_comesBy 6 = .ok (.iload 5, 2) := by decide +kernel
theorem dX8_comesBy_8 : decode cX8_comesBy 8 = .ok (.iload_n 3, 1) := by decide +kernel
theorem dX8_comesBy_9 : decode cX8_comesBy 9 = .ok (.if_icmp .le 25, 3) := by decide +kernel
theorem dX8_comesBy_12 : decode cX8_comesBy 12 = .ok (.aload_n 0, 1) := by decide +kernel
theorem dX8_comesBy_13 : decode cX8_comesBy 13 = .ok (.iload 5, 2) := by decide +kernel
theorem dX8_comesBy_15 : decode cX8_comesBy 15 = .ok (.iload 6, 2) := by decide +kernel
theorem dX8_comesBy_17 : decode cX8_comesBy 17 = .ok (.invokevirtual 37, 3) := by decide +kernel
theorem dX8_comesBy_20 : decode cX8_comesBy 20 = .ok (.istore 6, 2) := by decide +kernel
theorem dX8_comesBy_22 : decode cX8_comesBy 22 = .ok (.aload_n 0, 1) := by decide +kernel
theorem dX8_comesBy_23 : decode cX8_comesBy 23 = .ok (.iload 5, 2) := by decide +kernel
theorem dX8_comesBy_25 : decode cX8_comesBy 25 = .ok (.iconst 0, 1) := by decide +kernel
theorem dX8_comesBy_26 : decode cX8_comesBy 26 = .ok (.invokevirtual 33, 3) := by decide +kernel
theorem dX8_comesBy_29 : decode cX8_comesBy 29 = .ok (.istore 5, 2) := by decide +kernel
theorem dX8_comesBy_31 : decode cX8_comesBy 31 = .ok (.goto (-25), 3) := by decide +kernel
theorem dX8_comesBy_34 : decode cX8_comesBy 34 = .ok (.iload 5, 2) := by decide +kernel
theorem dX8_comesBy_36 : decode cX8_comesBy 36 = .ok (.iload_n 3, 1) := by decide +kernel
theorem dX8_comesBy_37 : decode cX8_comesBy 37 = .ok (.if_icmp .ne 14, 3) := by decide +kernel
theorem dX8_comesBy_40 : decode cX8_comesBy 40 = .ok (.iload 6, 2) := by decide +kernel
theorem dX8_comesBy_42 : decode cX8_comesBy 42 = .ok (.iload 4, 2) := by decide +kernel
theorem dX8_comesBy_44 : decode cX8_comesBy 44 = .ok (.if_icmp .ne 7, 3) := by decide +kernel
theorem dX8_comesBy_47 : decode cX8_comesBy 47 = .ok (.iconst 1, 1) := by decide +kernel
theorem dX8_comesBy_48 : decode cX8_comesBy 48 = .ok (.goto 4, 3) := by decide +kernel
theorem dX8_comesBy_51 : decode cX8_comesBy 51 = .ok (.iconst 0, 1) := by decide +kernel
theorem dX8_comesBy_52 : decode cX8_comesBy 52 = .ok (.ireturn, 1) := by decide +kernel
theorem dX8_isBehind_0 : decode cX8_isBehind 0 = .ok (.iload_n 1, 1) := by decide +kernel
theorem dX8_isBehind_1 : decode cX8_isBehind 1 = .ok (.istore_n 3, 1) := by decide +kernel
theorem dX8_isBehind_2 : decode cX8_isBehind 2 = .ok (.iload_n 3, 1) := by decide +kernel
theorem dX8_isBehind_3 : decode cX8_isBehind 3 = .ok (.iload_n 2, 1) := by decide +kernel
theorem dX8_isBehind_4 : decode cX8_isBehind 4 = .ok (.if_icmp .le 13, 3) := by decide +kernel
theorem dX8_isBehind_7 : decode cX8_isBehind 7 = .ok (.aload_n 0, 1) := by decide +kernel
theorem dX8_isBehind_8 : decode cX8_isBehind 8 = .ok (.iload_n 3, 1) := by decide +kernel
theorem dX8_isBehind_9 : decode cX8_isBehind 9 = .ok (.iconst 0, 1) := by decide +kernel
theorem dX8_isBehind_10 : decode cX8_isBehind 10 = .ok (.invokevirtual 33, 3) := by decide +kernel
theorem dX8_isBehind_13 : decode cX8_isBehind 13 = .ok (.istore_n 3, 1) := by decide +kernel
theorem dX8_isBehind_14 : decode cX8_isBehind 14 = .ok (.goto (-12), 3) := by decide +kernel
theorem dX8_isBehind_17 : decode cX8_isBehind 17 = .ok (.iload_n 3, 1) := by decide +kernel
theorem dX8_isBehind_18 : decode cX8_isBehind 18 = .ok (.iload_n 2, 1) := by decide +kernel
theorem dX8_isBehind_19 : decode cX8_isBehind 19 = .ok (.if_icmp .ne 7, 3) := by decide +kernel
theorem dX8_isBehind_22 : decode cX8_isBehind 22 = .ok (.iconst 1, 1) := by decide +kernel
theorem dX8_isBehind_23 : decode cX8_isBehind 23 = .ok (.goto 4, 3) := by decide +kernel
theorem dX8_isBehind_26 : decode cX8_isBehind 26 = .ok (.iconst 0, 1) := by decide +kernel
theorem dX8_isBehind_27 : decode cX8_isBehind 27 = .ok (.ireturn, 1) := by decide +kernel
theorem dX8_dark_0 : decode cX8_dark 0 = .ok (.aload_n 0, 1) := by decide +kernel
theorem dX8_dark_1 : decode cX8_dark 1 = .ok (.iload_n 1, 1) := by decide +kernel
theorem dX8_dark_2 : decode cX8_dark 2 = .ok (.iconst 0, 1) := by decide +kernel
theorem dX8_dark_3 : decode cX8_dark 3 = .ok (.invokevirtual 48, 3) := by decide +kernel
theorem dX8_dark_6 : decode cX8_dark 6 = .ok (.istore_n 2, 1) := by decide +kernel
theorem dX8_dark_7 : decode cX8_dark 7 = .ok (.aload_n 0, 1) := by decide +kernel
theorem dX8_dark_8 : decode cX8_dark 8 = .ok (.iload_n 2, 1) := by decide +kernel
theorem dX8_dark_9 : decode cX8_dark 9 = .ok (.invokevirtual 40, 3) := by decide +kernel
theorem dX8_dark_12 : decode cX8_dark 12 = .ok (.ifCond .ne 5, 3) := by decide +kernel
theorem dX8_dark_15 : decode cX8_dark 15 = .ok (.iconst 1, 1) := by decide +kernel
theorem dX8_dark_16 : decode cX8_dark 16 = .ok (.ireturn, 1) := by decide +kernel
theorem dX8_dark_17 : decode cX8_dark 17 = .ok (.aload_n 0, 1) := by decide +kernel
theorem dX8_dark_18 : decode cX8_dark 18 = .ok (.iload_n 2, 1) := by decide +kernel
theorem dX8_dark_19 : decode cX8_dark 19 = .ok (.iconst 0, 1) := by decide +kernel
theorem dX8_dark_20 : decode cX8_dark 20 = .ok (.invokevirtual 44, 3) := by decide +kernel
theorem dX8_dark_23 : decode cX8_dark 23 = .ok (.ifCond .ne 7, 3) := by decide +kernel
theorem dX8_dark_26 : decode cX8_dark 26 = .ok (.iconst 2, 1) := by decide +kernel
theorem dX8_dark_27 : decode cX8_dark 27 = .ok (.goto 41, 3) := by decide +kernel
theorem dX8_dark_30 : decode cX8_dark 30 = .ok (.aload_n 0, 1) := by decide +kernel
theorem dX8_dark_31 : decode cX8_dark 31 = .ok (.iload_n 2, 1) := by decide +kernel
theorem dX8_dark_32 : decode cX8_dark 32 = .ok (.iconst 1, 1) := by decide +kernel
theorem dX8_dark_33 : decode cX8_dark 33 = .ok (.invokevirtual 44, 3) := by decide +kernel
theorem dX8_dark_36 : decode cX8_dark 36 = .ok (.ifCond .ne 7, 3) := by decide +kernel
theorem dX8_dark_39 : decode cX8_dark 39 = .ok (.iconst 3, 1) := by decide +kernel
theorem dX8_dark_40 : decode cX8_dark 40 = .ok (.goto 28, 3) := by decide +kernel
theorem dX8_dark_43 : decode cX8_dark 43 = .ok (.aload_n 0, 1) := by decide +kernel
theorem dX8_dark_44 : decode cX8_dark 44 = .ok (.iload_n 1, 1) := by decide +kernel
theorem dX8_dark_45 : decode cX8_dark 45 = .ok (.iconst 2, 1) := by decide +kernel
theorem dX8_dark_46 : decode cX8_dark 46 = .ok (.invokevirtual 48, 3) := by decide +kernel
theorem dX8_dark_49 : decode cX8_dark 49 = .ok (.iconst 1, 1) := by decide +kernel
theorem dX8_dark_50 : decode cX8_dark 50 = .ok (.if_icmp .ne 17, 3) := by decide +kernel
theorem dX8_dark_53 : decode cX8_dark 53 = .ok (.aload_n 0, 1) := by decide +kernel
theorem dX8_dark_54 : decode cX8_dark 54 = .ok (.iload_n 2, 1) := by decide +kernel
theorem dX8_dark_55 : decode cX8_dark 55 = .ok (.iconst 0, 1) := by decide +kernel
theorem dX8_dark_56 : decode cX8_dark 56 = .ok (.invokevirtual 51, 3) := by decide +kernel
theorem dX8_dark_59 : decode cX8_dark 59 = .ok (.iconst 1, 1) := by decide +kernel
theorem dX8_dark_60 : decode cX8_dark 60 = .ok (.if_icmp .ne 7, 3) := by decide +kernel
theorem dX8_dark_63 : decode cX8_dark 63 = .ok (.iconst 4, 1) := by decide +kernel
theorem dX8_dark_64 : decode cX8_dark 64 = .ok (.goto 4, 3) := by decide +kernel
theorem dX8_dark_67 : decode cX8_dark 67 = .ok (.iconst 0, 1) := by decide +kernel
theorem dX8_dark_68 : decode cX8_dark 68 = .ok (.ireturn, 1) := by decide +kernel
theorem dX8_burning_0 : decode cX8_burning 0 = .ok (.iconst 0, 1) := by decide +kernel
theorem dX8_burning_1 : decode cX8_burning 1 = .ok (.istore_n 1, 1) := by decide +kernel
theorem dX8_burning_2 : decode cX8_burning 2 = .ok (.iconst 0, 1) := by decide +kernel
theorem dX8_burning_3 : decode cX8_burning 3 = .ok (.istore_n 2, 1) := by decide +kernel
theorem dX8_burning_4 : decode cX8_burning 4 = .ok (.iload_n 2, 1) := by decide +kernel
theorem dX8_burning_5 : decode cX8_burning 5 = .ok (.aload_n 0, 1) := by decide +kernel
theorem dX8_burning_6 : decode cX8_burning 6 = .ok (.getfield 7, 3) := by decide +kernel
theorem dX8_burning_9 : decode cX8_burning 9 = .ok (.bipush 85, 2) := by decide +kernel
theorem dX8_burning_11 : decode cX8_burning 11 = .ok (.iaload, 1) := by decide +kernel
theorem dX8_burning_12 : decode cX8_burning 12 = .ok (.if_icmp .ge 25, 3) := by decide +kernel
theorem dX8_burning_15 : decode cX8_burning 15 = .ok (.iload_n 1, 1) := by decide +kernel
theorem dX8_burning_16 : decode cX8_burning 16 = .ok (.aload_n 0, 1) := by decide +kernel
theorem dX8_burning_17 : decode cX8_burning 17 = .ok (.iload_n 2, 1) := by decide +kernel
theorem dX8_burning_18 : decode cX8_burning 18 = .ok (.invokevirtual 54, 3) := by decide +kernel
theorem dX8_burning_21 : decode cX8_burning 21 = .ok (.ifCond .ne 7, 3) := by decide +kernel
theorem dX8_burning_24 : decode cX8_burning 24 = .ok (.iconst 1, 1) := by decide +kernel
theorem dX8_burning_25 : decode cX8_burning 25 = .ok (.goto 4, 3) := by decide +kernel
theorem dX8_burning_28 : decode cX8_burning 28 = .ok (.iconst 0, 1) := by decide +kernel
theorem dX8_burning_29 : decode cX8_burning 29 = .ok (.iadd, 1) := by decide +kernel
theorem dX8_burning_30 : decode cX8_burning 30 = .ok (.istore_n 1, 1) := by decide +kernel
theorem dX8_burning_31 : decode cX8_burning 31 = .ok (.iinc 2 1, 3) := by decide +kernel
theorem dX8_burning_34 : decode cX8_burning 34 = .ok (.goto (-30), 3) := by decide +kernel
theorem dX8_burning_37 : decode cX8_burning 37 = .ok (.iload_n 1, 1) := by decide +kernel
theorem dX8_burning_38 : decode cX8_burning 38 = .ok (.ireturn, 1) := by decide +kernel
theorem dX8_drawn_0 : decode cX8_drawn 0 = .ok (.iconst 0, 1) := by decide +kernel
theorem dX8_drawn_1 : decode cX8_drawn 1 = .ok (.istore_n 1, 1) := by decide +kernel
theorem dX8_drawn_2 : decode cX8_drawn 2 = .ok (.iconst 0, 1) := by decide +kernel
theorem dX8_drawn_3 : decode cX8_drawn 3 = .ok (.istore_n 2, 1) := by decide +kernel
theorem dX8_drawn_4 : decode cX8_drawn 4 = .ok (.iload_n 2, 1) := by decide +kernel
theorem dX8_drawn_5 : decode cX8_drawn 5 = .ok (.aload_n 0, 1) := by decide +kernel
theorem dX8_drawn_6 : decode cX8_drawn 6 = .ok (.getfield 7, 3) := by decide +kernel
theorem dX8_drawn_9 : decode cX8_drawn 9 = .ok (.bipush 85, 2) := by decide +kernel
theorem dX8_drawn_11 : decode cX8_drawn 11 = .ok (.iaload, 1) := by decide +kernel
theorem dX8_drawn_12 : decode cX8_drawn 12 = .ok (.if_icmp .ge 30, 3) := by decide +kernel
theorem dX8_drawn_15 : decode cX8_drawn 15 = .ok (.iload_n 1, 1) := by decide +kernel
theorem dX8_drawn_16 : decode cX8_drawn 16 = .ok (.aload_n 0, 1) := by decide +kernel
theorem dX8_drawn_17 : decode cX8_drawn 17 = .ok (.iload_n 2, 1) := by decide +kernel
theorem dX8_drawn_18 : decode cX8_drawn 18 = .ok (.invokevirtual 54, 3) := by decide +kernel
theorem dX8_drawn_21 : decode cX8_drawn 21 = .ok (.ifCond .ne 12, 3) := by decide +kernel
theorem dX8_drawn_24 : decode cX8_drawn 24 = .ok (.aload_n 0, 1) := by decide +kernel
theorem dX8_drawn_25 : decode cX8_drawn 25 = .ok (.iload_n 2, 1) := by decide +kernel
theorem dX8_drawn_26 : decode cX8_drawn 26 = .ok (.iconst 1, 1) := by decide +kernel
theorem dX8_drawn_27 : decode cX8_drawn 27 = .ok (.invokevirtual 48, 3) := by decide +kernel
theorem dX8_drawn_30 : decode cX8_drawn 30 = .ok (.goto 4, 3) := by decide +kernel
theorem dX8_drawn_33 : decode cX8_drawn 33 = .ok (.iconst 0, 1) := by decide +kernel
theorem dX8_drawn_34 : decode cX8_drawn 34 = .ok (.iadd, 1) := by decide +kernel
theorem dX8_drawn_35 : decode cX8_drawn 35 = .ok (.istore_n 1, 1) := by decide +kernel
theorem dX8_drawn_36 : decode cX8_drawn 36 = .ok (.iinc 2 1, 3) := by decide +kernel
theorem dX8_drawn_39 : decode cX8_drawn 39 = .ok (.goto (-35), 3) := by decide +kernel
theorem dX8_drawn_42 : decode cX8_drawn 42 = .ok (.iload_n 1, 1) := by decide +kernel
theorem dX8_drawn_43 : decode cX8_drawn 43 = .ok (.ireturn, 1) := by decide +kernel
theorem dX8_isLive_0 : decode cX8_isLive 0 = .ok (.aload_n 0, 1) := by decide +kernel
theorem dX8_isLive_1 : decode cX8_isLive 1 = .ok (.aload_n 0, 1) := by decide +kernel
theorem dX8_isLive_2 : decode cX8_isLive 2 = .ok (.iload_n 1, 1) := by decide +kernel
theorem dX8_isLive_3 : decode cX8_isLive 3 = .ok (.iconst 0, 1) := by decide +kernel
theorem dX8_isLive_4 : decode cX8_isLive 4 = .ok (.invokevirtual 58, 3) := by decide +kernel
theorem dX8_isLive_7 : decode cX8_isLive 7 = .ok (.aload_n 0, 1) := by decide +kernel
theorem dX8_isLive_8 : decode cX8_isLive 8 = .ok (.iload_n 1, 1) := by decide +kernel
theorem dX8_isLive_9 : decode cX8_isLive 9 = .ok (.iconst 1, 1) := by decide +kernel
theorem dX8_isLive_10 : decode cX8_isLive 10 = .ok (.invokevirtual 58, 3) := by decide +kernel
theorem dX8_isLive_13 : decode cX8_isLive 13 = .ok (.invokevirtual 61, 3) := by decide +kernel
theorem dX8_isLive_16 : decode cX8_isLive 16 = .ok (.ireturn, 1) := by decide +kernel
theorem dX8_faultPole_0 : decode cX8_faultPole 0 = .ok (.aload_n 0, 1) := by decide +kernel
theorem dX8_faultPole_1 : decode cX8_faultPole 1 = .ok (.aload_n 0, 1) := by decide +kernel
theorem dX8_faultPole_2 : decode cX8_faultPole 2 = .ok (.iload_n 1, 1) := by decide +kernel
theorem dX8_faultPole_3 : decode cX8_faultPole 3 = .ok (.iconst 0, 1) := by decide +kernel
theorem dX8_faultPole_4 : decode cX8_faultPole 4 = .ok (.invokevirtual 58, 3) := by decide +kernel
theorem dX8_faultPole_7 : decode cX8_faultPole 7 = .ok (.aload_n 0, 1) := by decide +kernel
theorem dX8_faultPole_8 : decode cX8_faultPole 8 = .ok (.iload_n 1, 1) := by decide +kernel
theorem dX8_faultPole_9 : decode cX8_faultPole 9 = .ok (.iconst 1, 1) := by decide +kernel
theorem dX8_faultPole_10 : decode cX8_faultPole 10 = .ok (.invokevirtual 58, 3) := by decide +kernel
theorem dX8_faultPole_13 : decode cX8_faultPole 13 = .ok (.invokevirtual 51, 3) := by decide +kernel
theorem dX8_faultPole_16 : decode cX8_faultPole 16 = .ok (.ireturn, 1) := by decide +kernel
theorem dX8_lampOf_0 : decode cX8_lampOf 0 = .ok (.iconst 0, 1) := by decide +kernel
theorem dX8_lampOf_1 : decode cX8_lampOf 1 = .ok (.istore_n 2, 1) := by decide +kernel
theorem dX8_lampOf_2 : decode cX8_lampOf 2 = .ok (.iconst 0, 1) := by decide +kernel
theorem dX8_lampOf_3 : decode cX8_lampOf 3 = .ok (.istore_n 3, 1) := by decide +kernel
theorem dX8_lampOf_4 : decode cX8_lampOf 4 = .ok (.iload_n 3, 1) := by decide +kernel
theorem dX8_lampOf_5 : decode cX8_lampOf 5 = .ok (.aload_n 0, 1) := by decide +kernel
theorem dX8_lampOf_6 : decode cX8_lampOf 6 = .ok (.getfield 7, 3) := by decide +kernel
theorem dX8_lampOf_9 : decode cX8_lampOf 9 = .ok (.sipush 134, 3) := by decide +kernel
theorem dX8_lampOf_12 : decode cX8_lampOf 12 = .ok (.iaload, 1) := by decide +kernel
theorem dX8_lampOf_13 : decode cX8_lampOf 13 = .ok (.if_icmp .ge 39, 3) := by decide +kernel
theorem dX8_lampOf_16 : decode cX8_lampOf 16 = .ok (.iload_n 2, 1) := by decide +kernel
theorem dX8_lampOf_17 : decode cX8_lampOf 17 = .ok (.aload_n 0, 1) := by decide +kernel
theorem dX8_lampOf_18 : decode cX8_lampOf 18 = .ok (.iload_n 3, 1) := by decide +kernel
theorem dX8_lampOf_19 : decode cX8_lampOf 19 = .ok (.invokevirtual 64, 3) := by decide +kernel
theorem dX8_lampOf_22 : decode cX8_lampOf 22 = .ok (.ifCond .eq 21, 3) := by decide +kernel
theorem dX8_lampOf_25 : decode cX8_lampOf 25 = .ok (.aload_n 0, 1) := by decide +kernel
theorem dX8_lampOf_26 : decode cX8_lampOf 26 = .ok (.iload_n 3, 1) := by decide +kernel
theorem dX8_lampOf_27 : decode cX8_lampOf 27 = .ok (.invokevirtual 67, 3) := by decide +kernel
theorem dX8_lampOf_30 : decode cX8_lampOf 30 = .ok (.iload_n 1, 1) := by decide +kernel
theorem dX8_lampOf_31 : decode cX8_lampOf 31 = .ok (.if_icmp .ne 12, 3) := by decide +kernel
theorem dX8_lampOf_34 : decode cX8_lampOf 34 = .ok (.aload_n 0, 1) := by decide +kernel
theorem dX8_lampOf_35 : decode cX8_lampOf 35 = .ok (.iload_n 3, 1) := by decide +kernel
theorem dX8_lampOf_36 : decode cX8_lampOf 36 = .ok (.iconst 2, 1) := by decide +kernel
theorem dX8_lampOf_37 : decode cX8_lampOf 37 = .ok (.invokevirtual 58, 3) := by decide +kernel
theorem dX8_lampOf_40 : decode cX8_lampOf 40 = .ok (.goto 4, 3) := by decide +kernel
theorem dX8_lampOf_43 : decode cX8_lampOf 43 = .ok (.iconst 0, 1) := by decide +kernel
theorem dX8_lampOf_44 : decode cX8_lampOf 44 = .ok (.iadd, 1) := by decide +kernel
theorem dX8_lampOf_45 : decode cX8_lampOf 45 = .ok (.istore_n 2, 1) := by decide +kernel
theorem dX8_lampOf_46 : decode cX8_lampOf 46 = .ok (.iinc 3 1, 3) := by decide +kernel
theorem dX8_lampOf_49 : decode cX8_lampOf 49 = .ok (.goto (-45), 3) := by decide +kernel
theorem dX8_lampOf_52 : decode cX8_lampOf 52 = .ok (.iload_n 2, 1) := by decide +kernel
theorem dX8_lampOf_53 : decode cX8_lampOf 53 = .ok (.ireturn, 1) := by decide +kernel
theorem dX8_leak_0 : decode cX8_leak 0 = .ok (.aload_n 0, 1) := by decide +kernel
theorem dX8_leak_1 : decode cX8_leak 1 = .ok (.iconst 0, 1) := by decide +kernel
theorem dX8_leak_2 : decode cX8_leak 2 = .ok (.invokevirtual 70, 3) := by decide +kernel
theorem dX8_leak_5 : decode cX8_leak 5 = .ok (.aload_n 0, 1) := by decide +kernel
theorem dX8_leak_6 : decode cX8_leak 6 = .ok (.iconst 1, 1) := by decide +kernel
theorem dX8_leak_7 : decode cX8_leak 7 = .ok (.invokevirtual 70, 3) := by decide +kernel
theorem dX8_leak_10 : decode cX8_leak 10 = .ok (.if_icmp .ge 11, 3) := by decide +kernel
theorem dX8_leak_13 : decode cX8_leak 13 = .ok (.aload_n 0, 1) := by decide +kernel
theorem dX8_leak_14 : decode cX8_leak 14 = .ok (.iconst 0, 1) := by decide +kernel
theorem dX8_leak_15 : decode cX8_leak 15 = .ok (.invokevirtual 70, 3) := by decide +kernel
theorem dX8_leak_18 : decode cX8_leak 18 = .ok (.goto 8, 3) := by decide +kernel
theorem dX8_leak_21 : decode cX8_leak 21 = .ok (.aload_n 0, 1) := by decide +kernel
theorem dX8_leak_22 : decode cX8_leak 22 = .ok (.iconst 1, 1) := by decide +kernel
theorem dX8_leak_23 : decode cX8_leak 23 = .ok (.invokevirtual 70, 3) := by decide +kernel
theorem dX8_leak_26 : decode cX8_leak 26 = .ok (.ireturn, 1) := by decide +kernel
theorem dX8_flow_0 : decode cX8_flow 0 = .ok (.aload_n 0, 1) := by decide +kernel
theorem dX8_flow_1 : decode cX8_flow 1 = .ok (.iload_n 1, 1) := by decide +kernel
theorem dX8_flow_2 : decode cX8_flow 2 = .ok (.invokevirtual 64, 3) := by decide +kernel
theorem dX8_flow_5 : decode cX8_flow 5 = .ok (.ifCond .ne 5, 3) := by decide +kernel
theorem dX8_flow_8 : decode cX8_flow 8 = .ok (.iconst 0, 1) := by decide +kernel
theorem dX8_flow_9 : decode cX8_flow 9 = .ok (.ireturn, 1) := by decide +kernel
theorem dX8_flow_10 : decode cX8_flow 10 = .ok (.aload_n 0, 1) := by decide +kernel
theorem dX8_flow_11 : decode cX8_flow 11 = .ok (.invokevirtual 73, 3) := by decide +kernel
theorem dX8_flow_14 : decode cX8_flow 14 = .ok (.istore_n 2, 1) := by decide +kernel
theorem dX8_flow_15 : decode cX8_flow 15 = .ok (.iconst 0, 1) := by decide +kernel
theorem dX8_flow_16 : decode cX8_flow 16 = .ok (.istore_n 3, 1) := by decide +kernel
theorem dX8_flow_17 : decode cX8_flow 17 = .ok (.iload_n 3, 1) := by decide +kernel
theorem dX8_flow_18 : decode cX8_flow 18 = .ok (.iload_n 1, 1) := by decide +kernel
theorem dX8_flow_19 : decode cX8_flow 19 = .ok (.if_icmp .ge 43, 3) := by decide +kernel
theorem dX8_flow_22 : decode cX8_flow 22 = .ok (.iload_n 2, 1) := by decide +kernel
theorem dX8_flow_23 : decode cX8_flow 23 = .ok (.aload_n 0, 1) := by decide +kernel
theorem dX8_flow_24 : decode cX8_flow 24 = .ok (.iload_n 3, 1) := by decide +kernel
theorem dX8_flow_25 : decode cX8_flow 25 = .ok (.invokevirtual 64, 3) := by decide +kernel
theorem dX8_flow_28 : decode cX8_flow 28 = .ok (.ifCond .eq 25, 3) := by decide +kernel
theorem dX8_flow_31 : decode cX8_flow 31 = .ok (.aload_n 0, 1) := by decide +kernel
theorem dX8_flow_32 : decode cX8_flow 32 = .ok (.iload_n 3, 1) := by decide +kernel
theorem dX8_flow_33 : decode cX8_flow 33 = .ok (.invokevirtual 67, 3) := by decide +kernel
theorem dX8_flow_36 : decode cX8_flow 36 = .ok (.aload_n 0, 1) := by decide +kernel
theorem dX8_flow_37 : decode cX8_flow 37 = .ok (.iload_n 1, 1) := by decide +kernel
theorem dX8_flow_38 : decode cX8_flow 38 = .ok (.invokevirtual 67, 3) := by decide +kernel
theorem dX8_flow_41 : decode cX8_flow 41 = .ok (.if_icmp .ne 12, 3) := by decide +kernel
theorem dX8_flow_44 : decode cX8_flow 44 = .ok (.aload_n 0, 1) := by decide +kernel
theorem dX8_flow_45 : decode cX8_flow 45 = .ok (.iload_n 3, 1) := by decide +kernel
theorem dX8_flow_46 : decode cX8_flow 46 = .ok (.iconst 2, 1) := by decide +kernel
theorem dX8_flow_47 : decode cX8_flow 47 = .ok (.invokevirtual 58, 3) := by decide +kernel
theorem dX8_flow_50 : decode cX8_flow 50 = .ok (.goto 4, 3) := by decide +kernel
theorem dX8_flow_53 : decode cX8_flow 53 = .ok (.iconst 0, 1) := by decide +kernel
theorem dX8_flow_54 : decode cX8_flow 54 = .ok (.isub, 1) := by decide +kernel
theorem dX8_flow_55 : decode cX8_flow 55 = .ok (.istore_n 2, 1) := by decide +kernel
theorem dX8_flow_56 : decode cX8_flow 56 = .ok (.iinc 3 1, 3) := by decide +kernel
theorem dX8_flow_59 : decode cX8_flow 59 = .ok (.goto (-42), 3) := by decide +kernel
theorem dX8_flow_62 : decode cX8_flow 62 = .ok (.iload_n 2, 1) := by decide +kernel
theorem dX8_flow_63 : decode cX8_flow 63 = .ok (.ifCond .ge 7, 3) := by decide +kernel
theorem dX8_flow_66 : decode cX8_flow 66 = .ok (.iconst 0, 1) := by decide +kernel
theorem dX8_flow_67 : decode cX8_flow 67 = .ok (.goto 4, 3) := by decide +kernel
theorem dX8_flow_70 : decode cX8_flow 70 = .ok (.iload_n 2, 1) := by decide +kernel
theorem dX8_flow_71 : decode cX8_flow 71 = .ok (.istore_n 2, 1) := by decide +kernel
theorem dX8_flow_72 : decode cX8_flow 72 = .ok (.iload_n 2, 1) := by decide +kernel
theorem dX8_flow_73 : decode cX8_flow 73 = .ok (.aload_n 0, 1) := by decide +kernel
theorem dX8_flow_74 : decode cX8_flow 74 = .ok (.iload_n 1, 1) := by decide +kernel
theorem dX8_flow_75 : decode cX8_flow 75 = .ok (.iconst 2, 1) := by decide +kernel
theorem dX8_flow_76 : decode cX8_flow 76 = .ok (.invokevirtual 58, 3) := by decide +kernel
theorem dX8_flow_79 : decode cX8_flow 79 = .ok (.if_icmp .ge 7, 3) := by decide +kernel
theorem dX8_flow_82 : decode cX8_flow 82 = .ok (.iload_n 2, 1) := by decide +kernel
theorem dX8_flow_83 : decode cX8_flow 83 = .ok (.goto 9, 3) := by decide +kernel
theorem dX8_flow_86 : decode cX8_flow 86 = .ok (.aload_n 0, 1) := by decide +kernel
theorem dX8_flow_87 : decode cX8_flow 87 = .ok (.iload_n 1, 1) := by decide +kernel
theorem dX8_flow_88 : decode cX8_flow 88 = .ok (.iconst 2, 1) := by decide +kernel
theorem dX8_flow_89 : decode cX8_flow 89 = .ok (.invokevirtual 58, 3) := by decide +kernel
theorem dX8_flow_92 : decode cX8_flow 92 = .ok (.ireturn, 1) := by decide +kernel
theorem dX8_current_0 : decode cX8_current 0 = .ok (.aload_n 0, 1) := by decide +kernel
theorem dX8_current_1 : decode cX8_current 1 = .ok (.iload_n 1, 1) := by decide +kernel
theorem dX8_current_2 : decode cX8_current 2 = .ok (.iload_n 2, 1) := by decide +kernel
theorem dX8_current_3 : decode cX8_current 3 = .ok (.invokevirtual 61, 3) := by decide +kernel
theorem dX8_current_6 : decode cX8_current 6 = .ok (.ifCond .ne 5, 3) := by decide +kernel
theorem dX8_current_9 : decode cX8_current 9 = .ok (.iconst 0, 1) := by decide +kernel
theorem dX8_current_10 : decode cX8_current 10 = .ok (.ireturn, 1) := by decide +kernel
theorem dX8_current_11 : decode cX8_current 11 = .ok (.iconst 0, 1) := by decide +kernel
theorem dX8_current_12 : decode cX8_current 12 = .ok (.istore_n 3, 1) := by decide +kernel
theorem dX8_current_13 : decode cX8_current 13 = .ok (.iconst 0, 1) := by decide +kernel
theorem dX8_current_14 : decode cX8_current 14 = .ok (.istore 4, 2) := by decide +kernel
theorem dX8_current_16 : decode cX8_current 16 = .ok (.iload 4, 2) := by decide +kernel
theorem dX8_current_18 : decode cX8_current 18 = .ok (.aload_n 0, 1) := by decide +kernel
theorem dX8_current_19 : decode cX8_current 19 = .ok (.getfield 7, 3) := by decide +kernel
theorem dX8_current_22 : decode cX8_current 22 = .ok (.bipush 85, 2) := by decide +kernel
theorem dX8_current_24 : decode cX8_current 24 = .ok (.iaload, 1) := by decide +kernel
theorem dX8_current_25 : decode cX8_current 25 = .ok (.if_icmp .ge 47, 3) := by decide +kernel
theorem dX8_current_28 : decode cX8_current 28 = .ok (.iload_n 3, 1) := by decide +kernel
theorem dX8_current_29 : decode cX8_current 29 = .ok (.aload_n 0, 1) := by decide +kernel
theorem dX8_current_30 : decode cX8_current 30 = .ok (.iload 4, 2) := by decide +kernel
theorem dX8_current_32 : decode cX8_current 32 = .ok (.invokevirtual 54, 3) := by decide +kernel
theorem dX8_current_35 : decode cX8_current 35 = .ok (.ifCond .ne 28, 3) := by decide +kernel
theorem dX8_current_38 : decode cX8_current 38 = .ok (.aload_n 0, 1) := by decide +kernel
theorem dX8_current_39 : decode cX8_current 39 = .ok (.aload_n 0, 1) := by decide +kernel
theorem dX8_current_40 : decode cX8_current 40 = .ok (.iload 4, 2) := by decide +kernel
theorem dX8_current_42 : decode cX8_current 42 = .ok (.iconst 0, 1) := by decide +kernel
theorem dX8_current_43 : decode cX8_current 43 = .ok (.invokevirtual 48, 3) := by decide +kernel
theorem dX8_current_46 : decode cX8_current 46 = .ok (.iload_n 1, 1) := by decide +kernel
theorem dX8_current_47 : decode cX8_current 47 = .ok (.invokevirtual 77, 3) := by decide +kernel
theorem dX8_current_50 : decode cX8_current 50 = .ok (.ifCond .eq 13, 3) := by decide +kernel
theorem dX8_current_53 : decode cX8_current 53 = .ok (.aload_n 0, 1) := by decide +kernel
theorem dX8_current_54 : decode cX8_current 54 = .ok (.iload 4, 2) := by decide +kernel
theorem dX8_current_56 : decode cX8_current 56 = .ok (.iconst 1, 1) := by decide +kernel
theorem dX8_current_57 : decode cX8_current 57 = .ok (.invokevirtual 48, 3) := by decide +kernel
theorem dX8_current_60 : decode cX8_current 60 = .ok (.goto 4, 3) := by decide +kernel
theorem dX8_current_63 : decode cX8_current 63 = .ok (.iconst 0, 1) := by decide +kernel
theorem dX8_current_64 : decode cX8_current 64 = .ok (.iadd, 1) := by decide +kernel
theorem dX8_current_65 : decode cX8_current 65 = .ok (.istore_n 3, 1) := by decide +kernel
theorem dX8_current_66 : decode cX8_current 66 = .ok (.iinc 4 1, 3) := by decide +kernel
theorem dX8_current_69 : decode cX8_current 69 = .ok (.goto (-53), 3) := by decide +kernel
theorem dX8_current_72 : decode cX8_current 72 = .ok (.iconst 0, 1) := by decide +kernel
theorem dX8_current_73 : decode cX8_current 73 = .ok (.istore 4, 2) := by decide +kernel
theorem dX8_current_75 : decode cX8_current 75 = .ok (.iload 4, 2) := by decide +kernel
theorem dX8_current_77 : decode cX8_current 77 = .ok (.aload_n 0, 1) := by decide +kernel
theorem dX8_current_78 : decode cX8_current 78 = .ok (.getfield 7, 3) := by decide +kernel
theorem dX8_current_81 : decode cX8_current 81 = .ok (.sipush 134, 3) := by decide +kernel
theorem dX8_current_84 : decode cX8_current 84 = .ok (.iaload, 1) := by decide +kernel
theorem dX8_current_85 : decode cX8_current 85 = .ok (.if_icmp .ge 45, 3) := by decide +kernel
theorem dX8_current_88 : decode cX8_current 88 = .ok (.iload_n 3, 1) := by decide +kernel
theorem dX8_current_89 : decode cX8_current 89 = .ok (.aload_n 0, 1) := by decide +kernel
theorem dX8_current_90 : decode cX8_current 90 = .ok (.aload_n 0, 1) := by decide +kernel
theorem dX8_current_91 : decode cX8_current 91 = .ok (.iload 4, 2) := by decide +kernel
theorem dX8_current_93 : decode cX8_current 93 = .ok (.iconst 0, 1) := by decide +kernel
theorem dX8_current_94 : decode cX8_current 94 = .ok (.invokevirtual 58, 3) := by decide +kernel
theorem dX8_current_97 : decode cX8_current 97 = .ok (.aload_n 0, 1) := by decide +kernel
theorem dX8_current_98 : decode cX8_current 98 = .ok (.iload 4, 2) := by decide +kernel
theorem dX8_current_100 : decode cX8_current 100 = .ok (.iconst 1, 1) := by decide +kernel
theorem dX8_current_101 : decode cX8_current 101 = .ok (.invokevirtual 58, 3) := by decide +kernel
theorem dX8_current_104 : decode cX8_current 104 = .ok (.iload_n 1, 1) := by decide +kernel
theorem dX8_current_105 : decode cX8_current 105 = .ok (.iload_n 2, 1) := by decide +kernel
theorem dX8_current_106 : decode cX8_current 106 = .ok (.invokevirtual 80, 3) := by decide +kernel
theorem dX8_current_109 : decode cX8_current 109 = .ok (.ifCond .eq 12, 3) := by decide +kernel
theorem dX8_current_112 : decode cX8_current 112 = .ok (.aload_n 0, 1) := by decide +kernel
theorem dX8_current_113 : decode cX8_current 113 = .ok (.iload 4, 2) := by decide +kernel
theorem dX8_current_115 : decode cX8_current 115 = .ok (.invokevirtual 84, 3) := by decide +kernel
theorem dX8_current_118 : decode cX8_current 118 = .ok (.goto 4, 3) := by decide +kernel
theorem dX8_current_121 : decode cX8_current 121 = .ok (.iconst 0, 1) := by decide +kernel
theorem dX8_current_122 : decode cX8_current 122 = .ok (.iadd, 1) := by decide +kernel
theorem dX8_current_123 : decode cX8_current 123 = .ok (.istore_n 3, 1) := by decide +kernel
theorem dX8_current_124 : decode cX8_current 124 = .ok (.iinc 4 1, 3) := by decide +kernel
theorem dX8_current_127 : decode cX8_current 127 = .ok (.goto (-52), 3) := by decide +kernel
theorem dX8_current_130 : decode cX8_current 130 = .ok (.iload_n 3, 1) := by decide +kernel
theorem dX8_current_131 : decode cX8_current 131 = .ok (.ireturn, 1) := by decide +kernel
theorem dX8_nextToBlow_0 : decode cX8_nextToBlow 0 = .ok (.iconst (-1), 1) := by decide +kernel
theorem dX8_nextToBlow_1 : decode cX8_nextToBlow 1 = .ok (.istore_n 1, 1) := by decide +kernel
theorem dX8_nextToBlow_2 : decode cX8_nextToBlow 2 = .ok (.iconst 2, 1) := by decide +kernel
theorem dX8_nextToBlow_3 : decode cX8_nextToBlow 3 = .ok (.istore_n 2, 1) := by decide +kernel
theorem dX8_nextToBlow_4 : decode cX8_nextToBlow 4 = .ok (.iload_n 2, 1) := by decide +kernel
theorem dX8_nextToBlow_5 : decode cX8_nextToBlow 5 = .ok (.iconst 2, 1) := by decide +kernel
theorem dX8_nextToBlow_6 : decode cX8_nextToBlow 6 = .ok (.aload_n 0, 1) := by decide +kernel
theorem dX8_nextToBlow_7 : decode cX8_nextToBlow 7 = .ok (.getfield 7, 3) := by decide +kernel
theorem dX8_nextToBlow_10 : decode cX8_nextToBlow 10 = .ok (.iconst 0, 1) := by decide +kernel
theorem dX8_nextToBlow_11 : decode cX8_nextToBlow 11 = .ok (.iaload, 1) := by decide +kernel
theorem dX8_nextToBlow_12 : decode cX8_nextToBlow 12 = .ok (.imul, 1) := by decide +kernel
theorem dX8_nextToBlow_13 : decode cX8_nextToBlow 13 = .ok (.if_icmp .ge 85, 3) := by decide +kernel
theorem dX8_nextToBlow_16 : decode cX8_nextToBlow 16 = .ok (.aload_n 0, 1) := by decide +kernel
theorem dX8_nextToBlow_17 : decode cX8_nextToBlow 17 = .ok (.iload_n 2, 1) := by decide +kernel
theorem dX8_nextToBlow_18 : decode cX8_nextToBlow 18 = .ok (.iconst 2, 1) := by decide +kernel
theorem dX8_nextToBlow_19 : decode cX8_nextToBlow 19 = .ok (.idiv, 1) := by decide +kernel
theorem dX8_nextToBlow_20 : decode cX8_nextToBlow 20 = .ok (.iload_n 2, 1) := by decide +kernel
theorem dX8_nextToBlow_21 : decode cX8_nextToBlow 21 = .ok (.iconst 2, 1) := by decide +kernel
theorem dX8_nextToBlow_22 : decode cX8_nextToBlow 22 = .ok (.irem, 1) := by decide +kernel
theorem dX8_nextToBlow_23 : decode cX8_nextToBlow 23 = .ok (.invokevirtual 87, 3) := by decide +kernel
theorem dX8_nextToBlow_26 : decode cX8_nextToBlow 26 = .ok (.aload_n 0, 1) := by decide +kernel
theorem dX8_nextToBlow_27 : decode cX8_nextToBlow 27 = .ok (.iload_n 2, 1) := by decide +kernel
theorem dX8_nextToBlow_28 : decode cX8_nextToBlow 28 = .ok (.iconst 2, 1) := by decide +kernel
theorem dX8_nextToBlow_29 : decode cX8_nextToBlow 29 = .ok (.idiv, 1) := by decide +kernel
theorem dX8_nextToBlow_30 : decode cX8_nextToBlow 30 = .ok (.iconst 3, 1) := by decide +kernel
theorem dX8_nextToBlow_31 : decode cX8_nextToBlow 31 = .ok (.iload_n 2, 1) := by decide +kernel
theorem dX8_nextToBlow_32 : decode cX8_nextToBlow 32 = .ok (.iconst 2, 1) := by decide +kernel
theorem dX8_nextToBlow_33 : decode cX8_nextToBlow 33 = .ok (.irem, 1) := by decide +kernel
theorem dX8_nextToBlow_34 : decode cX8_nextToBlow 34 = .ok (.iadd, 1) := by decide +kernel
theorem dX8_nextToBlow_35 : decode cX8_nextToBlow 35 = .ok (.invokevirtual 33, 3) := by decide +kernel
theorem dX8_nextToBlow_38 : decode cX8_nextToBlow 38 = .ok (.if_icmp .le 20, 3) := by decide +kernel
theorem dX8_nextToBlow_41 : decode cX8_nextToBlow 41 = .ok (.aload_n 0, 1) := by decide +kernel
theorem dX8_nextToBlow_42 : decode cX8_nextToBlow 42 = .ok (.iload_n 2, 1) := by decide +kernel
theorem dX8_nextToBlow_43 : decode cX8_nextToBlow 43 = .ok (.iconst 2, 1) := by decide +kernel
theorem dX8_nextToBlow_44 : decode cX8_nextToBlow 44 = .ok (.idiv, 1) := by decide +kernel
theorem dX8_nextToBlow_45 : decode cX8_nextToBlow 45 = .ok (.iload_n 2, 1) := by decide +kernel
theorem dX8_nextToBlow_46 : decode cX8_nextToBlow 46 = .ok (.iconst 2, 1) := by decide +kernel
theorem dX8_nextToBlow_47 : decode cX8_nextToBlow 47 = .ok (.irem, 1) := by decide +kernel
theorem dX8_nextToBlow_48 : decode cX8_nextToBlow 48 = .ok (.invokevirtual 61, 3) := by decide +kernel
theorem dX8_nextToBlow_51 : decode cX8_nextToBlow 51 = .ok (.ifCond .eq 7, 3) := by decide +kernel
theorem dX8_nextToBlow_54 : decode cX8_nextToBlow 54 = .ok (.iconst 1, 1) := by decide +kernel
theorem dX8_nextToBlow_55 : decode cX8_nextToBlow 55 = .ok (.goto 4, 3) := by decide +kernel
theorem dX8_nextToBlow_58 : decode cX8_nextToBlow 58 = .ok (.iconst 0, 1) := by decide +kernel
theorem dX8_nextToBlow_59 : decode cX8_nextToBlow 59 = .ok (.istore_n 3, 1) := by decide +kernel
theorem dX8_nextToBlow_60 : decode cX8_nextToBlow 60 = .ok (.iload_n 3, 1) := by decide +kernel
theorem dX8_nextToBlow_61 : decode cX8_nextToBlow 61 = .ok (.ifCond .eq 29, 3) := by decide +kernel
theorem dX8_nextToBlow_64 : decode cX8_nextToBlow 64 = .ok (.iload_n 1, 1) := by decide +kernel
theorem dX8_nextToBlow_65 : decode cX8_nextToBlow 65 = .ok (.iconst (-1), 1) := by decide +kernel
theorem dX8_nextToBlow_66 : decode cX8_nextToBlow 66 = .ok (.if_icmp .eq 20, 3) := by decide +kernel
theorem dX8_nextToBlow_69 : decode cX8_nextToBlow 69 = .ok (.aload_n 0, 1) := by decide +kernel
theorem dX8_nextToBlow_70 : decode cX8_nextToBlow 70 = .ok (.iload_n 2, 1) := by decide +kernel
theorem dX8_nextToBlow_71 : decode cX8_nextToBlow 71 = .ok (.iconst 2, 1) := by decide +kernel
theorem dX8_nextToBlow_72 : decode cX8_nextToBlow 72 = .ok (.idiv, 1) := by decide +kernel
theorem dX8_nextToBlow_73 : decode cX8_nextToBlow 73 = .ok (.invokevirtual 90, 3) := by decide +kernel
theorem dX8_nextToBlow_76 : decode cX8_nextToBlow 76 = .ok (.aload_n 0, 1) := by decide +kernel
theorem dX8_nextToBlow_77 : decode cX8_nextToBlow 77 = .ok (.iload_n 1, 1) := by decide +kernel
theorem dX8_nextToBlow_78 : decode cX8_nextToBlow 78 = .ok (.iconst 2, 1) := by decide +kernel
theorem dX8_nextToBlow_79 : decode cX8_nextToBlow 79 = .ok (.idiv, 1) := by decide +kernel
theorem dX8_nextToBlow_80 : decode cX8_nextToBlow 80 = .ok (.invokevirtual 90, 3) := by decide +kernel
theorem dX8_nextToBlow_83 : decode cX8_nextToBlow 83 = .ok (.if_icmp .le 7, 3) := by decide +kernel
theorem dX8_nextToBlow_86 : decode cX8_nextToBlow 86 = .ok (.iload_n 2, 1) := by decide +kernel
theorem dX8_nextToBlow_87 : decode cX8_nextToBlow 87 = .ok (.goto 4, 3) := by decide +kernel
theorem dX8_nextToBlow_90 : decode cX8_nextToBlow 90 = .ok (.iload_n 1, 1) := by decide +kernel
theorem dX8_nextToBlow_91 : decode cX8_nextToBlow 91 = .ok (.istore_n 1, 1) := by decide +kernel
theorem dX8_nextToBlow_92 : decode cX8_nextToBlow 92 = .ok (.iinc 2 1, 3) := by decide +kernel
theorem dX8_nextToBlow_95 : decode cX8_nextToBlow 95 = .ok (.goto (-91), 3) := by decide +kernel
theorem dX8_nextToBlow_98 : decode cX8_nextToBlow 98 = .ok (.iload_n 1, 1) := by decide +kernel
theorem dX8_nextToBlow_99 : decode cX8_nextToBlow 99 = .ok (.ireturn, 1) := by decide +kernel
theorem dX8_settle_0 : decode cX8_settle 0 = .ok (.aload_n 0, 1) := by decide +kernel
theorem dX8_settle_1 : decode cX8_settle 1 = .ok (.iconst 0, 1) := by decide +kernel
theorem dX8_settle_2 : decode cX8_settle 2 = .ok (.putfield 93, 3) := by decide +kernel
theorem dX8_settle_5 : decode cX8_settle 5 = .ok (.aload_n 0, 1) := by decide +kernel
theorem dX8_settle_6 : decode cX8_settle 6 = .ok (.iconst (-1), 1) := by decide +kernel
theorem dX8_settle_7 : decode cX8_settle 7 = .ok (.putfield 96, 3) := by decide +kernel
theorem dX8_settle_10 : decode cX8_settle 10 = .ok (.aload_n 0, 1) := by decide +kernel
theorem dX8_settle_11 : decode cX8_settle 11 = .ok (.invokevirtual 99, 3) := by decide +kernel
theorem dX8_settle_14 : decode cX8_settle 14 = .ok (.istore_n 1, 1) := by decide +kernel
theorem dX8_settle_15 : decode cX8_settle 15 = .ok (.iload_n 1, 1) := by decide +kernel
theorem dX8_settle_16 : decode cX8_settle 16 = .ok (.iconst (-1), 1) := by decide +kernel
theorem dX8_settle_17 : decode cX8_settle 17 = .ok (.if_icmp .eq 72, 3) := by decide +kernel
theorem dX8_settle_20 : decode cX8_settle 20 = .ok (.aload_n 0, 1) := by decide +kernel
theorem dX8_settle_21 : decode cX8_settle 21 = .ok (.aload_n 0, 1) := by decide +kernel
theorem dX8_settle_22 : decode cX8_settle 22 = .ok (.getfield 93, 3) := by decide +kernel
theorem dX8_settle_25 : decode cX8_settle 25 = .ok (.ifCond .ne 7, 3) := by decide +kernel
theorem dX8_settle_28 : decode cX8_settle 28 = .ok (.iload_n 1, 1) := by decide +kernel
theorem dX8_settle_29 : decode cX8_settle 29 = .ok (.goto 7, 3) := by decide +kernel
theorem dX8_settle_32 : decode cX8_settle 32 = .ok (.aload_n 0, 1) := by decide +kernel
theorem dX8_settle_33 : decode cX8_settle 33 = .ok (.getfield 96, 3) := by decide +kernel
theorem dX8_settle_36 : decode cX8_settle 36 = .ok (.putfield 96, 3) := by decide +kernel
theorem dX8_settle_39 : decode cX8_settle 39 = .ok (.aload_n 0, 1) := by decide +kernel
theorem dX8_settle_40 : decode cX8_settle 40 = .ok (.getfield 7, 3) := by decide +kernel
theorem dX8_settle_43 : decode cX8_settle 43 = .ok (.iconst 1, 1) := by decide +kernel
theorem dX8_settle_44 : decode cX8_settle 44 = .ok (.bipush 7, 2) := by decide +kernel
theorem dX8_settle_46 : decode cX8_settle 46 = .ok (.iload_n 1, 1) := by decide +kernel
theorem dX8_settle_47 : decode cX8_settle 47 = .ok (.iconst 2, 1) := by decide +kernel
theorem dX8_settle_48 : decode cX8_settle 48 = .ok (.idiv, 1) := by decide +kernel
theorem dX8_settle_49 : decode cX8_settle 49 = .ok (.imul, 1) := by decide +kernel
theorem dX8_settle_50 : decode cX8_settle 50 = .ok (.iadd, 1) := by decide +kernel
theorem dX8_settle_51 : decode cX8_settle 51 = .ok (.iconst 5, 1) := by decide +kernel
theorem dX8_settle_52 : decode cX8_settle 52 = .ok (.iadd, 1) := by decide +kernel
theorem dX8_settle_53 : decode cX8_settle 53 = .ok (.iload_n 1, 1) := by decide +kernel
theorem dX8_settle_54 : decode cX8_settle 54 = .ok (.iconst 2, 1) := by decide +kernel
theorem dX8_settle_55 : decode cX8_settle 55 = .ok (.irem, 1) := by decide +kernel
theorem dX8_settle_56 : decode cX8_settle 56 = .ok (.iadd, 1) := by decide +kernel
theorem dX8_settle_57 : decode cX8_settle 57 = .ok (.iconst 1, 1) := by decide +kernel
theorem dX8_settle_58 : decode cX8_settle 58 = .ok (.iastore, 1) := by decide +kernel
theorem dX8_settle_59 : decode cX8_settle 59 = .ok (.aload_n 0, 1) := by decide +kernel
theorem dX8_settle_60 : decode cX8_settle 60 = .ok (.getfield 7, 3) := by decide +kernel
theorem dX8_settle_63 : decode cX8_settle 63 = .ok (.sipush 163, 3) := by decide +kernel
theorem dX8_settle_66 : decode cX8_settle 66 = .ok (.dup2, 1) := by decide +kernel
theorem dX8_settle_67 : decode cX8_settle 67 = .ok (.iaload, 1) := by decide +kernel
theorem dX8_settle_68 : decode cX8_settle 68 = .ok (.iconst 1, 1) := by decide +kernel
theorem dX8_settle_69 : decode cX8_settle 69 = .ok (.iadd, 1) := by decide +kernel
theorem dX8_settle_70 : decode cX8_settle 70 = .ok (.iastore, 1) := by decide +kernel
theorem dX8_settle_71 : decode cX8_settle 71 = .ok (.aload_n 0, 1) := by decide +kernel
theorem dX8_settle_72 : decode cX8_settle 72 = .ok (.dup, 1) := by decide +kernel
theorem dX8_settle_73 : decode cX8_settle 73 = .ok (.getfield 93, 3) := by decide +kernel
theorem dX8_settle_76 : decode cX8_settle 76 = .ok (.iconst 1, 1) := by decide +kernel
theorem dX8_settle_77 : decode cX8_settle 77 = .ok (.iadd, 1) := by decide +kernel
theorem dX8_settle_78 : decode cX8_settle 78 = .ok (.putfield 93, 3) := by decide +kernel
theorem dX8_settle_81 : decode cX8_settle 81 = .ok (.aload_n 0, 1) := by decide +kernel
theorem dX8_settle_82 : decode cX8_settle 82 = .ok (.invokevirtual 99, 3) := by decide +kernel
theorem dX8_settle_85 : decode cX8_settle 85 = .ok (.istore_n 1, 1) := by decide +kernel
theorem dX8_settle_86 : decode cX8_settle 86 = .ok (.goto (-71), 3) := by decide +kernel
theorem dX8_settle_89 : decode cX8_settle 89 = .ok (.return_, 1) := by decide +kernel
theorem dX8_save_0 : decode cX8_save 0 = .ok (.aload_n 0, 1) := by decide +kernel
theorem dX8_save_1 : decode cX8_save 1 = .ok (.getfield 102, 3) := by decide +kernel
theorem dX8_save_4 : decode cX8_save 4 = .ok (.bipush 6, 2) := by decide +kernel
theorem dX8_save_6 : decode cX8_save 6 = .ok (.if_icmp .ne 46, 3) := by decide +kernel
theorem dX8_save_9 : decode cX8_save 9 = .ok (.sipush 168, 3) := by decide +kernel
theorem dX8_save_12 : decode cX8_save 12 = .ok (.istore_n 1, 1) := by decide +kernel
theorem dX8_save_13 : decode cX8_save 13 = .ok (.iload_n 1, 1) := by decide +kernel
theorem dX8_save_14 : decode cX8_save 14 = .ok (.sipush 1008, 3) := by decide +kernel
theorem dX8_save_17 : decode cX8_save 17 = .ok (.if_icmp .ge 25, 3) := by decide +kernel
theorem dX8_save_20 : decode cX8_save 20 = .ok (.aload_n 0, 1) := by decide +kernel
theorem dX8_save_21 : decode cX8_save 21 = .ok (.getfield 13, 3) := by decide +kernel
theorem dX8_save_24 : decode cX8_save 24 = .ok (.iload_n 1, 1) := by decide +kernel
theorem dX8_save_25 : decode cX8_save 25 = .ok (.sipush 168, 3) := by decide +kernel
theorem dX8_save_28 : decode cX8_save 28 = .ok (.isub, 1) := by decide +kernel
theorem dX8_save_29 : decode cX8_save 29 = .ok (.aload_n 0, 1) := by decide +kernel
theorem dX8_save_30 : decode cX8_save 30 = .ok (.getfield 13, 3) := by decide +kernel
theorem dX8_save_33 : decode cX8_save 33 = .ok (.iload_n 1, 1) := by decide +kernel
theorem dX8_save_34 : decode cX8_save 34 = .ok (.iaload, 1) := by decide +kernel
theorem dX8_save_35 : decode cX8_save 35 = .ok (.iastore, 1) := by decide +kernel
theorem dX8_save_36 : decode cX8_save 36 = .ok (.iinc 1 1, 3) := by decide +kernel
theorem dX8_save_39 : decode cX8_save 39 = .ok (.goto (-26), 3) := by decide +kernel
theorem dX8_save_42 : decode cX8_save 42 = .ok (.aload_n 0, 1) := by decide +kernel
theorem dX8_save_43 : decode cX8_save 43 = .ok (.dup, 1) := by decide +kernel
theorem dX8_save_44 : decode cX8_save 44 = .ok (.getfield 102, 3) := by decide +kernel
theorem dX8_save_47 : decode cX8_save 47 = .ok (.iconst 1, 1) := by decide +kernel
theorem dX8_save_48 : decode cX8_save 48 = .ok (.isub, 1) := by decide +kernel
theorem dX8_save_49 : decode cX8_save 49 = .ok (.putfield 102, 3) := by decide +kernel
theorem dX8_save_52 : decode cX8_save 52 = .ok (.iconst 0, 1) := by decide +kernel
theorem dX8_save_53 : decode cX8_save 53 = .ok (.istore_n 1, 1) := by decide +kernel
theorem dX8_save_54 : decode cX8_save 54 = .ok (.iload_n 1, 1) := by decide +kernel
theorem dX8_save_55 : decode cX8_save 55 = .ok (.sipush 168, 3) := by decide +kernel
theorem dX8_save_58 : decode cX8_save 58 = .ok (.if_icmp .ge 30, 3) := by decide +kernel
theorem dX8_save_61 : decode cX8_save 61 = .ok (.aload_n 0, 1) := by decide +kernel
theorem dX8_save_62 : decode cX8_save 62 = .ok (.getfield 13, 3) := by decide +kernel
theorem dX8_save_65 : decode cX8_save 65 = .ok (.sipush 168, 3) := by decide +kernel
theorem dX8_save_68 : decode cX8_save 68 = .ok (.aload_n 0, 1) := by decide +kernel
theorem dX8_save_69 : decode cX8_save 69 = .ok (.getfield 102, 3) := by decide +kernel
theorem dX8_save_72 : decode cX8_save 72 = .ok (.imul, 1) := by decide +kernel
theorem dX8_save_73 : decode cX8_save 73 = .ok (.iload_n 1, 1) := by decide +kernel
theorem dX8_save_74 : decode cX8_save 74 = .ok (.iadd, 1) := by decide +kernel
theorem dX8_save_75 : decode cX8_save 75 = .ok (.aload_n 0, 1) := by decide +kernel
theorem dX8_save_76 : decode cX8_save 76 = .ok (.getfield 7, 3) := by decide +kernel
theorem dX8_save_79 : decode cX8_save 79 = .ok (.iload_n 1, 1) := by decide +kernel
theorem dX8_save_80 : decode cX8_save 80 = .ok (.iaload, 1) := by decide +kernel
theorem dX8_save_81 : decode cX8_save 81 = .ok (.iastore, 1) := by decide +kernel
theorem dX8_save_82 : decode cX8_save 82 = .ok (.iinc 1 1, 3) := by decide +kernel
theorem dX8_save_85 : decode cX8_save 85 = .ok (.goto (-31), 3) := by decide +kernel
theorem dX8_save_88 : decode cX8_save 88 = .ok (.aload_n 0, 1) := by decide +kernel
theorem dX8_save_89 : decode cX8_save 89 = .ok (.dup, 1) := by decide +kernel
theorem dX8_save_90 : decode cX8_save 90 = .ok (.getfield 102, 3) := by decide +kernel
theorem dX8_save_93 : decode cX8_save 93 = .ok (.iconst 1, 1) := by decide +kernel
theorem dX8_save_94 : decode cX8_save 94 = .ok (.iadd, 1) := by decide +kernel
theorem dX8_save_95 : decode cX8_save 95 = .ok (.putfield 102, 3) := by decide +kernel
theorem dX8_save_98 : decode cX8_save 98 = .ok (.return_, 1) := by decide +kernel
theorem dX8_undo_0 : decode cX8_undo 0 = .ok (.aload_n 0, 1) := by decide +kernel
theorem dX8_undo_1 : decode cX8_undo 1 = .ok (.aload_n 0, 1) := by decide +kernel
theorem dX8_undo_2 : decode cX8_undo 2 = .ok (.getfield 102, 3) := by decide +kernel
theorem dX8_undo_5 : decode cX8_undo 5 = .ok (.ifCond .le 7, 3) := by decide +kernel
theorem dX8_undo_8 : decode cX8_undo 8 = .ok (.iconst 0, 1) := by decide +kernel
theorem dX8_undo_9 : decode cX8_undo 9 = .ok (.goto 4, 3) := by decide +kernel
theorem dX8_undo_12 : decode cX8_undo 12 = .ok (.iconst 1, 1) := by decide +kernel
theorem dX8_undo_13 : decode cX8_undo 13 = .ok (.putfield 25, 3) := by decide +kernel
theorem dX8_undo_16 : decode cX8_undo 16 = .ok (.aload_n 0, 1) := by decide +kernel
theorem dX8_undo_17 : decode cX8_undo 17 = .ok (.getfield 25, 3) := by decide +kernel
theorem dX8_undo_20 : decode cX8_undo 20 = .ok (.ifCond .le 5, 3) := by decide +kernel
theorem dX8_undo_23 : decode cX8_undo 23 = .ok (.iconst 0, 1) := by decide +kernel
theorem dX8_undo_24 : decode cX8_undo 24 = .ok (.ireturn, 1) := by decide +kernel
theorem dX8_undo_25 : decode cX8_undo 25 = .ok (.aload_n 0, 1) := by decide +kernel
theorem dX8_undo_26 : decode cX8_undo 26 = .ok (.dup, 1) := by decide +kernel
theorem dX8_undo_27 : decode cX8_undo 27 = .ok (.getfield 102, 3) := by decide +kernel
theorem dX8_undo_30 : decode cX8_undo 30 = .ok (.iconst 1, 1) := by decide +kernel
theorem dX8_undo_31 : decode cX8_undo 31 = .ok (.isub, 1) := by decide +kernel
theorem dX8_undo_32 : decode cX8_undo 32 = .ok (.putfield 102, 3) := by decide +kernel
theorem dX8_undo_35 : decode cX8_undo 35 = .ok (.iconst 0, 1) := by decide +kernel
theorem dX8_undo_36 : decode cX8_undo 36 = .ok (.istore_n 1, 1) := by decide +kernel
theorem dX8_undo_37 : decode cX8_undo 37 = .ok (.iload_n 1, 1) := by decide +kernel
theorem dX8_undo_38 : decode cX8_undo 38 = .ok (.sipush 168, 3) := by decide +kernel
theorem dX8_undo_41 : decode cX8_undo 41 = .ok (.if_icmp .ge 30, 3) := by decide +kernel
theorem dX8_undo_44 : decode cX8_undo 44 = .ok (.aload_n 0, 1) := by decide +kernel
theorem dX8_undo_45 : decode cX8_undo 45 = .ok (.getfield 7, 3) := by decide +kernel
theorem dX8_undo_48 : decode cX8_undo 48 = .ok (.iload_n 1, 1) := by decide +kernel
theorem dX8_undo_49 : decode cX8_undo 49 = .ok (.aload_n 0, 1) := by decide +kernel
theorem dX8_undo_50 : decode cX8_undo 50 = .ok (.getfield 13, 3) := by decide +kernel
theorem dX8_undo_53 : decode cX8_undo 53 = .ok (.sipush 168, 3) := by decide +kernel
theorem dX8_undo_56 : decode cX8_undo 56 = .ok (.aload_n 0, 1) := by decide +kernel
theorem dX8_undo_57 : decode cX8_undo 57 = .ok (.getfield 102, 3) := by decide +kernel
theorem dX8_undo_60 : decode cX8_undo 60 = .ok (.imul, 1) := by decide +kernel
theorem dX8_undo_61 : decode cX8_undo 61 = .ok (.iload_n 1, 1) := by decide +kernel
theorem dX8_undo_62 : decode cX8_undo 62 = .ok (.iadd, 1) := by decide +kernel
theorem dX8_undo_63 : decode cX8_undo 63 = .ok (.iaload, 1) := by decide +kernel
theorem dX8_undo_64 : decode cX8_undo 64 = .ok (.iastore, 1) := by decide +kernel
theorem dX8_undo_65 : decode cX8_undo 65 = .ok (.iinc 1 1, 3) := by decide +kernel
theorem dX8_undo_68 : decode cX8_undo 68 = .ok (.goto (-31), 3) := by decide +kernel
theorem dX8_undo_71 : decode cX8_undo 71 = .ok (.aload_n 0, 1) := by decide +kernel
theorem dX8_undo_72 : decode cX8_undo 72 = .ok (.getfield 102, 3) := by decide +kernel
theorem dX8_undo_75 : decode cX8_undo 75 = .ok (.ireturn, 1) := by decide +kernel
theorem dX8_keepAside_0 : decode cX8_keepAside 0 = .ok (.iconst 0, 1) := by decide +kernel
theorem dX8_keepAside_1 : decode cX8_keepAside 1 = .ok (.istore_n 1, 1) := by decide +kernel
theorem dX8_keepAside_2 : decode cX8_keepAside 2 = .ok (.iload_n 1, 1) := by decide +kernel
theorem dX8_keepAside_3 : decode cX8_keepAside 3 = .ok (.sipush 168, 3) := by decide +kernel
theorem dX8_keepAside_6 : decode cX8_keepAside 6 = .ok (.if_icmp .ge 21, 3) := by decide +kernel
theorem dX8_keepAside_9 : decode cX8_keepAside 9 = .ok (.aload_n 0, 1) := by decide +kernel
theorem dX8_keepAside_10 : decode cX8_keepAside 10 = .ok (.getfield 19, 3) := by decide +kernel
theorem dX8_keepAside_13 : decode cX8_keepAside 13 = .ok (.iload_n 1, 1) := by decide +kernel
theorem dX8_keepAside_14 : decode cX8_keepAside 14 = .ok (.aload_n 0, 1) := by decide +kernel
theorem dX8_keepAside_15 : decode cX8_keepAside 15 = .ok (.getfield 7, 3) := by decide +kernel
theorem dX8_keepAside_18 : decode cX8_keepAside 18 = .ok (.iload_n 1, 1) := by decide +kernel
theorem dX8_keepAside_19 : decode cX8_keepAside 19 = .ok (.iaload, 1) := by decide +kernel
theorem dX8_keepAside_20 : decode cX8_keepAside 20 = .ok (.iastore, 1) := by decide +kernel
theorem dX8_keepAside_21 : decode cX8_keepAside 21 = .ok (.iinc 1 1, 3) := by decide +kernel
theorem dX8_keepAside_24 : decode cX8_keepAside 24 = .ok (.goto (-22), 3) := by decide +kernel
theorem dX8_keepAside_27 : decode cX8_keepAside 27 = .ok (.return_, 1) := by decide +kernel
theorem dX8_takeBack_0 : decode cX8_takeBack 0 = .ok (.iconst 0, 1) := by decide +kernel
theorem dX8_takeBack_1 : decode cX8_takeBack 1 = .ok (.istore_n 1, 1) := by decide +kernel
theorem dX8_takeBack_2 : decode cX8_takeBack 2 = .ok (.iload_n 1, 1) := by decide +kernel
theorem dX8_takeBack_3 : decode cX8_takeBack 3 = .ok (.sipush 168, 3) := by decide +kernel
theorem dX8_takeBack_6 : decode cX8_takeBack 6 = .ok (.if_icmp .ge 21, 3) := by decide +kernel
theorem dX8_takeBack_9 : decode cX8_takeBack 9 = .ok (.aload_n 0, 1) := by decide +kernel
theorem dX8_takeBack_10 : decode cX8_takeBack 10 = .ok (.getfield 7, 3) := by decide +kernel
theorem dX8_takeBack_13 : decode cX8_takeBack 13 = .ok (.iload_n 1, 1) := by decide +kernel
theorem dX8_takeBack_14 : decode cX8_takeBack 14 = .ok (.aload_n 0, 1) := by decide +kernel
theorem dX8_takeBack_15 : decode cX8_takeBack 15 = .ok (.getfield 19, 3) := by decide +kernel
theorem dX8_takeBack_18 : decode cX8_takeBack 18 = .ok (.iload_n 1, 1) := by decide +kernel
theorem dX8_takeBack_19 : decode cX8_takeBack 19 = .ok (.iaload, 1) := by decide +kernel
theorem dX8_takeBack_20 : decode cX8_takeBack 20 = .ok (.iastore, 1) := by decide +kernel
theorem dX8_takeBack_21 : decode cX8_takeBack 21 = .ok (.iinc 1 1, 3) := by decide +kernel
theorem dX8_takeBack_24 : decode cX8_takeBack 24 = .ok (.goto (-22), 3) := by decide +kernel
theorem dX8_takeBack_27 : decode cX8_takeBack 27 = .ok (.return_, 1) := by decide +kernel
theorem dX8_isRating_0 : decode cX8_isRating 0 = .ok (.iload_n 0, 1) := by decide +kernel
theorem dX8_isRating_1 : decode cX8_isRating 1 = .ok (.iconst 1, 1) := by decide +kernel
theorem dX8_isRating_2 : decode cX8_isRating 2 = .ok (.bipush 60, 2) := by decide +kernel
theorem dX8_isRating_4 : decode cX8_isRating 4 = .ok (.invokestatic 29, 3) := by decide +kernel
theorem dX8_isRating_7 : decode cX8_isRating 7 = .ok (.ireturn, 1) := by decide +kernel
theorem dX8_whyNoBox_0 : decode cX8_whyNoBox 0 = .ok (.aload_n 0, 1) := by decide +kernel
theorem dX8_whyNoBox_1 : decode cX8_whyNoBox 1 = .ok (.iload_n 1, 1) := by decide +kernel
theorem dX8_whyNoBox_2 : decode cX8_whyNoBox 2 = .ok (.invokevirtual 105, 3) := by decide +kernel
theorem dX8_whyNoBox_5 : decode cX8_whyNoBox 5 = .ok (.ifCond .ne 7, 3) := by decide +kernel
theorem dX8_whyNoBox_8 : decode cX8_whyNoBox 8 = .ok (.iconst 1, 1) := by decide +kernel
theorem dX8_whyNoBox_9 : decode cX8_whyNoBox 9 = .ok (.goto 37, 3) := by decide +kernel
theorem dX8_whyNoBox_12 : decode cX8_whyNoBox 12 = .ok (.iload_n 2, 1) := by decide +kernel
theorem dX8_whyNoBox_13 : decode cX8_whyNoBox 13 = .ok (.invokestatic 108, 3) := by decide +kernel
theorem dX8_whyNoBox_16 : decode cX8_whyNoBox 16 = .ok (.ifCond .eq 10, 3) := by decide +kernel
theorem dX8_whyNoBox_19 : decode cX8_whyNoBox 19 = .ok (.iload_n 3, 1) := by decide +kernel
theorem dX8_whyNoBox_20 : decode cX8_whyNoBox 20 = .ok (.invokestatic 108, 3) := by decide +kernel
theorem dX8_whyNoBox_23 : decode cX8_whyNoBox 23 = .ok (.ifCond .ne 7, 3) := by decide +kernel
theorem dX8_whyNoBox_26 : decode cX8_whyNoBox 26 = .ok (.iconst 2, 1) := by decide +kernel
theorem dX8_whyNoBox_27 : decode cX8_whyNoBox 27 = .ok (.goto 19, 3) := by decide +kernel
theorem dX8_whyNoBox_30 : decode cX8_whyNoBox 30 = .ok (.aload_n 0, 1) := by decide +kernel
theorem dX8_whyNoBox_31 : decode cX8_whyNoBox 31 = .ok (.getfield 7, 3) := by decide +kernel
theorem dX8_whyNoBox_34 : decode cX8_whyNoBox 34 = .ok (.iconst 0, 1) := by decide +kernel
theorem dX8_whyNoBox_35 : decode cX8_whyNoBox 35 = .ok (.iaload, 1) := by decide +kernel
theorem dX8_whyNoBox_36 : decode cX8_whyNoBox 36 = .ok (.bipush 12, 2) := by decide +kernel
theorem dX8_whyNoBox_38 : decode cX8_whyNoBox 38 = .ok (.if_icmp .ne 7, 3) := by decide +kernel
theorem dX8_whyNoBox_41 : decode cX8_whyNoBox 41 = .ok (.iconst 3, 1) := by decide +kernel
theorem dX8_whyNoBox_42 : decode cX8_whyNoBox 42 = .ok (.goto 4, 3) := by decide +kernel
theorem dX8_whyNoBox_45 : decode cX8_whyNoBox 45 = .ok (.iconst 0, 1) := by decide +kernel
theorem dX8_whyNoBox_46 : decode cX8_whyNoBox 46 = .ok (.ireturn, 1) := by decide +kernel
theorem dX8_bringBox_0 : decode cX8_bringBox 0 = .ok (.iconst 1, 1) := by decide +kernel
theorem dX8_bringBox_1 : decode cX8_bringBox 1 = .ok (.bipush 7, 2) := by decide +kernel
theorem dX8_bringBox_3 : decode cX8_bringBox 3 = .ok (.aload_n 0, 1) := by decide +kernel
theorem dX8_bringBox_4 : decode cX8_bringBox 4 = .ok (.getfield 7, 3) := by decide +kernel
theorem dX8_bringBox_7 : decode cX8_bringBox 7 = .ok (.iconst 0, 1) := by decide +kernel
theorem dX8_bringBox_8 : decode cX8_bringBox 8 = .ok (.iaload, 1) := by decide +kernel
theorem dX8_bringBox_9 : decode cX8_bringBox 9 = .ok (.imul, 1) := by decide +kernel
theorem dX8_bringBox_10 : decode cX8_bringBox 10 = .ok (.iadd, 1) := by decide +kernel
theorem dX8_bringBox_11 : decode cX8_bringBox 11 = .ok (.istore 5, 2) := by decide +kernel
theorem dX8_bringBox_13 : decode cX8_bringBox 13 = .ok (.aload_n 0, 1) := by decide +kernel
theorem dX8_bringBox_14 : decode cX8_bringBox 14 = .ok (.getfield 7, 3) := by decide +kernel
theorem dX8_bringBox_17 : decode cX8_bringBox 17 = .ok (.iload 5, 2) := by decide +kernel
theorem dX8_bringBox_19 : decode cX8_bringBox 19 = .ok (.iconst 0, 1) := by decide +kernel
theorem dX8_bringBox_20 : decode cX8_bringBox 20 = .ok (.iadd, 1) := by decide +kernel
theorem dX8_bringBox_21 : decode cX8_bringBox 21 = .ok (.iload_n 1, 1) := by decide +kernel
theorem dX8_bringBox_22 : decode cX8_bringBox 22 = .ok (.iastore, 1) := by decide +kernel
theorem dX8_bringBox_23 : decode cX8_bringBox 23 = .ok (.aload_n 0, 1) := by decide +kernel
theorem dX8_bringBox_24 : decode cX8_bringBox 24 = .ok (.getfield 7, 3) := by decide +kernel
theorem dX8_bringBox_27 : decode cX8_bringBox 27 = .ok (.iload 5, 2) := by decide +kernel
theorem dX8_bringBox_29 : decode cX8_bringBox 29 = .ok (.iconst 1, 1) := by decide +kernel
theorem dX8_bringBox_30 : decode cX8_bringBox 30 = .ok (.iadd, 1) := by decide +kernel
theorem dX8_bringBox_31 : decode cX8_bringBox 31 = .ok (.iload 4, 2) := by decide +kernel
theorem dX8_bringBox_33 : decode cX8_bringBox 33 = .ok (.ifCond .eq 7, 3) := by decide +kernel
theorem dX8_bringBox_36 : decode cX8_bringBox 36 = .ok (.iconst 1, 1) := by decide +kernel
theorem dX8_bringBox_37 : decode cX8_bringBox 37 = .ok (.goto 4, 3) := by decide +kernel
theorem dX8_bringBox_40 : decode cX8_bringBox 40 = .ok (.iconst 0, 1) := by decide +kernel
theorem dX8_bringBox_41 : decode cX8_bringBox 41 = .ok (.iastore, 1) := by decide +kernel
theorem dX8_bringBox_42 : decode cX8_bringBox 42 = .ok (.aload_n 0, 1) := by decide +kernel
theorem dX8_bringBox_43 : decode cX8_bringBox 43 = .ok (.getfield 7, 3) := by decide +kernel
theorem dX8_bringBox_46 : decode cX8_bringBox 46 = .ok (.iload 5, 2) := by decide +kernel
theorem dX8_bringBox_48 : decode cX8_bringBox 48 = .ok (.iconst 2, 1) := by decide +kernel
theorem dX8_bringBox_49 : decode cX8_bringBox 49 = .ok (.iadd, 1) := by decide +kernel
theorem dX8_bringBox_50 : decode cX8_bringBox 50 = .ok (.iconst 1, 1) := by decide +kernel
theorem dX8_bringBox_51 : decode cX8_bringBox 51 = .ok (.iastore, 1) := by decide +kernel
theorem dX8_bringBox_52 : decode cX8_bringBox 52 = .ok (.aload_n 0, 1) := by decide +kernel
theorem dX8_bringBox_53 : decode cX8_bringBox 53 = .ok (.getfield 7, 3) := by decide +kernel
theorem dX8_bringBox_56 : decode cX8_bringBox 56 = .ok (.iload 5, 2) := by decide +kernel
theorem dX8_bringBox_58 : decode cX8_bringBox 58 = .ok (.iconst 3, 1) := by decide +kernel
theorem dX8_bringBox_59 : decode cX8_bringBox 59 = .ok (.iadd, 1) := by decide +kernel
theorem dX8_bringBox_60 : decode cX8_bringBox 60 = .ok (.iload_n 2, 1) := by decide +kernel
theorem dX8_bringBox_61 : decode cX8_bringBox 61 = .ok (.iastore, 1) := by decide +kernel
theorem dX8_bringBox_62 : decode cX8_bringBox 62 = .ok (.aload_n 0, 1) := by decide +kernel
theorem dX8_bringBox_63 : decode cX8_bringBox 63 = .ok (.getfield 7, 3) := by decide +kernel
theorem dX8_bringBox_66 : decode cX8_bringBox 66 = .ok (.iload 5, 2) := by decide +kernel
theorem dX8_bringBox_68 : decode cX8_bringBox 68 = .ok (.iconst 3, 1) := by decide +kernel
theorem dX8_bringBox_69 : decode cX8_bringBox 69 = .ok (.iadd, 1) := by decide +kernel
theorem dX8_bringBox_70 : decode cX8_bringBox 70 = .ok (.iconst 1, 1) := by decide +kernel
theorem dX8_bringBox_71 : decode cX8_bringBox 71 = .ok (.iadd, 1) := by decide +kernel
theorem dX8_bringBox_72 : decode cX8_bringBox 72 = .ok (.iload_n 3, 1) := by decide +kernel
theorem dX8_bringBox_73 : decode cX8_bringBox 73 = .ok (.iastore, 1) := by decide +kernel
theorem dX8_bringBox_74 : decode cX8_bringBox 74 = .ok (.aload_n 0, 1) := by decide +kernel
theorem dX8_bringBox_75 : decode cX8_bringBox 75 = .ok (.getfield 7, 3) := by decide +kernel
theorem dX8_bringBox_78 : decode cX8_bringBox 78 = .ok (.iload 5, 2) := by decide +kernel
theorem dX8_bringBox_80 : decode cX8_bringBox 80 = .ok (.iconst 5, 1) := by decide +kernel
theorem dX8_bringBox_81 : decode cX8_bringBox 81 = .ok (.iadd, 1) := by decide +kernel
theorem dX8_bringBox_82 : decode cX8_bringBox 82 = .ok (.iconst 0, 1) := by decide +kernel
theorem dX8_bringBox_83 : decode cX8_bringBox 83 = .ok (.iastore, 1) := by decide +kernel
theorem dX8_bringBox_84 : decode cX8_bringBox 84 = .ok (.aload_n 0, 1) := by decide +kernel
theorem dX8_bringBox_85 : decode cX8_bringBox 85 = .ok (.getfield 7, 3) := by decide +kernel
theorem dX8_bringBox_88 : decode cX8_bringBox 88 = .ok (.iload 5, 2) := by decide +kernel
theorem dX8_bringBox_90 : decode cX8_bringBox 90 = .ok (.iconst 5, 1) := by decide +kernel
theorem dX8_bringBox_91 : decode cX8_bringBox 91 = .ok (.iadd, 1) := by decide +kernel
theorem dX8_bringBox_92 : decode cX8_bringBox 92 = .ok (.iconst 1, 1) := by decide +kernel
theorem dX8_bringBox_93 : decode cX8_bringBox 93 = .ok (.iadd, 1) := by decide +kernel
theorem dX8_bringBox_94 : decode cX8_bringBox 94 = .ok (.iconst 0, 1) := by decide +kernel
theorem dX8_bringBox_95 : decode cX8_bringBox 95 = .ok (.iastore, 1) := by decide +kernel
theorem dX8_bringBox_96 : decode cX8_bringBox 96 = .ok (.aload_n 0, 1) := by decide +kernel
theorem dX8_bringBox_97 : decode cX8_bringBox 97 = .ok (.getfield 7, 3) := by decide +kernel
theorem dX8_bringBox_100 : decode cX8_bringBox 100 = .ok (.iconst 0, 1) := by decide +kernel
theorem dX8_bringBox_101 : decode cX8_bringBox 101 = .ok (.dup2, 1) := by decide +kernel
theorem dX8_bringBox_102 : decode cX8_bringBox 102 = .ok (.iaload, 1) := by decide +kernel
theorem dX8_bringBox_103 : decode cX8_bringBox 103 = .ok (.iconst 1, 1) := by decide +kernel
theorem dX8_bringBox_104 : decode cX8_bringBox 104 = .ok (.iadd, 1) := by decide +kernel
theorem dX8_bringBox_105 : decode cX8_bringBox 105 = .ok (.iastore, 1) := by decide +kernel
theorem dX8_bringBox_106 : decode cX8_bringBox 106 = .ok (.aload_n 0, 1) := by decide +kernel
theorem dX8_bringBox_107 : decode cX8_bringBox 107 = .ok (.invokevirtual 111, 3) := by decide +kernel
theorem dX8_bringBox_110 : decode cX8_bringBox 110 = .ok (.return_, 1) := by decide +kernel
theorem dX8_addBox_0 : decode cX8_addBox 0 = .ok (.aload_n 0, 1) := by decide +kernel
theorem dX8_addBox_1 : decode cX8_addBox 1 = .ok (.aload_n 0, 1) := by decide +kernel
theorem dX8_addBox_2 : decode cX8_addBox 2 = .ok (.iload_n 1, 1) := by decide +kernel
theorem dX8_addBox_3 : decode cX8_addBox 3 = .ok (.iload_n 2, 1) := by decide +kernel
theorem dX8_addBox_4 : decode cX8_addBox 4 = .ok (.iload_n 3, 1) := by decide +kernel
theorem dX8_addBox_5 : decode cX8_addBox 5 = .ok (.invokevirtual 114, 3) := by decide +kernel
theorem dX8_addBox_8 : decode cX8_addBox 8 = .ok (.putfield 25, 3) := by decide +kernel
theorem dX8_addBox_11 : decode cX8_addBox 11 = .ok (.aload_n 0, 1) := by decide +kernel
theorem dX8_addBox_12 : decode cX8_addBox 12 = .ok (.getfield 25, 3) := by decide +kernel
theorem dX8_addBox_15 : decode cX8_addBox 15 = .ok (.ifCond .le 5, 3) := by decide +kernel
theorem dX8_addBox_18 : decode cX8_addBox 18 = .ok (.iconst 0, 1) := by decide +kernel
theorem dX8_addBox_19 : decode cX8_addBox 19 = .ok (.ireturn, 1) := by decide +kernel
theorem dX8_addBox_20 : decode cX8_addBox 20 = .ok (.aload_n 0, 1) := by decide +kernel
theorem dX8_addBox_21 : decode cX8_addBox 21 = .ok (.invokevirtual 118, 3) := by decide +kernel
theorem dX8_addBox_24 : decode cX8_addBox 24 = .ok (.aload_n 0, 1) := by decide +kernel
theorem dX8_addBox_25 : decode cX8_addBox 25 = .ok (.iload_n 1, 1) := by decide +kernel
theorem dX8_addBox_26 : decode cX8_addBox 26 = .ok (.iload_n 2, 1) := by decide +kernel
theorem dX8_addBox_27 : decode cX8_addBox 27 = .ok (.iload_n 3, 1) := by decide +kernel
theorem dX8_addBox_28 : decode cX8_addBox 28 = .ok (.iload 4, 2) := by decide +kernel
theorem dX8_addBox_30 : decode cX8_addBox 30 = .ok (.invokevirtual 121, 3) := by decide +kernel
theorem dX8_addBox_33 : decode cX8_addBox 33 = .ok (.aload_n 0, 1) := by decide +kernel
theorem dX8_addBox_34 : decode cX8_addBox 34 = .ok (.getfield 7, 3) := by decide +kernel
theorem dX8_addBox_37 : decode cX8_addBox 37 = .ok (.iconst 0, 1) := by decide +kernel
theorem dX8_addBox_38 : decode cX8_addBox 38 = .ok (.iaload, 1) := by decide +kernel
theorem dX8_addBox_39 : decode cX8_addBox 39 = .ok (.iconst 1, 1) := by decide +kernel
theorem dX8_addBox_40 : decode cX8_addBox 40 = .ok (.isub, 1) := by decide +kernel
theorem dX8_addBox_41 : decode cX8_addBox 41 = .ok (.ireturn, 1) := by decide +kernel
theorem dX8_turn_0 : decode cX8_turn 0 = .ok (.aload_n 0, 1) := by decide +kernel
theorem dX8_turn_1 : decode cX8_turn 1 = .ok (.getfield 7, 3) := by decide +kernel
theorem dX8_turn_4 : decode cX8_turn 4 = .ok (.iconst 1, 1) := by decide +kernel
theorem dX8_turn_5 : decode cX8_turn 5 = .ok (.bipush 7, 2) := by decide +kernel
theorem dX8_turn_7 : decode cX8_turn 7 = .ok (.iload_n 1, 1) := by decide +kernel
theorem dX8_turn_8 : decode cX8_turn 8 = .ok (.imul, 1) := by decide +kernel
theorem dX8_turn_9 : decode cX8_turn 9 = .ok (.iadd, 1) := by decide +kernel
theorem dX8_turn_10 : decode cX8_turn 10 = .ok (.iload_n 2, 1) := by decide +kernel
theorem dX8_turn_11 : decode cX8_turn 11 = .ok (.iadd, 1) := by decide +kernel
theorem dX8_turn_12 : decode cX8_turn 12 = .ok (.iconst 1, 1) := by decide +kernel
theorem dX8_turn_13 : decode cX8_turn 13 = .ok (.aload_n 0, 1) := by decide +kernel
theorem dX8_turn_14 : decode cX8_turn 14 = .ok (.iload_n 1, 1) := by decide +kernel
theorem dX8_turn_15 : decode cX8_turn 15 = .ok (.iload_n 2, 1) := by decide +kernel
theorem dX8_turn_16 : decode cX8_turn 16 = .ok (.invokevirtual 33, 3) := by decide +kernel
theorem dX8_turn_19 : decode cX8_turn 19 = .ok (.isub, 1) := by decide +kernel
theorem dX8_turn_20 : decode cX8_turn 20 = .ok (.iastore, 1) := by decide +kernel
theorem dX8_turn_21 : decode cX8_turn 21 = .ok (.aload_n 0, 1) := by decide +kernel
theorem dX8_turn_22 : decode cX8_turn 22 = .ok (.invokevirtual 111, 3) := by decide +kernel
theorem dX8_turn_25 : decode cX8_turn 25 = .ok (.return_, 1) := by decide +kernel
theorem dX8_toggle_0 : decode cX8_toggle 0 = .ok (.aload_n 0, 1) := by decide +kernel
theorem dX8_toggle_1 : decode cX8_toggle 1 = .ok (.aload_n 0, 1) := by decide +kernel
theorem dX8_toggle_2 : decode cX8_toggle 2 = .ok (.iload_n 1, 1) := by decide +kernel
theorem dX8_toggle_3 : decode cX8_toggle 3 = .ok (.invokevirtual 125, 3) := by decide +kernel
theorem dX8_toggle_6 : decode cX8_toggle 6 = .ok (.ifCond .eq 7, 3) := by decide +kernel
theorem dX8_toggle_9 : decode cX8_toggle 9 = .ok (.iconst 0, 1) := by decide +kernel
theorem dX8_toggle_10 : decode cX8_toggle 10 = .ok (.goto 4, 3) := by decide +kernel
theorem dX8_toggle_13 : decode cX8_toggle 13 = .ok (.iconst 1, 1) := by decide +kernel
theorem dX8_toggle_14 : decode cX8_toggle 14 = .ok (.putfield 25, 3) := by decide +kernel
theorem dX8_toggle_17 : decode cX8_toggle 17 = .ok (.aload_n 0, 1) := by decide +kernel
theorem dX8_toggle_18 : decode cX8_toggle 18 = .ok (.getfield 25, 3) := by decide +kernel
theorem dX8_toggle_21 : decode cX8_toggle 21 = .ok (.ifCond .le 5, 3) := by decide +kernel
theorem dX8_toggle_24 : decode cX8_toggle 24 = .ok (.iconst 0, 1) := by decide +kernel
theorem dX8_toggle_25 : decode cX8_toggle 25 = .ok (.ireturn, 1) := by decide +kernel
theorem dX8_toggle_26 : decode cX8_toggle 26 = .ok (.aload_n 0, 1) := by decide +kernel
theorem dX8_toggle_27 : decode cX8_toggle 27 = .ok (.invokevirtual 118, 3) := by decide +kernel
theorem dX8_toggle_30 : decode cX8_toggle 30 = .ok (.aload_n 0, 1) := by decide +kernel
theorem dX8_toggle_31 : decode cX8_toggle 31 = .ok (.iload_n 1, 1) := by decide +kernel
theorem dX8_toggle_32 : decode cX8_toggle 32 = .ok (.iconst 2, 1) := by decide +kernel
theorem dX8_toggle_33 : decode cX8_toggle 33 = .ok (.invokevirtual 128, 3) := by decide +kernel
theorem dX8_toggle_36 : decode cX8_toggle 36 = .ok (.aload_n 0, 1) := by decide +kernel
theorem dX8_toggle_37 : decode cX8_toggle 37 = .ok (.iload_n 1, 1) := by decide +kernel
theorem dX8_toggle_38 : decode cX8_toggle 38 = .ok (.iconst 2, 1) := by decide +kernel
theorem dX8_toggle_39 : decode cX8_toggle 39 = .ok (.invokevirtual 33, 3) := by decide +kernel
theorem dX8_toggle_42 : decode cX8_toggle 42 = .ok (.ireturn, 1) := by decide +kernel
theorem dX8_cross_0 : decode cX8_cross 0 = .ok (.aload_n 0, 1) := by decide +kernel
theorem dX8_cross_1 : decode cX8_cross 1 = .ok (.aload_n 0, 1) := by decide +kernel
theorem dX8_cross_2 : decode cX8_cross 2 = .ok (.iload_n 1, 1) := by decide +kernel
theorem dX8_cross_3 : decode cX8_cross 3 = .ok (.invokevirtual 125, 3) := by decide +kernel
theorem dX8_cross_6 : decode cX8_cross 6 = .ok (.ifCond .eq 7, 3) := by decide +kernel
theorem dX8_cross_9 : decode cX8_cross 9 = .ok (.iconst 0, 1) := by decide +kernel
theorem dX8_cross_10 : decode cX8_cross 10 = .ok (.goto 4, 3) := by decide +kernel
theorem dX8_cross_13 : decode cX8_cross 13 = .ok (.iconst 1, 1) := by decide +kernel
theorem dX8_cross_14 : decode cX8_cross 14 = .ok (.putfield 25, 3) := by decide +kernel
theorem dX8_cross_17 : decode cX8_cross 17 = .ok (.aload_n 0, 1) := by decide +kernel
theorem dX8_cross_18 : decode cX8_cross 18 = .ok (.getfield 25, 3) := by decide +kernel
theorem dX8_cross_21 : decode cX8_cross 21 = .ok (.ifCond .le 5, 3) := by decide +kernel
theorem dX8_cross_24 : decode cX8_cross 24 = .ok (.iconst 0, 1) := by decide +kernel
theorem dX8_cross_25 : decode cX8_cross 25 = .ok (.ireturn, 1) := by decide +kernel
theorem dX8_cross_26 : decode cX8_cross 26 = .ok (.aload_n 0, 1) := by decide +kernel
theorem dX8_cross_27 : decode cX8_cross 27 = .ok (.invokevirtual 118, 3) := by decide +kernel
theorem dX8_cross_30 : decode cX8_cross 30 = .ok (.aload_n 0, 1) := by decide +kernel
theorem dX8_cross_31 : decode cX8_cross 31 = .ok (.iload_n 1, 1) := by decide +kernel
theorem dX8_cross_32 : decode cX8_cross 32 = .ok (.iconst 1, 1) := by decide +kernel
theorem dX8_cross_33 : decode cX8_cross 33 = .ok (.invokevirtual 128, 3) := by decide +kernel
theorem dX8_cross_36 : decode cX8_cross 36 = .ok (.aload_n 0, 1) := by decide +kernel
theorem dX8_cross_37 : decode cX8_cross 37 = .ok (.invokevirtual 132, 3) := by decide +kernel
theorem dX8_cross_40 : decode cX8_cross 40 = .ok (.ireturn, 1) := by decide +kernel
theorem dX8_replace_0 : decode cX8_replace 0 = .ok (.aload_n 0, 1) := by decide +kernel
theorem dX8_replace_1 : decode cX8_replace 1 = .ok (.iload_n 1, 1) := by decide +kernel
theorem dX8_replace_2 : decode cX8_replace 2 = .ok (.invokevirtual 125, 3) := by decide +kernel
theorem dX8_replace_5 : decode cX8_replace 5 = .ok (.ifCond .eq 14, 3) := by decide +kernel
theorem dX8_replace_8 : decode cX8_replace 8 = .ok (.iload_n 2, 1) := by decide +kernel
theorem dX8_replace_9 : decode cX8_replace 9 = .ok (.invokestatic 135, 3) := by decide +kernel
theorem dX8_replace_12 : decode cX8_replace 12 = .ok (.ifCond .eq 7, 3) := by decide +kernel
theorem dX8_replace_15 : decode cX8_replace 15 = .ok (.iconst 1, 1) := by decide +kernel
theorem dX8_replace_16 : decode cX8_replace 16 = .ok (.goto 4, 3) := by decide +kernel
theorem dX8_replace_19 : decode cX8_replace 19 = .ok (.iconst 0, 1) := by decide +kernel
theorem dX8_replace_20 : decode cX8_replace 20 = .ok (.istore 4, 2) := by decide +kernel
theorem dX8_replace_22 : decode cX8_replace 22 = .ok (.aload_n 0, 1) := by decide +kernel
theorem dX8_replace_23 : decode cX8_replace 23 = .ok (.iload 4, 2) := by decide +kernel
theorem dX8_replace_25 : decode cX8_replace 25 = .ok (.ifCond .ne 7, 3) := by decide +kernel
theorem dX8_replace_28 : decode cX8_replace 28 = .ok (.iconst 1, 1) := by decide +kernel
theorem dX8_replace_29 : decode cX8_replace 29 = .ok (.goto 30, 3) := by decide +kernel
theorem dX8_replace_32 : decode cX8_replace 32 = .ok (.iload_n 3, 1) := by decide +kernel
theorem dX8_replace_33 : decode cX8_replace 33 = .ok (.invokestatic 108, 3) := by decide +kernel
theorem dX8_replace_36 : decode cX8_replace 36 = .ok (.ifCond .ne 7, 3) := by decide +kernel
theorem dX8_replace_39 : decode cX8_replace 39 = .ok (.iconst 2, 1) := by decide +kernel
theorem dX8_replace_40 : decode cX8_replace 40 = .ok (.goto 19, 3) := by decide +kernel
theorem dX8_replace_43 : decode cX8_replace 43 = .ok (.aload_n 0, 1) := by decide +kernel
theorem dX8_replace_44 : decode cX8_replace 44 = .ok (.getfield 7, 3) := by decide +kernel
theorem dX8_replace_47 : decode cX8_replace 47 = .ok (.sipush 162, 3) := by decide +kernel
theorem dX8_replace_50 : decode cX8_replace 50 = .ok (.iaload, 1) := by decide +kernel
theorem dX8_replace_51 : decode cX8_replace 51 = .ok (.ifCond .ne 7, 3) := by decide +kernel
theorem dX8_replace_54 : decode cX8_replace 54 = .ok (.iconst 3, 1) := by decide +kernel
theorem dX8_replace_55 : decode cX8_replace 55 = .ok (.goto 4, 3) := by decide +kernel
theorem dX8_replace_58 : decode cX8_replace 58 = .ok (.iconst 0, 1) := by decide +kernel
theorem dX8_replace_59 : decode cX8_replace 59 = .ok (.putfield 25, 3) := by decide +kernel
theorem dX8_replace_62 : decode cX8_replace 62 = .ok (.aload_n 0, 1) := by decide +kernel
theorem dX8_replace_63 : decode cX8_replace 63 = .ok (.getfield 25, 3) := by decide +kernel
theorem dX8_replace_66 : decode cX8_replace 66 = .ok (.ifCond .le 5, 3) := by decide +kernel
theorem dX8_replace_69 : decode cX8_replace 69 = .ok (.iconst 0, 1) := by decide +kernel
theorem dX8_replace_70 : decode cX8_replace 70 = .ok (.ireturn, 1) := by decide +kernel
theorem dX8_replace_71 : decode cX8_replace 71 = .ok (.aload_n 0, 1) := by decide +kernel
theorem dX8_replace_72 : decode cX8_replace 72 = .ok (.invokevirtual 118, 3) := by decide +kernel
theorem dX8_replace_75 : decode cX8_replace 75 = .ok (.aload_n 0, 1) := by decide +kernel
theorem dX8_replace_76 : decode cX8_replace 76 = .ok (.getfield 7, 3) := by decide +kernel
theorem dX8_replace_79 : decode cX8_replace 79 = .ok (.sipush 162, 3) := by decide +kernel
theorem dX8_replace_82 : decode cX8_replace 82 = .ok (.dup2, 1) := by decide +kernel
theorem dX8_replace_83 : decode cX8_replace 83 = .ok (.iaload, 1) := by decide +kernel
theorem dX8_replace_84 : decode cX8_replace 84 = .ok (.iconst 1, 1) := by decide +kernel
theorem dX8_replace_85 : decode cX8_replace 85 = .ok (.isub, 1) := by decide +kernel
theorem dX8_replace_86 : decode cX8_replace 86 = .ok (.iastore, 1) := by decide +kernel
theorem dX8_replace_87 : decode cX8_replace 87 = .ok (.aload_n 0, 1) := by decide +kernel
theorem dX8_replace_88 : decode cX8_replace 88 = .ok (.getfield 7, 3) := by decide +kernel
theorem dX8_replace_91 : decode cX8_replace 91 = .ok (.iconst 1, 1) := by decide +kernel
theorem dX8_replace_92 : decode cX8_replace 92 = .ok (.bipush 7, 2) := by decide +kernel
theorem dX8_replace_94 : decode cX8_replace 94 = .ok (.iload_n 1, 1) := by decide +kernel
theorem dX8_replace_95 : decode cX8_replace 95 = .ok (.imul, 1) := by decide +kernel
theorem dX8_replace_96 : decode cX8_replace 96 = .ok (.iadd, 1) := by decide +kernel
theorem dX8_replace_97 : decode cX8_replace 97 = .ok (.iconst 3, 1) := by decide +kernel
theorem dX8_replace_98 : decode cX8_replace 98 = .ok (.iadd, 1) := by decide +kernel
theorem dX8_replace_99 : decode cX8_replace 99 = .ok (.iload_n 2, 1) := by decide +kernel
theorem dX8_replace_100 : decode cX8_replace 100 = .ok (.iadd, 1) := by decide +kernel
theorem dX8_replace_101 : decode cX8_replace 101 = .ok (.iload_n 3, 1) := by decide +kernel
theorem dX8_replace_102 : decode cX8_replace 102 = .ok (.iastore, 1) := by decide +kernel
theorem dX8_replace_103 : decode cX8_replace 103 = .ok (.aload_n 0, 1) := by decide +kernel
theorem dX8_replace_104 : decode cX8_replace 104 = .ok (.getfield 7, 3) := by decide +kernel
theorem dX8_replace_107 : decode cX8_replace 107 = .ok (.iconst 1, 1) := by decide +kernel
theorem dX8_replace_108 : decode cX8_replace 108 = .ok (.bipush 7, 2) := by decide +kernel
theorem dX8_replace_110 : decode cX8_replace 110 = .ok (.iload_n 1, 1) := by decide +kernel
theorem dX8_replace_111 : decode cX8_replace 111 = .ok (.imul, 1) := by decide +kernel
theorem dX8_replace_112 : decode cX8_replace 112 = .ok (.iadd, 1) := by decide +kernel
theorem dX8_replace_113 : decode cX8_replace 113 = .ok (.iconst 5, 1) := by decide +kernel
theorem dX8_replace_114 : decode cX8_replace 114 = .ok (.iadd, 1) := by decide +kernel
theorem dX8_replace_115 : decode cX8_replace 115 = .ok (.iload_n 2, 1) := by decide +kernel
theorem dX8_replace_116 : decode cX8_replace 116 = .ok (.iadd, 1) := by decide +kernel
theorem dX8_replace_117 : decode cX8_replace 117 = .ok (.iconst 0, 1) := by decide +kernel
theorem dX8_replace_118 : decode cX8_replace 118 = .ok (.iastore, 1) := by decide +kernel
theorem dX8_replace_119 : decode cX8_replace 119 = .ok (.aload_n 0, 1) := by decide +kernel
theorem dX8_replace_120 : decode cX8_replace 120 = .ok (.invokevirtual 111, 3) := by decide +kernel
theorem dX8_replace_123 : decode cX8_replace 123 = .ok (.iconst 1, 1) := by decide +kernel
theorem dX8_replace_124 : decode cX8_replace 124 = .ok (.aload_n 0, 1) := by decide +kernel
theorem dX8_replace_125 : decode cX8_replace 125 = .ok (.iload_n 1, 1) := by decide +kernel
theorem dX8_replace_126 : decode cX8_replace 126 = .ok (.iconst 5, 1) := by decide +kernel
theorem dX8_replace_127 : decode cX8_replace 127 = .ok (.iload_n 2, 1) := by decide +kernel
theorem dX8_replace_128 : decode cX8_replace 128 = .ok (.iadd, 1) := by decide +kernel
theorem dX8_replace_129 : decode cX8_replace 129 = .ok (.invokevirtual 33, 3) := by decide +kernel
theorem dX8_replace_132 : decode cX8_replace 132 = .ok (.isub, 1) := by decide +kernel
theorem dX8_replace_133 : decode cX8_replace 133 = .ok (.ireturn, 1) := by decide +kernel
theorem dX8_buyFuses_0 : decode cX8_buyFuses 0 = .ok (.aload_n 0, 1) := by decide +kernel
theorem dX8_buyFuses_1 : decode cX8_buyFuses 1 = .ok (.iload_n 1, 1) := by decide +kernel
theorem dX8_buyFuses_2 : decode cX8_buyFuses 2 = .ok (.iconst 1, 1) := by decide +kernel
theorem dX8_buyFuses_3 : decode cX8_buyFuses 3 = .ok (.bipush 20, 2) := by decide +kernel
theorem dX8_buyFuses_5 : decode cX8_buyFuses 5 = .ok (.invokestatic 29, 3) := by decide +kernel
theorem dX8_buyFuses_8 : decode cX8_buyFuses 8 = .ok (.ifCond .ne 7, 3) := by decide +kernel
theorem dX8_buyFuses_11 : decode cX8_buyFuses 11 = .ok (.iconst 1, 1) := by decide +kernel
theorem dX8_buyFuses_12 : decode cX8_buyFuses 12 = .ok (.goto 23, 3) := by decide +kernel
theorem dX8_buyFuses_15 : decode cX8_buyFuses 15 = .ok (.aload_n 0, 1) := by decide +kernel
theorem dX8_buyFuses_16 : decode cX8_buyFuses 16 = .ok (.getfield 7, 3) := by decide +kernel
theorem dX8_buyFuses_19 : decode cX8_buyFuses 19 = .ok (.sipush 162, 3) := by decide +kernel
theorem dX8_buyFuses_22 : decode cX8_buyFuses 22 = .ok (.iaload, 1) := by decide +kernel
theorem dX8_buyFuses_23 : decode cX8_buyFuses 23 = .ok (.iload_n 1, 1) := by decide +kernel
theorem dX8_buyFuses_24 : decode cX8_buyFuses 24 = .ok (.iadd, 1) := by decide +kernel
theorem dX8_buyFuses_25 : decode cX8_buyFuses 25 = .ok (.bipush 50, 2) := by decide +kernel
theorem dX8_buyFuses_27 : decode cX8_buyFuses 27 = .ok (.if_icmp .le 7, 3) := by decide +kernel
theorem dX8_buyFuses_30 : decode cX8_buyFuses 30 = .ok (.iconst 2, 1) := by decide +kernel
theorem dX8_buyFuses_31 : decode cX8_buyFuses 31 = .ok (.goto 4, 3) := by decide +kernel
theorem dX8_buyFuses_34 : decode cX8_buyFuses 34 = .ok (.iconst 0, 1) := by decide +kernel
theorem dX8_buyFuses_35 : decode cX8_buyFuses 35 = .ok (.putfield 25, 3) := by decide +kernel
theorem dX8_buyFuses_38 : decode cX8_buyFuses 38 = .ok (.aload_n 0, 1) := by decide +kernel
theorem dX8_buyFuses_39 : decode cX8_buyFuses 39 = .ok (.getfield 25, 3) := by decide +kernel
theorem dX8_buyFuses_42 : decode cX8_buyFuses 42 = .ok (.ifCond .le 5, 3) := by decide +kernel
theorem dX8_buyFuses_45 : decode cX8_buyFuses 45 = .ok (.iconst 0, 1) := by decide +kernel
theorem dX8_buyFuses_46 : decode cX8_buyFuses 46 = .ok (.ireturn, 1) := by decide +kernel
theorem dX8_buyFuses_47 : decode cX8_buyFuses 47 = .ok (.aload_n 0, 1) := by decide +kernel
theorem dX8_buyFuses_48 : decode cX8_buyFuses 48 = .ok (.invokevirtual 118, 3) := by decide +kernel
theorem dX8_buyFuses_51 : decode cX8_buyFuses 51 = .ok (.aload_n 0, 1) := by decide +kernel
theorem dX8_buyFuses_52 : decode cX8_buyFuses 52 = .ok (.getfield 7, 3) := by decide +kernel
theorem dX8_buyFuses_55 : decode cX8_buyFuses 55 = .ok (.sipush 162, 3) := by decide +kernel
theorem dX8_buyFuses_58 : decode cX8_buyFuses 58 = .ok (.dup2, 1) := by decide +kernel
theorem dX8_buyFuses_59 : decode cX8_buyFuses 59 = .ok (.iaload, 1) := by decide +kernel
theorem dX8_buyFuses_60 : decode cX8_buyFuses 60 = .ok (.iload_n 1, 1) := by decide +kernel
theorem dX8_buyFuses_61 : decode cX8_buyFuses 61 = .ok (.iadd, 1) := by decide +kernel
theorem dX8_buyFuses_62 : decode cX8_buyFuses 62 = .ok (.iastore, 1) := by decide +kernel
theorem dX8_buyFuses_63 : decode cX8_buyFuses 63 = .ok (.aload_n 0, 1) := by decide +kernel
theorem dX8_buyFuses_64 : decode cX8_buyFuses 64 = .ok (.getfield 7, 3) := by decide +kernel
theorem dX8_buyFuses_67 : decode cX8_buyFuses 67 = .ok (.sipush 162, 3) := by decide +kernel
theorem dX8_buyFuses_70 : decode cX8_buyFuses 70 = .ok (.iaload, 1) := by decide +kernel
theorem dX8_buyFuses_71 : decode cX8_buyFuses 71 = .ok (.ireturn, 1) := by decide +kernel
theorem dX8_whyNoLantern_0 : decode cX8_whyNoLantern 0 = .ok (.aload_n 0, 1) := by decide +kernel
theorem dX8_whyNoLantern_1 : decode cX8_whyNoLantern 1 = .ok (.iload_n 1, 1) := by decide +kernel
theorem dX8_whyNoLantern_2 : decode cX8_whyNoLantern 2 = .ok (.invokevirtual 105, 3) := by decide +kernel
theorem dX8_whyNoLantern_5 : decode cX8_whyNoLantern 5 = .ok (.ifCond .ne 7, 3) := by decide +kernel
theorem dX8_whyNoLantern_8 : decode cX8_whyNoLantern 8 = .ok (.iconst 1, 1) := by decide +kernel
theorem dX8_whyNoLantern_9 : decode cX8_whyNoLantern 9 = .ok (.goto 34, 3) := by decide +kernel
theorem dX8_whyNoLantern_12 : decode cX8_whyNoLantern 12 = .ok (.iload_n 2, 1) := by decide +kernel
theorem dX8_whyNoLantern_13 : decode cX8_whyNoLantern 13 = .ok (.iconst 1, 1) := by decide +kernel
theorem dX8_whyNoLantern_14 : decode cX8_whyNoLantern 14 = .ok (.bipush 9, 2) := by decide +kernel
theorem dX8_whyNoLantern_16 : decode cX8_whyNoLantern 16 = .ok (.invokestatic 29, 3) := by decide +kernel
theorem dX8_whyNoLantern_19 : decode cX8_whyNoLantern 19 = .ok (.ifCond .ne 7, 3) := by decide +kernel
theorem dX8_whyNoLantern_22 : decode cX8_whyNoLantern 22 = .ok (.iconst 2, 1) := by decide +kernel
theorem dX8_whyNoLantern_23 : decode cX8_whyNoLantern 23 = .ok (.goto 20, 3) := by decide +kernel
theorem dX8_whyNoLantern_26 : decode cX8_whyNoLantern 26 = .ok (.aload_n 0, 1) := by decide +kernel
theorem dX8_whyNoLantern_27 : decode cX8_whyNoLantern 27 = .ok (.getfield 7, 3) := by decide +kernel
theorem dX8_whyNoLantern_30 : decode cX8_whyNoLantern 30 = .ok (.bipush 85, 2) := by decide +kernel
theorem dX8_whyNoLantern_32 : decode cX8_whyNoLantern 32 = .ok (.iaload, 1) := by decide +kernel
theorem dX8_whyNoLantern_33 : decode cX8_whyNoLantern 33 = .ok (.bipush 16, 2) := by decide +kernel
theorem dX8_whyNoLantern_35 : decode cX8_whyNoLantern 35 = .ok (.if_icmp .ne 7, 3) := by decide +kernel
theorem dX8_whyNoLantern_38 : decode cX8_whyNoLantern 38 = .ok (.iconst 3, 1) := by decide +kernel
theorem dX8_whyNoLantern_39 : decode cX8_whyNoLantern 39 = .ok (.goto 4, 3) := by decide +kernel
theorem dX8_whyNoLantern_42 : decode cX8_whyNoLantern 42 = .ok (.iconst 0, 1) := by decide +kernel
theorem dX8_whyNoLantern_43 : decode cX8_whyNoLantern 43 = .ok (.ireturn, 1) := by decide +kernel
theorem dX8_bringLantern_0 : decode cX8_bringLantern 0 = .ok (.bipush 86, 2) := by decide +kernel
theorem dX8_bringLantern_2 : decode cX8_bringLantern 2 = .ok (.iconst 3, 1) := by decide +kernel
theorem dX8_bringLantern_3 : decode cX8_bringLantern 3 = .ok (.aload_n 0, 1) := by decide +kernel
theorem dX8_bringLantern_4 : decode cX8_bringLantern 4 = .ok (.getfield 7, 3) := by decide +kernel
theorem dX8_bringLantern_7 : decode cX8_bringLantern 7 = .ok (.bipush 85, 2) := by decide +kernel
theorem dX8_bringLantern_9 : decode cX8_bringLantern 9 = .ok (.iaload, 1) := by decide +kernel
theorem dX8_bringLantern_10 : decode cX8_bringLantern 10 = .ok (.imul, 1) := by decide +kernel
theorem dX8_bringLantern_11 : decode cX8_bringLantern 11 = .ok (.iadd, 1) := by decide +kernel
theorem dX8_bringLantern_12 : decode cX8_bringLantern 12 = .ok (.istore 4, 2) := by decide +kernel
theorem dX8_bringLantern_14 : decode cX8_bringLantern 14 = .ok (.aload_n 0, 1) := by decide +kernel
theorem dX8_bringLantern_15 : decode cX8_bringLantern 15 = .ok (.getfield 7, 3) := by decide +kernel
theorem dX8_bringLantern_18 : decode cX8_bringLantern 18 = .ok (.iload 4, 2) := by decide +kernel
theorem dX8_bringLantern_20 : decode cX8_bringLantern 20 = .ok (.iload_n 1, 1) := by decide +kernel
theorem dX8_bringLantern_21 : decode cX8_bringLantern 21 = .ok (.iastore, 1) := by decide +kernel
theorem dX8_bringLantern_22 : decode cX8_bringLantern 22 = .ok (.aload_n 0, 1) := by decide +kernel
theorem dX8_bringLantern_23 : decode cX8_bringLantern 23 = .ok (.getfield 7, 3) := by decide +kernel
theorem dX8_bringLantern_26 : decode cX8_bringLantern 26 = .ok (.iload 4, 2) := by decide +kernel
theorem dX8_bringLantern_28 : decode cX8_bringLantern 28 = .ok (.iconst 1, 1) := by decide +kernel
theorem dX8_bringLantern_29 : decode cX8_bringLantern 29 = .ok (.iadd, 1) := by decide +kernel
theorem dX8_bringLantern_30 : decode cX8_bringLantern 30 = .ok (.iload_n 2, 1) := by decide +kernel
theorem dX8_bringLantern_31 : decode cX8_bringLantern 31 = .ok (.iastore, 1) := by decide +kernel
theorem dX8_bringLantern_32 : decode cX8_bringLantern 32 = .ok (.aload_n 0, 1) := by decide +kernel
theorem dX8_bringLantern_33 : decode cX8_bringLantern 33 = .ok (.getfield 7, 3) := by decide +kernel
theorem dX8_bringLantern_36 : decode cX8_bringLantern 36 = .ok (.iload 4, 2) := by decide +kernel
theorem dX8_bringLantern_38 : decode cX8_bringLantern 38 = .ok (.iconst 2, 1) := by decide +kernel
theorem dX8_bringLantern_39 : decode cX8_bringLantern 39 = .ok (.iadd, 1) := by decide +kernel
theorem dX8_bringLantern_40 : decode cX8_bringLantern 40 = .ok (.iload_n 3, 1) := by decide +kernel
theorem dX8_bringLantern_41 : decode cX8_bringLantern 41 = .ok (.ifCond .eq 7, 3) := by decide +kernel
theorem dX8_bringLantern_44 : decode cX8_bringLantern 44 = .ok (.iconst 1, 1) := by decide +kernel
theorem dX8_bringLantern_45 : decode cX8_bringLantern 45 = .ok (.goto 4, 3) := by decide +kernel
theorem dX8_bringLantern_48 : decode cX8_bringLantern 48 = .ok (.iconst 0, 1) := by decide +kernel
theorem dX8_bringLantern_49 : decode cX8_bringLantern 49 = .ok (.iastore, 1) := by decide +kernel
theorem dX8_bringLantern_50 : decode cX8_bringLantern 50 = .ok (.aload_n 0, 1) := by decide +kernel
theorem dX8_bringLantern_51 : decode cX8_bringLantern 51 = .ok (.getfield 7, 3) := by decide +kernel
theorem dX8_bringLantern_54 : decode cX8_bringLantern 54 = .ok (.bipush 85, 2) := by decide +kernel
theorem dX8_bringLantern_56 : decode cX8_bringLantern 56 = .ok (.dup2, 1) := by decide +kernel
theorem dX8_bringLantern_57 : decode cX8_bringLantern 57 = .ok (.iaload, 1) := by decide +kernel
theorem dX8_bringLantern_58 : decode cX8_bringLantern 58 = .ok (.iconst 1, 1) := by decide +kernel
theorem dX8_bringLantern_59 : decode cX8_bringLantern 59 = .ok (.iadd, 1) := by decide +kernel
theorem dX8_bringLantern_60 : decode cX8_bringLantern 60 = .ok (.iastore, 1) := by decide +kernel
theorem dX8_bringLantern_61 : decode cX8_bringLantern 61 = .ok (.aload_n 0, 1) := by decide +kernel
theorem dX8_bringLantern_62 : decode cX8_bringLantern 62 = .ok (.invokevirtual 111, 3) := by decide +kernel
theorem dX8_bringLantern_65 : decode cX8_bringLantern 65 = .ok (.return_, 1) := by decide +kernel
theorem dX8_hang_0 : decode cX8_hang 0 = .ok (.aload_n 0, 1) := by decide +kernel
theorem dX8_hang_1 : decode cX8_hang 1 = .ok (.aload_n 0, 1) := by decide +kernel
theorem dX8_hang_2 : decode cX8_hang 2 = .ok (.iload_n 1, 1) := by decide +kernel
theorem dX8_hang_3 : decode cX8_hang 3 = .ok (.iload_n 2, 1) := by decide +kernel
theorem dX8_hang_4 : decode cX8_hang 4 = .ok (.invokevirtual 138, 3) := by decide +kernel
theorem dX8_hang_7 : decode cX8_hang 7 = .ok (.putfield 25, 3) := by decide +kernel
theorem dX8_hang_10 : decode cX8_hang 10 = .ok (.aload_n 0, 1) := by decide +kernel
theorem dX8_hang_11 : decode cX8_hang 11 = .ok (.getfield 25, 3) := by decide +kernel
theorem dX8_hang_14 : decode cX8_hang 14 = .ok (.ifCond .le 5, 3) := by decide +kernel
theorem dX8_hang_17 : decode cX8_hang 17 = .ok (.iconst 0, 1) := by decide +kernel
theorem dX8_hang_18 : decode cX8_hang 18 = .ok (.ireturn, 1) := by decide +kernel
theorem dX8_hang_19 : decode cX8_hang 19 = .ok (.aload_n 0, 1) := by decide +kernel
theorem dX8_hang_20 : decode cX8_hang 20 = .ok (.invokevirtual 118, 3) := by decide +kernel
theorem dX8_hang_23 : decode cX8_hang 23 = .ok (.aload_n 0, 1) := by decide +kernel
theorem dX8_hang_24 : decode cX8_hang 24 = .ok (.iload_n 1, 1) := by decide +kernel
theorem dX8_hang_25 : decode cX8_hang 25 = .ok (.iload_n 2, 1) := by decide +kernel
theorem dX8_hang_26 : decode cX8_hang 26 = .ok (.iload_n 3, 1) := by decide +kernel
theorem dX8_hang_27 : decode cX8_hang 27 = .ok (.invokevirtual 141, 3) := by decide +kernel
theorem dX8_hang_30 : decode cX8_hang 30 = .ok (.aload_n 0, 1) := by decide +kernel
theorem dX8_hang_31 : decode cX8_hang 31 = .ok (.getfield 7, 3) := by decide +kernel
theorem dX8_hang_34 : decode cX8_hang 34 = .ok (.bipush 85, 2) := by decide +kernel
theorem dX8_hang_36 : decode cX8_hang 36 = .ok (.iaload, 1) := by decide +kernel
theorem dX8_hang_37 : decode cX8_hang 37 = .ok (.iconst 1, 1) := by decide +kernel
theorem dX8_hang_38 : decode cX8_hang 38 = .ok (.isub, 1) := by decide +kernel
theorem dX8_hang_39 : decode cX8_hang 39 = .ok (.ireturn, 1) := by decide +kernel
theorem dX8_isLantern_0 : decode cX8_isLantern 0 = .ok (.iload_n 1, 1) := by decide +kernel
theorem dX8_isLantern_1 : decode cX8_isLantern 1 = .ok (.iconst 0, 1) := by decide +kernel
theorem dX8_isLantern_2 : decode cX8_isLantern 2 = .ok (.aload_n 0, 1) := by decide +kernel
theorem dX8_isLantern_3 : decode cX8_isLantern 3 = .ok (.getfield 7, 3) := by decide +kernel
theorem dX8_isLantern_6 : decode cX8_isLantern 6 = .ok (.bipush 85, 2) := by decide +kernel
theorem dX8_isLantern_8 : decode cX8_isLantern 8 = .ok (.iaload, 1) := by decide +kernel
theorem dX8_isLantern_9 : decode cX8_isLantern 9 = .ok (.iconst 1, 1) := by decide +kernel
theorem dX8_isLantern_10 : decode cX8_isLantern 10 = .ok (.isub, 1) := by decide +kernel
theorem dX8_isLantern_11 : decode cX8_isLantern 11 = .ok (.invokestatic 29, 3) := by decide +kernel
theorem dX8_isLantern_14 : decode cX8_isLantern 14 = .ok (.ireturn, 1) := by decide +kernel
theorem dX8_takeDown_0 : decode cX8_takeDown 0 = .ok (.aload_n 0, 1) := by decide +kernel
theorem dX8_takeDown_1 : decode cX8_takeDown 1 = .ok (.aload_n 0, 1) := by decide +kernel
theorem dX8_takeDown_2 : decode cX8_takeDown 2 = .ok (.iload_n 1, 1) := by decide +kernel
theorem dX8_takeDown_3 : decode cX8_takeDown 3 = .ok (.invokevirtual 145, 3) := by decide +kernel
theorem dX8_takeDown_6 : decode cX8_takeDown 6 = .ok (.ifCond .eq 7, 3) := by decide +kernel
theorem dX8_takeDown_9 : decode cX8_takeDown 9 = .ok (.iconst 0, 1) := by decide +kernel
theorem dX8_takeDown_10 : decode cX8_takeDown 10 = .ok (.goto 4, 3) := by decide +kernel
theorem dX8_takeDown_13 : decode cX8_takeDown 13 = .ok (.iconst 1, 1) := by decide +kernel
theorem dX8_takeDown_14 : decode cX8_takeDown 14 = .ok (.putfield 25, 3) := by decide +kernel
theorem dX8_takeDown_17 : decode cX8_takeDown 17 = .ok (.aload_n 0, 1) := by decide +kernel
theorem dX8_takeDown_18 : decode cX8_takeDown 18 = .ok (.getfield 25, 3) := by decide +kernel
theorem dX8_takeDown_21 : decode cX8_takeDown 21 = .ok (.ifCond .le 5, 3) := by decide +kernel
theorem dX8_takeDown_24 : decode cX8_takeDown 24 = .ok (.iconst 0, 1) := by decide +kernel
theorem dX8_takeDown_25 : decode cX8_takeDown 25 = .ok (.ireturn, 1) := by decide +kernel
theorem dX8_takeDown_26 : decode cX8_takeDown 26 = .ok (.aload_n 0, 1) := by decide +kernel
theorem dX8_takeDown_27 : decode cX8_takeDown 27 = .ok (.invokevirtual 118, 3) := by decide +kernel
theorem dX8_takeDown_30 : decode cX8_takeDown 30 = .ok (.aload_n 0, 1) := by decide +kernel
theorem dX8_takeDown_31 : decode cX8_takeDown 31 = .ok (.iload_n 1, 1) := by decide +kernel
theorem dX8_takeDown_32 : decode cX8_takeDown 32 = .ok (.invokevirtual 54, 3) := by decide +kernel
theorem dX8_takeDown_35 : decode cX8_takeDown 35 = .ok (.ifCond .ne 7, 3) := by decide +kernel
theorem dX8_takeDown_38 : decode cX8_takeDown 38 = .ok (.iconst 1, 1) := by decide +kernel
theorem dX8_takeDown_39 : decode cX8_takeDown 39 = .ok (.goto 4, 3) := by decide +kernel
theorem dX8_takeDown_42 : decode cX8_takeDown 42 = .ok (.iconst 0, 1) := by decide +kernel
theorem dX8_takeDown_43 : decode cX8_takeDown 43 = .ok (.istore_n 2, 1) := by decide +kernel
theorem dX8_takeDown_44 : decode cX8_takeDown 44 = .ok (.aload_n 0, 1) := by decide +kernel
theorem dX8_takeDown_45 : decode cX8_takeDown 45 = .ok (.getfield 7, 3) := by decide +kernel
theorem dX8_takeDown_48 : decode cX8_takeDown 48 = .ok (.bipush 85, 2) := by decide +kernel
theorem dX8_takeDown_50 : decode cX8_takeDown 50 = .ok (.dup2, 1) := by decide +kernel
theorem dX8_takeDown_51 : decode cX8_takeDown 51 = .ok (.iaload, 1) := by decide +kernel
theorem dX8_takeDown_52 : decode cX8_takeDown 52 = .ok (.iconst 1, 1) := by decide +kernel
theorem dX8_takeDown_53 : decode cX8_takeDown 53 = .ok (.isub, 1) := by decide +kernel
theorem dX8_takeDown_54 : decode cX8_takeDown 54 = .ok (.iastore, 1) := by decide +kernel
theorem dX8_takeDown_55 : decode cX8_takeDown 55 = .ok (.bipush 86, 2) := by decide +kernel
theorem dX8_takeDown_57 : decode cX8_takeDown 57 = .ok (.iconst 3, 1) := by decide +kernel
theorem dX8_takeDown_58 : decode cX8_takeDown 58 = .ok (.iload_n 1, 1) := by decide +kernel
theorem dX8_takeDown_59 : decode cX8_takeDown 59 = .ok (.imul, 1) := by decide +kernel
theorem dX8_takeDown_60 : decode cX8_takeDown 60 = .ok (.iadd, 1) := by decide +kernel
theorem dX8_takeDown_61 : decode cX8_takeDown 61 = .ok (.istore_n 3, 1) := by decide +kernel
theorem dX8_takeDown_62 : decode cX8_takeDown 62 = .ok (.iload_n 3, 1) := by decide +kernel
theorem dX8_takeDown_63 : decode cX8_takeDown 63 = .ok (.bipush 86, 2) := by decide +kernel
theorem dX8_takeDown_65 : decode cX8_takeDown 65 = .ok (.iconst 3, 1) := by decide +kernel
theorem dX8_takeDown_66 : decode cX8_takeDown 66 = .ok (.aload_n 0, 1) := by decide +kernel
theorem dX8_takeDown_67 : decode cX8_takeDown 67 = .ok (.getfield 7, 3) := by decide +kernel
theorem dX8_takeDown_70 : decode cX8_takeDown 70 = .ok (.bipush 85, 2) := by decide +kernel
theorem dX8_takeDown_72 : decode cX8_takeDown 72 = .ok (.iaload, 1) := by decide +kernel
theorem dX8_takeDown_73 : decode cX8_takeDown 73 = .ok (.imul, 1) := by decide +kernel
theorem dX8_takeDown_74 : decode cX8_takeDown 74 = .ok (.iadd, 1) := by decide +kernel
theorem dX8_takeDown_75 : decode cX8_takeDown 75 = .ok (.if_icmp .ge 23, 3) := by decide +kernel
theorem dX8_takeDown_78 : decode cX8_takeDown 78 = .ok (.aload_n 0, 1) := by decide +kernel
theorem dX8_takeDown_79 : decode cX8_takeDown 79 = .ok (.getfield 7, 3) := by decide +kernel
theorem dX8_takeDown_82 : decode cX8_takeDown 82 = .ok (.iload_n 3, 1) := by decide +kernel
theorem dX8_takeDown_83 : decode cX8_takeDown 83 = .ok (.aload_n 0, 1) := by decide +kernel
theorem dX8_takeDown_84 : decode cX8_takeDown 84 = .ok (.getfield 7, 3) := by decide +kernel
theorem dX8_takeDown_87 : decode cX8_takeDown 87 = .ok (.iload_n 3, 1) := by decide +kernel
theorem dX8_takeDown_88 : decode cX8_takeDown 88 = .ok (.iconst 3, 1) := by decide +kernel
theorem dX8_takeDown_89 : decode cX8_takeDown 89 = .ok (.iadd, 1) := by decide +kernel
theorem dX8_takeDown_90 : decode cX8_takeDown 90 = .ok (.iaload, 1) := by decide +kernel
theorem dX8_takeDown_91 : decode cX8_takeDown 91 = .ok (.iastore, 1) := by decide +kernel
theorem dX8_takeDown_92 : decode cX8_takeDown 92 = .ok (.iinc 3 1, 3) := by decide +kernel
theorem dX8_takeDown_95 : decode cX8_takeDown 95 = .ok (.goto (-33), 3) := by decide +kernel
theorem dX8_takeDown_98 : decode cX8_takeDown 98 = .ok (.aload_n 0, 1) := by decide +kernel
theorem dX8_takeDown_99 : decode cX8_takeDown 99 = .ok (.invokevirtual 111, 3) := by decide +kernel
theorem dX8_takeDown_102 : decode cX8_takeDown 102 = .ok (.iload_n 2, 1) := by decide +kernel
theorem dX8_takeDown_103 : decode cX8_takeDown 103 = .ok (.ireturn, 1) := by decide +kernel
theorem dX8_whyNoFault_0 : decode cX8_whyNoFault 0 = .ok (.aload_n 0, 1) := by decide +kernel
theorem dX8_whyNoFault_1 : decode cX8_whyNoFault 1 = .ok (.iload_n 1, 1) := by decide +kernel
theorem dX8_whyNoFault_2 : decode cX8_whyNoFault 2 = .ok (.invokevirtual 105, 3) := by decide +kernel
theorem dX8_whyNoFault_5 : decode cX8_whyNoFault 5 = .ok (.ifCond .eq 10, 3) := by decide +kernel
theorem dX8_whyNoFault_8 : decode cX8_whyNoFault 8 = .ok (.iload_n 2, 1) := by decide +kernel
theorem dX8_whyNoFault_9 : decode cX8_whyNoFault 9 = .ok (.invokestatic 135, 3) := by decide +kernel
theorem dX8_whyNoFault_12 : decode cX8_whyNoFault 12 = .ok (.ifCond .ne 7, 3) := by decide +kernel
theorem dX8_whyNoFault_15 : decode cX8_whyNoFault 15 = .ok (.iconst 1, 1) := by decide +kernel
theorem dX8_whyNoFault_16 : decode cX8_whyNoFault 16 = .ok (.goto 35, 3) := by decide +kernel
theorem dX8_whyNoFault_19 : decode cX8_whyNoFault 19 = .ok (.iload_n 3, 1) := by decide +kernel
theorem dX8_whyNoFault_20 : decode cX8_whyNoFault 20 = .ok (.iconst 1, 1) := by decide +kernel
theorem dX8_whyNoFault_21 : decode cX8_whyNoFault 21 = .ok (.bipush 30, 2) := by decide +kernel
theorem dX8_whyNoFault_23 : decode cX8_whyNoFault 23 = .ok (.invokestatic 29, 3) := by decide +kernel
theorem dX8_whyNoFault_26 : decode cX8_whyNoFault 26 = .ok (.ifCond .ne 7, 3) := by decide +kernel
theorem dX8_whyNoFault_29 : decode cX8_whyNoFault 29 = .ok (.iconst 2, 1) := by decide +kernel
theorem dX8_whyNoFault_30 : decode cX8_whyNoFault 30 = .ok (.goto 21, 3) := by decide +kernel
theorem dX8_whyNoFault_33 : decode cX8_whyNoFault 33 = .ok (.aload_n 0, 1) := by decide +kernel
theorem dX8_whyNoFault_34 : decode cX8_whyNoFault 34 = .ok (.getfield 7, 3) := by decide +kernel
theorem dX8_whyNoFault_37 : decode cX8_whyNoFault 37 = .ok (.sipush 134, 3) := by decide +kernel
theorem dX8_whyNoFault_40 : decode cX8_whyNoFault 40 = .ok (.iaload, 1) := by decide +kernel
theorem dX8_whyNoFault_41 : decode cX8_whyNoFault 41 = .ok (.bipush 8, 2) := by decide +kernel
theorem dX8_whyNoFault_43 : decode cX8_whyNoFault 43 = .ok (.if_icmp .ne 7, 3) := by decide +kernel
theorem dX8_whyNoFault_46 : decode cX8_whyNoFault 46 = .ok (.iconst 3, 1) := by decide +kernel
theorem dX8_whyNoFault_47 : decode cX8_whyNoFault 47 = .ok (.goto 4, 3) := by decide +kernel
theorem dX8_whyNoFault_50 : decode cX8_whyNoFault 50 = .ok (.iconst 0, 1) := by decide +kernel
theorem dX8_whyNoFault_51 : decode cX8_whyNoFault 51 = .ok (.ireturn, 1) := by decide +kernel
theorem dX8_bringFault_0 : decode cX8_bringFault 0 = .ok (.sipush 135, 3) := by decide +kernel
theorem dX8_bringFault_3 : decode cX8_bringFault 3 = .ok (.iconst 3, 1) := by decide +kernel
theorem dX8_bringFault_4 : decode cX8_bringFault 4 = .ok (.aload_n 0, 1) := by decide +kernel
theorem dX8_bringFault_5 : decode cX8_bringFault 5 = .ok (.getfield 7, 3) := by decide +kernel
theorem dX8_bringFault_8 : decode cX8_bringFault 8 = .ok (.sipush 134, 3) := by decide +kernel
theorem dX8_bringFault_11 : decode cX8_bringFault 11 = .ok (.iaload, 1) := by decide +kernel
theorem dX8_bringFault_12 : decode cX8_bringFault 12 = .ok (.imul, 1) := by decide +kernel
theorem dX8_bringFault_13 : decode cX8_bringFault 13 = .ok (.iadd, 1) := by decide +kernel
theorem dX8_bringFault_14 : decode cX8_bringFault 14 = .ok (.istore 4, 2) := by decide +kernel
theorem dX8_bringFault_16 : decode cX8_bringFault 16 = .ok (.aload_n 0, 1) := by decide +kernel
theorem dX8_bringFault_17 : decode cX8_bringFault 17 = .ok (.getfield 7, 3) := by decide +kernel
theorem dX8_bringFault_20 : decode cX8_bringFault 20 = .ok (.iload 4, 2) := by decide +kernel
theorem dX8_bringFault_22 : decode cX8_bringFault 22 = .ok (.iload_n 1, 1) := by decide +kernel
theorem dX8_bringFault_23 : decode cX8_bringFault 23 = .ok (.iastore, 1) := by decide +kernel
theorem dX8_bringFault_24 : decode cX8_bringFault 24 = .ok (.aload_n 0, 1) := by decide +kernel
theorem dX8_bringFault_25 : decode cX8_bringFault 25 = .ok (.getfield 7, 3) := by decide +kernel
theorem dX8_bringFault_28 : decode cX8_bringFault 28 = .ok (.iload 4, 2) := by decide +kernel
theorem dX8_bringFault_30 : decode cX8_bringFault 30 = .ok (.iconst 1, 1) := by decide +kernel
theorem dX8_bringFault_31 : decode cX8_bringFault 31 = .ok (.iadd, 1) := by decide +kernel
theorem dX8_bringFault_32 : decode cX8_bringFault 32 = .ok (.iload_n 2, 1) := by decide +kernel
theorem dX8_bringFault_33 : decode cX8_bringFault 33 = .ok (.iastore, 1) := by decide +kernel
theorem dX8_bringFault_34 : decode cX8_bringFault 34 = .ok (.aload_n 0, 1) := by decide +kernel
theorem dX8_bringFault_35 : decode cX8_bringFault 35 = .ok (.getfield 7, 3) := by decide +kernel
theorem dX8_bringFault_38 : decode cX8_bringFault 38 = .ok (.iload 4, 2) := by decide +kernel
theorem dX8_bringFault_40 : decode cX8_bringFault 40 = .ok (.iconst 2, 1) := by decide +kernel
theorem dX8_bringFault_41 : decode cX8_bringFault 41 = .ok (.iadd, 1) := by decide +kernel
theorem dX8_bringFault_42 : decode cX8_bringFault 42 = .ok (.iload_n 3, 1) := by decide +kernel
theorem dX8_bringFault_43 : decode cX8_bringFault 43 = .ok (.iastore, 1) := by decide +kernel
theorem dX8_bringFault_44 : decode cX8_bringFault 44 = .ok (.aload_n 0, 1) := by decide +kernel
theorem dX8_bringFault_45 : decode cX8_bringFault 45 = .ok (.getfield 7, 3) := by decide +kernel
theorem dX8_bringFault_48 : decode cX8_bringFault 48 = .ok (.sipush 134, 3) := by decide +kernel
theorem dX8_bringFault_51 : decode cX8_bringFault 51 = .ok (.dup2, 1) := by decide +kernel
theorem dX8_bringFault_52 : decode cX8_bringFault 52 = .ok (.iaload, 1) := by decide +kernel
theorem dX8_bringFault_53 : decode cX8_bringFault 53 = .ok (.iconst 1, 1) := by decide +kernel
theorem dX8_bringFault_54 : decode cX8_bringFault 54 = .ok (.iadd, 1) := by decide +kernel
theorem dX8_bringFault_55 : decode cX8_bringFault 55 = .ok (.iastore, 1) := by decide +kernel
theorem dX8_bringFault_56 : decode cX8_bringFault 56 = .ok (.aload_n 0, 1) := by decide +kernel
theorem dX8_bringFault_57 : decode cX8_bringFault 57 = .ok (.invokevirtual 111, 3) := by decide +kernel
theorem dX8_bringFault_60 : decode cX8_bringFault 60 = .ok (.return_, 1) := by decide +kernel
theorem dX8_fault_0 : decode cX8_fault 0 = .ok (.aload_n 0, 1) := by decide +kernel
theorem dX8_fault_1 : decode cX8_fault 1 = .ok (.aload_n 0, 1) := by decide +kernel
theorem dX8_fault_2 : decode cX8_fault 2 = .ok (.iload_n 1, 1) := by decide +kernel
theorem dX8_fault_3 : decode cX8_fault 3 = .ok (.iload_n 2, 1) := by decide +kernel
theorem dX8_fault_4 : decode cX8_fault 4 = .ok (.iload_n 3, 1) := by decide +kernel
theorem dX8_fault_5 : decode cX8_fault 5 = .ok (.invokevirtual 148, 3) := by decide +kernel
theorem dX8_fault_8 : decode cX8_fault 8 = .ok (.putfield 25, 3) := by decide +kernel
theorem dX8_fault_11 : decode cX8_fault 11 = .ok (.aload_n 0, 1) := by decide +kernel
theorem dX8_fault_12 : decode cX8_fault 12 = .ok (.getfield 25, 3) := by decide +kernel
theorem dX8_fault_15 : decode cX8_fault 15 = .ok (.ifCond .le 5, 3) := by decide +kernel
theorem dX8_fault_18 : decode cX8_fault 18 = .ok (.iconst 0, 1) := by decide +kernel
theorem dX8_fault_19 : decode cX8_fault 19 = .ok (.ireturn, 1) := by decide +kernel
theorem dX8_fault_20 : decode cX8_fault 20 = .ok (.aload_n 0, 1) := by decide +kernel
theorem dX8_fault_21 : decode cX8_fault 21 = .ok (.invokevirtual 118, 3) := by decide +kernel
theorem dX8_fault_24 : decode cX8_fault 24 = .ok (.aload_n 0, 1) := by decide +kernel
theorem dX8_fault_25 : decode cX8_fault 25 = .ok (.iload_n 1, 1) := by decide +kernel
theorem dX8_fault_26 : decode cX8_fault 26 = .ok (.iload_n 2, 1) := by decide +kernel
theorem dX8_fault_27 : decode cX8_fault 27 = .ok (.iload_n 3, 1) := by decide +kernel
theorem dX8_fault_28 : decode cX8_fault 28 = .ok (.invokevirtual 151, 3) := by decide +kernel
theorem dX8_fault_31 : decode cX8_fault 31 = .ok (.aload_n 0, 1) := by decide +kernel
theorem dX8_fault_32 : decode cX8_fault 32 = .ok (.getfield 93, 3) := by decide +kernel
theorem dX8_fault_35 : decode cX8_fault 35 = .ok (.ireturn, 1) := by decide +kernel
theorem dX8_isFault_0 : decode cX8_isFault 0 = .ok (.iload_n 1, 1) := by decide +kernel
theorem dX8_isFault_1 : decode cX8_isFault 1 = .ok (.iconst 0, 1) := by decide +kernel
theorem dX8_isFault_2 : decode cX8_isFault 2 = .ok (.aload_n 0, 1) := by decide +kernel
theorem dX8_isFault_3 : decode cX8_isFault 3 = .ok (.getfield 7, 3) := by decide +kernel
theorem dX8_isFault_6 : decode cX8_isFault 6 = .ok (.sipush 134, 3) := by decide +kernel
theorem dX8_isFault_9 : decode cX8_isFault 9 = .ok (.iaload, 1) := by decide +kernel
theorem dX8_isFault_10 : decode cX8_isFault 10 = .ok (.iconst 1, 1) := by decide +kernel
theorem dX8_isFault_11 : decode cX8_isFault 11 = .ok (.isub, 1) := by decide +kernel
theorem dX8_isFault_12 : decode cX8_isFault 12 = .ok (.invokestatic 29, 3) := by decide +kernel
theorem dX8_isFault_15 : decode cX8_isFault 15 = .ok (.ireturn, 1) := by decide +kernel
theorem dX8_mend_0 : decode cX8_mend 0 = .ok (.aload_n 0, 1) := by decide +kernel
theorem dX8_mend_1 : decode cX8_mend 1 = .ok (.aload_n 0, 1) := by decide +kernel
theorem dX8_mend_2 : decode cX8_mend 2 = .ok (.iload_n 1, 1) := by decide +kernel
theorem dX8_mend_3 : decode cX8_mend 3 = .ok (.invokevirtual 155, 3) := by decide +kernel
theorem dX8_mend_6 : decode cX8_mend 6 = .ok (.ifCond .eq 7, 3) := by decide +kernel
theorem dX8_mend_9 : decode cX8_mend 9 = .ok (.iconst 0, 1) := by decide +kernel
theorem dX8_mend_10 : decode cX8_mend 10 = .ok (.goto 4, 3) := by decide +kernel
theorem dX8_mend_13 : decode cX8_mend 13 = .ok (.iconst 1, 1) := by decide +kernel
theorem dX8_mend_14 : decode cX8_mend 14 = .ok (.putfield 25, 3) := by decide +kernel
theorem dX8_mend_17 : decode cX8_mend 17 = .ok (.aload_n 0, 1) := by decide +kernel
theorem dX8_mend_18 : decode cX8_mend 18 = .ok (.getfield 25, 3) := by decide +kernel
theorem dX8_mend_21 : decode cX8_mend 21 = .ok (.ifCond .le 5, 3) := by decide +kernel
theorem dX8_mend_24 : decode cX8_mend 24 = .ok (.iconst 0, 1) := by decide +kernel
theorem dX8_mend_25 : decode cX8_mend 25 = .ok (.ireturn, 1) := by decide +kernel
theorem dX8_mend_26 : decode cX8_mend 26 = .ok (.aload_n 0, 1) := by decide +kernel
theorem dX8_mend_27 : decode cX8_mend 27 = .ok (.invokevirtual 118, 3) := by decide +kernel
theorem dX8_mend_30 : decode cX8_mend 30 = .ok (.aload_n 0, 1) := by decide +kernel
theorem dX8_mend_31 : decode cX8_mend 31 = .ok (.iload_n 1, 1) := by decide +kernel
theorem dX8_mend_32 : decode cX8_mend 32 = .ok (.iconst 2, 1) := by decide +kernel
theorem dX8_mend_33 : decode cX8_mend 33 = .ok (.invokevirtual 58, 3) := by decide +kernel
theorem dX8_mend_36 : decode cX8_mend 36 = .ok (.istore_n 2, 1) := by decide +kernel
theorem dX8_mend_37 : decode cX8_mend 37 = .ok (.aload_n 0, 1) := by decide +kernel
theorem dX8_mend_38 : decode cX8_mend 38 = .ok (.getfield 7, 3) := by decide +kernel
theorem dX8_mend_41 : decode cX8_mend 41 = .ok (.sipush 134, 3) := by decide +kernel
theorem dX8_mend_44 : decode cX8_mend 44 = .ok (.dup2, 1) := by decide +kernel
theorem dX8_mend_45 : decode cX8_mend 45 = .ok (.iaload, 1) := by decide +kernel
theorem dX8_mend_46 : decode cX8_mend 46 = .ok (.iconst 1, 1) := by decide +kernel
theorem dX8_mend_47 : decode cX8_mend 47 = .ok (.isub, 1) := by decide +kernel
theorem dX8_mend_48 : decode cX8_mend 48 = .ok (.iastore, 1) := by decide +kernel
theorem dX8_mend_49 : decode cX8_mend 49 = .ok (.sipush 135, 3) := by decide +kernel
theorem dX8_mend_52 : decode cX8_mend 52 = .ok (.iconst 3, 1) := by decide +kernel
theorem dX8_mend_53 : decode cX8_mend 53 = .ok (.iload_n 1, 1) := by decide +kernel
theorem dX8_mend_54 : decode cX8_mend 54 = .ok (.imul, 1) := by decide +kernel
theorem dX8_mend_55 : decode cX8_mend 55 = .ok (.iadd, 1) := by decide +kernel
theorem dX8_mend_56 : decode cX8_mend 56 = .ok (.istore_n 3, 1) := by decide +kernel
theorem dX8_mend_57 : decode cX8_mend 57 = .ok (.iload_n 3, 1) := by decide +kernel
theorem dX8_mend_58 : decode cX8_mend 58 = .ok (.sipush 135, 3) := by decide +kernel
theorem dX8_mend_61 : decode cX8_mend 61 = .ok (.iconst 3, 1) := by decide +kernel
theorem dX8_mend_62 : decode cX8_mend 62 = .ok (.aload_n 0, 1) := by decide +kernel
theorem dX8_mend_63 : decode cX8_mend 63 = .ok (.getfield 7, 3) := by decide +kernel
theorem dX8_mend_66 : decode cX8_mend 66 = .ok (.sipush 134, 3) := by decide +kernel
theorem dX8_mend_69 : decode cX8_mend 69 = .ok (.iaload, 1) := by decide +kernel
theorem dX8_mend_70 : decode cX8_mend 70 = .ok (.imul, 1) := by decide +kernel
theorem dX8_mend_71 : decode cX8_mend 71 = .ok (.iadd, 1) := by decide +kernel
theorem dX8_mend_72 : decode cX8_mend 72 = .ok (.if_icmp .ge 23, 3) := by decide +kernel
theorem dX8_mend_75 : decode cX8_mend 75 = .ok (.aload_n 0, 1) := by decide +kernel
theorem dX8_mend_76 : decode cX8_mend 76 = .ok (.getfield 7, 3) := by decide +kernel
theorem dX8_mend_79 : decode cX8_mend 79 = .ok (.iload_n 3, 1) := by decide +kernel
theorem dX8_mend_80 : decode cX8_mend 80 = .ok (.aload_n 0, 1) := by decide +kernel
theorem dX8_mend_81 : decode cX8_mend 81 = .ok (.getfield 7, 3) := by decide +kernel
theorem dX8_mend_84 : decode cX8_mend 84 = .ok (.iload_n 3, 1) := by decide +kernel
theorem dX8_mend_85 : decode cX8_mend 85 = .ok (.iconst 3, 1) := by decide +kernel
theorem dX8_mend_86 : decode cX8_mend 86 = .ok (.iadd, 1) := by decide +kernel
theorem dX8_mend_87 : decode cX8_mend 87 = .ok (.iaload, 1) := by decide +kernel
theorem dX8_mend_88 : decode cX8_mend 88 = .ok (.iastore, 1) := by decide +kernel
theorem dX8_mend_89 : decode cX8_mend 89 = .ok (.iinc 3 1, 3) := by decide +kernel
theorem dX8_mend_92 : decode cX8_mend 92 = .ok (.goto (-35), 3) := by decide +kernel
theorem dX8_mend_95 : decode cX8_mend 95 = .ok (.aload_n 0, 1) := by decide +kernel
theorem dX8_mend_96 : decode cX8_mend 96 = .ok (.invokevirtual 111, 3) := by decide +kernel
theorem dX8_mend_99 : decode cX8_mend 99 = .ok (.iload_n 2, 1) := by decide +kernel
theorem dX8_mend_100 : decode cX8_mend 100 = .ok (.ireturn, 1) := by decide +kernel
theorem dX8_burn_0 : decode cX8_burn 0 = .ok (.aload_n 0, 1) := by decide +kernel
theorem dX8_burn_1 : decode cX8_burn 1 = .ok (.iload_n 1, 1) := by decide +kernel
theorem dX8_burn_2 : decode cX8_burn 2 = .ok (.iconst 1, 1) := by decide +kernel
theorem dX8_burn_3 : decode cX8_burn 3 = .ok (.sipush 1000, 3) := by decide +kernel
theorem dX8_burn_6 : decode cX8_burn 6 = .ok (.invokestatic 29, 3) := by decide +kernel
theorem dX8_burn_9 : decode cX8_burn 9 = .ok (.ifCond .ne 7, 3) := by decide +kernel
theorem dX8_burn_12 : decode cX8_burn 12 = .ok (.iconst 1, 1) := by decide +kernel
theorem dX8_burn_13 : decode cX8_burn 13 = .ok (.goto 23, 3) := by decide +kernel
theorem dX8_burn_16 : decode cX8_burn 16 = .ok (.aload_n 0, 1) := by decide +kernel
theorem dX8_burn_17 : decode cX8_burn 17 = .ok (.getfield 7, 3) := by decide +kernel
theorem dX8_burn_20 : decode cX8_burn 20 = .ok (.sipush 164, 3) := by decide +kernel
theorem dX8_burn_23 : decode cX8_burn 23 = .ok (.iaload, 1) := by decide +kernel
theorem dX8_burn_24 : decode cX8_burn 24 = .ok (.iload_n 1, 1) := by decide +kernel
theorem dX8_burn_25 : decode cX8_burn 25 = .ok (.iadd, 1) := by decide +kernel
theorem dX8_burn_26 : decode cX8_burn 26 = .ok (.ldc 158, 2) := by decide +kernel
theorem dX8_burn_28 : decode cX8_burn 28 = .ok (.if_icmp .le 7, 3) := by decide +kernel
theorem dX8_burn_31 : decode cX8_burn 31 = .ok (.iconst 2, 1) := by decide +kernel
theorem dX8_burn_32 : decode cX8_burn 32 = .ok (.goto 4, 3) := by decide +kernel
theorem dX8_burn_35 : decode cX8_burn 35 = .ok (.iconst 0, 1) := by decide +kernel
theorem dX8_burn_36 : decode cX8_burn 36 = .ok (.putfield 25, 3) := by decide +kernel
theorem dX8_burn_39 : decode cX8_burn 39 = .ok (.aload_n 0, 1) := by decide +kernel
theorem dX8_burn_40 : decode cX8_burn 40 = .ok (.getfield 25, 3) := by decide +kernel
theorem dX8_burn_43 : decode cX8_burn 43 = .ok (.ifCond .le 5, 3) := by decide +kernel
theorem dX8_burn_46 : decode cX8_burn 46 = .ok (.iconst 0, 1) := by decide +kernel
theorem dX8_burn_47 : decode cX8_burn 47 = .ok (.ireturn, 1) := by decide +kernel
theorem dX8_burn_48 : decode cX8_burn 48 = .ok (.aload_n 0, 1) := by decide +kernel
theorem dX8_burn_49 : decode cX8_burn 49 = .ok (.invokevirtual 118, 3) := by decide +kernel
theorem dX8_burn_52 : decode cX8_burn 52 = .ok (.iload_n 1, 1) := by decide +kernel
theorem dX8_burn_53 : decode cX8_burn 53 = .ok (.aload_n 0, 1) := by decide +kernel
theorem dX8_burn_54 : decode cX8_burn 54 = .ok (.invokevirtual 159, 3) := by decide +kernel
theorem dX8_burn_57 : decode cX8_burn 57 = .ok (.imul, 1) := by decide +kernel
theorem dX8_burn_58 : decode cX8_burn 58 = .ok (.istore_n 2, 1) := by decide +kernel
theorem dX8_burn_59 : decode cX8_burn 59 = .ok (.aload_n 0, 1) := by decide +kernel
theorem dX8_burn_60 : decode cX8_burn 60 = .ok (.getfield 7, 3) := by decide +kernel
theorem dX8_burn_63 : decode cX8_burn 63 = .ok (.sipush 164, 3) := by decide +kernel
theorem dX8_burn_66 : decode cX8_burn 66 = .ok (.dup2, 1) := by decide +kernel
theorem dX8_burn_67 : decode cX8_burn 67 = .ok (.iaload, 1) := by decide +kernel
theorem dX8_burn_68 : decode cX8_burn 68 = .ok (.iload_n 1, 1) := by decide +kernel
theorem dX8_burn_69 : decode cX8_burn 69 = .ok (.iadd, 1) := by decide +kernel
theorem dX8_burn_70 : decode cX8_burn 70 = .ok (.iastore, 1) := by decide +kernel
theorem dX8_burn_71 : decode cX8_burn 71 = .ok (.aload_n 0, 1) := by decide +kernel
theorem dX8_burn_72 : decode cX8_burn 72 = .ok (.getfield 7, 3) := by decide +kernel
theorem dX8_burn_75 : decode cX8_burn 75 = .ok (.sipush 165, 3) := by decide +kernel
theorem dX8_burn_78 : decode cX8_burn 78 = .ok (.dup2, 1) := by decide +kernel
theorem dX8_burn_79 : decode cX8_burn 79 = .ok (.iaload, 1) := by decide +kernel
theorem dX8_burn_80 : decode cX8_burn 80 = .ok (.iload_n 2, 1) := by decide +kernel
theorem dX8_burn_81 : decode cX8_burn 81 = .ok (.iadd, 1) := by decide +kernel
theorem dX8_burn_82 : decode cX8_burn 82 = .ok (.iastore, 1) := by decide +kernel
theorem dX8_burn_83 : decode cX8_burn 83 = .ok (.aload_n 0, 1) := by decide +kernel
theorem dX8_burn_84 : decode cX8_burn 84 = .ok (.getfield 7, 3) := by decide +kernel
theorem dX8_burn_87 : decode cX8_burn 87 = .ok (.sipush 166, 3) := by decide +kernel
theorem dX8_burn_90 : decode cX8_burn 90 = .ok (.dup2, 1) := by decide +kernel
theorem dX8_burn_91 : decode cX8_burn 91 = .ok (.iaload, 1) := by decide +kernel
theorem dX8_burn_92 : decode cX8_burn 92 = .ok (.iload_n 1, 1) := by decide +kernel
theorem dX8_burn_93 : decode cX8_burn 93 = .ok (.aload_n 0, 1) := by decide +kernel
theorem dX8_burn_94 : decode cX8_burn 94 = .ok (.invokevirtual 73, 3) := by decide +kernel
theorem dX8_burn_97 : decode cX8_burn 97 = .ok (.imul, 1) := by decide +kernel
theorem dX8_burn_98 : decode cX8_burn 98 = .ok (.iadd, 1) := by decide +kernel
theorem dX8_burn_99 : decode cX8_burn 99 = .ok (.iastore, 1) := by decide +kernel
theorem dX8_burn_100 : decode cX8_burn 100 = .ok (.iload_n 2, 1) := by decide +kernel
theorem dX8_burn_101 : decode cX8_burn 101 = .ok (.ireturn, 1) := by decide +kernel
theorem dX8_append_0 : decode cX8_append 0 = .ok (.aload_n 0, 1) := by decide +kernel
theorem dX8_append_1 : decode cX8_append 1 = .ok (.iload_n 1, 1) := by decide +kernel
theorem dX8_append_2 : decode cX8_append 2 = .ok (.bipush 33, 2) := by decide +kernel
theorem dX8_append_4 : decode cX8_append 4 = .ok (.bipush 126, 2) := by decide +kernel
theorem dX8_append_6 : decode cX8_append 6 = .ok (.invokestatic 29, 3) := by decide +kernel
theorem dX8_append_9 : decode cX8_append 9 = .ok (.ifCond .ne 7, 3) := by decide +kernel
theorem dX8_append_12 : decode cX8_append 12 = .ok (.iconst 1, 1) := by decide +kernel
theorem dX8_append_13 : decode cX8_append 13 = .ok (.goto 17, 3) := by decide +kernel
theorem dX8_append_16 : decode cX8_append 16 = .ok (.aload_n 0, 1) := by decide +kernel
theorem dX8_append_17 : decode cX8_append 17 = .ok (.getfield 162, 3) := by decide +kernel
theorem dX8_append_20 : decode cX8_append 20 = .ok (.bipush 60, 2) := by decide +kernel
theorem dX8_append_22 : decode cX8_append 22 = .ok (.if_icmp .ne 7, 3) := by decide +kernel
theorem dX8_append_25 : decode cX8_append 25 = .ok (.iconst 2, 1) := by decide +kernel
theorem dX8_append_26 : decode cX8_append 26 = .ok (.goto 4, 3) := by decide +kernel
theorem dX8_append_29 : decode cX8_append 29 = .ok (.iconst 0, 1) := by decide +kernel
theorem dX8_append_30 : decode cX8_append 30 = .ok (.putfield 25, 3) := by decide +kernel
theorem dX8_append_33 : decode cX8_append 33 = .ok (.aload_n 0, 1) := by decide +kernel
theorem dX8_append_34 : decode cX8_append 34 = .ok (.getfield 25, 3) := by decide +kernel
theorem dX8_append_37 : decode cX8_append 37 = .ok (.ifCond .le 5, 3) := by decide +kernel
theorem dX8_append_40 : decode cX8_append 40 = .ok (.iconst 0, 1) := by decide +kernel
theorem dX8_append_41 : decode cX8_append 41 = .ok (.ireturn, 1) := by decide +kernel
theorem dX8_append_42 : decode cX8_append 42 = .ok (.aload_n 0, 1) := by decide +kernel
theorem dX8_append_43 : decode cX8_append 43 = .ok (.getfield 16, 3) := by decide +kernel
theorem dX8_append_46 : decode cX8_append 46 = .ok (.aload_n 0, 1) := by decide +kernel
theorem dX8_append_47 : decode cX8_append 47 = .ok (.getfield 162, 3) := by decide +kernel
theorem dX8_append_50 : decode cX8_append 50 = .ok (.iload_n 1, 1) := by decide +kernel
theorem dX8_append_51 : decode cX8_append 51 = .ok (.iastore, 1) := by decide +kernel
theorem dX8_append_52 : decode cX8_append 52 = .ok (.aload_n 0, 1) := by decide +kernel
theorem dX8_append_53 : decode cX8_append 53 = .ok (.dup, 1) := by decide +kernel
theorem dX8_append_54 : decode cX8_append 54 = .ok (.getfield 162, 3) := by decide +kernel
theorem dX8_append_57 : decode cX8_append 57 = .ok (.iconst 1, 1) := by decide +kernel
theorem dX8_append_58 : decode cX8_append 58 = .ok (.iadd, 1) := by decide +kernel
theorem dX8_append_59 : decode cX8_append 59 = .ok (.putfield 162, 3) := by decide +kernel
theorem dX8_append_62 : decode cX8_append 62 = .ok (.aload_n 0, 1) := by decide +kernel
theorem dX8_append_63 : decode cX8_append 63 = .ok (.getfield 162, 3) := by decide +kernel
theorem dX8_append_66 : decode cX8_append 66 = .ok (.ireturn, 1) := by decide +kernel
theorem dX8_clearBuffer_0 : decode cX8_clearBuffer 0 = .ok (.aload_n 0, 1) := by decide +kernel
theorem dX8_clearBuffer_1 : decode cX8_clearBuffer 1 = .ok (.iconst 0, 1) := by decide +kernel
theorem dX8_clearBuffer_2 : decode cX8_clearBuffer 2 = .ok (.putfield 25, 3) := by decide +kernel
theorem dX8_clearBuffer_5 : decode cX8_clearBuffer 5 = .ok (.aload_n 0, 1) := by decide +kernel
theorem dX8_clearBuffer_6 : decode cX8_clearBuffer 6 = .ok (.getfield 162, 3) := by decide +kernel
theorem dX8_clearBuffer_9 : decode cX8_clearBuffer 9 = .ok (.istore_n 1, 1) := by decide +kernel
theorem dX8_clearBuffer_10 : decode cX8_clearBuffer 10 = .ok (.aload_n 0, 1) := by decide +kernel
theorem dX8_clearBuffer_11 : decode cX8_clearBuffer 11 = .ok (.iconst 0, 1) := by decide +kernel
theorem dX8_clearBuffer_12 : decode cX8_clearBuffer 12 = .ok (.putfield 162, 3) := by decide +kernel
theorem dX8_clearBuffer_15 : decode cX8_clearBuffer 15 = .ok (.iload_n 1, 1) := by decide +kernel
theorem dX8_clearBuffer_16 : decode cX8_clearBuffer 16 = .ok (.ireturn, 1) := by decide +kernel
theorem dX8_least_0 : decode cX8_least 0 = .ok (.aload_n 0, 1) := by decide +kernel
theorem dX8_least_1 : decode cX8_least 1 = .ok (.getfield 165, 3) := by decide +kernel
theorem dX8_least_4 : decode cX8_least 4 = .ok (.ifCond .eq 20, 3) := by decide +kernel
theorem dX8_least_7 : decode cX8_least 7 = .ok (.aload_n 0, 1) := by decide +kernel
theorem dX8_least_8 : decode cX8_least 8 = .ok (.getfield 168, 3) := by decide +kernel
theorem dX8_least_11 : decode cX8_least 11 = .ok (.bipush 35, 2) := by decide +kernel
theorem dX8_least_13 : decode cX8_least 13 = .ok (.if_icmp .ne 15, 3) := by decide +kernel
theorem dX8_least_16 : decode cX8_least 16 = .ok (.aload_n 0, 1) := by decide +kernel
theorem dX8_least_17 : decode cX8_least 17 = .ok (.getfield 165, 3) := by decide +kernel
theorem dX8_least_20 : decode cX8_least 20 = .ok (.iconst 1, 1) := by decide +kernel
theorem dX8_least_21 : decode cX8_least 21 = .ok (.if_icmp .ne 7, 3) := by decide +kernel
theorem dX8_least_24 : decode cX8_least 24 = .ok (.iconst 0, 1) := by decide +kernel
theorem dX8_least_25 : decode cX8_least 25 = .ok (.goto 4, 3) := by decide +kernel
theorem dX8_least_28 : decode cX8_least 28 = .ok (.iconst 1, 1) := by decide +kernel
theorem dX8_least_29 : decode cX8_least 29 = .ok (.ireturn, 1) := by decide +kernel
theorem dX8_greatest_0 : decode cX8_greatest 0 = .ok (.aload_n 0, 1) := by decide +kernel
theorem dX8_greatest_1 : decode cX8_greatest 1 = .ok (.getfield 165, 3) := by decide +kernel
theorem dX8_greatest_4 : decode cX8_greatest 4 = .ok (.ifCond .ne 6, 3) := by decide +kernel
theorem dX8_greatest_7 : decode cX8_greatest 7 = .ok (.bipush 11, 2) := by decide +kernel
theorem dX8_greatest_9 : decode cX8_greatest 9 = .ok (.ireturn, 1) := by decide +kernel
theorem dX8_greatest_10 : decode cX8_greatest 10 = .ok (.aload_n 0, 1) := by decide +kernel
theorem dX8_greatest_11 : decode cX8_greatest 11 = .ok (.getfield 168, 3) := by decide +kernel
theorem dX8_greatest_14 : decode cX8_greatest 14 = .ok (.bipush 42, 2) := by decide +kernel
theorem dX8_greatest_16 : decode cX8_greatest 16 = .ok (.if_icmp .eq 12, 3) := by decide +kernel
theorem dX8_greatest_19 : decode cX8_greatest 19 = .ok (.aload_n 0, 1) := by decide +kernel
theorem dX8_greatest_20 : decode cX8_greatest 20 = .ok (.getfield 168, 3) := by decide +kernel
theorem dX8_greatest_23 : decode cX8_greatest 23 = .ok (.bipush 33, 2) := by decide +kernel
theorem dX8_greatest_25 : decode cX8_greatest 25 = .ok (.if_icmp .ne 8, 3) := by decide +kernel
theorem dX8_greatest_28 : decode cX8_greatest 28 = .ok (.bipush 9, 2) := by decide +kernel
theorem dX8_greatest_30 : decode cX8_greatest 30 = .ok (.goto 31, 3) := by decide +kernel
theorem dX8_greatest_33 : decode cX8_greatest 33 = .ok (.aload_n 0, 1) := by decide +kernel
theorem dX8_greatest_34 : decode cX8_greatest 34 = .ok (.getfield 168, 3) := by decide +kernel
theorem dX8_greatest_37 : decode cX8_greatest 37 = .ok (.bipush 35, 2) := by decide +kernel
theorem dX8_greatest_39 : decode cX8_greatest 39 = .ok (.if_icmp .ne 20, 3) := by decide +kernel
theorem dX8_greatest_42 : decode cX8_greatest 42 = .ok (.aload_n 0, 1) := by decide +kernel
theorem dX8_greatest_43 : decode cX8_greatest 43 = .ok (.getfield 165, 3) := by decide +kernel
theorem dX8_greatest_46 : decode cX8_greatest 46 = .ok (.iconst 1, 1) := by decide +kernel
theorem dX8_greatest_47 : decode cX8_greatest 47 = .ok (.if_icmp .ne 7, 3) := by decide +kernel
theorem dX8_greatest_50 : decode cX8_greatest 50 = .ok (.iconst 1, 1) := by decide +kernel
theorem dX8_greatest_51 : decode cX8_greatest 51 = .ok (.goto 10, 3) := by decide +kernel
theorem dX8_greatest_54 : decode cX8_greatest 54 = .ok (.bipush 30, 2) := by decide +kernel
theorem dX8_greatest_56 : decode cX8_greatest 56 = .ok (.goto 5, 3) := by decide +kernel
theorem dX8_greatest_59 : decode cX8_greatest 59 = .ok (.bipush 60, 2) := by decide +kernel
theorem dX8_greatest_61 : decode cX8_greatest 61 = .ok (.ireturn, 1) := by decide +kernel
theorem dX8_takesDigit_0 : decode cX8_takesDigit 0 = .ok (.iconst 4, 1) := by decide +kernel
theorem dX8_takesDigit_1 : decode cX8_takesDigit 1 = .ok (.aload_n 0, 1) := by decide +kernel
theorem dX8_takesDigit_2 : decode cX8_takesDigit 2 = .ok (.getfield 171, 3) := by decide +kernel
theorem dX8_takesDigit_5 : decode cX8_takesDigit 5 = .ok (.imul, 1) := by decide +kernel
theorem dX8_takesDigit_6 : decode cX8_takesDigit 6 = .ok (.iconst 1, 1) := by decide +kernel
theorem dX8_takesDigit_7 : decode cX8_takesDigit 7 = .ok (.iadd, 1) := by decide +kernel
theorem dX8_takesDigit_8 : decode cX8_takesDigit 8 = .ok (.aload_n 0, 1) := by decide +kernel
theorem dX8_takesDigit_9 : decode cX8_takesDigit 9 = .ok (.getfield 165, 3) := by decide +kernel
theorem dX8_takesDigit_12 : decode cX8_takesDigit 12 = .ok (.iadd, 1) := by decide +kernel
theorem dX8_takesDigit_13 : decode cX8_takesDigit 13 = .ok (.istore_n 2, 1) := by decide +kernel
theorem dX8_takesDigit_14 : decode cX8_takesDigit 14 = .ok (.aload_n 0, 1) := by decide +kernel
theorem dX8_takesDigit_15 : decode cX8_takesDigit 15 = .ok (.getfield 174, 3) := by decide +kernel
theorem dX8_takesDigit_18 : decode cX8_takesDigit 18 = .ok (.ifCond .ne 7, 3) := by decide +kernel
theorem dX8_takesDigit_21 : decode cX8_takesDigit 21 = .ok (.iload_n 1, 1) := by decide +kernel
theorem dX8_takesDigit_22 : decode cX8_takesDigit 22 = .ok (.goto 14, 3) := by decide +kernel
theorem dX8_takesDigit_25 : decode cX8_takesDigit 25 = .ok (.bipush 10, 2) := by decide +kernel
theorem dX8_takesDigit_27 : decode cX8_takesDigit 27 = .ok (.aload_n 0, 1) := by decide +kernel
theorem dX8_takesDigit_28 : decode cX8_takesDigit 28 = .ok (.getfield 22, 3) := by decide +kernel
theorem dX8_takesDigit_31 : decode cX8_takesDigit 31 = .ok (.iload_n 2, 1) := by decide +kernel
theorem dX8_takesDigit_32 : decode cX8_takesDigit 32 = .ok (.iaload, 1) := by decide +kernel
theorem dX8_takesDigit_33 : decode cX8_takesDigit 33 = .ok (.imul, 1) := by decide +kernel
theorem dX8_takesDigit_34 : decode cX8_takesDigit 34 = .ok (.iload_n 1, 1) := by decide +kernel
theorem dX8_takesDigit_35 : decode cX8_takesDigit 35 = .ok (.iadd, 1) := by decide +kernel
theorem dX8_takesDigit_36 : decode cX8_takesDigit 36 = .ok (.istore_n 3, 1) := by decide +kernel
theorem dX8_takesDigit_37 : decode cX8_takesDigit 37 = .ok (.aload_n 0, 1) := by decide +kernel
theorem dX8_takesDigit_38 : decode cX8_takesDigit 38 = .ok (.getfield 174, 3) := by decide +kernel
theorem dX8_takesDigit_41 : decode cX8_takesDigit 41 = .ok (.ifCond .ne 27, 3) := by decide +kernel
theorem dX8_takesDigit_44 : decode cX8_takesDigit 44 = .ok (.iload_n 3, 1) := by decide +kernel
theorem dX8_takesDigit_45 : decode cX8_takesDigit 45 = .ok (.aload_n 0, 1) := by decide +kernel
theorem dX8_takesDigit_46 : decode cX8_takesDigit 46 = .ok (.invokevirtual 177, 3) := by decide +kernel
theorem dX8_takesDigit_49 : decode cX8_takesDigit 49 = .ok (.if_icmp .lt 15, 3) := by decide +kernel
theorem dX8_takesDigit_52 : decode cX8_takesDigit 52 = .ok (.iload_n 3, 1) := by decide +kernel
theorem dX8_takesDigit_53 : decode cX8_takesDigit 53 = .ok (.aload_n 0, 1) := by decide +kernel
theorem dX8_takesDigit_54 : decode cX8_takesDigit 54 = .ok (.invokevirtual 180, 3) := by decide +kernel
theorem dX8_takesDigit_57 : decode cX8_takesDigit 57 = .ok (.if_icmp .gt 7, 3) := by decide +kernel
theorem dX8_takesDigit_60 : decode cX8_takesDigit 60 = .ok (.iconst 1, 1) := by decide +kernel
theorem dX8_takesDigit_61 : decode cX8_takesDigit 61 = .ok (.goto 29, 3) := by decide +kernel
theorem dX8_takesDigit_64 : decode cX8_takesDigit 64 = .ok (.iconst 0, 1) := by decide +kernel
theorem dX8_takesDigit_65 : decode cX8_takesDigit 65 = .ok (.goto 25, 3) := by decide +kernel
theorem dX8_takesDigit_68 : decode cX8_takesDigit 68 = .ok (.aload_n 0, 1) := by decide +kernel
theorem dX8_takesDigit_69 : decode cX8_takesDigit 69 = .ok (.getfield 22, 3) := by decide +kernel
theorem dX8_takesDigit_72 : decode cX8_takesDigit 72 = .ok (.iload_n 2, 1) := by decide +kernel
theorem dX8_takesDigit_73 : decode cX8_takesDigit 73 = .ok (.iaload, 1) := by decide +kernel
theorem dX8_takesDigit_74 : decode cX8_takesDigit 74 = .ok (.ifCond .le 15, 3) := by decide +kernel
theorem dX8_takesDigit_77 : decode cX8_takesDigit 77 = .ok (.iload_n 3, 1) := by decide +kernel
theorem dX8_takesDigit_78 : decode cX8_takesDigit 78 = .ok (.aload_n 0, 1) := by decide +kernel
theorem dX8_takesDigit_79 : decode cX8_takesDigit 79 = .ok (.invokevirtual 180, 3) := by decide +kernel
theorem dX8_takesDigit_82 : decode cX8_takesDigit 82 = .ok (.if_icmp .gt 7, 3) := by decide +kernel
theorem dX8_takesDigit_85 : decode cX8_takesDigit 85 = .ok (.iconst 1, 1) := by decide +kernel
theorem dX8_takesDigit_86 : decode cX8_takesDigit 86 = .ok (.goto 4, 3) := by decide +kernel
theorem dX8_takesDigit_89 : decode cX8_takesDigit 89 = .ok (.iconst 0, 1) := by decide +kernel
theorem dX8_takesDigit_90 : decode cX8_takesDigit 90 = .ok (.istore 4, 2) := by decide +kernel
theorem dX8_takesDigit_92 : decode cX8_takesDigit 92 = .ok (.aload_n 0, 1) := by decide +kernel
theorem dX8_takesDigit_93 : decode cX8_takesDigit 93 = .ok (.getfield 22, 3) := by decide +kernel
theorem dX8_takesDigit_96 : decode cX8_takesDigit 96 = .ok (.iload_n 2, 1) := by decide +kernel
theorem dX8_takesDigit_97 : decode cX8_takesDigit 97 = .ok (.iload 4, 2) := by decide +kernel
theorem dX8_takesDigit_99 : decode cX8_takesDigit 99 = .ok (.ifCond .eq 7, 3) := by decide +kernel
theorem dX8_takesDigit_102 : decode cX8_takesDigit 102 = .ok (.iload_n 3, 1) := by decide +kernel
theorem dX8_takesDigit_103 : decode cX8_takesDigit 103 = .ok (.goto 9, 3) := by decide +kernel
theorem dX8_takesDigit_106 : decode cX8_takesDigit 106 = .ok (.aload_n 0, 1) := by decide +kernel
theorem dX8_takesDigit_107 : decode cX8_takesDigit 107 = .ok (.getfield 22, 3) := by decide +kernel
theorem dX8_takesDigit_110 : decode cX8_takesDigit 110 = .ok (.iload_n 2, 1) := by decide +kernel
theorem dX8_takesDigit_111 : decode cX8_takesDigit 111 = .ok (.iaload, 1) := by decide +kernel
theorem dX8_takesDigit_112 : decode cX8_takesDigit 112 = .ok (.iastore, 1) := by decide +kernel
theorem dX8_takesDigit_113 : decode cX8_takesDigit 113 = .ok (.aload_n 0, 1) := by decide +kernel
theorem dX8_takesDigit_114 : decode cX8_takesDigit 114 = .ok (.dup, 1) := by decide +kernel
theorem dX8_takesDigit_115 : decode cX8_takesDigit 115 = .ok (.getfield 174, 3) := by decide +kernel
theorem dX8_takesDigit_118 : decode cX8_takesDigit 118 = .ok (.iload 4, 2) := by decide +kernel
theorem dX8_takesDigit_120 : decode cX8_takesDigit 120 = .ok (.ifCond .eq 7, 3) := by decide +kernel
theorem dX8_takesDigit_123 : decode cX8_takesDigit 123 = .ok (.iconst 1, 1) := by decide +kernel
theorem dX8_takesDigit_124 : decode cX8_takesDigit 124 = .ok (.goto 4, 3) := by decide +kernel
theorem dX8_takesDigit_127 : decode cX8_takesDigit 127 = .ok (.iconst 0, 1) := by decide +kernel
theorem dX8_takesDigit_128 : decode cX8_takesDigit 128 = .ok (.iadd, 1) := by decide +kernel
theorem dX8_takesDigit_129 : decode cX8_takesDigit 129 = .ok (.putfield 174, 3) := by decide +kernel
theorem dX8_takesDigit_132 : decode cX8_takesDigit 132 = .ok (.iload 4, 2) := by decide +kernel
theorem dX8_takesDigit_134 : decode cX8_takesDigit 134 = .ok (.ireturn, 1) := by decide +kernel
theorem dX8_isSign_0 : decode cX8_isSign 0 = .ok (.iload_n 1, 1) := by decide +kernel
theorem dX8_isSign_1 : decode cX8_isSign 1 = .ok (.bipush 62, 2) := by decide +kernel
theorem dX8_isSign_3 : decode cX8_isSign 3 = .ok (.if_icmp .eq 27, 3) := by decide +kernel
theorem dX8_isSign_6 : decode cX8_isSign 6 = .ok (.iload_n 1, 1) := by decide +kernel
theorem dX8_isSign_7 : decode cX8_isSign 7 = .ok (.bipush 37, 2) := by decide +kernel
theorem dX8_isSign_9 : decode cX8_isSign 9 = .ok (.if_icmp .eq 21, 3) := by decide +kernel
theorem dX8_isSign_12 : decode cX8_isSign 12 = .ok (.iload_n 1, 1) := by decide +kernel
theorem dX8_isSign_13 : decode cX8_isSign 13 = .ok (.bipush 42, 2) := by decide +kernel
theorem dX8_isSign_15 : decode cX8_isSign 15 = .ok (.if_icmp .eq 15, 3) := by decide +kernel
theorem dX8_isSign_18 : decode cX8_isSign 18 = .ok (.iload_n 1, 1) := by decide +kernel
theorem dX8_isSign_19 : decode cX8_isSign 19 = .ok (.bipush 33, 2) := by decide +kernel
theorem dX8_isSign_21 : decode cX8_isSign 21 = .ok (.if_icmp .eq 9, 3) := by decide +kernel
theorem dX8_isSign_24 : decode cX8_isSign 24 = .ok (.iload_n 1, 1) := by decide +kernel
theorem dX8_isSign_25 : decode cX8_isSign 25 = .ok (.bipush 35, 2) := by decide +kernel
theorem dX8_isSign_27 : decode cX8_isSign 27 = .ok (.if_icmp .ne 7, 3) := by decide +kernel
theorem dX8_isSign_30 : decode cX8_isSign 30 = .ok (.iconst 1, 1) := by decide +kernel
theorem dX8_isSign_31 : decode cX8_isSign 31 = .ok (.goto 4, 3) := by decide +kernel
theorem dX8_isSign_34 : decode cX8_isSign 34 = .ok (.iconst 0, 1) := by decide +kernel
theorem dX8_isSign_35 : decode cX8_isSign 35 = .ok (.ireturn, 1) := by decide +kernel
theorem dX8_isPartOver_0 : decode cX8_isPartOver 0 = .ok (.aload_n 0, 1) := by decide +kernel
theorem dX8_isPartOver_1 : decode cX8_isPartOver 1 = .ok (.getfield 174, 3) := by decide +kernel
theorem dX8_isPartOver_4 : decode cX8_isPartOver 4 = .ok (.ifCond .le 44, 3) := by decide +kernel
theorem dX8_isPartOver_7 : decode cX8_isPartOver 7 = .ok (.aload_n 0, 1) := by decide +kernel
theorem dX8_isPartOver_8 : decode cX8_isPartOver 8 = .ok (.getfield 168, 3) := by decide +kernel
theorem dX8_isPartOver_11 : decode cX8_isPartOver 11 = .ok (.bipush 42, 2) := by decide +kernel
theorem dX8_isPartOver_13 : decode cX8_isPartOver 13 = .ok (.if_icmp .eq 12, 3) := by decide +kernel
theorem dX8_isPartOver_16 : decode cX8_isPartOver 16 = .ok (.aload_n 0, 1) := by decide +kernel
theorem dX8_isPartOver_17 : decode cX8_isPartOver 17 = .ok (.getfield 168, 3) := by decide +kernel
theorem dX8_isPartOver_20 : decode cX8_isPartOver 20 = .ok (.bipush 33, 2) := by decide +kernel
theorem dX8_isPartOver_22 : decode cX8_isPartOver 22 = .ok (.if_icmp .ne 14, 3) := by decide +kernel
theorem dX8_isPartOver_25 : decode cX8_isPartOver 25 = .ok (.aload_n 0, 1) := by decide +kernel
theorem dX8_isPartOver_26 : decode cX8_isPartOver 26 = .ok (.getfield 165, 3) := by decide +kernel
theorem dX8_isPartOver_29 : decode cX8_isPartOver 29 = .ok (.iconst 1, 1) := by decide +kernel
theorem dX8_isPartOver_30 : decode cX8_isPartOver 30 = .ok (.if_icmp .ne 18, 3) := by decide +kernel
theorem dX8_isPartOver_33 : decode cX8_isPartOver 33 = .ok (.goto 11, 3) := by decide +kernel
theorem dX8_isPartOver_36 : decode cX8_isPartOver 36 = .ok (.aload_n 0, 1) := by decide +kernel
theorem dX8_isPartOver_37 : decode cX8_isPartOver 37 = .ok (.getfield 165, 3) := by decide +kernel
theorem dX8_isPartOver_40 : decode cX8_isPartOver 40 = .ok (.iconst 2, 1) := by decide +kernel
theorem dX8_isPartOver_41 : decode cX8_isPartOver 41 = .ok (.if_icmp .ne 7, 3) := by decide +kernel
theorem dX8_isPartOver_44 : decode cX8_isPartOver 44 = .ok (.iconst 1, 1) := by decide +kernel
theorem dX8_isPartOver_45 : decode cX8_isPartOver 45 = .ok (.goto 4, 3) := by decide +kernel
theorem dX8_isPartOver_48 : decode cX8_isPartOver 48 = .ok (.iconst 0, 1) := by decide +kernel
theorem dX8_isPartOver_49 : decode cX8_isPartOver 49 = .ok (.ireturn, 1) := by decide +kernel
theorem dX8_endPart_0 : decode cX8_endPart 0 = .ok (.aload_n 0, 1) := by decide +kernel
theorem dX8_endPart_1 : decode cX8_endPart 1 = .ok (.getfield 22, 3) := by decide +kernel
theorem dX8_endPart_4 : decode cX8_endPart 4 = .ok (.iconst 4, 1) := by decide +kernel
theorem dX8_endPart_5 : decode cX8_endPart 5 = .ok (.aload_n 0, 1) := by decide +kernel
theorem dX8_endPart_6 : decode cX8_endPart 6 = .ok (.getfield 171, 3) := by decide +kernel
theorem dX8_endPart_9 : decode cX8_endPart 9 = .ok (.imul, 1) := by decide +kernel
theorem dX8_endPart_10 : decode cX8_endPart 10 = .ok (.aload_n 0, 1) := by decide +kernel
theorem dX8_endPart_11 : decode cX8_endPart 11 = .ok (.getfield 168, 3) := by decide +kernel
theorem dX8_endPart_14 : decode cX8_endPart 14 = .ok (.iastore, 1) := by decide +kernel
theorem dX8_endPart_15 : decode cX8_endPart 15 = .ok (.aload_n 0, 1) := by decide +kernel
theorem dX8_endPart_16 : decode cX8_endPart 16 = .ok (.dup, 1) := by decide +kernel
theorem dX8_endPart_17 : decode cX8_endPart 17 = .ok (.getfield 171, 3) := by decide +kernel
theorem dX8_endPart_20 : decode cX8_endPart 20 = .ok (.iconst 1, 1) := by decide +kernel
theorem dX8_endPart_21 : decode cX8_endPart 21 = .ok (.iadd, 1) := by decide +kernel
theorem dX8_endPart_22 : decode cX8_endPart 22 = .ok (.putfield 171, 3) := by decide +kernel
theorem dX8_endPart_25 : decode cX8_endPart 25 = .ok (.aload_n 0, 1) := by decide +kernel
theorem dX8_endPart_26 : decode cX8_endPart 26 = .ok (.iconst 0, 1) := by decide +kernel
theorem dX8_endPart_27 : decode cX8_endPart 27 = .ok (.putfield 168, 3) := by decide +kernel
theorem dX8_endPart_30 : decode cX8_endPart 30 = .ok (.aload_n 0, 1) := by decide +kernel
theorem dX8_endPart_31 : decode cX8_endPart 31 = .ok (.iconst 0, 1) := by decide +kernel
theorem dX8_endPart_32 : decode cX8_endPart 32 = .ok (.putfield 165, 3) := by decide +kernel
theorem dX8_endPart_35 : decode cX8_endPart 35 = .ok (.aload_n 0, 1) := by decide +kernel
theorem dX8_endPart_36 : decode cX8_endPart 36 = .ok (.iconst 0, 1) := by decide +kernel
theorem dX8_endPart_37 : decode cX8_endPart 37 = .ok (.putfield 174, 3) := by decide +kernel
theorem dX8_endPart_40 : decode cX8_endPart 40 = .ok (.return_, 1) := by decide +kernel
theorem dX8_takes_0 : decode cX8_takes 0 = .ok (.iload_n 1, 1) := by decide +kernel
theorem dX8_takes_1 : decode cX8_takes 1 = .ok (.bipush 48, 2) := by decide +kernel
theorem dX8_takes_3 : decode cX8_takes 3 = .ok (.bipush 57, 2) := by decide +kernel
theorem dX8_takes_5 : decode cX8_takes 5 = .ok (.invokestatic 29, 3) := by decide +kernel
theorem dX8_takes_8 : decode cX8_takes 8 = .ok (.ifCond .eq 12, 3) := by decide +kernel
theorem dX8_takes_11 : decode cX8_takes 11 = .ok (.aload_n 0, 1) := by decide +kernel
theorem dX8_takes_12 : decode cX8_takes 12 = .ok (.iload_n 1, 1) := by decide +kernel
theorem dX8_takes_13 : decode cX8_takes 13 = .ok (.bipush 48, 2) := by decide +kernel
theorem dX8_takes_15 : decode cX8_takes 15 = .ok (.isub, 1) := by decide +kernel
theorem dX8_takes_16 : decode cX8_takes 16 = .ok (.invokevirtual 183, 3) := by decide +kernel
theorem dX8_takes_19 : decode cX8_takes 19 = .ok (.ireturn, 1) := by decide +kernel
theorem dX8_takes_20 : decode cX8_takes 20 = .ok (.aload_n 0, 1) := by decide +kernel
theorem dX8_takes_21 : decode cX8_takes 21 = .ok (.getfield 174, 3) := by decide +kernel
theorem dX8_takes_24 : decode cX8_takes 24 = .ok (.ifCond .le 35, 3) := by decide +kernel
theorem dX8_takes_27 : decode cX8_takes 27 = .ok (.aload_n 0, 1) := by decide +kernel
theorem dX8_takes_28 : decode cX8_takes 28 = .ok (.getfield 165, 3) := by decide +kernel
theorem dX8_takes_31 : decode cX8_takes 31 = .ok (.ifCond .ne 28, 3) := by decide +kernel
theorem dX8_takes_34 : decode cX8_takes 34 = .ok (.aload_n 0, 1) := by decide +kernel
theorem dX8_takes_35 : decode cX8_takes 35 = .ok (.iload_n 1, 1) := by decide +kernel
theorem dX8_takes_36 : decode cX8_takes 36 = .ok (.invokevirtual 186, 3) := by decide +kernel
theorem dX8_takes_39 : decode cX8_takes 39 = .ok (.ifCond .eq 20, 3) := by decide +kernel
theorem dX8_takes_42 : decode cX8_takes 42 = .ok (.aload_n 0, 1) := by decide +kernel
theorem dX8_takes_43 : decode cX8_takes 43 = .ok (.iload_n 1, 1) := by decide +kernel
theorem dX8_takes_44 : decode cX8_takes 44 = .ok (.putfield 168, 3) := by decide +kernel
theorem dX8_takes_47 : decode cX8_takes 47 = .ok (.aload_n 0, 1) := by decide +kernel
theorem dX8_takes_48 : decode cX8_takes 48 = .ok (.iconst 1, 1) := by decide +kernel
theorem dX8_takes_49 : decode cX8_takes 49 = .ok (.putfield 165, 3) := by decide +kernel
theorem dX8_takes_52 : decode cX8_takes 52 = .ok (.aload_n 0, 1) := by decide +kernel
theorem dX8_takes_53 : decode cX8_takes 53 = .ok (.iconst 0, 1) := by decide +kernel
theorem dX8_takes_54 : decode cX8_takes 54 = .ok (.putfield 174, 3) := by decide +kernel
theorem dX8_takes_57 : decode cX8_takes 57 = .ok (.iconst 1, 1) := by decide +kernel
theorem dX8_takes_58 : decode cX8_takes 58 = .ok (.ireturn, 1) := by decide +kernel
theorem dX8_takes_59 : decode cX8_takes 59 = .ok (.aload_n 0, 1) := by decide +kernel
theorem dX8_takes_60 : decode cX8_takes 60 = .ok (.getfield 168, 3) := by decide +kernel
theorem dX8_takes_63 : decode cX8_takes 63 = .ok (.bipush 62, 2) := by decide +kernel
theorem dX8_takes_65 : decode cX8_takes 65 = .ok (.if_icmp .eq 21, 3) := by decide +kernel
theorem dX8_takes_68 : decode cX8_takes 68 = .ok (.aload_n 0, 1) := by decide +kernel
theorem dX8_takes_69 : decode cX8_takes 69 = .ok (.getfield 168, 3) := by decide +kernel
theorem dX8_takes_72 : decode cX8_takes 72 = .ok (.bipush 37, 2) := by decide +kernel
theorem dX8_takes_74 : decode cX8_takes 74 = .ok (.if_icmp .eq 12, 3) := by decide +kernel
theorem dX8_takes_77 : decode cX8_takes 77 = .ok (.aload_n 0, 1) := by decide +kernel
theorem dX8_takes_78 : decode cX8_takes 78 = .ok (.getfield 168, 3) := by decide +kernel
theorem dX8_takes_81 : decode cX8_takes 81 = .ok (.bipush 35, 2) := by decide +kernel
theorem dX8_takes_83 : decode cX8_takes 83 = .ok (.if_icmp .ne 7, 3) := by decide +kernel
theorem dX8_takes_86 : decode cX8_takes 86 = .ok (.iconst 1, 1) := by decide +kernel
theorem dX8_takes_87 : decode cX8_takes 87 = .ok (.goto 4, 3) := by decide +kernel
theorem dX8_takes_90 : decode cX8_takes 90 = .ok (.iconst 0, 1) := by decide +kernel
theorem dX8_takes_91 : decode cX8_takes 91 = .ok (.istore_n 2, 1) := by decide +kernel
theorem dX8_takes_92 : decode cX8_takes 92 = .ok (.aload_n 0, 1) := by decide +kernel
theorem dX8_takes_93 : decode cX8_takes 93 = .ok (.getfield 174, 3) := by decide +kernel
theorem dX8_takes_96 : decode cX8_takes 96 = .ok (.ifCond .le 33, 3) := by decide +kernel
theorem dX8_takes_99 : decode cX8_takes 99 = .ok (.aload_n 0, 1) := by decide +kernel
theorem dX8_takes_100 : decode cX8_takes 100 = .ok (.getfield 165, 3) := by decide +kernel
theorem dX8_takes_103 : decode cX8_takes 103 = .ok (.iconst 1, 1) := by decide +kernel
theorem dX8_takes_104 : decode cX8_takes 104 = .ok (.if_icmp .ne 25, 3) := by decide +kernel
theorem dX8_takes_107 : decode cX8_takes 107 = .ok (.iload_n 2, 1) := by decide +kernel
theorem dX8_takes_108 : decode cX8_takes 108 = .ok (.ifCond .eq 21, 3) := by decide +kernel
theorem dX8_takes_111 : decode cX8_takes 111 = .ok (.iload_n 1, 1) := by decide +kernel
theorem dX8_takes_112 : decode cX8_takes 112 = .ok (.bipush 44, 2) := by decide +kernel
theorem dX8_takes_114 : decode cX8_takes 114 = .ok (.if_icmp .ne 15, 3) := by decide +kernel
theorem dX8_takes_117 : decode cX8_takes 117 = .ok (.aload_n 0, 1) := by decide +kernel
theorem dX8_takes_118 : decode cX8_takes 118 = .ok (.iconst 2, 1) := by decide +kernel
theorem dX8_takes_119 : decode cX8_takes 119 = .ok (.putfield 165, 3) := by decide +kernel
theorem dX8_takes_122 : decode cX8_takes 122 = .ok (.aload_n 0, 1) := by decide +kernel
theorem dX8_takes_123 : decode cX8_takes 123 = .ok (.iconst 0, 1) := by decide +kernel
theorem dX8_takes_124 : decode cX8_takes 124 = .ok (.putfield 174, 3) := by decide +kernel
theorem dX8_takes_127 : decode cX8_takes 127 = .ok (.iconst 1, 1) := by decide +kernel
theorem dX8_takes_128 : decode cX8_takes 128 = .ok (.ireturn, 1) := by decide +kernel
theorem dX8_takes_129 : decode cX8_takes 129 = .ok (.iload_n 1, 1) := by decide +kernel
theorem dX8_takes_130 : decode cX8_takes 130 = .ok (.bipush 59, 2) := by decide +kernel
theorem dX8_takes_132 : decode cX8_takes 132 = .ok (.if_icmp .ne 16, 3) := by decide +kernel
theorem dX8_takes_135 : decode cX8_takes 135 = .ok (.aload_n 0, 1) := by decide +kernel
theorem dX8_takes_136 : decode cX8_takes 136 = .ok (.invokevirtual 189, 3) := by decide +kernel
theorem dX8_takes_139 : decode cX8_takes 139 = .ok (.ifCond .eq 9, 3) := by decide +kernel
theorem dX8_takes_142 : decode cX8_takes 142 = .ok (.aload_n 0, 1) := by decide +kernel
theorem dX8_takes_143 : decode cX8_takes 143 = .ok (.invokevirtual 193, 3) := by decide +kernel
theorem dX8_takes_146 : decode cX8_takes 146 = .ok (.iconst 1, 1) := by decide +kernel
theorem dX8_takes_147 : decode cX8_takes 147 = .ok (.ireturn, 1) := by decide +kernel
theorem dX8_takes_148 : decode cX8_takes 148 = .ok (.iconst 0, 1) := by decide +kernel
theorem dX8_takes_149 : decode cX8_takes 149 = .ok (.ireturn, 1) := by decide +kernel
theorem dX8_readText_0 : decode cX8_readText 0 = .ok (.aload_n 0, 1) := by decide +kernel
theorem dX8_readText_1 : decode cX8_readText 1 = .ok (.iconst 0, 1) := by decide +kernel
theorem dX8_readText_2 : decode cX8_readText 2 = .ok (.putfield 171, 3) := by decide +kernel
theorem dX8_readText_5 : decode cX8_readText 5 = .ok (.aload_n 0, 1) := by decide +kernel
theorem dX8_readText_6 : decode cX8_readText 6 = .ok (.iconst 0, 1) := by decide +kernel
theorem dX8_readText_7 : decode cX8_readText 7 = .ok (.putfield 168, 3) := by decide +kernel
theorem dX8_readText_10 : decode cX8_readText 10 = .ok (.aload_n 0, 1) := by decide +kernel
theorem dX8_readText_11 : decode cX8_readText 11 = .ok (.iconst 0, 1) := by decide +kernel
theorem dX8_readText_12 : decode cX8_readText 12 = .ok (.putfield 165, 3) := by decide +kernel
theorem dX8_readText_15 : decode cX8_readText 15 = .ok (.aload_n 0, 1) := by decide +kernel
theorem dX8_readText_16 : decode cX8_readText 16 = .ok (.iconst 0, 1) := by decide +kernel
theorem dX8_readText_17 : decode cX8_readText 17 = .ok (.putfield 174, 3) := by decide +kernel
theorem dX8_readText_20 : decode cX8_readText 20 = .ok (.iconst 0, 1) := by decide +kernel
theorem dX8_readText_21 : decode cX8_readText 21 = .ok (.istore_n 1, 1) := by decide +kernel
theorem dX8_readText_22 : decode cX8_readText 22 = .ok (.iload_n 1, 1) := by decide +kernel
theorem dX8_readText_23 : decode cX8_readText 23 = .ok (.aload_n 0, 1) := by decide +kernel
theorem dX8_readText_24 : decode cX8_readText 24 = .ok (.getfield 162, 3) := by decide +kernel
theorem dX8_readText_27 : decode cX8_readText 27 = .ok (.if_icmp .ge 22, 3) := by decide +kernel
theorem dX8_readText_30 : decode cX8_readText 30 = .ok (.aload_n 0, 1) := by decide +kernel
theorem dX8_readText_31 : decode cX8_readText 31 = .ok (.aload_n 0, 1) := by decide +kernel
theorem dX8_readText_32 : decode cX8_readText 32 = .ok (.getfield 16, 3) := by decide +kernel
theorem dX8_readText_35 : decode cX8_readText 35 = .ok (.iload_n 1, 1) := by decide +kernel
theorem dX8_readText_36 : decode cX8_readText 36 = .ok (.iaload, 1) := by decide +kernel
theorem dX8_readText_37 : decode cX8_readText 37 = .ok (.invokevirtual 196, 3) := by decide +kernel
theorem dX8_readText_40 : decode cX8_readText 40 = .ok (.ifCond .eq 9, 3) := by decide +kernel
theorem dX8_readText_43 : decode cX8_readText 43 = .ok (.iinc 1 1, 3) := by decide +kernel
theorem dX8_readText_46 : decode cX8_readText 46 = .ok (.goto (-24), 3) := by decide +kernel
theorem dX8_readText_49 : decode cX8_readText 49 = .ok (.iload_n 1, 1) := by decide +kernel
theorem dX8_readText_50 : decode cX8_readText 50 = .ok (.ireturn, 1) := by decide +kernel
theorem dX8_firstError_0 : decode cX8_firstError 0 = .ok (.aload_n 0, 1) := by decide +kernel
theorem dX8_firstError_1 : decode cX8_firstError 1 = .ok (.iconst 0, 1) := by decide +kernel
theorem dX8_firstError_2 : decode cX8_firstError 2 = .ok (.putfield 25, 3) := by decide +kernel
theorem dX8_firstError_5 : decode cX8_firstError 5 = .ok (.aload_n 0, 1) := by decide +kernel
theorem dX8_firstError_6 : decode cX8_firstError 6 = .ok (.invokevirtual 199, 3) := by decide +kernel
theorem dX8_firstError_9 : decode cX8_firstError 9 = .ok (.ireturn, 1) := by decide +kernel
theorem dX8_whyNoPart_0 : decode cX8_whyNoPart 0 = .ok (.iconst 4, 1) := by decide +kernel
theorem dX8_whyNoPart_1 : decode cX8_whyNoPart 1 = .ok (.iload_n 1, 1) := by decide +kernel
theorem dX8_whyNoPart_2 : decode cX8_whyNoPart 2 = .ok (.imul, 1) := by decide +kernel
theorem dX8_whyNoPart_3 : decode cX8_whyNoPart 3 = .ok (.istore_n 2, 1) := by decide +kernel
theorem dX8_whyNoPart_4 : decode cX8_whyNoPart 4 = .ok (.aload_n 0, 1) := by decide +kernel
theorem dX8_whyNoPart_5 : decode cX8_whyNoPart 5 = .ok (.getfield 22, 3) := by decide +kernel
theorem dX8_whyNoPart_8 : decode cX8_whyNoPart 8 = .ok (.iload_n 2, 1) := by decide +kernel
theorem dX8_whyNoPart_9 : decode cX8_whyNoPart 9 = .ok (.iaload, 1) := by decide +kernel
theorem dX8_whyNoPart_10 : decode cX8_whyNoPart 10 = .ok (.lookupswitch 84 #[(33, 34), (35, 55), (42, 34)], 34) := by decide +kernel
theorem dX8_whyNoPart_44 : decode cX8_whyNoPart 44 = .ok (.aload_n 0, 1) := by decide +kernel
theorem dX8_whyNoPart_45 : decode cX8_whyNoPart 45 = .ok (.aload_n 0, 1) := by decide +kernel
theorem dX8_whyNoPart_46 : decode cX8_whyNoPart 46 = .ok (.getfield 22, 3) := by decide +kernel
theorem dX8_whyNoPart_49 : decode cX8_whyNoPart 49 = .ok (.iload_n 2, 1) := by decide +kernel
theorem dX8_whyNoPart_50 : decode cX8_whyNoPart 50 = .ok (.iconst 1, 1) := by decide +kernel
theorem dX8_whyNoPart_51 : decode cX8_whyNoPart 51 = .ok (.iadd, 1) := by decide +kernel
theorem dX8_whyNoPart_52 : decode cX8_whyNoPart 52 = .ok (.iaload, 1) := by decide +kernel
theorem dX8_whyNoPart_53 : decode cX8_whyNoPart 53 = .ok (.aload_n 0, 1) := by decide +kernel
theorem dX8_whyNoPart_54 : decode cX8_whyNoPart 54 = .ok (.getfield 22, 3) := by decide +kernel
theorem dX8_whyNoPart_57 : decode cX8_whyNoPart 57 = .ok (.iload_n 2, 1) := by decide +kernel
theorem dX8_whyNoPart_58 : decode cX8_whyNoPart 58 = .ok (.iconst 2, 1) := by decide +kernel
theorem dX8_whyNoPart_59 : decode cX8_whyNoPart 59 = .ok (.iadd, 1) := by decide +kernel
theorem dX8_whyNoPart_60 : decode cX8_whyNoPart 60 = .ok (.iaload, 1) := by decide +kernel
theorem dX8_whyNoPart_61 : decode cX8_whyNoPart 61 = .ok (.invokevirtual 138, 3) := by decide +kernel
theorem dX8_whyNoPart_64 : decode cX8_whyNoPart 64 = .ok (.ireturn, 1) := by decide +kernel
theorem dX8_whyNoPart_65 : decode cX8_whyNoPart 65 = .ok (.aload_n 0, 1) := by decide +kernel
theorem dX8_whyNoPart_66 : decode cX8_whyNoPart 66 = .ok (.aload_n 0, 1) := by decide +kernel
theorem dX8_whyNoPart_67 : decode cX8_whyNoPart 67 = .ok (.getfield 22, 3) := by decide +kernel
theorem dX8_whyNoPart_70 : decode cX8_whyNoPart 70 = .ok (.iload_n 2, 1) := by decide +kernel
theorem dX8_whyNoPart_71 : decode cX8_whyNoPart 71 = .ok (.iconst 1, 1) := by decide +kernel
theorem dX8_whyNoPart_72 : decode cX8_whyNoPart 72 = .ok (.iadd, 1) := by decide +kernel
theorem dX8_whyNoPart_73 : decode cX8_whyNoPart 73 = .ok (.iaload, 1) := by decide +kernel
theorem dX8_whyNoPart_74 : decode cX8_whyNoPart 74 = .ok (.aload_n 0, 1) := by decide +kernel
theorem dX8_whyNoPart_75 : decode cX8_whyNoPart 75 = .ok (.getfield 22, 3) := by decide +kernel
theorem dX8_whyNoPart_78 : decode cX8_whyNoPart 78 = .ok (.iload_n 2, 1) := by decide +kernel
theorem dX8_whyNoPart_79 : decode cX8_whyNoPart 79 = .ok (.iconst 2, 1) := by decide +kernel
theorem dX8_whyNoPart_80 : decode cX8_whyNoPart 80 = .ok (.iadd, 1) := by decide +kernel
theorem dX8_whyNoPart_81 : decode cX8_whyNoPart 81 = .ok (.iaload, 1) := by decide +kernel
theorem dX8_whyNoPart_82 : decode cX8_whyNoPart 82 = .ok (.aload_n 0, 1) := by decide +kernel
theorem dX8_whyNoPart_83 : decode cX8_whyNoPart 83 = .ok (.getfield 22, 3) := by decide +kernel
theorem dX8_whyNoPart_86 : decode cX8_whyNoPart 86 = .ok (.iload_n 2, 1) := by decide +kernel
theorem dX8_whyNoPart_87 : decode cX8_whyNoPart 87 = .ok (.iconst 3, 1) := by decide +kernel
theorem dX8_whyNoPart_88 : decode cX8_whyNoPart 88 = .ok (.iadd, 1) := by decide +kernel
theorem dX8_whyNoPart_89 : decode cX8_whyNoPart 89 = .ok (.iaload, 1) := by decide +kernel
theorem dX8_whyNoPart_90 : decode cX8_whyNoPart 90 = .ok (.invokevirtual 148, 3) := by decide +kernel
theorem dX8_whyNoPart_93 : decode cX8_whyNoPart 93 = .ok (.ireturn, 1) := by decide +kernel
theorem dX8_whyNoPart_94 : decode cX8_whyNoPart 94 = .ok (.aload_n 0, 1) := by decide +kernel
theorem dX8_whyNoPart_95 : decode cX8_whyNoPart 95 = .ok (.aload_n 0, 1) := by decide +kernel
theorem dX8_whyNoPart_96 : decode cX8_whyNoPart 96 = .ok (.getfield 22, 3) := by decide +kernel
theorem dX8_whyNoPart_99 : decode cX8_whyNoPart 99 = .ok (.iload_n 2, 1) := by decide +kernel
theorem dX8_whyNoPart_100 : decode cX8_whyNoPart 100 = .ok (.iconst 1, 1) := by decide +kernel
theorem dX8_whyNoPart_101 : decode cX8_whyNoPart 101 = .ok (.iadd, 1) := by decide +kernel
theorem dX8_whyNoPart_102 : decode cX8_whyNoPart 102 = .ok (.iaload, 1) := by decide +kernel
theorem dX8_whyNoPart_103 : decode cX8_whyNoPart 103 = .ok (.aload_n 0, 1) := by decide +kernel
theorem dX8_whyNoPart_104 : decode cX8_whyNoPart 104 = .ok (.getfield 22, 3) := by decide +kernel
theorem dX8_whyNoPart_107 : decode cX8_whyNoPart 107 = .ok (.iload_n 2, 1) := by decide +kernel
theorem dX8_whyNoPart_108 : decode cX8_whyNoPart 108 = .ok (.iconst 2, 1) := by decide +kernel
theorem dX8_whyNoPart_109 : decode cX8_whyNoPart 109 = .ok (.iadd, 1) := by decide +kernel
theorem dX8_whyNoPart_110 : decode cX8_whyNoPart 110 = .ok (.iaload, 1) := by decide +kernel
theorem dX8_whyNoPart_111 : decode cX8_whyNoPart 111 = .ok (.aload_n 0, 1) := by decide +kernel
theorem dX8_whyNoPart_112 : decode cX8_whyNoPart 112 = .ok (.getfield 22, 3) := by decide +kernel
theorem dX8_whyNoPart_115 : decode cX8_whyNoPart 115 = .ok (.iload_n 2, 1) := by decide +kernel
theorem dX8_whyNoPart_116 : decode cX8_whyNoPart 116 = .ok (.iconst 3, 1) := by decide +kernel
theorem dX8_whyNoPart_117 : decode cX8_whyNoPart 117 = .ok (.iadd, 1) := by decide +kernel
theorem dX8_whyNoPart_118 : decode cX8_whyNoPart 118 = .ok (.iaload, 1) := by decide +kernel
theorem dX8_whyNoPart_119 : decode cX8_whyNoPart 119 = .ok (.invokevirtual 114, 3) := by decide +kernel
theorem dX8_whyNoPart_122 : decode cX8_whyNoPart 122 = .ok (.ireturn, 1) := by decide +kernel
theorem dX8_bringPart_0 : decode cX8_bringPart 0 = .ok (.iconst 4, 1) := by decide +kernel
theorem dX8_bringPart_1 : decode cX8_bringPart 1 = .ok (.iload_n 1, 1) := by decide +kernel
theorem dX8_bringPart_2 : decode cX8_bringPart 2 = .ok (.imul, 1) := by decide +kernel
theorem dX8_bringPart_3 : decode cX8_bringPart 3 = .ok (.istore_n 2, 1) := by decide +kernel
theorem dX8_bringPart_4 : decode cX8_bringPart 4 = .ok (.aload_n 0, 1) := by decide +kernel
theorem dX8_bringPart_5 : decode cX8_bringPart 5 = .ok (.getfield 22, 3) := by decide +kernel
theorem dX8_bringPart_8 : decode cX8_bringPart 8 = .ok (.iload_n 2, 1) := by decide +kernel
theorem dX8_bringPart_9 : decode cX8_bringPart 9 = .ok (.iaload, 1) := by decide +kernel
theorem dX8_bringPart_10 : decode cX8_bringPart 10 = .ok (.lookupswitch 104 #[(33, 34), (35, 73), (42, 34)], 34) := by decide +kernel
theorem dX8_bringPart_44 : decode cX8_bringPart 44 = .ok (.aload_n 0, 1) := by decide +kernel
theorem dX8_bringPart_45 : decode cX8_bringPart 45 = .ok (.aload_n 0, 1) := by decide +kernel
theorem dX8_bringPart_46 : decode cX8_bringPart 46 = .ok (.getfield 22, 3) := by decide +kernel
theorem dX8_bringPart_49 : decode cX8_bringPart 49 = .ok (.iload_n 2, 1) := by decide +kernel
theorem dX8_bringPart_50 : decode cX8_bringPart 50 = .ok (.iconst 1, 1) := by decide +kernel
theorem dX8_bringPart_51 : decode cX8_bringPart 51 = .ok (.iadd, 1) := by decide +kernel
theorem dX8_bringPart_52 : decode cX8_bringPart 52 = .ok (.iaload, 1) := by decide +kernel
theorem dX8_bringPart_53 : decode cX8_bringPart 53 = .ok (.aload_n 0, 1) := by decide +kernel
theorem dX8_bringPart_54 : decode cX8_bringPart 54 = .ok (.getfield 22, 3) := by decide +kernel
theorem dX8_bringPart_57 : decode cX8_bringPart 57 = .ok (.iload_n 2, 1) := by decide +kernel
theorem dX8_bringPart_58 : decode cX8_bringPart 58 = .ok (.iconst 2, 1) := by decide +kernel
theorem dX8_bringPart_59 : decode cX8_bringPart 59 = .ok (.iadd, 1) := by decide +kernel
theorem dX8_bringPart_60 : decode cX8_bringPart 60 = .ok (.iaload, 1) := by decide +kernel
theorem dX8_bringPart_61 : decode cX8_bringPart 61 = .ok (.aload_n 0, 1) := by decide +kernel
theorem dX8_bringPart_62 : decode cX8_bringPart 62 = .ok (.getfield 22, 3) := by decide +kernel
theorem dX8_bringPart_65 : decode cX8_bringPart 65 = .ok (.iload_n 2, 1) := by decide +kernel
theorem dX8_bringPart_66 : decode cX8_bringPart 66 = .ok (.iaload, 1) := by decide +kernel
theorem dX8_bringPart_67 : decode cX8_bringPart 67 = .ok (.bipush 33, 2) := by decide +kernel
theorem dX8_bringPart_69 : decode cX8_bringPart 69 = .ok (.if_icmp .ne 7, 3) := by decide +kernel
theorem dX8_bringPart_72 : decode cX8_bringPart 72 = .ok (.iconst 1, 1) := by decide +kernel
theorem dX8_bringPart_73 : decode cX8_bringPart 73 = .ok (.goto 4, 3) := by decide +kernel
theorem dX8_bringPart_76 : decode cX8_bringPart 76 = .ok (.iconst 0, 1) := by decide +kernel
theorem dX8_bringPart_77 : decode cX8_bringPart 77 = .ok (.invokevirtual 141, 3) := by decide +kernel
theorem dX8_bringPart_80 : decode cX8_bringPart 80 = .ok (.goto 78, 3) := by decide +kernel
theorem dX8_bringPart_83 : decode cX8_bringPart 83 = .ok (.aload_n 0, 1) := by decide +kernel
theorem dX8_bringPart_84 : decode cX8_bringPart 84 = .ok (.aload_n 0, 1) := by decide +kernel
theorem dX8_bringPart_85 : decode cX8_bringPart 85 = .ok (.getfield 22, 3) := by decide +kernel
theorem dX8_bringPart_88 : decode cX8_bringPart 88 = .ok (.iload_n 2, 1) := by decide +kernel
theorem dX8_bringPart_89 : decode cX8_bringPart 89 = .ok (.iconst 1, 1) := by decide +kernel
theorem dX8_bringPart_90 : decode cX8_bringPart 90 = .ok (.iadd, 1) := by decide +kernel
theorem dX8_bringPart_91 : decode cX8_bringPart 91 = .ok (.iaload, 1) := by decide +kernel
theorem dX8_bringPart_92 : decode cX8_bringPart 92 = .ok (.aload_n 0, 1) := by decide +kernel
theorem dX8_bringPart_93 : decode cX8_bringPart 93 = .ok (.getfield 22, 3) := by decide +kernel
theorem dX8_bringPart_96 : decode cX8_bringPart 96 = .ok (.iload_n 2, 1) := by decide +kernel
theorem dX8_bringPart_97 : decode cX8_bringPart 97 = .ok (.iconst 2, 1) := by decide +kernel
theorem dX8_bringPart_98 : decode cX8_bringPart 98 = .ok (.iadd, 1) := by decide +kernel
theorem dX8_bringPart_99 : decode cX8_bringPart 99 = .ok (.iaload, 1) := by decide +kernel
theorem dX8_bringPart_100 : decode cX8_bringPart 100 = .ok (.aload_n 0, 1) := by decide +kernel
theorem dX8_bringPart_101 : decode cX8_bringPart 101 = .ok (.getfield 22, 3) := by decide +kernel
theorem dX8_bringPart_104 : decode cX8_bringPart 104 = .ok (.iload_n 2, 1) := by decide +kernel
theorem dX8_bringPart_105 : decode cX8_bringPart 105 = .ok (.iconst 3, 1) := by decide +kernel
theorem dX8_bringPart_106 : decode cX8_bringPart 106 = .ok (.iadd, 1) := by decide +kernel
theorem dX8_bringPart_107 : decode cX8_bringPart 107 = .ok (.iaload, 1) := by decide +kernel
theorem dX8_bringPart_108 : decode cX8_bringPart 108 = .ok (.invokevirtual 151, 3) := by decide +kernel
theorem dX8_bringPart_111 : decode cX8_bringPart 111 = .ok (.goto 47, 3) := by decide +kernel
theorem dX8_bringPart_114 : decode cX8_bringPart 114 = .ok (.aload_n 0, 1) := by decide +kernel
theorem dX8_bringPart_115 : decode cX8_bringPart 115 = .ok (.aload_n 0, 1) := by decide +kernel
theorem dX8_bringPart_116 : decode cX8_bringPart 116 = .ok (.getfield 22, 3) := by decide +kernel
theorem dX8_bringPart_119 : decode cX8_bringPart 119 = .ok (.iload_n 2, 1) := by decide +kernel
theorem dX8_bringPart_120 : decode cX8_bringPart 120 = .ok (.iconst 1, 1) := by decide +kernel
theorem dX8_bringPart_121 : decode cX8_bringPart 121 = .ok (.iadd, 1) := by decide +kernel
theorem dX8_bringPart_122 : decode cX8_bringPart 122 = .ok (.iaload, 1) := by decide +kernel
theorem dX8_bringPart_123 : decode cX8_bringPart 123 = .ok (.aload_n 0, 1) := by decide +kernel
theorem dX8_bringPart_124 : decode cX8_bringPart 124 = .ok (.getfield 22, 3) := by decide +kernel
theorem dX8_bringPart_127 : decode cX8_bringPart 127 = .ok (.iload_n 2, 1) := by decide +kernel
theorem dX8_bringPart_128 : decode cX8_bringPart 128 = .ok (.iconst 2, 1) := by decide +kernel
theorem dX8_bringPart_129 : decode cX8_bringPart 129 = .ok (.iadd, 1) := by decide +kernel
theorem dX8_bringPart_130 : decode cX8_bringPart 130 = .ok (.iaload, 1) := by decide +kernel
theorem dX8_bringPart_131 : decode cX8_bringPart 131 = .ok (.aload_n 0, 1) := by decide +kernel
theorem dX8_bringPart_132 : decode cX8_bringPart 132 = .ok (.getfield 22, 3) := by decide +kernel
theorem dX8_bringPart_135 : decode cX8_bringPart 135 = .ok (.iload_n 2, 1) := by decide +kernel
theorem dX8_bringPart_136 : decode cX8_bringPart 136 = .ok (.iconst 3, 1) := by decide +kernel
theorem dX8_bringPart_137 : decode cX8_bringPart 137 = .ok (.iadd, 1) := by decide +kernel
theorem dX8_bringPart_138 : decode cX8_bringPart 138 = .ok (.iaload, 1) := by decide +kernel
theorem dX8_bringPart_139 : decode cX8_bringPart 139 = .ok (.aload_n 0, 1) := by decide +kernel
theorem dX8_bringPart_140 : decode cX8_bringPart 140 = .ok (.getfield 22, 3) := by decide +kernel
theorem dX8_bringPart_143 : decode cX8_bringPart 143 = .ok (.iload_n 2, 1) := by decide +kernel
theorem dX8_bringPart_144 : decode cX8_bringPart 144 = .ok (.iaload, 1) := by decide +kernel
theorem dX8_bringPart_145 : decode cX8_bringPart 145 = .ok (.bipush 37, 2) := by decide +kernel
theorem dX8_bringPart_147 : decode cX8_bringPart 147 = .ok (.if_icmp .ne 7, 3) := by decide +kernel
theorem dX8_bringPart_150 : decode cX8_bringPart 150 = .ok (.iconst 1, 1) := by decide +kernel
theorem dX8_bringPart_151 : decode cX8_bringPart 151 = .ok (.goto 4, 3) := by decide +kernel
theorem dX8_bringPart_154 : decode cX8_bringPart 154 = .ok (.iconst 0, 1) := by decide +kernel
theorem dX8_bringPart_155 : decode cX8_bringPart 155 = .ok (.invokevirtual 121, 3) := by decide +kernel
theorem dX8_bringPart_158 : decode cX8_bringPart 158 = .ok (.return_, 1) := by decide +kernel
theorem dX8_load_0 : decode cX8_load 0 = .ok (.aload_n 0, 1) := by decide +kernel
theorem dX8_load_1 : decode cX8_load 1 = .ok (.invokevirtual 199, 3) := by decide +kernel
theorem dX8_load_4 : decode cX8_load 4 = .ok (.aload_n 0, 1) := by decide +kernel
theorem dX8_load_5 : decode cX8_load 5 = .ok (.getfield 162, 3) := by decide +kernel
theorem dX8_load_8 : decode cX8_load 8 = .ok (.if_icmp .ne 14, 3) := by decide +kernel
theorem dX8_load_11 : decode cX8_load 11 = .ok (.aload_n 0, 1) := by decide +kernel
theorem dX8_load_12 : decode cX8_load 12 = .ok (.invokevirtual 189, 3) := by decide +kernel
theorem dX8_load_15 : decode cX8_load 15 = .ok (.ifCond .eq 7, 3) := by decide +kernel
theorem dX8_load_18 : decode cX8_load 18 = .ok (.iconst 1, 1) := by decide +kernel
theorem dX8_load_19 : decode cX8_load 19 = .ok (.goto 4, 3) := by decide +kernel
theorem dX8_load_22 : decode cX8_load 22 = .ok (.iconst 0, 1) := by decide +kernel
theorem dX8_load_23 : decode cX8_load 23 = .ok (.istore_n 1, 1) := by decide +kernel
theorem dX8_load_24 : decode cX8_load 24 = .ok (.aload_n 0, 1) := by decide +kernel
theorem dX8_load_25 : decode cX8_load 25 = .ok (.iload_n 1, 1) := by decide +kernel
theorem dX8_load_26 : decode cX8_load 26 = .ok (.ifCond .eq 7, 3) := by decide +kernel
theorem dX8_load_29 : decode cX8_load 29 = .ok (.iconst 0, 1) := by decide +kernel
theorem dX8_load_30 : decode cX8_load 30 = .ok (.goto 4, 3) := by decide +kernel
theorem dX8_load_33 : decode cX8_load 33 = .ok (.iconst 1, 1) := by decide +kernel
theorem dX8_load_34 : decode cX8_load 34 = .ok (.putfield 25, 3) := by decide +kernel
theorem dX8_load_37 : decode cX8_load 37 = .ok (.aload_n 0, 1) := by decide +kernel
theorem dX8_load_38 : decode cX8_load 38 = .ok (.getfield 25, 3) := by decide +kernel
theorem dX8_load_41 : decode cX8_load 41 = .ok (.ifCond .le 5, 3) := by decide +kernel
theorem dX8_load_44 : decode cX8_load 44 = .ok (.iconst 0, 1) := by decide +kernel
theorem dX8_load_45 : decode cX8_load 45 = .ok (.ireturn, 1) := by decide +kernel
theorem dX8_load_46 : decode cX8_load 46 = .ok (.aload_n 0, 1) := by decide +kernel
theorem dX8_load_47 : decode cX8_load 47 = .ok (.invokevirtual 193, 3) := by decide +kernel
theorem dX8_load_50 : decode cX8_load 50 = .ok (.aload_n 0, 1) := by decide +kernel
theorem dX8_load_51 : decode cX8_load 51 = .ok (.invokevirtual 118, 3) := by decide +kernel
theorem dX8_load_54 : decode cX8_load 54 = .ok (.iconst 0, 1) := by decide +kernel
theorem dX8_load_55 : decode cX8_load 55 = .ok (.istore_n 2, 1) := by decide +kernel
theorem dX8_load_56 : decode cX8_load 56 = .ok (.iload_n 2, 1) := by decide +kernel
theorem dX8_load_57 : decode cX8_load 57 = .ok (.aload_n 0, 1) := by decide +kernel
theorem dX8_load_58 : decode cX8_load 58 = .ok (.getfield 171, 3) := by decide +kernel
theorem dX8_load_61 : decode cX8_load 61 = .ok (.if_icmp .ge 22, 3) := by decide +kernel
theorem dX8_load_64 : decode cX8_load 64 = .ok (.aload_n 0, 1) := by decide +kernel
theorem dX8_load_65 : decode cX8_load 65 = .ok (.iload_n 2, 1) := by decide +kernel
theorem dX8_load_66 : decode cX8_load 66 = .ok (.invokevirtual 202, 3) := by decide +kernel
theorem dX8_load_69 : decode cX8_load 69 = .ok (.ifCond .ne 14, 3) := by decide +kernel
theorem dX8_load_72 : decode cX8_load 72 = .ok (.aload_n 0, 1) := by decide +kernel
theorem dX8_load_73 : decode cX8_load 73 = .ok (.iload_n 2, 1) := by decide +kernel
theorem dX8_load_74 : decode cX8_load 74 = .ok (.invokevirtual 205, 3) := by decide +kernel
theorem dX8_load_77 : decode cX8_load 77 = .ok (.iinc 2 1, 3) := by decide +kernel
theorem dX8_load_80 : decode cX8_load 80 = .ok (.goto (-24), 3) := by decide +kernel
theorem dX8_load_83 : decode cX8_load 83 = .ok (.aload_n 0, 1) := by decide +kernel
theorem dX8_load_84 : decode cX8_load 84 = .ok (.iconst 0, 1) := by decide +kernel
theorem dX8_load_85 : decode cX8_load 85 = .ok (.putfield 162, 3) := by decide +kernel
theorem dX8_load_88 : decode cX8_load 88 = .ok (.iload_n 2, 1) := by decide +kernel
theorem dX8_load_89 : decode cX8_load 89 = .ok (.ireturn, 1) := by decide +kernel
theorem dX8_behind_0 : decode cX8_behind 0 = .ok (.iconst 0, 1) := by decide +kernel
theorem dX8_behind_1 : decode cX8_behind 1 = .ok (.istore_n 2, 1) := by decide +kernel
theorem dX8_behind_2 : decode cX8_behind 2 = .ok (.iload_n 1, 1) := by decide +kernel
theorem dX8_behind_3 : decode cX8_behind 3 = .ok (.iconst 1, 1) := by decide +kernel
theorem dX8_behind_4 : decode cX8_behind 4 = .ok (.iadd, 1) := by decide +kernel
theorem dX8_behind_5 : decode cX8_behind 5 = .ok (.istore_n 3, 1) := by decide +kernel
theorem dX8_behind_6 : decode cX8_behind 6 = .ok (.iload_n 3, 1) := by decide +kernel
theorem dX8_behind_7 : decode cX8_behind 7 = .ok (.aload_n 0, 1) := by decide +kernel
theorem dX8_behind_8 : decode cX8_behind 8 = .ok (.getfield 7, 3) := by decide +kernel
theorem dX8_behind_11 : decode cX8_behind 11 = .ok (.iconst 0, 1) := by decide +kernel
theorem dX8_behind_12 : decode cX8_behind 12 = .ok (.iaload, 1) := by decide +kernel
theorem dX8_behind_13 : decode cX8_behind 13 = .ok (.if_icmp .ge 26, 3) := by decide +kernel
theorem dX8_behind_16 : decode cX8_behind 16 = .ok (.iload_n 2, 1) := by decide +kernel
theorem dX8_behind_17 : decode cX8_behind 17 = .ok (.aload_n 0, 1) := by decide +kernel
theorem dX8_behind_18 : decode cX8_behind 18 = .ok (.iload_n 3, 1) := by decide +kernel
theorem dX8_behind_19 : decode cX8_behind 19 = .ok (.iload_n 1, 1) := by decide +kernel
theorem dX8_behind_20 : decode cX8_behind 20 = .ok (.invokevirtual 77, 3) := by decide +kernel
theorem dX8_behind_23 : decode cX8_behind 23 = .ok (.ifCond .eq 7, 3) := by decide +kernel
theorem dX8_behind_26 : decode cX8_behind 26 = .ok (.iconst 1, 1) := by decide +kernel
theorem dX8_behind_27 : decode cX8_behind 27 = .ok (.goto 4, 3) := by decide +kernel
theorem dX8_behind_30 : decode cX8_behind 30 = .ok (.iconst 0, 1) := by decide +kernel
theorem dX8_behind_31 : decode cX8_behind 31 = .ok (.iadd, 1) := by decide +kernel
theorem dX8_behind_32 : decode cX8_behind 32 = .ok (.istore_n 2, 1) := by decide +kernel
theorem dX8_behind_33 : decode cX8_behind 33 = .ok (.iinc 3 1, 3) := by decide +kernel
theorem dX8_behind_36 : decode cX8_behind 36 = .ok (.goto (-30), 3) := by decide +kernel
theorem dX8_behind_39 : decode cX8_behind 39 = .ok (.iload_n 2, 1) := by decide +kernel
theorem dX8_behind_40 : decode cX8_behind 40 = .ok (.ireturn, 1) := by decide +kernel
theorem dX8_lanternsAt_0 : decode cX8_lanternsAt 0 = .ok (.iconst 0, 1) := by decide +kernel
theorem dX8_lanternsAt_1 : decode cX8_lanternsAt 1 = .ok (.istore_n 3, 1) := by decide +kernel
theorem dX8_lanternsAt_2 : decode cX8_lanternsAt 2 = .ok (.iconst 0, 1) := by decide +kernel
theorem dX8_lanternsAt_3 : decode cX8_lanternsAt 3 = .ok (.istore 4, 2) := by decide +kernel
theorem dX8_lanternsAt_5 : decode cX8_lanternsAt 5 = .ok (.iload 4, 2) := by decide +kernel
theorem dX8_lanternsAt_7 : decode cX8_lanternsAt 7 = .ok (.aload_n 0, 1) := by decide +kernel
theorem dX8_lanternsAt_8 : decode cX8_lanternsAt 8 = .ok (.getfield 7, 3) := by decide +kernel
theorem dX8_lanternsAt_11 : decode cX8_lanternsAt 11 = .ok (.bipush 85, 2) := by decide +kernel
theorem dX8_lanternsAt_13 : decode cX8_lanternsAt 13 = .ok (.iaload, 1) := by decide +kernel
theorem dX8_lanternsAt_14 : decode cX8_lanternsAt 14 = .ok (.if_icmp .ge 59, 3) := by decide +kernel
theorem dX8_lanternsAt_17 : decode cX8_lanternsAt 17 = .ok (.iload_n 2, 1) := by decide +kernel
theorem dX8_lanternsAt_18 : decode cX8_lanternsAt 18 = .ok (.ifCond .eq 13, 3) := by decide +kernel
theorem dX8_lanternsAt_21 : decode cX8_lanternsAt 21 = .ok (.aload_n 0, 1) := by decide +kernel
theorem dX8_lanternsAt_22 : decode cX8_lanternsAt 22 = .ok (.iload 4, 2) := by decide +kernel
theorem dX8_lanternsAt_24 : decode cX8_lanternsAt 24 = .ok (.iconst 1, 1) := by decide +kernel
theorem dX8_lanternsAt_25 : decode cX8_lanternsAt 25 = .ok (.invokevirtual 48, 3) := by decide +kernel
theorem dX8_lanternsAt_28 : decode cX8_lanternsAt 28 = .ok (.goto 17, 3) := by decide +kernel
theorem dX8_lanternsAt_31 : decode cX8_lanternsAt 31 = .ok (.aload_n 0, 1) := by decide +kernel
theorem dX8_lanternsAt_32 : decode cX8_lanternsAt 32 = .ok (.iload 4, 2) := by decide +kernel
theorem dX8_lanternsAt_34 : decode cX8_lanternsAt 34 = .ok (.invokevirtual 54, 3) := by decide +kernel
theorem dX8_lanternsAt_37 : decode cX8_lanternsAt 37 = .ok (.ifCond .ne 7, 3) := by decide +kernel
theorem dX8_lanternsAt_40 : decode cX8_lanternsAt 40 = .ok (.iconst 1, 1) := by decide +kernel
theorem dX8_lanternsAt_41 : decode cX8_lanternsAt 41 = .ok (.goto 4, 3) := by decide +kernel
theorem dX8_lanternsAt_44 : decode cX8_lanternsAt 44 = .ok (.iconst 0, 1) := by decide +kernel
theorem dX8_lanternsAt_45 : decode cX8_lanternsAt 45 = .ok (.istore 5, 2) := by decide +kernel
theorem dX8_lanternsAt_47 : decode cX8_lanternsAt 47 = .ok (.iload_n 3, 1) := by decide +kernel
theorem dX8_lanternsAt_48 : decode cX8_lanternsAt 48 = .ok (.aload_n 0, 1) := by decide +kernel
theorem dX8_lanternsAt_49 : decode cX8_lanternsAt 49 = .ok (.iload 4, 2) := by decide +kernel
theorem dX8_lanternsAt_51 : decode cX8_lanternsAt 51 = .ok (.iconst 0, 1) := by decide +kernel
theorem dX8_lanternsAt_52 : decode cX8_lanternsAt 52 = .ok (.invokevirtual 48, 3) := by decide +kernel
theorem dX8_lanternsAt_55 : decode cX8_lanternsAt 55 = .ok (.iload_n 1, 1) := by decide +kernel
theorem dX8_lanternsAt_56 : decode cX8_lanternsAt 56 = .ok (.if_icmp .ne 8, 3) := by decide +kernel
theorem dX8_lanternsAt_59 : decode cX8_lanternsAt 59 = .ok (.iload 5, 2) := by decide +kernel
theorem dX8_lanternsAt_61 : decode cX8_lanternsAt 61 = .ok (.goto 4, 3) := by decide +kernel
theorem dX8_lanternsAt_64 : decode cX8_lanternsAt 64 = .ok (.iconst 0, 1) := by decide +kernel
theorem dX8_lanternsAt_65 : decode cX8_lanternsAt 65 = .ok (.iadd, 1) := by decide +kernel
theorem dX8_lanternsAt_66 : decode cX8_lanternsAt 66 = .ok (.istore_n 3, 1) := by decide +kernel
theorem dX8_lanternsAt_67 : decode cX8_lanternsAt 67 = .ok (.iinc 4 1, 3) := by decide +kernel
theorem dX8_lanternsAt_70 : decode cX8_lanternsAt 70 = .ok (.goto (-65), 3) := by decide +kernel
theorem dX8_lanternsAt_73 : decode cX8_lanternsAt 73 = .ok (.iload_n 3, 1) := by decide +kernel
theorem dX8_lanternsAt_74 : decode cX8_lanternsAt 74 = .ok (.ireturn, 1) := by decide +kernel
theorem dX8_boxNow_0 : decode cX8_boxNow 0 = .ok (.iload_n 2, 1) := by decide +kernel
theorem dX8_boxNow_1 : decode cX8_boxNow 1 = .ok (.tableswitch 57 3 6 #[31, 37, 43, 50], 31) := by decide +kernel
theorem dX8_boxNow_32 : decode cX8_boxNow 32 = .ok (.aload_n 0, 1) := by decide +kernel
theorem dX8_boxNow_33 : decode cX8_boxNow 33 = .ok (.iload_n 1, 1) := by decide +kernel
theorem dX8_boxNow_34 : decode cX8_boxNow 34 = .ok (.invokevirtual 90, 3) := by decide +kernel
theorem dX8_boxNow_37 : decode cX8_boxNow 37 = .ok (.ireturn, 1) := by decide +kernel
theorem dX8_boxNow_38 : decode cX8_boxNow 38 = .ok (.aload_n 0, 1) := by decide +kernel
theorem dX8_boxNow_39 : decode cX8_boxNow 39 = .ok (.iload_n 1, 1) := by decide +kernel
theorem dX8_boxNow_40 : decode cX8_boxNow 40 = .ok (.invokevirtual 209, 3) := by decide +kernel
theorem dX8_boxNow_43 : decode cX8_boxNow 43 = .ok (.ireturn, 1) := by decide +kernel
theorem dX8_boxNow_44 : decode cX8_boxNow 44 = .ok (.aload_n 0, 1) := by decide +kernel
theorem dX8_boxNow_45 : decode cX8_boxNow 45 = .ok (.iload_n 1, 1) := by decide +kernel
theorem dX8_boxNow_46 : decode cX8_boxNow 46 = .ok (.iconst 0, 1) := by decide +kernel
theorem dX8_boxNow_47 : decode cX8_boxNow 47 = .ok (.invokevirtual 212, 3) := by decide +kernel
theorem dX8_boxNow_50 : decode cX8_boxNow 50 = .ok (.ireturn, 1) := by decide +kernel
theorem dX8_boxNow_51 : decode cX8_boxNow 51 = .ok (.aload_n 0, 1) := by decide +kernel
theorem dX8_boxNow_52 : decode cX8_boxNow 52 = .ok (.iload_n 1, 1) := by decide +kernel
theorem dX8_boxNow_53 : decode cX8_boxNow 53 = .ok (.iconst 1, 1) := by decide +kernel
theorem dX8_boxNow_54 : decode cX8_boxNow 54 = .ok (.invokevirtual 212, 3) := by decide +kernel
theorem dX8_boxNow_57 : decode cX8_boxNow 57 = .ok (.ireturn, 1) := by decide +kernel
theorem dX8_boxNow_58 : decode cX8_boxNow 58 = .ok (.iload_n 1, 1) := by decide +kernel
theorem dX8_boxNow_59 : decode cX8_boxNow 59 = .ok (.ifCond .ne 7, 3) := by decide +kernel
theorem dX8_boxNow_62 : decode cX8_boxNow 62 = .ok (.iconst (-1), 1) := by decide +kernel
theorem dX8_boxNow_63 : decode cX8_boxNow 63 = .ok (.goto 9, 3) := by decide +kernel
theorem dX8_boxNow_66 : decode cX8_boxNow 66 = .ok (.aload_n 0, 1) := by decide +kernel
theorem dX8_boxNow_67 : decode cX8_boxNow 67 = .ok (.iload_n 1, 1) := by decide +kernel
theorem dX8_boxNow_68 : decode cX8_boxNow 68 = .ok (.iload_n 2, 1) := by decide +kernel
theorem dX8_boxNow_69 : decode cX8_boxNow 69 = .ok (.invokevirtual 33, 3) := by decide +kernel
theorem dX8_boxNow_72 : decode cX8_boxNow 72 = .ok (.ireturn, 1) := by decide +kernel
theorem dX8_box_0 : decode cX8_box 0 = .ok (.aload_n 0, 1) := by decide +kernel
theorem dX8_box_1 : decode cX8_box 1 = .ok (.aload_n 0, 1) := by decide +kernel
theorem dX8_box_2 : decode cX8_box 2 = .ok (.iload_n 1, 1) := by decide +kernel
theorem dX8_box_3 : decode cX8_box 3 = .ok (.invokevirtual 105, 3) := by decide +kernel
theorem dX8_box_6 : decode cX8_box 6 = .ok (.ifCond .ne 7, 3) := by decide +kernel
theorem dX8_box_9 : decode cX8_box 9 = .ok (.iconst 1, 1) := by decide +kernel
theorem dX8_box_10 : decode cX8_box 10 = .ok (.goto 18, 3) := by decide +kernel
theorem dX8_box_13 : decode cX8_box 13 = .ok (.iload_n 2, 1) := by decide +kernel
theorem dX8_box_14 : decode cX8_box 14 = .ok (.iconst 0, 1) := by decide +kernel
theorem dX8_box_15 : decode cX8_box 15 = .ok (.bipush 6, 2) := by decide +kernel
theorem dX8_box_17 : decode cX8_box 17 = .ok (.invokestatic 29, 3) := by decide +kernel
theorem dX8_box_20 : decode cX8_box 20 = .ok (.ifCond .eq 7, 3) := by decide +kernel
theorem dX8_box_23 : decode cX8_box 23 = .ok (.iconst 0, 1) := by decide +kernel
theorem dX8_box_24 : decode cX8_box 24 = .ok (.goto 4, 3) := by decide +kernel
theorem dX8_box_27 : decode cX8_box 27 = .ok (.iconst 2, 1) := by decide +kernel
theorem dX8_box_28 : decode cX8_box 28 = .ok (.putfield 25, 3) := by decide +kernel
theorem dX8_box_31 : decode cX8_box 31 = .ok (.aload_n 0, 1) := by decide +kernel
theorem dX8_box_32 : decode cX8_box 32 = .ok (.getfield 25, 3) := by decide +kernel
theorem dX8_box_35 : decode cX8_box 35 = .ok (.ifCond .le 7, 3) := by decide +kernel
theorem dX8_box_38 : decode cX8_box 38 = .ok (.iconst 0, 1) := by decide +kernel
theorem dX8_box_39 : decode cX8_box 39 = .ok (.goto 9, 3) := by decide +kernel
theorem dX8_box_42 : decode cX8_box 42 = .ok (.aload_n 0, 1) := by decide +kernel
theorem dX8_box_43 : decode cX8_box 43 = .ok (.iload_n 1, 1) := by decide +kernel
theorem dX8_box_44 : decode cX8_box 44 = .ok (.iload_n 2, 1) := by decide +kernel
theorem dX8_box_45 : decode cX8_box 45 = .ok (.invokevirtual 216, 3) := by decide +kernel
theorem dX8_box_48 : decode cX8_box 48 = .ok (.ireturn, 1) := by decide +kernel
theorem dX8_faultsAt_0 : decode cX8_faultsAt 0 = .ok (.iconst 0, 1) := by decide +kernel
theorem dX8_faultsAt_1 : decode cX8_faultsAt 1 = .ok (.istore_n 3, 1) := by decide +kernel
theorem dX8_faultsAt_2 : decode cX8_faultsAt 2 = .ok (.iconst 0, 1) := by decide +kernel
theorem dX8_faultsAt_3 : decode cX8_faultsAt 3 = .ok (.istore 4, 2) := by decide +kernel
theorem dX8_faultsAt_5 : decode cX8_faultsAt 5 = .ok (.iload 4, 2) := by decide +kernel
theorem dX8_faultsAt_7 : decode cX8_faultsAt 7 = .ok (.aload_n 0, 1) := by decide +kernel
theorem dX8_faultsAt_8 : decode cX8_faultsAt 8 = .ok (.getfield 7, 3) := by decide +kernel
theorem dX8_faultsAt_11 : decode cX8_faultsAt 11 = .ok (.sipush 134, 3) := by decide +kernel
theorem dX8_faultsAt_14 : decode cX8_faultsAt 14 = .ok (.iaload, 1) := by decide +kernel
theorem dX8_faultsAt_15 : decode cX8_faultsAt 15 = .ok (.if_icmp .ge 45, 3) := by decide +kernel
theorem dX8_faultsAt_18 : decode cX8_faultsAt 18 = .ok (.iload_n 3, 1) := by decide +kernel
theorem dX8_faultsAt_19 : decode cX8_faultsAt 19 = .ok (.aload_n 0, 1) := by decide +kernel
theorem dX8_faultsAt_20 : decode cX8_faultsAt 20 = .ok (.iload 4, 2) := by decide +kernel
theorem dX8_faultsAt_22 : decode cX8_faultsAt 22 = .ok (.iconst 0, 1) := by decide +kernel
theorem dX8_faultsAt_23 : decode cX8_faultsAt 23 = .ok (.invokevirtual 58, 3) := by decide +kernel
theorem dX8_faultsAt_26 : decode cX8_faultsAt 26 = .ok (.iload_n 1, 1) := by decide +kernel
theorem dX8_faultsAt_27 : decode cX8_faultsAt 27 = .ok (.if_icmp .ne 24, 3) := by decide +kernel
theorem dX8_faultsAt_30 : decode cX8_faultsAt 30 = .ok (.aload_n 0, 1) := by decide +kernel
theorem dX8_faultsAt_31 : decode cX8_faultsAt 31 = .ok (.iload 4, 2) := by decide +kernel
theorem dX8_faultsAt_33 : decode cX8_faultsAt 33 = .ok (.iconst 1, 1) := by decide +kernel
theorem dX8_faultsAt_34 : decode cX8_faultsAt 34 = .ok (.invokevirtual 58, 3) := by decide +kernel
theorem dX8_faultsAt_37 : decode cX8_faultsAt 37 = .ok (.iload_n 2, 1) := by decide +kernel
theorem dX8_faultsAt_38 : decode cX8_faultsAt 38 = .ok (.if_icmp .ne 13, 3) := by decide +kernel
theorem dX8_faultsAt_41 : decode cX8_faultsAt 41 = .ok (.aload_n 0, 1) := by decide +kernel
theorem dX8_faultsAt_42 : decode cX8_faultsAt 42 = .ok (.iload 4, 2) := by decide +kernel
theorem dX8_faultsAt_44 : decode cX8_faultsAt 44 = .ok (.iconst 2, 1) := by decide +kernel
theorem dX8_faultsAt_45 : decode cX8_faultsAt 45 = .ok (.invokevirtual 58, 3) := by decide +kernel
theorem dX8_faultsAt_48 : decode cX8_faultsAt 48 = .ok (.goto 4, 3) := by decide +kernel
theorem dX8_faultsAt_51 : decode cX8_faultsAt 51 = .ok (.iconst 0, 1) := by decide +kernel
theorem dX8_faultsAt_52 : decode cX8_faultsAt 52 = .ok (.iadd, 1) := by decide +kernel
theorem dX8_faultsAt_53 : decode cX8_faultsAt 53 = .ok (.istore_n 3, 1) := by decide +kernel
theorem dX8_faultsAt_54 : decode cX8_faultsAt 54 = .ok (.iinc 4 1, 3) := by decide +kernel
theorem dX8_faultsAt_57 : decode cX8_faultsAt 57 = .ok (.goto (-52), 3) := by decide +kernel
theorem dX8_faultsAt_60 : decode cX8_faultsAt 60 = .ok (.iload_n 3, 1) := by decide +kernel
theorem dX8_faultsAt_61 : decode cX8_faultsAt 61 = .ok (.ireturn, 1) := by decide +kernel
theorem dX8_terminalNow_0 : decode cX8_terminalNow 0 = .ok (.iload_n 3, 1) := by decide +kernel
theorem dX8_terminalNow_1 : decode cX8_terminalNow 1 = .ok (.tableswitch 98 0 4 #[35, 42, 57, 64, 81], 35) := by decide +kernel
theorem dX8_terminalNow_36 : decode cX8_terminalNow 36 = .ok (.aload_n 0, 1) := by decide +kernel
theorem dX8_terminalNow_37 : decode cX8_terminalNow 37 = .ok (.iload_n 1, 1) := by decide +kernel
theorem dX8_terminalNow_38 : decode cX8_terminalNow 38 = .ok (.iload_n 2, 1) := by decide +kernel
theorem dX8_terminalNow_39 : decode cX8_terminalNow 39 = .ok (.invokevirtual 51, 3) := by decide +kernel
theorem dX8_terminalNow_42 : decode cX8_terminalNow 42 = .ok (.ireturn, 1) := by decide +kernel
theorem dX8_terminalNow_43 : decode cX8_terminalNow 43 = .ok (.aload_n 0, 1) := by decide +kernel
theorem dX8_terminalNow_44 : decode cX8_terminalNow 44 = .ok (.iload_n 1, 1) := by decide +kernel
theorem dX8_terminalNow_45 : decode cX8_terminalNow 45 = .ok (.iload_n 2, 1) := by decide +kernel
theorem dX8_terminalNow_46 : decode cX8_terminalNow 46 = .ok (.invokevirtual 61, 3) := by decide +kernel
theorem dX8_terminalNow_49 : decode cX8_terminalNow 49 = .ok (.ifCond .eq 7, 3) := by decide +kernel
theorem dX8_terminalNow_52 : decode cX8_terminalNow 52 = .ok (.iconst 1, 1) := by decide +kernel
theorem dX8_terminalNow_53 : decode cX8_terminalNow 53 = .ok (.goto 4, 3) := by decide +kernel
theorem dX8_terminalNow_56 : decode cX8_terminalNow 56 = .ok (.iconst 0, 1) := by decide +kernel
theorem dX8_terminalNow_57 : decode cX8_terminalNow 57 = .ok (.ireturn, 1) := by decide +kernel
theorem dX8_terminalNow_58 : decode cX8_terminalNow 58 = .ok (.aload_n 0, 1) := by decide +kernel
theorem dX8_terminalNow_59 : decode cX8_terminalNow 59 = .ok (.iload_n 1, 1) := by decide +kernel
theorem dX8_terminalNow_60 : decode cX8_terminalNow 60 = .ok (.iload_n 2, 1) := by decide +kernel
theorem dX8_terminalNow_61 : decode cX8_terminalNow 61 = .ok (.invokevirtual 87, 3) := by decide +kernel
theorem dX8_terminalNow_64 : decode cX8_terminalNow 64 = .ok (.ireturn, 1) := by decide +kernel
theorem dX8_terminalNow_65 : decode cX8_terminalNow 65 = .ok (.iload_n 1, 1) := by decide +kernel
theorem dX8_terminalNow_66 : decode cX8_terminalNow 66 = .ok (.ifCond .ne 7, 3) := by decide +kernel
theorem dX8_terminalNow_69 : decode cX8_terminalNow 69 = .ok (.iconst (-1), 1) := by decide +kernel
theorem dX8_terminalNow_70 : decode cX8_terminalNow 70 = .ok (.goto 11, 3) := by decide +kernel
theorem dX8_terminalNow_73 : decode cX8_terminalNow 73 = .ok (.aload_n 0, 1) := by decide +kernel
theorem dX8_terminalNow_74 : decode cX8_terminalNow 74 = .ok (.iload_n 1, 1) := by decide +kernel
theorem dX8_terminalNow_75 : decode cX8_terminalNow 75 = .ok (.iconst 3, 1) := by decide +kernel
theorem dX8_terminalNow_76 : decode cX8_terminalNow 76 = .ok (.iload_n 2, 1) := by decide +kernel
theorem dX8_terminalNow_77 : decode cX8_terminalNow 77 = .ok (.iadd, 1) := by decide +kernel
theorem dX8_terminalNow_78 : decode cX8_terminalNow 78 = .ok (.invokevirtual 33, 3) := by decide +kernel
theorem dX8_terminalNow_81 : decode cX8_terminalNow 81 = .ok (.ireturn, 1) := by decide +kernel
theorem dX8_terminalNow_82 : decode cX8_terminalNow 82 = .ok (.iload_n 1, 1) := by decide +kernel
theorem dX8_terminalNow_83 : decode cX8_terminalNow 83 = .ok (.ifCond .ne 7, 3) := by decide +kernel
theorem dX8_terminalNow_86 : decode cX8_terminalNow 86 = .ok (.iconst (-1), 1) := by decide +kernel
theorem dX8_terminalNow_87 : decode cX8_terminalNow 87 = .ok (.goto 11, 3) := by decide +kernel
theorem dX8_terminalNow_90 : decode cX8_terminalNow 90 = .ok (.aload_n 0, 1) := by decide +kernel
theorem dX8_terminalNow_91 : decode cX8_terminalNow 91 = .ok (.iload_n 1, 1) := by decide +kernel
theorem dX8_terminalNow_92 : decode cX8_terminalNow 92 = .ok (.iconst 5, 1) := by decide +kernel
theorem dX8_terminalNow_93 : decode cX8_terminalNow 93 = .ok (.iload_n 2, 1) := by decide +kernel
theorem dX8_terminalNow_94 : decode cX8_terminalNow 94 = .ok (.iadd, 1) := by decide +kernel
theorem dX8_terminalNow_95 : decode cX8_terminalNow 95 = .ok (.invokevirtual 33, 3) := by decide +kernel
theorem dX8_terminalNow_98 : decode cX8_terminalNow 98 = .ok (.ireturn, 1) := by decide +kernel
theorem dX8_terminalNow_99 : decode cX8_terminalNow 99 = .ok (.aload_n 0, 1) := by decide +kernel
theorem dX8_terminalNow_100 : decode cX8_terminalNow 100 = .ok (.iload_n 1, 1) := by decide +kernel
theorem dX8_terminalNow_101 : decode cX8_terminalNow 101 = .ok (.iload_n 2, 1) := by decide +kernel
theorem dX8_terminalNow_102 : decode cX8_terminalNow 102 = .ok (.invokevirtual 219, 3) := by decide +kernel
theorem dX8_terminalNow_105 : decode cX8_terminalNow 105 = .ok (.ireturn, 1) := by decide +kernel
theorem dX8_terminal_0 : decode cX8_terminal 0 = .ok (.aload_n 0, 1) := by decide +kernel
theorem dX8_terminal_1 : decode cX8_terminal 1 = .ok (.iload_n 1, 1) := by decide +kernel
theorem dX8_terminal_2 : decode cX8_terminal 2 = .ok (.invokevirtual 105, 3) := by decide +kernel
theorem dX8_terminal_5 : decode cX8_terminal 5 = .ok (.ifCond .eq 14, 3) := by decide +kernel
theorem dX8_terminal_8 : decode cX8_terminal 8 = .ok (.iload_n 2, 1) := by decide +kernel
theorem dX8_terminal_9 : decode cX8_terminal 9 = .ok (.invokestatic 135, 3) := by decide +kernel
theorem dX8_terminal_12 : decode cX8_terminal 12 = .ok (.ifCond .eq 7, 3) := by decide +kernel
theorem dX8_terminal_15 : decode cX8_terminal 15 = .ok (.iconst 1, 1) := by decide +kernel
theorem dX8_terminal_16 : decode cX8_terminal 16 = .ok (.goto 4, 3) := by decide +kernel
theorem dX8_terminal_19 : decode cX8_terminal 19 = .ok (.iconst 0, 1) := by decide +kernel
theorem dX8_terminal_20 : decode cX8_terminal 20 = .ok (.istore 4, 2) := by decide +kernel
theorem dX8_terminal_22 : decode cX8_terminal 22 = .ok (.aload_n 0, 1) := by decide +kernel
theorem dX8_terminal_23 : decode cX8_terminal 23 = .ok (.iload 4, 2) := by decide +kernel
theorem dX8_terminal_25 : decode cX8_terminal 25 = .ok (.ifCond .ne 7, 3) := by decide +kernel
theorem dX8_terminal_28 : decode cX8_terminal 28 = .ok (.iconst 1, 1) := by decide +kernel
theorem dX8_terminal_29 : decode cX8_terminal 29 = .ok (.goto 17, 3) := by decide +kernel
theorem dX8_terminal_32 : decode cX8_terminal 32 = .ok (.iload_n 3, 1) := by decide +kernel
theorem dX8_terminal_33 : decode cX8_terminal 33 = .ok (.iconst 0, 1) := by decide +kernel
theorem dX8_terminal_34 : decode cX8_terminal 34 = .ok (.iconst 5, 1) := by decide +kernel
theorem dX8_terminal_35 : decode cX8_terminal 35 = .ok (.invokestatic 29, 3) := by decide +kernel
theorem dX8_terminal_38 : decode cX8_terminal 38 = .ok (.ifCond .eq 7, 3) := by decide +kernel
theorem dX8_terminal_41 : decode cX8_terminal 41 = .ok (.iconst 0, 1) := by decide +kernel
theorem dX8_terminal_42 : decode cX8_terminal 42 = .ok (.goto 4, 3) := by decide +kernel
theorem dX8_terminal_45 : decode cX8_terminal 45 = .ok (.iconst 2, 1) := by decide +kernel
theorem dX8_terminal_46 : decode cX8_terminal 46 = .ok (.putfield 25, 3) := by decide +kernel
theorem dX8_terminal_49 : decode cX8_terminal 49 = .ok (.aload_n 0, 1) := by decide +kernel
theorem dX8_terminal_50 : decode cX8_terminal 50 = .ok (.getfield 25, 3) := by decide +kernel
theorem dX8_terminal_53 : decode cX8_terminal 53 = .ok (.ifCond .le 7, 3) := by decide +kernel
theorem dX8_terminal_56 : decode cX8_terminal 56 = .ok (.iconst 0, 1) := by decide +kernel
theorem dX8_terminal_57 : decode cX8_terminal 57 = .ok (.goto 10, 3) := by decide +kernel
theorem dX8_terminal_60 : decode cX8_terminal 60 = .ok (.aload_n 0, 1) := by decide +kernel
theorem dX8_terminal_61 : decode cX8_terminal 61 = .ok (.iload_n 1, 1) := by decide +kernel
theorem dX8_terminal_62 : decode cX8_terminal 62 = .ok (.iload_n 2, 1) := by decide +kernel
theorem dX8_terminal_63 : decode cX8_terminal 63 = .ok (.iload_n 3, 1) := by decide +kernel
theorem dX8_terminal_64 : decode cX8_terminal 64 = .ok (.invokevirtual 222, 3) := by decide +kernel
theorem dX8_terminal_67 : decode cX8_terminal 67 = .ok (.ireturn, 1) := by decide +kernel
theorem dX8_lanternNow_0 : decode cX8_lanternNow 0 = .ok (.iload_n 2, 1) := by decide +kernel
theorem dX8_lanternNow_1 : decode cX8_lanternNow 1 = .ok (.iconst 3, 1) := by decide +kernel
theorem dX8_lanternNow_2 : decode cX8_lanternNow 2 = .ok (.if_icmp .ne 11, 3) := by decide +kernel
theorem dX8_lanternNow_5 : decode cX8_lanternNow 5 = .ok (.aload_n 0, 1) := by decide +kernel
theorem dX8_lanternNow_6 : decode cX8_lanternNow 6 = .ok (.iload_n 1, 1) := by decide +kernel
theorem dX8_lanternNow_7 : decode cX8_lanternNow 7 = .ok (.invokevirtual 54, 3) := by decide +kernel
theorem dX8_lanternNow_10 : decode cX8_lanternNow 10 = .ok (.goto 9, 3) := by decide +kernel
theorem dX8_lanternNow_13 : decode cX8_lanternNow 13 = .ok (.aload_n 0, 1) := by decide +kernel
theorem dX8_lanternNow_14 : decode cX8_lanternNow 14 = .ok (.iload_n 1, 1) := by decide +kernel
theorem dX8_lanternNow_15 : decode cX8_lanternNow 15 = .ok (.iload_n 2, 1) := by decide +kernel
theorem dX8_lanternNow_16 : decode cX8_lanternNow 16 = .ok (.invokevirtual 48, 3) := by decide +kernel
theorem dX8_lanternNow_19 : decode cX8_lanternNow 19 = .ok (.ireturn, 1) := by decide +kernel
theorem dX8_lantern_0 : decode cX8_lantern 0 = .ok (.aload_n 0, 1) := by decide +kernel
theorem dX8_lantern_1 : decode cX8_lantern 1 = .ok (.aload_n 0, 1) := by decide +kernel
theorem dX8_lantern_2 : decode cX8_lantern 2 = .ok (.iload_n 1, 1) := by decide +kernel
theorem dX8_lantern_3 : decode cX8_lantern 3 = .ok (.invokevirtual 145, 3) := by decide +kernel
theorem dX8_lantern_6 : decode cX8_lantern 6 = .ok (.ifCond .ne 7, 3) := by decide +kernel
theorem dX8_lantern_9 : decode cX8_lantern 9 = .ok (.iconst 1, 1) := by decide +kernel
theorem dX8_lantern_10 : decode cX8_lantern 10 = .ok (.goto 17, 3) := by decide +kernel
theorem dX8_lantern_13 : decode cX8_lantern 13 = .ok (.iload_n 2, 1) := by decide +kernel
theorem dX8_lantern_14 : decode cX8_lantern 14 = .ok (.iconst 0, 1) := by decide +kernel
theorem dX8_lantern_15 : decode cX8_lantern 15 = .ok (.iconst 3, 1) := by decide +kernel
theorem dX8_lantern_16 : decode cX8_lantern 16 = .ok (.invokestatic 29, 3) := by decide +kernel
theorem dX8_lantern_19 : decode cX8_lantern 19 = .ok (.ifCond .eq 7, 3) := by decide +kernel
theorem dX8_lantern_22 : decode cX8_lantern 22 = .ok (.iconst 0, 1) := by decide +kernel
theorem dX8_lantern_23 : decode cX8_lantern 23 = .ok (.goto 4, 3) := by decide +kernel
theorem dX8_lantern_26 : decode cX8_lantern 26 = .ok (.iconst 2, 1) := by decide +kernel
theorem dX8_lantern_27 : decode cX8_lantern 27 = .ok (.putfield 25, 3) := by decide +kernel
theorem dX8_lantern_30 : decode cX8_lantern 30 = .ok (.aload_n 0, 1) := by decide +kernel
theorem dX8_lantern_31 : decode cX8_lantern 31 = .ok (.getfield 25, 3) := by decide +kernel
theorem dX8_lantern_34 : decode cX8_lantern 34 = .ok (.ifCond .le 7, 3) := by decide +kernel
theorem dX8_lantern_37 : decode cX8_lantern 37 = .ok (.iconst 0, 1) := by decide +kernel
theorem dX8_lantern_38 : decode cX8_lantern 38 = .ok (.goto 9, 3) := by decide +kernel
theorem dX8_lantern_41 : decode cX8_lantern 41 = .ok (.aload_n 0, 1) := by decide +kernel
theorem dX8_lantern_42 : decode cX8_lantern 42 = .ok (.iload_n 1, 1) := by decide +kernel
theorem dX8_lantern_43 : decode cX8_lantern 43 = .ok (.iload_n 2, 1) := by decide +kernel
theorem dX8_lantern_44 : decode cX8_lantern 44 = .ok (.invokevirtual 225, 3) := by decide +kernel
theorem dX8_lantern_47 : decode cX8_lantern 47 = .ok (.ireturn, 1) := by decide +kernel
theorem dX8_faultNow_0 : decode cX8_faultNow 0 = .ok (.iload_n 2, 1) := by decide +kernel
theorem dX8_faultNow_1 : decode cX8_faultNow 1 = .ok (.iconst 3, 1) := by decide +kernel
theorem dX8_faultNow_2 : decode cX8_faultNow 2 = .ok (.if_icmp .ge 12, 3) := by decide +kernel
theorem dX8_faultNow_5 : decode cX8_faultNow 5 = .ok (.aload_n 0, 1) := by decide +kernel
theorem dX8_faultNow_6 : decode cX8_faultNow 6 = .ok (.iload_n 1, 1) := by decide +kernel
theorem dX8_faultNow_7 : decode cX8_faultNow 7 = .ok (.iload_n 2, 1) := by decide +kernel
theorem dX8_faultNow_8 : decode cX8_faultNow 8 = .ok (.invokevirtual 58, 3) := by decide +kernel
theorem dX8_faultNow_11 : decode cX8_faultNow 11 = .ok (.goto 21, 3) := by decide +kernel
theorem dX8_faultNow_14 : decode cX8_faultNow 14 = .ok (.iload_n 2, 1) := by decide +kernel
theorem dX8_faultNow_15 : decode cX8_faultNow 15 = .ok (.iconst 3, 1) := by decide +kernel
theorem dX8_faultNow_16 : decode cX8_faultNow 16 = .ok (.if_icmp .ne 11, 3) := by decide +kernel
theorem dX8_faultNow_19 : decode cX8_faultNow 19 = .ok (.aload_n 0, 1) := by decide +kernel
theorem dX8_faultNow_20 : decode cX8_faultNow 20 = .ok (.iload_n 1, 1) := by decide +kernel
theorem dX8_faultNow_21 : decode cX8_faultNow 21 = .ok (.invokevirtual 67, 3) := by decide +kernel
theorem dX8_faultNow_24 : decode cX8_faultNow 24 = .ok (.goto 8, 3) := by decide +kernel
theorem dX8_faultNow_27 : decode cX8_faultNow 27 = .ok (.aload_n 0, 1) := by decide +kernel
theorem dX8_faultNow_28 : decode cX8_faultNow 28 = .ok (.iload_n 1, 1) := by decide +kernel
theorem dX8_faultNow_29 : decode cX8_faultNow 29 = .ok (.invokevirtual 84, 3) := by decide +kernel
theorem dX8_faultNow_32 : decode cX8_faultNow 32 = .ok (.ireturn, 1) := by decide +kernel
theorem dX8_faultAt_0 : decode cX8_faultAt 0 = .ok (.aload_n 0, 1) := by decide +kernel
theorem dX8_faultAt_1 : decode cX8_faultAt 1 = .ok (.aload_n 0, 1) := by decide +kernel
theorem dX8_faultAt_2 : decode cX8_faultAt 2 = .ok (.iload_n 1, 1) := by decide +kernel
theorem dX8_faultAt_3 : decode cX8_faultAt 3 = .ok (.invokevirtual 155, 3) := by decide +kernel
theorem dX8_faultAt_6 : decode cX8_faultAt 6 = .ok (.ifCond .ne 7, 3) := by decide +kernel
theorem dX8_faultAt_9 : decode cX8_faultAt 9 = .ok (.iconst 1, 1) := by decide +kernel
theorem dX8_faultAt_10 : decode cX8_faultAt 10 = .ok (.goto 17, 3) := by decide +kernel
theorem dX8_faultAt_13 : decode cX8_faultAt 13 = .ok (.iload_n 2, 1) := by decide +kernel
theorem dX8_faultAt_14 : decode cX8_faultAt 14 = .ok (.iconst 0, 1) := by decide +kernel
theorem dX8_faultAt_15 : decode cX8_faultAt 15 = .ok (.iconst 4, 1) := by decide +kernel
theorem dX8_faultAt_16 : decode cX8_faultAt 16 = .ok (.invokestatic 29, 3) := by decide +kernel
theorem dX8_faultAt_19 : decode cX8_faultAt 19 = .ok (.ifCond .eq 7, 3) := by decide +kernel
theorem dX8_faultAt_22 : decode cX8_faultAt 22 = .ok (.iconst 0, 1) := by decide +kernel
theorem dX8_faultAt_23 : decode cX8_faultAt 23 = .ok (.goto 4, 3) := by decide +kernel
theorem dX8_faultAt_26 : decode cX8_faultAt 26 = .ok (.iconst 2, 1) := by decide +kernel
theorem dX8_faultAt_27 : decode cX8_faultAt 27 = .ok (.putfield 25, 3) := by decide +kernel
theorem dX8_faultAt_30 : decode cX8_faultAt 30 = .ok (.aload_n 0, 1) := by decide +kernel
theorem dX8_faultAt_31 : decode cX8_faultAt 31 = .ok (.getfield 25, 3) := by decide +kernel
theorem dX8_faultAt_34 : decode cX8_faultAt 34 = .ok (.ifCond .le 7, 3) := by decide +kernel
theorem dX8_faultAt_37 : decode cX8_faultAt 37 = .ok (.iconst 0, 1) := by decide +kernel
theorem dX8_faultAt_38 : decode cX8_faultAt 38 = .ok (.goto 9, 3) := by decide +kernel
theorem dX8_faultAt_41 : decode cX8_faultAt 41 = .ok (.aload_n 0, 1) := by decide +kernel
theorem dX8_faultAt_42 : decode cX8_faultAt 42 = .ok (.iload_n 1, 1) := by decide +kernel
theorem dX8_faultAt_43 : decode cX8_faultAt 43 = .ok (.iload_n 2, 1) := by decide +kernel
theorem dX8_faultAt_44 : decode cX8_faultAt 44 = .ok (.invokevirtual 228, 3) := by decide +kernel
theorem dX8_faultAt_47 : decode cX8_faultAt 47 = .ok (.ireturn, 1) := by decide +kernel
theorem dX8_blownNow_0 : decode cX8_blownNow 0 = .ok (.iconst 0, 1) := by decide +kernel
theorem dX8_blownNow_1 : decode cX8_blownNow 1 = .ok (.istore_n 1, 1) := by decide +kernel
theorem dX8_blownNow_2 : decode cX8_blownNow 2 = .ok (.iconst 2, 1) := by decide +kernel
theorem dX8_blownNow_3 : decode cX8_blownNow 3 = .ok (.istore_n 2, 1) := by decide +kernel
theorem dX8_blownNow_4 : decode cX8_blownNow 4 = .ok (.iload_n 2, 1) := by decide +kernel
theorem dX8_blownNow_5 : decode cX8_blownNow 5 = .ok (.iconst 2, 1) := by decide +kernel
theorem dX8_blownNow_6 : decode cX8_blownNow 6 = .ok (.aload_n 0, 1) := by decide +kernel
theorem dX8_blownNow_7 : decode cX8_blownNow 7 = .ok (.getfield 7, 3) := by decide +kernel
theorem dX8_blownNow_10 : decode cX8_blownNow 10 = .ok (.iconst 0, 1) := by decide +kernel
theorem dX8_blownNow_11 : decode cX8_blownNow 11 = .ok (.iaload, 1) := by decide +kernel
theorem dX8_blownNow_12 : decode cX8_blownNow 12 = .ok (.imul, 1) := by decide +kernel
theorem dX8_blownNow_13 : decode cX8_blownNow 13 = .ok (.if_icmp .ge 24, 3) := by decide +kernel
theorem dX8_blownNow_16 : decode cX8_blownNow 16 = .ok (.iload_n 1, 1) := by decide +kernel
theorem dX8_blownNow_17 : decode cX8_blownNow 17 = .ok (.aload_n 0, 1) := by decide +kernel
theorem dX8_blownNow_18 : decode cX8_blownNow 18 = .ok (.iload_n 2, 1) := by decide +kernel
theorem dX8_blownNow_19 : decode cX8_blownNow 19 = .ok (.iconst 2, 1) := by decide +kernel
theorem dX8_blownNow_20 : decode cX8_blownNow 20 = .ok (.idiv, 1) := by decide +kernel
theorem dX8_blownNow_21 : decode cX8_blownNow 21 = .ok (.iconst 5, 1) := by decide +kernel
theorem dX8_blownNow_22 : decode cX8_blownNow 22 = .ok (.iload_n 2, 1) := by decide +kernel
theorem dX8_blownNow_23 : decode cX8_blownNow 23 = .ok (.iconst 2, 1) := by decide +kernel
theorem dX8_blownNow_24 : decode cX8_blownNow 24 = .ok (.irem, 1) := by decide +kernel
theorem dX8_blownNow_25 : decode cX8_blownNow 25 = .ok (.iadd, 1) := by decide +kernel
theorem dX8_blownNow_26 : decode cX8_blownNow 26 = .ok (.invokevirtual 33, 3) := by decide +kernel
theorem dX8_blownNow_29 : decode cX8_blownNow 29 = .ok (.iadd, 1) := by decide +kernel
theorem dX8_blownNow_30 : decode cX8_blownNow 30 = .ok (.istore_n 1, 1) := by decide +kernel
theorem dX8_blownNow_31 : decode cX8_blownNow 31 = .ok (.iinc 2 1, 3) := by decide +kernel
theorem dX8_blownNow_34 : decode cX8_blownNow 34 = .ok (.goto (-30), 3) := by decide +kernel
theorem dX8_blownNow_37 : decode cX8_blownNow 37 = .ok (.iload_n 1, 1) := by decide +kernel
theorem dX8_blownNow_38 : decode cX8_blownNow 38 = .ok (.ireturn, 1) := by decide +kernel
theorem dX8_counted_0 : decode cX8_counted 0 = .ok (.iload_n 1, 1) := by decide +kernel
theorem dX8_counted_1 : decode cX8_counted 1 = .ok (.tableswitch 143 0 10 #[59, 66, 74, 79, 88, 93, 98, 107, 116, 125, 134], 59) := by decide +kernel
theorem dX8_counted_60 : decode cX8_counted 60 = .ok (.aload_n 0, 1) := by decide +kernel
theorem dX8_counted_61 : decode cX8_counted 61 = .ok (.getfield 7, 3) := by decide +kernel
theorem dX8_counted_64 : decode cX8_counted 64 = .ok (.iconst 0, 1) := by decide +kernel
theorem dX8_counted_65 : decode cX8_counted 65 = .ok (.iaload, 1) := by decide +kernel
theorem dX8_counted_66 : decode cX8_counted 66 = .ok (.ireturn, 1) := by decide +kernel
theorem dX8_counted_67 : decode cX8_counted 67 = .ok (.aload_n 0, 1) := by decide +kernel
theorem dX8_counted_68 : decode cX8_counted 68 = .ok (.getfield 7, 3) := by decide +kernel
theorem dX8_counted_71 : decode cX8_counted 71 = .ok (.bipush 85, 2) := by decide +kernel
theorem dX8_counted_73 : decode cX8_counted 73 = .ok (.iaload, 1) := by decide +kernel
theorem dX8_counted_74 : decode cX8_counted 74 = .ok (.ireturn, 1) := by decide +kernel
theorem dX8_counted_75 : decode cX8_counted 75 = .ok (.aload_n 0, 1) := by decide +kernel
theorem dX8_counted_76 : decode cX8_counted 76 = .ok (.invokevirtual 132, 3) := by decide +kernel
theorem dX8_counted_79 : decode cX8_counted 79 = .ok (.ireturn, 1) := by decide +kernel
theorem dX8_counted_80 : decode cX8_counted 80 = .ok (.aload_n 0, 1) := by decide +kernel
theorem dX8_counted_81 : decode cX8_counted 81 = .ok (.getfield 7, 3) := by decide +kernel
theorem dX8_counted_84 : decode cX8_counted 84 = .ok (.sipush 134, 3) := by decide +kernel
theorem dX8_counted_87 : decode cX8_counted 87 = .ok (.iaload, 1) := by decide +kernel
theorem dX8_counted_88 : decode cX8_counted 88 = .ok (.ireturn, 1) := by decide +kernel
theorem dX8_counted_89 : decode cX8_counted 89 = .ok (.aload_n 0, 1) := by decide +kernel
theorem dX8_counted_90 : decode cX8_counted 90 = .ok (.invokevirtual 73, 3) := by decide +kernel
theorem dX8_counted_93 : decode cX8_counted 93 = .ok (.ireturn, 1) := by decide +kernel
theorem dX8_counted_94 : decode cX8_counted 94 = .ok (.aload_n 0, 1) := by decide +kernel
theorem dX8_counted_95 : decode cX8_counted 95 = .ok (.invokevirtual 231, 3) := by decide +kernel
theorem dX8_counted_98 : decode cX8_counted 98 = .ok (.ireturn, 1) := by decide +kernel
theorem dX8_counted_99 : decode cX8_counted 99 = .ok (.aload_n 0, 1) := by decide +kernel
theorem dX8_counted_100 : decode cX8_counted 100 = .ok (.getfield 7, 3) := by decide +kernel
theorem dX8_counted_103 : decode cX8_counted 103 = .ok (.sipush 162, 3) := by decide +kernel
theorem dX8_counted_106 : decode cX8_counted 106 = .ok (.iaload, 1) := by decide +kernel
theorem dX8_counted_107 : decode cX8_counted 107 = .ok (.ireturn, 1) := by decide +kernel
theorem dX8_counted_108 : decode cX8_counted 108 = .ok (.aload_n 0, 1) := by decide +kernel
theorem dX8_counted_109 : decode cX8_counted 109 = .ok (.getfield 7, 3) := by decide +kernel
theorem dX8_counted_112 : decode cX8_counted 112 = .ok (.sipush 163, 3) := by decide +kernel
theorem dX8_counted_115 : decode cX8_counted 115 = .ok (.iaload, 1) := by decide +kernel
theorem dX8_counted_116 : decode cX8_counted 116 = .ok (.ireturn, 1) := by decide +kernel
theorem dX8_counted_117 : decode cX8_counted 117 = .ok (.aload_n 0, 1) := by decide +kernel
theorem dX8_counted_118 : decode cX8_counted 118 = .ok (.getfield 7, 3) := by decide +kernel
theorem dX8_counted_121 : decode cX8_counted 121 = .ok (.sipush 164, 3) := by decide +kernel
theorem dX8_counted_124 : decode cX8_counted 124 = .ok (.iaload, 1) := by decide +kernel
theorem dX8_counted_125 : decode cX8_counted 125 = .ok (.ireturn, 1) := by decide +kernel
theorem dX8_counted_126 : decode cX8_counted 126 = .ok (.aload_n 0, 1) := by decide +kernel
theorem dX8_counted_127 : decode cX8_counted 127 = .ok (.getfield 7, 3) := by decide +kernel
theorem dX8_counted_130 : decode cX8_counted 130 = .ok (.sipush 165, 3) := by decide +kernel
theorem dX8_counted_133 : decode cX8_counted 133 = .ok (.iaload, 1) := by decide +kernel
theorem dX8_counted_134 : decode cX8_counted 134 = .ok (.ireturn, 1) := by decide +kernel
theorem dX8_counted_135 : decode cX8_counted 135 = .ok (.aload_n 0, 1) := by decide +kernel
theorem dX8_counted_136 : decode cX8_counted 136 = .ok (.getfield 7, 3) := by decide +kernel
theorem dX8_counted_139 : decode cX8_counted 139 = .ok (.sipush 166, 3) := by decide +kernel
theorem dX8_counted_142 : decode cX8_counted 142 = .ok (.iaload, 1) := by decide +kernel
theorem dX8_counted_143 : decode cX8_counted 143 = .ok (.ireturn, 1) := by decide +kernel
theorem dX8_counted_144 : decode cX8_counted 144 = .ok (.aload_n 0, 1) := by decide +kernel
theorem dX8_counted_145 : decode cX8_counted 145 = .ok (.getfield 102, 3) := by decide +kernel
theorem dX8_counted_148 : decode cX8_counted 148 = .ok (.ireturn, 1) := by decide +kernel
theorem dX8_count_0 : decode cX8_count 0 = .ok (.aload_n 0, 1) := by decide +kernel
theorem dX8_count_1 : decode cX8_count 1 = .ok (.iload_n 1, 1) := by decide +kernel
theorem dX8_count_2 : decode cX8_count 2 = .ok (.iconst 0, 1) := by decide +kernel
theorem dX8_count_3 : decode cX8_count 3 = .ok (.bipush 11, 2) := by decide +kernel
theorem dX8_count_5 : decode cX8_count 5 = .ok (.invokestatic 29, 3) := by decide +kernel
theorem dX8_count_8 : decode cX8_count 8 = .ok (.ifCond .eq 7, 3) := by decide +kernel
theorem dX8_count_11 : decode cX8_count 11 = .ok (.iconst 0, 1) := by decide +kernel
theorem dX8_count_12 : decode cX8_count 12 = .ok (.goto 4, 3) := by decide +kernel
theorem dX8_count_15 : decode cX8_count 15 = .ok (.iconst 1, 1) := by decide +kernel
theorem dX8_count_16 : decode cX8_count 16 = .ok (.putfield 25, 3) := by decide +kernel
theorem dX8_count_19 : decode cX8_count 19 = .ok (.aload_n 0, 1) := by decide +kernel
theorem dX8_count_20 : decode cX8_count 20 = .ok (.getfield 25, 3) := by decide +kernel
theorem dX8_count_23 : decode cX8_count 23 = .ok (.ifCond .le 7, 3) := by decide +kernel
theorem dX8_count_26 : decode cX8_count 26 = .ok (.iconst 0, 1) := by decide +kernel
theorem dX8_count_27 : decode cX8_count 27 = .ok (.goto 8, 3) := by decide +kernel
theorem dX8_count_30 : decode cX8_count 30 = .ok (.aload_n 0, 1) := by decide +kernel
theorem dX8_count_31 : decode cX8_count 31 = .ok (.iload_n 1, 1) := by decide +kernel
theorem dX8_count_32 : decode cX8_count 32 = .ok (.invokevirtual 234, 3) := by decide +kernel
theorem dX8_count_35 : decode cX8_count 35 = .ok (.ireturn, 1) := by decide +kernel
theorem dX8_lamp_0 : decode cX8_lamp 0 = .ok (.aload_n 0, 1) := by decide +kernel
theorem dX8_lamp_1 : decode cX8_lamp 1 = .ok (.iload_n 1, 1) := by decide +kernel
theorem dX8_lamp_2 : decode cX8_lamp 2 = .ok (.invokestatic 135, 3) := by decide +kernel
theorem dX8_lamp_5 : decode cX8_lamp 5 = .ok (.ifCond .eq 7, 3) := by decide +kernel
theorem dX8_lamp_8 : decode cX8_lamp 8 = .ok (.iconst 0, 1) := by decide +kernel
theorem dX8_lamp_9 : decode cX8_lamp 9 = .ok (.goto 4, 3) := by decide +kernel
theorem dX8_lamp_12 : decode cX8_lamp 12 = .ok (.iconst 1, 1) := by decide +kernel
theorem dX8_lamp_13 : decode cX8_lamp 13 = .ok (.putfield 25, 3) := by decide +kernel
theorem dX8_lamp_16 : decode cX8_lamp 16 = .ok (.aload_n 0, 1) := by decide +kernel
theorem dX8_lamp_17 : decode cX8_lamp 17 = .ok (.getfield 25, 3) := by decide +kernel
theorem dX8_lamp_20 : decode cX8_lamp 20 = .ok (.ifCond .le 7, 3) := by decide +kernel
theorem dX8_lamp_23 : decode cX8_lamp 23 = .ok (.iconst 0, 1) := by decide +kernel
theorem dX8_lamp_24 : decode cX8_lamp 24 = .ok (.goto 8, 3) := by decide +kernel
theorem dX8_lamp_27 : decode cX8_lamp 27 = .ok (.aload_n 0, 1) := by decide +kernel
theorem dX8_lamp_28 : decode cX8_lamp 28 = .ok (.iload_n 1, 1) := by decide +kernel
theorem dX8_lamp_29 : decode cX8_lamp 29 = .ok (.invokevirtual 70, 3) := by decide +kernel
theorem dX8_lamp_32 : decode cX8_lamp 32 = .ok (.ireturn, 1) := by decide +kernel
theorem dX8_located_0 : decode cX8_located 0 = .ok (.aload_n 0, 1) := by decide +kernel
theorem dX8_located_1 : decode cX8_located 1 = .ok (.iload_n 1, 1) := by decide +kernel
theorem dX8_located_2 : decode cX8_located 2 = .ok (.invokevirtual 70, 3) := by decide +kernel
theorem dX8_located_5 : decode cX8_located 5 = .ok (.istore_n 2, 1) := by decide +kernel
theorem dX8_located_6 : decode cX8_located 6 = .ok (.iconst 0, 1) := by decide +kernel
theorem dX8_located_7 : decode cX8_located 7 = .ok (.istore_n 3, 1) := by decide +kernel
theorem dX8_located_8 : decode cX8_located 8 = .ok (.iconst 1, 1) := by decide +kernel
theorem dX8_located_9 : decode cX8_located 9 = .ok (.istore 4, 2) := by decide +kernel
theorem dX8_located_11 : decode cX8_located 11 = .ok (.iload 4, 2) := by decide +kernel
theorem dX8_located_13 : decode cX8_located 13 = .ok (.aload_n 0, 1) := by decide +kernel
theorem dX8_located_14 : decode cX8_located 14 = .ok (.getfield 7, 3) := by decide +kernel
theorem dX8_located_17 : decode cX8_located 17 = .ok (.iconst 0, 1) := by decide +kernel
theorem dX8_located_18 : decode cX8_located 18 = .ok (.iaload, 1) := by decide +kernel
theorem dX8_located_19 : decode cX8_located 19 = .ok (.if_icmp .ge 70, 3) := by decide +kernel
theorem dX8_located_22 : decode cX8_located 22 = .ok (.aload_n 0, 1) := by decide +kernel
theorem dX8_located_23 : decode cX8_located 23 = .ok (.iload 4, 2) := by decide +kernel
theorem dX8_located_25 : decode cX8_located 25 = .ok (.iconst 2, 1) := by decide +kernel
theorem dX8_located_26 : decode cX8_located 26 = .ok (.invokevirtual 33, 3) := by decide +kernel
theorem dX8_located_29 : decode cX8_located 29 = .ok (.iconst 1, 1) := by decide +kernel
theorem dX8_located_30 : decode cX8_located 30 = .ok (.if_icmp .ne 53, 3) := by decide +kernel
theorem dX8_located_33 : decode cX8_located 33 = .ok (.aload_n 0, 1) := by decide +kernel
theorem dX8_located_34 : decode cX8_located 34 = .ok (.getfield 7, 3) := by decide +kernel
theorem dX8_located_37 : decode cX8_located 37 = .ok (.iconst 1, 1) := by decide +kernel
theorem dX8_located_38 : decode cX8_located 38 = .ok (.bipush 7, 2) := by decide +kernel
theorem dX8_located_40 : decode cX8_located 40 = .ok (.iload 4, 2) := by decide +kernel
theorem dX8_located_42 : decode cX8_located 42 = .ok (.imul, 1) := by decide +kernel
theorem dX8_located_43 : decode cX8_located 43 = .ok (.iadd, 1) := by decide +kernel
theorem dX8_located_44 : decode cX8_located 44 = .ok (.iconst 2, 1) := by decide +kernel
theorem dX8_located_45 : decode cX8_located 45 = .ok (.iadd, 1) := by decide +kernel
theorem dX8_located_46 : decode cX8_located 46 = .ok (.iconst 0, 1) := by decide +kernel
theorem dX8_located_47 : decode cX8_located 47 = .ok (.iastore, 1) := by decide +kernel
theorem dX8_located_48 : decode cX8_located 48 = .ok (.iload_n 3, 1) := by decide +kernel
theorem dX8_located_49 : decode cX8_located 49 = .ok (.aload_n 0, 1) := by decide +kernel
theorem dX8_located_50 : decode cX8_located 50 = .ok (.iload_n 1, 1) := by decide +kernel
theorem dX8_located_51 : decode cX8_located 51 = .ok (.invokevirtual 70, 3) := by decide +kernel
theorem dX8_located_54 : decode cX8_located 54 = .ok (.iload_n 2, 1) := by decide +kernel
theorem dX8_located_55 : decode cX8_located 55 = .ok (.if_icmp .eq 10, 3) := by decide +kernel
theorem dX8_located_58 : decode cX8_located 58 = .ok (.iconst 1, 1) := by decide +kernel
theorem dX8_located_59 : decode cX8_located 59 = .ok (.iload 4, 2) := by decide +kernel
theorem dX8_located_61 : decode cX8_located 61 = .ok (.ishl, 1) := by decide +kernel
theorem dX8_located_62 : decode cX8_located 62 = .ok (.goto 4, 3) := by decide +kernel
theorem dX8_located_65 : decode cX8_located 65 = .ok (.iconst 0, 1) := by decide +kernel
theorem dX8_located_66 : decode cX8_located 66 = .ok (.ior, 1) := by decide +kernel
theorem dX8_located_67 : decode cX8_located 67 = .ok (.istore_n 3, 1) := by decide +kernel
theorem dX8_located_68 : decode cX8_located 68 = .ok (.aload_n 0, 1) := by decide +kernel
theorem dX8_located_69 : decode cX8_located 69 = .ok (.getfield 7, 3) := by decide +kernel
theorem dX8_located_72 : decode cX8_located 72 = .ok (.iconst 1, 1) := by decide +kernel
theorem dX8_located_73 : decode cX8_located 73 = .ok (.bipush 7, 2) := by decide +kernel
theorem dX8_located_75 : decode cX8_located 75 = .ok (.iload 4, 2) := by decide +kernel
theorem dX8_located_77 : decode cX8_located 77 = .ok (.imul, 1) := by decide +kernel
theorem dX8_located_78 : decode cX8_located 78 = .ok (.iadd, 1) := by decide +kernel
theorem dX8_located_79 : decode cX8_located 79 = .ok (.iconst 2, 1) := by decide +kernel
theorem dX8_located_80 : decode cX8_located 80 = .ok (.iadd, 1) := by decide +kernel
theorem dX8_located_81 : decode cX8_located 81 = .ok (.iconst 1, 1) := by decide +kernel
theorem dX8_located_82 : decode cX8_located 82 = .ok (.iastore, 1) := by decide +kernel
theorem dX8_located_83 : decode cX8_located 83 = .ok (.iinc 4 1, 3) := by decide +kernel
theorem dX8_located_86 : decode cX8_located 86 = .ok (.goto (-75), 3) := by decide +kernel
theorem dX8_located_89 : decode cX8_located 89 = .ok (.iload_n 3, 1) := by decide +kernel
theorem dX8_located_90 : decode cX8_located 90 = .ok (.ireturn, 1) := by decide +kernel
theorem dX8_locate_0 : decode cX8_locate 0 = .ok (.aload_n 0, 1) := by decide +kernel
theorem dX8_locate_1 : decode cX8_locate 1 = .ok (.iload_n 1, 1) := by decide +kernel
theorem dX8_locate_2 : decode cX8_locate 2 = .ok (.invokestatic 135, 3) := by decide +kernel
theorem dX8_locate_5 : decode cX8_locate 5 = .ok (.ifCond .eq 7, 3) := by decide +kernel
theorem dX8_locate_8 : decode cX8_locate 8 = .ok (.iconst 0, 1) := by decide +kernel
theorem dX8_locate_9 : decode cX8_locate 9 = .ok (.goto 4, 3) := by decide +kernel
theorem dX8_locate_12 : decode cX8_locate 12 = .ok (.iconst 1, 1) := by decide +kernel
theorem dX8_locate_13 : decode cX8_locate 13 = .ok (.putfield 25, 3) := by decide +kernel
theorem dX8_locate_16 : decode cX8_locate 16 = .ok (.aload_n 0, 1) := by decide +kernel
theorem dX8_locate_17 : decode cX8_locate 17 = .ok (.getfield 25, 3) := by decide +kernel
theorem dX8_locate_20 : decode cX8_locate 20 = .ok (.ifCond .le 7, 3) := by decide +kernel
theorem dX8_locate_23 : decode cX8_locate 23 = .ok (.iconst 0, 1) := by decide +kernel
theorem dX8_locate_24 : decode cX8_locate 24 = .ok (.goto 8, 3) := by decide +kernel
theorem dX8_locate_27 : decode cX8_locate 27 = .ok (.aload_n 0, 1) := by decide +kernel
theorem dX8_locate_28 : decode cX8_locate 28 = .ok (.iload_n 1, 1) := by decide +kernel
theorem dX8_locate_29 : decode cX8_locate 29 = .ok (.invokevirtual 237, 3) := by decide +kernel
theorem dX8_locate_32 : decode cX8_locate 32 = .ok (.ireturn, 1) := by decide +kernel
theorem dX8_faultAnswer_0 : decode cX8_faultAnswer 0 = .ok (.iload_n 1, 1) := by decide +kernel
theorem dX8_faultAnswer_1 : decode cX8_faultAnswer 1 = .ok (.tableswitch 42 0 2 #[27, 32, 37], 27) := by decide +kernel
theorem dX8_faultAnswer_28 : decode cX8_faultAnswer 28 = .ok (.aload_n 0, 1) := by decide +kernel
theorem dX8_faultAnswer_29 : decode cX8_faultAnswer 29 = .ok (.getfield 93, 3) := by decide +kernel
theorem dX8_faultAnswer_32 : decode cX8_faultAnswer 32 = .ok (.ireturn, 1) := by decide +kernel
theorem dX8_faultAnswer_33 : decode cX8_faultAnswer 33 = .ok (.aload_n 0, 1) := by decide +kernel
theorem dX8_faultAnswer_34 : decode cX8_faultAnswer 34 = .ok (.invokevirtual 132, 3) := by decide +kernel
theorem dX8_faultAnswer_37 : decode cX8_faultAnswer 37 = .ok (.ireturn, 1) := by decide +kernel
theorem dX8_faultAnswer_38 : decode cX8_faultAnswer 38 = .ok (.aload_n 0, 1) := by decide +kernel
theorem dX8_faultAnswer_39 : decode cX8_faultAnswer 39 = .ok (.invokevirtual 73, 3) := by decide +kernel
theorem dX8_faultAnswer_42 : decode cX8_faultAnswer 42 = .ok (.ireturn, 1) := by decide +kernel
theorem dX8_faultAnswer_43 : decode cX8_faultAnswer 43 = .ok (.aload_n 0, 1) := by decide +kernel
theorem dX8_faultAnswer_44 : decode cX8_faultAnswer 44 = .ok (.getfield 96, 3) := by decide +kernel
theorem dX8_faultAnswer_47 : decode cX8_faultAnswer 47 = .ok (.iconst (-1), 1) := by decide +kernel
theorem dX8_faultAnswer_48 : decode cX8_faultAnswer 48 = .ok (.if_icmp .ne 7, 3) := by decide +kernel
theorem dX8_faultAnswer_51 : decode cX8_faultAnswer 51 = .ok (.iconst (-1), 1) := by decide +kernel
theorem dX8_faultAnswer_52 : decode cX8_faultAnswer 52 = .ok (.goto 22, 3) := by decide +kernel
theorem dX8_faultAnswer_55 : decode cX8_faultAnswer 55 = .ok (.bipush 100, 2) := by decide +kernel
theorem dX8_faultAnswer_57 : decode cX8_faultAnswer 57 = .ok (.aload_n 0, 1) := by decide +kernel
theorem dX8_faultAnswer_58 : decode cX8_faultAnswer 58 = .ok (.getfield 96, 3) := by decide +kernel
theorem dX8_faultAnswer_61 : decode cX8_faultAnswer 61 = .ok (.iconst 2, 1) := by decide +kernel
theorem dX8_faultAnswer_62 : decode cX8_faultAnswer 62 = .ok (.idiv, 1) := by decide +kernel
theorem dX8_faultAnswer_63 : decode cX8_faultAnswer 63 = .ok (.imul, 1) := by decide +kernel
theorem dX8_faultAnswer_64 : decode cX8_faultAnswer 64 = .ok (.bipush 10, 2) := by decide +kernel
theorem dX8_faultAnswer_66 : decode cX8_faultAnswer 66 = .ok (.aload_n 0, 1) := by decide +kernel
theorem dX8_faultAnswer_67 : decode cX8_faultAnswer 67 = .ok (.getfield 96, 3) := by decide +kernel
theorem dX8_faultAnswer_70 : decode cX8_faultAnswer 70 = .ok (.iconst 2, 1) := by decide +kernel
theorem dX8_faultAnswer_71 : decode cX8_faultAnswer 71 = .ok (.irem, 1) := by decide +kernel
theorem dX8_faultAnswer_72 : decode cX8_faultAnswer 72 = .ok (.imul, 1) := by decide +kernel
theorem dX8_faultAnswer_73 : decode cX8_faultAnswer 73 = .ok (.iadd, 1) := by decide +kernel
theorem dX8_faultAnswer_74 : decode cX8_faultAnswer 74 = .ok (.ireturn, 1) := by decide +kernel
theorem dX8_ifFault_0 : decode cX8_ifFault 0 = .ok (.aload_n 0, 1) := by decide +kernel
theorem dX8_ifFault_1 : decode cX8_ifFault 1 = .ok (.iload_n 1, 1) := by decide +kernel
theorem dX8_ifFault_2 : decode cX8_ifFault 2 = .ok (.invokevirtual 105, 3) := by decide +kernel
theorem dX8_ifFault_5 : decode cX8_ifFault 5 = .ok (.ifCond .eq 14, 3) := by decide +kernel
theorem dX8_ifFault_8 : decode cX8_ifFault 8 = .ok (.iload_n 2, 1) := by decide +kernel
theorem dX8_ifFault_9 : decode cX8_ifFault 9 = .ok (.invokestatic 135, 3) := by decide +kernel
theorem dX8_ifFault_12 : decode cX8_ifFault 12 = .ok (.ifCond .eq 7, 3) := by decide +kernel
theorem dX8_ifFault_15 : decode cX8_ifFault 15 = .ok (.iconst 1, 1) := by decide +kernel
theorem dX8_ifFault_16 : decode cX8_ifFault 16 = .ok (.goto 4, 3) := by decide +kernel
theorem dX8_ifFault_19 : decode cX8_ifFault 19 = .ok (.iconst 0, 1) := by decide +kernel
theorem dX8_ifFault_20 : decode cX8_ifFault 20 = .ok (.istore 5, 2) := by decide +kernel
theorem dX8_ifFault_22 : decode cX8_ifFault 22 = .ok (.aload_n 0, 1) := by decide +kernel
theorem dX8_ifFault_23 : decode cX8_ifFault 23 = .ok (.iload 5, 2) := by decide +kernel
theorem dX8_ifFault_25 : decode cX8_ifFault 25 = .ok (.ifCond .ne 7, 3) := by decide +kernel
theorem dX8_ifFault_28 : decode cX8_ifFault 28 = .ok (.iconst 1, 1) := by decide +kernel
theorem dX8_ifFault_29 : decode cX8_ifFault 29 = .ok (.goto 28, 3) := by decide +kernel
theorem dX8_ifFault_32 : decode cX8_ifFault 32 = .ok (.iload_n 3, 1) := by decide +kernel
theorem dX8_ifFault_33 : decode cX8_ifFault 33 = .ok (.iconst 1, 1) := by decide +kernel
theorem dX8_ifFault_34 : decode cX8_ifFault 34 = .ok (.bipush 30, 2) := by decide +kernel
theorem dX8_ifFault_36 : decode cX8_ifFault 36 = .ok (.invokestatic 29, 3) := by decide +kernel
theorem dX8_ifFault_39 : decode cX8_ifFault 39 = .ok (.ifCond .eq 17, 3) := by decide +kernel
theorem dX8_ifFault_42 : decode cX8_ifFault 42 = .ok (.iload 4, 2) := by decide +kernel
theorem dX8_ifFault_44 : decode cX8_ifFault 44 = .ok (.iconst 0, 1) := by decide +kernel
theorem dX8_ifFault_45 : decode cX8_ifFault 45 = .ok (.iconst 3, 1) := by decide +kernel
theorem dX8_ifFault_46 : decode cX8_ifFault 46 = .ok (.invokestatic 29, 3) := by decide +kernel
theorem dX8_ifFault_49 : decode cX8_ifFault 49 = .ok (.ifCond .eq 7, 3) := by decide +kernel
theorem dX8_ifFault_52 : decode cX8_ifFault 52 = .ok (.iconst 0, 1) := by decide +kernel
theorem dX8_ifFault_53 : decode cX8_ifFault 53 = .ok (.goto 4, 3) := by decide +kernel
theorem dX8_ifFault_56 : decode cX8_ifFault 56 = .ok (.iconst 2, 1) := by decide +kernel
theorem dX8_ifFault_57 : decode cX8_ifFault 57 = .ok (.putfield 25, 3) := by decide +kernel
theorem dX8_ifFault_60 : decode cX8_ifFault 60 = .ok (.aload_n 0, 1) := by decide +kernel
theorem dX8_ifFault_61 : decode cX8_ifFault 61 = .ok (.getfield 25, 3) := by decide +kernel
theorem dX8_ifFault_64 : decode cX8_ifFault 64 = .ok (.ifCond .le 5, 3) := by decide +kernel
theorem dX8_ifFault_67 : decode cX8_ifFault 67 = .ok (.iconst 0, 1) := by decide +kernel
theorem dX8_ifFault_68 : decode cX8_ifFault 68 = .ok (.ireturn, 1) := by decide +kernel
theorem dX8_ifFault_69 : decode cX8_ifFault 69 = .ok (.aload_n 0, 1) := by decide +kernel
theorem dX8_ifFault_70 : decode cX8_ifFault 70 = .ok (.invokevirtual 240, 3) := by decide +kernel
theorem dX8_ifFault_73 : decode cX8_ifFault 73 = .ok (.aload_n 0, 1) := by decide +kernel
theorem dX8_ifFault_74 : decode cX8_ifFault 74 = .ok (.iload_n 1, 1) := by decide +kernel
theorem dX8_ifFault_75 : decode cX8_ifFault 75 = .ok (.iload_n 2, 1) := by decide +kernel
theorem dX8_ifFault_76 : decode cX8_ifFault 76 = .ok (.iload_n 3, 1) := by decide +kernel
theorem dX8_ifFault_77 : decode cX8_ifFault 77 = .ok (.invokevirtual 151, 3) := by decide +kernel
theorem dX8_ifFault_80 : decode cX8_ifFault 80 = .ok (.aload_n 0, 1) := by decide +kernel
theorem dX8_ifFault_81 : decode cX8_ifFault 81 = .ok (.iload 4, 2) := by decide +kernel
theorem dX8_ifFault_83 : decode cX8_ifFault 83 = .ok (.invokevirtual 243, 3) := by decide +kernel
theorem dX8_ifFault_86 : decode cX8_ifFault 86 = .ok (.istore 6, 2) := by decide +kernel
theorem dX8_ifFault_88 : decode cX8_ifFault 88 = .ok (.aload_n 0, 1) := by decide +kernel
theorem dX8_ifFault_89 : decode cX8_ifFault 89 = .ok (.invokevirtual 246, 3) := by decide +kernel
theorem dX8_ifFault_92 : decode cX8_ifFault 92 = .ok (.iload 6, 2) := by decide +kernel
theorem dX8_ifFault_94 : decode cX8_ifFault 94 = .ok (.ireturn, 1) := by decide +kernel
theorem dX8_toggledAnswer_0 : decode cX8_toggledAnswer 0 = .ok (.aload_n 0, 1) := by decide +kernel
theorem dX8_toggledAnswer_1 : decode cX8_toggledAnswer 1 = .ok (.invokevirtual 240, 3) := by decide +kernel
theorem dX8_toggledAnswer_4 : decode cX8_toggledAnswer 4 = .ok (.aload_n 0, 1) := by decide +kernel
theorem dX8_toggledAnswer_5 : decode cX8_toggledAnswer 5 = .ok (.iload_n 1, 1) := by decide +kernel
theorem dX8_toggledAnswer_6 : decode cX8_toggledAnswer 6 = .ok (.iconst 2, 1) := by decide +kernel
theorem dX8_toggledAnswer_7 : decode cX8_toggledAnswer 7 = .ok (.invokevirtual 128, 3) := by decide +kernel
theorem dX8_toggledAnswer_10 : decode cX8_toggledAnswer 10 = .ok (.aload_n 0, 1) := by decide +kernel
theorem dX8_toggledAnswer_11 : decode cX8_toggledAnswer 11 = .ok (.invokevirtual 132, 3) := by decide +kernel
theorem dX8_toggledAnswer_14 : decode cX8_toggledAnswer 14 = .ok (.istore_n 2, 1) := by decide +kernel
theorem dX8_toggledAnswer_15 : decode cX8_toggledAnswer 15 = .ok (.aload_n 0, 1) := by decide +kernel
theorem dX8_toggledAnswer_16 : decode cX8_toggledAnswer 16 = .ok (.invokevirtual 246, 3) := by decide +kernel
theorem dX8_toggledAnswer_19 : decode cX8_toggledAnswer 19 = .ok (.iload_n 2, 1) := by decide +kernel
theorem dX8_toggledAnswer_20 : decode cX8_toggledAnswer 20 = .ok (.ireturn, 1) := by decide +kernel
theorem dX8_ifToggled_0 : decode cX8_ifToggled 0 = .ok (.aload_n 0, 1) := by decide +kernel
theorem dX8_ifToggled_1 : decode cX8_ifToggled 1 = .ok (.aload_n 0, 1) := by decide +kernel
theorem dX8_ifToggled_2 : decode cX8_ifToggled 2 = .ok (.iload_n 1, 1) := by decide +kernel
theorem dX8_ifToggled_3 : decode cX8_ifToggled 3 = .ok (.invokevirtual 125, 3) := by decide +kernel
theorem dX8_ifToggled_6 : decode cX8_ifToggled 6 = .ok (.ifCond .eq 7, 3) := by decide +kernel
theorem dX8_ifToggled_9 : decode cX8_ifToggled 9 = .ok (.iconst 0, 1) := by decide +kernel
theorem dX8_ifToggled_10 : decode cX8_ifToggled 10 = .ok (.goto 4, 3) := by decide +kernel
theorem dX8_ifToggled_13 : decode cX8_ifToggled 13 = .ok (.iconst 1, 1) := by decide +kernel
theorem dX8_ifToggled_14 : decode cX8_ifToggled 14 = .ok (.putfield 25, 3) := by decide +kernel
theorem dX8_ifToggled_17 : decode cX8_ifToggled 17 = .ok (.aload_n 0, 1) := by decide +kernel
theorem dX8_ifToggled_18 : decode cX8_ifToggled 18 = .ok (.getfield 25, 3) := by decide +kernel
theorem dX8_ifToggled_21 : decode cX8_ifToggled 21 = .ok (.ifCond .le 7, 3) := by decide +kernel
theorem dX8_ifToggled_24 : decode cX8_ifToggled 24 = .ok (.iconst 0, 1) := by decide +kernel
theorem dX8_ifToggled_25 : decode cX8_ifToggled 25 = .ok (.goto 8, 3) := by decide +kernel
theorem dX8_ifToggled_28 : decode cX8_ifToggled 28 = .ok (.aload_n 0, 1) := by decide +kernel
theorem dX8_ifToggled_29 : decode cX8_ifToggled 29 = .ok (.iload_n 1, 1) := by decide +kernel
theorem dX8_ifToggled_30 : decode cX8_ifToggled 30 = .ok (.invokevirtual 249, 3) := by decide +kernel
theorem dX8_ifToggled_33 : decode cX8_ifToggled 33 = .ok (.ireturn, 1) := by decide +kernel
theorem dX8_ratingAnswer_0 : decode cX8_ratingAnswer 0 = .ok (.aload_n 0, 1) := by decide +kernel
theorem dX8_ratingAnswer_1 : decode cX8_ratingAnswer 1 = .ok (.invokevirtual 240, 3) := by decide +kernel
theorem dX8_ratingAnswer_4 : decode cX8_ratingAnswer 4 = .ok (.iconst 2, 1) := by decide +kernel
theorem dX8_ratingAnswer_5 : decode cX8_ratingAnswer 5 = .ok (.istore_n 3, 1) := by decide +kernel
theorem dX8_ratingAnswer_6 : decode cX8_ratingAnswer 6 = .ok (.iload_n 3, 1) := by decide +kernel
theorem dX8_ratingAnswer_7 : decode cX8_ratingAnswer 7 = .ok (.iconst 2, 1) := by decide +kernel
theorem dX8_ratingAnswer_8 : decode cX8_ratingAnswer 8 = .ok (.aload_n 0, 1) := by decide +kernel
theorem dX8_ratingAnswer_9 : decode cX8_ratingAnswer 9 = .ok (.getfield 7, 3) := by decide +kernel
theorem dX8_ratingAnswer_12 : decode cX8_ratingAnswer 12 = .ok (.iconst 0, 1) := by decide +kernel
theorem dX8_ratingAnswer_13 : decode cX8_ratingAnswer 13 = .ok (.iaload, 1) := by decide +kernel
theorem dX8_ratingAnswer_14 : decode cX8_ratingAnswer 14 = .ok (.imul, 1) := by decide +kernel
theorem dX8_ratingAnswer_15 : decode cX8_ratingAnswer 15 = .ok (.if_icmp .ge 29, 3) := by decide +kernel
theorem dX8_ratingAnswer_18 : decode cX8_ratingAnswer 18 = .ok (.aload_n 0, 1) := by decide +kernel
theorem dX8_ratingAnswer_19 : decode cX8_ratingAnswer 19 = .ok (.getfield 7, 3) := by decide +kernel
theorem dX8_ratingAnswer_22 : decode cX8_ratingAnswer 22 = .ok (.iconst 1, 1) := by decide +kernel
theorem dX8_ratingAnswer_23 : decode cX8_ratingAnswer 23 = .ok (.bipush 7, 2) := by decide +kernel
theorem dX8_ratingAnswer_25 : decode cX8_ratingAnswer 25 = .ok (.iload_n 3, 1) := by decide +kernel
theorem dX8_ratingAnswer_26 : decode cX8_ratingAnswer 26 = .ok (.iconst 2, 1) := by decide +kernel
theorem dX8_ratingAnswer_27 : decode cX8_ratingAnswer 27 = .ok (.idiv, 1) := by decide +kernel
theorem dX8_ratingAnswer_28 : decode cX8_ratingAnswer 28 = .ok (.imul, 1) := by decide +kernel
theorem dX8_ratingAnswer_29 : decode cX8_ratingAnswer 29 = .ok (.iadd, 1) := by decide +kernel
theorem dX8_ratingAnswer_30 : decode cX8_ratingAnswer 30 = .ok (.iconst 5, 1) := by decide +kernel
theorem dX8_ratingAnswer_31 : decode cX8_ratingAnswer 31 = .ok (.iadd, 1) := by decide +kernel
theorem dX8_ratingAnswer_32 : decode cX8_ratingAnswer 32 = .ok (.iload_n 3, 1) := by decide +kernel
theorem dX8_ratingAnswer_33 : decode cX8_ratingAnswer 33 = .ok (.iconst 2, 1) := by decide +kernel
theorem dX8_ratingAnswer_34 : decode cX8_ratingAnswer 34 = .ok (.irem, 1) := by decide +kernel
theorem dX8_ratingAnswer_35 : decode cX8_ratingAnswer 35 = .ok (.iadd, 1) := by decide +kernel
theorem dX8_ratingAnswer_36 : decode cX8_ratingAnswer 36 = .ok (.iconst 0, 1) := by decide +kernel
theorem dX8_ratingAnswer_37 : decode cX8_ratingAnswer 37 = .ok (.iastore, 1) := by decide +kernel
theorem dX8_ratingAnswer_38 : decode cX8_ratingAnswer 38 = .ok (.iinc 3 1, 3) := by decide +kernel
theorem dX8_ratingAnswer_41 : decode cX8_ratingAnswer 41 = .ok (.goto (-35), 3) := by decide +kernel
theorem dX8_ratingAnswer_44 : decode cX8_ratingAnswer 44 = .ok (.aload_n 0, 1) := by decide +kernel
theorem dX8_ratingAnswer_45 : decode cX8_ratingAnswer 45 = .ok (.iload_n 1, 1) := by decide +kernel
theorem dX8_ratingAnswer_46 : decode cX8_ratingAnswer 46 = .ok (.iload_n 2, 1) := by decide +kernel
theorem dX8_ratingAnswer_47 : decode cX8_ratingAnswer 47 = .ok (.invokevirtual 87, 3) := by decide +kernel
theorem dX8_ratingAnswer_50 : decode cX8_ratingAnswer 50 = .ok (.istore_n 3, 1) := by decide +kernel
theorem dX8_ratingAnswer_51 : decode cX8_ratingAnswer 51 = .ok (.aload_n 0, 1) := by decide +kernel
theorem dX8_ratingAnswer_52 : decode cX8_ratingAnswer 52 = .ok (.invokevirtual 246, 3) := by decide +kernel
theorem dX8_ratingAnswer_55 : decode cX8_ratingAnswer 55 = .ok (.iload_n 3, 1) := by decide +kernel
theorem dX8_ratingAnswer_56 : decode cX8_ratingAnswer 56 = .ok (.ireturn, 1) := by decide +kernel
theorem dX8_neededRating_0 : decode cX8_neededRating 0 = .ok (.aload_n 0, 1) := by decide +kernel
theorem dX8_neededRating_1 : decode cX8_neededRating 1 = .ok (.aload_n 0, 1) := by decide +kernel
theorem dX8_neededRating_2 : decode cX8_neededRating 2 = .ok (.iload_n 1, 1) := by decide +kernel
theorem dX8_neededRating_3 : decode cX8_neededRating 3 = .ok (.invokevirtual 125, 3) := by decide +kernel
theorem dX8_neededRating_6 : decode cX8_neededRating 6 = .ok (.ifCond .eq 14, 3) := by decide +kernel
theorem dX8_neededRating_9 : decode cX8_neededRating 9 = .ok (.iload_n 2, 1) := by decide +kernel
theorem dX8_neededRating_10 : decode cX8_neededRating 10 = .ok (.invokestatic 135, 3) := by decide +kernel
theorem dX8_neededRating_13 : decode cX8_neededRating 13 = .ok (.ifCond .eq 7, 3) := by decide +kernel
theorem dX8_neededRating_16 : decode cX8_neededRating 16 = .ok (.iconst 0, 1) := by decide +kernel
theorem dX8_neededRating_17 : decode cX8_neededRating 17 = .ok (.goto 4, 3) := by decide +kernel
theorem dX8_neededRating_20 : decode cX8_neededRating 20 = .ok (.iconst 1, 1) := by decide +kernel
theorem dX8_neededRating_21 : decode cX8_neededRating 21 = .ok (.putfield 25, 3) := by decide +kernel
theorem dX8_neededRating_24 : decode cX8_neededRating 24 = .ok (.aload_n 0, 1) := by decide +kernel
theorem dX8_neededRating_25 : decode cX8_neededRating 25 = .ok (.getfield 25, 3) := by decide +kernel
theorem dX8_neededRating_28 : decode cX8_neededRating 28 = .ok (.ifCond .le 7, 3) := by decide +kernel
theorem dX8_neededRating_31 : decode cX8_neededRating 31 = .ok (.iconst 0, 1) := by decide +kernel
theorem dX8_neededRating_32 : decode cX8_neededRating 32 = .ok (.goto 9, 3) := by decide +kernel
theorem dX8_neededRating_35 : decode cX8_neededRating 35 = .ok (.aload_n 0, 1) := by decide +kernel
theorem dX8_neededRating_36 : decode cX8_neededRating 36 = .ok (.iload_n 1, 1) := by decide +kernel
theorem dX8_neededRating_37 : decode cX8_neededRating 37 = .ok (.iload_n 2, 1) := by decide +kernel
theorem dX8_neededRating_38 : decode cX8_neededRating 38 = .ok (.invokevirtual 252, 3) := by decide +kernel
theorem dX8_neededRating_41 : decode cX8_neededRating 41 = .ok (.ireturn, 1) := by decide +kernel
theorem dX8_shareNow_0 : decode cX8_shareNow 0 = .ok (.aload_n 0, 1) := by decide +kernel
theorem dX8_shareNow_1 : decode cX8_shareNow 1 = .ok (.getfield 7, 3) := by decide +kernel
theorem dX8_shareNow_4 : decode cX8_shareNow 4 = .ok (.sipush 165, 3) := by decide +kernel
theorem dX8_shareNow_7 : decode cX8_shareNow 7 = .ok (.iaload, 1) := by decide +kernel
theorem dX8_shareNow_8 : decode cX8_shareNow 8 = .ok (.aload_n 0, 1) := by decide +kernel
theorem dX8_shareNow_9 : decode cX8_shareNow 9 = .ok (.getfield 7, 3) := by decide +kernel
theorem dX8_shareNow_12 : decode cX8_shareNow 12 = .ok (.sipush 166, 3) := by decide +kernel
theorem dX8_shareNow_15 : decode cX8_shareNow 15 = .ok (.iaload, 1) := by decide +kernel
theorem dX8_shareNow_16 : decode cX8_shareNow 16 = .ok (.iadd, 1) := by decide +kernel
theorem dX8_shareNow_17 : decode cX8_shareNow 17 = .ok (.istore_n 1, 1) := by decide +kernel
theorem dX8_shareNow_18 : decode cX8_shareNow 18 = .ok (.iload_n 1, 1) := by decide +kernel
theorem dX8_shareNow_19 : decode cX8_shareNow 19 = .ok (.ifCond .ne 7, 3) := by decide +kernel
theorem dX8_shareNow_22 : decode cX8_shareNow 22 = .ok (.dconst 0, 1) := by decide +kernel
theorem dX8_shareNow_23 : decode cX8_shareNow 23 = .ok (.goto 17, 3) := by decide +kernel
theorem dX8_shareNow_26 : decode cX8_shareNow 26 = .ok (.dconst 1, 1) := by decide +kernel
theorem dX8_shareNow_27 : decode cX8_shareNow 27 = .ok (.aload_n 0, 1) := by decide +kernel
theorem dX8_shareNow_28 : decode cX8_shareNow 28 = .ok (.getfield 7, 3) := by decide +kernel
theorem dX8_shareNow_31 : decode cX8_shareNow 31 = .ok (.sipush 166, 3) := by decide +kernel
theorem dX8_shareNow_34 : decode cX8_shareNow 34 = .ok (.iaload, 1) := by decide +kernel
theorem dX8_shareNow_35 : decode cX8_shareNow 35 = .ok (.i2d, 1) := by decide +kernel
theorem dX8_shareNow_36 : decode cX8_shareNow 36 = .ok (.dmul, 1) := by decide +kernel
theorem dX8_shareNow_37 : decode cX8_shareNow 37 = .ok (.iload_n 1, 1) := by decide +kernel
theorem dX8_shareNow_38 : decode cX8_shareNow 38 = .ok (.i2d, 1) := by decide +kernel
theorem dX8_shareNow_39 : decode cX8_shareNow 39 = .ok (.ddiv, 1) := by decide +kernel
theorem dX8_shareNow_40 : decode cX8_shareNow 40 = .ok (.dreturn, 1) := by decide +kernel
theorem dX8_lossShare_0 : decode cX8_lossShare 0 = .ok (.aload_n 0, 1) := by decide +kernel
theorem dX8_lossShare_1 : decode cX8_lossShare 1 = .ok (.iconst 0, 1) := by decide +kernel
theorem dX8_lossShare_2 : decode cX8_lossShare 2 = .ok (.putfield 25, 3) := by decide +kernel
theorem dX8_lossShare_5 : decode cX8_lossShare 5 = .ok (.aload_n 0, 1) := by decide +kernel
theorem dX8_lossShare_6 : decode cX8_lossShare 6 = .ok (.invokevirtual 255, 3) := by decide +kernel
theorem dX8_lossShare_9 : decode cX8_lossShare 9 = .ok (.dreturn, 1) := by decide +kernel
theorem dX8_mix_0 : decode cX8_mix 0 = .ok (.aload_n 0, 1) := by decide +kernel
theorem dX8_mix_1 : decode cX8_mix 1 = .ok (.ldc2_w 259, 3) := by decide +kernel
theorem dX8_mix_4 : decode cX8_mix 4 = .ok (.aload_n 0, 1) := by decide +kernel
theorem dX8_mix_5 : decode cX8_mix 5 = .ok (.getfield 261, 3) := by decide +kernel
theorem dX8_mix_8 : decode cX8_mix 8 = .ok (.lmul, 1) := by decide +kernel
theorem dX8_mix_9 : decode cX8_mix 9 = .ok (.lload_n 1, 1) := by decide +kernel
theorem dX8_mix_10 : decode cX8_mix 10 = .ok (.ladd, 1) := by decide +kernel
theorem dX8_mix_11 : decode cX8_mix 11 = .ok (.putfield 261, 3) := by decide +kernel
theorem dX8_mix_14 : decode cX8_mix 14 = .ok (.return_, 1) := by decide +kernel
theorem dX8_mixBox_0 : decode cX8_mixBox 0 = .ok (.iconst 0, 1) := by decide +kernel
theorem dX8_mixBox_1 : decode cX8_mixBox 1 = .ok (.istore_n 2, 1) := by decide +kernel
theorem dX8_mixBox_2 : decode cX8_mixBox 2 = .ok (.iload_n 2, 1) := by decide +kernel
theorem dX8_mixBox_3 : decode cX8_mixBox 3 = .ok (.bipush 7, 2) := by decide +kernel
theorem dX8_mixBox_5 : decode cX8_mixBox 5 = .ok (.if_icmp .ge 20, 3) := by decide +kernel
theorem dX8_mixBox_8 : decode cX8_mixBox 8 = .ok (.aload_n 0, 1) := by decide +kernel
theorem dX8_mixBox_9 : decode cX8_mixBox 9 = .ok (.aload_n 0, 1) := by decide +kernel
theorem dX8_mixBox_10 : decode cX8_mixBox 10 = .ok (.iload_n 1, 1) := by decide +kernel
theorem dX8_mixBox_11 : decode cX8_mixBox 11 = .ok (.iload_n 2, 1) := by decide +kernel
theorem dX8_mixBox_12 : decode cX8_mixBox 12 = .ok (.invokevirtual 216, 3) := by decide +kernel
theorem dX8_mixBox_15 : decode cX8_mixBox 15 = .ok (.i2l, 1) := by decide +kernel
theorem dX8_mixBox_16 : decode cX8_mixBox 16 = .ok (.invokevirtual 265, 3) := by decide +kernel
theorem dX8_mixBox_19 : decode cX8_mixBox 19 = .ok (.iinc 2 1, 3) := by decide +kernel
theorem dX8_mixBox_22 : decode cX8_mixBox 22 = .ok (.goto (-20), 3) := by decide +kernel
theorem dX8_mixBox_25 : decode cX8_mixBox 25 = .ok (.iconst 0, 1) := by decide +kernel
theorem dX8_mixBox_26 : decode cX8_mixBox 26 = .ok (.istore_n 2, 1) := by decide +kernel
theorem dX8_mixBox_27 : decode cX8_mixBox 27 = .ok (.iload_n 2, 1) := by decide +kernel
theorem dX8_mixBox_28 : decode cX8_mixBox 28 = .ok (.bipush 12, 2) := by decide +kernel
theorem dX8_mixBox_30 : decode cX8_mixBox 30 = .ok (.if_icmp .ge 27, 3) := by decide +kernel
theorem dX8_mixBox_33 : decode cX8_mixBox 33 = .ok (.aload_n 0, 1) := by decide +kernel
theorem dX8_mixBox_34 : decode cX8_mixBox 34 = .ok (.aload_n 0, 1) := by decide +kernel
theorem dX8_mixBox_35 : decode cX8_mixBox 35 = .ok (.iload_n 1, 1) := by decide +kernel
theorem dX8_mixBox_36 : decode cX8_mixBox 36 = .ok (.iload_n 2, 1) := by decide +kernel
theorem dX8_mixBox_37 : decode cX8_mixBox 37 = .ok (.bipush 6, 2) := by decide +kernel
theorem dX8_mixBox_39 : decode cX8_mixBox 39 = .ok (.idiv, 1) := by decide +kernel
theorem dX8_mixBox_40 : decode cX8_mixBox 40 = .ok (.iload_n 2, 1) := by decide +kernel
theorem dX8_mixBox_41 : decode cX8_mixBox 41 = .ok (.bipush 6, 2) := by decide +kernel
theorem dX8_mixBox_43 : decode cX8_mixBox 43 = .ok (.irem, 1) := by decide +kernel
theorem dX8_mixBox_44 : decode cX8_mixBox 44 = .ok (.invokevirtual 222, 3) := by decide +kernel
theorem dX8_mixBox_47 : decode cX8_mixBox 47 = .ok (.i2l, 1) := by decide +kernel
theorem dX8_mixBox_48 : decode cX8_mixBox 48 = .ok (.invokevirtual 265, 3) := by decide +kernel
theorem dX8_mixBox_51 : decode cX8_mixBox 51 = .ok (.iinc 2 1, 3) := by decide +kernel
theorem dX8_mixBox_54 : decode cX8_mixBox 54 = .ok (.goto (-27), 3) := by decide +kernel
theorem dX8_mixBox_57 : decode cX8_mixBox 57 = .ok (.return_, 1) := by decide +kernel
theorem dX8_digest_0 : decode cX8_digest 0 = .ok (.aload_n 0, 1) := by decide +kernel
theorem dX8_digest_1 : decode cX8_digest 1 = .ok (.iconst 0, 1) := by decide +kernel
theorem dX8_digest_2 : decode cX8_digest 2 = .ok (.putfield 25, 3) := by decide +kernel
theorem dX8_digest_5 : decode cX8_digest 5 = .ok (.aload_n 0, 1) := by decide +kernel
theorem dX8_digest_6 : decode cX8_digest 6 = .ok (.ldc2_w 269, 3) := by decide +kernel
theorem dX8_digest_9 : decode cX8_digest 9 = .ok (.putfield 261, 3) := by decide +kernel
theorem dX8_digest_12 : decode cX8_digest 12 = .ok (.iconst 0, 1) := by decide +kernel
theorem dX8_digest_13 : decode cX8_digest 13 = .ok (.istore_n 1, 1) := by decide +kernel
theorem dX8_digest_14 : decode cX8_digest 14 = .ok (.iload_n 1, 1) := by decide +kernel
theorem dX8_digest_15 : decode cX8_digest 15 = .ok (.bipush 12, 2) := by decide +kernel
theorem dX8_digest_17 : decode cX8_digest 17 = .ok (.if_icmp .ge 19, 3) := by decide +kernel
theorem dX8_digest_20 : decode cX8_digest 20 = .ok (.aload_n 0, 1) := by decide +kernel
theorem dX8_digest_21 : decode cX8_digest 21 = .ok (.aload_n 0, 1) := by decide +kernel
theorem dX8_digest_22 : decode cX8_digest 22 = .ok (.iload_n 1, 1) := by decide +kernel
theorem dX8_digest_23 : decode cX8_digest 23 = .ok (.invokevirtual 234, 3) := by decide +kernel
theorem dX8_digest_26 : decode cX8_digest 26 = .ok (.i2l, 1) := by decide +kernel
theorem dX8_digest_27 : decode cX8_digest 27 = .ok (.invokevirtual 265, 3) := by decide +kernel
theorem dX8_digest_30 : decode cX8_digest 30 = .ok (.iinc 1 1, 3) := by decide +kernel
theorem dX8_digest_33 : decode cX8_digest 33 = .ok (.goto (-19), 3) := by decide +kernel
theorem dX8_digest_36 : decode cX8_digest 36 = .ok (.iconst 0, 1) := by decide +kernel
theorem dX8_digest_37 : decode cX8_digest 37 = .ok (.istore_n 1, 1) := by decide +kernel
theorem dX8_digest_38 : decode cX8_digest 38 = .ok (.iload_n 1, 1) := by decide +kernel
theorem dX8_digest_39 : decode cX8_digest 39 = .ok (.aload_n 0, 1) := by decide +kernel
theorem dX8_digest_40 : decode cX8_digest 40 = .ok (.getfield 7, 3) := by decide +kernel
theorem dX8_digest_43 : decode cX8_digest 43 = .ok (.iconst 0, 1) := by decide +kernel
theorem dX8_digest_44 : decode cX8_digest 44 = .ok (.iaload, 1) := by decide +kernel
theorem dX8_digest_45 : decode cX8_digest 45 = .ok (.if_icmp .ge 14, 3) := by decide +kernel
theorem dX8_digest_48 : decode cX8_digest 48 = .ok (.aload_n 0, 1) := by decide +kernel
theorem dX8_digest_49 : decode cX8_digest 49 = .ok (.iload_n 1, 1) := by decide +kernel
theorem dX8_digest_50 : decode cX8_digest 50 = .ok (.invokevirtual 271, 3) := by decide +kernel
theorem dX8_digest_53 : decode cX8_digest 53 = .ok (.iinc 1 1, 3) := by decide +kernel
theorem dX8_digest_56 : decode cX8_digest 56 = .ok (.goto (-18), 3) := by decide +kernel
theorem dX8_digest_59 : decode cX8_digest 59 = .ok (.iconst 0, 1) := by decide +kernel
theorem dX8_digest_60 : decode cX8_digest 60 = .ok (.istore_n 1, 1) := by decide +kernel
theorem dX8_digest_61 : decode cX8_digest 61 = .ok (.iload_n 1, 1) := by decide +kernel
theorem dX8_digest_62 : decode cX8_digest 62 = .ok (.iconst 4, 1) := by decide +kernel
theorem dX8_digest_63 : decode cX8_digest 63 = .ok (.aload_n 0, 1) := by decide +kernel
theorem dX8_digest_64 : decode cX8_digest 64 = .ok (.getfield 7, 3) := by decide +kernel
theorem dX8_digest_67 : decode cX8_digest 67 = .ok (.bipush 85, 2) := by decide +kernel
theorem dX8_digest_69 : decode cX8_digest 69 = .ok (.iaload, 1) := by decide +kernel
theorem dX8_digest_70 : decode cX8_digest 70 = .ok (.imul, 1) := by decide +kernel
theorem dX8_digest_71 : decode cX8_digest 71 = .ok (.if_icmp .ge 24, 3) := by decide +kernel
theorem dX8_digest_74 : decode cX8_digest 74 = .ok (.aload_n 0, 1) := by decide +kernel
theorem dX8_digest_75 : decode cX8_digest 75 = .ok (.aload_n 0, 1) := by decide +kernel
theorem dX8_digest_76 : decode cX8_digest 76 = .ok (.iload_n 1, 1) := by decide +kernel
theorem dX8_digest_77 : decode cX8_digest 77 = .ok (.iconst 4, 1) := by decide +kernel
theorem dX8_digest_78 : decode cX8_digest 78 = .ok (.idiv, 1) := by decide +kernel
theorem dX8_digest_79 : decode cX8_digest 79 = .ok (.iload_n 1, 1) := by decide +kernel
theorem dX8_digest_80 : decode cX8_digest 80 = .ok (.iconst 4, 1) := by decide +kernel
theorem dX8_digest_81 : decode cX8_digest 81 = .ok (.irem, 1) := by decide +kernel
theorem dX8_digest_82 : decode cX8_digest 82 = .ok (.invokevirtual 225, 3) := by decide +kernel
theorem dX8_digest_85 : decode cX8_digest 85 = .ok (.i2l, 1) := by decide +kernel
theorem dX8_digest_86 : decode cX8_digest 86 = .ok (.invokevirtual 265, 3) := by decide +kernel
theorem dX8_digest_89 : decode cX8_digest 89 = .ok (.iinc 1 1, 3) := by decide +kernel
theorem dX8_digest_92 : decode cX8_digest 92 = .ok (.goto (-31), 3) := by decide +kernel
theorem dX8_digest_95 : decode cX8_digest 95 = .ok (.iconst 0, 1) := by decide +kernel
theorem dX8_digest_96 : decode cX8_digest 96 = .ok (.istore_n 1, 1) := by decide +kernel
theorem dX8_digest_97 : decode cX8_digest 97 = .ok (.iload_n 1, 1) := by decide +kernel
theorem dX8_digest_98 : decode cX8_digest 98 = .ok (.iconst 5, 1) := by decide +kernel
theorem dX8_digest_99 : decode cX8_digest 99 = .ok (.aload_n 0, 1) := by decide +kernel
theorem dX8_digest_100 : decode cX8_digest 100 = .ok (.getfield 7, 3) := by decide +kernel
theorem dX8_digest_103 : decode cX8_digest 103 = .ok (.sipush 134, 3) := by decide +kernel
theorem dX8_digest_106 : decode cX8_digest 106 = .ok (.iaload, 1) := by decide +kernel
theorem dX8_digest_107 : decode cX8_digest 107 = .ok (.imul, 1) := by decide +kernel
theorem dX8_digest_108 : decode cX8_digest 108 = .ok (.if_icmp .ge 24, 3) := by decide +kernel
theorem dX8_digest_111 : decode cX8_digest 111 = .ok (.aload_n 0, 1) := by decide +kernel
theorem dX8_digest_112 : decode cX8_digest 112 = .ok (.aload_n 0, 1) := by decide +kernel
theorem dX8_digest_113 : decode cX8_digest 113 = .ok (.iload_n 1, 1) := by decide +kernel
theorem dX8_digest_114 : decode cX8_digest 114 = .ok (.iconst 5, 1) := by decide +kernel
theorem dX8_digest_115 : decode cX8_digest 115 = .ok (.idiv, 1) := by decide +kernel
theorem dX8_digest_116 : decode cX8_digest 116 = .ok (.iload_n 1, 1) := by decide +kernel
theorem dX8_digest_117 : decode cX8_digest 117 = .ok (.iconst 5, 1) := by decide +kernel
theorem dX8_digest_118 : decode cX8_digest 118 = .ok (.irem, 1) := by decide +kernel
theorem dX8_digest_119 : decode cX8_digest 119 = .ok (.invokevirtual 228, 3) := by decide +kernel
theorem dX8_digest_122 : decode cX8_digest 122 = .ok (.i2l, 1) := by decide +kernel
theorem dX8_digest_123 : decode cX8_digest 123 = .ok (.invokevirtual 265, 3) := by decide +kernel
theorem dX8_digest_126 : decode cX8_digest 126 = .ok (.iinc 1 1, 3) := by decide +kernel
theorem dX8_digest_129 : decode cX8_digest 129 = .ok (.goto (-32), 3) := by decide +kernel
theorem dX8_digest_132 : decode cX8_digest 132 = .ok (.iconst 0, 1) := by decide +kernel
theorem dX8_digest_133 : decode cX8_digest 133 = .ok (.istore_n 1, 1) := by decide +kernel
theorem dX8_digest_134 : decode cX8_digest 134 = .ok (.iload_n 1, 1) := by decide +kernel
theorem dX8_digest_135 : decode cX8_digest 135 = .ok (.iconst 2, 1) := by decide +kernel
theorem dX8_digest_136 : decode cX8_digest 136 = .ok (.if_icmp .ge 29, 3) := by decide +kernel
theorem dX8_digest_139 : decode cX8_digest 139 = .ok (.aload_n 0, 1) := by decide +kernel
theorem dX8_digest_140 : decode cX8_digest 140 = .ok (.aload_n 0, 1) := by decide +kernel
theorem dX8_digest_141 : decode cX8_digest 141 = .ok (.iload_n 1, 1) := by decide +kernel
theorem dX8_digest_142 : decode cX8_digest 142 = .ok (.invokevirtual 70, 3) := by decide +kernel
theorem dX8_digest_145 : decode cX8_digest 145 = .ok (.i2l, 1) := by decide +kernel
theorem dX8_digest_146 : decode cX8_digest 146 = .ok (.invokevirtual 265, 3) := by decide +kernel
theorem dX8_digest_149 : decode cX8_digest 149 = .ok (.aload_n 0, 1) := by decide +kernel
theorem dX8_digest_150 : decode cX8_digest 150 = .ok (.aload_n 0, 1) := by decide +kernel
theorem dX8_digest_151 : decode cX8_digest 151 = .ok (.iload_n 1, 1) := by decide +kernel
theorem dX8_digest_152 : decode cX8_digest 152 = .ok (.invokevirtual 237, 3) := by decide +kernel
theorem dX8_digest_155 : decode cX8_digest 155 = .ok (.i2l, 1) := by decide +kernel
theorem dX8_digest_156 : decode cX8_digest 156 = .ok (.invokevirtual 265, 3) := by decide +kernel
theorem dX8_digest_159 : decode cX8_digest 159 = .ok (.iinc 1 1, 3) := by decide +kernel
theorem dX8_digest_162 : decode cX8_digest 162 = .ok (.goto (-28), 3) := by decide +kernel
theorem dX8_digest_165 : decode cX8_digest 165 = .ok (.iconst 1, 1) := by decide +kernel
theorem dX8_digest_166 : decode cX8_digest 166 = .ok (.istore_n 1, 1) := by decide +kernel
theorem dX8_digest_167 : decode cX8_digest 167 = .ok (.iload_n 1, 1) := by decide +kernel
theorem dX8_digest_168 : decode cX8_digest 168 = .ok (.aload_n 0, 1) := by decide +kernel
theorem dX8_digest_169 : decode cX8_digest 169 = .ok (.getfield 7, 3) := by decide +kernel
theorem dX8_digest_172 : decode cX8_digest 172 = .ok (.iconst 0, 1) := by decide +kernel
theorem dX8_digest_173 : decode cX8_digest 173 = .ok (.iaload, 1) := by decide +kernel
theorem dX8_digest_174 : decode cX8_digest 174 = .ok (.if_icmp .ge 41, 3) := by decide +kernel
theorem dX8_digest_177 : decode cX8_digest 177 = .ok (.aload_n 0, 1) := by decide +kernel
theorem dX8_digest_178 : decode cX8_digest 178 = .ok (.aload_n 0, 1) := by decide +kernel
theorem dX8_digest_179 : decode cX8_digest 179 = .ok (.iload_n 1, 1) := by decide +kernel
theorem dX8_digest_180 : decode cX8_digest 180 = .ok (.invokevirtual 249, 3) := by decide +kernel
theorem dX8_digest_183 : decode cX8_digest 183 = .ok (.i2l, 1) := by decide +kernel
theorem dX8_digest_184 : decode cX8_digest 184 = .ok (.invokevirtual 265, 3) := by decide +kernel
theorem dX8_digest_187 : decode cX8_digest 187 = .ok (.aload_n 0, 1) := by decide +kernel
theorem dX8_digest_188 : decode cX8_digest 188 = .ok (.aload_n 0, 1) := by decide +kernel
theorem dX8_digest_189 : decode cX8_digest 189 = .ok (.iload_n 1, 1) := by decide +kernel
theorem dX8_digest_190 : decode cX8_digest 190 = .ok (.iconst 0, 1) := by decide +kernel
theorem dX8_digest_191 : decode cX8_digest 191 = .ok (.invokevirtual 252, 3) := by decide +kernel
theorem dX8_digest_194 : decode cX8_digest 194 = .ok (.i2l, 1) := by decide +kernel
theorem dX8_digest_195 : decode cX8_digest 195 = .ok (.invokevirtual 265, 3) := by decide +kernel
theorem dX8_digest_198 : decode cX8_digest 198 = .ok (.aload_n 0, 1) := by decide +kernel
theorem dX8_digest_199 : decode cX8_digest 199 = .ok (.aload_n 0, 1) := by decide +kernel
theorem dX8_digest_200 : decode cX8_digest 200 = .ok (.iload_n 1, 1) := by decide +kernel
theorem dX8_digest_201 : decode cX8_digest 201 = .ok (.iconst 1, 1) := by decide +kernel
theorem dX8_digest_202 : decode cX8_digest 202 = .ok (.invokevirtual 252, 3) := by decide +kernel
theorem dX8_digest_205 : decode cX8_digest 205 = .ok (.i2l, 1) := by decide +kernel
theorem dX8_digest_206 : decode cX8_digest 206 = .ok (.invokevirtual 265, 3) := by decide +kernel
theorem dX8_digest_209 : decode cX8_digest 209 = .ok (.iinc 1 1, 3) := by decide +kernel
theorem dX8_digest_212 : decode cX8_digest 212 = .ok (.goto (-45), 3) := by decide +kernel
theorem dX8_digest_215 : decode cX8_digest 215 = .ok (.aload_n 0, 1) := by decide +kernel
theorem dX8_digest_216 : decode cX8_digest 216 = .ok (.aload_n 0, 1) := by decide +kernel
theorem dX8_digest_217 : decode cX8_digest 217 = .ok (.invokevirtual 255, 3) := by decide +kernel
theorem dX8_digest_220 : decode cX8_digest 220 = .ok (.invokestatic 274, 3) := by decide +kernel
theorem dX8_digest_223 : decode cX8_digest 223 = .ok (.invokevirtual 265, 3) := by decide +kernel
theorem dX8_digest_226 : decode cX8_digest 226 = .ok (.aload_n 0, 1) := by decide +kernel
theorem dX8_digest_227 : decode cX8_digest 227 = .ok (.aload_n 0, 1) := by decide +kernel
theorem dX8_digest_228 : decode cX8_digest 228 = .ok (.getfield 162, 3) := by decide +kernel
theorem dX8_digest_231 : decode cX8_digest 231 = .ok (.i2l, 1) := by decide +kernel
theorem dX8_digest_232 : decode cX8_digest 232 = .ok (.invokevirtual 265, 3) := by decide +kernel
theorem dX8_digest_235 : decode cX8_digest 235 = .ok (.iconst 0, 1) := by decide +kernel
theorem dX8_digest_236 : decode cX8_digest 236 = .ok (.istore_n 1, 1) := by decide +kernel
theorem dX8_digest_237 : decode cX8_digest 237 = .ok (.iload_n 1, 1) := by decide +kernel
theorem dX8_digest_238 : decode cX8_digest 238 = .ok (.aload_n 0, 1) := by decide +kernel
theorem dX8_digest_239 : decode cX8_digest 239 = .ok (.getfield 162, 3) := by decide +kernel
theorem dX8_digest_242 : decode cX8_digest 242 = .ok (.if_icmp .ge 20, 3) := by decide +kernel
theorem dX8_digest_245 : decode cX8_digest 245 = .ok (.aload_n 0, 1) := by decide +kernel
theorem dX8_digest_246 : decode cX8_digest 246 = .ok (.aload_n 0, 1) := by decide +kernel
theorem dX8_digest_247 : decode cX8_digest 247 = .ok (.getfield 16, 3) := by decide +kernel
theorem dX8_digest_250 : decode cX8_digest 250 = .ok (.iload_n 1, 1) := by decide +kernel
theorem dX8_digest_251 : decode cX8_digest 251 = .ok (.iaload, 1) := by decide +kernel
theorem dX8_digest_252 : decode cX8_digest 252 = .ok (.i2l, 1) := by decide +kernel
theorem dX8_digest_253 : decode cX8_digest 253 = .ok (.invokevirtual 265, 3) := by decide +kernel
theorem dX8_digest_256 : decode cX8_digest 256 = .ok (.iinc 1 1, 3) := by decide +kernel
theorem dX8_digest_259 : decode cX8_digest 259 = .ok (.goto (-22), 3) := by decide +kernel
theorem dX8_digest_262 : decode cX8_digest 262 = .ok (.aload_n 0, 1) := by decide +kernel
theorem dX8_digest_263 : decode cX8_digest 263 = .ok (.getfield 261, 3) := by decide +kernel
theorem dX8_digest_266 : decode cX8_digest 266 = .ok (.lreturn, 1) := by decide +kernel
end
section
theorem dL_addBox_0 : decode cL_addBox 0 = .ok (.aload 5, 2) := by decide +kernel
theorem dL_addBox_2 : decode cL_addBox 2 = .ok (.iconst 0, 1) := by decide +kernel
theorem dL_addBox_3 : decode cL_addBox 3 = .ok (.aload_n 0, 1) := by decide +kernel
theorem dL_addBox_4 : decode cL_addBox 4 = .ok (.iload_n 1, 1) := by decide +kernel
theorem dL_addBox_5 : decode cL_addBox 5 = .ok (.iload_n 2, 1) := by decide +kernel
theorem dL_addBox_6 : decode cL_addBox 6 = .ok (.iload_n 3, 1) := by decide +kernel
theorem dL_addBox_7 : decode cL_addBox 7 = .ok (.iload 4, 2) := by decide +kernel
theorem dL_addBox_9 : decode cL_addBox 9 = .ok (.invokevirtual 7, 3) := by decide +kernel
theorem dL_addBox_12 : decode cL_addBox 12 = .ok (.i2l, 1) := by decide +kernel
theorem dL_addBox_13 : decode cL_addBox 13 = .ok (.lastore, 1) := by decide +kernel
theorem dL_addBox_14 : decode cL_addBox 14 = .ok (.goto 15, 3) := by decide +kernel
theorem dL_addBox_17 : decode cL_addBox 17 = .ok (.astore 6, 2) := by decide +kernel
theorem dL_addBox_19 : decode cL_addBox 19 = .ok (.iconst 1, 1) := by decide +kernel
theorem dL_addBox_20 : decode cL_addBox 20 = .ok (.ireturn, 1) := by decide +kernel
theorem dL_addBox_21 : decode cL_addBox 21 = .ok (.astore 6, 2) := by decide +kernel
theorem dL_addBox_23 : decode cL_addBox 23 = .ok (.iconst 2, 1) := by decide +kernel
theorem dL_addBox_24 : decode cL_addBox 24 = .ok (.ireturn, 1) := by decide +kernel
theorem dL_addBox_25 : decode cL_addBox 25 = .ok (.astore 6, 2) := by decide +kernel
theorem dL_addBox_27 : decode cL_addBox 27 = .ok (.iconst 3, 1) := by decide +kernel
theorem dL_addBox_28 : decode cL_addBox 28 = .ok (.ireturn, 1) := by decide +kernel
theorem dL_addBox_29 : decode cL_addBox 29 = .ok (.iconst 0, 1) := by decide +kernel
theorem dL_addBox_30 : decode cL_addBox 30 = .ok (.ireturn, 1) := by decide +kernel
theorem dL_toggle_0 : decode cL_toggle 0 = .ok (.aload_n 2, 1) := by decide +kernel
theorem dL_toggle_1 : decode cL_toggle 1 = .ok (.iconst 0, 1) := by decide +kernel
theorem dL_toggle_2 : decode cL_toggle 2 = .ok (.aload_n 0, 1) := by decide +kernel
theorem dL_toggle_3 : decode cL_toggle 3 = .ok (.iload_n 1, 1) := by decide +kernel
theorem dL_toggle_4 : decode cL_toggle 4 = .ok (.invokevirtual 19, 3) := by decide +kernel
theorem dL_toggle_7 : decode cL_toggle 7 = .ok (.i2l, 1) := by decide +kernel
theorem dL_toggle_8 : decode cL_toggle 8 = .ok (.lastore, 1) := by decide +kernel
theorem dL_toggle_9 : decode cL_toggle 9 = .ok (.goto 6, 3) := by decide +kernel
theorem dL_toggle_12 : decode cL_toggle 12 = .ok (.astore_n 3, 1) := by decide +kernel
theorem dL_toggle_13 : decode cL_toggle 13 = .ok (.iconst 1, 1) := by decide +kernel
theorem dL_toggle_14 : decode cL_toggle 14 = .ok (.ireturn, 1) := by decide +kernel
theorem dL_toggle_15 : decode cL_toggle 15 = .ok (.iconst 0, 1) := by decide +kernel
theorem dL_toggle_16 : decode cL_toggle 16 = .ok (.ireturn, 1) := by decide +kernel
theorem dL_cross_0 : decode cL_cross 0 = .ok (.aload_n 2, 1) := by decide +kernel
theorem dL_cross_1 : decode cL_cross 1 = .ok (.iconst 0, 1) := by decide +kernel
theorem dL_cross_2 : decode cL_cross 2 = .ok (.aload_n 0, 1) := by decide +kernel
theorem dL_cross_3 : decode cL_cross 3 = .ok (.iload_n 1, 1) := by decide +kernel
theorem dL_cross_4 : decode cL_cross 4 = .ok (.invokevirtual 23, 3) := by decide +kernel
theorem dL_cross_7 : decode cL_cross 7 = .ok (.i2l, 1) := by decide +kernel
theorem dL_cross_8 : decode cL_cross 8 = .ok (.lastore, 1) := by decide +kernel
theorem dL_cross_9 : decode cL_cross 9 = .ok (.goto 6, 3) := by decide +kernel
theorem dL_cross_12 : decode cL_cross 12 = .ok (.astore_n 3, 1) := by decide +kernel
theorem dL_cross_13 : decode cL_cross 13 = .ok (.iconst 1, 1) := by decide +kernel
theorem dL_cross_14 : decode cL_cross 14 = .ok (.ireturn, 1) := by decide +kernel
theorem dL_cross_15 : decode cL_cross 15 = .ok (.iconst 0, 1) := by decide +kernel
theorem dL_cross_16 : decode cL_cross 16 = .ok (.ireturn, 1) := by decide +kernel
theorem dL_replace_0 : decode cL_replace 0 = .ok (.aload 4, 2) := by decide +kernel
theorem dL_replace_2 : decode cL_replace 2 = .ok (.iconst 0, 1) := by decide +kernel
theorem dL_replace_3 : decode cL_replace 3 = .ok (.aload_n 0, 1) := by decide +kernel
theorem dL_replace_4 : decode cL_replace 4 = .ok (.iload_n 1, 1) := by decide +kernel
theorem dL_replace_5 : decode cL_replace 5 = .ok (.iload_n 2, 1) := by decide +kernel
theorem dL_replace_6 : decode cL_replace 6 = .ok (.iload_n 3, 1) := by decide +kernel
theorem dL_replace_7 : decode cL_replace 7 = .ok (.invokevirtual 26, 3) := by decide +kernel
theorem dL_replace_10 : decode cL_replace 10 = .ok (.i2l, 1) := by decide +kernel
theorem dL_replace_11 : decode cL_replace 11 = .ok (.lastore, 1) := by decide +kernel
theorem dL_replace_12 : decode cL_replace 12 = .ok (.goto 15, 3) := by decide +kernel
theorem dL_replace_15 : decode cL_replace 15 = .ok (.astore 5, 2) := by decide +kernel
theorem dL_replace_17 : decode cL_replace 17 = .ok (.iconst 1, 1) := by decide +kernel
theorem dL_replace_18 : decode cL_replace 18 = .ok (.ireturn, 1) := by decide +kernel
theorem dL_replace_19 : decode cL_replace 19 = .ok (.astore 5, 2) := by decide +kernel
theorem dL_replace_21 : decode cL_replace 21 = .ok (.iconst 2, 1) := by decide +kernel
theorem dL_replace_22 : decode cL_replace 22 = .ok (.ireturn, 1) := by decide +kernel
theorem dL_replace_23 : decode cL_replace 23 = .ok (.astore 5, 2) := by decide +kernel
theorem dL_replace_25 : decode cL_replace 25 = .ok (.iconst 3, 1) := by decide +kernel
theorem dL_replace_26 : decode cL_replace 26 = .ok (.ireturn, 1) := by decide +kernel
theorem dL_replace_27 : decode cL_replace 27 = .ok (.iconst 0, 1) := by decide +kernel
theorem dL_replace_28 : decode cL_replace 28 = .ok (.ireturn, 1) := by decide +kernel
theorem dL_buyFuses_0 : decode cL_buyFuses 0 = .ok (.aload_n 2, 1) := by decide +kernel
theorem dL_buyFuses_1 : decode cL_buyFuses 1 = .ok (.iconst 0, 1) := by decide +kernel
theorem dL_buyFuses_2 : decode cL_buyFuses 2 = .ok (.aload_n 0, 1) := by decide +kernel
theorem dL_buyFuses_3 : decode cL_buyFuses 3 = .ok (.iload_n 1, 1) := by decide +kernel
theorem dL_buyFuses_4 : decode cL_buyFuses 4 = .ok (.invokevirtual 30, 3) := by decide +kernel
theorem dL_buyFuses_7 : decode cL_buyFuses 7 = .ok (.i2l, 1) := by decide +kernel
theorem dL_buyFuses_8 : decode cL_buyFuses 8 = .ok (.lastore, 1) := by decide +kernel
theorem dL_buyFuses_9 : decode cL_buyFuses 9 = .ok (.goto 9, 3) := by decide +kernel
theorem dL_buyFuses_12 : decode cL_buyFuses 12 = .ok (.astore_n 3, 1) := by decide +kernel
theorem dL_buyFuses_13 : decode cL_buyFuses 13 = .ok (.iconst 1, 1) := by decide +kernel
theorem dL_buyFuses_14 : decode cL_buyFuses 14 = .ok (.ireturn, 1) := by decide +kernel
theorem dL_buyFuses_15 : decode cL_buyFuses 15 = .ok (.astore_n 3, 1) := by decide +kernel
theorem dL_buyFuses_16 : decode cL_buyFuses 16 = .ok (.iconst 2, 1) := by decide +kernel
theorem dL_buyFuses_17 : decode cL_buyFuses 17 = .ok (.ireturn, 1) := by decide +kernel
theorem dL_buyFuses_18 : decode cL_buyFuses 18 = .ok (.iconst 0, 1) := by decide +kernel
theorem dL_buyFuses_19 : decode cL_buyFuses 19 = .ok (.ireturn, 1) := by decide +kernel
theorem dL_hang_0 : decode cL_hang 0 = .ok (.aload 4, 2) := by decide +kernel
theorem dL_hang_2 : decode cL_hang 2 = .ok (.iconst 0, 1) := by decide +kernel
theorem dL_hang_3 : decode cL_hang 3 = .ok (.aload_n 0, 1) := by decide +kernel
theorem dL_hang_4 : decode cL_hang 4 = .ok (.iload_n 1, 1) := by decide +kernel
theorem dL_hang_5 : decode cL_hang 5 = .ok (.iload_n 2, 1) := by decide +kernel
theorem dL_hang_6 : decode cL_hang 6 = .ok (.iload_n 3, 1) := by decide +kernel
theorem dL_hang_7 : decode cL_hang 7 = .ok (.invokevirtual 33, 3) := by decide +kernel
theorem dL_hang_10 : decode cL_hang 10 = .ok (.i2l, 1) := by decide +kernel
theorem dL_hang_11 : decode cL_hang 11 = .ok (.lastore, 1) := by decide +kernel
theorem dL_hang_12 : decode cL_hang 12 = .ok (.goto 15, 3) := by decide +kernel
theorem dL_hang_15 : decode cL_hang 15 = .ok (.astore 5, 2) := by decide +kernel
theorem dL_hang_17 : decode cL_hang 17 = .ok (.iconst 1, 1) := by decide +kernel
theorem dL_hang_18 : decode cL_hang 18 = .ok (.ireturn, 1) := by decide +kernel
theorem dL_hang_19 : decode cL_hang 19 = .ok (.astore 5, 2) := by decide +kernel
theorem dL_hang_21 : decode cL_hang 21 = .ok (.iconst 2, 1) := by decide +kernel
theorem dL_hang_22 : decode cL_hang 22 = .ok (.ireturn, 1) := by decide +kernel
theorem dL_hang_23 : decode cL_hang 23 = .ok (.astore 5, 2) := by decide +kernel
theorem dL_hang_25 : decode cL_hang 25 = .ok (.iconst 3, 1) := by decide +kernel
theorem dL_hang_26 : decode cL_hang 26 = .ok (.ireturn, 1) := by decide +kernel
theorem dL_hang_27 : decode cL_hang 27 = .ok (.iconst 0, 1) := by decide +kernel
theorem dL_hang_28 : decode cL_hang 28 = .ok (.ireturn, 1) := by decide +kernel
theorem dL_takeDown_0 : decode cL_takeDown 0 = .ok (.aload_n 2, 1) := by decide +kernel
theorem dL_takeDown_1 : decode cL_takeDown 1 = .ok (.iconst 0, 1) := by decide +kernel
theorem dL_takeDown_2 : decode cL_takeDown 2 = .ok (.aload_n 0, 1) := by decide +kernel
theorem dL_takeDown_3 : decode cL_takeDown 3 = .ok (.iload_n 1, 1) := by decide +kernel
theorem dL_takeDown_4 : decode cL_takeDown 4 = .ok (.invokevirtual 37, 3) := by decide +kernel
theorem dL_takeDown_7 : decode cL_takeDown 7 = .ok (.i2l, 1) := by decide +kernel
theorem dL_takeDown_8 : decode cL_takeDown 8 = .ok (.lastore, 1) := by decide +kernel
theorem dL_takeDown_9 : decode cL_takeDown 9 = .ok (.goto 6, 3) := by decide +kernel
theorem dL_takeDown_12 : decode cL_takeDown 12 = .ok (.astore_n 3, 1) := by decide +kernel
theorem dL_takeDown_13 : decode cL_takeDown 13 = .ok (.iconst 1, 1) := by decide +kernel
theorem dL_takeDown_14 : decode cL_takeDown 14 = .ok (.ireturn, 1) := by decide +kernel
theorem dL_takeDown_15 : decode cL_takeDown 15 = .ok (.iconst 0, 1) := by decide +kernel
theorem dL_takeDown_16 : decode cL_takeDown 16 = .ok (.ireturn, 1) := by decide +kernel
theorem dL_fault_0 : decode cL_fault 0 = .ok (.aload 4, 2) := by decide +kernel
theorem dL_fault_2 : decode cL_fault 2 = .ok (.iconst 0, 1) := by decide +kernel
theorem dL_fault_3 : decode cL_fault 3 = .ok (.aload_n 0, 1) := by decide +kernel
theorem dL_fault_4 : decode cL_fault 4 = .ok (.iload_n 1, 1) := by decide +kernel
theorem dL_fault_5 : decode cL_fault 5 = .ok (.iload_n 2, 1) := by decide +kernel
theorem dL_fault_6 : decode cL_fault 6 = .ok (.iload_n 3, 1) := by decide +kernel
theorem dL_fault_7 : decode cL_fault 7 = .ok (.invokevirtual 40, 3) := by decide +kernel
theorem dL_fault_10 : decode cL_fault 10 = .ok (.i2l, 1) := by decide +kernel
theorem dL_fault_11 : decode cL_fault 11 = .ok (.lastore, 1) := by decide +kernel
theorem dL_fault_12 : decode cL_fault 12 = .ok (.goto 15, 3) := by decide +kernel
theorem dL_fault_15 : decode cL_fault 15 = .ok (.astore 5, 2) := by decide +kernel
theorem dL_fault_17 : decode cL_fault 17 = .ok (.iconst 1, 1) := by decide +kernel
theorem dL_fault_18 : decode cL_fault 18 = .ok (.ireturn, 1) := by decide +kernel
theorem dL_fault_19 : decode cL_fault 19 = .ok (.astore 5, 2) := by decide +kernel
theorem dL_fault_21 : decode cL_fault 21 = .ok (.iconst 2, 1) := by decide +kernel
theorem dL_fault_22 : decode cL_fault 22 = .ok (.ireturn, 1) := by decide +kernel
theorem dL_fault_23 : decode cL_fault 23 = .ok (.astore 5, 2) := by decide +kernel
theorem dL_fault_25 : decode cL_fault 25 = .ok (.iconst 3, 1) := by decide +kernel
theorem dL_fault_26 : decode cL_fault 26 = .ok (.ireturn, 1) := by decide +kernel
theorem dL_fault_27 : decode cL_fault 27 = .ok (.iconst 0, 1) := by decide +kernel
theorem dL_fault_28 : decode cL_fault 28 = .ok (.ireturn, 1) := by decide +kernel
theorem dL_mend_0 : decode cL_mend 0 = .ok (.aload_n 2, 1) := by decide +kernel
theorem dL_mend_1 : decode cL_mend 1 = .ok (.iconst 0, 1) := by decide +kernel
theorem dL_mend_2 : decode cL_mend 2 = .ok (.aload_n 0, 1) := by decide +kernel
theorem dL_mend_3 : decode cL_mend 3 = .ok (.iload_n 1, 1) := by decide +kernel
theorem dL_mend_4 : decode cL_mend 4 = .ok (.invokevirtual 43, 3) := by decide +kernel
theorem dL_mend_7 : decode cL_mend 7 = .ok (.i2l, 1) := by decide +kernel
theorem dL_mend_8 : decode cL_mend 8 = .ok (.lastore, 1) := by decide +kernel
theorem dL_mend_9 : decode cL_mend 9 = .ok (.goto 6, 3) := by decide +kernel
theorem dL_mend_12 : decode cL_mend 12 = .ok (.astore_n 3, 1) := by decide +kernel
theorem dL_mend_13 : decode cL_mend 13 = .ok (.iconst 1, 1) := by decide +kernel
theorem dL_mend_14 : decode cL_mend 14 = .ok (.ireturn, 1) := by decide +kernel
theorem dL_mend_15 : decode cL_mend 15 = .ok (.iconst 0, 1) := by decide +kernel
theorem dL_mend_16 : decode cL_mend 16 = .ok (.ireturn, 1) := by decide +kernel
theorem dL_burn_0 : decode cL_burn 0 = .ok (.aload_n 2, 1) := by decide +kernel
theorem dL_burn_1 : decode cL_burn 1 = .ok (.iconst 0, 1) := by decide +kernel
theorem dL_burn_2 : decode cL_burn 2 = .ok (.aload_n 0, 1) := by decide +kernel
theorem dL_burn_3 : decode cL_burn 3 = .ok (.iload_n 1, 1) := by decide +kernel
theorem dL_burn_4 : decode cL_burn 4 = .ok (.invokevirtual 46, 3) := by decide +kernel
theorem dL_burn_7 : decode cL_burn 7 = .ok (.i2l, 1) := by decide +kernel
theorem dL_burn_8 : decode cL_burn 8 = .ok (.lastore, 1) := by decide +kernel
theorem dL_burn_9 : decode cL_burn 9 = .ok (.goto 9, 3) := by decide +kernel
theorem dL_burn_12 : decode cL_burn 12 = .ok (.astore_n 3, 1) := by decide +kernel
theorem dL_burn_13 : decode cL_burn 13 = .ok (.iconst 1, 1) := by decide +kernel
theorem dL_burn_14 : decode cL_burn 14 = .ok (.ireturn, 1) := by decide +kernel
theorem dL_burn_15 : decode cL_burn 15 = .ok (.astore_n 3, 1) := by decide +kernel
theorem dL_burn_16 : decode cL_burn 16 = .ok (.iconst 2, 1) := by decide +kernel
theorem dL_burn_17 : decode cL_burn 17 = .ok (.ireturn, 1) := by decide +kernel
theorem dL_burn_18 : decode cL_burn 18 = .ok (.iconst 0, 1) := by decide +kernel
theorem dL_burn_19 : decode cL_burn 19 = .ok (.ireturn, 1) := by decide +kernel
theorem dL_append_0 : decode cL_append 0 = .ok (.aload_n 2, 1) := by decide +kernel
theorem dL_append_1 : decode cL_append 1 = .ok (.iconst 0, 1) := by decide +kernel
theorem dL_append_2 : decode cL_append 2 = .ok (.aload_n 0, 1) := by decide +kernel
theorem dL_append_3 : decode cL_append 3 = .ok (.iload_n 1, 1) := by decide +kernel
theorem dL_append_4 : decode cL_append 4 = .ok (.invokevirtual 49, 3) := by decide +kernel
theorem dL_append_7 : decode cL_append 7 = .ok (.i2l, 1) := by decide +kernel
theorem dL_append_8 : decode cL_append 8 = .ok (.lastore, 1) := by decide +kernel
theorem dL_append_9 : decode cL_append 9 = .ok (.goto 9, 3) := by decide +kernel
theorem dL_append_12 : decode cL_append 12 = .ok (.astore_n 3, 1) := by decide +kernel
theorem dL_append_13 : decode cL_append 13 = .ok (.iconst 1, 1) := by decide +kernel
theorem dL_append_14 : decode cL_append 14 = .ok (.ireturn, 1) := by decide +kernel
theorem dL_append_15 : decode cL_append 15 = .ok (.astore_n 3, 1) := by decide +kernel
theorem dL_append_16 : decode cL_append 16 = .ok (.iconst 2, 1) := by decide +kernel
theorem dL_append_17 : decode cL_append 17 = .ok (.ireturn, 1) := by decide +kernel
theorem dL_append_18 : decode cL_append 18 = .ok (.iconst 0, 1) := by decide +kernel
theorem dL_append_19 : decode cL_append 19 = .ok (.ireturn, 1) := by decide +kernel
theorem dL_load_0 : decode cL_load 0 = .ok (.aload_n 1, 1) := by decide +kernel
theorem dL_load_1 : decode cL_load 1 = .ok (.iconst 0, 1) := by decide +kernel
theorem dL_load_2 : decode cL_load 2 = .ok (.aload_n 0, 1) := by decide +kernel
theorem dL_load_3 : decode cL_load 3 = .ok (.invokevirtual 52, 3) := by decide +kernel
theorem dL_load_6 : decode cL_load 6 = .ok (.i2l, 1) := by decide +kernel
theorem dL_load_7 : decode cL_load 7 = .ok (.lastore, 1) := by decide +kernel
theorem dL_load_8 : decode cL_load 8 = .ok (.goto 6, 3) := by decide +kernel
theorem dL_load_11 : decode cL_load 11 = .ok (.astore_n 2, 1) := by decide +kernel
theorem dL_load_12 : decode cL_load 12 = .ok (.iconst 1, 1) := by decide +kernel
theorem dL_load_13 : decode cL_load 13 = .ok (.ireturn, 1) := by decide +kernel
theorem dL_load_14 : decode cL_load 14 = .ok (.iconst 0, 1) := by decide +kernel
theorem dL_load_15 : decode cL_load 15 = .ok (.ireturn, 1) := by decide +kernel
theorem dL_undo_0 : decode cL_undo 0 = .ok (.aload_n 1, 1) := by decide +kernel
theorem dL_undo_1 : decode cL_undo 1 = .ok (.iconst 0, 1) := by decide +kernel
theorem dL_undo_2 : decode cL_undo 2 = .ok (.aload_n 0, 1) := by decide +kernel
theorem dL_undo_3 : decode cL_undo 3 = .ok (.invokevirtual 56, 3) := by decide +kernel
theorem dL_undo_6 : decode cL_undo 6 = .ok (.i2l, 1) := by decide +kernel
theorem dL_undo_7 : decode cL_undo 7 = .ok (.lastore, 1) := by decide +kernel
theorem dL_undo_8 : decode cL_undo 8 = .ok (.goto 6, 3) := by decide +kernel
theorem dL_undo_11 : decode cL_undo 11 = .ok (.astore_n 2, 1) := by decide +kernel
theorem dL_undo_12 : decode cL_undo 12 = .ok (.iconst 1, 1) := by decide +kernel
theorem dL_undo_13 : decode cL_undo 13 = .ok (.ireturn, 1) := by decide +kernel
theorem dL_undo_14 : decode cL_undo 14 = .ok (.iconst 0, 1) := by decide +kernel
theorem dL_undo_15 : decode cL_undo 15 = .ok (.ireturn, 1) := by decide +kernel
theorem dL_box_0 : decode cL_box 0 = .ok (.aload_n 3, 1) := by decide +kernel
theorem dL_box_1 : decode cL_box 1 = .ok (.iconst 0, 1) := by decide +kernel
theorem dL_box_2 : decode cL_box 2 = .ok (.aload_n 0, 1) := by decide +kernel
theorem dL_box_3 : decode cL_box 3 = .ok (.iload_n 1, 1) := by decide +kernel
theorem dL_box_4 : decode cL_box 4 = .ok (.iload_n 2, 1) := by decide +kernel
theorem dL_box_5 : decode cL_box 5 = .ok (.invokevirtual 59, 3) := by decide +kernel
theorem dL_box_8 : decode cL_box 8 = .ok (.i2l, 1) := by decide +kernel
theorem dL_box_9 : decode cL_box 9 = .ok (.lastore, 1) := by decide +kernel
theorem dL_box_10 : decode cL_box 10 = .ok (.goto 11, 3) := by decide +kernel
theorem dL_box_13 : decode cL_box 13 = .ok (.astore 4, 2) := by decide +kernel
theorem dL_box_15 : decode cL_box 15 = .ok (.iconst 1, 1) := by decide +kernel
theorem dL_box_16 : decode cL_box 16 = .ok (.ireturn, 1) := by decide +kernel
theorem dL_box_17 : decode cL_box 17 = .ok (.astore 4, 2) := by decide +kernel
theorem dL_box_19 : decode cL_box 19 = .ok (.iconst 2, 1) := by decide +kernel
theorem dL_box_20 : decode cL_box 20 = .ok (.ireturn, 1) := by decide +kernel
theorem dL_box_21 : decode cL_box 21 = .ok (.iconst 0, 1) := by decide +kernel
theorem dL_box_22 : decode cL_box 22 = .ok (.ireturn, 1) := by decide +kernel
theorem dL_terminal_0 : decode cL_terminal 0 = .ok (.aload 4, 2) := by decide +kernel
theorem dL_terminal_2 : decode cL_terminal 2 = .ok (.iconst 0, 1) := by decide +kernel
theorem dL_terminal_3 : decode cL_terminal 3 = .ok (.aload_n 0, 1) := by decide +kernel
theorem dL_terminal_4 : decode cL_terminal 4 = .ok (.iload_n 1, 1) := by decide +kernel
theorem dL_terminal_5 : decode cL_terminal 5 = .ok (.iload_n 2, 1) := by decide +kernel
theorem dL_terminal_6 : decode cL_terminal 6 = .ok (.iload_n 3, 1) := by decide +kernel
theorem dL_terminal_7 : decode cL_terminal 7 = .ok (.invokevirtual 63, 3) := by decide +kernel
theorem dL_terminal_10 : decode cL_terminal 10 = .ok (.i2l, 1) := by decide +kernel
theorem dL_terminal_11 : decode cL_terminal 11 = .ok (.lastore, 1) := by decide +kernel
theorem dL_terminal_12 : decode cL_terminal 12 = .ok (.goto 11, 3) := by decide +kernel
theorem dL_terminal_15 : decode cL_terminal 15 = .ok (.astore 5, 2) := by decide +kernel
theorem dL_terminal_17 : decode cL_terminal 17 = .ok (.iconst 1, 1) := by decide +kernel
theorem dL_terminal_18 : decode cL_terminal 18 = .ok (.ireturn, 1) := by decide +kernel
theorem dL_terminal_19 : decode cL_terminal 19 = .ok (.astore 5, 2) := by decide +kernel
theorem dL_terminal_21 : decode cL_terminal 21 = .ok (.iconst 2, 1) := by decide +kernel
theorem dL_terminal_22 : decode cL_terminal 22 = .ok (.ireturn, 1) := by decide +kernel
theorem dL_terminal_23 : decode cL_terminal 23 = .ok (.iconst 0, 1) := by decide +kernel
theorem dL_terminal_24 : decode cL_terminal 24 = .ok (.ireturn, 1) := by decide +kernel
theorem dL_lantern_0 : decode cL_lantern 0 = .ok (.aload_n 3, 1) := by decide +kernel
theorem dL_lantern_1 : decode cL_lantern 1 = .ok (.iconst 0, 1) := by decide +kernel
theorem dL_lantern_2 : decode cL_lantern 2 = .ok (.aload_n 0, 1) := by decide +kernel
theorem dL_lantern_3 : decode cL_lantern 3 = .ok (.iload_n 1, 1) := by decide +kernel
theorem dL_lantern_4 : decode cL_lantern 4 = .ok (.iload_n 2, 1) := by decide +kernel
theorem dL_lantern_5 : decode cL_lantern 5 = .ok (.invokevirtual 66, 3) := by decide +kernel
theorem dL_lantern_8 : decode cL_lantern 8 = .ok (.i2l, 1) := by decide +kernel
theorem dL_lantern_9 : decode cL_lantern 9 = .ok (.lastore, 1) := by decide +kernel
theorem dL_lantern_10 : decode cL_lantern 10 = .ok (.goto 11, 3) := by decide +kernel
theorem dL_lantern_13 : decode cL_lantern 13 = .ok (.astore 4, 2) := by decide +kernel
theorem dL_lantern_15 : decode cL_lantern 15 = .ok (.iconst 1, 1) := by decide +kernel
theorem dL_lantern_16 : decode cL_lantern 16 = .ok (.ireturn, 1) := by decide +kernel
theorem dL_lantern_17 : decode cL_lantern 17 = .ok (.astore 4, 2) := by decide +kernel
theorem dL_lantern_19 : decode cL_lantern 19 = .ok (.iconst 2, 1) := by decide +kernel
theorem dL_lantern_20 : decode cL_lantern 20 = .ok (.ireturn, 1) := by decide +kernel
theorem dL_lantern_21 : decode cL_lantern 21 = .ok (.iconst 0, 1) := by decide +kernel
theorem dL_lantern_22 : decode cL_lantern 22 = .ok (.ireturn, 1) := by decide +kernel
theorem dL_faultAt_0 : decode cL_faultAt 0 = .ok (.aload_n 3, 1) := by decide +kernel
theorem dL_faultAt_1 : decode cL_faultAt 1 = .ok (.iconst 0, 1) := by decide +kernel
theorem dL_faultAt_2 : decode cL_faultAt 2 = .ok (.aload_n 0, 1) := by decide +kernel
theorem dL_faultAt_3 : decode cL_faultAt 3 = .ok (.iload_n 1, 1) := by decide +kernel
theorem dL_faultAt_4 : decode cL_faultAt 4 = .ok (.iload_n 2, 1) := by decide +kernel
theorem dL_faultAt_5 : decode cL_faultAt 5 = .ok (.invokevirtual 69, 3) := by decide +kernel
theorem dL_faultAt_8 : decode cL_faultAt 8 = .ok (.i2l, 1) := by decide +kernel
theorem dL_faultAt_9 : decode cL_faultAt 9 = .ok (.lastore, 1) := by decide +kernel
theorem dL_faultAt_10 : decode cL_faultAt 10 = .ok (.goto 11, 3) := by decide +kernel
theorem dL_faultAt_13 : decode cL_faultAt 13 = .ok (.astore 4, 2) := by decide +kernel
theorem dL_faultAt_15 : decode cL_faultAt 15 = .ok (.iconst 1, 1) := by decide +kernel
theorem dL_faultAt_16 : decode cL_faultAt 16 = .ok (.ireturn, 1) := by decide +kernel
theorem dL_faultAt_17 : decode cL_faultAt 17 = .ok (.astore 4, 2) := by decide +kernel
theorem dL_faultAt_19 : decode cL_faultAt 19 = .ok (.iconst 2, 1) := by decide +kernel
theorem dL_faultAt_20 : decode cL_faultAt 20 = .ok (.ireturn, 1) := by decide +kernel
theorem dL_faultAt_21 : decode cL_faultAt 21 = .ok (.iconst 0, 1) := by decide +kernel
theorem dL_faultAt_22 : decode cL_faultAt 22 = .ok (.ireturn, 1) := by decide +kernel
theorem dL_count_0 : decode cL_count 0 = .ok (.aload_n 2, 1) := by decide +kernel
theorem dL_count_1 : decode cL_count 1 = .ok (.iconst 0, 1) := by decide +kernel
theorem dL_count_2 : decode cL_count 2 = .ok (.aload_n 0, 1) := by decide +kernel
theorem dL_count_3 : decode cL_count 3 = .ok (.iload_n 1, 1) := by decide +kernel
theorem dL_count_4 : decode cL_count 4 = .ok (.invokevirtual 72, 3) := by decide +kernel
theorem dL_count_7 : decode cL_count 7 = .ok (.i2l, 1) := by decide +kernel
theorem dL_count_8 : decode cL_count 8 = .ok (.lastore, 1) := by decide +kernel
theorem dL_count_9 : decode cL_count 9 = .ok (.goto 6, 3) := by decide +kernel
theorem dL_count_12 : decode cL_count 12 = .ok (.astore_n 3, 1) := by decide +kernel
theorem dL_count_13 : decode cL_count 13 = .ok (.iconst 1, 1) := by decide +kernel
theorem dL_count_14 : decode cL_count 14 = .ok (.ireturn, 1) := by decide +kernel
theorem dL_count_15 : decode cL_count 15 = .ok (.iconst 0, 1) := by decide +kernel
theorem dL_count_16 : decode cL_count 16 = .ok (.ireturn, 1) := by decide +kernel
theorem dL_lamp_0 : decode cL_lamp 0 = .ok (.aload_n 2, 1) := by decide +kernel
theorem dL_lamp_1 : decode cL_lamp 1 = .ok (.iconst 0, 1) := by decide +kernel
theorem dL_lamp_2 : decode cL_lamp 2 = .ok (.aload_n 0, 1) := by decide +kernel
theorem dL_lamp_3 : decode cL_lamp 3 = .ok (.iload_n 1, 1) := by decide +kernel
theorem dL_lamp_4 : decode cL_lamp 4 = .ok (.invokevirtual 75, 3) := by decide +kernel
theorem dL_lamp_7 : decode cL_lamp 7 = .ok (.i2l, 1) := by decide +kernel
theorem dL_lamp_8 : decode cL_lamp 8 = .ok (.lastore, 1) := by decide +kernel
theorem dL_lamp_9 : decode cL_lamp 9 = .ok (.goto 6, 3) := by decide +kernel
theorem dL_lamp_12 : decode cL_lamp 12 = .ok (.astore_n 3, 1) := by decide +kernel
theorem dL_lamp_13 : decode cL_lamp 13 = .ok (.iconst 1, 1) := by decide +kernel
theorem dL_lamp_14 : decode cL_lamp 14 = .ok (.ireturn, 1) := by decide +kernel
theorem dL_lamp_15 : decode cL_lamp 15 = .ok (.iconst 0, 1) := by decide +kernel
theorem dL_lamp_16 : decode cL_lamp 16 = .ok (.ireturn, 1) := by decide +kernel
theorem dL_locate_0 : decode cL_locate 0 = .ok (.aload_n 2, 1) := by decide +kernel
theorem dL_locate_1 : decode cL_locate 1 = .ok (.iconst 0, 1) := by decide +kernel
theorem dL_locate_2 : decode cL_locate 2 = .ok (.aload_n 0, 1) := by decide +kernel
theorem dL_locate_3 : decode cL_locate 3 = .ok (.iload_n 1, 1) := by decide +kernel
theorem dL_locate_4 : decode cL_locate 4 = .ok (.invokevirtual 78, 3) := by decide +kernel
theorem dL_locate_7 : decode cL_locate 7 = .ok (.i2l, 1) := by decide +kernel
theorem dL_locate_8 : decode cL_locate 8 = .ok (.lastore, 1) := by decide +kernel
theorem dL_locate_9 : decode cL_locate 9 = .ok (.goto 6, 3) := by decide +kernel
theorem dL_locate_12 : decode cL_locate 12 = .ok (.astore_n 3, 1) := by decide +kernel
theorem dL_locate_13 : decode cL_locate 13 = .ok (.iconst 1, 1) := by decide +kernel
theorem dL_locate_14 : decode cL_locate 14 = .ok (.ireturn, 1) := by decide +kernel
theorem dL_locate_15 : decode cL_locate 15 = .ok (.iconst 0, 1) := by decide +kernel
theorem dL_locate_16 : decode cL_locate 16 = .ok (.ireturn, 1) := by decide +kernel
theorem dL_ifFault_0 : decode cL_ifFault 0 = .ok (.aload 5, 2) := by decide +kernel
theorem dL_ifFault_2 : decode cL_ifFault 2 = .ok (.iconst 0, 1) := by decide +kernel
theorem dL_ifFault_3 : decode cL_ifFault 3 = .ok (.aload_n 0, 1) := by decide +kernel
theorem dL_ifFault_4 : decode cL_ifFault 4 = .ok (.iload_n 1, 1) := by decide +kernel
theorem dL_ifFault_5 : decode cL_ifFault 5 = .ok (.iload_n 2, 1) := by decide +kernel
theorem dL_ifFault_6 : decode cL_ifFault 6 = .ok (.iload_n 3, 1) := by decide +kernel
theorem dL_ifFault_7 : decode cL_ifFault 7 = .ok (.iload 4, 2) := by decide +kernel
theorem dL_ifFault_9 : decode cL_ifFault 9 = .ok (.invokevirtual 81, 3) := by decide +kernel
theorem dL_ifFault_12 : decode cL_ifFault 12 = .ok (.i2l, 1) := by decide +kernel
theorem dL_ifFault_13 : decode cL_ifFault 13 = .ok (.lastore, 1) := by decide +kernel
theorem dL_ifFault_14 : decode cL_ifFault 14 = .ok (.goto 11, 3) := by decide +kernel
theorem dL_ifFault_17 : decode cL_ifFault 17 = .ok (.astore 6, 2) := by decide +kernel
theorem dL_ifFault_19 : decode cL_ifFault 19 = .ok (.iconst 1, 1) := by decide +kernel
theorem dL_ifFault_20 : decode cL_ifFault 20 = .ok (.ireturn, 1) := by decide +kernel
theorem dL_ifFault_21 : decode cL_ifFault 21 = .ok (.astore 6, 2) := by decide +kernel
theorem dL_ifFault_23 : decode cL_ifFault 23 = .ok (.iconst 2, 1) := by decide +kernel
theorem dL_ifFault_24 : decode cL_ifFault 24 = .ok (.ireturn, 1) := by decide +kernel
theorem dL_ifFault_25 : decode cL_ifFault 25 = .ok (.iconst 0, 1) := by decide +kernel
theorem dL_ifFault_26 : decode cL_ifFault 26 = .ok (.ireturn, 1) := by decide +kernel
theorem dL_ifToggled_0 : decode cL_ifToggled 0 = .ok (.aload_n 2, 1) := by decide +kernel
theorem dL_ifToggled_1 : decode cL_ifToggled 1 = .ok (.iconst 0, 1) := by decide +kernel
theorem dL_ifToggled_2 : decode cL_ifToggled 2 = .ok (.aload_n 0, 1) := by decide +kernel
theorem dL_ifToggled_3 : decode cL_ifToggled 3 = .ok (.iload_n 1, 1) := by decide +kernel
theorem dL_ifToggled_4 : decode cL_ifToggled 4 = .ok (.invokevirtual 85, 3) := by decide +kernel
theorem dL_ifToggled_7 : decode cL_ifToggled 7 = .ok (.i2l, 1) := by decide +kernel
theorem dL_ifToggled_8 : decode cL_ifToggled 8 = .ok (.lastore, 1) := by decide +kernel
theorem dL_ifToggled_9 : decode cL_ifToggled 9 = .ok (.goto 6, 3) := by decide +kernel
theorem dL_ifToggled_12 : decode cL_ifToggled 12 = .ok (.astore_n 3, 1) := by decide +kernel
theorem dL_ifToggled_13 : decode cL_ifToggled 13 = .ok (.iconst 1, 1) := by decide +kernel
theorem dL_ifToggled_14 : decode cL_ifToggled 14 = .ok (.ireturn, 1) := by decide +kernel
theorem dL_ifToggled_15 : decode cL_ifToggled 15 = .ok (.iconst 0, 1) := by decide +kernel
theorem dL_ifToggled_16 : decode cL_ifToggled 16 = .ok (.ireturn, 1) := by decide +kernel
theorem dL_neededRating_0 : decode cL_neededRating 0 = .ok (.aload_n 3, 1) := by decide +kernel
theorem dL_neededRating_1 : decode cL_neededRating 1 = .ok (.iconst 0, 1) := by decide +kernel
theorem dL_neededRating_2 : decode cL_neededRating 2 = .ok (.aload_n 0, 1) := by decide +kernel
theorem dL_neededRating_3 : decode cL_neededRating 3 = .ok (.iload_n 1, 1) := by decide +kernel
theorem dL_neededRating_4 : decode cL_neededRating 4 = .ok (.iload_n 2, 1) := by decide +kernel
theorem dL_neededRating_5 : decode cL_neededRating 5 = .ok (.invokevirtual 88, 3) := by decide +kernel
theorem dL_neededRating_8 : decode cL_neededRating 8 = .ok (.i2l, 1) := by decide +kernel
theorem dL_neededRating_9 : decode cL_neededRating 9 = .ok (.lastore, 1) := by decide +kernel
theorem dL_neededRating_10 : decode cL_neededRating 10 = .ok (.goto 7, 3) := by decide +kernel
theorem dL_neededRating_13 : decode cL_neededRating 13 = .ok (.astore 4, 2) := by decide +kernel
theorem dL_neededRating_15 : decode cL_neededRating 15 = .ok (.iconst 1, 1) := by decide +kernel
theorem dL_neededRating_16 : decode cL_neededRating 16 = .ok (.ireturn, 1) := by decide +kernel
theorem dL_neededRating_17 : decode cL_neededRating 17 = .ok (.iconst 0, 1) := by decide +kernel
theorem dL_neededRating_18 : decode cL_neededRating 18 = .ok (.ireturn, 1) := by decide +kernel
theorem dL_law_0 : decode cL_law 0 = .ok (.new 8, 3) := by decide +kernel
theorem dL_law_3 : decode cL_law 3 = .ok (.dup, 1) := by decide +kernel
theorem dL_law_4 : decode cL_law 4 = .ok (.invokespecial 91, 3) := by decide +kernel
theorem dL_law_7 : decode cL_law 7 = .ok (.astore_n 1, 1) := by decide +kernel
theorem dL_law_8 : decode cL_law 8 = .ok (.new 92, 3) := by decide +kernel
theorem dL_law_11 : decode cL_law 11 = .ok (.dup, 1) := by decide +kernel
theorem dL_law_12 : decode cL_law 12 = .ok (.invokespecial 94, 3) := by decide +kernel
theorem dL_law_15 : decode cL_law 15 = .ok (.astore_n 2, 1) := by decide +kernel
theorem dL_law_16 : decode cL_law 16 = .ok (.iconst 1, 1) := by decide +kernel
theorem dL_law_17 : decode cL_law 17 = .ok (.newarray .long, 2) := by decide +kernel
theorem dL_law_19 : decode cL_law 19 = .ok (.astore_n 3, 1) := by decide +kernel
theorem dL_law_20 : decode cL_law 20 = .ok (.iconst 0, 1) := by decide +kernel
theorem dL_law_21 : decode cL_law 21 = .ok (.istore 4, 2) := by decide +kernel
theorem dL_law_23 : decode cL_law 23 = .ok (.iload 4, 2) := by decide +kernel
theorem dL_law_25 : decode cL_law 25 = .ok (.aload_n 0, 1) := by decide +kernel
theorem dL_law_26 : decode cL_law 26 = .ok (.arraylength, 1) := by decide +kernel
theorem dL_law_27 : decode cL_law 27 = .ok (.iconst 5, 1) := by decide +kernel
theorem dL_law_28 : decode cL_law 28 = .ok (.isub, 1) := by decide +kernel
theorem dL_law_29 : decode cL_law 29 = .ok (.if_icmp .gt 1730, 3) := by decide +kernel
theorem dL_law_32 : decode cL_law 32 = .ok (.aload_n 0, 1) := by decide +kernel
theorem dL_law_33 : decode cL_law 33 = .ok (.iload 4, 2) := by decide +kernel
theorem dL_law_35 : decode cL_law 35 = .ok (.iaload, 1) := by decide +kernel
theorem dL_law_36 : decode cL_law 36 = .ok (.bipush 31, 2) := by decide +kernel
theorem dL_law_38 : decode cL_law 38 = .ok (.iand, 1) := by decide +kernel
theorem dL_law_39 : decode cL_law 39 = .ok (.tableswitch 1714 0 26 #[121, 229, 285, 341, 421, 477, 573, 629, 709, 765, 821, 877, 890, 903, 947, 991, 1059, 1139, 1207, 1275, 1331, 1387, 1443, 1535, 1591, 1659, 1700], 121) := by decide +kernel
theorem dL_law_160 : decode cL_law 160 = .ok (.aload_n 1, 1) := by decide +kernel
theorem dL_law_161 : decode cL_law 161 = .ok (.aload_n 0, 1) := by decide +kernel
theorem dL_law_162 : decode cL_law 162 = .ok (.iload 4, 2) := by decide +kernel
theorem dL_law_164 : decode cL_law 164 = .ok (.iconst 1, 1) := by decide +kernel
theorem dL_law_165 : decode cL_law 165 = .ok (.iadd, 1) := by decide +kernel
theorem dL_law_166 : decode cL_law 166 = .ok (.iaload, 1) := by decide +kernel
theorem dL_law_167 : decode cL_law 167 = .ok (.aload_n 0, 1) := by decide +kernel
theorem dL_law_168 : decode cL_law 168 = .ok (.iload 4, 2) := by decide +kernel
theorem dL_law_170 : decode cL_law 170 = .ok (.iconst 2, 1) := by decide +kernel
theorem dL_law_171 : decode cL_law 171 = .ok (.iadd, 1) := by decide +kernel
theorem dL_law_172 : decode cL_law 172 = .ok (.iaload, 1) := by decide +kernel
theorem dL_law_173 : decode cL_law 173 = .ok (.aload_n 0, 1) := by decide +kernel
theorem dL_law_174 : decode cL_law 174 = .ok (.iload 4, 2) := by decide +kernel
theorem dL_law_176 : decode cL_law 176 = .ok (.iconst 3, 1) := by decide +kernel
theorem dL_law_177 : decode cL_law 177 = .ok (.iadd, 1) := by decide +kernel
theorem dL_law_178 : decode cL_law 178 = .ok (.iaload, 1) := by decide +kernel
theorem dL_law_179 : decode cL_law 179 = .ok (.aload_n 0, 1) := by decide +kernel
theorem dL_law_180 : decode cL_law 180 = .ok (.iload 4, 2) := by decide +kernel
theorem dL_law_182 : decode cL_law 182 = .ok (.iconst 4, 1) := by decide +kernel
theorem dL_law_183 : decode cL_law 183 = .ok (.iadd, 1) := by decide +kernel
theorem dL_law_184 : decode cL_law 184 = .ok (.iaload, 1) := by decide +kernel
theorem dL_law_185 : decode cL_law 185 = .ok (.ifCond .eq 7, 3) := by decide +kernel
theorem dL_law_188 : decode cL_law 188 = .ok (.iconst 1, 1) := by decide +kernel
theorem dL_law_189 : decode cL_law 189 = .ok (.goto 4, 3) := by decide +kernel
theorem dL_law_192 : decode cL_law 192 = .ok (.iconst 0, 1) := by decide +kernel
theorem dL_law_193 : decode cL_law 193 = .ok (.aload_n 3, 1) := by decide +kernel
theorem dL_law_194 : decode cL_law 194 = .ok (.invokestatic 95, 3) := by decide +kernel
theorem dL_law_197 : decode cL_law 197 = .ok (.istore 5, 2) := by decide +kernel
theorem dL_law_199 : decode cL_law 199 = .ok (.aload_n 2, 1) := by decide +kernel
theorem dL_law_200 : decode cL_law 200 = .ok (.aload_n 0, 1) := by decide +kernel
theorem dL_law_201 : decode cL_law 201 = .ok (.iload 4, 2) := by decide +kernel
theorem dL_law_203 : decode cL_law 203 = .ok (.iconst 1, 1) := by decide +kernel
theorem dL_law_204 : decode cL_law 204 = .ok (.iadd, 1) := by decide +kernel
theorem dL_law_205 : decode cL_law 205 = .ok (.iaload, 1) := by decide +kernel
theorem dL_law_206 : decode cL_law 206 = .ok (.aload_n 0, 1) := by decide +kernel
theorem dL_law_207 : decode cL_law 207 = .ok (.iload 4, 2) := by decide +kernel
theorem dL_law_209 : decode cL_law 209 = .ok (.iconst 2, 1) := by decide +kernel
theorem dL_law_210 : decode cL_law 210 = .ok (.iadd, 1) := by decide +kernel
theorem dL_law_211 : decode cL_law 211 = .ok (.iaload, 1) := by decide +kernel
theorem dL_law_212 : decode cL_law 212 = .ok (.aload_n 0, 1) := by decide +kernel
theorem dL_law_213 : decode cL_law 213 = .ok (.iload 4, 2) := by decide +kernel
theorem dL_law_215 : decode cL_law 215 = .ok (.iconst 3, 1) := by decide +kernel
theorem dL_law_216 : decode cL_law 216 = .ok (.iadd, 1) := by decide +kernel
theorem dL_law_217 : decode cL_law 217 = .ok (.iaload, 1) := by decide +kernel
theorem dL_law_218 : decode cL_law 218 = .ok (.aload_n 0, 1) := by decide +kernel
theorem dL_law_219 : decode cL_law 219 = .ok (.iload 4, 2) := by decide +kernel
theorem dL_law_221 : decode cL_law 221 = .ok (.iconst 4, 1) := by decide +kernel
theorem dL_law_222 : decode cL_law 222 = .ok (.iadd, 1) := by decide +kernel
theorem dL_law_223 : decode cL_law 223 = .ok (.iaload, 1) := by decide +kernel
theorem dL_law_224 : decode cL_law 224 = .ok (.ifCond .eq 7, 3) := by decide +kernel
theorem dL_law_227 : decode cL_law 227 = .ok (.iconst 1, 1) := by decide +kernel
theorem dL_law_228 : decode cL_law 228 = .ok (.goto 4, 3) := by decide +kernel
theorem dL_law_231 : decode cL_law 231 = .ok (.iconst 0, 1) := by decide +kernel
theorem dL_law_232 : decode cL_law 232 = .ok (.invokevirtual 100, 3) := by decide +kernel
theorem dL_law_235 : decode cL_law 235 = .ok (.istore 6, 2) := by decide +kernel
theorem dL_law_237 : decode cL_law 237 = .ok (.aload_n 2, 1) := by decide +kernel
theorem dL_law_238 : decode cL_law 238 = .ok (.invokevirtual 101, 3) := by decide +kernel
theorem dL_law_241 : decode cL_law 241 = .ok (.iload 5, 2) := by decide +kernel
theorem dL_law_243 : decode cL_law 243 = .ok (.if_icmp .eq 5, 3) := by decide +kernel
theorem dL_law_246 : decode cL_law 246 = .ok (.iconst 0, 1) := by decide +kernel
theorem dL_law_247 : decode cL_law 247 = .ok (.ireturn, 1) := by decide +kernel
theorem dL_law_248 : decode cL_law 248 = .ok (.iload 5, 2) := by decide +kernel
theorem dL_law_250 : decode cL_law 250 = .ok (.ifCond .ne 15, 3) := by decide +kernel
theorem dL_law_253 : decode cL_law 253 = .ok (.aload_n 3, 1) := by decide +kernel
theorem dL_law_254 : decode cL_law 254 = .ok (.iconst 0, 1) := by decide +kernel
theorem dL_law_255 : decode cL_law 255 = .ok (.laload, 1) := by decide +kernel
theorem dL_law_256 : decode cL_law 256 = .ok (.iload 6, 2) := by decide +kernel
theorem dL_law_258 : decode cL_law 258 = .ok (.i2l, 1) := by decide +kernel
theorem dL_law_259 : decode cL_law 259 = .ok (.lcmp, 1) := by decide +kernel
theorem dL_law_260 : decode cL_law 260 = .ok (.ifCond .eq 5, 3) := by decide +kernel
theorem dL_law_263 : decode cL_law 263 = .ok (.iconst 0, 1) := by decide +kernel
theorem dL_law_264 : decode cL_law 264 = .ok (.ireturn, 1) := by decide +kernel
theorem dL_law_265 : decode cL_law 265 = .ok (.goto 1488, 3) := by decide +kernel
theorem dL_law_268 : decode cL_law 268 = .ok (.aload_n 1, 1) := by decide +kernel
theorem dL_law_269 : decode cL_law 269 = .ok (.aload_n 0, 1) := by decide +kernel
theorem dL_law_270 : decode cL_law 270 = .ok (.iload 4, 2) := by decide +kernel
theorem dL_law_272 : decode cL_law 272 = .ok (.iconst 1, 1) := by decide +kernel
theorem dL_law_273 : decode cL_law 273 = .ok (.iadd, 1) := by decide +kernel
theorem dL_law_274 : decode cL_law 274 = .ok (.iaload, 1) := by decide +kernel
theorem dL_law_275 : decode cL_law 275 = .ok (.aload_n 3, 1) := by decide +kernel
theorem dL_law_276 : decode cL_law 276 = .ok (.invokestatic 104, 3) := by decide +kernel
theorem dL_law_279 : decode cL_law 279 = .ok (.istore 5, 2) := by decide +kernel
theorem dL_law_281 : decode cL_law 281 = .ok (.aload_n 2, 1) := by decide +kernel
theorem dL_law_282 : decode cL_law 282 = .ok (.aload_n 0, 1) := by decide +kernel
theorem dL_law_283 : decode cL_law 283 = .ok (.iload 4, 2) := by decide +kernel
theorem dL_law_285 : decode cL_law 285 = .ok (.iconst 1, 1) := by decide +kernel
theorem dL_law_286 : decode cL_law 286 = .ok (.iadd, 1) := by decide +kernel
theorem dL_law_287 : decode cL_law 287 = .ok (.iaload, 1) := by decide +kernel
theorem dL_law_288 : decode cL_law 288 = .ok (.invokevirtual 107, 3) := by decide +kernel
theorem dL_law_291 : decode cL_law 291 = .ok (.istore 6, 2) := by decide +kernel
theorem dL_law_293 : decode cL_law 293 = .ok (.aload_n 2, 1) := by decide +kernel
theorem dL_law_294 : decode cL_law 294 = .ok (.invokevirtual 101, 3) := by decide +kernel
theorem dL_law_297 : decode cL_law 297 = .ok (.iload 5, 2) := by decide +kernel
theorem dL_law_299 : decode cL_law 299 = .ok (.if_icmp .eq 5, 3) := by decide +kernel
theorem dL_law_302 : decode cL_law 302 = .ok (.iconst 0, 1) := by decide +kernel
theorem dL_law_303 : decode cL_law 303 = .ok (.ireturn, 1) := by decide +kernel
theorem dL_law_304 : decode cL_law 304 = .ok (.iload 5, 2) := by decide +kernel
theorem dL_law_306 : decode cL_law 306 = .ok (.ifCond .ne 15, 3) := by decide +kernel
theorem dL_law_309 : decode cL_law 309 = .ok (.aload_n 3, 1) := by decide +kernel
theorem dL_law_310 : decode cL_law 310 = .ok (.iconst 0, 1) := by decide +kernel
theorem dL_law_311 : decode cL_law 311 = .ok (.laload, 1) := by decide +kernel
theorem dL_law_312 : decode cL_law 312 = .ok (.iload 6, 2) := by decide +kernel
theorem dL_law_314 : decode cL_law 314 = .ok (.i2l, 1) := by decide +kernel
theorem dL_law_315 : decode cL_law 315 = .ok (.lcmp, 1) := by decide +kernel
theorem dL_law_316 : decode cL_law 316 = .ok (.ifCond .eq 5, 3) := by decide +kernel
theorem dL_law_319 : decode cL_law 319 = .ok (.iconst 0, 1) := by decide +kernel
theorem dL_law_320 : decode cL_law 320 = .ok (.ireturn, 1) := by decide +kernel
theorem dL_law_321 : decode cL_law 321 = .ok (.goto 1432, 3) := by decide +kernel
theorem dL_law_324 : decode cL_law 324 = .ok (.aload_n 1, 1) := by decide +kernel
theorem dL_law_325 : decode cL_law 325 = .ok (.aload_n 0, 1) := by decide +kernel
theorem dL_law_326 : decode cL_law 326 = .ok (.iload 4, 2) := by decide +kernel
theorem dL_law_328 : decode cL_law 328 = .ok (.iconst 1, 1) := by decide +kernel
theorem dL_law_329 : decode cL_law 329 = .ok (.iadd, 1) := by decide +kernel
theorem dL_law_330 : decode cL_law 330 = .ok (.iaload, 1) := by decide +kernel
theorem dL_law_331 : decode cL_law 331 = .ok (.aload_n 3, 1) := by decide +kernel
theorem dL_law_332 : decode cL_law 332 = .ok (.invokestatic 108, 3) := by decide +kernel
theorem dL_law_335 : decode cL_law 335 = .ok (.istore 5, 2) := by decide +kernel
theorem dL_law_337 : decode cL_law 337 = .ok (.aload_n 2, 1) := by decide +kernel
theorem dL_law_338 : decode cL_law 338 = .ok (.aload_n 0, 1) := by decide +kernel
theorem dL_law_339 : decode cL_law 339 = .ok (.iload 4, 2) := by decide +kernel
theorem dL_law_341 : decode cL_law 341 = .ok (.iconst 1, 1) := by decide +kernel
theorem dL_law_342 : decode cL_law 342 = .ok (.iadd, 1) := by decide +kernel
theorem dL_law_343 : decode cL_law 343 = .ok (.iaload, 1) := by decide +kernel
theorem dL_law_344 : decode cL_law 344 = .ok (.invokevirtual 110, 3) := by decide +kernel
theorem dL_law_347 : decode cL_law 347 = .ok (.istore 6, 2) := by decide +kernel
theorem dL_law_349 : decode cL_law 349 = .ok (.aload_n 2, 1) := by decide +kernel
theorem dL_law_350 : decode cL_law 350 = .ok (.invokevirtual 101, 3) := by decide +kernel
theorem dL_law_353 : decode cL_law 353 = .ok (.iload 5, 2) := by decide +kernel
theorem dL_law_355 : decode cL_law 355 = .ok (.if_icmp .eq 5, 3) := by decide +kernel
theorem dL_law_358 : decode cL_law 358 = .ok (.iconst 0, 1) := by decide +kernel
theorem dL_law_359 : decode cL_law 359 = .ok (.ireturn, 1) := by decide +kernel
theorem dL_law_360 : decode cL_law 360 = .ok (.iload 5, 2) := by decide +kernel
theorem dL_law_362 : decode cL_law 362 = .ok (.ifCond .ne 15, 3) := by decide +kernel
theorem dL_law_365 : decode cL_law 365 = .ok (.aload_n 3, 1) := by decide +kernel
theorem dL_law_366 : decode cL_law 366 = .ok (.iconst 0, 1) := by decide +kernel
theorem dL_law_367 : decode cL_law 367 = .ok (.laload, 1) := by decide +kernel
theorem dL_law_368 : decode cL_law 368 = .ok (.iload 6, 2) := by decide +kernel
theorem dL_law_370 : decode cL_law 370 = .ok (.i2l, 1) := by decide +kernel
theorem dL_law_371 : decode cL_law 371 = .ok (.lcmp, 1) := by decide +kernel
theorem dL_law_372 : decode cL_law 372 = .ok (.ifCond .eq 5, 3) := by decide +kernel
theorem dL_law_375 : decode cL_law 375 = .ok (.iconst 0, 1) := by decide +kernel
theorem dL_law_376 : decode cL_law 376 = .ok (.ireturn, 1) := by decide +kernel
theorem dL_law_377 : decode cL_law 377 = .ok (.goto 1376, 3) := by decide +kernel
theorem dL_law_380 : decode cL_law 380 = .ok (.aload_n 1, 1) := by decide +kernel
theorem dL_law_381 : decode cL_law 381 = .ok (.aload_n 0, 1) := by decide +kernel
theorem dL_law_382 : decode cL_law 382 = .ok (.iload 4, 2) := by decide +kernel
theorem dL_law_384 : decode cL_law 384 = .ok (.iconst 1, 1) := by decide +kernel
theorem dL_law_385 : decode cL_law 385 = .ok (.iadd, 1) := by decide +kernel
theorem dL_law_386 : decode cL_law 386 = .ok (.iaload, 1) := by decide +kernel
theorem dL_law_387 : decode cL_law 387 = .ok (.aload_n 0, 1) := by decide +kernel
theorem dL_law_388 : decode cL_law 388 = .ok (.iload 4, 2) := by decide +kernel
theorem dL_law_390 : decode cL_law 390 = .ok (.iconst 2, 1) := by decide +kernel
theorem dL_law_391 : decode cL_law 391 = .ok (.iadd, 1) := by decide +kernel
theorem dL_law_392 : decode cL_law 392 = .ok (.iaload, 1) := by decide +kernel
theorem dL_law_393 : decode cL_law 393 = .ok (.aload_n 0, 1) := by decide +kernel
theorem dL_law_394 : decode cL_law 394 = .ok (.iload 4, 2) := by decide +kernel
theorem dL_law_396 : decode cL_law 396 = .ok (.iconst 3, 1) := by decide +kernel
theorem dL_law_397 : decode cL_law 397 = .ok (.iadd, 1) := by decide +kernel
theorem dL_law_398 : decode cL_law 398 = .ok (.iaload, 1) := by decide +kernel
theorem dL_law_399 : decode cL_law 399 = .ok (.aload_n 3, 1) := by decide +kernel
theorem dL_law_400 : decode cL_law 400 = .ok (.invokestatic 111, 3) := by decide +kernel
theorem dL_law_403 : decode cL_law 403 = .ok (.istore 5, 2) := by decide +kernel
theorem dL_law_405 : decode cL_law 405 = .ok (.aload_n 2, 1) := by decide +kernel
theorem dL_law_406 : decode cL_law 406 = .ok (.aload_n 0, 1) := by decide +kernel
theorem dL_law_407 : decode cL_law 407 = .ok (.iload 4, 2) := by decide +kernel
theorem dL_law_409 : decode cL_law 409 = .ok (.iconst 1, 1) := by decide +kernel
theorem dL_law_410 : decode cL_law 410 = .ok (.iadd, 1) := by decide +kernel
theorem dL_law_411 : decode cL_law 411 = .ok (.iaload, 1) := by decide +kernel
theorem dL_law_412 : decode cL_law 412 = .ok (.aload_n 0, 1) := by decide +kernel
theorem dL_law_413 : decode cL_law 413 = .ok (.iload 4, 2) := by decide +kernel
theorem dL_law_415 : decode cL_law 415 = .ok (.iconst 2, 1) := by decide +kernel
theorem dL_law_416 : decode cL_law 416 = .ok (.iadd, 1) := by decide +kernel
theorem dL_law_417 : decode cL_law 417 = .ok (.iaload, 1) := by decide +kernel
theorem dL_law_418 : decode cL_law 418 = .ok (.aload_n 0, 1) := by decide +kernel
theorem dL_law_419 : decode cL_law 419 = .ok (.iload 4, 2) := by decide +kernel
theorem dL_law_421 : decode cL_law 421 = .ok (.iconst 3, 1) := by decide +kernel
theorem dL_law_422 : decode cL_law 422 = .ok (.iadd, 1) := by decide +kernel
theorem dL_law_423 : decode cL_law 423 = .ok (.iaload, 1) := by decide +kernel
theorem dL_law_424 : decode cL_law 424 = .ok (.invokevirtual 114, 3) := by decide +kernel
theorem dL_law_427 : decode cL_law 427 = .ok (.istore 6, 2) := by decide +kernel
theorem dL_law_429 : decode cL_law 429 = .ok (.aload_n 2, 1) := by decide +kernel
theorem dL_law_430 : decode cL_law 430 = .ok (.invokevirtual 101, 3) := by decide +kernel
theorem dL_law_433 : decode cL_law 433 = .ok (.iload 5, 2) := by decide +kernel
theorem dL_law_435 : decode cL_law 435 = .ok (.if_icmp .eq 5, 3) := by decide +kernel
theorem dL_law_438 : decode cL_law 438 = .ok (.iconst 0, 1) := by decide +kernel
theorem dL_law_439 : decode cL_law 439 = .ok (.ireturn, 1) := by decide +kernel
theorem dL_law_440 : decode cL_law 440 = .ok (.iload 5, 2) := by decide +kernel
theorem dL_law_442 : decode cL_law 442 = .ok (.ifCond .ne 15, 3) := by decide +kernel
theorem dL_law_445 : decode cL_law 445 = .ok (.aload_n 3, 1) := by decide +kernel
theorem dL_law_446 : decode cL_law 446 = .ok (.iconst 0, 1) := by decide +kernel
theorem dL_law_447 : decode cL_law 447 = .ok (.laload, 1) := by decide +kernel
theorem dL_law_448 : decode cL_law 448 = .ok (.iload 6, 2) := by decide +kernel
theorem dL_law_450 : decode cL_law 450 = .ok (.i2l, 1) := by decide +kernel
theorem dL_law_451 : decode cL_law 451 = .ok (.lcmp, 1) := by decide +kernel
theorem dL_law_452 : decode cL_law 452 = .ok (.ifCond .eq 5, 3) := by decide +kernel
theorem dL_law_455 : decode cL_law 455 = .ok (.iconst 0, 1) := by decide +kernel
theorem dL_law_456 : decode cL_law 456 = .ok (.ireturn, 1) := by decide +kernel
theorem dL_law_457 : decode cL_law 457 = .ok (.goto 1296, 3) := by decide +kernel
theorem dL_law_460 : decode cL_law 460 = .ok (.aload_n 1, 1) := by decide +kernel
theorem dL_law_461 : decode cL_law 461 = .ok (.aload_n 0, 1) := by decide +kernel
theorem dL_law_462 : decode cL_law 462 = .ok (.iload 4, 2) := by decide +kernel
theorem dL_law_464 : decode cL_law 464 = .ok (.iconst 1, 1) := by decide +kernel
theorem dL_law_465 : decode cL_law 465 = .ok (.iadd, 1) := by decide +kernel
theorem dL_law_466 : decode cL_law 466 = .ok (.iaload, 1) := by decide +kernel
theorem dL_law_467 : decode cL_law 467 = .ok (.aload_n 3, 1) := by decide +kernel
theorem dL_law_468 : decode cL_law 468 = .ok (.invokestatic 115, 3) := by decide +kernel
theorem dL_law_471 : decode cL_law 471 = .ok (.istore 5, 2) := by decide +kernel
theorem dL_law_473 : decode cL_law 473 = .ok (.aload_n 2, 1) := by decide +kernel
theorem dL_law_474 : decode cL_law 474 = .ok (.aload_n 0, 1) := by decide +kernel
theorem dL_law_475 : decode cL_law 475 = .ok (.iload 4, 2) := by decide +kernel
theorem dL_law_477 : decode cL_law 477 = .ok (.iconst 1, 1) := by decide +kernel
theorem dL_law_478 : decode cL_law 478 = .ok (.iadd, 1) := by decide +kernel
theorem dL_law_479 : decode cL_law 479 = .ok (.iaload, 1) := by decide +kernel
theorem dL_law_480 : decode cL_law 480 = .ok (.invokevirtual 117, 3) := by decide +kernel
theorem dL_law_483 : decode cL_law 483 = .ok (.istore 6, 2) := by decide +kernel
theorem dL_law_485 : decode cL_law 485 = .ok (.aload_n 2, 1) := by decide +kernel
theorem dL_law_486 : decode cL_law 486 = .ok (.invokevirtual 101, 3) := by decide +kernel
theorem dL_law_489 : decode cL_law 489 = .ok (.iload 5, 2) := by decide +kernel
theorem dL_law_491 : decode cL_law 491 = .ok (.if_icmp .eq 5, 3) := by decide +kernel
theorem dL_law_494 : decode cL_law 494 = .ok (.iconst 0, 1) := by decide +kernel
theorem dL_law_495 : decode cL_law 495 = .ok (.ireturn, 1) := by decide +kernel
theorem dL_law_496 : decode cL_law 496 = .ok (.iload 5, 2) := by decide +kernel
theorem dL_law_498 : decode cL_law 498 = .ok (.ifCond .ne 15, 3) := by decide +kernel
theorem dL_law_501 : decode cL_law 501 = .ok (.aload_n 3, 1) := by decide +kernel
theorem dL_law_502 : decode cL_law 502 = .ok (.iconst 0, 1) := by decide +kernel
theorem dL_law_503 : decode cL_law 503 = .ok (.laload, 1) := by decide +kernel
theorem dL_law_504 : decode cL_law 504 = .ok (.iload 6, 2) := by decide +kernel
theorem dL_law_506 : decode cL_law 506 = .ok (.i2l, 1) := by decide +kernel
theorem dL_law_507 : decode cL_law 507 = .ok (.lcmp, 1) := by decide +kernel
theorem dL_law_508 : decode cL_law 508 = .ok (.ifCond .eq 5, 3) := by decide +kernel
theorem dL_law_511 : decode cL_law 511 = .ok (.iconst 0, 1) := by decide +kernel
theorem dL_law_512 : decode cL_law 512 = .ok (.ireturn, 1) := by decide +kernel
theorem dL_law_513 : decode cL_law 513 = .ok (.goto 1240, 3) := by decide +kernel
theorem dL_law_516 : decode cL_law 516 = .ok (.aload_n 1, 1) := by decide +kernel
theorem dL_law_517 : decode cL_law 517 = .ok (.aload_n 0, 1) := by decide +kernel
theorem dL_law_518 : decode cL_law 518 = .ok (.iload 4, 2) := by decide +kernel
theorem dL_law_520 : decode cL_law 520 = .ok (.iconst 1, 1) := by decide +kernel
theorem dL_law_521 : decode cL_law 521 = .ok (.iadd, 1) := by decide +kernel
theorem dL_law_522 : decode cL_law 522 = .ok (.iaload, 1) := by decide +kernel
theorem dL_law_523 : decode cL_law 523 = .ok (.aload_n 0, 1) := by decide +kernel
theorem dL_law_524 : decode cL_law 524 = .ok (.iload 4, 2) := by decide +kernel
theorem dL_law_526 : decode cL_law 526 = .ok (.iconst 2, 1) := by decide +kernel
theorem dL_law_527 : decode cL_law 527 = .ok (.iadd, 1) := by decide +kernel
theorem dL_law_528 : decode cL_law 528 = .ok (.iaload, 1) := by decide +kernel
theorem dL_law_529 : decode cL_law 529 = .ok (.aload_n 0, 1) := by decide +kernel
theorem dL_law_530 : decode cL_law 530 = .ok (.iload 4, 2) := by decide +kernel
theorem dL_law_532 : decode cL_law 532 = .ok (.iconst 3, 1) := by decide +kernel
theorem dL_law_533 : decode cL_law 533 = .ok (.iadd, 1) := by decide +kernel
theorem dL_law_534 : decode cL_law 534 = .ok (.iaload, 1) := by decide +kernel
theorem dL_law_535 : decode cL_law 535 = .ok (.ifCond .eq 7, 3) := by decide +kernel
theorem dL_law_538 : decode cL_law 538 = .ok (.iconst 1, 1) := by decide +kernel
theorem dL_law_539 : decode cL_law 539 = .ok (.goto 4, 3) := by decide +kernel
theorem dL_law_542 : decode cL_law 542 = .ok (.iconst 0, 1) := by decide +kernel
theorem dL_law_543 : decode cL_law 543 = .ok (.aload_n 3, 1) := by decide +kernel
theorem dL_law_544 : decode cL_law 544 = .ok (.invokestatic 118, 3) := by decide +kernel
theorem dL_law_547 : decode cL_law 547 = .ok (.istore 5, 2) := by decide +kernel
theorem dL_law_549 : decode cL_law 549 = .ok (.aload_n 2, 1) := by decide +kernel
theorem dL_law_550 : decode cL_law 550 = .ok (.aload_n 0, 1) := by decide +kernel
theorem dL_law_551 : decode cL_law 551 = .ok (.iload 4, 2) := by decide +kernel
theorem dL_law_553 : decode cL_law 553 = .ok (.iconst 1, 1) := by decide +kernel
theorem dL_law_554 : decode cL_law 554 = .ok (.iadd, 1) := by decide +kernel
theorem dL_law_555 : decode cL_law 555 = .ok (.iaload, 1) := by decide +kernel
theorem dL_law_556 : decode cL_law 556 = .ok (.aload_n 0, 1) := by decide +kernel
theorem dL_law_557 : decode cL_law 557 = .ok (.iload 4, 2) := by decide +kernel
theorem dL_law_559 : decode cL_law 559 = .ok (.iconst 2, 1) := by decide +kernel
theorem dL_law_560 : decode cL_law 560 = .ok (.iadd, 1) := by decide +kernel
theorem dL_law_561 : decode cL_law 561 = .ok (.iaload, 1) := by decide +kernel
theorem dL_law_562 : decode cL_law 562 = .ok (.aload_n 0, 1) := by decide +kernel
theorem dL_law_563 : decode cL_law 563 = .ok (.iload 4, 2) := by decide +kernel
theorem dL_law_565 : decode cL_law 565 = .ok (.iconst 3, 1) := by decide +kernel
theorem dL_law_566 : decode cL_law 566 = .ok (.iadd, 1) := by decide +kernel
theorem dL_law_567 : decode cL_law 567 = .ok (.iaload, 1) := by decide +kernel
theorem dL_law_568 : decode cL_law 568 = .ok (.ifCond .eq 7, 3) := by decide +kernel
theorem dL_law_571 : decode cL_law 571 = .ok (.iconst 1, 1) := by decide +kernel
theorem dL_law_572 : decode cL_law 572 = .ok (.goto 4, 3) := by decide +kernel
theorem dL_law_575 : decode cL_law 575 = .ok (.iconst 0, 1) := by decide +kernel
theorem dL_law_576 : decode cL_law 576 = .ok (.invokevirtual 121, 3) := by decide +kernel
theorem dL_law_579 : decode cL_law 579 = .ok (.istore 6, 2) := by decide +kernel
theorem dL_law_581 : decode cL_law 581 = .ok (.aload_n 2, 1) := by decide +kernel
theorem dL_law_582 : decode cL_law 582 = .ok (.invokevirtual 101, 3) := by decide +kernel
theorem dL_law_585 : decode cL_law 585 = .ok (.iload 5, 2) := by decide +kernel
theorem dL_law_587 : decode cL_law 587 = .ok (.if_icmp .eq 5, 3) := by decide +kernel
theorem dL_law_590 : decode cL_law 590 = .ok (.iconst 0, 1) := by decide +kernel
theorem dL_law_591 : decode cL_law 591 = .ok (.ireturn, 1) := by decide +kernel
theorem dL_law_592 : decode cL_law 592 = .ok (.iload 5, 2) := by decide +kernel
theorem dL_law_594 : decode cL_law 594 = .ok (.ifCond .ne 15, 3) := by decide +kernel
theorem dL_law_597 : decode cL_law 597 = .ok (.aload_n 3, 1) := by decide +kernel
theorem dL_law_598 : decode cL_law 598 = .ok (.iconst 0, 1) := by decide +kernel
theorem dL_law_599 : decode cL_law 599 = .ok (.laload, 1) := by decide +kernel
theorem dL_law_600 : decode cL_law 600 = .ok (.iload 6, 2) := by decide +kernel
theorem dL_law_602 : decode cL_law 602 = .ok (.i2l, 1) := by decide +kernel
theorem dL_law_603 : decode cL_law 603 = .ok (.lcmp, 1) := by decide +kernel
theorem dL_law_604 : decode cL_law 604 = .ok (.ifCond .eq 5, 3) := by decide +kernel
theorem dL_law_607 : decode cL_law 607 = .ok (.iconst 0, 1) := by decide +kernel
theorem dL_law_608 : decode cL_law 608 = .ok (.ireturn, 1) := by decide +kernel
theorem dL_law_609 : decode cL_law 609 = .ok (.goto 1144, 3) := by decide +kernel
theorem dL_law_612 : decode cL_law 612 = .ok (.aload_n 1, 1) := by decide +kernel
theorem dL_law_613 : decode cL_law 613 = .ok (.aload_n 0, 1) := by decide +kernel
theorem dL_law_614 : decode cL_law 614 = .ok (.iload 4, 2) := by decide +kernel
theorem dL_law_616 : decode cL_law 616 = .ok (.iconst 1, 1) := by decide +kernel
theorem dL_law_617 : decode cL_law 617 = .ok (.iadd, 1) := by decide +kernel
theorem dL_law_618 : decode cL_law 618 = .ok (.iaload, 1) := by decide +kernel
theorem dL_law_619 : decode cL_law 619 = .ok (.aload_n 3, 1) := by decide +kernel
theorem dL_law_620 : decode cL_law 620 = .ok (.invokestatic 122, 3) := by decide +kernel
theorem dL_law_623 : decode cL_law 623 = .ok (.istore 5, 2) := by decide +kernel
theorem dL_law_625 : decode cL_law 625 = .ok (.aload_n 2, 1) := by decide +kernel
theorem dL_law_626 : decode cL_law 626 = .ok (.aload_n 0, 1) := by decide +kernel
theorem dL_law_627 : decode cL_law 627 = .ok (.iload 4, 2) := by decide +kernel
theorem dL_law_629 : decode cL_law 629 = .ok (.iconst 1, 1) := by decide +kernel
theorem dL_law_630 : decode cL_law 630 = .ok (.iadd, 1) := by decide +kernel
theorem dL_law_631 : decode cL_law 631 = .ok (.iaload, 1) := by decide +kernel
theorem dL_law_632 : decode cL_law 632 = .ok (.invokevirtual 124, 3) := by decide +kernel
theorem dL_law_635 : decode cL_law 635 = .ok (.istore 6, 2) := by decide +kernel
theorem dL_law_637 : decode cL_law 637 = .ok (.aload_n 2, 1) := by decide +kernel
theorem dL_law_638 : decode cL_law 638 = .ok (.invokevirtual 101, 3) := by decide +kernel
theorem dL_law_641 : decode cL_law 641 = .ok (.iload 5, 2) := by decide +kernel
theorem dL_law_643 : decode cL_law 643 = .ok (.if_icmp .eq 5, 3) := by decide +kernel
theorem dL_law_646 : decode cL_law 646 = .ok (.iconst 0, 1) := by decide +kernel
theorem dL_law_647 : decode cL_law 647 = .ok (.ireturn, 1) := by decide +kernel
theorem dL_law_648 : decode cL_law 648 = .ok (.iload 5, 2) := by decide +kernel
theorem dL_law_650 : decode cL_law 650 = .ok (.ifCond .ne 15, 3) := by decide +kernel
theorem dL_law_653 : decode cL_law 653 = .ok (.aload_n 3, 1) := by decide +kernel
theorem dL_law_654 : decode cL_law 654 = .ok (.iconst 0, 1) := by decide +kernel
theorem dL_law_655 : decode cL_law 655 = .ok (.laload, 1) := by decide +kernel
theorem dL_law_656 : decode cL_law 656 = .ok (.iload 6, 2) := by decide +kernel
theorem dL_law_658 : decode cL_law 658 = .ok (.i2l, 1) := by decide +kernel
theorem dL_law_659 : decode cL_law 659 = .ok (.lcmp, 1) := by decide +kernel
theorem dL_law_660 : decode cL_law 660 = .ok (.ifCond .eq 5, 3) := by decide +kernel
theorem dL_law_663 : decode cL_law 663 = .ok (.iconst 0, 1) := by decide +kernel
theorem dL_law_664 : decode cL_law 664 = .ok (.ireturn, 1) := by decide +kernel
theorem dL_law_665 : decode cL_law 665 = .ok (.goto 1088, 3) := by decide +kernel
theorem dL_law_668 : decode cL_law 668 = .ok (.aload_n 1, 1) := by decide +kernel
theorem dL_law_669 : decode cL_law 669 = .ok (.aload_n 0, 1) := by decide +kernel
theorem dL_law_670 : decode cL_law 670 = .ok (.iload 4, 2) := by decide +kernel
theorem dL_law_672 : decode cL_law 672 = .ok (.iconst 1, 1) := by decide +kernel
theorem dL_law_673 : decode cL_law 673 = .ok (.iadd, 1) := by decide +kernel
theorem dL_law_674 : decode cL_law 674 = .ok (.iaload, 1) := by decide +kernel
theorem dL_law_675 : decode cL_law 675 = .ok (.aload_n 0, 1) := by decide +kernel
theorem dL_law_676 : decode cL_law 676 = .ok (.iload 4, 2) := by decide +kernel
theorem dL_law_678 : decode cL_law 678 = .ok (.iconst 2, 1) := by decide +kernel
theorem dL_law_679 : decode cL_law 679 = .ok (.iadd, 1) := by decide +kernel
theorem dL_law_680 : decode cL_law 680 = .ok (.iaload, 1) := by decide +kernel
theorem dL_law_681 : decode cL_law 681 = .ok (.aload_n 0, 1) := by decide +kernel
theorem dL_law_682 : decode cL_law 682 = .ok (.iload 4, 2) := by decide +kernel
theorem dL_law_684 : decode cL_law 684 = .ok (.iconst 3, 1) := by decide +kernel
theorem dL_law_685 : decode cL_law 685 = .ok (.iadd, 1) := by decide +kernel
theorem dL_law_686 : decode cL_law 686 = .ok (.iaload, 1) := by decide +kernel
theorem dL_law_687 : decode cL_law 687 = .ok (.aload_n 3, 1) := by decide +kernel
theorem dL_law_688 : decode cL_law 688 = .ok (.invokestatic 125, 3) := by decide +kernel
theorem dL_law_691 : decode cL_law 691 = .ok (.istore 5, 2) := by decide +kernel
theorem dL_law_693 : decode cL_law 693 = .ok (.aload_n 2, 1) := by decide +kernel
theorem dL_law_694 : decode cL_law 694 = .ok (.aload_n 0, 1) := by decide +kernel
theorem dL_law_695 : decode cL_law 695 = .ok (.iload 4, 2) := by decide +kernel
theorem dL_law_697 : decode cL_law 697 = .ok (.iconst 1, 1) := by decide +kernel
theorem dL_law_698 : decode cL_law 698 = .ok (.iadd, 1) := by decide +kernel
theorem dL_law_699 : decode cL_law 699 = .ok (.iaload, 1) := by decide +kernel
theorem dL_law_700 : decode cL_law 700 = .ok (.aload_n 0, 1) := by decide +kernel
theorem dL_law_701 : decode cL_law 701 = .ok (.iload 4, 2) := by decide +kernel
theorem dL_law_703 : decode cL_law 703 = .ok (.iconst 2, 1) := by decide +kernel
theorem dL_law_704 : decode cL_law 704 = .ok (.iadd, 1) := by decide +kernel
theorem dL_law_705 : decode cL_law 705 = .ok (.iaload, 1) := by decide +kernel
theorem dL_law_706 : decode cL_law 706 = .ok (.aload_n 0, 1) := by decide +kernel
theorem dL_law_707 : decode cL_law 707 = .ok (.iload 4, 2) := by decide +kernel
theorem dL_law_709 : decode cL_law 709 = .ok (.iconst 3, 1) := by decide +kernel
theorem dL_law_710 : decode cL_law 710 = .ok (.iadd, 1) := by decide +kernel
theorem dL_law_711 : decode cL_law 711 = .ok (.iaload, 1) := by decide +kernel
theorem dL_law_712 : decode cL_law 712 = .ok (.invokevirtual 127, 3) := by decide +kernel
theorem dL_law_715 : decode cL_law 715 = .ok (.istore 6, 2) := by decide +kernel
theorem dL_law_717 : decode cL_law 717 = .ok (.aload_n 2, 1) := by decide +kernel
theorem dL_law_718 : decode cL_law 718 = .ok (.invokevirtual 101, 3) := by decide +kernel
theorem dL_law_721 : decode cL_law 721 = .ok (.iload 5, 2) := by decide +kernel
theorem dL_law_723 : decode cL_law 723 = .ok (.if_icmp .eq 5, 3) := by decide +kernel
theorem dL_law_726 : decode cL_law 726 = .ok (.iconst 0, 1) := by decide +kernel
theorem dL_law_727 : decode cL_law 727 = .ok (.ireturn, 1) := by decide +kernel
theorem dL_law_728 : decode cL_law 728 = .ok (.iload 5, 2) := by decide +kernel
theorem dL_law_730 : decode cL_law 730 = .ok (.ifCond .ne 15, 3) := by decide +kernel
theorem dL_law_733 : decode cL_law 733 = .ok (.aload_n 3, 1) := by decide +kernel
theorem dL_law_734 : decode cL_law 734 = .ok (.iconst 0, 1) := by decide +kernel
theorem dL_law_735 : decode cL_law 735 = .ok (.laload, 1) := by decide +kernel
theorem dL_law_736 : decode cL_law 736 = .ok (.iload 6, 2) := by decide +kernel
theorem dL_law_738 : decode cL_law 738 = .ok (.i2l, 1) := by decide +kernel
theorem dL_law_739 : decode cL_law 739 = .ok (.lcmp, 1) := by decide +kernel
theorem dL_law_740 : decode cL_law 740 = .ok (.ifCond .eq 5, 3) := by decide +kernel
theorem dL_law_743 : decode cL_law 743 = .ok (.iconst 0, 1) := by decide +kernel
theorem dL_law_744 : decode cL_law 744 = .ok (.ireturn, 1) := by decide +kernel
theorem dL_law_745 : decode cL_law 745 = .ok (.goto 1008, 3) := by decide +kernel
theorem dL_law_748 : decode cL_law 748 = .ok (.aload_n 1, 1) := by decide +kernel
theorem dL_law_749 : decode cL_law 749 = .ok (.aload_n 0, 1) := by decide +kernel
theorem dL_law_750 : decode cL_law 750 = .ok (.iload 4, 2) := by decide +kernel
theorem dL_law_752 : decode cL_law 752 = .ok (.iconst 1, 1) := by decide +kernel
theorem dL_law_753 : decode cL_law 753 = .ok (.iadd, 1) := by decide +kernel
theorem dL_law_754 : decode cL_law 754 = .ok (.iaload, 1) := by decide +kernel
theorem dL_law_755 : decode cL_law 755 = .ok (.aload_n 3, 1) := by decide +kernel
theorem dL_law_756 : decode cL_law 756 = .ok (.invokestatic 128, 3) := by decide +kernel
theorem dL_law_759 : decode cL_law 759 = .ok (.istore 5, 2) := by decide +kernel
theorem dL_law_761 : decode cL_law 761 = .ok (.aload_n 2, 1) := by decide +kernel
theorem dL_law_762 : decode cL_law 762 = .ok (.aload_n 0, 1) := by decide +kernel
theorem dL_law_763 : decode cL_law 763 = .ok (.iload 4, 2) := by decide +kernel
theorem dL_law_765 : decode cL_law 765 = .ok (.iconst 1, 1) := by decide +kernel
theorem dL_law_766 : decode cL_law 766 = .ok (.iadd, 1) := by decide +kernel
theorem dL_law_767 : decode cL_law 767 = .ok (.iaload, 1) := by decide +kernel
theorem dL_law_768 : decode cL_law 768 = .ok (.invokevirtual 130, 3) := by decide +kernel
theorem dL_law_771 : decode cL_law 771 = .ok (.istore 6, 2) := by decide +kernel
theorem dL_law_773 : decode cL_law 773 = .ok (.aload_n 2, 1) := by decide +kernel
theorem dL_law_774 : decode cL_law 774 = .ok (.invokevirtual 101, 3) := by decide +kernel
theorem dL_law_777 : decode cL_law 777 = .ok (.iload 5, 2) := by decide +kernel
theorem dL_law_779 : decode cL_law 779 = .ok (.if_icmp .eq 5, 3) := by decide +kernel
theorem dL_law_782 : decode cL_law 782 = .ok (.iconst 0, 1) := by decide +kernel
theorem dL_law_783 : decode cL_law 783 = .ok (.ireturn, 1) := by decide +kernel
theorem dL_law_784 : decode cL_law 784 = .ok (.iload 5, 2) := by decide +kernel
theorem dL_law_786 : decode cL_law 786 = .ok (.ifCond .ne 15, 3) := by decide +kernel
theorem dL_law_789 : decode cL_law 789 = .ok (.aload_n 3, 1) := by decide +kernel
theorem dL_law_790 : decode cL_law 790 = .ok (.iconst 0, 1) := by decide +kernel
theorem dL_law_791 : decode cL_law 791 = .ok (.laload, 1) := by decide +kernel
theorem dL_law_792 : decode cL_law 792 = .ok (.iload 6, 2) := by decide +kernel
theorem dL_law_794 : decode cL_law 794 = .ok (.i2l, 1) := by decide +kernel
theorem dL_law_795 : decode cL_law 795 = .ok (.lcmp, 1) := by decide +kernel
theorem dL_law_796 : decode cL_law 796 = .ok (.ifCond .eq 5, 3) := by decide +kernel
theorem dL_law_799 : decode cL_law 799 = .ok (.iconst 0, 1) := by decide +kernel
theorem dL_law_800 : decode cL_law 800 = .ok (.ireturn, 1) := by decide +kernel
theorem dL_law_801 : decode cL_law 801 = .ok (.goto 952, 3) := by decide +kernel
theorem dL_law_804 : decode cL_law 804 = .ok (.aload_n 1, 1) := by decide +kernel
theorem dL_law_805 : decode cL_law 805 = .ok (.aload_n 0, 1) := by decide +kernel
theorem dL_law_806 : decode cL_law 806 = .ok (.iload 4, 2) := by decide +kernel
theorem dL_law_808 : decode cL_law 808 = .ok (.iconst 1, 1) := by decide +kernel
theorem dL_law_809 : decode cL_law 809 = .ok (.iadd, 1) := by decide +kernel
theorem dL_law_810 : decode cL_law 810 = .ok (.iaload, 1) := by decide +kernel
theorem dL_law_811 : decode cL_law 811 = .ok (.aload_n 3, 1) := by decide +kernel
theorem dL_law_812 : decode cL_law 812 = .ok (.invokestatic 131, 3) := by decide +kernel
theorem dL_law_815 : decode cL_law 815 = .ok (.istore 5, 2) := by decide +kernel
theorem dL_law_817 : decode cL_law 817 = .ok (.aload_n 2, 1) := by decide +kernel
theorem dL_law_818 : decode cL_law 818 = .ok (.aload_n 0, 1) := by decide +kernel
theorem dL_law_819 : decode cL_law 819 = .ok (.iload 4, 2) := by decide +kernel
theorem dL_law_821 : decode cL_law 821 = .ok (.iconst 1, 1) := by decide +kernel
theorem dL_law_822 : decode cL_law 822 = .ok (.iadd, 1) := by decide +kernel
theorem dL_law_823 : decode cL_law 823 = .ok (.iaload, 1) := by decide +kernel
theorem dL_law_824 : decode cL_law 824 = .ok (.invokevirtual 133, 3) := by decide +kernel
theorem dL_law_827 : decode cL_law 827 = .ok (.istore 6, 2) := by decide +kernel
theorem dL_law_829 : decode cL_law 829 = .ok (.aload_n 2, 1) := by decide +kernel
theorem dL_law_830 : decode cL_law 830 = .ok (.invokevirtual 101, 3) := by decide +kernel
theorem dL_law_833 : decode cL_law 833 = .ok (.iload 5, 2) := by decide +kernel
theorem dL_law_835 : decode cL_law 835 = .ok (.if_icmp .eq 5, 3) := by decide +kernel
theorem dL_law_838 : decode cL_law 838 = .ok (.iconst 0, 1) := by decide +kernel
theorem dL_law_839 : decode cL_law 839 = .ok (.ireturn, 1) := by decide +kernel
theorem dL_law_840 : decode cL_law 840 = .ok (.iload 5, 2) := by decide +kernel
theorem dL_law_842 : decode cL_law 842 = .ok (.ifCond .ne 15, 3) := by decide +kernel
theorem dL_law_845 : decode cL_law 845 = .ok (.aload_n 3, 1) := by decide +kernel
theorem dL_law_846 : decode cL_law 846 = .ok (.iconst 0, 1) := by decide +kernel
theorem dL_law_847 : decode cL_law 847 = .ok (.laload, 1) := by decide +kernel
theorem dL_law_848 : decode cL_law 848 = .ok (.iload 6, 2) := by decide +kernel
theorem dL_law_850 : decode cL_law 850 = .ok (.i2l, 1) := by decide +kernel
theorem dL_law_851 : decode cL_law 851 = .ok (.lcmp, 1) := by decide +kernel
theorem dL_law_852 : decode cL_law 852 = .ok (.ifCond .eq 5, 3) := by decide +kernel
theorem dL_law_855 : decode cL_law 855 = .ok (.iconst 0, 1) := by decide +kernel
theorem dL_law_856 : decode cL_law 856 = .ok (.ireturn, 1) := by decide +kernel
theorem dL_law_857 : decode cL_law 857 = .ok (.goto 896, 3) := by decide +kernel
theorem dL_law_860 : decode cL_law 860 = .ok (.aload_n 1, 1) := by decide +kernel
theorem dL_law_861 : decode cL_law 861 = .ok (.aload_n 0, 1) := by decide +kernel
theorem dL_law_862 : decode cL_law 862 = .ok (.iload 4, 2) := by decide +kernel
theorem dL_law_864 : decode cL_law 864 = .ok (.iconst 1, 1) := by decide +kernel
theorem dL_law_865 : decode cL_law 865 = .ok (.iadd, 1) := by decide +kernel
theorem dL_law_866 : decode cL_law 866 = .ok (.iaload, 1) := by decide +kernel
theorem dL_law_867 : decode cL_law 867 = .ok (.aload_n 3, 1) := by decide +kernel
theorem dL_law_868 : decode cL_law 868 = .ok (.invokestatic 134, 3) := by decide +kernel
theorem dL_law_871 : decode cL_law 871 = .ok (.istore 5, 2) := by decide +kernel
theorem dL_law_873 : decode cL_law 873 = .ok (.aload_n 2, 1) := by decide +kernel
theorem dL_law_874 : decode cL_law 874 = .ok (.aload_n 0, 1) := by decide +kernel
theorem dL_law_875 : decode cL_law 875 = .ok (.iload 4, 2) := by decide +kernel
theorem dL_law_877 : decode cL_law 877 = .ok (.iconst 1, 1) := by decide +kernel
theorem dL_law_878 : decode cL_law 878 = .ok (.iadd, 1) := by decide +kernel
theorem dL_law_879 : decode cL_law 879 = .ok (.iaload, 1) := by decide +kernel
theorem dL_law_880 : decode cL_law 880 = .ok (.invokevirtual 136, 3) := by decide +kernel
theorem dL_law_883 : decode cL_law 883 = .ok (.istore 6, 2) := by decide +kernel
theorem dL_law_885 : decode cL_law 885 = .ok (.aload_n 2, 1) := by decide +kernel
theorem dL_law_886 : decode cL_law 886 = .ok (.invokevirtual 101, 3) := by decide +kernel
theorem dL_law_889 : decode cL_law 889 = .ok (.iload 5, 2) := by decide +kernel
theorem dL_law_891 : decode cL_law 891 = .ok (.if_icmp .eq 5, 3) := by decide +kernel
theorem dL_law_894 : decode cL_law 894 = .ok (.iconst 0, 1) := by decide +kernel
theorem dL_law_895 : decode cL_law 895 = .ok (.ireturn, 1) := by decide +kernel
theorem dL_law_896 : decode cL_law 896 = .ok (.iload 5, 2) := by decide +kernel
theorem dL_law_898 : decode cL_law 898 = .ok (.ifCond .ne 15, 3) := by decide +kernel
theorem dL_law_901 : decode cL_law 901 = .ok (.aload_n 3, 1) := by decide +kernel
theorem dL_law_902 : decode cL_law 902 = .ok (.iconst 0, 1) := by decide +kernel
theorem dL_law_903 : decode cL_law 903 = .ok (.laload, 1) := by decide +kernel
theorem dL_law_904 : decode cL_law 904 = .ok (.iload 6, 2) := by decide +kernel
theorem dL_law_906 : decode cL_law 906 = .ok (.i2l, 1) := by decide +kernel
theorem dL_law_907 : decode cL_law 907 = .ok (.lcmp, 1) := by decide +kernel
theorem dL_law_908 : decode cL_law 908 = .ok (.ifCond .eq 5, 3) := by decide +kernel
theorem dL_law_911 : decode cL_law 911 = .ok (.iconst 0, 1) := by decide +kernel
theorem dL_law_912 : decode cL_law 912 = .ok (.ireturn, 1) := by decide +kernel
theorem dL_law_913 : decode cL_law 913 = .ok (.goto 840, 3) := by decide +kernel
theorem dL_law_916 : decode cL_law 916 = .ok (.aload_n 1, 1) := by decide +kernel
theorem dL_law_917 : decode cL_law 917 = .ok (.invokevirtual 137, 3) := by decide +kernel
theorem dL_law_920 : decode cL_law 920 = .ok (.aload_n 2, 1) := by decide +kernel
theorem dL_law_921 : decode cL_law 921 = .ok (.invokevirtual 140, 3) := by decide +kernel
theorem dL_law_924 : decode cL_law 924 = .ok (.if_icmp .eq 829, 3) := by decide +kernel
theorem dL_law_927 : decode cL_law 927 = .ok (.iconst 0, 1) := by decide +kernel
theorem dL_law_928 : decode cL_law 928 = .ok (.ireturn, 1) := by decide +kernel
theorem dL_law_929 : decode cL_law 929 = .ok (.aload_n 1, 1) := by decide +kernel
theorem dL_law_930 : decode cL_law 930 = .ok (.invokevirtual 141, 3) := by decide +kernel
theorem dL_law_933 : decode cL_law 933 = .ok (.aload_n 2, 1) := by decide +kernel
theorem dL_law_934 : decode cL_law 934 = .ok (.invokevirtual 144, 3) := by decide +kernel
theorem dL_law_937 : decode cL_law 937 = .ok (.if_icmp .eq 816, 3) := by decide +kernel
theorem dL_law_940 : decode cL_law 940 = .ok (.iconst 0, 1) := by decide +kernel
theorem dL_law_941 : decode cL_law 941 = .ok (.ireturn, 1) := by decide +kernel
theorem dL_law_942 : decode cL_law 942 = .ok (.aload_n 1, 1) := by decide +kernel
theorem dL_law_943 : decode cL_law 943 = .ok (.aload_n 3, 1) := by decide +kernel
theorem dL_law_944 : decode cL_law 944 = .ok (.invokestatic 145, 3) := by decide +kernel
theorem dL_law_947 : decode cL_law 947 = .ok (.istore 5, 2) := by decide +kernel
theorem dL_law_949 : decode cL_law 949 = .ok (.aload_n 2, 1) := by decide +kernel
theorem dL_law_950 : decode cL_law 950 = .ok (.invokevirtual 148, 3) := by decide +kernel
theorem dL_law_953 : decode cL_law 953 = .ok (.istore 6, 2) := by decide +kernel
theorem dL_law_955 : decode cL_law 955 = .ok (.aload_n 2, 1) := by decide +kernel
theorem dL_law_956 : decode cL_law 956 = .ok (.invokevirtual 101, 3) := by decide +kernel
theorem dL_law_959 : decode cL_law 959 = .ok (.iload 5, 2) := by decide +kernel
theorem dL_law_961 : decode cL_law 961 = .ok (.if_icmp .eq 5, 3) := by decide +kernel
theorem dL_law_964 : decode cL_law 964 = .ok (.iconst 0, 1) := by decide +kernel
theorem dL_law_965 : decode cL_law 965 = .ok (.ireturn, 1) := by decide +kernel
theorem dL_law_966 : decode cL_law 966 = .ok (.iload 5, 2) := by decide +kernel
theorem dL_law_968 : decode cL_law 968 = .ok (.ifCond .ne 15, 3) := by decide +kernel
theorem dL_law_971 : decode cL_law 971 = .ok (.aload_n 3, 1) := by decide +kernel
theorem dL_law_972 : decode cL_law 972 = .ok (.iconst 0, 1) := by decide +kernel
theorem dL_law_973 : decode cL_law 973 = .ok (.laload, 1) := by decide +kernel
theorem dL_law_974 : decode cL_law 974 = .ok (.iload 6, 2) := by decide +kernel
theorem dL_law_976 : decode cL_law 976 = .ok (.i2l, 1) := by decide +kernel
theorem dL_law_977 : decode cL_law 977 = .ok (.lcmp, 1) := by decide +kernel
theorem dL_law_978 : decode cL_law 978 = .ok (.ifCond .eq 5, 3) := by decide +kernel
theorem dL_law_981 : decode cL_law 981 = .ok (.iconst 0, 1) := by decide +kernel
theorem dL_law_982 : decode cL_law 982 = .ok (.ireturn, 1) := by decide +kernel
theorem dL_law_983 : decode cL_law 983 = .ok (.goto 770, 3) := by decide +kernel
theorem dL_law_986 : decode cL_law 986 = .ok (.aload_n 1, 1) := by decide +kernel
theorem dL_law_987 : decode cL_law 987 = .ok (.aload_n 3, 1) := by decide +kernel
theorem dL_law_988 : decode cL_law 988 = .ok (.invokestatic 149, 3) := by decide +kernel
theorem dL_law_991 : decode cL_law 991 = .ok (.istore 5, 2) := by decide +kernel
theorem dL_law_993 : decode cL_law 993 = .ok (.aload_n 2, 1) := by decide +kernel
theorem dL_law_994 : decode cL_law 994 = .ok (.invokevirtual 151, 3) := by decide +kernel
theorem dL_law_997 : decode cL_law 997 = .ok (.istore 6, 2) := by decide +kernel
theorem dL_law_999 : decode cL_law 999 = .ok (.aload_n 2, 1) := by decide +kernel
theorem dL_law_1000 : decode cL_law 1000 = .ok (.invokevirtual 101, 3) := by decide +kernel
theorem dL_law_1003 : decode cL_law 1003 = .ok (.iload 5, 2) := by decide +kernel
theorem dL_law_1005 : decode cL_law 1005 = .ok (.if_icmp .eq 5, 3) := by decide +kernel
theorem dL_law_1008 : decode cL_law 1008 = .ok (.iconst 0, 1) := by decide +kernel
theorem dL_law_1009 : decode cL_law 1009 = .ok (.ireturn, 1) := by decide +kernel
theorem dL_law_1010 : decode cL_law 1010 = .ok (.iload 5, 2) := by decide +kernel
theorem dL_law_1012 : decode cL_law 1012 = .ok (.ifCond .ne 15, 3) := by decide +kernel
theorem dL_law_1015 : decode cL_law 1015 = .ok (.aload_n 3, 1) := by decide +kernel
theorem dL_law_1016 : decode cL_law 1016 = .ok (.iconst 0, 1) := by decide +kernel
theorem dL_law_1017 : decode cL_law 1017 = .ok (.laload, 1) := by decide +kernel
theorem dL_law_1018 : decode cL_law 1018 = .ok (.iload 6, 2) := by decide +kernel
theorem dL_law_1020 : decode cL_law 1020 = .ok (.i2l, 1) := by decide +kernel
theorem dL_law_1021 : decode cL_law 1021 = .ok (.lcmp, 1) := by decide +kernel
theorem dL_law_1022 : decode cL_law 1022 = .ok (.ifCond .eq 5, 3) := by decide +kernel
theorem dL_law_1025 : decode cL_law 1025 = .ok (.iconst 0, 1) := by decide +kernel
theorem dL_law_1026 : decode cL_law 1026 = .ok (.ireturn, 1) := by decide +kernel
theorem dL_law_1027 : decode cL_law 1027 = .ok (.goto 726, 3) := by decide +kernel
theorem dL_law_1030 : decode cL_law 1030 = .ok (.aload_n 1, 1) := by decide +kernel
theorem dL_law_1031 : decode cL_law 1031 = .ok (.aload_n 0, 1) := by decide +kernel
theorem dL_law_1032 : decode cL_law 1032 = .ok (.iload 4, 2) := by decide +kernel
theorem dL_law_1034 : decode cL_law 1034 = .ok (.iconst 1, 1) := by decide +kernel
theorem dL_law_1035 : decode cL_law 1035 = .ok (.iadd, 1) := by decide +kernel
theorem dL_law_1036 : decode cL_law 1036 = .ok (.iaload, 1) := by decide +kernel
theorem dL_law_1037 : decode cL_law 1037 = .ok (.aload_n 0, 1) := by decide +kernel
theorem dL_law_1038 : decode cL_law 1038 = .ok (.iload 4, 2) := by decide +kernel
theorem dL_law_1040 : decode cL_law 1040 = .ok (.iconst 2, 1) := by decide +kernel
theorem dL_law_1041 : decode cL_law 1041 = .ok (.iadd, 1) := by decide +kernel
theorem dL_law_1042 : decode cL_law 1042 = .ok (.iaload, 1) := by decide +kernel
theorem dL_law_1043 : decode cL_law 1043 = .ok (.aload_n 3, 1) := by decide +kernel
theorem dL_law_1044 : decode cL_law 1044 = .ok (.invokestatic 152, 3) := by decide +kernel
theorem dL_law_1047 : decode cL_law 1047 = .ok (.istore 5, 2) := by decide +kernel
theorem dL_law_1049 : decode cL_law 1049 = .ok (.aload_n 2, 1) := by decide +kernel
theorem dL_law_1050 : decode cL_law 1050 = .ok (.aload_n 0, 1) := by decide +kernel
theorem dL_law_1051 : decode cL_law 1051 = .ok (.iload 4, 2) := by decide +kernel
theorem dL_law_1053 : decode cL_law 1053 = .ok (.iconst 1, 1) := by decide +kernel
theorem dL_law_1054 : decode cL_law 1054 = .ok (.iadd, 1) := by decide +kernel
theorem dL_law_1055 : decode cL_law 1055 = .ok (.iaload, 1) := by decide +kernel
theorem dL_law_1056 : decode cL_law 1056 = .ok (.aload_n 0, 1) := by decide +kernel
theorem dL_law_1057 : decode cL_law 1057 = .ok (.iload 4, 2) := by decide +kernel
theorem dL_law_1059 : decode cL_law 1059 = .ok (.iconst 2, 1) := by decide +kernel
theorem dL_law_1060 : decode cL_law 1060 = .ok (.iadd, 1) := by decide +kernel
theorem dL_law_1061 : decode cL_law 1061 = .ok (.iaload, 1) := by decide +kernel
theorem dL_law_1062 : decode cL_law 1062 = .ok (.invokevirtual 155, 3) := by decide +kernel
theorem dL_law_1065 : decode cL_law 1065 = .ok (.istore 6, 2) := by decide +kernel
theorem dL_law_1067 : decode cL_law 1067 = .ok (.aload_n 2, 1) := by decide +kernel
theorem dL_law_1068 : decode cL_law 1068 = .ok (.invokevirtual 101, 3) := by decide +kernel
theorem dL_law_1071 : decode cL_law 1071 = .ok (.iload 5, 2) := by decide +kernel
theorem dL_law_1073 : decode cL_law 1073 = .ok (.if_icmp .eq 5, 3) := by decide +kernel
theorem dL_law_1076 : decode cL_law 1076 = .ok (.iconst 0, 1) := by decide +kernel
theorem dL_law_1077 : decode cL_law 1077 = .ok (.ireturn, 1) := by decide +kernel
theorem dL_law_1078 : decode cL_law 1078 = .ok (.iload 5, 2) := by decide +kernel
theorem dL_law_1080 : decode cL_law 1080 = .ok (.ifCond .ne 15, 3) := by decide +kernel
theorem dL_law_1083 : decode cL_law 1083 = .ok (.aload_n 3, 1) := by decide +kernel
theorem dL_law_1084 : decode cL_law 1084 = .ok (.iconst 0, 1) := by decide +kernel
theorem dL_law_1085 : decode cL_law 1085 = .ok (.laload, 1) := by decide +kernel
theorem dL_law_1086 : decode cL_law 1086 = .ok (.iload 6, 2) := by decide +kernel
theorem dL_law_1088 : decode cL_law 1088 = .ok (.i2l, 1) := by decide +kernel
theorem dL_law_1089 : decode cL_law 1089 = .ok (.lcmp, 1) := by decide +kernel
theorem dL_law_1090 : decode cL_law 1090 = .ok (.ifCond .eq 5, 3) := by decide +kernel
theorem dL_law_1093 : decode cL_law 1093 = .ok (.iconst 0, 1) := by decide +kernel
theorem dL_law_1094 : decode cL_law 1094 = .ok (.ireturn, 1) := by decide +kernel
theorem dL_law_1095 : decode cL_law 1095 = .ok (.goto 658, 3) := by decide +kernel
theorem dL_law_1098 : decode cL_law 1098 = .ok (.aload_n 1, 1) := by decide +kernel
theorem dL_law_1099 : decode cL_law 1099 = .ok (.aload_n 0, 1) := by decide +kernel
theorem dL_law_1100 : decode cL_law 1100 = .ok (.iload 4, 2) := by decide +kernel
theorem dL_law_1102 : decode cL_law 1102 = .ok (.iconst 1, 1) := by decide +kernel
theorem dL_law_1103 : decode cL_law 1103 = .ok (.iadd, 1) := by decide +kernel
theorem dL_law_1104 : decode cL_law 1104 = .ok (.iaload, 1) := by decide +kernel
theorem dL_law_1105 : decode cL_law 1105 = .ok (.aload_n 0, 1) := by decide +kernel
theorem dL_law_1106 : decode cL_law 1106 = .ok (.iload 4, 2) := by decide +kernel
theorem dL_law_1108 : decode cL_law 1108 = .ok (.iconst 2, 1) := by decide +kernel
theorem dL_law_1109 : decode cL_law 1109 = .ok (.iadd, 1) := by decide +kernel
theorem dL_law_1110 : decode cL_law 1110 = .ok (.iaload, 1) := by decide +kernel
theorem dL_law_1111 : decode cL_law 1111 = .ok (.aload_n 0, 1) := by decide +kernel
theorem dL_law_1112 : decode cL_law 1112 = .ok (.iload 4, 2) := by decide +kernel
theorem dL_law_1114 : decode cL_law 1114 = .ok (.iconst 3, 1) := by decide +kernel
theorem dL_law_1115 : decode cL_law 1115 = .ok (.iadd, 1) := by decide +kernel
theorem dL_law_1116 : decode cL_law 1116 = .ok (.iaload, 1) := by decide +kernel
theorem dL_law_1117 : decode cL_law 1117 = .ok (.aload_n 3, 1) := by decide +kernel
theorem dL_law_1118 : decode cL_law 1118 = .ok (.invokestatic 156, 3) := by decide +kernel
theorem dL_law_1121 : decode cL_law 1121 = .ok (.istore 5, 2) := by decide +kernel
theorem dL_law_1123 : decode cL_law 1123 = .ok (.aload_n 2, 1) := by decide +kernel
theorem dL_law_1124 : decode cL_law 1124 = .ok (.aload_n 0, 1) := by decide +kernel
theorem dL_law_1125 : decode cL_law 1125 = .ok (.iload 4, 2) := by decide +kernel
theorem dL_law_1127 : decode cL_law 1127 = .ok (.iconst 1, 1) := by decide +kernel
theorem dL_law_1128 : decode cL_law 1128 = .ok (.iadd, 1) := by decide +kernel
theorem dL_law_1129 : decode cL_law 1129 = .ok (.iaload, 1) := by decide +kernel
theorem dL_law_1130 : decode cL_law 1130 = .ok (.aload_n 0, 1) := by decide +kernel
theorem dL_law_1131 : decode cL_law 1131 = .ok (.iload 4, 2) := by decide +kernel
theorem dL_law_1133 : decode cL_law 1133 = .ok (.iconst 2, 1) := by decide +kernel
theorem dL_law_1134 : decode cL_law 1134 = .ok (.iadd, 1) := by decide +kernel
theorem dL_law_1135 : decode cL_law 1135 = .ok (.iaload, 1) := by decide +kernel
theorem dL_law_1136 : decode cL_law 1136 = .ok (.aload_n 0, 1) := by decide +kernel
theorem dL_law_1137 : decode cL_law 1137 = .ok (.iload 4, 2) := by decide +kernel
theorem dL_law_1139 : decode cL_law 1139 = .ok (.iconst 3, 1) := by decide +kernel
theorem dL_law_1140 : decode cL_law 1140 = .ok (.iadd, 1) := by decide +kernel
theorem dL_law_1141 : decode cL_law 1141 = .ok (.iaload, 1) := by decide +kernel
theorem dL_law_1142 : decode cL_law 1142 = .ok (.invokevirtual 158, 3) := by decide +kernel
theorem dL_law_1145 : decode cL_law 1145 = .ok (.istore 6, 2) := by decide +kernel
theorem dL_law_1147 : decode cL_law 1147 = .ok (.aload_n 2, 1) := by decide +kernel
theorem dL_law_1148 : decode cL_law 1148 = .ok (.invokevirtual 101, 3) := by decide +kernel
theorem dL_law_1151 : decode cL_law 1151 = .ok (.iload 5, 2) := by decide +kernel
theorem dL_law_1153 : decode cL_law 1153 = .ok (.if_icmp .eq 5, 3) := by decide +kernel
theorem dL_law_1156 : decode cL_law 1156 = .ok (.iconst 0, 1) := by decide +kernel
theorem dL_law_1157 : decode cL_law 1157 = .ok (.ireturn, 1) := by decide +kernel
theorem dL_law_1158 : decode cL_law 1158 = .ok (.iload 5, 2) := by decide +kernel
theorem dL_law_1160 : decode cL_law 1160 = .ok (.ifCond .ne 15, 3) := by decide +kernel
theorem dL_law_1163 : decode cL_law 1163 = .ok (.aload_n 3, 1) := by decide +kernel
theorem dL_law_1164 : decode cL_law 1164 = .ok (.iconst 0, 1) := by decide +kernel
theorem dL_law_1165 : decode cL_law 1165 = .ok (.laload, 1) := by decide +kernel
theorem dL_law_1166 : decode cL_law 1166 = .ok (.iload 6, 2) := by decide +kernel
theorem dL_law_1168 : decode cL_law 1168 = .ok (.i2l, 1) := by decide +kernel
theorem dL_law_1169 : decode cL_law 1169 = .ok (.lcmp, 1) := by decide +kernel
theorem dL_law_1170 : decode cL_law 1170 = .ok (.ifCond .eq 5, 3) := by decide +kernel
theorem dL_law_1173 : decode cL_law 1173 = .ok (.iconst 0, 1) := by decide +kernel
theorem dL_law_1174 : decode cL_law 1174 = .ok (.ireturn, 1) := by decide +kernel
theorem dL_law_1175 : decode cL_law 1175 = .ok (.goto 578, 3) := by decide +kernel
theorem dL_law_1178 : decode cL_law 1178 = .ok (.aload_n 1, 1) := by decide +kernel
theorem dL_law_1179 : decode cL_law 1179 = .ok (.aload_n 0, 1) := by decide +kernel
theorem dL_law_1180 : decode cL_law 1180 = .ok (.iload 4, 2) := by decide +kernel
theorem dL_law_1182 : decode cL_law 1182 = .ok (.iconst 1, 1) := by decide +kernel
theorem dL_law_1183 : decode cL_law 1183 = .ok (.iadd, 1) := by decide +kernel
theorem dL_law_1184 : decode cL_law 1184 = .ok (.iaload, 1) := by decide +kernel
theorem dL_law_1185 : decode cL_law 1185 = .ok (.aload_n 0, 1) := by decide +kernel
theorem dL_law_1186 : decode cL_law 1186 = .ok (.iload 4, 2) := by decide +kernel
theorem dL_law_1188 : decode cL_law 1188 = .ok (.iconst 2, 1) := by decide +kernel
theorem dL_law_1189 : decode cL_law 1189 = .ok (.iadd, 1) := by decide +kernel
theorem dL_law_1190 : decode cL_law 1190 = .ok (.iaload, 1) := by decide +kernel
theorem dL_law_1191 : decode cL_law 1191 = .ok (.aload_n 3, 1) := by decide +kernel
theorem dL_law_1192 : decode cL_law 1192 = .ok (.invokestatic 159, 3) := by decide +kernel
theorem dL_law_1195 : decode cL_law 1195 = .ok (.istore 5, 2) := by decide +kernel
theorem dL_law_1197 : decode cL_law 1197 = .ok (.aload_n 2, 1) := by decide +kernel
theorem dL_law_1198 : decode cL_law 1198 = .ok (.aload_n 0, 1) := by decide +kernel
theorem dL_law_1199 : decode cL_law 1199 = .ok (.iload 4, 2) := by decide +kernel
theorem dL_law_1201 : decode cL_law 1201 = .ok (.iconst 1, 1) := by decide +kernel
theorem dL_law_1202 : decode cL_law 1202 = .ok (.iadd, 1) := by decide +kernel
theorem dL_law_1203 : decode cL_law 1203 = .ok (.iaload, 1) := by decide +kernel
theorem dL_law_1204 : decode cL_law 1204 = .ok (.aload_n 0, 1) := by decide +kernel
theorem dL_law_1205 : decode cL_law 1205 = .ok (.iload 4, 2) := by decide +kernel
theorem dL_law_1207 : decode cL_law 1207 = .ok (.iconst 2, 1) := by decide +kernel
theorem dL_law_1208 : decode cL_law 1208 = .ok (.iadd, 1) := by decide +kernel
theorem dL_law_1209 : decode cL_law 1209 = .ok (.iaload, 1) := by decide +kernel
theorem dL_law_1210 : decode cL_law 1210 = .ok (.invokevirtual 161, 3) := by decide +kernel
theorem dL_law_1213 : decode cL_law 1213 = .ok (.istore 6, 2) := by decide +kernel
theorem dL_law_1215 : decode cL_law 1215 = .ok (.aload_n 2, 1) := by decide +kernel
theorem dL_law_1216 : decode cL_law 1216 = .ok (.invokevirtual 101, 3) := by decide +kernel
theorem dL_law_1219 : decode cL_law 1219 = .ok (.iload 5, 2) := by decide +kernel
theorem dL_law_1221 : decode cL_law 1221 = .ok (.if_icmp .eq 5, 3) := by decide +kernel
theorem dL_law_1224 : decode cL_law 1224 = .ok (.iconst 0, 1) := by decide +kernel
theorem dL_law_1225 : decode cL_law 1225 = .ok (.ireturn, 1) := by decide +kernel
theorem dL_law_1226 : decode cL_law 1226 = .ok (.iload 5, 2) := by decide +kernel
theorem dL_law_1228 : decode cL_law 1228 = .ok (.ifCond .ne 15, 3) := by decide +kernel
theorem dL_law_1231 : decode cL_law 1231 = .ok (.aload_n 3, 1) := by decide +kernel
theorem dL_law_1232 : decode cL_law 1232 = .ok (.iconst 0, 1) := by decide +kernel
theorem dL_law_1233 : decode cL_law 1233 = .ok (.laload, 1) := by decide +kernel
theorem dL_law_1234 : decode cL_law 1234 = .ok (.iload 6, 2) := by decide +kernel
theorem dL_law_1236 : decode cL_law 1236 = .ok (.i2l, 1) := by decide +kernel
theorem dL_law_1237 : decode cL_law 1237 = .ok (.lcmp, 1) := by decide +kernel
theorem dL_law_1238 : decode cL_law 1238 = .ok (.ifCond .eq 5, 3) := by decide +kernel
theorem dL_law_1241 : decode cL_law 1241 = .ok (.iconst 0, 1) := by decide +kernel
theorem dL_law_1242 : decode cL_law 1242 = .ok (.ireturn, 1) := by decide +kernel
theorem dL_law_1243 : decode cL_law 1243 = .ok (.goto 510, 3) := by decide +kernel
theorem dL_law_1246 : decode cL_law 1246 = .ok (.aload_n 1, 1) := by decide +kernel
theorem dL_law_1247 : decode cL_law 1247 = .ok (.aload_n 0, 1) := by decide +kernel
theorem dL_law_1248 : decode cL_law 1248 = .ok (.iload 4, 2) := by decide +kernel
theorem dL_law_1250 : decode cL_law 1250 = .ok (.iconst 1, 1) := by decide +kernel
theorem dL_law_1251 : decode cL_law 1251 = .ok (.iadd, 1) := by decide +kernel
theorem dL_law_1252 : decode cL_law 1252 = .ok (.iaload, 1) := by decide +kernel
theorem dL_law_1253 : decode cL_law 1253 = .ok (.aload_n 0, 1) := by decide +kernel
theorem dL_law_1254 : decode cL_law 1254 = .ok (.iload 4, 2) := by decide +kernel
theorem dL_law_1256 : decode cL_law 1256 = .ok (.iconst 2, 1) := by decide +kernel
theorem dL_law_1257 : decode cL_law 1257 = .ok (.iadd, 1) := by decide +kernel
theorem dL_law_1258 : decode cL_law 1258 = .ok (.iaload, 1) := by decide +kernel
theorem dL_law_1259 : decode cL_law 1259 = .ok (.aload_n 3, 1) := by decide +kernel
theorem dL_law_1260 : decode cL_law 1260 = .ok (.invokestatic 162, 3) := by decide +kernel
theorem dL_law_1263 : decode cL_law 1263 = .ok (.istore 5, 2) := by decide +kernel
theorem dL_law_1265 : decode cL_law 1265 = .ok (.aload_n 2, 1) := by decide +kernel
theorem dL_law_1266 : decode cL_law 1266 = .ok (.aload_n 0, 1) := by decide +kernel
theorem dL_law_1267 : decode cL_law 1267 = .ok (.iload 4, 2) := by decide +kernel
theorem dL_law_1269 : decode cL_law 1269 = .ok (.iconst 1, 1) := by decide +kernel
theorem dL_law_1270 : decode cL_law 1270 = .ok (.iadd, 1) := by decide +kernel
theorem dL_law_1271 : decode cL_law 1271 = .ok (.iaload, 1) := by decide +kernel
theorem dL_law_1272 : decode cL_law 1272 = .ok (.aload_n 0, 1) := by decide +kernel
theorem dL_law_1273 : decode cL_law 1273 = .ok (.iload 4, 2) := by decide +kernel
theorem dL_law_1275 : decode cL_law 1275 = .ok (.iconst 2, 1) := by decide +kernel
theorem dL_law_1276 : decode cL_law 1276 = .ok (.iadd, 1) := by decide +kernel
theorem dL_law_1277 : decode cL_law 1277 = .ok (.iaload, 1) := by decide +kernel
theorem dL_law_1278 : decode cL_law 1278 = .ok (.invokevirtual 164, 3) := by decide +kernel
theorem dL_law_1281 : decode cL_law 1281 = .ok (.istore 6, 2) := by decide +kernel
theorem dL_law_1283 : decode cL_law 1283 = .ok (.aload_n 2, 1) := by decide +kernel
theorem dL_law_1284 : decode cL_law 1284 = .ok (.invokevirtual 101, 3) := by decide +kernel
theorem dL_law_1287 : decode cL_law 1287 = .ok (.iload 5, 2) := by decide +kernel
theorem dL_law_1289 : decode cL_law 1289 = .ok (.if_icmp .eq 5, 3) := by decide +kernel
theorem dL_law_1292 : decode cL_law 1292 = .ok (.iconst 0, 1) := by decide +kernel
theorem dL_law_1293 : decode cL_law 1293 = .ok (.ireturn, 1) := by decide +kernel
theorem dL_law_1294 : decode cL_law 1294 = .ok (.iload 5, 2) := by decide +kernel
theorem dL_law_1296 : decode cL_law 1296 = .ok (.ifCond .ne 15, 3) := by decide +kernel
theorem dL_law_1299 : decode cL_law 1299 = .ok (.aload_n 3, 1) := by decide +kernel
theorem dL_law_1300 : decode cL_law 1300 = .ok (.iconst 0, 1) := by decide +kernel
theorem dL_law_1301 : decode cL_law 1301 = .ok (.laload, 1) := by decide +kernel
theorem dL_law_1302 : decode cL_law 1302 = .ok (.iload 6, 2) := by decide +kernel
theorem dL_law_1304 : decode cL_law 1304 = .ok (.i2l, 1) := by decide +kernel
theorem dL_law_1305 : decode cL_law 1305 = .ok (.lcmp, 1) := by decide +kernel
theorem dL_law_1306 : decode cL_law 1306 = .ok (.ifCond .eq 5, 3) := by decide +kernel
theorem dL_law_1309 : decode cL_law 1309 = .ok (.iconst 0, 1) := by decide +kernel
theorem dL_law_1310 : decode cL_law 1310 = .ok (.ireturn, 1) := by decide +kernel
theorem dL_law_1311 : decode cL_law 1311 = .ok (.goto 442, 3) := by decide +kernel
theorem dL_law_1314 : decode cL_law 1314 = .ok (.aload_n 1, 1) := by decide +kernel
theorem dL_law_1315 : decode cL_law 1315 = .ok (.aload_n 0, 1) := by decide +kernel
theorem dL_law_1316 : decode cL_law 1316 = .ok (.iload 4, 2) := by decide +kernel
theorem dL_law_1318 : decode cL_law 1318 = .ok (.iconst 1, 1) := by decide +kernel
theorem dL_law_1319 : decode cL_law 1319 = .ok (.iadd, 1) := by decide +kernel
theorem dL_law_1320 : decode cL_law 1320 = .ok (.iaload, 1) := by decide +kernel
theorem dL_law_1321 : decode cL_law 1321 = .ok (.aload_n 3, 1) := by decide +kernel
theorem dL_law_1322 : decode cL_law 1322 = .ok (.invokestatic 165, 3) := by decide +kernel
theorem dL_law_1325 : decode cL_law 1325 = .ok (.istore 5, 2) := by decide +kernel
theorem dL_law_1327 : decode cL_law 1327 = .ok (.aload_n 2, 1) := by decide +kernel
theorem dL_law_1328 : decode cL_law 1328 = .ok (.aload_n 0, 1) := by decide +kernel
theorem dL_law_1329 : decode cL_law 1329 = .ok (.iload 4, 2) := by decide +kernel
theorem dL_law_1331 : decode cL_law 1331 = .ok (.iconst 1, 1) := by decide +kernel
theorem dL_law_1332 : decode cL_law 1332 = .ok (.iadd, 1) := by decide +kernel
theorem dL_law_1333 : decode cL_law 1333 = .ok (.iaload, 1) := by decide +kernel
theorem dL_law_1334 : decode cL_law 1334 = .ok (.invokevirtual 167, 3) := by decide +kernel
theorem dL_law_1337 : decode cL_law 1337 = .ok (.istore 6, 2) := by decide +kernel
theorem dL_law_1339 : decode cL_law 1339 = .ok (.aload_n 2, 1) := by decide +kernel
theorem dL_law_1340 : decode cL_law 1340 = .ok (.invokevirtual 101, 3) := by decide +kernel
theorem dL_law_1343 : decode cL_law 1343 = .ok (.iload 5, 2) := by decide +kernel
theorem dL_law_1345 : decode cL_law 1345 = .ok (.if_icmp .eq 5, 3) := by decide +kernel
theorem dL_law_1348 : decode cL_law 1348 = .ok (.iconst 0, 1) := by decide +kernel
theorem dL_law_1349 : decode cL_law 1349 = .ok (.ireturn, 1) := by decide +kernel
theorem dL_law_1350 : decode cL_law 1350 = .ok (.iload 5, 2) := by decide +kernel
theorem dL_law_1352 : decode cL_law 1352 = .ok (.ifCond .ne 15, 3) := by decide +kernel
theorem dL_law_1355 : decode cL_law 1355 = .ok (.aload_n 3, 1) := by decide +kernel
theorem dL_law_1356 : decode cL_law 1356 = .ok (.iconst 0, 1) := by decide +kernel
theorem dL_law_1357 : decode cL_law 1357 = .ok (.laload, 1) := by decide +kernel
theorem dL_law_1358 : decode cL_law 1358 = .ok (.iload 6, 2) := by decide +kernel
theorem dL_law_1360 : decode cL_law 1360 = .ok (.i2l, 1) := by decide +kernel
theorem dL_law_1361 : decode cL_law 1361 = .ok (.lcmp, 1) := by decide +kernel
theorem dL_law_1362 : decode cL_law 1362 = .ok (.ifCond .eq 5, 3) := by decide +kernel
theorem dL_law_1365 : decode cL_law 1365 = .ok (.iconst 0, 1) := by decide +kernel
theorem dL_law_1366 : decode cL_law 1366 = .ok (.ireturn, 1) := by decide +kernel
theorem dL_law_1367 : decode cL_law 1367 = .ok (.goto 386, 3) := by decide +kernel
theorem dL_law_1370 : decode cL_law 1370 = .ok (.aload_n 1, 1) := by decide +kernel
theorem dL_law_1371 : decode cL_law 1371 = .ok (.aload_n 0, 1) := by decide +kernel
theorem dL_law_1372 : decode cL_law 1372 = .ok (.iload 4, 2) := by decide +kernel
theorem dL_law_1374 : decode cL_law 1374 = .ok (.iconst 1, 1) := by decide +kernel
theorem dL_law_1375 : decode cL_law 1375 = .ok (.iadd, 1) := by decide +kernel
theorem dL_law_1376 : decode cL_law 1376 = .ok (.iaload, 1) := by decide +kernel
theorem dL_law_1377 : decode cL_law 1377 = .ok (.aload_n 3, 1) := by decide +kernel
theorem dL_law_1378 : decode cL_law 1378 = .ok (.invokestatic 168, 3) := by decide +kernel
theorem dL_law_1381 : decode cL_law 1381 = .ok (.istore 5, 2) := by decide +kernel
theorem dL_law_1383 : decode cL_law 1383 = .ok (.aload_n 2, 1) := by decide +kernel
theorem dL_law_1384 : decode cL_law 1384 = .ok (.aload_n 0, 1) := by decide +kernel
theorem dL_law_1385 : decode cL_law 1385 = .ok (.iload 4, 2) := by decide +kernel
theorem dL_law_1387 : decode cL_law 1387 = .ok (.iconst 1, 1) := by decide +kernel
theorem dL_law_1388 : decode cL_law 1388 = .ok (.iadd, 1) := by decide +kernel
theorem dL_law_1389 : decode cL_law 1389 = .ok (.iaload, 1) := by decide +kernel
theorem dL_law_1390 : decode cL_law 1390 = .ok (.invokevirtual 170, 3) := by decide +kernel
theorem dL_law_1393 : decode cL_law 1393 = .ok (.istore 6, 2) := by decide +kernel
theorem dL_law_1395 : decode cL_law 1395 = .ok (.aload_n 2, 1) := by decide +kernel
theorem dL_law_1396 : decode cL_law 1396 = .ok (.invokevirtual 101, 3) := by decide +kernel
theorem dL_law_1399 : decode cL_law 1399 = .ok (.iload 5, 2) := by decide +kernel
theorem dL_law_1401 : decode cL_law 1401 = .ok (.if_icmp .eq 5, 3) := by decide +kernel
theorem dL_law_1404 : decode cL_law 1404 = .ok (.iconst 0, 1) := by decide +kernel
theorem dL_law_1405 : decode cL_law 1405 = .ok (.ireturn, 1) := by decide +kernel
theorem dL_law_1406 : decode cL_law 1406 = .ok (.iload 5, 2) := by decide +kernel
theorem dL_law_1408 : decode cL_law 1408 = .ok (.ifCond .ne 15, 3) := by decide +kernel
theorem dL_law_1411 : decode cL_law 1411 = .ok (.aload_n 3, 1) := by decide +kernel
theorem dL_law_1412 : decode cL_law 1412 = .ok (.iconst 0, 1) := by decide +kernel
theorem dL_law_1413 : decode cL_law 1413 = .ok (.laload, 1) := by decide +kernel
theorem dL_law_1414 : decode cL_law 1414 = .ok (.iload 6, 2) := by decide +kernel
theorem dL_law_1416 : decode cL_law 1416 = .ok (.i2l, 1) := by decide +kernel
theorem dL_law_1417 : decode cL_law 1417 = .ok (.lcmp, 1) := by decide +kernel
theorem dL_law_1418 : decode cL_law 1418 = .ok (.ifCond .eq 5, 3) := by decide +kernel
theorem dL_law_1421 : decode cL_law 1421 = .ok (.iconst 0, 1) := by decide +kernel
theorem dL_law_1422 : decode cL_law 1422 = .ok (.ireturn, 1) := by decide +kernel
theorem dL_law_1423 : decode cL_law 1423 = .ok (.goto 330, 3) := by decide +kernel
theorem dL_law_1426 : decode cL_law 1426 = .ok (.aload_n 1, 1) := by decide +kernel
theorem dL_law_1427 : decode cL_law 1427 = .ok (.aload_n 0, 1) := by decide +kernel
theorem dL_law_1428 : decode cL_law 1428 = .ok (.iload 4, 2) := by decide +kernel
theorem dL_law_1430 : decode cL_law 1430 = .ok (.iconst 1, 1) := by decide +kernel
theorem dL_law_1431 : decode cL_law 1431 = .ok (.iadd, 1) := by decide +kernel
theorem dL_law_1432 : decode cL_law 1432 = .ok (.iaload, 1) := by decide +kernel
theorem dL_law_1433 : decode cL_law 1433 = .ok (.aload_n 3, 1) := by decide +kernel
theorem dL_law_1434 : decode cL_law 1434 = .ok (.invokestatic 171, 3) := by decide +kernel
theorem dL_law_1437 : decode cL_law 1437 = .ok (.istore 5, 2) := by decide +kernel
theorem dL_law_1439 : decode cL_law 1439 = .ok (.aload_n 2, 1) := by decide +kernel
theorem dL_law_1440 : decode cL_law 1440 = .ok (.aload_n 0, 1) := by decide +kernel
theorem dL_law_1441 : decode cL_law 1441 = .ok (.iload 4, 2) := by decide +kernel
theorem dL_law_1443 : decode cL_law 1443 = .ok (.iconst 1, 1) := by decide +kernel
theorem dL_law_1444 : decode cL_law 1444 = .ok (.iadd, 1) := by decide +kernel
theorem dL_law_1445 : decode cL_law 1445 = .ok (.iaload, 1) := by decide +kernel
theorem dL_law_1446 : decode cL_law 1446 = .ok (.invokevirtual 173, 3) := by decide +kernel
theorem dL_law_1449 : decode cL_law 1449 = .ok (.istore 6, 2) := by decide +kernel
theorem dL_law_1451 : decode cL_law 1451 = .ok (.aload_n 2, 1) := by decide +kernel
theorem dL_law_1452 : decode cL_law 1452 = .ok (.invokevirtual 101, 3) := by decide +kernel
theorem dL_law_1455 : decode cL_law 1455 = .ok (.iload 5, 2) := by decide +kernel
theorem dL_law_1457 : decode cL_law 1457 = .ok (.if_icmp .eq 5, 3) := by decide +kernel
theorem dL_law_1460 : decode cL_law 1460 = .ok (.iconst 0, 1) := by decide +kernel
theorem dL_law_1461 : decode cL_law 1461 = .ok (.ireturn, 1) := by decide +kernel
theorem dL_law_1462 : decode cL_law 1462 = .ok (.iload 5, 2) := by decide +kernel
theorem dL_law_1464 : decode cL_law 1464 = .ok (.ifCond .ne 15, 3) := by decide +kernel
theorem dL_law_1467 : decode cL_law 1467 = .ok (.aload_n 3, 1) := by decide +kernel
theorem dL_law_1468 : decode cL_law 1468 = .ok (.iconst 0, 1) := by decide +kernel
theorem dL_law_1469 : decode cL_law 1469 = .ok (.laload, 1) := by decide +kernel
theorem dL_law_1470 : decode cL_law 1470 = .ok (.iload 6, 2) := by decide +kernel
theorem dL_law_1472 : decode cL_law 1472 = .ok (.i2l, 1) := by decide +kernel
theorem dL_law_1473 : decode cL_law 1473 = .ok (.lcmp, 1) := by decide +kernel
theorem dL_law_1474 : decode cL_law 1474 = .ok (.ifCond .eq 5, 3) := by decide +kernel
theorem dL_law_1477 : decode cL_law 1477 = .ok (.iconst 0, 1) := by decide +kernel
theorem dL_law_1478 : decode cL_law 1478 = .ok (.ireturn, 1) := by decide +kernel
theorem dL_law_1479 : decode cL_law 1479 = .ok (.goto 274, 3) := by decide +kernel
theorem dL_law_1482 : decode cL_law 1482 = .ok (.aload_n 1, 1) := by decide +kernel
theorem dL_law_1483 : decode cL_law 1483 = .ok (.aload_n 0, 1) := by decide +kernel
theorem dL_law_1484 : decode cL_law 1484 = .ok (.iload 4, 2) := by decide +kernel
theorem dL_law_1486 : decode cL_law 1486 = .ok (.iconst 1, 1) := by decide +kernel
theorem dL_law_1487 : decode cL_law 1487 = .ok (.iadd, 1) := by decide +kernel
theorem dL_law_1488 : decode cL_law 1488 = .ok (.iaload, 1) := by decide +kernel
theorem dL_law_1489 : decode cL_law 1489 = .ok (.aload_n 0, 1) := by decide +kernel
theorem dL_law_1490 : decode cL_law 1490 = .ok (.iload 4, 2) := by decide +kernel
theorem dL_law_1492 : decode cL_law 1492 = .ok (.iconst 2, 1) := by decide +kernel
theorem dL_law_1493 : decode cL_law 1493 = .ok (.iadd, 1) := by decide +kernel
theorem dL_law_1494 : decode cL_law 1494 = .ok (.iaload, 1) := by decide +kernel
theorem dL_law_1495 : decode cL_law 1495 = .ok (.aload_n 0, 1) := by decide +kernel
theorem dL_law_1496 : decode cL_law 1496 = .ok (.iload 4, 2) := by decide +kernel
theorem dL_law_1498 : decode cL_law 1498 = .ok (.iconst 3, 1) := by decide +kernel
theorem dL_law_1499 : decode cL_law 1499 = .ok (.iadd, 1) := by decide +kernel
theorem dL_law_1500 : decode cL_law 1500 = .ok (.iaload, 1) := by decide +kernel
theorem dL_law_1501 : decode cL_law 1501 = .ok (.aload_n 0, 1) := by decide +kernel
theorem dL_law_1502 : decode cL_law 1502 = .ok (.iload 4, 2) := by decide +kernel
theorem dL_law_1504 : decode cL_law 1504 = .ok (.iconst 4, 1) := by decide +kernel
theorem dL_law_1505 : decode cL_law 1505 = .ok (.iadd, 1) := by decide +kernel
theorem dL_law_1506 : decode cL_law 1506 = .ok (.iaload, 1) := by decide +kernel
theorem dL_law_1507 : decode cL_law 1507 = .ok (.aload_n 3, 1) := by decide +kernel
theorem dL_law_1508 : decode cL_law 1508 = .ok (.invokestatic 174, 3) := by decide +kernel
theorem dL_law_1511 : decode cL_law 1511 = .ok (.istore 5, 2) := by decide +kernel
theorem dL_law_1513 : decode cL_law 1513 = .ok (.aload_n 2, 1) := by decide +kernel
theorem dL_law_1514 : decode cL_law 1514 = .ok (.aload_n 0, 1) := by decide +kernel
theorem dL_law_1515 : decode cL_law 1515 = .ok (.iload 4, 2) := by decide +kernel
theorem dL_law_1517 : decode cL_law 1517 = .ok (.iconst 1, 1) := by decide +kernel
theorem dL_law_1518 : decode cL_law 1518 = .ok (.iadd, 1) := by decide +kernel
theorem dL_law_1519 : decode cL_law 1519 = .ok (.iaload, 1) := by decide +kernel
theorem dL_law_1520 : decode cL_law 1520 = .ok (.aload_n 0, 1) := by decide +kernel
theorem dL_law_1521 : decode cL_law 1521 = .ok (.iload 4, 2) := by decide +kernel
theorem dL_law_1523 : decode cL_law 1523 = .ok (.iconst 2, 1) := by decide +kernel
theorem dL_law_1524 : decode cL_law 1524 = .ok (.iadd, 1) := by decide +kernel
theorem dL_law_1525 : decode cL_law 1525 = .ok (.iaload, 1) := by decide +kernel
theorem dL_law_1526 : decode cL_law 1526 = .ok (.aload_n 0, 1) := by decide +kernel
theorem dL_law_1527 : decode cL_law 1527 = .ok (.iload 4, 2) := by decide +kernel
theorem dL_law_1529 : decode cL_law 1529 = .ok (.iconst 3, 1) := by decide +kernel
theorem dL_law_1530 : decode cL_law 1530 = .ok (.iadd, 1) := by decide +kernel
theorem dL_law_1531 : decode cL_law 1531 = .ok (.iaload, 1) := by decide +kernel
theorem dL_law_1532 : decode cL_law 1532 = .ok (.aload_n 0, 1) := by decide +kernel
theorem dL_law_1533 : decode cL_law 1533 = .ok (.iload 4, 2) := by decide +kernel
theorem dL_law_1535 : decode cL_law 1535 = .ok (.iconst 4, 1) := by decide +kernel
theorem dL_law_1536 : decode cL_law 1536 = .ok (.iadd, 1) := by decide +kernel
theorem dL_law_1537 : decode cL_law 1537 = .ok (.iaload, 1) := by decide +kernel
theorem dL_law_1538 : decode cL_law 1538 = .ok (.invokevirtual 177, 3) := by decide +kernel
theorem dL_law_1541 : decode cL_law 1541 = .ok (.istore 6, 2) := by decide +kernel
theorem dL_law_1543 : decode cL_law 1543 = .ok (.aload_n 2, 1) := by decide +kernel
theorem dL_law_1544 : decode cL_law 1544 = .ok (.invokevirtual 101, 3) := by decide +kernel
theorem dL_law_1547 : decode cL_law 1547 = .ok (.iload 5, 2) := by decide +kernel
theorem dL_law_1549 : decode cL_law 1549 = .ok (.if_icmp .eq 5, 3) := by decide +kernel
theorem dL_law_1552 : decode cL_law 1552 = .ok (.iconst 0, 1) := by decide +kernel
theorem dL_law_1553 : decode cL_law 1553 = .ok (.ireturn, 1) := by decide +kernel
theorem dL_law_1554 : decode cL_law 1554 = .ok (.iload 5, 2) := by decide +kernel
theorem dL_law_1556 : decode cL_law 1556 = .ok (.ifCond .ne 15, 3) := by decide +kernel
theorem dL_law_1559 : decode cL_law 1559 = .ok (.aload_n 3, 1) := by decide +kernel
theorem dL_law_1560 : decode cL_law 1560 = .ok (.iconst 0, 1) := by decide +kernel
theorem dL_law_1561 : decode cL_law 1561 = .ok (.laload, 1) := by decide +kernel
theorem dL_law_1562 : decode cL_law 1562 = .ok (.iload 6, 2) := by decide +kernel
theorem dL_law_1564 : decode cL_law 1564 = .ok (.i2l, 1) := by decide +kernel
theorem dL_law_1565 : decode cL_law 1565 = .ok (.lcmp, 1) := by decide +kernel
theorem dL_law_1566 : decode cL_law 1566 = .ok (.ifCond .eq 5, 3) := by decide +kernel
theorem dL_law_1569 : decode cL_law 1569 = .ok (.iconst 0, 1) := by decide +kernel
theorem dL_law_1570 : decode cL_law 1570 = .ok (.ireturn, 1) := by decide +kernel
theorem dL_law_1571 : decode cL_law 1571 = .ok (.goto 182, 3) := by decide +kernel
theorem dL_law_1574 : decode cL_law 1574 = .ok (.aload_n 1, 1) := by decide +kernel
theorem dL_law_1575 : decode cL_law 1575 = .ok (.aload_n 0, 1) := by decide +kernel
theorem dL_law_1576 : decode cL_law 1576 = .ok (.iload 4, 2) := by decide +kernel
theorem dL_law_1578 : decode cL_law 1578 = .ok (.iconst 1, 1) := by decide +kernel
theorem dL_law_1579 : decode cL_law 1579 = .ok (.iadd, 1) := by decide +kernel
theorem dL_law_1580 : decode cL_law 1580 = .ok (.iaload, 1) := by decide +kernel
theorem dL_law_1581 : decode cL_law 1581 = .ok (.aload_n 3, 1) := by decide +kernel
theorem dL_law_1582 : decode cL_law 1582 = .ok (.invokestatic 178, 3) := by decide +kernel
theorem dL_law_1585 : decode cL_law 1585 = .ok (.istore 5, 2) := by decide +kernel
theorem dL_law_1587 : decode cL_law 1587 = .ok (.aload_n 2, 1) := by decide +kernel
theorem dL_law_1588 : decode cL_law 1588 = .ok (.aload_n 0, 1) := by decide +kernel
theorem dL_law_1589 : decode cL_law 1589 = .ok (.iload 4, 2) := by decide +kernel
theorem dL_law_1591 : decode cL_law 1591 = .ok (.iconst 1, 1) := by decide +kernel
theorem dL_law_1592 : decode cL_law 1592 = .ok (.iadd, 1) := by decide +kernel
theorem dL_law_1593 : decode cL_law 1593 = .ok (.iaload, 1) := by decide +kernel
theorem dL_law_1594 : decode cL_law 1594 = .ok (.invokevirtual 180, 3) := by decide +kernel
theorem dL_law_1597 : decode cL_law 1597 = .ok (.istore 6, 2) := by decide +kernel
theorem dL_law_1599 : decode cL_law 1599 = .ok (.aload_n 2, 1) := by decide +kernel
theorem dL_law_1600 : decode cL_law 1600 = .ok (.invokevirtual 101, 3) := by decide +kernel
theorem dL_law_1603 : decode cL_law 1603 = .ok (.iload 5, 2) := by decide +kernel
theorem dL_law_1605 : decode cL_law 1605 = .ok (.if_icmp .eq 5, 3) := by decide +kernel
theorem dL_law_1608 : decode cL_law 1608 = .ok (.iconst 0, 1) := by decide +kernel
theorem dL_law_1609 : decode cL_law 1609 = .ok (.ireturn, 1) := by decide +kernel
theorem dL_law_1610 : decode cL_law 1610 = .ok (.iload 5, 2) := by decide +kernel
theorem dL_law_1612 : decode cL_law 1612 = .ok (.ifCond .ne 15, 3) := by decide +kernel
theorem dL_law_1615 : decode cL_law 1615 = .ok (.aload_n 3, 1) := by decide +kernel
theorem dL_law_1616 : decode cL_law 1616 = .ok (.iconst 0, 1) := by decide +kernel
theorem dL_law_1617 : decode cL_law 1617 = .ok (.laload, 1) := by decide +kernel
theorem dL_law_1618 : decode cL_law 1618 = .ok (.iload 6, 2) := by decide +kernel
theorem dL_law_1620 : decode cL_law 1620 = .ok (.i2l, 1) := by decide +kernel
theorem dL_law_1621 : decode cL_law 1621 = .ok (.lcmp, 1) := by decide +kernel
theorem dL_law_1622 : decode cL_law 1622 = .ok (.ifCond .eq 5, 3) := by decide +kernel
theorem dL_law_1625 : decode cL_law 1625 = .ok (.iconst 0, 1) := by decide +kernel
theorem dL_law_1626 : decode cL_law 1626 = .ok (.ireturn, 1) := by decide +kernel
theorem dL_law_1627 : decode cL_law 1627 = .ok (.goto 126, 3) := by decide +kernel
theorem dL_law_1630 : decode cL_law 1630 = .ok (.aload_n 1, 1) := by decide +kernel
theorem dL_law_1631 : decode cL_law 1631 = .ok (.aload_n 0, 1) := by decide +kernel
theorem dL_law_1632 : decode cL_law 1632 = .ok (.iload 4, 2) := by decide +kernel
theorem dL_law_1634 : decode cL_law 1634 = .ok (.iconst 1, 1) := by decide +kernel
theorem dL_law_1635 : decode cL_law 1635 = .ok (.iadd, 1) := by decide +kernel
theorem dL_law_1636 : decode cL_law 1636 = .ok (.iaload, 1) := by decide +kernel
theorem dL_law_1637 : decode cL_law 1637 = .ok (.aload_n 0, 1) := by decide +kernel
theorem dL_law_1638 : decode cL_law 1638 = .ok (.iload 4, 2) := by decide +kernel
theorem dL_law_1640 : decode cL_law 1640 = .ok (.iconst 2, 1) := by decide +kernel
theorem dL_law_1641 : decode cL_law 1641 = .ok (.iadd, 1) := by decide +kernel
theorem dL_law_1642 : decode cL_law 1642 = .ok (.iaload, 1) := by decide +kernel
theorem dL_law_1643 : decode cL_law 1643 = .ok (.aload_n 3, 1) := by decide +kernel
theorem dL_law_1644 : decode cL_law 1644 = .ok (.invokestatic 181, 3) := by decide +kernel
theorem dL_law_1647 : decode cL_law 1647 = .ok (.istore 5, 2) := by decide +kernel
theorem dL_law_1649 : decode cL_law 1649 = .ok (.aload_n 2, 1) := by decide +kernel
theorem dL_law_1650 : decode cL_law 1650 = .ok (.aload_n 0, 1) := by decide +kernel
theorem dL_law_1651 : decode cL_law 1651 = .ok (.iload 4, 2) := by decide +kernel
theorem dL_law_1653 : decode cL_law 1653 = .ok (.iconst 1, 1) := by decide +kernel
theorem dL_law_1654 : decode cL_law 1654 = .ok (.iadd, 1) := by decide +kernel
theorem dL_law_1655 : decode cL_law 1655 = .ok (.iaload, 1) := by decide +kernel
theorem dL_law_1656 : decode cL_law 1656 = .ok (.aload_n 0, 1) := by decide +kernel
theorem dL_law_1657 : decode cL_law 1657 = .ok (.iload 4, 2) := by decide +kernel
theorem dL_law_1659 : decode cL_law 1659 = .ok (.iconst 2, 1) := by decide +kernel
theorem dL_law_1660 : decode cL_law 1660 = .ok (.iadd, 1) := by decide +kernel
theorem dL_law_1661 : decode cL_law 1661 = .ok (.iaload, 1) := by decide +kernel
theorem dL_law_1662 : decode cL_law 1662 = .ok (.invokevirtual 183, 3) := by decide +kernel
theorem dL_law_1665 : decode cL_law 1665 = .ok (.istore 6, 2) := by decide +kernel
theorem dL_law_1667 : decode cL_law 1667 = .ok (.aload_n 2, 1) := by decide +kernel
theorem dL_law_1668 : decode cL_law 1668 = .ok (.invokevirtual 101, 3) := by decide +kernel
theorem dL_law_1671 : decode cL_law 1671 = .ok (.iload 5, 2) := by decide +kernel
theorem dL_law_1673 : decode cL_law 1673 = .ok (.if_icmp .eq 5, 3) := by decide +kernel
theorem dL_law_1676 : decode cL_law 1676 = .ok (.iconst 0, 1) := by decide +kernel
theorem dL_law_1677 : decode cL_law 1677 = .ok (.ireturn, 1) := by decide +kernel
theorem dL_law_1678 : decode cL_law 1678 = .ok (.iload 5, 2) := by decide +kernel
theorem dL_law_1680 : decode cL_law 1680 = .ok (.ifCond .ne 15, 3) := by decide +kernel
theorem dL_law_1683 : decode cL_law 1683 = .ok (.aload_n 3, 1) := by decide +kernel
theorem dL_law_1684 : decode cL_law 1684 = .ok (.iconst 0, 1) := by decide +kernel
theorem dL_law_1685 : decode cL_law 1685 = .ok (.laload, 1) := by decide +kernel
theorem dL_law_1686 : decode cL_law 1686 = .ok (.iload 6, 2) := by decide +kernel
theorem dL_law_1688 : decode cL_law 1688 = .ok (.i2l, 1) := by decide +kernel
theorem dL_law_1689 : decode cL_law 1689 = .ok (.lcmp, 1) := by decide +kernel
theorem dL_law_1690 : decode cL_law 1690 = .ok (.ifCond .eq 5, 3) := by decide +kernel
theorem dL_law_1693 : decode cL_law 1693 = .ok (.iconst 0, 1) := by decide +kernel
theorem dL_law_1694 : decode cL_law 1694 = .ok (.ireturn, 1) := by decide +kernel
theorem dL_law_1695 : decode cL_law 1695 = .ok (.goto 58, 3) := by decide +kernel
theorem dL_law_1698 : decode cL_law 1698 = .ok (.aload_n 1, 1) := by decide +kernel
theorem dL_law_1699 : decode cL_law 1699 = .ok (.invokevirtual 184, 3) := by decide +kernel
theorem dL_law_1702 : decode cL_law 1702 = .ok (.dstore 5, 2) := by decide +kernel
theorem dL_law_1704 : decode cL_law 1704 = .ok (.aload_n 2, 1) := by decide +kernel
theorem dL_law_1705 : decode cL_law 1705 = .ok (.invokevirtual 188, 3) := by decide +kernel
theorem dL_law_1708 : decode cL_law 1708 = .ok (.dstore 7, 2) := by decide +kernel
theorem dL_law_1710 : decode cL_law 1710 = .ok (.dload 5, 2) := by decide +kernel
theorem dL_law_1712 : decode cL_law 1712 = .ok (.dload 7, 2) := by decide +kernel
theorem dL_law_1714 : decode cL_law 1714 = .ok (.dcmp .l, 1) := by decide +kernel
theorem dL_law_1715 : decode cL_law 1715 = .ok (.ifCond .eq 21, 3) := by decide +kernel
theorem dL_law_1718 : decode cL_law 1718 = .ok (.dload 5, 2) := by decide +kernel
theorem dL_law_1720 : decode cL_law 1720 = .ok (.dload 5, 2) := by decide +kernel
theorem dL_law_1722 : decode cL_law 1722 = .ok (.dcmp .l, 1) := by decide +kernel
theorem dL_law_1723 : decode cL_law 1723 = .ok (.ifCond .eq 11, 3) := by decide +kernel
theorem dL_law_1726 : decode cL_law 1726 = .ok (.dload 7, 2) := by decide +kernel
theorem dL_law_1728 : decode cL_law 1728 = .ok (.dload 7, 2) := by decide +kernel
theorem dL_law_1730 : decode cL_law 1730 = .ok (.dcmp .l, 1) := by decide +kernel
theorem dL_law_1731 : decode cL_law 1731 = .ok (.ifCond .ne 5, 3) := by decide +kernel
theorem dL_law_1734 : decode cL_law 1734 = .ok (.iconst 0, 1) := by decide +kernel
theorem dL_law_1735 : decode cL_law 1735 = .ok (.ireturn, 1) := by decide +kernel
theorem dL_law_1736 : decode cL_law 1736 = .ok (.goto 17, 3) := by decide +kernel
theorem dL_law_1739 : decode cL_law 1739 = .ok (.aload_n 1, 1) := by decide +kernel
theorem dL_law_1740 : decode cL_law 1740 = .ok (.invokevirtual 189, 3) := by decide +kernel
theorem dL_law_1743 : decode cL_law 1743 = .ok (.aload_n 2, 1) := by decide +kernel
theorem dL_law_1744 : decode cL_law 1744 = .ok (.invokevirtual 193, 3) := by decide +kernel
theorem dL_law_1747 : decode cL_law 1747 = .ok (.lcmp, 1) := by decide +kernel
theorem dL_law_1748 : decode cL_law 1748 = .ok (.ifCond .eq 5, 3) := by decide +kernel
theorem dL_law_1751 : decode cL_law 1751 = .ok (.iconst 0, 1) := by decide +kernel
theorem dL_law_1752 : decode cL_law 1752 = .ok (.ireturn, 1) := by decide +kernel
theorem dL_law_1753 : decode cL_law 1753 = .ok (.iinc 4 5, 3) := by decide +kernel
theorem dL_law_1756 : decode cL_law 1756 = .ok (.goto (-1733), 3) := by decide +kernel
theorem dL_law_1759 : decode cL_law 1759 = .ok (.iconst 1, 1) := by decide +kernel
theorem dL_law_1760 : decode cL_law 1760 = .ok (.ireturn, 1) := by decide +kernel
end
section
/-! The run's one world: every cell of class and reference that lives through the run, by a number of its own; what may change is a triple: numbers, the places of the saved ships, longs. -/
def i32 (x : Int) : Int32 := Int32.ofInt x
abbrev zSt : Type := (Nat → Nat → Int) × (Nat → Nat) × (Nat → Int64)
abbrev zLy : Type := (Nat → Nat) × va_G × (Nat → ClassId) × Nat
def zad (Y : zLy) (c : Nat) : Nat := Y.1 c
def zcA (Y : zLy) (k : Nat) : ClassId := Y.2.2.1 k
def zA (Y : zLy) : Nat → Prop := fun q => Y.2.2.2 ≤ q
def ztys (Y : zLy) : List (ClassId × FieldType) := [(zcA Y 0, .int), (zcA Y 1, .boolean), (zcA Y 2, .long), (zcA Y 3, .object RX5)]
abbrev zcl : List vw_C := [(RX0, TX0, 6), (RX1, TX1, 4), (RX2, TX2, 2), (RX3, TX3, 4), (RX4, TX4, 3), (RX5, TX5, 8), (RX6, TX6, 12), (RX7, TX7, 9), (RX8, TX8, 15)]
/-- the kind of a cell: 0 none; 1 to 9 an object of class 0 to 8; 10 to 19 rows of ints; 20 to 29 of booleans; 30 of ships; 31 of longs -/
def zK (c : Nat) : Nat :=
  if 10 ≤ c ∧ c < 170 then [6, 1, 10, 20, 20, 11, 21, 4, 12, 12, 22, 2, 13, 13, 13].getD ((c - 10) % 20) 0
  else if 200 ≤ c ∧ c < 260 then [7, 10, 10, 20, 21, 11, 22, 13, 10, 11, 11].getD ((c - 200) % 20) 0
  else if c = 0 then 8 else if c = 300 then 3 else if c = 301 then 30 else if c = 310 then 5 else if c = 311 then 14 else if c = 320 then 15
  else if c = 400 then 9 else if c = 401 then 16 else if c = 402 then 17 else if c = 403 then 15 else if c = 404 then 16 else if c = 405 then 18 else if c = 500 then 31 else 0
def zlen (k : Nat) : Nat := match k with
  | 10 => 12 | 11 => 24 | 12 => 16 | 13 => 9 | 14 => 3 | 15 => 60 | 16 => 168 | 17 => 1008 | 18 => 80 | 20 => 12 | 21 => 24 | 22 => 16 | _ => 0
/-- an object's fields -/
def zfs (Y : zLy) (σ : zSt) (c : Nat) (k : Nat) : List Value := match k with
  | 1 => [.int (i32 (σ.1 c 0)), .ref (zad Y (c + 2)), .ref (zad Y (c + 3)), .ref (zad Y (c + 4)), .ref (zad Y (c + 5)), .ref (zad Y (c + 6))]
  | 2 => [.int (i32 (σ.1 c 0)), .ref (zad Y (c + 1)), .ref (zad Y (c + 2)), .ref (zad Y (c + 3))]
  | 3 => [.int (i32 (σ.1 c 0)), .ref (zad Y (c + 1))]
  | 4 => [.int (i32 (σ.1 c 0)), .ref (zad Y (c + 1)), .ref (zad Y (c + 2)), .ref (zad Y (c + 3))]
  | 5 => [.ref (zad Y (c + 1)), .int (i32 (σ.1 c 1)), .int (i32 (σ.1 c 2))]
  | 6 => [.ref (zad Y (c + 1)), .ref (zad Y (c + 7)), .ref (zad Y (c + 11)), .int (i32 (σ.1 c 3)), .int (i32 (σ.1 c 4)), .int (i32 (σ.1 c 5)), .int (i32 (σ.1 c 6)), .int (i32 (σ.1 c 7))]
  | 7 => [.ref (zad Y (c + 1)), .ref (zad Y (c + 2)), .ref (zad Y (c + 3)), .ref (zad Y (c + 4)), .ref (zad Y (c + 5)), .ref (zad Y (c + 6)), .int (i32 (σ.1 c 6)), .int (i32 (σ.1 c 7)), .ref (zad Y (c + 7)), .ref (zad Y (c + 8)), .ref (zad Y (c + 9)), .ref (zad Y (c + 10))]
  | 8 => [.ref (zad Y 10), .ref (zad Y 200), .ref (zad Y 30), .ref (zad Y 220), .ref (zad Y 240), .ref (zad Y 300), .ref (zad Y 310), .ref (zad Y 320), .int (i32 (σ.1 c 8))]
  | 9 => [.int (i32 (σ.1 c 0)), .ref (zad Y 401), .int (i32 (σ.1 c 2)), .ref (zad Y 402), .int (i32 (σ.1 c 4)), .ref (zad Y 403), .int (i32 (σ.1 c 6)), .int (i32 (σ.1 c 7)), .ref (zad Y 404), .int (i32 (σ.1 c 9)), .int (i32 (σ.1 c 10)), .int (i32 (σ.1 c 11)), .int (i32 (σ.1 c 12)), .ref (zad Y 405), .long (σ.2.2 0)]
  | _ => []
/-- a cell by its kind -/
def zce (Y : zLy) (σ : zSt) (c : Nat) (k : Nat) : va_E :=
  if k < 10 then .inr (k - 1, zfs Y σ c k) else if k < 20 then .inl (zcA Y 0, zlen k, .inl (fun j => i32 (σ.1 c j))) else if k < 30 then .inl (zcA Y 1, zlen k, .inl (fun j => i32 (σ.1 c j)))
  else if k = 30 then .inl (zcA Y 3, 6, .inr (.inr (.inr (.inr (fun j => some (zad Y (σ.2.1 j))))))) else .inl (zcA Y 2, 1, .inr (.inl (fun j => σ.2.2 (j + 1))))
/-- the heap holds the world -/
def zH (Y : zLy) (σ : zSt) (H : Heap) : Prop := ∀ c, zK c ≠ 0 → va_at Y.2.1 zcl (zad Y c, zce Y σ c (zK c)) H
def zOK (Y : zLy) (s : State) : Prop := va_K Y.2.1 zcl (ztys Y) s ∧ (∀ c c', zK c ≠ 0 → zK c' ≠ 0 → zad Y c = zad Y c' → c = c') ∧ ∀ c, zK c ≠ 0 → zA Y (zad Y c)
/-- what a throw needs beside the tables -/
def zZ (Y : zLy) (U : State) (H : Heap) : Prop := vx_Zq Bundle.tN "UNASSIGNED_STACK" Bundle.steD (zA Y) U H ∧ vx_Zq Bundle.tN "SUPPRESSED_SENTINEL" Bundle.listD (zA Y) U H
def zW (Y : zLy) (σ : zSt) (U : State) : Prop := zOK Y U ∧ zZ Y U U.heap ∧ zH Y σ U.heap
theorem zOK.moved {Y : zLy} {u U : State} (hvm : u.vm.Alike U.vm) (h : zOK Y u) : zOK Y U := ⟨va_K.moved hvm h.1, h.2⟩
theorem zZ.moved {Y : zLy} {u U : State} {H : Heap} (hvm : u.vm.Alike U.vm) (h : zZ Y u H) : zZ Y U H := ⟨vx_Zq.moved hvm h.1, vx_Zq.moved hvm h.2⟩
theorem zZ.kept {Y : zLy} {U : State} {H H1 : Heap} (h : zZ Y U H) (hq : ∀ a : Nat, a < H.size → ¬ zA Y a → H1[a]? = H[a]?) : zZ Y U H1 := ⟨vx_Zq.kept h.1 hq, vx_Zq.kept h.2 hq⟩
theorem zW.blind {Y : zLy} {σ : zSt} {Pa : List Value} : FrameBlind (va_Pc Pa (zW Y σ)) := fun a U g mk q =>
  ⟨q.1, (zOK.moved (u := U) (U := U.calling g mk a) (Vm.Alike.refl U.vm) q.2.1), (zZ.moved (u := U) (U := U.calling g mk a) (Vm.Alike.refl U.vm) q.2.2.1), q.2.2.2⟩
/-- the state is changed -/
def zwr (σ : zSt) (c k : Nat) (v : Int) : zSt := (fun c' k' => if c' = c ∧ k' = k then v else σ.1 c' k', σ.2)
def zws (σ : zSt) (k r : Nat) : zSt := (σ.1, fun j => if j = k then r else σ.2.1 j, σ.2.2)
def zwl (σ : zSt) (k : Nat) (v : Int64) : zSt := (σ.1, σ.2.1, fun j => if j = k then v else σ.2.2 j)
/-- go on, where something holds -/
def zck {β : Type} (c : Prop) [Decidable c] (k : Option β) : Option β := if c then k else none
def zbd {α β : Type} (o : Option α) (k : α → Option β) : Option β := match o with
  | none => none
  | some a => k a
theorem zck_pos {β : Type} {c : Prop} [Decidable c] {k : Option β} (h : c) : zck c k = k := if_pos h
theorem zbd_some {α β : Type} {o : Option α} {a : α} {k : α → Option β} (h : o = some a) : zbd o k = k a := by rw [h]; rfl
theorem zck_some {β : Type} {c : Prop} [Decidable c] {k : Option β} {r : β} (h : zck c k = some r) : c ∧ k = some r := by
  unfold zck at h
  split at h
  · exact ⟨by assumption, h⟩
  · cases h
theorem zbd_of {α β : Type} {o : Option α} {k : α → Option β} {r : β} (h : zbd o k = some r) : ∃ a, o = some a ∧ k a = some r := by
  cases o with
  | none => cases h
  | some a => exact ⟨a, rfl, h⟩
/-- the tables' good words: every method's list behind its own code -/
def zG : List Cond := lw_tbl.filter goodWord
theorem zG_good : ∀ w ∈ zG, goodWord w = true := fun w h => (List.mem_filter.mp h).2
theorem zG_mem {w : Cond} (i : Nat) (h : lw_tbl[i]? = some w) (g : goodWord w = true) : w ∈ zG := List.mem_filter.mpr ⟨List.mem_of_getElem? h, g⟩
theorem zG_in {w0 : Cond} {ws : List Cond} (h : ∀ w ∈ ws, w ∈ zG) : GoodIn zG ws := fun w hw => ⟨h w hw, good_of_word (zG_good w (h w hw))⟩
theorem zG_call {y : MethodName} {code : ByteArray} {n : Nat} {ret : Option FieldType} (h : Cond.code y code n ret ∈ zG) : ∀ w ∈ Cond.code y code n ret :: zG, w ∈ zG := fun w hw => (List.mem_cons.mp hw).elim (fun e => e ▸ h) id
def zrm (d : Nat) : Room := { frames := d, cells := 0, slots := 0, locals := 40 * d }
def zrx (d : Nat) : Room := { frames := d, cells := 1, slots := 6, locals := 40 * d }
/-- what a walk holds of its method and its start -/
def zCx (Y : zLy) (p : Program) (s : State) (m : MethodId) (args : Array Value) (meth : Method) (c : Code) (own : String) (cc : ByteArray) (nl : Nat) (ret : Option FieldType) : Prop :=
  p.tables.exec = Jvm.exec ∧ c.code = cc ∧ c.maxLocals = nl ∧ meth.sig.returnType = ret ∧ meth.locks = false ∧ s.vm.findClass own = some m.cls ∧ (∀ w ∈ zG, w.before args s = true) ∧ zOK Y s ∧ zZ Y s s.heap
/-- from the program counter pc, wherever the function o has an answer, the machine comes to an end with it -/
def zWo {ρ : Type} (Y : zLy) (p : Program) (l : Launch) (e : Env) (R : Room) (s : State) (m : MethodId) (args : Array Value) (below : List Frame) (meth : Method) (c : Code) (nl k n : Nat) (kq : ρ → State → Prop) (σ : zSt) (lv : List (Nat × Value)) (st : List Value) (pc : Nat) (o : Option ρ) : Prop :=
  ∀ r, o = some r → ∀ (H : Heap) (locs : List Loc) (ls : Array Slot), zH Y σ H → va_S (zA Y) s.heap H locs → lv_has ls nl lv → W p l e R s m args below meth c H locs k n (kq r) (F0 m pc ls st)
end
section
section ZROWS
theorem i32_add (x y : Int) : i32 x + i32 y = i32 (x + y) := (Int32.ofInt_add x y).symm
theorem i32_sub (x y : Int) : i32 x - i32 y = i32 (x - y) := (Int32.ofInt_sub x y).symm
theorem i32_mul (x y : Int) : i32 x * i32 y = i32 (x * y) := (Int32.ofInt_mul x y).symm
theorem i32_of (x : Int32) : i32 x.toInt = x := Int32.ofInt_toInt x
def zdv (x y : Int) : Int := (i32 x / i32 y).toInt
def zmo (x y : Int) : Int := (i32 x - i32 x / i32 y * i32 y).toInt
def zan (x y : Int) : Int := (i32 x &&& i32 y).toInt
def zor (x y : Int) : Int := (i32 x ||| i32 y).toInt
def zsl (x y : Int) : Int := (i32 x <<< (i32 y &&& 31)).toInt
def zsr (x y : Int) : Int := (i32 x >>> (i32 y &&& 31)).toInt
def zdc (x y : UInt64) (op : CmpOp) : Int := (Op.cmpValue (FP.dcmp x y) op).toInt
def zlc (x y : Int64) : Int := (lg_cmp x y).toInt
def znb (r : UInt64) : Bool := decide (r &&& 0x7fffffffffffffff ≤ 0x7ff0000000000000)
theorem znb_n {r : UInt64} (h : znb r = true) : vf_n64 r := by
  unfold znb at h
  have h1 := of_decide_eq_true h
  exact h1
theorem i32_in {i : Int} {N : Nat} (h : 0 ≤ i ∧ i < (N : Int)) (hN : N < 2 ^ 31) : vp_in (i32 i) N ∧ (i32 i).toNatClampNeg = i.toNat := by
  obtain ⟨j, rfl⟩ := Int.eq_ofNat_of_zero_le h.1
  have hj : j < N := by omega
  have e : i32 (j : Int) = nI j := rfl
  rw [e]
  exact ⟨vp_in_nI hj hN, by rw [nI_clamp (by omega)]; rfl⟩
theorem zlen_lt (k : Nat) : zlen k < 2 ^ 31 := by unfold zlen; split <;> decide
variable {ρ : Type} {Y : zLy} {p : Program} {l : Launch} {e : Env} {R : Room} {s : State} {m : MethodId} {args : Array Value} {below : List Frame} {meth : Method} {c : Code} {nl k n : Nat} {kq : ρ → State → Prop} {σ : zSt} {lv lv' : List (Nat × Value)} {rest : List Value} {pc tgt : Nat} {off : Int} {o ot oe : Option ρ} {own : String} {cc : ByteArray} {ret : Option FieldType}
theorem zr_iconst (cx : zCx Y p s m args meth c own cc nl ret) {v : Int} (hdg : decode cc pc = .ok (.iconst v, 1)) (kk : zWo Y p l e R s m args below meth c nl k n kq σ lv (.int (i32 v) :: rest) (pc + 1) (o)) : zWo Y p l e R s m args below meth c nl k n kq σ lv (rest) pc (o) := by
  intro r hr H locs ls hH hS hl
  exact lv_iconst cx.1 cx.2.1 hdg rfl (kk r hr H locs ls hH hS hl)
theorem zr_bipush (cx : zCx Y p s m args meth c own cc nl ret) {v : Int} (hdg : decode cc pc = .ok (.bipush v, 2)) (hv : (Int8.ofInt v).toInt32 = i32 v) (kk : zWo Y p l e R s m args below meth c nl k n kq σ lv (.int (i32 v) :: rest) (pc + 2) (o)) : zWo Y p l e R s m args below meth c nl k n kq σ lv (rest) pc (o) := by
  intro r hr H locs ls hH hS hl
  exact lv_bipush cx.1 cx.2.1 hdg hv (kk r hr H locs ls hH hS hl)
theorem zr_sipush (cx : zCx Y p s m args meth c own cc nl ret) {v : Int} (hdg : decode cc pc = .ok (.sipush v, 3)) (hv : (Int16.ofInt v).toInt32 = i32 v) (kk : zWo Y p l e R s m args below meth c nl k n kq σ lv (.int (i32 v) :: rest) (pc + 3) (o)) : zWo Y p l e R s m args below meth c nl k n kq σ lv (rest) pc (o) := by
  intro r hr H locs ls hH hS hl
  exact lv_sipush cx.1 cx.2.1 hdg hv (kk r hr H locs ls hH hS hl)
theorem zr_ldc (cx : zCx Y p s m args meth c own cc nl ret) {v : Int} {i : Nat} {w : Int32} (hdg : decode cc pc = .ok (.ldc i, 2)) (hc : Cond.constant own i w ∈ zG) (hw : w = i32 v) (kk : zWo Y p l e R s m args below meth c nl k n kq σ lv (.int (i32 v) :: rest) (pc + 2) (o)) : zWo Y p l e R s m args below meth c nl k n kq σ lv (rest) pc (o) := by
  intro r hr H locs ls hH hS hl
  obtain ⟨hx, hb, hml, hr0, hlk, hown, hts, hok, hz⟩ := id cx
  subst hw
  exact lv_ldc hx hb hown (hts _ hc) hdg (kk r hr H locs ls hH hS hl)
theorem zr_ldcw (cx : zCx Y p s m args meth c own cc nl ret) {v : Int} {i : Nat} {w : Int32} (hdg : decode cc pc = .ok (.ldc_w i, 3)) (hc : Cond.constant own i w ∈ zG) (hw : w = i32 v) (kk : zWo Y p l e R s m args below meth c nl k n kq σ lv (.int (i32 v) :: rest) (pc + 3) (o)) : zWo Y p l e R s m args below meth c nl k n kq σ lv (rest) pc (o) := by
  intro r hr H locs ls hH hS hl
  obtain ⟨hx, hb, hml, hr0, hlk, hown, hts, hok, hz⟩ := id cx
  subst hw
  exact lv_ldcw hx hb hown (hts _ hc) hdg (kk r hr H locs ls hH hS hl)
theorem zr_lconst (cx : zCx Y p s m args meth c own cc nl ret) {j : Fin 2} {v : Int64} (hdg : decode cc pc = .ok (.lconst j, 1)) (hv : Int64.ofNat (j : Nat) = v) (kk : zWo Y p l e R s m args below meth c nl k n kq σ lv (.long v :: rest) (pc + 1) (o)) : zWo Y p l e R s m args below meth c nl k n kq σ lv (rest) pc (o) := by
  intro r hr H locs ls hH hS hl
  exact lv_lconst cx.1 cx.2.1 hdg hv (kk r hr H locs ls hH hS hl)
theorem zr_ldc2 (cx : zCx Y p s m args meth c own cc nl ret) {i : Nat} {v : Int64} (hdg : decode cc pc = .ok (.ldc2_w i, 3)) (hc : Cond.constantLong own i v ∈ zG) (kk : zWo Y p l e R s m args below meth c nl k n kq σ lv (.long v :: rest) (pc + 3) (o)) : zWo Y p l e R s m args below meth c nl k n kq σ lv (rest) pc (o) := by
  intro r hr H locs ls hH hS hl
  obtain ⟨hx, hb, hml, hr0, hlk, hown, hts, hok, hz⟩ := id cx
  exact lv_ldc2 hx hb hown (hts _ hc) hdg (kk r hr H locs ls hH hS hl)
theorem zr_ldc2d (cx : zCx Y p s m args meth c own cc nl ret) {i : Nat} {v : UInt64} (hdg : decode cc pc = .ok (.ldc2_w i, 3)) (hc : Cond.constantDouble own i v ∈ zG) (kk : zWo Y p l e R s m args below meth c nl k n kq σ lv (.double v :: rest) (pc + 3) (o)) : zWo Y p l e R s m args below meth c nl k n kq σ lv (rest) pc (o) := by
  intro r hr H locs ls hH hS hl
  obtain ⟨hx, hb, hml, hr0, hlk, hown, hts, hok, hz⟩ := id cx
  exact lv_ldc2d hx hb hown (hts _ hc) hdg (kk r hr H locs ls hH hS hl)
theorem zr_dconst0 (cx : zCx Y p s m args meth c own cc nl ret) (hdg : decode cc pc = .ok (.dconst 0, 1)) (kk : zWo Y p l e R s m args below meth c nl k n kq σ lv (.double FP.dconst0 :: rest) (pc + 1) (o)) : zWo Y p l e R s m args below meth c nl k n kq σ lv (rest) pc (o) := by
  intro r hr H locs ls hH hS hl
  exact lv_dconst0 cx.1 cx.2.1 hdg (kk r hr H locs ls hH hS hl)
theorem zr_dconst1 (cx : zCx Y p s m args meth c own cc nl ret) (hdg : decode cc pc = .ok (.dconst 1, 1)) (kk : zWo Y p l e R s m args below meth c nl k n kq σ lv (.double FP.dconst1 :: rest) (pc + 1) (o)) : zWo Y p l e R s m args below meth c nl k n kq σ lv (rest) pc (o) := by
  intro r hr H locs ls hH hS hl
  exact lv_dconst1 cx.1 cx.2.1 hdg (kk r hr H locs ls hH hS hl)
theorem zr_iload_n (cx : zCx Y p s m args meth c own cc nl ret) (pl : Nat) {j : Fin 4} {i : Nat} {x : Int} (hdg : decode cc pc = .ok (.iload_n j, 1)) (hi : (j : Nat) = i) (hp : lv[pl]? = some (i, .int (i32 x))) (kk : zWo Y p l e R s m args below meth c nl k n kq σ lv (.int (i32 x) :: rest) (pc + 1) (o)) : zWo Y p l e R s m args below meth c nl k n kq σ lv (rest) pc (o) := by
  intro r hr H locs ls hH hS hl
  exact lv_iload_n cx.1 cx.2.1 hdg hi (lv_at hl pl hp) (kk r hr H locs ls hH hS hl)
theorem zr_iload (cx : zCx Y p s m args meth c own cc nl ret) (pl : Nat) {i : Nat} {x : Int} (hdg : decode cc pc = .ok (.iload i, 2)) (hp : lv[pl]? = some (i, .int (i32 x))) (kk : zWo Y p l e R s m args below meth c nl k n kq σ lv (.int (i32 x) :: rest) (pc + 2) (o)) : zWo Y p l e R s m args below meth c nl k n kq σ lv (rest) pc (o) := by
  intro r hr H locs ls hH hS hl
  exact lv_iload cx.1 cx.2.1 hdg (lv_at hl pl hp) (kk r hr H locs ls hH hS hl)
theorem zr_istore_n (cx : zCx Y p s m args meth c own cc nl ret) {j : Fin 4} {i : Nat} {x : Int} (hdg : decode cc pc = .ok (.istore_n j, 1)) (hi : (j : Nat) = i) (hn : i < nl) (hl' : (i, .int (i32 x)) :: lv.filter (fun q => !(q.1 == i) && !(q.1 + 1 == i && q.2.category == 2)) = lv') (kk : zWo Y p l e R s m args below meth c nl k n kq σ lv' (rest) (pc + 1) (o)) : zWo Y p l e R s m args below meth c nl k n kq σ lv (.int (i32 x) :: rest) pc (o) := by
  intro r hr H locs ls hH hS hl
  exact lv_istore_n cx.1 cx.2.1 hdg hi hl hn hl' (fun ls hl => (kk r hr H locs ls hH hS hl))
theorem zr_istore (cx : zCx Y p s m args meth c own cc nl ret) {i : Nat} {x : Int} (hdg : decode cc pc = .ok (.istore i, 2)) (hn : i < nl) (hl' : (i, .int (i32 x)) :: lv.filter (fun q => !(q.1 == i) && !(q.1 + 1 == i && q.2.category == 2)) = lv') (kk : zWo Y p l e R s m args below meth c nl k n kq σ lv' (rest) (pc + 2) (o)) : zWo Y p l e R s m args below meth c nl k n kq σ lv (.int (i32 x) :: rest) pc (o) := by
  intro r hr H locs ls hH hS hl
  exact lv_istore cx.1 cx.2.1 hdg hl hn hl' (fun ls hl => (kk r hr H locs ls hH hS hl))
theorem zr_lload_n (cx : zCx Y p s m args meth c own cc nl ret) (pl : Nat) {j : Fin 4} {i : Nat} {x : Int64} (hdg : decode cc pc = .ok (.lload_n j, 1)) (hi : (j : Nat) = i) (hp : lv[pl]? = some (i, .long x)) (kk : zWo Y p l e R s m args below meth c nl k n kq σ lv (.long x :: rest) (pc + 1) (o)) : zWo Y p l e R s m args below meth c nl k n kq σ lv (rest) pc (o) := by
  intro r hr H locs ls hH hS hl
  exact lv_lload_n cx.1 cx.2.1 hdg hi (lv_at hl pl hp) (kk r hr H locs ls hH hS hl)
theorem zr_lload (cx : zCx Y p s m args meth c own cc nl ret) (pl : Nat) {i : Nat} {x : Int64} (hdg : decode cc pc = .ok (.lload i, 2)) (hp : lv[pl]? = some (i, .long x)) (kk : zWo Y p l e R s m args below meth c nl k n kq σ lv (.long x :: rest) (pc + 2) (o)) : zWo Y p l e R s m args below meth c nl k n kq σ lv (rest) pc (o) := by
  intro r hr H locs ls hH hS hl
  exact lv_lload cx.1 cx.2.1 hdg (lv_at hl pl hp) (kk r hr H locs ls hH hS hl)
theorem zr_lstore_n (cx : zCx Y p s m args meth c own cc nl ret) {j : Fin 4} {i : Nat} {x : Int64} (hdg : decode cc pc = .ok (.lstore_n j, 1)) (hi : (j : Nat) = i) (hn : i + 1 < nl) (hl' : (i, .long x) :: lv.filter (fun q => !(q.1 == i) && (!(q.1 == i + 1) && !(q.1 + 1 == i && q.2.category == 2))) = lv') (kk : zWo Y p l e R s m args below meth c nl k n kq σ lv' (rest) (pc + 1) (o)) : zWo Y p l e R s m args below meth c nl k n kq σ lv (.long x :: rest) pc (o) := by
  intro r hr H locs ls hH hS hl
  exact lv_lstore_n cx.1 cx.2.1 hdg hi hl hn hl' (fun ls hl => (kk r hr H locs ls hH hS hl))
theorem zr_lstore (cx : zCx Y p s m args meth c own cc nl ret) {i : Nat} {x : Int64} (hdg : decode cc pc = .ok (.lstore i, 2)) (hn : i + 1 < nl) (hl' : (i, .long x) :: lv.filter (fun q => !(q.1 == i) && (!(q.1 == i + 1) && !(q.1 + 1 == i && q.2.category == 2))) = lv') (kk : zWo Y p l e R s m args below meth c nl k n kq σ lv' (rest) (pc + 2) (o)) : zWo Y p l e R s m args below meth c nl k n kq σ lv (.long x :: rest) pc (o) := by
  intro r hr H locs ls hH hS hl
  exact lv_lstore cx.1 cx.2.1 hdg hl hn hl' (fun ls hl => (kk r hr H locs ls hH hS hl))
theorem zr_dload_n (cx : zCx Y p s m args meth c own cc nl ret) (pl : Nat) {j : Fin 4} {i : Nat} {x : UInt64} (hdg : decode cc pc = .ok (.dload_n j, 1)) (hi : (j : Nat) = i) (hp : lv[pl]? = some (i, .double x)) (kk : zWo Y p l e R s m args below meth c nl k n kq σ lv (.double x :: rest) (pc + 1) (o)) : zWo Y p l e R s m args below meth c nl k n kq σ lv (rest) pc (o) := by
  intro r hr H locs ls hH hS hl
  exact lv_dload_n cx.1 cx.2.1 hdg hi (lv_at hl pl hp) (kk r hr H locs ls hH hS hl)
theorem zr_dload (cx : zCx Y p s m args meth c own cc nl ret) (pl : Nat) {i : Nat} {x : UInt64} (hdg : decode cc pc = .ok (.dload i, 2)) (hp : lv[pl]? = some (i, .double x)) (kk : zWo Y p l e R s m args below meth c nl k n kq σ lv (.double x :: rest) (pc + 2) (o)) : zWo Y p l e R s m args below meth c nl k n kq σ lv (rest) pc (o) := by
  intro r hr H locs ls hH hS hl
  exact lv_dload cx.1 cx.2.1 hdg (lv_at hl pl hp) (kk r hr H locs ls hH hS hl)
theorem zr_dstore_n (cx : zCx Y p s m args meth c own cc nl ret) {j : Fin 4} {i : Nat} {x : UInt64} (hdg : decode cc pc = .ok (.dstore_n j, 1)) (hi : (j : Nat) = i) (hn : i + 1 < nl) (hl' : (i, .double x) :: lv.filter (fun q => !(q.1 == i) && (!(q.1 == i + 1) && !(q.1 + 1 == i && q.2.category == 2))) = lv') (kk : zWo Y p l e R s m args below meth c nl k n kq σ lv' (rest) (pc + 1) (o)) : zWo Y p l e R s m args below meth c nl k n kq σ lv (.double x :: rest) pc (o) := by
  intro r hr H locs ls hH hS hl
  exact lv_dstore_n cx.1 cx.2.1 hdg hi hl hn hl' (fun ls hl => (kk r hr H locs ls hH hS hl))
theorem zr_dstore (cx : zCx Y p s m args meth c own cc nl ret) {i : Nat} {x : UInt64} (hdg : decode cc pc = .ok (.dstore i, 2)) (hn : i + 1 < nl) (hl' : (i, .double x) :: lv.filter (fun q => !(q.1 == i) && (!(q.1 == i + 1) && !(q.1 + 1 == i && q.2.category == 2))) = lv') (kk : zWo Y p l e R s m args below meth c nl k n kq σ lv' (rest) (pc + 2) (o)) : zWo Y p l e R s m args below meth c nl k n kq σ lv (.double x :: rest) pc (o) := by
  intro r hr H locs ls hH hS hl
  exact lv_dstore cx.1 cx.2.1 hdg hl hn hl' (fun ls hl => (kk r hr H locs ls hH hS hl))
theorem zr_aload_n (cx : zCx Y p s m args meth c own cc nl ret) (pl : Nat) {j : Fin 4} {i : Nat} {x : Nat} (hdg : decode cc pc = .ok (.aload_n j, 1)) (hi : (j : Nat) = i) (hp : lv[pl]? = some (i, .ref x)) (kk : zWo Y p l e R s m args below meth c nl k n kq σ lv (.ref x :: rest) (pc + 1) (o)) : zWo Y p l e R s m args below meth c nl k n kq σ lv (rest) pc (o) := by
  intro r hr H locs ls hH hS hl
  exact lv_aload_n cx.1 cx.2.1 hdg hi (lv_at hl pl hp) (kk r hr H locs ls hH hS hl)
theorem zr_aload (cx : zCx Y p s m args meth c own cc nl ret) (pl : Nat) {i : Nat} {x : Nat} (hdg : decode cc pc = .ok (.aload i, 2)) (hp : lv[pl]? = some (i, .ref x)) (kk : zWo Y p l e R s m args below meth c nl k n kq σ lv (.ref x :: rest) (pc + 2) (o)) : zWo Y p l e R s m args below meth c nl k n kq σ lv (rest) pc (o) := by
  intro r hr H locs ls hH hS hl
  exact lv_aload cx.1 cx.2.1 hdg (lv_at hl pl hp) (kk r hr H locs ls hH hS hl)
theorem zr_astore_n (cx : zCx Y p s m args meth c own cc nl ret) {j : Fin 4} {i : Nat} {x : Nat} (hdg : decode cc pc = .ok (.astore_n j, 1)) (hi : (j : Nat) = i) (hn : i < nl) (hl' : (i, .ref x) :: lv.filter (fun q => !(q.1 == i) && !(q.1 + 1 == i && q.2.category == 2)) = lv') (kk : zWo Y p l e R s m args below meth c nl k n kq σ lv' (rest) (pc + 1) (o)) : zWo Y p l e R s m args below meth c nl k n kq σ lv (.ref x :: rest) pc (o) := by
  intro r hr H locs ls hH hS hl
  exact lv_astore_n cx.1 cx.2.1 hdg hi hl hn hl' (fun ls hl => (kk r hr H locs ls hH hS hl))
theorem zr_astore (cx : zCx Y p s m args meth c own cc nl ret) {i : Nat} {x : Nat} (hdg : decode cc pc = .ok (.astore i, 2)) (hn : i < nl) (hl' : (i, .ref x) :: lv.filter (fun q => !(q.1 == i) && !(q.1 + 1 == i && q.2.category == 2)) = lv') (kk : zWo Y p l e R s m args below meth c nl k n kq σ lv' (rest) (pc + 2) (o)) : zWo Y p l e R s m args below meth c nl k n kq σ lv (.ref x :: rest) pc (o) := by
  intro r hr H locs ls hH hS hl
  exact lv_astore cx.1 cx.2.1 hdg hl hn hl' (fun ls hl => (kk r hr H locs ls hH hS hl))
theorem zr_iinc (cx : zCx Y p s m args meth c own cc nl ret) (pl : Nat) {i : Nat} {v : Int} {x : Int} (hdg : decode cc pc = .ok (.iinc i v, 3)) (hp : lv[pl]? = some (i, .int (i32 x))) (hn : i < nl) (hl' : (i, Value.int (i32 (x + v))) :: lv.filter (fun q => !(q.1 == i) && !(q.1 + 1 == i && q.2.category == 2)) = lv') (kk : zWo Y p l e R s m args below meth c nl k n kq σ lv' (rest) (pc + 3) (o)) : zWo Y p l e R s m args below meth c nl k n kq σ lv (rest) pc (o) := by
  intro r hr H locs ls hH hS hl
  exact lv_iinc cx.1 cx.2.1 hdg hl (k := pl) hp (v := i32 (x + v)) (i32_add x v) hn hl' (fun ls hl => (kk r hr H locs ls hH hS hl))
theorem zr_iadd (cx : zCx Y p s m args meth c own cc nl ret) {x y : Int} (hdg : decode cc pc = .ok (.iadd, 1)) (kk : zWo Y p l e R s m args below meth c nl k n kq σ lv (.int (i32 (x + y)) :: rest) (pc + 1) (o)) : zWo Y p l e R s m args below meth c nl k n kq σ lv (.int (i32 y) :: .int (i32 x) :: rest) pc (o) := by
  intro r hr H locs ls hH hS hl
  exact lv_iadd cx.1 cx.2.1 hdg (i32_add x y ▸ (kk r hr H locs ls hH hS hl))
theorem zr_isub (cx : zCx Y p s m args meth c own cc nl ret) {x y : Int} (hdg : decode cc pc = .ok (.isub, 1)) (kk : zWo Y p l e R s m args below meth c nl k n kq σ lv (.int (i32 (x - y)) :: rest) (pc + 1) (o)) : zWo Y p l e R s m args below meth c nl k n kq σ lv (.int (i32 y) :: .int (i32 x) :: rest) pc (o) := by
  intro r hr H locs ls hH hS hl
  exact lv_isub cx.1 cx.2.1 hdg (i32_sub x y ▸ (kk r hr H locs ls hH hS hl))
theorem zr_imul (cx : zCx Y p s m args meth c own cc nl ret) {x y : Int} (hdg : decode cc pc = .ok (.imul, 1)) (kk : zWo Y p l e R s m args below meth c nl k n kq σ lv (.int (i32 (x * y)) :: rest) (pc + 1) (o)) : zWo Y p l e R s m args below meth c nl k n kq σ lv (.int (i32 y) :: .int (i32 x) :: rest) pc (o) := by
  intro r hr H locs ls hH hS hl
  exact lv_imul cx.1 cx.2.1 hdg (i32_mul x y ▸ (kk r hr H locs ls hH hS hl))
theorem zr_idiv (cx : zCx Y p s m args meth c own cc nl ret) {x y : Int} (h0 : ¬ i32 y = 0) (hdg : decode cc pc = .ok (.idiv, 1)) (kk : zWo Y p l e R s m args below meth c nl k n kq σ lv (.int (i32 (zdv x y)) :: rest) (pc + 1) (o)) : zWo Y p l e R s m args below meth c nl k n kq σ lv (.int (i32 y) :: .int (i32 x) :: rest) pc (o) := by
  intro r hr H locs ls hH hS hl
  refine lv_idiv cx.1 cx.2.1 hdg h0 ?_
  have h := (kk r hr H locs ls hH hS hl)
  rw [zdv, i32_of] at h
  exact h
theorem zr_irem (cx : zCx Y p s m args meth c own cc nl ret) {x y : Int} (h0 : ¬ i32 y = 0) (hdg : decode cc pc = .ok (.irem, 1)) (kk : zWo Y p l e R s m args below meth c nl k n kq σ lv (.int (i32 (zmo x y)) :: rest) (pc + 1) (o)) : zWo Y p l e R s m args below meth c nl k n kq σ lv (.int (i32 y) :: .int (i32 x) :: rest) pc (o) := by
  intro r hr H locs ls hH hS hl
  refine lv_irem cx.1 cx.2.1 hdg h0 ?_
  have h := (kk r hr H locs ls hH hS hl)
  rw [zmo, i32_of] at h
  exact h
theorem zr_iand (cx : zCx Y p s m args meth c own cc nl ret) {x y : Int}  (hdg : decode cc pc = .ok (.iand, 1)) (kk : zWo Y p l e R s m args below meth c nl k n kq σ lv (.int (i32 (zan x y)) :: rest) (pc + 1) (o)) : zWo Y p l e R s m args below meth c nl k n kq σ lv (.int (i32 y) :: .int (i32 x) :: rest) pc (o) := by
  intro r hr H locs ls hH hS hl
  refine lv_iand cx.1 cx.2.1 hdg ?_
  have h := (kk r hr H locs ls hH hS hl)
  rw [zan, i32_of] at h
  exact h
theorem zr_ior (cx : zCx Y p s m args meth c own cc nl ret) {x y : Int}  (hdg : decode cc pc = .ok (.ior, 1)) (kk : zWo Y p l e R s m args below meth c nl k n kq σ lv (.int (i32 (zor x y)) :: rest) (pc + 1) (o)) : zWo Y p l e R s m args below meth c nl k n kq σ lv (.int (i32 y) :: .int (i32 x) :: rest) pc (o) := by
  intro r hr H locs ls hH hS hl
  refine lv_ior cx.1 cx.2.1 hdg ?_
  have h := (kk r hr H locs ls hH hS hl)
  rw [zor, i32_of] at h
  exact h
theorem zr_ishl (cx : zCx Y p s m args meth c own cc nl ret) {x y : Int}  (hdg : decode cc pc = .ok (.ishl, 1)) (kk : zWo Y p l e R s m args below meth c nl k n kq σ lv (.int (i32 (zsl x y)) :: rest) (pc + 1) (o)) : zWo Y p l e R s m args below meth c nl k n kq σ lv (.int (i32 y) :: .int (i32 x) :: rest) pc (o) := by
  intro r hr H locs ls hH hS hl
  refine lv_ishl cx.1 cx.2.1 hdg ?_
  have h := (kk r hr H locs ls hH hS hl)
  rw [zsl, i32_of] at h
  exact h
theorem zr_ishr (cx : zCx Y p s m args meth c own cc nl ret) {x y : Int}  (hdg : decode cc pc = .ok (.ishr, 1)) (kk : zWo Y p l e R s m args below meth c nl k n kq σ lv (.int (i32 (zsr x y)) :: rest) (pc + 1) (o)) : zWo Y p l e R s m args below meth c nl k n kq σ lv (.int (i32 y) :: .int (i32 x) :: rest) pc (o) := by
  intro r hr H locs ls hH hS hl
  refine lv_ishr cx.1 cx.2.1 hdg ?_
  have h := (kk r hr H locs ls hH hS hl)
  rw [zsr, i32_of] at h
  exact h
theorem zr_ladd (cx : zCx Y p s m args meth c own cc nl ret) {x y : Int64} (hdg : decode cc pc = .ok (.ladd, 1)) (kk : zWo Y p l e R s m args below meth c nl k n kq σ lv (.long (x + y) :: rest) (pc + 1) (o)) : zWo Y p l e R s m args below meth c nl k n kq σ lv (.long y :: .long x :: rest) pc (o) := by
  intro r hr H locs ls hH hS hl
  exact lv_ladd cx.1 cx.2.1 hdg (kk r hr H locs ls hH hS hl)
theorem zr_lmul (cx : zCx Y p s m args meth c own cc nl ret) {x y : Int64} (hdg : decode cc pc = .ok (.lmul, 1)) (kk : zWo Y p l e R s m args below meth c nl k n kq σ lv (.long (x * y) :: rest) (pc + 1) (o)) : zWo Y p l e R s m args below meth c nl k n kq σ lv (.long y :: .long x :: rest) pc (o) := by
  intro r hr H locs ls hH hS hl
  exact lv_lmul cx.1 cx.2.1 hdg (kk r hr H locs ls hH hS hl)
theorem zr_lsub (cx : zCx Y p s m args meth c own cc nl ret) {x y : Int64} (hdg : decode cc pc = .ok (.lsub, 1)) (kk : zWo Y p l e R s m args below meth c nl k n kq σ lv (.long (x - y) :: rest) (pc + 1) (o)) : zWo Y p l e R s m args below meth c nl k n kq σ lv (.long y :: .long x :: rest) pc (o) := by
  intro r hr H locs ls hH hS hl
  exact lv_lsub cx.1 cx.2.1 hdg (kk r hr H locs ls hH hS hl)
theorem zr_lshl (cx : zCx Y p s m args meth c own cc nl ret) {x : Int64} {y : Int} (hdg : decode cc pc = .ok (.lshl, 1)) (kk : zWo Y p l e R s m args below meth c nl k n kq σ lv (.long (x <<< ((i32 y).toInt64 &&& 63)) :: rest) (pc + 1) (o)) : zWo Y p l e R s m args below meth c nl k n kq σ lv (.int (i32 y) :: .long x :: rest) pc (o) := by
  intro r hr H locs ls hH hS hl
  exact lv_lshl cx.1 cx.2.1 hdg rfl (kk r hr H locs ls hH hS hl)
theorem zr_i2l (cx : zCx Y p s m args meth c own cc nl ret) {x : Int} (hdg : decode cc pc = .ok (.i2l, 1)) (kk : zWo Y p l e R s m args below meth c nl k n kq σ lv (.long (i32 x).toInt64 :: rest) (pc + 1) (o)) : zWo Y p l e R s m args below meth c nl k n kq σ lv (.int (i32 x) :: rest) pc (o) := by
  intro r hr H locs ls hH hS hl
  exact lv_i2l cx.1 cx.2.1 hdg rfl (kk r hr H locs ls hH hS hl)
theorem zr_lcmp (cx : zCx Y p s m args meth c own cc nl ret) {x y : Int64} (hdg : decode cc pc = .ok (.lcmp, 1)) (kk : zWo Y p l e R s m args below meth c nl k n kq σ lv (.int (i32 (zlc x y)) :: rest) (pc + 1) (o)) : zWo Y p l e R s m args below meth c nl k n kq σ lv (.long y :: .long x :: rest) pc (o) := by
  intro r hr H locs ls hH hS hl
  refine W.lcmp cx.1 cx.2.1 hdg ?_
  have h := (kk r hr H locs ls hH hS hl)
  rw [zlc, i32_of] at h
  exact h
theorem zr_dcmp (cx : zCx Y p s m args meth c own cc nl ret) {x y : UInt64} {op : CmpOp} (hdg : decode cc pc = .ok (.dcmp op, 1)) (kk : zWo Y p l e R s m args below meth c nl k n kq σ lv (.int (i32 (zdc x y op)) :: rest) (pc + 1) (o)) : zWo Y p l e R s m args below meth c nl k n kq σ lv (.double y :: .double x :: rest) pc (o) := by
  intro r hr H locs ls hH hS hl
  refine lv_dcmp cx.1 cx.2.1 hdg ?_
  have h := (kk r hr H locs ls hH hS hl)
  rw [zdc, i32_of] at h
  exact h
theorem zr_i2d (cx : zCx Y p s m args meth c own cc nl ret) {x : Int} (hdg : decode cc pc = .ok (.i2d, 1)) (kk : zWo Y p l e R s m args below meth c nl k n kq σ lv (.double (FP.i2d (i32 x)) :: rest) (pc + 1) (o)) : zWo Y p l e R s m args below meth c nl k n kq σ lv (.int (i32 x) :: rest) pc (o) := by
  intro r hr H locs ls hH hS hl
  exact lv_i2d cx.1 cx.2.1 hdg (kk r hr H locs ls hH hS hl)
theorem zr_d2l (cx : zCx Y p s m args meth c own cc nl ret) {x : UInt64} (hdg : decode cc pc = .ok (.d2l, 1)) (kk : zWo Y p l e R s m args below meth c nl k n kq σ lv (.long (FP.d2l x) :: rest) (pc + 1) (o)) : zWo Y p l e R s m args below meth c nl k n kq σ lv (.double x :: rest) pc (o) := by
  intro r hr H locs ls hH hS hl
  exact lv_d2l cx.1 cx.2.1 hdg (kk r hr H locs ls hH hS hl)
theorem zr_dmul (cx : zCx Y p s m args meth c own cc nl ret) {x y : UInt64} (hdg : decode cc pc = .ok (.dmul, 1)) (kk : zWo Y p l e R s m args below meth c nl k n kq σ lv (.double (FP.dmul x y) :: rest) (pc + 1) (o)) : zWo Y p l e R s m args below meth c nl k n kq σ lv (.double y :: .double x :: rest) pc ((zck (znb (FP.dmul x y) = true) o)) := by
  intro r hr H locs ls hH hS hl
  obtain ⟨h, hr⟩ := zck_some hr
  exact lv_dmul cx.1 cx.2.1 hdg (znb_n h) (kk r hr H locs ls hH hS hl)
theorem zr_ddiv (cx : zCx Y p s m args meth c own cc nl ret) {x y : UInt64} (hdg : decode cc pc = .ok (.ddiv, 1)) (kk : zWo Y p l e R s m args below meth c nl k n kq σ lv (.double (FP.ddiv x y) :: rest) (pc + 1) (o)) : zWo Y p l e R s m args below meth c nl k n kq σ lv (.double y :: .double x :: rest) pc ((zck (znb (FP.ddiv x y) = true) o)) := by
  intro r hr H locs ls hH hS hl
  obtain ⟨h, hr⟩ := zck_some hr
  exact lv_ddiv cx.1 cx.2.1 hdg (znb_n h) (kk r hr H locs ls hH hS hl)
theorem zr_dsub (cx : zCx Y p s m args meth c own cc nl ret) {x y : UInt64} (hdg : decode cc pc = .ok (.dsub, 1)) (kk : zWo Y p l e R s m args below meth c nl k n kq σ lv (.double (FP.dsub x y) :: rest) (pc + 1) (o)) : zWo Y p l e R s m args below meth c nl k n kq σ lv (.double y :: .double x :: rest) pc ((zck (znb (FP.dsub x y) = true) o)) := by
  intro r hr H locs ls hH hS hl
  obtain ⟨h, hr⟩ := zck_some hr
  exact lv_dsub cx.1 cx.2.1 hdg (znb_n h) (kk r hr H locs ls hH hS hl)
theorem zr_dup (cx : zCx Y p s m args meth c own cc nl ret) {a : Value} (hdg : decode cc pc = .ok (.dup, 1)) (ha : a.category = 1) (kk : zWo Y p l e R s m args below meth c nl k n kq σ lv (a :: a :: rest) (pc + 1) (o)) : zWo Y p l e R s m args below meth c nl k n kq σ lv (a :: rest) pc (o) := by
  intro r hr H locs ls hH hS hl
  exact lv_dup cx.1 cx.2.1 hdg ha (kk r hr H locs ls hH hS hl)
theorem zr_dup2 (cx : zCx Y p s m args meth c own cc nl ret) {a b : Value} (hdg : decode cc pc = .ok (.dup2, 1)) (ha : a.category = 1) (hb : b.category = 1) (kk : zWo Y p l e R s m args below meth c nl k n kq σ lv (a :: b :: a :: b :: rest) (pc + 1) (o)) : zWo Y p l e R s m args below meth c nl k n kq σ lv (a :: b :: rest) pc (o) := by
  intro r hr H locs ls hH hS hl
  exact lv_dup2_11 cx.1 cx.2.1 hdg ha hb (kk r hr H locs ls hH hS hl)
theorem zr_pop (cx : zCx Y p s m args meth c own cc nl ret) {a : Value} (hdg : decode cc pc = .ok (.pop, 1)) (ha : a.category = 1) (kk : zWo Y p l e R s m args below meth c nl k n kq σ lv (rest) (pc + 1) (o)) : zWo Y p l e R s m args below meth c nl k n kq σ lv (a :: rest) pc (o) := by
  intro r hr H locs ls hH hS hl
  exact lv_pop cx.1 cx.2.1 hdg ha (kk r hr H locs ls hH hS hl)
theorem zr_goto (cx : zCx Y p s m args meth c own cc nl ret) (hdg : decode cc pc = .ok (.goto off, 3)) (ht : (pc : Int) + off = (tgt : Int)) (kk : zWo Y p l e R s m args below meth c nl k n kq σ lv (rest) tgt (o)) : zWo Y p l e R s m args below meth c nl k n kq σ lv (rest) pc (o) := by
  intro r hr H locs ls hH hS hl
  exact lv_goto cx.1 cx.2.1 hdg ht (kk r hr H locs ls hH hS hl)
theorem zr_gotoS (cx : zCx Y p s m args meth c own cc nl ret) {st0 : List Value} (hdg : decode cc pc = .ok (.goto off, 3)) (ht : (pc : Int) + off = (tgt : Int)) (kk : zWo Y p l e R s m args below meth c nl k n kq σ lv (st0) tgt (o)) : zWo Y p l e R s m args below meth c nl k n kq σ lv (st0) pc (o) := by
  intro r hr H locs ls hH hS hl
  exact lv_goto cx.1 cx.2.1 hdg ht (kk r hr H locs ls hH hS hl)
theorem zr_if_eq (cx : zCx Y p s m args meth c own cc nl ret) {x : Int} (hdg : decode cc pc = .ok (.ifCond .eq off, 3)) (ht : (pc : Int) + off = (tgt : Int)) (kt : zWo Y p l e R s m args below meth c nl k n kq σ lv (rest) tgt (ot)) (kf : zWo Y p l e R s m args below meth c nl k n kq σ lv (rest) (pc + 3) (oe)) : zWo Y p l e R s m args below meth c nl k n kq σ lv (.int (i32 x) :: rest) pc ((if i32 x = i32 0 then ot else oe)) := by
  intro r hr H locs ls hH hS hl
  exact lv_if_eq cx.1 cx.2.1 hdg ht (fun h => kt r ((hr.symm.trans (if_pos h)).symm) H locs ls hH hS hl) (fun h => kf r ((hr.symm.trans (if_neg h)).symm) H locs ls hH hS hl)
theorem zr_icmp_eq (cx : zCx Y p s m args meth c own cc nl ret) {x y : Int} (hdg : decode cc pc = .ok (.if_icmp .eq off, 3)) (ht : (pc : Int) + off = (tgt : Int)) (kt : zWo Y p l e R s m args below meth c nl k n kq σ lv (rest) tgt (ot)) (kf : zWo Y p l e R s m args below meth c nl k n kq σ lv (rest) (pc + 3) (oe)) : zWo Y p l e R s m args below meth c nl k n kq σ lv (.int (i32 y) :: .int (i32 x) :: rest) pc ((if i32 x = i32 y then ot else oe)) := by
  intro r hr H locs ls hH hS hl
  exact lv_icmp_eq cx.1 cx.2.1 hdg ht (fun h => kt r ((hr.symm.trans (if_pos h)).symm) H locs ls hH hS hl) (fun h => kf r ((hr.symm.trans (if_neg h)).symm) H locs ls hH hS hl)
theorem zr_if_ne (cx : zCx Y p s m args meth c own cc nl ret) {x : Int} (hdg : decode cc pc = .ok (.ifCond .ne off, 3)) (ht : (pc : Int) + off = (tgt : Int)) (kt : zWo Y p l e R s m args below meth c nl k n kq σ lv (rest) tgt (ot)) (kf : zWo Y p l e R s m args below meth c nl k n kq σ lv (rest) (pc + 3) (oe)) : zWo Y p l e R s m args below meth c nl k n kq σ lv (.int (i32 x) :: rest) pc ((if i32 x = i32 0 then oe else ot)) := by
  intro r hr H locs ls hH hS hl
  exact lv_if_ne cx.1 cx.2.1 hdg ht (fun h => kt r ((hr.symm.trans (if_neg h)).symm) H locs ls hH hS hl) (fun h => kf r ((hr.symm.trans (if_pos h)).symm) H locs ls hH hS hl)
theorem zr_icmp_ne (cx : zCx Y p s m args meth c own cc nl ret) {x y : Int} (hdg : decode cc pc = .ok (.if_icmp .ne off, 3)) (ht : (pc : Int) + off = (tgt : Int)) (kt : zWo Y p l e R s m args below meth c nl k n kq σ lv (rest) tgt (ot)) (kf : zWo Y p l e R s m args below meth c nl k n kq σ lv (rest) (pc + 3) (oe)) : zWo Y p l e R s m args below meth c nl k n kq σ lv (.int (i32 y) :: .int (i32 x) :: rest) pc ((if i32 x = i32 y then oe else ot)) := by
  intro r hr H locs ls hH hS hl
  exact lv_icmp_ne cx.1 cx.2.1 hdg ht (fun h => kt r ((hr.symm.trans (if_neg h)).symm) H locs ls hH hS hl) (fun h => kf r ((hr.symm.trans (if_pos h)).symm) H locs ls hH hS hl)
theorem zr_if_lt (cx : zCx Y p s m args meth c own cc nl ret) {x : Int} (hdg : decode cc pc = .ok (.ifCond .lt off, 3)) (ht : (pc : Int) + off = (tgt : Int)) (kt : zWo Y p l e R s m args below meth c nl k n kq σ lv (rest) tgt (ot)) (kf : zWo Y p l e R s m args below meth c nl k n kq σ lv (rest) (pc + 3) (oe)) : zWo Y p l e R s m args below meth c nl k n kq σ lv (.int (i32 x) :: rest) pc ((if i32 x < i32 0 then ot else oe)) := by
  intro r hr H locs ls hH hS hl
  exact lv_if_lt cx.1 cx.2.1 hdg ht (fun h => kt r ((hr.symm.trans (if_pos h)).symm) H locs ls hH hS hl) (fun h => kf r ((hr.symm.trans (if_neg h)).symm) H locs ls hH hS hl)
theorem zr_icmp_lt (cx : zCx Y p s m args meth c own cc nl ret) {x y : Int} (hdg : decode cc pc = .ok (.if_icmp .lt off, 3)) (ht : (pc : Int) + off = (tgt : Int)) (kt : zWo Y p l e R s m args below meth c nl k n kq σ lv (rest) tgt (ot)) (kf : zWo Y p l e R s m args below meth c nl k n kq σ lv (rest) (pc + 3) (oe)) : zWo Y p l e R s m args below meth c nl k n kq σ lv (.int (i32 y) :: .int (i32 x) :: rest) pc ((if i32 x < i32 y then ot else oe)) := by
  intro r hr H locs ls hH hS hl
  exact lv_icmp_lt cx.1 cx.2.1 hdg ht (fun h => kt r ((hr.symm.trans (if_pos h)).symm) H locs ls hH hS hl) (fun h => kf r ((hr.symm.trans (if_neg h)).symm) H locs ls hH hS hl)
theorem zr_if_ge (cx : zCx Y p s m args meth c own cc nl ret) {x : Int} (hdg : decode cc pc = .ok (.ifCond .ge off, 3)) (ht : (pc : Int) + off = (tgt : Int)) (kt : zWo Y p l e R s m args below meth c nl k n kq σ lv (rest) tgt (ot)) (kf : zWo Y p l e R s m args below meth c nl k n kq σ lv (rest) (pc + 3) (oe)) : zWo Y p l e R s m args below meth c nl k n kq σ lv (.int (i32 x) :: rest) pc ((if i32 x < i32 0 then oe else ot)) := by
  intro r hr H locs ls hH hS hl
  exact lv_if_ge cx.1 cx.2.1 hdg ht (fun h => kt r ((hr.symm.trans (if_neg (Int32.not_lt.mpr h))).symm) H locs ls hH hS hl) (fun h => kf r ((hr.symm.trans (if_pos (Int32.not_le.mp h))).symm) H locs ls hH hS hl)
theorem zr_icmp_ge (cx : zCx Y p s m args meth c own cc nl ret) {x y : Int} (hdg : decode cc pc = .ok (.if_icmp .ge off, 3)) (ht : (pc : Int) + off = (tgt : Int)) (kt : zWo Y p l e R s m args below meth c nl k n kq σ lv (rest) tgt (ot)) (kf : zWo Y p l e R s m args below meth c nl k n kq σ lv (rest) (pc + 3) (oe)) : zWo Y p l e R s m args below meth c nl k n kq σ lv (.int (i32 y) :: .int (i32 x) :: rest) pc ((if i32 x < i32 y then oe else ot)) := by
  intro r hr H locs ls hH hS hl
  exact lv_icmp_ge cx.1 cx.2.1 hdg ht (fun h => kt r ((hr.symm.trans (if_neg (Int32.not_lt.mpr h))).symm) H locs ls hH hS hl) (fun h => kf r ((hr.symm.trans (if_pos (Int32.not_le.mp h))).symm) H locs ls hH hS hl)
theorem zr_if_gt (cx : zCx Y p s m args meth c own cc nl ret) {x : Int} (hdg : decode cc pc = .ok (.ifCond .gt off, 3)) (ht : (pc : Int) + off = (tgt : Int)) (kt : zWo Y p l e R s m args below meth c nl k n kq σ lv (rest) tgt (ot)) (kf : zWo Y p l e R s m args below meth c nl k n kq σ lv (rest) (pc + 3) (oe)) : zWo Y p l e R s m args below meth c nl k n kq σ lv (.int (i32 x) :: rest) pc ((if i32 0 < i32 x then ot else oe)) := by
  intro r hr H locs ls hH hS hl
  exact lv_if_gt cx.1 cx.2.1 hdg ht (fun h => kt r ((hr.symm.trans (if_pos h)).symm) H locs ls hH hS hl) (fun h => kf r ((hr.symm.trans (if_neg h)).symm) H locs ls hH hS hl)
theorem zr_icmp_gt (cx : zCx Y p s m args meth c own cc nl ret) {x y : Int} (hdg : decode cc pc = .ok (.if_icmp .gt off, 3)) (ht : (pc : Int) + off = (tgt : Int)) (kt : zWo Y p l e R s m args below meth c nl k n kq σ lv (rest) tgt (ot)) (kf : zWo Y p l e R s m args below meth c nl k n kq σ lv (rest) (pc + 3) (oe)) : zWo Y p l e R s m args below meth c nl k n kq σ lv (.int (i32 y) :: .int (i32 x) :: rest) pc ((if i32 y < i32 x then ot else oe)) := by
  intro r hr H locs ls hH hS hl
  exact lv_icmp_gt cx.1 cx.2.1 hdg ht (fun h => kt r ((hr.symm.trans (if_pos h)).symm) H locs ls hH hS hl) (fun h => kf r ((hr.symm.trans (if_neg h)).symm) H locs ls hH hS hl)
theorem zr_if_le (cx : zCx Y p s m args meth c own cc nl ret) {x : Int} (hdg : decode cc pc = .ok (.ifCond .le off, 3)) (ht : (pc : Int) + off = (tgt : Int)) (kt : zWo Y p l e R s m args below meth c nl k n kq σ lv (rest) tgt (ot)) (kf : zWo Y p l e R s m args below meth c nl k n kq σ lv (rest) (pc + 3) (oe)) : zWo Y p l e R s m args below meth c nl k n kq σ lv (.int (i32 x) :: rest) pc ((if i32 0 < i32 x then oe else ot)) := by
  intro r hr H locs ls hH hS hl
  exact lv_if_le cx.1 cx.2.1 hdg ht (fun h => kt r ((hr.symm.trans (if_neg (Int32.not_lt.mpr h))).symm) H locs ls hH hS hl) (fun h => kf r ((hr.symm.trans (if_pos (Int32.not_le.mp h))).symm) H locs ls hH hS hl)
theorem zr_icmp_le (cx : zCx Y p s m args meth c own cc nl ret) {x y : Int} (hdg : decode cc pc = .ok (.if_icmp .le off, 3)) (ht : (pc : Int) + off = (tgt : Int)) (kt : zWo Y p l e R s m args below meth c nl k n kq σ lv (rest) tgt (ot)) (kf : zWo Y p l e R s m args below meth c nl k n kq σ lv (rest) (pc + 3) (oe)) : zWo Y p l e R s m args below meth c nl k n kq σ lv (.int (i32 y) :: .int (i32 x) :: rest) pc ((if i32 y < i32 x then oe else ot)) := by
  intro r hr H locs ls hH hS hl
  exact lv_icmp_le cx.1 cx.2.1 hdg ht (fun h => kt r ((hr.symm.trans (if_neg (Int32.not_lt.mpr h))).symm) H locs ls hH hS hl) (fun h => kf r ((hr.symm.trans (if_pos (Int32.not_le.mp h))).symm) H locs ls hH hS hl)
theorem zr_sub (is : List Nat) (hs : lv_pick lv is = lv') (kk : zWo Y p l e R s m args below meth c nl k n kq σ lv' (rest) pc (o)) : zWo Y p l e R s m args below meth c nl k n kq σ lv (rest) pc (o) := by
  intro r hr H locs ls hH hS hl
  exact kk r hr H locs ls hH hS (lv_sub hl is hs)
theorem zr_tabOut (cx : zCx Y p s m args meth c own cc nl ret) {x dflt lo hi : Int} {offs : Array Int} {len : Nat} (hdg : decode cc pc = .ok (.tableswitch dflt lo hi offs, len)) (h : (i32 x).toInt < lo ∨ hi < (i32 x).toInt) (ht : (pc : Int) + dflt = (tgt : Int)) (kk : zWo Y p l e R s m args below meth c nl k n kq σ lv (rest) tgt (o)) : zWo Y p l e R s m args below meth c nl k n kq σ lv (.int (i32 x) :: rest) pc (o) := by
  intro r hr H locs ls hH hS hl
  exact lv_tableOut cx.1 cx.2.1 hdg h ht (kk r hr H locs ls hH hS hl)
theorem zr_tabIn (cx : zCx Y p s m args meth c own cc nl ret) {x dflt lo hi : Int} {offs : Array Int} {len : Nat} (hdg : decode cc pc = .ok (.tableswitch dflt lo hi offs, len)) {v : Int} (hv : (i32 x).toInt = v) (h1 : lo ≤ v ∧ v ≤ hi) (ho : offs[(v - lo).toNat]? = some off) (ht : (pc : Int) + off = (tgt : Int)) (kk : zWo Y p l e R s m args below meth c nl k n kq σ lv (rest) tgt (o)) : zWo Y p l e R s m args below meth c nl k n kq σ lv (.int (i32 x) :: rest) pc (o) := by
  intro r hr H locs ls hH hS hl
  subst hv
  exact lv_tableIn cx.1 cx.2.1 hdg (Int.not_lt.mpr h1.1) (Int.not_lt.mpr h1.2) ho ht (kk r hr H locs ls hH hS hl)
theorem zr_look (cx : zCx Y p s m args meth c own cc nl ret) {x dflt : Int} {ps : Array (Int × Int)} {len : Nat} (hdg : decode cc pc = .ok (.lookupswitch dflt ps, len)) (hp : (ps.toList.zip (ps.toList.drop 1)).all (fun (a, next) => a.1 < next.1) = true) (ho : Op.lookupswitch.offset ps.toList dflt (i32 x).toInt = off) (ht : (pc : Int) + off = (tgt : Int)) (kk : zWo Y p l e R s m args below meth c nl k n kq σ lv (rest) tgt (o)) : zWo Y p l e R s m args below meth c nl k n kq σ lv (.int (i32 x) :: rest) pc (o) := by
  intro r hr H locs ls hH hS hl
  exact lv_lookup cx.1 cx.2.1 hdg hp ho ht (kk r hr H locs ls hH hS hl)
theorem zr_case {cnd : Prop} [Decidable cnd] {st0 : List Value} (kt : cnd → zWo Y p l e R s m args below meth c nl k n kq σ lv (st0) pc (ot)) (kf : ¬ cnd → zWo Y p l e R s m args below meth c nl k n kq σ lv (st0) pc (oe)) : zWo Y p l e R s m args below meth c nl k n kq σ lv (st0) pc ((if cnd then ot else oe)) := by
  intro r hr H locs ls hH hS hl
  by_cases h : cnd
  · rw [if_pos h] at hr
    exact kt h r hr H locs ls hH hS hl
  · rw [if_neg h] at hr
    exact kf h r hr H locs ls hH hS hl
end ZROWS
end
section
section ZHEAP
theorem zK_lt {c : Nat} (h : zK c ≠ 0) : c < 520 := by
  rcases Nat.lt_or_ge c 520 with q | q
  · exact q
  · refine absurd ?_ h
    unfold zK
    repeat rw [if_neg (by omega)]
/-- a fact of every cell, looked through -/
theorem zK_all {P : Nat → Prop} [DecidablePred P] (h : (List.range 520).all (fun c => decide (P c)) = true) {c : Nat} (hc : zK c ≠ 0) : P c := co_dec h (zK_lt hc)
theorem zwr_ne {Y : zLy} {σ : zSt} {c j : Nat} {v : Int} {c' : Nat} (h : c' ≠ c) (k : Nat) : zce Y (zwr σ c j v) c' k = zce Y σ c' k := by
  have e : ∀ j', (zwr σ c j v).1 c' j' = σ.1 c' j' := fun j' => if_neg (fun q => h q.1)
  have e2 : (zwr σ c j v).2 = σ.2 := rfl
  have e3 : zfs Y (zwr σ c j v) c' k = zfs Y σ c' k := by unfold zfs; simp only [e, e2]
  unfold zce
  simp only [e, e2, e3]
theorem zwl_ne {Y : zLy} {σ : zSt} {v : Int64} {c' : Nat} {k : Nat} (h : k ≠ 9) : zce Y (zwl σ 0 v) c' k = zce Y σ c' k := by
  have e3 : zfs Y (zwl σ 0 v) c' k = zfs Y σ c' k := by
    unfold zfs
    split <;> first | rfl | exact absurd rfl h
  have e4 : (fun j => (zwl σ 0 v).2.2 (j + 1)) = fun j => σ.2.2 (j + 1) := by
    funext j
    show (if j + 1 = 0 then v else σ.2.2 (j + 1)) = _
    rw [if_neg (Nat.succ_ne_zero j)]
  unfold zce
  rw [e3, e4]
  rfl
theorem zwl_ne1 {Y : zLy} {σ : zSt} {v : Int64} {c' : Nat} {k : Nat} (h : k ≤ 30) : zce Y (zwl σ 1 v) c' k = zce Y σ c' k := by
  have e3 : zfs Y (zwl σ 1 v) c' k = zfs Y σ c' k := by
    unfold zfs
    split <;> rfl
  unfold zce
  rw [e3]
  split
  · rfl
  · split
    · rfl
    · split
      · rfl
      · split
        · rfl
        · omega
theorem zws_ne {Y : zLy} {σ : zSt} {j r : Nat} {c' : Nat} {k : Nat} (h : k ≠ 30) : zce Y (zws σ j r) c' k = zce Y σ c' k := by
  have e3 : zfs Y (zws σ j r) c' k = zfs Y σ c' k := by
    unfold zfs
    split <;> rfl
  unfold zce
  rw [e3]
  split
  · rfl
  · split
    · rfl
    · split
      · rfl
      · rfl
theorem zi01 : ¬ (i32 0 < 0 ∨ 1 ≤ (i32 0).toNatClampNeg) := by decide +kernel
theorem zH_upd {Y : zLy} {σ σ' : zSt} {s : State} {H H1 : Heap} {c : Nat} (hok : zOK Y s) (hH : zH Y σ H) (hc : zK c ≠ 0) (he : va_at Y.2.1 zcl (zad Y c, zce Y σ' c (zK c)) H1) (ho : ∀ c', c' ≠ c → zK c' ≠ 0 → zce Y σ' c' (zK c') = zce Y σ c' (zK c')) (oq : ∀ q : Nat, q ≠ zad Y c → H1[q]? = H[q]?) : zH Y σ' H1 := by
  intro c' h'
  by_cases e : c' = c
  · rw [e]; exact he
  · rw [ho c' e h']
    exact (hH c' h').kept (oq _ (fun q => e (hok.2.1 c' c h' hc q)))
theorem zce_o {Y : zLy} {σ : zSt} {c k : Nat} (h : k < 10) : zce Y σ c k = .inr (k - 1, zfs Y σ c k) := by unfold zce; rw [if_pos h]
theorem zce_i {Y : zLy} {σ : zSt} {c k : Nat} (h : 10 ≤ k ∧ k < 20) : zce Y σ c k = .inl (zcA Y 0, zlen k, .inl (fun j => i32 (σ.1 c j))) := by unfold zce; rw [if_neg (by omega), if_pos h.2]
theorem zce_b {Y : zLy} {σ : zSt} {c k : Nat} (h : 20 ≤ k ∧ k < 30) : zce Y σ c k = .inl (zcA Y 1, zlen k, .inl (fun j => i32 (σ.1 c j))) := by unfold zce; rw [if_neg (by omega), if_neg (by omega), if_pos h.2]
theorem zce_q {Y : zLy} {σ : zSt} {c : Nat} : zce Y σ c 30 = .inl (zcA Y 3, 6, .inr (.inr (.inr (.inr (fun j => some (zad Y (σ.2.1 j))))))) := rfl
theorem zce_l {Y : zLy} {σ : zSt} {c : Nat} : zce Y σ c 31 = .inl (zcA Y 2, 1, .inr (.inl (fun j => σ.2.2 (j + 1)))) := rfl
theorem zP1 {Y : zLy} {σ : zSt} {H : Heap} {c k : Nat} (hH : zH Y σ H) (hk : zK c = k) (h0 : k ≠ 0) : va_P Y.2.1 zcl [(zad Y c, zce Y σ c k)] H := by
  subst hk
  intro j q hq
  match j, hq with
  | 0, hq => cases hq; exact hH c h0
  | j + 1, hq => cases hq
theorem zV_bool (x : Int) (h : x = 0 ∨ x = 1) : vp_nar .boolean (i32 x) = i32 x := by rcases h with rfl | rfl <;> decide +kernel
theorem zN_bool (x : Int) (h : x = 0 ∨ x = 1) : narrow .boolean (.int (i32 x)) = .int (i32 x) := by rcases h with rfl | rfl <;> decide +kernel
variable {ρ : Type} {Y : zLy} {p : Program} {l : Launch} {e : Env} {R : Room} {s : State} {m : MethodId} {args : Array Value} {below : List Frame} {meth : Method} {c : Code} {nl k n : Nat} {kq : ρ → State → Prop} {σ : zSt} {lv lv' : List (Nat × Value)} {rest : List Value} {pc tgt : Nat} {off : Int} {o ot oe : Option ρ} {own : String} {cc : ByteArray} {ret : Option FieldType}
theorem zr_get (cx : zCx Y p s m args meth c own cc nl ret) {c1 : Nat} (kd : Nat) (hk : zK c1 = kd) (h0 : kd ≠ 0 ∧ kd < 10) {C : String} {T : u_T} {N : Nat} (hc : zcl[kd - 1]? = some (C, T, N)) (hin : ∀ w ∈ u_ws C T N, w ∈ zG) (j : Nat) (hj : j < N) {index : Nat} (hlink : Cond.fieldLink own index C (T j).2.1 (T j).2.2.1 ∈ zG) (hT : (T j).1 = C) {v : Value} (hv : (zfs Y σ c1 kd)[j]? = some v) (hdg : decode cc pc = .ok (.getfield index, 3)) (kk : zWo Y p l e R s m args below meth c nl k n kq σ lv (v :: rest) (pc + 3) (o)) : zWo Y p l e R s m args below meth c nl k n kq σ lv (.ref (zad Y c1) :: rest) pc (o) := by
  obtain ⟨hx, hb, hml, hr0, hlk, hown, hts, hok, hz⟩ := id cx
  intro r hr H locs ls hH hS hl
  have hP := zP1 hH hk h0.1
  rw [zce_o h0.2] at hP
  exact va_get hx hb hts hin hown hok.1 hP 0 rfl hc j hj (hts _ hlink) (fun x h => hT ▸ h) hv hdg (kk r hr H locs ls hH hS hl)
theorem zput_at {Y : zLy} {σ σ' : zSt} {s : State} {H1 : Heap} {c1 kd j : Nat} {C : String} {T : u_T} {N : Nat} {v : Value} {own : String} (hok : zOK Y s) (hts : ∀ w ∈ zG, w.before args s = true) (hin : ∀ w ∈ u_ws C T N, w ∈ zG) (ty0 : Nat → FieldType) (hty : ∀ k, k < N → parseFieldDescriptor (T k).2.2.1 = some (ty0 k)) (hnm : ∀ a, a < N → ∀ b, b < N → a ≠ b → (T a).2.1 ≠ (T b).2.1) (hc : zcl[kd - 1]? = some (C, T, N)) (hj : j < N) {cell : Cell} (q2 : cell.cls = Y.2.1.1 (kd - 1)) (q3 : cell.vm = .none) (q4 : ∀ i, i < N → cell.slots[Y.2.1.2 (kd - 1) i]? = some (vp_V (zfs Y σ c1 kd) i)) (hl : j < (zfs Y σ c1 kd).length) (hset : zfs Y σ' c1 kd = (zfs Y σ c1 kd).set j v) (e1 : H1[zad Y c1]? = some (cell.setSlot (Y.2.1.2 (kd - 1) j) v)) (h10 : kd < 10) : va_at Y.2.1 zcl (zad Y c1, zce Y σ' c1 kd) H1 := by
  rw [zce_o h10, hset]
  exact ⟨_, hc, t_OB.to (V := updV (vp_V (zfs Y σ c1 kd)) j v) ⟨_, e1, q2, q3, t_set q4 (va_apart (own := own) hts hin ty0 hty hnm hok.1 hc) hj v⟩ (fun i _ => vp_updV_set hl v i)⟩
theorem zr_put (cx : zCx Y p s m args meth c own cc nl ret) {c1 : Nat} (kd : Nat) (hk : zK c1 = kd) (h0 : kd ≠ 0 ∧ kd < 10) {C : String} {T : u_T} {N : Nat} (hc : zcl[kd - 1]? = some (C, T, N)) (hin : ∀ w ∈ u_ws C T N, w ∈ zG) (ty0 : Nat → FieldType) (hty : ∀ k, k < N → parseFieldDescriptor (T k).2.2.1 = some (ty0 k)) (hnm : ∀ a, a < N → ∀ b, b < N → a ≠ b → (T a).2.1 ≠ (T b).2.1) (j : Nat) (hj : j < N) {index : Nat} (hlink : Cond.fieldLink own index C (T j).2.1 (T j).2.2.1 ∈ zG) (hT : (T j).1 = C) (hfin : (T j).2.2.2 = false) {x : Int} (hd : parseFieldDescriptor (T j).2.2.1 = some .int) (hl0 : j < (zfs Y σ c1 kd).length) (hset : zfs Y (zwr σ c1 j x) c1 kd = (zfs Y σ c1 kd).set j (.int (i32 x))) (hdg : decode cc pc = .ok (.putfield index, 3)) (kk : zWo Y p l e R s m args below meth c nl k n kq (zwr σ c1 j x) lv (rest) (pc + 3) (o)) : zWo Y p l e R s m args below meth c nl k n kq σ lv (.int (i32 x) :: .ref (zad Y c1) :: rest) pc (o) := by
  obtain ⟨hx, hb, hml, hr0, hlk, hown, hts, hok, hz⟩ := id cx
  intro r hr H locs ls hH hS hl
  have hP := zP1 hH hk h0.1
  rw [zce_o h0.2] at hP
  obtain ⟨r1, h1, cell, q1, q2, q3, q4⟩ := hP 0 _ rfl
  have hr1 : r1 = (C, T, N) := Option.some.inj (h1.symm.trans hc)
  subst hr1
  obtain ⟨hSl, hfc, kC, hkC, hkind⟩ := hok.1.1 (kd - 1) _ hc
  obtain ⟨cf, kf, fi, f, hi, hsl⟩ := hSl j hj
  have hlay := hts _ (hin _ (u_in_lay hj))
  unfold u_lay at hlay
  rw [if_neg (by rw [hfin]; decide)] at hlay
  have hst := (u_facts hfc hkC (u_lays hts hin hj) hi).1
  have h6 := u_store hfc hkC hkind hlay hi hd (v := .int (i32 x)) rfl rfl
  have hi2 : s.fieldFound? C (T j).2.1 (T j).2.2.1 = some (cf, kf, fi, f) := hT ▸ hi
  refine W.putK hx hb (f := f) ⟨hown, hts _ hlink, ⟨_, _, _, hi2⟩, hst⟩ (by rw [q2]; exact h6) q1 q3 (by rw [hsl]; exact k2_hasslot (q4 j hj)) rfl rfl hdg fun H' e1 e2 e3 => ?_
  rw [hsl] at e1 ⊢
  refine kk r hr H' _ ls ?_ (hS.put e2 e3 (hok.2.2 c1 (hk ▸ h0.1))) hl
  refine zH_upd hok hH (hk ▸ h0.1) ?_ (fun c' hc' hk' => zwr_ne hc' _) e3
  rw [hk]
  exact zput_at (own := own) hok hts hin ty0 hty hnm hc hj q2 q3 q4 hl0 hset e1 h0.2
theorem zr_putl (cx : zCx Y p s m args meth c own cc nl ret) {c1 : Nat} (kd : Nat) (hk : zK c1 = kd) (h0 : kd ≠ 0 ∧ kd < 10) {C : String} {T : u_T} {N : Nat} (hc : zcl[kd - 1]? = some (C, T, N)) (hin : ∀ w ∈ u_ws C T N, w ∈ zG) (ty0 : Nat → FieldType) (hty : ∀ k, k < N → parseFieldDescriptor (T k).2.2.1 = some (ty0 k)) (hnm : ∀ a, a < N → ∀ b, b < N → a ≠ b → (T a).2.1 ≠ (T b).2.1) (j : Nat) (hj : j < N) {index : Nat} (hlink : Cond.fieldLink own index C (T j).2.1 (T j).2.2.1 ∈ zG) (hT : (T j).1 = C) (hfin : (T j).2.2.2 = false) {x : Int64} (h9 : ∀ c', zK c' = 9 → c' = c1) (hd : parseFieldDescriptor (T j).2.2.1 = some .long) (hl0 : j < (zfs Y σ c1 kd).length) (hset : zfs Y (zwl σ 0 x) c1 kd = (zfs Y σ c1 kd).set j (.long x)) (hdg : decode cc pc = .ok (.putfield index, 3)) (kk : zWo Y p l e R s m args below meth c nl k n kq (zwl σ 0 x) lv (rest) (pc + 3) (o)) : zWo Y p l e R s m args below meth c nl k n kq σ lv (.long x :: .ref (zad Y c1) :: rest) pc (o) := by
  obtain ⟨hx, hb, hml, hr0, hlk, hown, hts, hok, hz⟩ := id cx
  intro r hr H locs ls hH hS hl
  have hP := zP1 hH hk h0.1
  rw [zce_o h0.2] at hP
  obtain ⟨r1, h1, cell, q1, q2, q3, q4⟩ := hP 0 _ rfl
  have hr1 : r1 = (C, T, N) := Option.some.inj (h1.symm.trans hc)
  subst hr1
  obtain ⟨hSl, hfc, kC, hkC, hkind⟩ := hok.1.1 (kd - 1) _ hc
  obtain ⟨cf, kf, fi, f, hi, hsl⟩ := hSl j hj
  have hlay := hts _ (hin _ (u_in_lay hj))
  unfold u_lay at hlay
  rw [if_neg (by rw [hfin]; decide)] at hlay
  have hst := (u_facts hfc hkC (u_lays hts hin hj) hi).1
  have h6 := u_store hfc hkC hkind hlay hi hd (v := .long x) rfl rfl
  have hi2 : s.fieldFound? C (T j).2.1 (T j).2.2.1 = some (cf, kf, fi, f) := hT ▸ hi
  refine W.putK hx hb (f := f) ⟨hown, hts _ hlink, ⟨_, _, _, hi2⟩, hst⟩ (by rw [q2]; exact h6) q1 q3 (by rw [hsl]; exact k2_hasslot (q4 j hj)) rfl rfl hdg fun H' e1 e2 e3 => ?_
  rw [hsl] at e1 ⊢
  refine kk r hr H' _ ls ?_ (hS.put e2 e3 (hok.2.2 c1 (hk ▸ h0.1))) hl
  refine zH_upd hok hH (hk ▸ h0.1) ?_ (fun c' hc' hk' => zwl_ne (fun q => hc' (h9 c' q))) e3
  rw [hk]
  exact zput_at (own := own) hok hts hin ty0 hty hnm hc hj q2 q3 q4 hl0 hset e1 h0.2
theorem zr_iald (cx : zCx Y p s m args meth c own cc nl ret) {a : Nat} (kd : Nat) (hk : zK a = kd) (h0 : 10 ≤ kd ∧ kd < 20) {L : Int} (hL : L = (zlen kd : Int)) {i : Int} (hdg : decode cc pc = .ok (.iaload, 1)) (kk : zWo Y p l e R s m args below meth c nl k n kq σ lv (.int (i32 (σ.1 a i.toNat)) :: rest) (pc + 1) (o)) : zWo Y p l e R s m args below meth c nl k n kq σ lv (.int (i32 i) :: .ref (zad Y a) :: rest) pc ((zck (0 ≤ i ∧ i < L) o)) := by
  obtain ⟨hx, hb, hml, hr0, hlk, hown, hts, hok, hz⟩ := id cx
  intro r hr H locs ls hH hS hl
  obtain ⟨h, hr⟩ := zck_some hr
  rw [hL] at h
  obtain ⟨hi, ht⟩ := i32_in h (zlen_lt kd)
  have hP := zP1 hH hk (by omega)
  rw [zce_i h0] at hP
  have h2 := kk r hr H locs ls hH hS hl
  rw [← ht] at h2
  exact va_iald hx hb hok.1 hP 0 0 rfl rfl hi hdg h2
theorem zr_bald (cx : zCx Y p s m args meth c own cc nl ret) {a : Nat} (kd : Nat) (hk : zK a = kd) (h0 : 20 ≤ kd ∧ kd < 30) {L : Int} (hL : L = (zlen kd : Int)) {i : Int} (hdg : decode cc pc = .ok (.baload, 1)) (kk : zWo Y p l e R s m args below meth c nl k n kq σ lv (.int (i32 (σ.1 a i.toNat)) :: rest) (pc + 1) (o)) : zWo Y p l e R s m args below meth c nl k n kq σ lv (.int (i32 i) :: .ref (zad Y a) :: rest) pc ((zck (0 ≤ i ∧ i < L) o)) := by
  obtain ⟨hx, hb, hml, hr0, hlk, hown, hts, hok, hz⟩ := id cx
  intro r hr H locs ls hH hS hl
  obtain ⟨h, hr⟩ := zck_some hr
  rw [hL] at h
  obtain ⟨hi, ht⟩ := i32_in h (zlen_lt kd)
  have hP := zP1 hH hk (by omega)
  rw [zce_b h0] at hP
  have h2 := kk r hr H locs ls hH hS hl
  rw [← ht] at h2
  exact va_zald hx hb hok.1 hP 0 1 rfl rfl hi hdg h2
theorem zr_iast (cx : zCx Y p s m args meth c own cc nl ret) {a : Nat} (kd : Nat) (hk : zK a = kd) (h0 : 10 ≤ kd ∧ kd < 20) {L : Int} (hL : L = (zlen kd : Int)) {i x : Int} (hdg : decode cc pc = .ok (.iastore, 1)) (kk : zWo Y p l e R s m args below meth c nl k n kq (zwr σ a i.toNat x) lv (rest) (pc + 1) (o)) : zWo Y p l e R s m args below meth c nl k n kq σ lv (.int (i32 x) :: .int (i32 i) :: .ref (zad Y a) :: rest) pc ((zck (0 ≤ i ∧ i < L) o)) := by
  obtain ⟨hx, hb, hml, hr0, hlk, hown, hts, hok, hz⟩ := id cx
  intro r hr H locs ls hH hS hl
  obtain ⟨h, hr⟩ := zck_some hr
  skip
  rw [hL] at h
  obtain ⟨hi, ht⟩ := i32_in h (zlen_lt kd)
  have hP := zP1 hH hk (by omega)
  rw [zce_i h0] at hP
  refine W.iast hx hb (hP 0 _ rfl) ((hok.1.2 0 _ rfl).1 (zlen kd) (fun j => .int (i32 (σ.1 a j)))) (fun q => by cases q) (by show ¬ (i32 i < 0 ∨ (arrV _ _ _).slots.size ≤ _); rw [arrV_size]; exact hi) rfl rfl hdg fun H1 e z oq => ?_
  refine kk r hr H1 _ ls ?_ (hS.put z oq (hok.2.2 a (by omega))) hl
  refine zH_upd hok hH (by omega) ?_ (fun c' hc' hk' => zwr_ne hc' _) oq
  rw [hk, zce_i h0]
  show H1[zad Y a]? = some (vp_cell _ _)
  rw [e]
  rw [vp_cell_i, vp_cell_i, arrV_store]
  congr 2
  funext q
  rw [ht]
  by_cases hq : q = i.toNat
  · simp [updV, hq, zwr]
  · simp [updV, hq, zwr]
theorem zr_bast (cx : zCx Y p s m args meth c own cc nl ret) {a : Nat} (kd : Nat) (hk : zK a = kd) (h0 : 20 ≤ kd ∧ kd < 30) {L : Int} (hL : L = (zlen kd : Int)) {i x : Int} (hdg : decode cc pc = .ok (.bastore, 1)) (kk : zWo Y p l e R s m args below meth c nl k n kq (zwr σ a i.toNat x) lv (rest) (pc + 1) (o)) : zWo Y p l e R s m args below meth c nl k n kq σ lv (.int (i32 x) :: .int (i32 i) :: .ref (zad Y a) :: rest) pc ((zck (0 ≤ i ∧ i < L) (zck (x = 0 ∨ x = 1) o))) := by
  obtain ⟨hx, hb, hml, hr0, hlk, hown, hts, hok, hz⟩ := id cx
  intro r hr H locs ls hH hS hl
  obtain ⟨h, hr⟩ := zck_some hr
  obtain ⟨hbx, hr⟩ := zck_some hr
  rw [hL] at h
  obtain ⟨hi, ht⟩ := i32_in h (zlen_lt kd)
  have hP := zP1 hH hk (by omega)
  rw [zce_b h0] at hP
  refine W.zast hx hb (hP 0 _ rfl) ((hok.1.2 1 _ rfl).1 (zlen kd) (fun j => .int (i32 (σ.1 a j)))) (fun q => by cases q) (by show ¬ (i32 i < 0 ∨ (arrV _ _ _).slots.size ≤ _); rw [arrV_size]; exact hi) rfl rfl hdg fun H1 e z oq => ?_
  refine kk r hr H1 _ ls ?_ (hS.put z oq (hok.2.2 a (by omega))) hl
  refine zH_upd hok hH (by omega) ?_ (fun c' hc' hk' => zwr_ne hc' _) oq
  rw [hk, zce_b h0]
  show H1[zad Y a]? = some (vp_cell _ _)
  rw [e, zN_bool x hbx]
  rw [vp_cell_i, vp_cell_i, arrV_store]
  congr 2
  funext q
  rw [ht]
  by_cases hq : q = i.toNat
  · simp [updV, hq, zwr]
  · simp [updV, hq, zwr]
theorem zr_aald (cx : zCx Y p s m args meth c own cc nl ret) {a : Nat} (hk : zK a = 30) {i : Int} (hdg : decode cc pc = .ok (.aaload, 1)) (kk : zK (σ.2.1 i.toNat) = 6 → zWo Y p l e R s m args below meth c nl k n kq σ lv (.ref (zad Y (σ.2.1 i.toNat)) :: rest) (pc + 1) (o)) : zWo Y p l e R s m args below meth c nl k n kq σ lv (.int (i32 i) :: .ref (zad Y a) :: rest) pc ((zck (0 ≤ i ∧ i < 6) (zck (zK (σ.2.1 i.toNat) = 6) o))) := by
  obtain ⟨hx, hb, hml, hr0, hlk, hown, hts, hok, hz⟩ := id cx
  intro r hr H locs ls hH hS hl
  obtain ⟨h, hr⟩ := zck_some hr
  obtain ⟨h6, hr⟩ := zck_some hr
  obtain ⟨hi, ht⟩ := i32_in (N := 6) h (by decide)
  have hP := zP1 hH hk (by decide)
  rw [zce_q] at hP
  have h2 := kk h6 r hr H locs ls hH hS hl
  rw [← ht] at h2
  exact va_aldq hx hb hok.1 hP 0 3 rfl rfl hi hdg h2
theorem zr_aast (cx : zCx Y p s m args meth c own cc nl ret) {a : Nat} (hk : zK a = 30) (h30 : ∀ c', zK c' = 30 → c' = a) {i : Int} {q1 : Nat} (hq : zK q1 = 6) (hdg : decode cc pc = .ok (.aastore, 1)) (kk : zWo Y p l e R s m args below meth c nl k n kq (zws σ i.toNat q1) lv (rest) (pc + 1) (o)) : zWo Y p l e R s m args below meth c nl k n kq σ lv (.ref (zad Y q1) :: .int (i32 i) :: .ref (zad Y a) :: rest) pc ((zck (0 ≤ i ∧ i < 6) o)) := by
  obtain ⟨hx, hb, hml, hr0, hlk, hown, hts, hok, hz⟩ := id cx
  intro r hr H locs ls hH hS hl
  obtain ⟨h, hr⟩ := zck_some hr
  obtain ⟨hi, ht⟩ := i32_in (N := 6) h (by decide)
  have hP := zP1 hH hk (by decide)
  rw [zce_q] at hP
  have hQ := zP1 hH hq (by decide)
  rw [zce_o (by decide)] at hQ
  obtain ⟨r', hr', cellV, g1, g2, g3, -⟩ := hQ 0 _ rfl
  have hcls := (hok.1.1 5 (RX5, TX5, 8) rfl).2
  obtain ⟨kA, comp, k1, k2, k3, -⟩ := (hok.1.2 3 _ rfl).2
  have hcomp : comp = Y.2.1.1 5 := Option.some.inj (k3.symm.trans hcls.1)
  subst hcomp
  have hcl2 := hcls
  obtain ⟨-, kC, hkC, -⟩ := hcl2
  have hin6 : ¬ i32 i < 0 ∧ (i32 i).toNatClampNeg < 6 := ⟨fun q => hi (Or.inl q), Nat.not_le.mp fun q => hi (Or.inr q)⟩
  refine W.aast hx hb (hP 0 _ rfl) (fun q h => by cases h) (fun h => by cases h) k1 k2 rfl hkC ⟨hin6.1, by show _ < (arrV _ _ _).slots.size; rw [arrV_size]; exact hin6.2⟩ g1 (fun q h => by rw [g3] at h; cases h) (by rw [g2]; exact hkC) (by rw [g2]; exact va_assign hcls) rfl rfl hdg fun H1 e z oq => ?_
  refine kk r hr H1 _ ls ?_ (hS.put z oq (hok.2.2 a (by omega))) hl
  refine zH_upd hok hH (by omega) ?_ (fun c' hc' hk' => zws_ne (fun q => hc' (h30 c' q))) oq
  rw [hk, zce_q]
  show H1[zad Y a]? = some (vp_cell _ _)
  rw [e]
  rw [vp_cell_q, vp_cell_q, arrV_store]
  congr 2
  funext q
  rw [ht]
  by_cases hq : q = i.toNat
  · simp [updV, hq, zws, va_rf]
  · simp [updV, hq, zws]
theorem zr_lald (cx : zCx Y p s m args meth c own cc nl ret) {a : Nat} (hk : zK a = 31) (hdg : decode cc pc = .ok (.laload, 1)) (kk : zWo Y p l e R s m args below meth c nl k n kq σ lv (.long (σ.2.2 1) :: rest) (pc + 1) (o)) : zWo Y p l e R s m args below meth c nl k n kq σ lv (.int (i32 0) :: .ref (zad Y a) :: rest) pc (o) := by
  obtain ⟨hx, hb, hml, hr0, hlk, hown, hts, hok, hz⟩ := id cx
  intro r hr H locs ls hH hS hl
  have hP := zP1 hH hk (by decide)
  rw [zce_l] at hP
  exact va_lald hx hb hok.1 hP 0 2 rfl rfl (i := i32 0) zi01 hdg (kk r hr H locs ls hH hS hl)
theorem zr_last (cx : zCx Y p s m args meth c own cc nl ret) {a : Nat} (hk : zK a = 31) (h31 : ∀ c', zK c' ≠ 0 → c' ≠ a → zK c' ≤ 30) {x : Int64} (hdg : decode cc pc = .ok (.lastore, 1)) (kk : zWo Y p l e R s m args below meth c nl k n kq (zwl σ 1 x) lv (rest) (pc + 1) (o)) : zWo Y p l e R s m args below meth c nl k n kq σ lv (.long x :: .int (i32 0) :: .ref (zad Y a) :: rest) pc (o) := by
  obtain ⟨hx, hb, hml, hr0, hlk, hown, hts, hok, hz⟩ := id cx
  intro r hr H locs ls hH hS hl
  have hP := zP1 hH hk (by decide)
  rw [zce_l] at hP
  refine W.last hx hb (hP 0 _ rfl) ((hok.1.2 2 _ rfl).1 1 (fun j => .long (σ.2.2 (j + 1)))) (fun q => by cases q) (by show ¬ (i32 0 < 0 ∨ (arrV _ _ _).slots.size ≤ _); rw [arrV_size]; exact zi01) rfl rfl hdg fun H1 e z oq => ?_
  refine kk r hr H1 _ ls ?_ (hS.put z oq (hok.2.2 a (by omega))) hl
  refine zH_upd hok hH (by omega) ?_ (fun c' hc' hk' => zwl_ne1 (h31 c' hk' hc')) oq
  rw [hk, zce_l]
  show H1[zad Y a]? = some (vp_cell _ _)
  rw [e]
  rw [vp_cell_l, vp_cell_l, arrV_store]
  congr 2
  funext q
  by_cases hq : q = 0
  · subst hq
    have e0 : (i32 0).toNatClampNeg = 0 := by decide +kernel
    simp [updV, e0, zwl]
  · have e0 : (i32 0).toNatClampNeg = 0 := by decide +kernel
    have e1 : ¬ q + 1 = 1 := fun h => hq (Nat.succ.inj h)
    simp [updV, e0, hq, zwl]
/-- the world behind a method, in a state t with the walk's last heap -/
theorem zW_end (cx : zCx Y p s m args meth c own cc nl ret) {H : Heap} {locs : List Loc} {t : State} (hH : zH Y σ H) (hS : va_S (zA Y) s.heap H locs) (ht : t.heap = H) (hW : s.WarmedH t.vm) : zW Y σ t ∧ va_F (zA Y) s t := by
  obtain ⟨hx, hb, hml, hr0, hlk, hown, hts, hok, hz⟩ := id cx
  refine ⟨⟨hok.moved hW.alike, (hz.moved hW.alike).kept ?_, ht ▸ hH⟩, hS.F ht⟩
  intro a ha hA
  rw [ht]
  exact hS.2.1 a ha hA
def zQi (Y : zLy) (v : Int) (σ : zSt) : Array Value → State → Outcome → State → Prop := va_Qi (S := Unit) (fun r _ => r = i32 v) (fun _ t => zW Y σ t) (zA Y)
def zQl (Y : zLy) (v : Int64) (σ : zSt) : Array Value → State → Outcome → State → Prop := va_Ql (S := Unit) (fun r _ => r = v) (fun _ t => zW Y σ t) (zA Y)
def zQd (Y : zLy) (v : UInt64) (σ : zSt) : Array Value → State → Outcome → State → Prop := va_Qd (S := Unit) (fun r _ => r = v) (fun _ t => zW Y σ t) (zA Y)
def zQv (Y : zLy) (σ : zSt) : Array Value → State → Outcome → State → Prop := va_Qv (S := Unit) (fun _ => True) (fun _ t => zW Y σ t) (zA Y)
theorem zr_iretP (cx : zCx Y p s m args meth c own cc nl (some .int)) {v : Int} (hdg : decode cc pc = .ok (.ireturn, 1)) : zWo Y p l e R s m args below meth c nl 0 0 (fun v => MQ below (zQi Y v σ) args s 0 0 (zA Y)) σ lv (.int (i32 v) :: []) pc (some v) := by
  obtain ⟨hx, hb, hml, hr0, hlk, hown, hts, hok, hz⟩ := id cx
  intro r hr H locs ls hH hS hl
  cases hr
  exact W.iret hx hb hr0 (fun t ht hW => ⟨⟨i32 v, (), rfl, rfl, (zW_end cx hH hS ht hW).1⟩, (zW_end cx hH hS ht hW).2⟩) hS.2.2 hdg hlk
theorem zr_iretE (cx : zCx Y p s m args meth c own cc nl (some .int)) {v : Int} (hdg : decode cc pc = .ok (.ireturn, 1)) : zWo Y p l e R s m args below meth c nl 0 0 (fun q : Int × zSt => MQ below (zQi Y q.1 q.2) args s 0 0 (zA Y)) σ lv (.int (i32 v) :: []) pc (some (v, σ)) := by
  obtain ⟨hx, hb, hml, hr0, hlk, hown, hts, hok, hz⟩ := id cx
  intro r hr H locs ls hH hS hl
  cases hr
  exact W.iret hx hb hr0 (fun t ht hW => ⟨⟨i32 v, (), rfl, rfl, (zW_end cx hH hS ht hW).1⟩, (zW_end cx hH hS ht hW).2⟩) hS.2.2 hdg hlk
theorem zr_zretP (cx : zCx Y p s m args meth c own cc nl (some .boolean)) {v : Int} (hdg : decode cc pc = .ok (.ireturn, 1)) : zWo Y p l e R s m args below meth c nl 0 0 (fun v => MQ below (zQi Y v σ) args s 0 0 (zA Y)) σ lv (.int (i32 v) :: []) pc (zck (v = 0 ∨ v = 1) (some v)) := by
  obtain ⟨hx, hb, hml, hr0, hlk, hown, hts, hok, hz⟩ := id cx
  intro r hr H locs ls hH hS hl
  obtain ⟨hv, hr⟩ := zck_some hr
  cases hr
  exact W.zret hx hb hr0 (zN_bool v hv) (fun t ht hW => ⟨⟨i32 v, (), rfl, rfl, (zW_end cx hH hS ht hW).1⟩, (zW_end cx hH hS ht hW).2⟩) hS.2.2 hdg hlk
theorem zr_zretE (cx : zCx Y p s m args meth c own cc nl (some .boolean)) {v : Int} (hdg : decode cc pc = .ok (.ireturn, 1)) : zWo Y p l e R s m args below meth c nl 0 0 (fun q : Int × zSt => MQ below (zQi Y q.1 q.2) args s 0 0 (zA Y)) σ lv (.int (i32 v) :: []) pc (zck (v = 0 ∨ v = 1) (some (v, σ))) := by
  obtain ⟨hx, hb, hml, hr0, hlk, hown, hts, hok, hz⟩ := id cx
  intro r hr H locs ls hH hS hl
  obtain ⟨hv, hr⟩ := zck_some hr
  cases hr
  exact W.zret hx hb hr0 (zN_bool v hv) (fun t ht hW => ⟨⟨i32 v, (), rfl, rfl, (zW_end cx hH hS ht hW).1⟩, (zW_end cx hH hS ht hW).2⟩) hS.2.2 hdg hlk
theorem zr_lretP (cx : zCx Y p s m args meth c own cc nl (some .long)) {v : Int64} (hdg : decode cc pc = .ok (.lreturn, 1)) : zWo Y p l e R s m args below meth c nl 0 0 (fun v => MQ below (zQl Y v σ) args s 0 0 (zA Y)) σ lv (.long v :: []) pc (some v) := by
  obtain ⟨hx, hb, hml, hr0, hlk, hown, hts, hok, hz⟩ := id cx
  intro r hr H locs ls hH hS hl
  cases hr
  exact W.lret hx hb hr0 (fun t ht hW => ⟨⟨v, (), rfl, rfl, (zW_end cx hH hS ht hW).1⟩, (zW_end cx hH hS ht hW).2⟩) hS.2.2 hdg hlk
theorem zr_lretE (cx : zCx Y p s m args meth c own cc nl (some .long)) {v : Int64} (hdg : decode cc pc = .ok (.lreturn, 1)) : zWo Y p l e R s m args below meth c nl 0 0 (fun q : Int64 × zSt => MQ below (zQl Y q.1 q.2) args s 0 0 (zA Y)) σ lv (.long v :: []) pc (some (v, σ)) := by
  obtain ⟨hx, hb, hml, hr0, hlk, hown, hts, hok, hz⟩ := id cx
  intro r hr H locs ls hH hS hl
  cases hr
  exact W.lret hx hb hr0 (fun t ht hW => ⟨⟨v, (), rfl, rfl, (zW_end cx hH hS ht hW).1⟩, (zW_end cx hH hS ht hW).2⟩) hS.2.2 hdg hlk
theorem zr_dretP (cx : zCx Y p s m args meth c own cc nl (some .double)) {v : UInt64} (hdg : decode cc pc = .ok (.dreturn, 1)) : zWo Y p l e R s m args below meth c nl 0 0 (fun v => MQ below (zQd Y v σ) args s 0 0 (zA Y)) σ lv (.double v :: []) pc (some v) := by
  obtain ⟨hx, hb, hml, hr0, hlk, hown, hts, hok, hz⟩ := id cx
  intro r hr H locs ls hH hS hl
  cases hr
  exact W.dret hx hb hr0 (fun t ht hW => ⟨⟨v, (), rfl, rfl, (zW_end cx hH hS ht hW).1⟩, (zW_end cx hH hS ht hW).2⟩) hS.2.2 hdg hlk
theorem zr_dretE (cx : zCx Y p s m args meth c own cc nl (some .double)) {v : UInt64} (hdg : decode cc pc = .ok (.dreturn, 1)) : zWo Y p l e R s m args below meth c nl 0 0 (fun q : UInt64 × zSt => MQ below (zQd Y q.1 q.2) args s 0 0 (zA Y)) σ lv (.double v :: []) pc (some (v, σ)) := by
  obtain ⟨hx, hb, hml, hr0, hlk, hown, hts, hok, hz⟩ := id cx
  intro r hr H locs ls hH hS hl
  cases hr
  exact W.dret hx hb hr0 (fun t ht hW => ⟨⟨v, (), rfl, rfl, (zW_end cx hH hS ht hW).1⟩, (zW_end cx hH hS ht hW).2⟩) hS.2.2 hdg hlk
theorem zr_vretE (cx : zCx Y p s m args meth c own cc nl none) (hdg : decode cc pc = .ok (.return_, 1)) : zWo Y p l e R s m args below meth c nl 0 0 (fun σ' : zSt => MQ below (zQv Y σ') args s 0 0 (zA Y)) σ lv [] pc (some σ) := by
  obtain ⟨hx, hb, hml, hr0, hlk, hown, hts, hok, hz⟩ := id cx
  intro r hr H locs ls hH hS hl
  cases hr
  exact W.vret hx hb hr0 (fun t ht hW => ⟨⟨(), rfl, trivial, (zW_end cx hH hS ht hW).1⟩, (zW_end cx hH hS ht hW).2⟩) hS.2.2 hdg hlk
def zMt (l : Launch) (y : MethodName) (cc : ByteArray) (nl : Nat) (ret : Option FieldType) (d : Nat) (Pa : List Value) (Y : zLy) (σ : zSt) (Qc : Array Value → State → Outcome → State → Prop) : Prop := Met l y (.code y cc nl ret :: zG) (zrm d) (va_Pc Pa (zW Y σ)) Qc 0 0 (zA Y)
theorem zmet_of {l : Launch} {Y : zLy} {y : MethodName} {cc : ByteArray} {nl : Nat} {ret : Option FieldType} {d : Nat} {Pa : List Value} {σ : zSt} {Qc : Array Value → State → Outcome → State → Prop} (own : String) (how : y.cls = own) (hy : plainName y.cls = true) (hn : (lg_sl Pa).length ≤ nl)
    (body : ∀ (p : Program) (e : Env) (s : State) (m : MethodId) (below : List Frame) (meth : Method) (c : Code), zCx Y p s m Pa.toArray meth c own cc nl ret → ∀ (H : Heap) (locs : List Loc) (ls : Array Slot), zH Y σ H → va_S (zA Y) s.heap H locs → lv_has ls nl (lv_args 0 Pa) → W p l e (zrm d) s m Pa.toArray below meth c H locs 0 0 (MQ below Qc Pa.toArray s 0 0 (zA Y)) (F0 m 0 ls [])) : zMt l y cc nl ret d Pa Y σ Qc := by
  refine Met.ofW (cc := cc) (maxL := nl) (ret := ret) hy rfl ?_
  intro p e s m args below meth c s₁ B hml hv
  obtain ⟨rfl, hok, hz, hH⟩ := hv
  have hts := atoms_spec (ws := .code y cc nl ret :: zG) B.pre
  have hown : s.vm.findClass own = some m.cls := how ▸ findClass_of_methodNamed B.named
  rw [lg_entry_eq]
  exact body p e s m below meth c ⟨B.exec, B.bytes, hml, B.returns, B.notSynchronized, hown, fun w h => hts w (List.mem_cons_of_mem _ h), hok, hz⟩ s.heap [] _ hH va_S.rf (lv_entry Pa hn)
theorem zG_V {own C : String} {idx : Nat} {y : MethodName} {code : ByteArray} {n : Nat} {ret : Option FieldType} (h1 : Cond.methodLink own idx y ∈ zG) (h2 : Cond.instanceMethod y ∈ zG) (h3 : Cond.selects C y y ∈ zG) (h4 : Cond.initialized C ∈ zG) (h5 : Cond.code y code n ret ∈ zG) : GoodIn zG (wsV own idx C y (.code y code n ret :: zG)) :=
  zG_in (w0 := .tt) (fun w hw => by
    rcases List.mem_append.mp hw with h | h
    · simp only [List.mem_cons, List.not_mem_nil, or_false] at h
      rcases h with rfl | rfl | rfl | rfl
      · exact h1
      · exact h2
      · exact h3
      · exact h4
    · exact zG_call h5 w h)
theorem zG_S {own : String} {idx : Nat} {y : MethodName} {code : ByteArray} {n : Nat} {ret : Option FieldType} (h1 : Cond.methodLink own idx y ∈ zG) (h2 : Cond.static y ∈ zG) (h4 : Cond.initialized y.cls ∈ zG) (h5 : Cond.code y code n ret ∈ zG) : GoodIn zG (va_wsS own idx y (.code y code n ret :: zG)) :=
  zG_in (w0 := .tt) (fun w hw => by
    rcases List.mem_append.mp hw with h | h
    · simp only [List.mem_cons, List.not_mem_nil, or_false] at h
      rcases h with rfl | rfl | rfl
      · exact h1
      · exact h2
      · exact h4
    · exact zG_call h5 w h)
theorem zpre (cx : zCx Y p s m args meth c own cc nl ret) {H : Heap} {locs : List Loc} (hH : zH Y σ H) (hS : va_S (zA Y) s.heap H locs) {Pa : List Value} (U : State) (hU : U.heap = H) (hW : s.WarmedH U.vm) : va_Pc Pa (zW Y σ) Pa.toArray U := by
  obtain ⟨hx, hb, hml, hr0, hlk, hown, hts, hok, hz⟩ := id cx
  refine ⟨rfl, hok.moved hW.alike, (hz.moved hW.alike).kept ?_, hU ▸ hH⟩
  intro a ha hA
  rw [hU]
  exact hS.2.1 a ha hA
theorem zr_callViP (cx : zCx Y p s m args meth c own cc nl ret) {d' d0 ml an : Nat} {C : String} {idx : Nat} {y : MethodName} {code : ByteArray} {rt : Option FieldType} {As : List Value} {st0 : List Value} {c1 : Nat} (kd : Nat) (hk : zK c1 = kd) (h0 : kd ≠ 0 ∧ kd < 10) {T : u_T} {N : Nat} (hc : zcl[kd - 1]? = some (C, T, N)) {fc : Option Int} {fk : Int → Option ρ} (hM : ∀ v, fc = some v → zMt l y code ml rt d' (.ref (zad Y c1) :: As) Y σ (zQi Y v σ)) (gd : GoodIn zG (wsV own idx C y (.code y code ml rt :: zG))) (hd : y.cls = C ∧ y.cls ≠ "java/lang/invoke/MethodHandle" ∧ y.cls ≠ "java/lang/invoke/VarHandle" ∧ (parseMethodDescriptor y.desc).map (fun d => d.parameters.length) = some an) (hR : d' + 1 ≤ R.frames ∧ 8 + (ml + 11) + 40 * d' ≤ R.locals) (hkn : k ≤ R.cells ∧ n ≤ R.slots) (hn : As.length = an) (hst : st0 = As.reverse ++ .ref (zad Y c1) :: rest) (hrest : (rest.map fun v => v.category).sum ≤ 8) (hdg : decode cc pc = .ok (.invokevirtual idx, 3)) (kk : ∀ v : Int, zWo Y p l e R s m args below meth c nl k n kq σ lv (.int (i32 v) :: rest) (pc + 3) (fk v)) : zWo Y p l e R s m args below meth c nl k n kq σ lv (st0) pc (zbd fc fk) := by
  obtain ⟨hx, hb, hml, hr0, hlk, hown, hts, hok, hz⟩ := id cx
  intro r hr H locs ls hH hS hl
  obtain ⟨v, hf, hr⟩ := zbd_of hr
  have hP := zP1 hH hk h0.1
  rw [zce_o h0.2] at hP
  have hc1 : k + 0 ≤ R.cells := hkn.1
  have hs1 : n + 0 ≤ R.slots := hkn.2
  refine va_calli (va_runV (As := As) (rest := rest) ⟨hx, hb, hml, hown, hts⟩ (hM v hf) (cwV an hts gd rfl rfl rfl hd ⟨hR.1, hR.2⟩) ⟨zW.blind, va_recv (q0 := 0) hok.1 hP hc rfl, fun U hU hW => zpre cx hH hS U hU hW⟩ rfl hn hl.1 hst (lv_room hrest) hdg ⟨hc1, hs1⟩) hS (fun q _ h => h) (fun q h => h) (fun r1 u t H1 locs ht hvm hw hB hz1 hk1 hS => ?_)
  rw [show r1 = _ from hw]
  exact kk v r hr H1 locs ls (ht ▸ hB.2.2) hS hl
theorem zr_callViE (cx : zCx Y p s m args meth c own cc nl ret) {d' d0 ml an : Nat} {C : String} {idx : Nat} {y : MethodName} {code : ByteArray} {rt : Option FieldType} {As : List Value} {st0 : List Value} {c1 : Nat} (kd : Nat) (hk : zK c1 = kd) (h0 : kd ≠ 0 ∧ kd < 10) {T : u_T} {N : Nat} (hc : zcl[kd - 1]? = some (C, T, N)) {fc : Option (Int × zSt)} {fk : Int × zSt → Option ρ} (hM : ∀ v σ', fc = some (v, σ') → zMt l y code ml rt d' (.ref (zad Y c1) :: As) Y σ (zQi Y v σ')) (gd : GoodIn zG (wsV own idx C y (.code y code ml rt :: zG))) (hd : y.cls = C ∧ y.cls ≠ "java/lang/invoke/MethodHandle" ∧ y.cls ≠ "java/lang/invoke/VarHandle" ∧ (parseMethodDescriptor y.desc).map (fun d => d.parameters.length) = some an) (hR : d' + 1 ≤ R.frames ∧ 8 + (ml + 11) + 40 * d' ≤ R.locals) (hkn : k ≤ R.cells ∧ n ≤ R.slots) (hn : As.length = an) (hst : st0 = As.reverse ++ .ref (zad Y c1) :: rest) (hrest : (rest.map fun v => v.category).sum ≤ 8) (hdg : decode cc pc = .ok (.invokevirtual idx, 3)) (kk : ∀ (v : Int) (σ' : zSt), zWo Y p l e R s m args below meth c nl k n kq σ' lv (.int (i32 v) :: rest) (pc + 3) (fk (v, σ'))) : zWo Y p l e R s m args below meth c nl k n kq σ lv (st0) pc (zbd fc fk) := by
  obtain ⟨hx, hb, hml, hr0, hlk, hown, hts, hok, hz⟩ := id cx
  intro r hr H locs ls hH hS hl
  obtain ⟨⟨v, σ'⟩, hf, hr⟩ := zbd_of hr
  have hP := zP1 hH hk h0.1
  rw [zce_o h0.2] at hP
  have hc1 : k + 0 ≤ R.cells := hkn.1
  have hs1 : n + 0 ≤ R.slots := hkn.2
  refine va_calli (va_runV (As := As) (rest := rest) ⟨hx, hb, hml, hown, hts⟩ (hM v σ' hf) (cwV an hts gd rfl rfl rfl hd ⟨hR.1, hR.2⟩) ⟨zW.blind, va_recv (q0 := 0) hok.1 hP hc rfl, fun U hU hW => zpre cx hH hS U hU hW⟩ rfl hn hl.1 hst (lv_room hrest) hdg ⟨hc1, hs1⟩) hS (fun q _ h => h) (fun q h => h) (fun r1 u t H1 locs ht hvm hw hB hz1 hk1 hS => ?_)
  rw [show r1 = _ from hw]
  exact kk v σ' r hr H1 locs ls (ht ▸ hB.2.2) hS hl
theorem zr_callVlP (cx : zCx Y p s m args meth c own cc nl ret) {d' d0 ml an : Nat} {C : String} {idx : Nat} {y : MethodName} {code : ByteArray} {rt : Option FieldType} {As : List Value} {st0 : List Value} {c1 : Nat} (kd : Nat) (hk : zK c1 = kd) (h0 : kd ≠ 0 ∧ kd < 10) {T : u_T} {N : Nat} (hc : zcl[kd - 1]? = some (C, T, N)) {fc : Option Int64} {fk : Int64 → Option ρ} (hM : ∀ v, fc = some v → zMt l y code ml rt d' (.ref (zad Y c1) :: As) Y σ (zQl Y v σ)) (gd : GoodIn zG (wsV own idx C y (.code y code ml rt :: zG))) (hd : y.cls = C ∧ y.cls ≠ "java/lang/invoke/MethodHandle" ∧ y.cls ≠ "java/lang/invoke/VarHandle" ∧ (parseMethodDescriptor y.desc).map (fun d => d.parameters.length) = some an) (hR : d' + 1 ≤ R.frames ∧ 8 + (ml + 11) + 40 * d' ≤ R.locals) (hkn : k ≤ R.cells ∧ n ≤ R.slots) (hn : As.length = an) (hst : st0 = As.reverse ++ .ref (zad Y c1) :: rest) (hrest : (rest.map fun v => v.category).sum ≤ 8) (hdg : decode cc pc = .ok (.invokevirtual idx, 3)) (kk : ∀ v : Int64, zWo Y p l e R s m args below meth c nl k n kq σ lv (.long v :: rest) (pc + 3) (fk v)) : zWo Y p l e R s m args below meth c nl k n kq σ lv (st0) pc (zbd fc fk) := by
  obtain ⟨hx, hb, hml, hr0, hlk, hown, hts, hok, hz⟩ := id cx
  intro r hr H locs ls hH hS hl
  obtain ⟨v, hf, hr⟩ := zbd_of hr
  have hP := zP1 hH hk h0.1
  rw [zce_o h0.2] at hP
  have hc1 : k + 0 ≤ R.cells := hkn.1
  have hs1 : n + 0 ≤ R.slots := hkn.2
  refine va_calll (va_runV (As := As) (rest := rest) ⟨hx, hb, hml, hown, hts⟩ (hM v hf) (cwV an hts gd rfl rfl rfl hd ⟨hR.1, hR.2⟩) ⟨zW.blind, va_recv (q0 := 0) hok.1 hP hc rfl, fun U hU hW => zpre cx hH hS U hU hW⟩ rfl hn hl.1 hst (lv_room hrest) hdg ⟨hc1, hs1⟩) hS (fun q _ h => h) (fun q h => h) (fun r1 u t H1 locs ht hvm hw hB hz1 hk1 hS => ?_)
  rw [show r1 = _ from hw]
  exact kk v r hr H1 locs ls (ht ▸ hB.2.2) hS hl
theorem zr_callVlE (cx : zCx Y p s m args meth c own cc nl ret) {d' d0 ml an : Nat} {C : String} {idx : Nat} {y : MethodName} {code : ByteArray} {rt : Option FieldType} {As : List Value} {st0 : List Value} {c1 : Nat} (kd : Nat) (hk : zK c1 = kd) (h0 : kd ≠ 0 ∧ kd < 10) {T : u_T} {N : Nat} (hc : zcl[kd - 1]? = some (C, T, N)) {fc : Option (Int64 × zSt)} {fk : Int64 × zSt → Option ρ} (hM : ∀ v σ', fc = some (v, σ') → zMt l y code ml rt d' (.ref (zad Y c1) :: As) Y σ (zQl Y v σ')) (gd : GoodIn zG (wsV own idx C y (.code y code ml rt :: zG))) (hd : y.cls = C ∧ y.cls ≠ "java/lang/invoke/MethodHandle" ∧ y.cls ≠ "java/lang/invoke/VarHandle" ∧ (parseMethodDescriptor y.desc).map (fun d => d.parameters.length) = some an) (hR : d' + 1 ≤ R.frames ∧ 8 + (ml + 11) + 40 * d' ≤ R.locals) (hkn : k ≤ R.cells ∧ n ≤ R.slots) (hn : As.length = an) (hst : st0 = As.reverse ++ .ref (zad Y c1) :: rest) (hrest : (rest.map fun v => v.category).sum ≤ 8) (hdg : decode cc pc = .ok (.invokevirtual idx, 3)) (kk : ∀ (v : Int64) (σ' : zSt), zWo Y p l e R s m args below meth c nl k n kq σ' lv (.long v :: rest) (pc + 3) (fk (v, σ'))) : zWo Y p l e R s m args below meth c nl k n kq σ lv (st0) pc (zbd fc fk) := by
  obtain ⟨hx, hb, hml, hr0, hlk, hown, hts, hok, hz⟩ := id cx
  intro r hr H locs ls hH hS hl
  obtain ⟨⟨v, σ'⟩, hf, hr⟩ := zbd_of hr
  have hP := zP1 hH hk h0.1
  rw [zce_o h0.2] at hP
  have hc1 : k + 0 ≤ R.cells := hkn.1
  have hs1 : n + 0 ≤ R.slots := hkn.2
  refine va_calll (va_runV (As := As) (rest := rest) ⟨hx, hb, hml, hown, hts⟩ (hM v σ' hf) (cwV an hts gd rfl rfl rfl hd ⟨hR.1, hR.2⟩) ⟨zW.blind, va_recv (q0 := 0) hok.1 hP hc rfl, fun U hU hW => zpre cx hH hS U hU hW⟩ rfl hn hl.1 hst (lv_room hrest) hdg ⟨hc1, hs1⟩) hS (fun q _ h => h) (fun q h => h) (fun r1 u t H1 locs ht hvm hw hB hz1 hk1 hS => ?_)
  rw [show r1 = _ from hw]
  exact kk v σ' r hr H1 locs ls (ht ▸ hB.2.2) hS hl
theorem zr_callVdP (cx : zCx Y p s m args meth c own cc nl ret) {d' d0 ml an : Nat} {C : String} {idx : Nat} {y : MethodName} {code : ByteArray} {rt : Option FieldType} {As : List Value} {st0 : List Value} {c1 : Nat} (kd : Nat) (hk : zK c1 = kd) (h0 : kd ≠ 0 ∧ kd < 10) {T : u_T} {N : Nat} (hc : zcl[kd - 1]? = some (C, T, N)) {fc : Option UInt64} {fk : UInt64 → Option ρ} (hM : ∀ v, fc = some v → zMt l y code ml rt d' (.ref (zad Y c1) :: As) Y σ (zQd Y v σ)) (gd : GoodIn zG (wsV own idx C y (.code y code ml rt :: zG))) (hd : y.cls = C ∧ y.cls ≠ "java/lang/invoke/MethodHandle" ∧ y.cls ≠ "java/lang/invoke/VarHandle" ∧ (parseMethodDescriptor y.desc).map (fun d => d.parameters.length) = some an) (hR : d' + 1 ≤ R.frames ∧ 8 + (ml + 11) + 40 * d' ≤ R.locals) (hkn : k ≤ R.cells ∧ n ≤ R.slots) (hn : As.length = an) (hst : st0 = As.reverse ++ .ref (zad Y c1) :: rest) (hrest : (rest.map fun v => v.category).sum ≤ 8) (hdg : decode cc pc = .ok (.invokevirtual idx, 3)) (kk : ∀ v : UInt64, zWo Y p l e R s m args below meth c nl k n kq σ lv (.double v :: rest) (pc + 3) (fk v)) : zWo Y p l e R s m args below meth c nl k n kq σ lv (st0) pc (zbd fc fk) := by
  obtain ⟨hx, hb, hml, hr0, hlk, hown, hts, hok, hz⟩ := id cx
  intro r hr H locs ls hH hS hl
  obtain ⟨v, hf, hr⟩ := zbd_of hr
  have hP := zP1 hH hk h0.1
  rw [zce_o h0.2] at hP
  have hc1 : k + 0 ≤ R.cells := hkn.1
  have hs1 : n + 0 ≤ R.slots := hkn.2
  refine va_calld (va_runV (As := As) (rest := rest) ⟨hx, hb, hml, hown, hts⟩ (hM v hf) (cwV an hts gd rfl rfl rfl hd ⟨hR.1, hR.2⟩) ⟨zW.blind, va_recv (q0 := 0) hok.1 hP hc rfl, fun U hU hW => zpre cx hH hS U hU hW⟩ rfl hn hl.1 hst (lv_room hrest) hdg ⟨hc1, hs1⟩) hS (fun q _ h => h) (fun q h => h) (fun r1 u t H1 locs ht hvm hw hB hz1 hk1 hS => ?_)
  rw [show r1 = _ from hw]
  exact kk v r hr H1 locs ls (ht ▸ hB.2.2) hS hl
theorem zr_callVdE (cx : zCx Y p s m args meth c own cc nl ret) {d' d0 ml an : Nat} {C : String} {idx : Nat} {y : MethodName} {code : ByteArray} {rt : Option FieldType} {As : List Value} {st0 : List Value} {c1 : Nat} (kd : Nat) (hk : zK c1 = kd) (h0 : kd ≠ 0 ∧ kd < 10) {T : u_T} {N : Nat} (hc : zcl[kd - 1]? = some (C, T, N)) {fc : Option (UInt64 × zSt)} {fk : UInt64 × zSt → Option ρ} (hM : ∀ v σ', fc = some (v, σ') → zMt l y code ml rt d' (.ref (zad Y c1) :: As) Y σ (zQd Y v σ')) (gd : GoodIn zG (wsV own idx C y (.code y code ml rt :: zG))) (hd : y.cls = C ∧ y.cls ≠ "java/lang/invoke/MethodHandle" ∧ y.cls ≠ "java/lang/invoke/VarHandle" ∧ (parseMethodDescriptor y.desc).map (fun d => d.parameters.length) = some an) (hR : d' + 1 ≤ R.frames ∧ 8 + (ml + 11) + 40 * d' ≤ R.locals) (hkn : k ≤ R.cells ∧ n ≤ R.slots) (hn : As.length = an) (hst : st0 = As.reverse ++ .ref (zad Y c1) :: rest) (hrest : (rest.map fun v => v.category).sum ≤ 8) (hdg : decode cc pc = .ok (.invokevirtual idx, 3)) (kk : ∀ (v : UInt64) (σ' : zSt), zWo Y p l e R s m args below meth c nl k n kq σ' lv (.double v :: rest) (pc + 3) (fk (v, σ'))) : zWo Y p l e R s m args below meth c nl k n kq σ lv (st0) pc (zbd fc fk) := by
  obtain ⟨hx, hb, hml, hr0, hlk, hown, hts, hok, hz⟩ := id cx
  intro r hr H locs ls hH hS hl
  obtain ⟨⟨v, σ'⟩, hf, hr⟩ := zbd_of hr
  have hP := zP1 hH hk h0.1
  rw [zce_o h0.2] at hP
  have hc1 : k + 0 ≤ R.cells := hkn.1
  have hs1 : n + 0 ≤ R.slots := hkn.2
  refine va_calld (va_runV (As := As) (rest := rest) ⟨hx, hb, hml, hown, hts⟩ (hM v σ' hf) (cwV an hts gd rfl rfl rfl hd ⟨hR.1, hR.2⟩) ⟨zW.blind, va_recv (q0 := 0) hok.1 hP hc rfl, fun U hU hW => zpre cx hH hS U hU hW⟩ rfl hn hl.1 hst (lv_room hrest) hdg ⟨hc1, hs1⟩) hS (fun q _ h => h) (fun q h => h) (fun r1 u t H1 locs ht hvm hw hB hz1 hk1 hS => ?_)
  rw [show r1 = _ from hw]
  exact kk v σ' r hr H1 locs ls (ht ▸ hB.2.2) hS hl
theorem zr_callVvE (cx : zCx Y p s m args meth c own cc nl ret) {d' d0 ml an : Nat} {C : String} {idx : Nat} {y : MethodName} {code : ByteArray} {rt : Option FieldType} {As : List Value} {st0 : List Value} {c1 : Nat} (kd : Nat) (hk : zK c1 = kd) (h0 : kd ≠ 0 ∧ kd < 10) {T : u_T} {N : Nat} (hc : zcl[kd - 1]? = some (C, T, N)) {fc : Option zSt} {fk : zSt → Option ρ} (hM : ∀ σ', fc = some σ' → zMt l y code ml rt d' (.ref (zad Y c1) :: As) Y σ (zQv Y σ')) (gd : GoodIn zG (wsV own idx C y (.code y code ml rt :: zG))) (hd : y.cls = C ∧ y.cls ≠ "java/lang/invoke/MethodHandle" ∧ y.cls ≠ "java/lang/invoke/VarHandle" ∧ (parseMethodDescriptor y.desc).map (fun d => d.parameters.length) = some an) (hR : d' + 1 ≤ R.frames ∧ 8 + (ml + 11) + 40 * d' ≤ R.locals) (hkn : k ≤ R.cells ∧ n ≤ R.slots) (hn : As.length = an) (hst : st0 = As.reverse ++ .ref (zad Y c1) :: rest) (hrest : (rest.map fun v => v.category).sum ≤ 8) (hdg : decode cc pc = .ok (.invokevirtual idx, 3)) (kk : ∀ σ' : zSt, zWo Y p l e R s m args below meth c nl k n kq σ' lv (rest) (pc + 3) (fk σ')) : zWo Y p l e R s m args below meth c nl k n kq σ lv (st0) pc (zbd fc fk) := by
  obtain ⟨hx, hb, hml, hr0, hlk, hown, hts, hok, hz⟩ := id cx
  intro r hr H locs ls hH hS hl
  obtain ⟨σ', hf, hr⟩ := zbd_of hr
  have hP := zP1 hH hk h0.1
  rw [zce_o h0.2] at hP
  have hc1 : k + 0 ≤ R.cells := hkn.1
  have hs1 : n + 0 ≤ R.slots := hkn.2
  refine va_callv (va_runV (As := As) (rest := rest) ⟨hx, hb, hml, hown, hts⟩ (hM σ' hf) (cwV an hts gd rfl rfl rfl hd ⟨hR.1, hR.2⟩) ⟨zW.blind, va_recv (q0 := 0) hok.1 hP hc rfl, fun U hU hW => zpre cx hH hS U hU hW⟩ rfl hn hl.1 hst (lv_room hrest) hdg ⟨hc1, hs1⟩) hS (fun q _ h => h) (fun q h => h) (fun u t H1 locs ht hvm hw hB hz1 hk1 hS => ?_)
  exact kk σ' r hr H1 locs ls (ht ▸ hB.2.2) hS hl
theorem zr_callSiP (cx : zCx Y p s m args meth c own cc nl ret) {d' d0 ml an : Nat} {C : String} {idx : Nat} {y : MethodName} {code : ByteArray} {rt : Option FieldType} {As : List Value} {st0 : List Value}  {fc : Option Int} {fk : Int → Option ρ} (hM : ∀ v, fc = some v → zMt l y code ml rt d' As Y σ (zQi Y v σ)) (gd : GoodIn zG (va_wsS own idx y (.code y code ml rt :: zG))) (hd : y.cls ≠ "java/lang/invoke/MethodHandle" ∧ y.cls ≠ "java/lang/invoke/VarHandle" ∧ (parseMethodDescriptor y.desc).map (fun d => d.parameters.length) = some an) (hR : d' + 1 ≤ R.frames ∧ 8 + (ml + 11) + 40 * d' ≤ R.locals) (hkn : k ≤ R.cells ∧ n ≤ R.slots) (hn : As.length = an) (hst : st0 = As.reverse ++ rest) (hrest : (rest.map fun v => v.category).sum ≤ 8) (hdg : decode cc pc = .ok (.invokestatic idx, 3)) (kk : ∀ v : Int, zWo Y p l e R s m args below meth c nl k n kq σ lv (.int (i32 v) :: rest) (pc + 3) (fk v)) : zWo Y p l e R s m args below meth c nl k n kq σ lv (st0) pc (zbd fc fk) := by
  obtain ⟨hx, hb, hml, hr0, hlk, hown, hts, hok, hz⟩ := id cx
  intro r hr H locs ls hH hS hl
  obtain ⟨v, hf, hr⟩ := zbd_of hr
  have hc1 : k + 0 ≤ R.cells := hkn.1
  have hs1 : n + 0 ≤ R.slots := hkn.2
  refine va_calli (va_runS (As := As) (rest := rest) ⟨hx, hb, hml, hown, hts⟩ (hM v hf) (va_cwS an hts gd rfl rfl rfl hd ⟨hR.1, hR.2⟩) ⟨zW.blind, fun U hU hW => zpre cx hH hS U hU hW⟩ rfl hn hl.1 hst (lv_room hrest) hdg ⟨hc1, hs1⟩) hS (fun q _ h => h) (fun q h => h) (fun r1 u t H1 locs ht hvm hw hB hz1 hk1 hS => ?_)
  rw [show r1 = _ from hw]
  exact kk v r hr H1 locs ls (ht ▸ hB.2.2) hS hl
theorem zr_callSiE (cx : zCx Y p s m args meth c own cc nl ret) {d' d0 ml an : Nat} {C : String} {idx : Nat} {y : MethodName} {code : ByteArray} {rt : Option FieldType} {As : List Value} {st0 : List Value}  {fc : Option (Int × zSt)} {fk : Int × zSt → Option ρ} (hM : ∀ v σ', fc = some (v, σ') → zMt l y code ml rt d' As Y σ (zQi Y v σ')) (gd : GoodIn zG (va_wsS own idx y (.code y code ml rt :: zG))) (hd : y.cls ≠ "java/lang/invoke/MethodHandle" ∧ y.cls ≠ "java/lang/invoke/VarHandle" ∧ (parseMethodDescriptor y.desc).map (fun d => d.parameters.length) = some an) (hR : d' + 1 ≤ R.frames ∧ 8 + (ml + 11) + 40 * d' ≤ R.locals) (hkn : k ≤ R.cells ∧ n ≤ R.slots) (hn : As.length = an) (hst : st0 = As.reverse ++ rest) (hrest : (rest.map fun v => v.category).sum ≤ 8) (hdg : decode cc pc = .ok (.invokestatic idx, 3)) (kk : ∀ (v : Int) (σ' : zSt), zWo Y p l e R s m args below meth c nl k n kq σ' lv (.int (i32 v) :: rest) (pc + 3) (fk (v, σ'))) : zWo Y p l e R s m args below meth c nl k n kq σ lv (st0) pc (zbd fc fk) := by
  obtain ⟨hx, hb, hml, hr0, hlk, hown, hts, hok, hz⟩ := id cx
  intro r hr H locs ls hH hS hl
  obtain ⟨⟨v, σ'⟩, hf, hr⟩ := zbd_of hr
  have hc1 : k + 0 ≤ R.cells := hkn.1
  have hs1 : n + 0 ≤ R.slots := hkn.2
  refine va_calli (va_runS (As := As) (rest := rest) ⟨hx, hb, hml, hown, hts⟩ (hM v σ' hf) (va_cwS an hts gd rfl rfl rfl hd ⟨hR.1, hR.2⟩) ⟨zW.blind, fun U hU hW => zpre cx hH hS U hU hW⟩ rfl hn hl.1 hst (lv_room hrest) hdg ⟨hc1, hs1⟩) hS (fun q _ h => h) (fun q h => h) (fun r1 u t H1 locs ht hvm hw hB hz1 hk1 hS => ?_)
  rw [show r1 = _ from hw]
  exact kk v σ' r hr H1 locs ls (ht ▸ hB.2.2) hS hl
theorem zr_callSlP (cx : zCx Y p s m args meth c own cc nl ret) {d' d0 ml an : Nat} {C : String} {idx : Nat} {y : MethodName} {code : ByteArray} {rt : Option FieldType} {As : List Value} {st0 : List Value}  {fc : Option Int64} {fk : Int64 → Option ρ} (hM : ∀ v, fc = some v → zMt l y code ml rt d' As Y σ (zQl Y v σ)) (gd : GoodIn zG (va_wsS own idx y (.code y code ml rt :: zG))) (hd : y.cls ≠ "java/lang/invoke/MethodHandle" ∧ y.cls ≠ "java/lang/invoke/VarHandle" ∧ (parseMethodDescriptor y.desc).map (fun d => d.parameters.length) = some an) (hR : d' + 1 ≤ R.frames ∧ 8 + (ml + 11) + 40 * d' ≤ R.locals) (hkn : k ≤ R.cells ∧ n ≤ R.slots) (hn : As.length = an) (hst : st0 = As.reverse ++ rest) (hrest : (rest.map fun v => v.category).sum ≤ 8) (hdg : decode cc pc = .ok (.invokestatic idx, 3)) (kk : ∀ v : Int64, zWo Y p l e R s m args below meth c nl k n kq σ lv (.long v :: rest) (pc + 3) (fk v)) : zWo Y p l e R s m args below meth c nl k n kq σ lv (st0) pc (zbd fc fk) := by
  obtain ⟨hx, hb, hml, hr0, hlk, hown, hts, hok, hz⟩ := id cx
  intro r hr H locs ls hH hS hl
  obtain ⟨v, hf, hr⟩ := zbd_of hr
  have hc1 : k + 0 ≤ R.cells := hkn.1
  have hs1 : n + 0 ≤ R.slots := hkn.2
  refine va_calll (va_runS (As := As) (rest := rest) ⟨hx, hb, hml, hown, hts⟩ (hM v hf) (va_cwS an hts gd rfl rfl rfl hd ⟨hR.1, hR.2⟩) ⟨zW.blind, fun U hU hW => zpre cx hH hS U hU hW⟩ rfl hn hl.1 hst (lv_room hrest) hdg ⟨hc1, hs1⟩) hS (fun q _ h => h) (fun q h => h) (fun r1 u t H1 locs ht hvm hw hB hz1 hk1 hS => ?_)
  rw [show r1 = _ from hw]
  exact kk v r hr H1 locs ls (ht ▸ hB.2.2) hS hl
theorem zr_callSlE (cx : zCx Y p s m args meth c own cc nl ret) {d' d0 ml an : Nat} {C : String} {idx : Nat} {y : MethodName} {code : ByteArray} {rt : Option FieldType} {As : List Value} {st0 : List Value}  {fc : Option (Int64 × zSt)} {fk : Int64 × zSt → Option ρ} (hM : ∀ v σ', fc = some (v, σ') → zMt l y code ml rt d' As Y σ (zQl Y v σ')) (gd : GoodIn zG (va_wsS own idx y (.code y code ml rt :: zG))) (hd : y.cls ≠ "java/lang/invoke/MethodHandle" ∧ y.cls ≠ "java/lang/invoke/VarHandle" ∧ (parseMethodDescriptor y.desc).map (fun d => d.parameters.length) = some an) (hR : d' + 1 ≤ R.frames ∧ 8 + (ml + 11) + 40 * d' ≤ R.locals) (hkn : k ≤ R.cells ∧ n ≤ R.slots) (hn : As.length = an) (hst : st0 = As.reverse ++ rest) (hrest : (rest.map fun v => v.category).sum ≤ 8) (hdg : decode cc pc = .ok (.invokestatic idx, 3)) (kk : ∀ (v : Int64) (σ' : zSt), zWo Y p l e R s m args below meth c nl k n kq σ' lv (.long v :: rest) (pc + 3) (fk (v, σ'))) : zWo Y p l e R s m args below meth c nl k n kq σ lv (st0) pc (zbd fc fk) := by
  obtain ⟨hx, hb, hml, hr0, hlk, hown, hts, hok, hz⟩ := id cx
  intro r hr H locs ls hH hS hl
  obtain ⟨⟨v, σ'⟩, hf, hr⟩ := zbd_of hr
  have hc1 : k + 0 ≤ R.cells := hkn.1
  have hs1 : n + 0 ≤ R.slots := hkn.2
  refine va_calll (va_runS (As := As) (rest := rest) ⟨hx, hb, hml, hown, hts⟩ (hM v σ' hf) (va_cwS an hts gd rfl rfl rfl hd ⟨hR.1, hR.2⟩) ⟨zW.blind, fun U hU hW => zpre cx hH hS U hU hW⟩ rfl hn hl.1 hst (lv_room hrest) hdg ⟨hc1, hs1⟩) hS (fun q _ h => h) (fun q h => h) (fun r1 u t H1 locs ht hvm hw hB hz1 hk1 hS => ?_)
  rw [show r1 = _ from hw]
  exact kk v σ' r hr H1 locs ls (ht ▸ hB.2.2) hS hl
theorem zr_callSdP (cx : zCx Y p s m args meth c own cc nl ret) {d' d0 ml an : Nat} {C : String} {idx : Nat} {y : MethodName} {code : ByteArray} {rt : Option FieldType} {As : List Value} {st0 : List Value}  {fc : Option UInt64} {fk : UInt64 → Option ρ} (hM : ∀ v, fc = some v → zMt l y code ml rt d' As Y σ (zQd Y v σ)) (gd : GoodIn zG (va_wsS own idx y (.code y code ml rt :: zG))) (hd : y.cls ≠ "java/lang/invoke/MethodHandle" ∧ y.cls ≠ "java/lang/invoke/VarHandle" ∧ (parseMethodDescriptor y.desc).map (fun d => d.parameters.length) = some an) (hR : d' + 1 ≤ R.frames ∧ 8 + (ml + 11) + 40 * d' ≤ R.locals) (hkn : k ≤ R.cells ∧ n ≤ R.slots) (hn : As.length = an) (hst : st0 = As.reverse ++ rest) (hrest : (rest.map fun v => v.category).sum ≤ 8) (hdg : decode cc pc = .ok (.invokestatic idx, 3)) (kk : ∀ v : UInt64, zWo Y p l e R s m args below meth c nl k n kq σ lv (.double v :: rest) (pc + 3) (fk v)) : zWo Y p l e R s m args below meth c nl k n kq σ lv (st0) pc (zbd fc fk) := by
  obtain ⟨hx, hb, hml, hr0, hlk, hown, hts, hok, hz⟩ := id cx
  intro r hr H locs ls hH hS hl
  obtain ⟨v, hf, hr⟩ := zbd_of hr
  have hc1 : k + 0 ≤ R.cells := hkn.1
  have hs1 : n + 0 ≤ R.slots := hkn.2
  refine va_calld (va_runS (As := As) (rest := rest) ⟨hx, hb, hml, hown, hts⟩ (hM v hf) (va_cwS an hts gd rfl rfl rfl hd ⟨hR.1, hR.2⟩) ⟨zW.blind, fun U hU hW => zpre cx hH hS U hU hW⟩ rfl hn hl.1 hst (lv_room hrest) hdg ⟨hc1, hs1⟩) hS (fun q _ h => h) (fun q h => h) (fun r1 u t H1 locs ht hvm hw hB hz1 hk1 hS => ?_)
  rw [show r1 = _ from hw]
  exact kk v r hr H1 locs ls (ht ▸ hB.2.2) hS hl
theorem zr_callSdE (cx : zCx Y p s m args meth c own cc nl ret) {d' d0 ml an : Nat} {C : String} {idx : Nat} {y : MethodName} {code : ByteArray} {rt : Option FieldType} {As : List Value} {st0 : List Value}  {fc : Option (UInt64 × zSt)} {fk : UInt64 × zSt → Option ρ} (hM : ∀ v σ', fc = some (v, σ') → zMt l y code ml rt d' As Y σ (zQd Y v σ')) (gd : GoodIn zG (va_wsS own idx y (.code y code ml rt :: zG))) (hd : y.cls ≠ "java/lang/invoke/MethodHandle" ∧ y.cls ≠ "java/lang/invoke/VarHandle" ∧ (parseMethodDescriptor y.desc).map (fun d => d.parameters.length) = some an) (hR : d' + 1 ≤ R.frames ∧ 8 + (ml + 11) + 40 * d' ≤ R.locals) (hkn : k ≤ R.cells ∧ n ≤ R.slots) (hn : As.length = an) (hst : st0 = As.reverse ++ rest) (hrest : (rest.map fun v => v.category).sum ≤ 8) (hdg : decode cc pc = .ok (.invokestatic idx, 3)) (kk : ∀ (v : UInt64) (σ' : zSt), zWo Y p l e R s m args below meth c nl k n kq σ' lv (.double v :: rest) (pc + 3) (fk (v, σ'))) : zWo Y p l e R s m args below meth c nl k n kq σ lv (st0) pc (zbd fc fk) := by
  obtain ⟨hx, hb, hml, hr0, hlk, hown, hts, hok, hz⟩ := id cx
  intro r hr H locs ls hH hS hl
  obtain ⟨⟨v, σ'⟩, hf, hr⟩ := zbd_of hr
  have hc1 : k + 0 ≤ R.cells := hkn.1
  have hs1 : n + 0 ≤ R.slots := hkn.2
  refine va_calld (va_runS (As := As) (rest := rest) ⟨hx, hb, hml, hown, hts⟩ (hM v σ' hf) (va_cwS an hts gd rfl rfl rfl hd ⟨hR.1, hR.2⟩) ⟨zW.blind, fun U hU hW => zpre cx hH hS U hU hW⟩ rfl hn hl.1 hst (lv_room hrest) hdg ⟨hc1, hs1⟩) hS (fun q _ h => h) (fun q h => h) (fun r1 u t H1 locs ht hvm hw hB hz1 hk1 hS => ?_)
  rw [show r1 = _ from hw]
  exact kk v σ' r hr H1 locs ls (ht ▸ hB.2.2) hS hl
theorem zr_callSvE (cx : zCx Y p s m args meth c own cc nl ret) {d' d0 ml an : Nat} {C : String} {idx : Nat} {y : MethodName} {code : ByteArray} {rt : Option FieldType} {As : List Value} {st0 : List Value}  {fc : Option zSt} {fk : zSt → Option ρ} (hM : ∀ σ', fc = some σ' → zMt l y code ml rt d' As Y σ (zQv Y σ')) (gd : GoodIn zG (va_wsS own idx y (.code y code ml rt :: zG))) (hd : y.cls ≠ "java/lang/invoke/MethodHandle" ∧ y.cls ≠ "java/lang/invoke/VarHandle" ∧ (parseMethodDescriptor y.desc).map (fun d => d.parameters.length) = some an) (hR : d' + 1 ≤ R.frames ∧ 8 + (ml + 11) + 40 * d' ≤ R.locals) (hkn : k ≤ R.cells ∧ n ≤ R.slots) (hn : As.length = an) (hst : st0 = As.reverse ++ rest) (hrest : (rest.map fun v => v.category).sum ≤ 8) (hdg : decode cc pc = .ok (.invokestatic idx, 3)) (kk : ∀ σ' : zSt, zWo Y p l e R s m args below meth c nl k n kq σ' lv (rest) (pc + 3) (fk σ')) : zWo Y p l e R s m args below meth c nl k n kq σ lv (st0) pc (zbd fc fk) := by
  obtain ⟨hx, hb, hml, hr0, hlk, hown, hts, hok, hz⟩ := id cx
  intro r hr H locs ls hH hS hl
  obtain ⟨σ', hf, hr⟩ := zbd_of hr
  have hc1 : k + 0 ≤ R.cells := hkn.1
  have hs1 : n + 0 ≤ R.slots := hkn.2
  refine va_callv (va_runS (As := As) (rest := rest) ⟨hx, hb, hml, hown, hts⟩ (hM σ' hf) (va_cwS an hts gd rfl rfl rfl hd ⟨hR.1, hR.2⟩) ⟨zW.blind, fun U hU hW => zpre cx hH hS U hU hW⟩ rfl hn hl.1 hst (lv_room hrest) hdg ⟨hc1, hs1⟩) hS (fun q _ h => h) (fun q h => h) (fun u t H1 locs ht hvm hw hB hz1 hk1 hS => ?_)
  exact kk σ' r hr H1 locs ls (ht ▸ hB.2.2) hS hl
end ZHEAP
end
