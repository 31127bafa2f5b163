section ZWORDS
set_option maxRecDepth 100000
theorem zw_0 : Cond.selects "ShipLanterns" ⟨"ShipLanterns", "readSigns", "()I"⟩ ⟨"ShipLanterns", "readSigns", "()I"⟩ ∈ zG := zG_mem 0 rfl rfl
theorem zw_1 : Cond.selects "ShipLanterns$PartReader" ⟨"ShipLanterns$PartReader", "takesDigit", "(I)Z"⟩ ⟨"ShipLanterns$PartReader", "takesDigit", "(I)Z"⟩ ∈ zG := zG_mem 1 rfl rfl
theorem zw_2 : Cond.selects "ShipLanterns$PartReader" ⟨"ShipLanterns$PartReader", "leastValue", "()I"⟩ ⟨"ShipLanterns$PartReader", "leastValue", "()I"⟩ ∈ zG := zG_mem 2 rfl rfl
theorem zw_3 : Cond.selects "ShipLanterns$PartReader" ⟨"ShipLanterns$PartReader", "mostValue", "()I"⟩ ⟨"ShipLanterns$PartReader", "mostValue", "()I"⟩ ∈ zG := zG_mem 3 rfl rfl
theorem zw_4 : Cond.selects "ShipLanterns$PartReader" ⟨"ShipLanterns$PartReader", "takesKind", "(I)Z"⟩ ⟨"ShipLanterns$PartReader", "takesKind", "(I)Z"⟩ ∈ zG := zG_mem 4 rfl rfl
theorem zw_5 : Cond.selects "ShipLanterns$PartReader" ⟨"ShipLanterns$PartReader", "takesSeparator", "(I)Z"⟩ ⟨"ShipLanterns$PartReader", "takesSeparator", "(I)Z"⟩ ∈ zG := zG_mem 5 rfl rfl
theorem zw_6 : Cond.selects "ShipLanterns$PartReader" ⟨"ShipLanterns$PartReader", "lastPlace", "()I"⟩ ⟨"ShipLanterns$PartReader", "lastPlace", "()I"⟩ ∈ zG := zG_mem 6 rfl rfl
theorem zw_7 : Cond.selects "ShipLanterns" ⟨"ShipLanterns", "countOf", "(I)I"⟩ ⟨"ShipLanterns", "countOf", "(I)I"⟩ ∈ zG := zG_mem 7 rfl rfl
theorem zw_8 : Cond.selects "ShipLanterns" ⟨"ShipLanterns", "hashBoxes", "(J)J"⟩ ⟨"ShipLanterns", "hashBoxes", "(J)J"⟩ ∈ zG := zG_mem 8 rfl rfl
theorem zw_9 : Cond.selects "ShipLanterns" ⟨"ShipLanterns", "boxProperty", "(II)I"⟩ ⟨"ShipLanterns", "boxProperty", "(II)I"⟩ ∈ zG := zG_mem 9 rfl rfl
theorem zw_10 : Cond.selects "ShipLanterns" ⟨"ShipLanterns", "lanternsBurningAt", "(I)I"⟩ ⟨"ShipLanterns", "lanternsBurningAt", "(I)I"⟩ ∈ zG := zG_mem 10 rfl rfl
theorem zw_11 : Cond.selects "ShipLanterns" ⟨"ShipLanterns", "unitsAt", "(I)I"⟩ ⟨"ShipLanterns", "unitsAt", "(I)I"⟩ ∈ zG := zG_mem 11 rfl rfl
theorem zw_12 : Cond.selects "ShipLanterns" ⟨"ShipLanterns", "terminalProperty", "(III)I"⟩ ⟨"ShipLanterns", "terminalProperty", "(III)I"⟩ ∈ zG := zG_mem 12 rfl rfl
theorem zw_13 : Cond.selects "ShipLanterns" ⟨"ShipLanterns", "strengthsAt", "(II)I"⟩ ⟨"ShipLanterns", "strengthsAt", "(II)I"⟩ ∈ zG := zG_mem 13 rfl rfl
theorem zw_14 : Cond.selects "ShipLanterns" ⟨"ShipLanterns", "hashLanternsAndFaults", "(J)J"⟩ ⟨"ShipLanterns", "hashLanternsAndFaults", "(J)J"⟩ ∈ zG := zG_mem 14 rfl rfl
theorem zw_15 : Cond.selects "ShipLanterns" ⟨"ShipLanterns", "lanternProperty", "(II)I"⟩ ⟨"ShipLanterns", "lanternProperty", "(II)I"⟩ ∈ zG := zG_mem 15 rfl rfl
theorem zw_16 : Cond.selects "ShipLanterns" ⟨"ShipLanterns", "darkReason", "(I)I"⟩ ⟨"ShipLanterns", "darkReason", "(I)I"⟩ ∈ zG := zG_mem 16 rfl rfl
theorem zw_17 : Cond.selects "ShipLanterns" ⟨"ShipLanterns", "faultProperty", "(II)I"⟩ ⟨"ShipLanterns", "faultProperty", "(II)I"⟩ ∈ zG := zG_mem 17 rfl rfl
theorem zw_18 : Cond.selects "ShipLanterns" ⟨"ShipLanterns", "boxesChangingLamp", "(I)I"⟩ ⟨"ShipLanterns", "boxesChangingLamp", "(I)I"⟩ ∈ zG := zG_mem 18 rfl rfl
theorem zw_19 : Cond.selects "ShipLanterns" ⟨"ShipLanterns", "hashTrials", "(J)J"⟩ ⟨"ShipLanterns", "hashTrials", "(J)J"⟩ ∈ zG := zG_mem 19 rfl rfl
theorem zw_20 : Cond.selects "ShipLanterns" ⟨"ShipLanterns", "surveyWithWholeFuses", "()V"⟩ ⟨"ShipLanterns", "surveyWithWholeFuses", "()V"⟩ ∈ zG := zG_mem 20 rfl rfl
theorem zw_21 : Cond.selects "ShipLanterns$Survey" ⟨"ShipLanterns$Survey", "clearSums", "(I)V"⟩ ⟨"ShipLanterns$Survey", "clearSums", "(I)V"⟩ ∈ zG := zG_mem 21 rfl rfl
theorem zw_22 : Cond.selects "ShipLanterns$Survey" ⟨"ShipLanterns$Survey", "followCables", "(LShipLanterns$Cables;)V"⟩ ⟨"ShipLanterns$Survey", "followCables", "(LShipLanterns$Cables;)V"⟩ ∈ zG := zG_mem 22 rfl rfl
theorem zw_23 : Cond.selects "ShipLanterns$Survey" ⟨"ShipLanterns$Survey", "findBurning", "(LShipLanterns$Lanterns;)V"⟩ ⟨"ShipLanterns$Survey", "findBurning", "(LShipLanterns$Lanterns;)V"⟩ ∈ zG := zG_mem 23 rfl rfl
theorem zw_24 : Cond.selects "ShipLanterns$Survey" ⟨"ShipLanterns$Survey", "findStrengths", "(LShipLanterns$Faults;)V"⟩ ⟨"ShipLanterns$Survey", "findStrengths", "(LShipLanterns$Faults;)V"⟩ ∈ zG := zG_mem 24 rfl rfl
theorem zw_25 : Cond.selects "ShipLanterns$Survey" ⟨"ShipLanterns$Survey", "sumUpStrengths", "(LShipLanterns$Cables;)V"⟩ ⟨"ShipLanterns$Survey", "sumUpStrengths", "(LShipLanterns$Cables;)V"⟩ ∈ zG := zG_mem 25 rfl rfl
theorem zw_26 : Cond.selects "ShipLanterns$Survey" ⟨"ShipLanterns$Survey", "shareLeak", "(LShipLanterns$Faults;I)V"⟩ ⟨"ShipLanterns$Survey", "shareLeak", "(LShipLanterns$Faults;I)V"⟩ ∈ zG := zG_mem 26 rfl rfl
theorem zw_27 : Cond.selects "ShipLanterns$Survey" ⟨"ShipLanterns$Survey", "sumUpCurrents", "(LShipLanterns$Cables;)V"⟩ ⟨"ShipLanterns$Survey", "sumUpCurrents", "(LShipLanterns$Cables;)V"⟩ ∈ zG := zG_mem 27 rfl rfl
theorem zw_28 : Cond.selects "ShipLanterns" ⟨"ShipLanterns", "burningIfToggled", "(I)I"⟩ ⟨"ShipLanterns", "burningIfToggled", "(I)I"⟩ ∈ zG := zG_mem 28 rfl rfl
theorem zw_29 : Cond.selects "ShipLanterns" ⟨"ShipLanterns", "hashSigns", "(J)J"⟩ ⟨"ShipLanterns", "hashSigns", "(J)J"⟩ ∈ zG := zG_mem 29 rfl rfl
theorem zw_30 : Cond.selects "ShipLanterns" ⟨"ShipLanterns", "isBox", "(I)Z"⟩ ⟨"ShipLanterns", "isBox", "(I)Z"⟩ ∈ zG := zG_mem 30 rfl rfl
theorem zw_31 : Cond.selects "java/lang/Throwable" ⟨"java/lang/Throwable", "fillInStackTrace", "(I)Ljava/lang/Throwable;"⟩ ⟨"java/lang/Throwable", "fillInStackTrace", "(I)Ljava/lang/Throwable;"⟩ ∈ zG := zG_mem 31 rfl rfl
theorem zw_32 : Cond.selects "ShipLanterns$History" ⟨"ShipLanterns$History", "dropOldest", "()V"⟩ ⟨"ShipLanterns$History", "dropOldest", "()V"⟩ ∈ zG := zG_mem 32 rfl rfl
theorem zw_33 : Cond.selects "ShipLanterns" ⟨"ShipLanterns", "isFedBox", "(I)Z"⟩ ⟨"ShipLanterns", "isFedBox", "(I)Z"⟩ ∈ zG := zG_mem 33 rfl rfl
theorem zw_34 : Cond.selects "ShipLanterns" ⟨"ShipLanterns", "isLantern", "(I)Z"⟩ ⟨"ShipLanterns", "isLantern", "(I)Z"⟩ ∈ zG := zG_mem 34 rfl rfl
theorem zw_35 : Cond.selects "ShipLanterns" ⟨"ShipLanterns", "isFault", "(I)Z"⟩ ⟨"ShipLanterns", "isFault", "(I)Z"⟩ ∈ zG := zG_mem 35 rfl rfl
theorem zw_36 : Cond.selects "ShipLanterns" ⟨"ShipLanterns", "addParts", "()I"⟩ ⟨"ShipLanterns", "addParts", "()I"⟩ ∈ zG := zG_mem 36 rfl rfl
theorem zw_37 : Cond.selects "ShipLanterns" ⟨"ShipLanterns", "addPart", "()Z"⟩ ⟨"ShipLanterns", "addPart", "()Z"⟩ ∈ zG := zG_mem 37 rfl rfl
theorem zw_38 : Cond.selects "ShipLanternsModel" ⟨"ShipLanternsModel", "whyNoBox", "(III)I"⟩ ⟨"ShipLanternsModel", "whyNoBox", "(III)I"⟩ ∈ zG := zG_mem 38 rfl rfl
theorem zw_39 : Cond.selects "ShipLanternsModel" ⟨"ShipLanternsModel", "isBox", "(I)Z"⟩ ⟨"ShipLanternsModel", "isBox", "(I)Z"⟩ ∈ zG := zG_mem 39 rfl rfl
theorem zw_40 : Cond.selects "ShipLanternsModel" ⟨"ShipLanternsModel", "save", "()V"⟩ ⟨"ShipLanternsModel", "save", "()V"⟩ ∈ zG := zG_mem 40 rfl rfl
theorem zw_41 : Cond.selects "ShipLanternsModel" ⟨"ShipLanternsModel", "bringBox", "(IIIZ)V"⟩ ⟨"ShipLanternsModel", "bringBox", "(IIIZ)V"⟩ ∈ zG := zG_mem 41 rfl rfl
theorem zw_42 : Cond.selects "ShipLanternsModel" ⟨"ShipLanternsModel", "settle", "()V"⟩ ⟨"ShipLanternsModel", "settle", "()V"⟩ ∈ zG := zG_mem 42 rfl rfl
theorem zw_43 : Cond.selects "ShipLanternsModel" ⟨"ShipLanternsModel", "nextToBlow", "()I"⟩ ⟨"ShipLanternsModel", "nextToBlow", "()I"⟩ ∈ zG := zG_mem 43 rfl rfl
theorem zw_44 : Cond.selects "ShipLanternsModel" ⟨"ShipLanternsModel", "current", "(II)I"⟩ ⟨"ShipLanternsModel", "current", "(II)I"⟩ ∈ zG := zG_mem 44 rfl rfl
theorem zw_45 : Cond.selects "ShipLanternsModel" ⟨"ShipLanternsModel", "isAlive", "(II)Z"⟩ ⟨"ShipLanternsModel", "isAlive", "(II)Z"⟩ ∈ zG := zG_mem 45 rfl rfl
theorem zw_46 : Cond.selects "ShipLanternsModel" ⟨"ShipLanternsModel", "isSwitched", "(I)Z"⟩ ⟨"ShipLanternsModel", "isSwitched", "(I)Z"⟩ ∈ zG := zG_mem 46 rfl rfl
theorem zw_47 : Cond.selects "ShipLanternsModel" ⟨"ShipLanternsModel", "ofBox", "(II)I"⟩ ⟨"ShipLanternsModel", "ofBox", "(II)I"⟩ ∈ zG := zG_mem 47 rfl rfl
theorem zw_48 : Cond.selects "ShipLanternsModel" ⟨"ShipLanternsModel", "isWhole", "(II)Z"⟩ ⟨"ShipLanternsModel", "isWhole", "(II)Z"⟩ ∈ zG := zG_mem 48 rfl rfl
theorem zw_49 : Cond.selects "ShipLanternsModel" ⟨"ShipLanternsModel", "above", "(II)I"⟩ ⟨"ShipLanternsModel", "above", "(II)I"⟩ ∈ zG := zG_mem 49 rfl rfl
theorem zw_50 : Cond.selects "ShipLanternsModel" ⟨"ShipLanternsModel", "dark", "(I)I"⟩ ⟨"ShipLanternsModel", "dark", "(I)I"⟩ ∈ zG := zG_mem 50 rfl rfl
theorem zw_51 : Cond.selects "ShipLanternsModel" ⟨"ShipLanternsModel", "ofLantern", "(II)I"⟩ ⟨"ShipLanternsModel", "ofLantern", "(II)I"⟩ ∈ zG := zG_mem 51 rfl rfl
theorem zw_52 : Cond.selects "ShipLanternsModel" ⟨"ShipLanternsModel", "pole", "(II)I"⟩ ⟨"ShipLanternsModel", "pole", "(II)I"⟩ ∈ zG := zG_mem 52 rfl rfl
theorem zw_53 : Cond.selects "ShipLanternsModel" ⟨"ShipLanternsModel", "isBehind", "(II)Z"⟩ ⟨"ShipLanternsModel", "isBehind", "(II)Z"⟩ ∈ zG := zG_mem 53 rfl rfl
theorem zw_54 : Cond.selects "ShipLanternsModel" ⟨"ShipLanternsModel", "ofFault", "(II)I"⟩ ⟨"ShipLanternsModel", "ofFault", "(II)I"⟩ ∈ zG := zG_mem 54 rfl rfl
theorem zw_55 : Cond.selects "ShipLanternsModel" ⟨"ShipLanternsModel", "comesBy", "(IIII)Z"⟩ ⟨"ShipLanternsModel", "comesBy", "(IIII)Z"⟩ ∈ zG := zG_mem 55 rfl rfl
theorem zw_56 : Cond.selects "ShipLanternsModel" ⟨"ShipLanternsModel", "flow", "(I)I"⟩ ⟨"ShipLanternsModel", "flow", "(I)I"⟩ ∈ zG := zG_mem 56 rfl rfl
theorem zw_57 : Cond.selects "ShipLanternsModel" ⟨"ShipLanternsModel", "isLive", "(I)Z"⟩ ⟨"ShipLanternsModel", "isLive", "(I)Z"⟩ ∈ zG := zG_mem 57 rfl rfl
theorem zw_58 : Cond.selects "ShipLanternsModel" ⟨"ShipLanternsModel", "leak", "()I"⟩ ⟨"ShipLanternsModel", "leak", "()I"⟩ ∈ zG := zG_mem 58 rfl rfl
theorem zw_59 : Cond.selects "ShipLanternsModel" ⟨"ShipLanternsModel", "lampOf", "(I)I"⟩ ⟨"ShipLanternsModel", "lampOf", "(I)I"⟩ ∈ zG := zG_mem 59 rfl rfl
theorem zw_60 : Cond.selects "ShipLanternsModel" ⟨"ShipLanternsModel", "faultPole", "(I)I"⟩ ⟨"ShipLanternsModel", "faultPole", "(I)I"⟩ ∈ zG := zG_mem 60 rfl rfl
theorem zw_61 : Cond.selects "ShipLanternsModel" ⟨"ShipLanternsModel", "depth", "(I)I"⟩ ⟨"ShipLanternsModel", "depth", "(I)I"⟩ ∈ zG := zG_mem 61 rfl rfl
theorem zw_62 : Cond.selects "ShipLanternsModel" ⟨"ShipLanternsModel", "isFed", "(I)Z"⟩ ⟨"ShipLanternsModel", "isFed", "(I)Z"⟩ ∈ zG := zG_mem 62 rfl rfl
theorem zw_63 : Cond.selects "ShipLanternsModel" ⟨"ShipLanternsModel", "turn", "(II)V"⟩ ⟨"ShipLanternsModel", "turn", "(II)V"⟩ ∈ zG := zG_mem 63 rfl rfl
theorem zw_64 : Cond.selects "ShipLanternsModel" ⟨"ShipLanternsModel", "burning", "()I"⟩ ⟨"ShipLanternsModel", "burning", "()I"⟩ ∈ zG := zG_mem 64 rfl rfl
theorem zw_65 : Cond.selects "ShipLanternsModel" ⟨"ShipLanternsModel", "whyNoLantern", "(II)I"⟩ ⟨"ShipLanternsModel", "whyNoLantern", "(II)I"⟩ ∈ zG := zG_mem 65 rfl rfl
theorem zw_66 : Cond.selects "ShipLanternsModel" ⟨"ShipLanternsModel", "bringLantern", "(IIZ)V"⟩ ⟨"ShipLanternsModel", "bringLantern", "(IIZ)V"⟩ ∈ zG := zG_mem 66 rfl rfl
theorem zw_67 : Cond.selects "ShipLanternsModel" ⟨"ShipLanternsModel", "isLantern", "(I)Z"⟩ ⟨"ShipLanternsModel", "isLantern", "(I)Z"⟩ ∈ zG := zG_mem 67 rfl rfl
theorem zw_68 : Cond.selects "ShipLanternsModel" ⟨"ShipLanternsModel", "whyNoFault", "(III)I"⟩ ⟨"ShipLanternsModel", "whyNoFault", "(III)I"⟩ ∈ zG := zG_mem 68 rfl rfl
theorem zw_69 : Cond.selects "ShipLanternsModel" ⟨"ShipLanternsModel", "bringFault", "(III)V"⟩ ⟨"ShipLanternsModel", "bringFault", "(III)V"⟩ ∈ zG := zG_mem 69 rfl rfl
theorem zw_70 : Cond.selects "ShipLanternsModel" ⟨"ShipLanternsModel", "isFault", "(I)Z"⟩ ⟨"ShipLanternsModel", "isFault", "(I)Z"⟩ ∈ zG := zG_mem 70 rfl rfl
theorem zw_71 : Cond.selects "ShipLanternsModel" ⟨"ShipLanternsModel", "drawn", "()I"⟩ ⟨"ShipLanternsModel", "drawn", "()I"⟩ ∈ zG := zG_mem 71 rfl rfl
theorem zw_72 : Cond.selects "ShipLanternsModel" ⟨"ShipLanternsModel", "readText", "()I"⟩ ⟨"ShipLanternsModel", "readText", "()I"⟩ ∈ zG := zG_mem 72 rfl rfl
theorem zw_73 : Cond.selects "ShipLanternsModel" ⟨"ShipLanternsModel", "takes", "(I)Z"⟩ ⟨"ShipLanternsModel", "takes", "(I)Z"⟩ ∈ zG := zG_mem 73 rfl rfl
theorem zw_74 : Cond.selects "ShipLanternsModel" ⟨"ShipLanternsModel", "takesDigit", "(I)Z"⟩ ⟨"ShipLanternsModel", "takesDigit", "(I)Z"⟩ ∈ zG := zG_mem 74 rfl rfl
theorem zw_75 : Cond.selects "ShipLanternsModel" ⟨"ShipLanternsModel", "least", "()I"⟩ ⟨"ShipLanternsModel", "least", "()I"⟩ ∈ zG := zG_mem 75 rfl rfl
theorem zw_76 : Cond.selects "ShipLanternsModel" ⟨"ShipLanternsModel", "greatest", "()I"⟩ ⟨"ShipLanternsModel", "greatest", "()I"⟩ ∈ zG := zG_mem 76 rfl rfl
theorem zw_77 : Cond.selects "ShipLanternsModel" ⟨"ShipLanternsModel", "isSign", "(I)Z"⟩ ⟨"ShipLanternsModel", "isSign", "(I)Z"⟩ ∈ zG := zG_mem 77 rfl rfl
theorem zw_78 : Cond.selects "ShipLanternsModel" ⟨"ShipLanternsModel", "isPartOver", "()Z"⟩ ⟨"ShipLanternsModel", "isPartOver", "()Z"⟩ ∈ zG := zG_mem 78 rfl rfl
theorem zw_79 : Cond.selects "ShipLanternsModel" ⟨"ShipLanternsModel", "endPart", "()V"⟩ ⟨"ShipLanternsModel", "endPart", "()V"⟩ ∈ zG := zG_mem 79 rfl rfl
theorem zw_80 : Cond.selects "ShipLanternsModel" ⟨"ShipLanternsModel", "whyNoPart", "(I)I"⟩ ⟨"ShipLanternsModel", "whyNoPart", "(I)I"⟩ ∈ zG := zG_mem 80 rfl rfl
theorem zw_81 : Cond.selects "ShipLanternsModel" ⟨"ShipLanternsModel", "bringPart", "(I)V"⟩ ⟨"ShipLanternsModel", "bringPart", "(I)V"⟩ ∈ zG := zG_mem 81 rfl rfl
theorem zw_82 : Cond.selects "ShipLanternsModel" ⟨"ShipLanternsModel", "boxNow", "(II)I"⟩ ⟨"ShipLanternsModel", "boxNow", "(II)I"⟩ ∈ zG := zG_mem 82 rfl rfl
theorem zw_83 : Cond.selects "ShipLanternsModel" ⟨"ShipLanternsModel", "behind", "(I)I"⟩ ⟨"ShipLanternsModel", "behind", "(I)I"⟩ ∈ zG := zG_mem 83 rfl rfl
theorem zw_84 : Cond.selects "ShipLanternsModel" ⟨"ShipLanternsModel", "lanternsAt", "(IZ)I"⟩ ⟨"ShipLanternsModel", "lanternsAt", "(IZ)I"⟩ ∈ zG := zG_mem 84 rfl rfl
theorem zw_85 : Cond.selects "ShipLanternsModel" ⟨"ShipLanternsModel", "terminalNow", "(III)I"⟩ ⟨"ShipLanternsModel", "terminalNow", "(III)I"⟩ ∈ zG := zG_mem 85 rfl rfl
theorem zw_86 : Cond.selects "ShipLanternsModel" ⟨"ShipLanternsModel", "faultsAt", "(II)I"⟩ ⟨"ShipLanternsModel", "faultsAt", "(II)I"⟩ ∈ zG := zG_mem 86 rfl rfl
theorem zw_87 : Cond.selects "ShipLanternsModel" ⟨"ShipLanternsModel", "lanternNow", "(II)I"⟩ ⟨"ShipLanternsModel", "lanternNow", "(II)I"⟩ ∈ zG := zG_mem 87 rfl rfl
theorem zw_88 : Cond.selects "ShipLanternsModel" ⟨"ShipLanternsModel", "faultNow", "(II)I"⟩ ⟨"ShipLanternsModel", "faultNow", "(II)I"⟩ ∈ zG := zG_mem 88 rfl rfl
theorem zw_89 : Cond.selects "ShipLanternsModel" ⟨"ShipLanternsModel", "counted", "(I)I"⟩ ⟨"ShipLanternsModel", "counted", "(I)I"⟩ ∈ zG := zG_mem 89 rfl rfl
theorem zw_90 : Cond.selects "ShipLanternsModel" ⟨"ShipLanternsModel", "blownNow", "()I"⟩ ⟨"ShipLanternsModel", "blownNow", "()I"⟩ ∈ zG := zG_mem 90 rfl rfl
theorem zw_91 : Cond.selects "ShipLanternsModel" ⟨"ShipLanternsModel", "located", "(I)I"⟩ ⟨"ShipLanternsModel", "located", "(I)I"⟩ ∈ zG := zG_mem 91 rfl rfl
theorem zw_92 : Cond.selects "ShipLanternsModel" ⟨"ShipLanternsModel", "keepAside", "()V"⟩ ⟨"ShipLanternsModel", "keepAside", "()V"⟩ ∈ zG := zG_mem 92 rfl rfl
theorem zw_93 : Cond.selects "ShipLanternsModel" ⟨"ShipLanternsModel", "faultAnswer", "(I)I"⟩ ⟨"ShipLanternsModel", "faultAnswer", "(I)I"⟩ ∈ zG := zG_mem 93 rfl rfl
theorem zw_94 : Cond.selects "ShipLanternsModel" ⟨"ShipLanternsModel", "takeBack", "()V"⟩ ⟨"ShipLanternsModel", "takeBack", "()V"⟩ ∈ zG := zG_mem 94 rfl rfl
theorem zw_95 : Cond.selects "ShipLanternsModel" ⟨"ShipLanternsModel", "toggledAnswer", "(I)I"⟩ ⟨"ShipLanternsModel", "toggledAnswer", "(I)I"⟩ ∈ zG := zG_mem 95 rfl rfl
theorem zw_96 : Cond.selects "ShipLanternsModel" ⟨"ShipLanternsModel", "ratingAnswer", "(II)I"⟩ ⟨"ShipLanternsModel", "ratingAnswer", "(II)I"⟩ ∈ zG := zG_mem 96 rfl rfl
theorem zw_97 : Cond.selects "ShipLanternsModel" ⟨"ShipLanternsModel", "shareNow", "()D"⟩ ⟨"ShipLanternsModel", "shareNow", "()D"⟩ ∈ zG := zG_mem 97 rfl rfl
theorem zw_98 : Cond.selects "ShipLanternsModel" ⟨"ShipLanternsModel", "mix", "(J)V"⟩ ⟨"ShipLanternsModel", "mix", "(J)V"⟩ ∈ zG := zG_mem 98 rfl rfl
theorem zw_99 : Cond.selects "ShipLanternsModel" ⟨"ShipLanternsModel", "mixBox", "(I)V"⟩ ⟨"ShipLanternsModel", "mixBox", "(I)V"⟩ ∈ zG := zG_mem 99 rfl rfl
theorem zw_100 : (Jvm.Cond.initialized "ShipLanternsLaw") ∈ zG := zG_mem 100 rfl rfl
theorem zw_101 : (Jvm.Cond.initialized "ShipLanterns") ∈ zG := zG_mem 101 rfl rfl
theorem zw_102 : (Jvm.Cond.initialized "ShipLanterns$Ship") ∈ zG := zG_mem 102 rfl rfl
theorem zw_103 : (Jvm.Cond.initialized "ShipLanterns$Cables") ∈ zG := zG_mem 103 rfl rfl
theorem zw_104 : (Jvm.Cond.initialized "ShipLanterns$Lanterns") ∈ zG := zG_mem 104 rfl rfl
theorem zw_105 : (Jvm.Cond.initialized "ShipLanterns$Faults") ∈ zG := zG_mem 105 rfl rfl
theorem zw_106 : (Jvm.Cond.initialized "ShipLanterns$Survey") ∈ zG := zG_mem 106 rfl rfl
theorem zw_107 : (Jvm.Cond.initialized "ShipLanterns$History") ∈ zG := zG_mem 107 rfl rfl
theorem zw_108 : (Jvm.Cond.initialized "ShipLanterns$PartReader") ∈ zG := zG_mem 108 rfl rfl
theorem zw_109 : (Jvm.Cond.initialized "ShipLanternsModel") ∈ zG := zG_mem 109 rfl rfl
theorem zw_110 : (Jvm.Cond.initialized "java/lang/Throwable") ∈ zG := zG_mem 110 rfl rfl
theorem zw_111 : (Jvm.Cond.initialized "java/lang/Exception") ∈ zG := zG_mem 111 rfl rfl
theorem zw_112 : (Jvm.Cond.initialized "java/lang/RuntimeException") ∈ zG := zG_mem 112 rfl rfl
theorem zw_113 : (Jvm.Cond.initialized "java/lang/IndexOutOfBoundsException") ∈ zG := zG_mem 113 rfl rfl
theorem zw_114 : (Jvm.Cond.initialized "java/lang/IllegalArgumentException") ∈ zG := zG_mem 114 rfl rfl
theorem zw_115 : (Jvm.Cond.initialized "java/lang/IllegalStateException") ∈ zG := zG_mem 115 rfl rfl
theorem zw_116 : (Jvm.Cond.initialized "java/lang/Math") ∈ zG := zG_mem 116 rfl rfl
theorem zw_117 : (Jvm.Cond.initialized "java/lang/Double") ∈ zG := zG_mem 117 rfl rfl
theorem zw_118 : (Jvm.Cond.classLink "ShipLanternsLaw" (8 : Nat) "ShipLanterns") ∈ zG := zG_mem 118 rfl rfl
theorem zw_119 : (Jvm.Cond.instantiable "ShipLanterns" (9 : Nat)) ∈ zG := zG_mem 119 rfl rfl
theorem zw_120 : (Jvm.Cond.methodLink "ShipLanternsLaw" (91 : Nat) ({ cls := "ShipLanterns", name := "<init>", desc := "()V" } : Jvm.MethodName)) ∈ zG := zG_mem 120 rfl rfl
theorem zw_121 : (Jvm.Cond.instanceMethod ({ cls := "ShipLanterns", name := "<init>", desc := "()V" } : Jvm.MethodName)) ∈ zG := zG_mem 121 rfl rfl
theorem zw_122 : (Jvm.Cond.code ({ cls := "ShipLanterns", name := "<init>", desc := "()V" } : Jvm.MethodName) prog_1_method_1_code (1 : Nat) (Option.none : Option Jvm.ClassFile.FieldType)) ∈ zG := zG_mem 122 rfl rfl
theorem zw_123 : (Jvm.Cond.methodLink "ShipLanterns" (3 : Nat) ({ cls := "java/lang/Object", name := "<init>", desc := "()V" } : Jvm.MethodName)) ∈ zG := zG_mem 123 rfl rfl
theorem zw_124 : (Jvm.Cond.instanceMethod ({ cls := "java/lang/Object", name := "<init>", desc := "()V" } : Jvm.MethodName)) ∈ zG := zG_mem 124 rfl rfl
theorem zw_125 : (Jvm.Cond.code ({ cls := "java/lang/Object", name := "<init>", desc := "()V" } : Jvm.MethodName) object_method_1_code (1 : Nat) (Option.none : Option Jvm.ClassFile.FieldType)) ∈ zG := zG_mem 125 rfl rfl
theorem zw_126 : (Jvm.Cond.classLink "ShipLanterns" (9 : Nat) "ShipLanterns$Ship") ∈ zG := zG_mem 126 rfl rfl
theorem zw_127 : (Jvm.Cond.instantiable "ShipLanterns$Ship" (8 : Nat)) ∈ zG := zG_mem 127 rfl rfl
theorem zw_129 : (Jvm.Cond.instanceMethod ({ cls := "ShipLanterns$Ship", name := "<init>", desc := "()V" } : Jvm.MethodName)) ∈ zG := zG_mem 129 rfl rfl
theorem zw_130 : (Jvm.Cond.code ({ cls := "ShipLanterns$Ship", name := "<init>", desc := "()V" } : Jvm.MethodName) prog_7_method_1_code (1 : Nat) (Option.none : Option Jvm.ClassFile.FieldType)) ∈ zG := zG_mem 130 rfl rfl
theorem zw_131 : (Jvm.Cond.methodLink "ShipLanterns$Ship" (3 : Nat) ({ cls := "java/lang/Object", name := "<init>", desc := "()V" } : Jvm.MethodName)) ∈ zG := zG_mem 131 rfl rfl
theorem zw_132 : (Jvm.Cond.classLink "ShipLanterns$Ship" (9 : Nat) "ShipLanterns$Cables") ∈ zG := zG_mem 132 rfl rfl
theorem zw_133 : (Jvm.Cond.instantiable "ShipLanterns$Cables" (6 : Nat)) ∈ zG := zG_mem 133 rfl rfl
theorem zw_134 : (Jvm.Cond.methodLink "ShipLanterns$Ship" (11 : Nat) ({ cls := "ShipLanterns$Cables", name := "<init>", desc := "()V" } : Jvm.MethodName)) ∈ zG := zG_mem 134 rfl rfl
theorem zw_135 : (Jvm.Cond.instanceMethod ({ cls := "ShipLanterns$Cables", name := "<init>", desc := "()V" } : Jvm.MethodName)) ∈ zG := zG_mem 135 rfl rfl
theorem zw_136 : (Jvm.Cond.code ({ cls := "ShipLanterns$Cables", name := "<init>", desc := "()V" } : Jvm.MethodName) prog_2_method_1_code (1 : Nat) (Option.none : Option Jvm.ClassFile.FieldType)) ∈ zG := zG_mem 136 rfl rfl
theorem zw_137 : (Jvm.Cond.methodLink "ShipLanterns$Cables" (3 : Nat) ({ cls := "java/lang/Object", name := "<init>", desc := "()V" } : Jvm.MethodName)) ∈ zG := zG_mem 137 rfl rfl
theorem zw_138 : (Jvm.Cond.fieldLink "ShipLanterns$Cables" (9 : Nat) "ShipLanterns$Cables" "boxes" "I") ∈ zG := zG_mem 138 rfl rfl
theorem zw_139 : (Jvm.Cond.fieldLink "ShipLanterns$Survey" (56 : Nat) "ShipLanterns$Cables" "boxes" "I") ∈ zG := zG_mem 139 rfl rfl
theorem zw_140 : (Jvm.Cond.fieldLink "ShipLanterns" (77 : Nat) "ShipLanterns$Cables" "boxes" "I") ∈ zG := zG_mem 140 rfl rfl
theorem zw_141 : (Jvm.Cond.fieldLink "ShipLanterns$Cables" (15 : Nat) "ShipLanterns$Cables" "parent" "[I") ∈ zG := zG_mem 141 rfl rfl
theorem zw_142 : (Jvm.Cond.fieldLink "ShipLanterns$Survey" (115 : Nat) "ShipLanterns$Cables" "parent" "[I") ∈ zG := zG_mem 142 rfl rfl
theorem zw_143 : (Jvm.Cond.fieldLink "ShipLanterns" (351 : Nat) "ShipLanterns$Cables" "parent" "[I") ∈ zG := zG_mem 143 rfl rfl
theorem zw_144 : (Jvm.Cond.fieldLink "ShipLanterns$Cables" (19 : Nat) "ShipLanterns$Cables" "crossed" "[Z") ∈ zG := zG_mem 144 rfl rfl
theorem zw_145 : (Jvm.Cond.fieldLink "ShipLanterns" (112 : Nat) "ShipLanterns$Cables" "crossed" "[Z") ∈ zG := zG_mem 145 rfl rfl
theorem zw_146 : (Jvm.Cond.fieldLink "ShipLanterns$Cables" (23 : Nat) "ShipLanterns$Cables" "closed" "[Z") ∈ zG := zG_mem 146 rfl rfl
theorem zw_147 : (Jvm.Cond.fieldLink "ShipLanterns" (104 : Nat) "ShipLanterns$Cables" "closed" "[Z") ∈ zG := zG_mem 147 rfl rfl
theorem zw_148 : (Jvm.Cond.fieldLink "ShipLanterns$Survey" (118 : Nat) "ShipLanterns$Cables" "closed" "[Z") ∈ zG := zG_mem 148 rfl rfl
theorem zw_149 : (Jvm.Cond.fieldLink "ShipLanterns$Cables" (26 : Nat) "ShipLanterns$Cables" "rating" "[I") ∈ zG := zG_mem 149 rfl rfl
theorem zw_150 : (Jvm.Cond.fieldLink "ShipLanterns" (128 : Nat) "ShipLanterns$Cables" "rating" "[I") ∈ zG := zG_mem 150 rfl rfl
theorem zw_151 : (Jvm.Cond.fieldLink "ShipLanterns$Survey" (112 : Nat) "ShipLanterns$Cables" "rating" "[I") ∈ zG := zG_mem 151 rfl rfl
theorem zw_152 : (Jvm.Cond.fieldLink "ShipLanterns$Cables" (29 : Nat) "ShipLanterns$Cables" "blown" "[Z") ∈ zG := zG_mem 152 rfl rfl
theorem zw_153 : (Jvm.Cond.fieldLink "ShipLanterns" (131 : Nat) "ShipLanterns$Cables" "blown" "[Z") ∈ zG := zG_mem 153 rfl rfl
theorem zw_154 : (Jvm.Cond.fieldLink "ShipLanterns$Survey" (124 : Nat) "ShipLanterns$Cables" "blown" "[Z") ∈ zG := zG_mem 154 rfl rfl
theorem zw_155 : (Jvm.Cond.lays "ShipLanterns$Cables" "ShipLanterns$Cables" "boxes" "I") ∈ zG := zG_mem 155 rfl rfl
theorem zw_157 : (Jvm.Cond.laysFinal "ShipLanterns$Cables" "ShipLanterns$Cables" "parent" "[I") ∈ zG := zG_mem 157 rfl rfl
theorem zw_159 : (Jvm.Cond.laysFinal "ShipLanterns$Cables" "ShipLanterns$Cables" "crossed" "[Z") ∈ zG := zG_mem 159 rfl rfl
theorem zw_161 : (Jvm.Cond.laysFinal "ShipLanterns$Cables" "ShipLanterns$Cables" "closed" "[Z") ∈ zG := zG_mem 161 rfl rfl
theorem zw_163 : (Jvm.Cond.laysFinal "ShipLanterns$Cables" "ShipLanterns$Cables" "rating" "[I") ∈ zG := zG_mem 163 rfl rfl
theorem zw_165 : (Jvm.Cond.laysFinal "ShipLanterns$Cables" "ShipLanterns$Cables" "blown" "[Z") ∈ zG := zG_mem 165 rfl rfl
theorem zw_168 : (Jvm.Cond.arrayClass Jvm.ClassFile.FieldType.int) ∈ zG := zG_mem 168 rfl rfl
theorem zw_169 : (Jvm.Cond.arrayClass Jvm.ClassFile.FieldType.boolean) ∈ zG := zG_mem 169 rfl rfl
theorem zw_170 : (Jvm.Cond.classLink "ShipLanterns$Ship" (18 : Nat) "ShipLanterns$Lanterns") ∈ zG := zG_mem 170 rfl rfl
theorem zw_171 : (Jvm.Cond.instantiable "ShipLanterns$Lanterns" (4 : Nat)) ∈ zG := zG_mem 171 rfl rfl
theorem zw_173 : (Jvm.Cond.instanceMethod ({ cls := "ShipLanterns$Lanterns", name := "<init>", desc := "()V" } : Jvm.MethodName)) ∈ zG := zG_mem 173 rfl rfl
theorem zw_174 : (Jvm.Cond.code ({ cls := "ShipLanterns$Lanterns", name := "<init>", desc := "()V" } : Jvm.MethodName) prog_5_method_1_code (1 : Nat) (Option.none : Option Jvm.ClassFile.FieldType)) ∈ zG := zG_mem 174 rfl rfl
theorem zw_175 : (Jvm.Cond.methodLink "ShipLanterns$Lanterns" (3 : Nat) ({ cls := "java/lang/Object", name := "<init>", desc := "()V" } : Jvm.MethodName)) ∈ zG := zG_mem 175 rfl rfl
theorem zw_176 : (Jvm.Cond.fieldLink "ShipLanterns$Lanterns" (9 : Nat) "ShipLanterns$Lanterns" "many" "I") ∈ zG := zG_mem 176 rfl rfl
theorem zw_177 : (Jvm.Cond.fieldLink "ShipLanterns" (146 : Nat) "ShipLanterns$Lanterns" "many" "I") ∈ zG := zG_mem 177 rfl rfl
theorem zw_178 : (Jvm.Cond.fieldLink "ShipLanterns$Survey" (127 : Nat) "ShipLanterns$Lanterns" "many" "I") ∈ zG := zG_mem 178 rfl rfl
theorem zw_179 : (Jvm.Cond.fieldLink "ShipLanterns$Lanterns" (15 : Nat) "ShipLanterns$Lanterns" "box" "[I") ∈ zG := zG_mem 179 rfl rfl
theorem zw_180 : (Jvm.Cond.fieldLink "ShipLanterns$Survey" (132 : Nat) "ShipLanterns$Lanterns" "box" "[I") ∈ zG := zG_mem 180 rfl rfl
theorem zw_181 : (Jvm.Cond.fieldLink "ShipLanterns" (366 : Nat) "ShipLanterns$Lanterns" "box" "[I") ∈ zG := zG_mem 181 rfl rfl
theorem zw_182 : (Jvm.Cond.fieldLink "ShipLanterns$Lanterns" (19 : Nat) "ShipLanterns$Lanterns" "units" "[I") ∈ zG := zG_mem 182 rfl rfl
theorem zw_183 : (Jvm.Cond.fieldLink "ShipLanterns$Survey" (138 : Nat) "ShipLanterns$Lanterns" "units" "[I") ∈ zG := zG_mem 183 rfl rfl
theorem zw_184 : (Jvm.Cond.fieldLink "ShipLanterns" (369 : Nat) "ShipLanterns$Lanterns" "units" "[I") ∈ zG := zG_mem 184 rfl rfl
theorem zw_185 : (Jvm.Cond.fieldLink "ShipLanterns$Lanterns" (22 : Nat) "ShipLanterns$Lanterns" "particular" "[Z") ∈ zG := zG_mem 185 rfl rfl
theorem zw_186 : (Jvm.Cond.fieldLink "ShipLanterns$Survey" (135 : Nat) "ShipLanterns$Lanterns" "particular" "[Z") ∈ zG := zG_mem 186 rfl rfl
theorem zw_187 : (Jvm.Cond.fieldLink "ShipLanterns" (385 : Nat) "ShipLanterns$Lanterns" "particular" "[Z") ∈ zG := zG_mem 187 rfl rfl
theorem zw_188 : (Jvm.Cond.lays "ShipLanterns$Lanterns" "ShipLanterns$Lanterns" "many" "I") ∈ zG := zG_mem 188 rfl rfl
theorem zw_190 : (Jvm.Cond.laysFinal "ShipLanterns$Lanterns" "ShipLanterns$Lanterns" "box" "[I") ∈ zG := zG_mem 190 rfl rfl
theorem zw_192 : (Jvm.Cond.laysFinal "ShipLanterns$Lanterns" "ShipLanterns$Lanterns" "units" "[I") ∈ zG := zG_mem 192 rfl rfl
theorem zw_194 : (Jvm.Cond.laysFinal "ShipLanterns$Lanterns" "ShipLanterns$Lanterns" "particular" "[Z") ∈ zG := zG_mem 194 rfl rfl
theorem zw_197 : (Jvm.Cond.classLink "ShipLanterns$Ship" (25 : Nat) "ShipLanterns$Faults") ∈ zG := zG_mem 197 rfl rfl
theorem zw_198 : (Jvm.Cond.instantiable "ShipLanterns$Faults" (4 : Nat)) ∈ zG := zG_mem 198 rfl rfl
theorem zw_200 : (Jvm.Cond.instanceMethod ({ cls := "ShipLanterns$Faults", name := "<init>", desc := "()V" } : Jvm.MethodName)) ∈ zG := zG_mem 200 rfl rfl
theorem zw_201 : (Jvm.Cond.code ({ cls := "ShipLanterns$Faults", name := "<init>", desc := "()V" } : Jvm.MethodName) prog_3_method_1_code (1 : Nat) (Option.none : Option Jvm.ClassFile.FieldType)) ∈ zG := zG_mem 201 rfl rfl
theorem zw_202 : (Jvm.Cond.methodLink "ShipLanterns$Faults" (3 : Nat) ({ cls := "java/lang/Object", name := "<init>", desc := "()V" } : Jvm.MethodName)) ∈ zG := zG_mem 202 rfl rfl
theorem zw_203 : (Jvm.Cond.fieldLink "ShipLanterns$Faults" (9 : Nat) "ShipLanterns$Faults" "many" "I") ∈ zG := zG_mem 203 rfl rfl
theorem zw_204 : (Jvm.Cond.fieldLink "ShipLanterns" (179 : Nat) "ShipLanterns$Faults" "many" "I") ∈ zG := zG_mem 204 rfl rfl
theorem zw_205 : (Jvm.Cond.fieldLink "ShipLanterns$Survey" (141 : Nat) "ShipLanterns$Faults" "many" "I") ∈ zG := zG_mem 205 rfl rfl
theorem zw_206 : (Jvm.Cond.fieldLink "ShipLanterns$Faults" (15 : Nat) "ShipLanterns$Faults" "box" "[I") ∈ zG := zG_mem 206 rfl rfl
theorem zw_207 : (Jvm.Cond.fieldLink "ShipLanterns$Survey" (144 : Nat) "ShipLanterns$Faults" "box" "[I") ∈ zG := zG_mem 207 rfl rfl
theorem zw_208 : (Jvm.Cond.fieldLink "ShipLanterns" (381 : Nat) "ShipLanterns$Faults" "box" "[I") ∈ zG := zG_mem 208 rfl rfl
theorem zw_209 : (Jvm.Cond.fieldLink "ShipLanterns$Faults" (19 : Nat) "ShipLanterns$Faults" "terminal" "[I") ∈ zG := zG_mem 209 rfl rfl
theorem zw_210 : (Jvm.Cond.fieldLink "ShipLanterns$Survey" (145 : Nat) "ShipLanterns$Faults" "terminal" "[I") ∈ zG := zG_mem 210 rfl rfl
theorem zw_211 : (Jvm.Cond.fieldLink "ShipLanterns" (382 : Nat) "ShipLanterns$Faults" "terminal" "[I") ∈ zG := zG_mem 211 rfl rfl
theorem zw_212 : (Jvm.Cond.fieldLink "ShipLanterns$Faults" (22 : Nat) "ShipLanterns$Faults" "strength" "[I") ∈ zG := zG_mem 212 rfl rfl
theorem zw_213 : (Jvm.Cond.fieldLink "ShipLanterns" (192 : Nat) "ShipLanterns$Faults" "strength" "[I") ∈ zG := zG_mem 213 rfl rfl
theorem zw_214 : (Jvm.Cond.fieldLink "ShipLanterns$Survey" (148 : Nat) "ShipLanterns$Faults" "strength" "[I") ∈ zG := zG_mem 214 rfl rfl
theorem zw_215 : (Jvm.Cond.lays "ShipLanterns$Faults" "ShipLanterns$Faults" "many" "I") ∈ zG := zG_mem 215 rfl rfl
theorem zw_217 : (Jvm.Cond.laysFinal "ShipLanterns$Faults" "ShipLanterns$Faults" "box" "[I") ∈ zG := zG_mem 217 rfl rfl
theorem zw_219 : (Jvm.Cond.laysFinal "ShipLanterns$Faults" "ShipLanterns$Faults" "terminal" "[I") ∈ zG := zG_mem 219 rfl rfl
theorem zw_221 : (Jvm.Cond.laysFinal "ShipLanterns$Faults" "ShipLanterns$Faults" "strength" "[I") ∈ zG := zG_mem 221 rfl rfl
theorem zw_224 : (Jvm.Cond.fieldLink "ShipLanterns$Ship" (12 : Nat) "ShipLanterns$Ship" "cables" "LShipLanterns$Cables;") ∈ zG := zG_mem 224 rfl rfl
theorem zw_225 : (Jvm.Cond.fieldLink "ShipLanterns$Survey" (50 : Nat) "ShipLanterns$Ship" "cables" "LShipLanterns$Cables;") ∈ zG := zG_mem 225 rfl rfl
theorem zw_226 : (Jvm.Cond.fieldLink "ShipLanterns" (73 : Nat) "ShipLanterns$Ship" "cables" "LShipLanterns$Cables;") ∈ zG := zG_mem 226 rfl rfl
theorem zw_227 : (Jvm.Cond.fieldLink "ShipLanterns$Ship" (21 : Nat) "ShipLanterns$Ship" "lanterns" "LShipLanterns$Lanterns;") ∈ zG := zG_mem 227 rfl rfl
theorem zw_228 : (Jvm.Cond.fieldLink "ShipLanterns$Survey" (69 : Nat) "ShipLanterns$Ship" "lanterns" "LShipLanterns$Lanterns;") ∈ zG := zG_mem 228 rfl rfl
theorem zw_229 : (Jvm.Cond.fieldLink "ShipLanterns" (142 : Nat) "ShipLanterns$Ship" "lanterns" "LShipLanterns$Lanterns;") ∈ zG := zG_mem 229 rfl rfl
theorem zw_230 : (Jvm.Cond.fieldLink "ShipLanterns$Ship" (28 : Nat) "ShipLanterns$Ship" "faults" "LShipLanterns$Faults;") ∈ zG := zG_mem 230 rfl rfl
theorem zw_231 : (Jvm.Cond.fieldLink "ShipLanterns$Survey" (77 : Nat) "ShipLanterns$Ship" "faults" "LShipLanterns$Faults;") ∈ zG := zG_mem 231 rfl rfl
theorem zw_232 : (Jvm.Cond.fieldLink "ShipLanterns" (175 : Nat) "ShipLanterns$Ship" "faults" "LShipLanterns$Faults;") ∈ zG := zG_mem 232 rfl rfl
theorem zw_233 : (Jvm.Cond.fieldLink "ShipLanterns$Ship" (32 : Nat) "ShipLanterns$Ship" "spareFuses" "I") ∈ zG := zG_mem 233 rfl rfl
theorem zw_234 : (Jvm.Cond.fieldLink "ShipLanterns" (123 : Nat) "ShipLanterns$Ship" "spareFuses" "I") ∈ zG := zG_mem 234 rfl rfl
theorem zw_235 : (Jvm.Cond.fieldLink "ShipLanterns$Ship" (36 : Nat) "ShipLanterns$Ship" "blownSoFar" "I") ∈ zG := zG_mem 235 rfl rfl
theorem zw_236 : (Jvm.Cond.fieldLink "ShipLanterns" (324 : Nat) "ShipLanterns$Ship" "blownSoFar" "I") ∈ zG := zG_mem 236 rfl rfl
theorem zw_237 : (Jvm.Cond.fieldLink "ShipLanterns$Ship" (39 : Nat) "ShipLanterns$Ship" "hours" "I") ∈ zG := zG_mem 237 rfl rfl
theorem zw_238 : (Jvm.Cond.fieldLink "ShipLanterns" (198 : Nat) "ShipLanterns$Ship" "hours" "I") ∈ zG := zG_mem 238 rfl rfl
theorem zw_239 : (Jvm.Cond.fieldLink "ShipLanterns$Ship" (42 : Nat) "ShipLanterns$Ship" "used" "I") ∈ zG := zG_mem 239 rfl rfl
theorem zw_240 : (Jvm.Cond.fieldLink "ShipLanterns" (207 : Nat) "ShipLanterns$Ship" "used" "I") ∈ zG := zG_mem 240 rfl rfl
theorem zw_241 : (Jvm.Cond.fieldLink "ShipLanterns$Ship" (45 : Nat) "ShipLanterns$Ship" "lost" "I") ∈ zG := zG_mem 241 rfl rfl
theorem zw_242 : (Jvm.Cond.fieldLink "ShipLanterns" (210 : Nat) "ShipLanterns$Ship" "lost" "I") ∈ zG := zG_mem 242 rfl rfl
theorem zw_243 : (Jvm.Cond.laysFinal "ShipLanterns$Ship" "ShipLanterns$Ship" "cables" "LShipLanterns$Cables;") ∈ zG := zG_mem 243 rfl rfl
theorem zw_245 : (Jvm.Cond.laysFinal "ShipLanterns$Ship" "ShipLanterns$Ship" "lanterns" "LShipLanterns$Lanterns;") ∈ zG := zG_mem 245 rfl rfl
theorem zw_247 : (Jvm.Cond.laysFinal "ShipLanterns$Ship" "ShipLanterns$Ship" "faults" "LShipLanterns$Faults;") ∈ zG := zG_mem 247 rfl rfl
theorem zw_249 : (Jvm.Cond.lays "ShipLanterns$Ship" "ShipLanterns$Ship" "spareFuses" "I") ∈ zG := zG_mem 249 rfl rfl
theorem zw_251 : (Jvm.Cond.lays "ShipLanterns$Ship" "ShipLanterns$Ship" "blownSoFar" "I") ∈ zG := zG_mem 251 rfl rfl
theorem zw_253 : (Jvm.Cond.lays "ShipLanterns$Ship" "ShipLanterns$Ship" "hours" "I") ∈ zG := zG_mem 253 rfl rfl
theorem zw_255 : (Jvm.Cond.lays "ShipLanterns$Ship" "ShipLanterns$Ship" "used" "I") ∈ zG := zG_mem 255 rfl rfl
theorem zw_257 : (Jvm.Cond.lays "ShipLanterns$Ship" "ShipLanterns$Ship" "lost" "I") ∈ zG := zG_mem 257 rfl rfl
theorem zw_260 : (Jvm.Cond.classLink "ShipLanterns" (16 : Nat) "ShipLanterns$Survey") ∈ zG := zG_mem 260 rfl rfl
theorem zw_261 : (Jvm.Cond.instantiable "ShipLanterns$Survey" (12 : Nat)) ∈ zG := zG_mem 261 rfl rfl
theorem zw_262 : (Jvm.Cond.methodLink "ShipLanterns" (18 : Nat) ({ cls := "ShipLanterns$Survey", name := "<init>", desc := "()V" } : Jvm.MethodName)) ∈ zG := zG_mem 262 rfl rfl
theorem zw_263 : (Jvm.Cond.instanceMethod ({ cls := "ShipLanterns$Survey", name := "<init>", desc := "()V" } : Jvm.MethodName)) ∈ zG := zG_mem 263 rfl rfl
theorem zw_264 : (Jvm.Cond.code ({ cls := "ShipLanterns$Survey", name := "<init>", desc := "()V" } : Jvm.MethodName) prog_8_method_1_code (1 : Nat) (Option.none : Option Jvm.ClassFile.FieldType)) ∈ zG := zG_mem 264 rfl rfl
theorem zw_265 : (Jvm.Cond.methodLink "ShipLanterns$Survey" (3 : Nat) ({ cls := "java/lang/Object", name := "<init>", desc := "()V" } : Jvm.MethodName)) ∈ zG := zG_mem 265 rfl rfl
theorem zw_266 : (Jvm.Cond.fieldLink "ShipLanterns$Survey" (9 : Nat) "ShipLanterns$Survey" "depth" "[I") ∈ zG := zG_mem 266 rfl rfl
theorem zw_267 : (Jvm.Cond.fieldLink "ShipLanterns" (354 : Nat) "ShipLanterns$Survey" "depth" "[I") ∈ zG := zG_mem 267 rfl rfl
theorem zw_268 : (Jvm.Cond.fieldLink "ShipLanterns$Survey" (15 : Nat) "ShipLanterns$Survey" "behind" "[I") ∈ zG := zG_mem 268 rfl rfl
theorem zw_269 : (Jvm.Cond.fieldLink "ShipLanterns" (357 : Nat) "ShipLanterns$Survey" "behind" "[I") ∈ zG := zG_mem 269 rfl rfl
theorem zw_270 : (Jvm.Cond.fieldLink "ShipLanterns$Survey" (18 : Nat) "ShipLanterns$Survey" "openOnWay" "[Z") ∈ zG := zG_mem 270 rfl rfl
theorem zw_271 : (Jvm.Cond.fieldLink "ShipLanterns" (391 : Nat) "ShipLanterns$Survey" "openOnWay" "[Z") ∈ zG := zG_mem 271 rfl rfl
theorem zw_272 : (Jvm.Cond.fieldLink "ShipLanterns$Survey" (22 : Nat) "ShipLanterns$Survey" "blownOnWay" "[Z") ∈ zG := zG_mem 272 rfl rfl
theorem zw_273 : (Jvm.Cond.fieldLink "ShipLanterns" (394 : Nat) "ShipLanterns$Survey" "blownOnWay" "[Z") ∈ zG := zG_mem 273 rfl rfl
theorem zw_274 : (Jvm.Cond.fieldLink "ShipLanterns$Survey" (25 : Nat) "ShipLanterns$Survey" "pole" "[I") ∈ zG := zG_mem 274 rfl rfl
theorem zw_275 : (Jvm.Cond.fieldLink "ShipLanterns" (372 : Nat) "ShipLanterns$Survey" "pole" "[I") ∈ zG := zG_mem 275 rfl rfl
theorem zw_276 : (Jvm.Cond.fieldLink "ShipLanterns$Survey" (28 : Nat) "ShipLanterns$Survey" "burning" "[Z") ∈ zG := zG_mem 276 rfl rfl
theorem zw_277 : (Jvm.Cond.fieldLink "ShipLanterns" (161 : Nat) "ShipLanterns$Survey" "burning" "[Z") ∈ zG := zG_mem 277 rfl rfl
theorem zw_278 : (Jvm.Cond.fieldLink "ShipLanterns$Survey" (31 : Nat) "ShipLanterns$Survey" "burningLanterns" "I") ∈ zG := zG_mem 278 rfl rfl
theorem zw_279 : (Jvm.Cond.fieldLink "ShipLanterns" (115 : Nat) "ShipLanterns$Survey" "burningLanterns" "I") ∈ zG := zG_mem 279 rfl rfl
theorem zw_280 : (Jvm.Cond.fieldLink "ShipLanterns$Survey" (35 : Nat) "ShipLanterns$Survey" "leak" "I") ∈ zG := zG_mem 280 rfl rfl
theorem zw_281 : (Jvm.Cond.fieldLink "ShipLanterns" (213 : Nat) "ShipLanterns$Survey" "leak" "I") ∈ zG := zG_mem 281 rfl rfl
theorem zw_282 : (Jvm.Cond.fieldLink "ShipLanterns$Survey" (38 : Nat) "ShipLanterns$Survey" "flow" "[I") ∈ zG := zG_mem 282 rfl rfl
theorem zw_283 : (Jvm.Cond.fieldLink "ShipLanterns" (397 : Nat) "ShipLanterns$Survey" "flow" "[I") ∈ zG := zG_mem 283 rfl rfl
theorem zw_284 : (Jvm.Cond.fieldLink "ShipLanterns$Survey" (41 : Nat) "ShipLanterns$Survey" "unitsFrom" "[I") ∈ zG := zG_mem 284 rfl rfl
theorem zw_285 : (Jvm.Cond.fieldLink "ShipLanterns" (204 : Nat) "ShipLanterns$Survey" "unitsFrom" "[I") ∈ zG := zG_mem 285 rfl rfl
theorem zw_286 : (Jvm.Cond.fieldLink "ShipLanterns$Survey" (44 : Nat) "ShipLanterns$Survey" "flowFrom" "[I") ∈ zG := zG_mem 286 rfl rfl
theorem zw_287 : (Jvm.Cond.fieldLink "ShipLanterns$Survey" (47 : Nat) "ShipLanterns$Survey" "strengthFrom" "[I") ∈ zG := zG_mem 287 rfl rfl
theorem zw_288 : (Jvm.Cond.fieldLink "ShipLanterns" (327 : Nat) "ShipLanterns$Survey" "strengthFrom" "[I") ∈ zG := zG_mem 288 rfl rfl
theorem zw_289 : (Jvm.Cond.laysFinal "ShipLanterns$Survey" "ShipLanterns$Survey" "depth" "[I") ∈ zG := zG_mem 289 rfl rfl
theorem zw_291 : (Jvm.Cond.laysFinal "ShipLanterns$Survey" "ShipLanterns$Survey" "behind" "[I") ∈ zG := zG_mem 291 rfl rfl
theorem zw_293 : (Jvm.Cond.laysFinal "ShipLanterns$Survey" "ShipLanterns$Survey" "openOnWay" "[Z") ∈ zG := zG_mem 293 rfl rfl
theorem zw_295 : (Jvm.Cond.laysFinal "ShipLanterns$Survey" "ShipLanterns$Survey" "blownOnWay" "[Z") ∈ zG := zG_mem 295 rfl rfl
theorem zw_297 : (Jvm.Cond.laysFinal "ShipLanterns$Survey" "ShipLanterns$Survey" "pole" "[I") ∈ zG := zG_mem 297 rfl rfl
theorem zw_299 : (Jvm.Cond.laysFinal "ShipLanterns$Survey" "ShipLanterns$Survey" "burning" "[Z") ∈ zG := zG_mem 299 rfl rfl
theorem zw_301 : (Jvm.Cond.lays "ShipLanterns$Survey" "ShipLanterns$Survey" "burningLanterns" "I") ∈ zG := zG_mem 301 rfl rfl
theorem zw_303 : (Jvm.Cond.lays "ShipLanterns$Survey" "ShipLanterns$Survey" "leak" "I") ∈ zG := zG_mem 303 rfl rfl
theorem zw_305 : (Jvm.Cond.laysFinal "ShipLanterns$Survey" "ShipLanterns$Survey" "flow" "[I") ∈ zG := zG_mem 305 rfl rfl
theorem zw_307 : (Jvm.Cond.laysFinal "ShipLanterns$Survey" "ShipLanterns$Survey" "unitsFrom" "[I") ∈ zG := zG_mem 307 rfl rfl
theorem zw_309 : (Jvm.Cond.laysFinal "ShipLanterns$Survey" "ShipLanterns$Survey" "flowFrom" "[I") ∈ zG := zG_mem 309 rfl rfl
theorem zw_311 : (Jvm.Cond.laysFinal "ShipLanterns$Survey" "ShipLanterns$Survey" "strengthFrom" "[I") ∈ zG := zG_mem 311 rfl rfl
theorem zw_314 : (Jvm.Cond.classLink "ShipLanterns" (32 : Nat) "ShipLanterns$History") ∈ zG := zG_mem 314 rfl rfl
theorem zw_315 : (Jvm.Cond.instantiable "ShipLanterns$History" (2 : Nat)) ∈ zG := zG_mem 315 rfl rfl
theorem zw_316 : (Jvm.Cond.methodLink "ShipLanterns" (34 : Nat) ({ cls := "ShipLanterns$History", name := "<init>", desc := "()V" } : Jvm.MethodName)) ∈ zG := zG_mem 316 rfl rfl
theorem zw_317 : (Jvm.Cond.instanceMethod ({ cls := "ShipLanterns$History", name := "<init>", desc := "()V" } : Jvm.MethodName)) ∈ zG := zG_mem 317 rfl rfl
theorem zw_318 : (Jvm.Cond.code ({ cls := "ShipLanterns$History", name := "<init>", desc := "()V" } : Jvm.MethodName) prog_4_method_1_code (2 : Nat) (Option.none : Option Jvm.ClassFile.FieldType)) ∈ zG := zG_mem 318 rfl rfl
theorem zw_319 : (Jvm.Cond.methodLink "ShipLanterns$History" (3 : Nat) ({ cls := "java/lang/Object", name := "<init>", desc := "()V" } : Jvm.MethodName)) ∈ zG := zG_mem 319 rfl rfl
theorem zw_320 : (Jvm.Cond.classLink "ShipLanterns$History" (15 : Nat) "ShipLanterns$Ship") ∈ zG := zG_mem 320 rfl rfl
theorem zw_323 : (Jvm.Cond.fieldLink "ShipLanterns$History" (9 : Nat) "ShipLanterns$History" "many" "I") ∈ zG := zG_mem 323 rfl rfl
theorem zw_324 : (Jvm.Cond.fieldLink "ShipLanterns" (233 : Nat) "ShipLanterns$History" "many" "I") ∈ zG := zG_mem 324 rfl rfl
theorem zw_325 : (Jvm.Cond.fieldLink "ShipLanterns$History" (17 : Nat) "ShipLanterns$History" "saved" "[LShipLanterns$Ship;") ∈ zG := zG_mem 325 rfl rfl
theorem zw_326 : (Jvm.Cond.lays "ShipLanterns$History" "ShipLanterns$History" "many" "I") ∈ zG := zG_mem 326 rfl rfl
theorem zw_328 : (Jvm.Cond.laysFinal "ShipLanterns$History" "ShipLanterns$History" "saved" "[LShipLanterns$Ship;") ∈ zG := zG_mem 328 rfl rfl
theorem zw_331 : (Jvm.Cond.classLink "ShipLanterns" (39 : Nat) "ShipLanterns$PartReader") ∈ zG := zG_mem 331 rfl rfl
theorem zw_332 : (Jvm.Cond.instantiable "ShipLanterns$PartReader" (3 : Nat)) ∈ zG := zG_mem 332 rfl rfl
theorem zw_334 : (Jvm.Cond.instanceMethod ({ cls := "ShipLanterns$PartReader", name := "<init>", desc := "()V" } : Jvm.MethodName)) ∈ zG := zG_mem 334 rfl rfl
theorem zw_335 : (Jvm.Cond.code ({ cls := "ShipLanterns$PartReader", name := "<init>", desc := "()V" } : Jvm.MethodName) prog_6_method_1_code (1 : Nat) (Option.none : Option Jvm.ClassFile.FieldType)) ∈ zG := zG_mem 335 rfl rfl
theorem zw_336 : (Jvm.Cond.methodLink "ShipLanterns$PartReader" (3 : Nat) ({ cls := "java/lang/Object", name := "<init>", desc := "()V" } : Jvm.MethodName)) ∈ zG := zG_mem 336 rfl rfl
theorem zw_337 : (Jvm.Cond.fieldLink "ShipLanterns$PartReader" (11 : Nat) "ShipLanterns$PartReader" "values" "[I") ∈ zG := zG_mem 337 rfl rfl
theorem zw_338 : (Jvm.Cond.fieldLink "ShipLanterns" (339 : Nat) "ShipLanterns$PartReader" "values" "[I") ∈ zG := zG_mem 338 rfl rfl
theorem zw_339 : (Jvm.Cond.fieldLink "ShipLanterns$PartReader" (15 : Nat) "ShipLanterns$PartReader" "kind" "I") ∈ zG := zG_mem 339 rfl rfl
theorem zw_340 : (Jvm.Cond.fieldLink "ShipLanterns" (345 : Nat) "ShipLanterns$PartReader" "kind" "I") ∈ zG := zG_mem 340 rfl rfl
theorem zw_341 : (Jvm.Cond.fieldLink "ShipLanterns$PartReader" (19 : Nat) "ShipLanterns$PartReader" "place" "I") ∈ zG := zG_mem 341 rfl rfl
theorem zw_342 : (Jvm.Cond.laysFinal "ShipLanterns$PartReader" "ShipLanterns$PartReader" "values" "[I") ∈ zG := zG_mem 342 rfl rfl
theorem zw_344 : (Jvm.Cond.lays "ShipLanterns$PartReader" "ShipLanterns$PartReader" "kind" "I") ∈ zG := zG_mem 344 rfl rfl
theorem zw_346 : (Jvm.Cond.lays "ShipLanterns$PartReader" "ShipLanterns$PartReader" "place" "I") ∈ zG := zG_mem 346 rfl rfl
theorem zw_349 : (Jvm.Cond.fieldLink "ShipLanterns" (12 : Nat) "ShipLanterns" "ship" "LShipLanterns$Ship;") ∈ zG := zG_mem 349 rfl rfl
theorem zw_350 : (Jvm.Cond.fieldLink "ShipLanterns" (19 : Nat) "ShipLanterns" "survey" "LShipLanterns$Survey;") ∈ zG := zG_mem 350 rfl rfl
theorem zw_351 : (Jvm.Cond.fieldLink "ShipLanterns" (23 : Nat) "ShipLanterns" "trial" "LShipLanterns$Ship;") ∈ zG := zG_mem 351 rfl rfl
theorem zw_352 : (Jvm.Cond.fieldLink "ShipLanterns" (26 : Nat) "ShipLanterns" "trialSurvey" "LShipLanterns$Survey;") ∈ zG := zG_mem 352 rfl rfl
theorem zw_353 : (Jvm.Cond.fieldLink "ShipLanterns" (29 : Nat) "ShipLanterns" "wholeSurvey" "LShipLanterns$Survey;") ∈ zG := zG_mem 353 rfl rfl
theorem zw_354 : (Jvm.Cond.fieldLink "ShipLanterns" (35 : Nat) "ShipLanterns" "history" "LShipLanterns$History;") ∈ zG := zG_mem 354 rfl rfl
theorem zw_355 : (Jvm.Cond.fieldLink "ShipLanterns" (42 : Nat) "ShipLanterns" "reader" "LShipLanterns$PartReader;") ∈ zG := zG_mem 355 rfl rfl
theorem zw_356 : (Jvm.Cond.fieldLink "ShipLanterns" (46 : Nat) "ShipLanterns" "signs" "[I") ∈ zG := zG_mem 356 rfl rfl
theorem zw_357 : (Jvm.Cond.fieldLink "ShipLanterns" (50 : Nat) "ShipLanterns" "length" "I") ∈ zG := zG_mem 357 rfl rfl
theorem zw_358 : (Jvm.Cond.laysFinal "ShipLanterns" "ShipLanterns" "ship" "LShipLanterns$Ship;") ∈ zG := zG_mem 358 rfl rfl
theorem zw_360 : (Jvm.Cond.laysFinal "ShipLanterns" "ShipLanterns" "survey" "LShipLanterns$Survey;") ∈ zG := zG_mem 360 rfl rfl
theorem zw_362 : (Jvm.Cond.laysFinal "ShipLanterns" "ShipLanterns" "trial" "LShipLanterns$Ship;") ∈ zG := zG_mem 362 rfl rfl
theorem zw_364 : (Jvm.Cond.laysFinal "ShipLanterns" "ShipLanterns" "trialSurvey" "LShipLanterns$Survey;") ∈ zG := zG_mem 364 rfl rfl
theorem zw_366 : (Jvm.Cond.laysFinal "ShipLanterns" "ShipLanterns" "wholeSurvey" "LShipLanterns$Survey;") ∈ zG := zG_mem 366 rfl rfl
theorem zw_368 : (Jvm.Cond.laysFinal "ShipLanterns" "ShipLanterns" "history" "LShipLanterns$History;") ∈ zG := zG_mem 368 rfl rfl
theorem zw_370 : (Jvm.Cond.laysFinal "ShipLanterns" "ShipLanterns" "reader" "LShipLanterns$PartReader;") ∈ zG := zG_mem 370 rfl rfl
theorem zw_372 : (Jvm.Cond.laysFinal "ShipLanterns" "ShipLanterns" "signs" "[I") ∈ zG := zG_mem 372 rfl rfl
theorem zw_374 : (Jvm.Cond.lays "ShipLanterns" "ShipLanterns" "length" "I") ∈ zG := zG_mem 374 rfl rfl
theorem zw_377 : (Jvm.Cond.methodLink "ShipLanternsLaw" (137 : Nat) ({ cls := "ShipLanterns", name := "clearBuffer", desc := "()I" } : Jvm.MethodName)) ∈ zG := zG_mem 377 rfl rfl
theorem zw_378 : (Jvm.Cond.instanceMethod ({ cls := "ShipLanterns", name := "clearBuffer", desc := "()I" } : Jvm.MethodName)) ∈ zG := zG_mem 378 rfl rfl
theorem zw_379 : (Jvm.Cond.selects "ShipLanterns" ({ cls := "ShipLanterns", name := "clearBuffer", desc := "()I" } : Jvm.MethodName) ({ cls := "ShipLanterns", name := "clearBuffer", desc := "()I" } : Jvm.MethodName)) ∈ zG := zG_mem 379 rfl rfl
theorem zw_380 : (Jvm.Cond.code ({ cls := "ShipLanterns", name := "clearBuffer", desc := "()I" } : Jvm.MethodName) prog_1_method_13_code (2 : Nat) (Option.some Jvm.ClassFile.FieldType.int)) ∈ zG := zG_mem 380 rfl rfl
theorem zw_381 : (Jvm.Cond.methodLink "ShipLanternsLaw" (141 : Nat) ({ cls := "ShipLanterns", name := "firstError", desc := "()I" } : Jvm.MethodName)) ∈ zG := zG_mem 381 rfl rfl
theorem zw_382 : (Jvm.Cond.instanceMethod ({ cls := "ShipLanterns", name := "firstError", desc := "()I" } : Jvm.MethodName)) ∈ zG := zG_mem 382 rfl rfl
theorem zw_383 : (Jvm.Cond.selects "ShipLanterns" ({ cls := "ShipLanterns", name := "firstError", desc := "()I" } : Jvm.MethodName) ({ cls := "ShipLanterns", name := "firstError", desc := "()I" } : Jvm.MethodName)) ∈ zG := zG_mem 383 rfl rfl
theorem zw_384 : (Jvm.Cond.code ({ cls := "ShipLanterns", name := "firstError", desc := "()I" } : Jvm.MethodName) prog_1_method_14_code (1 : Nat) (Option.some Jvm.ClassFile.FieldType.int)) ∈ zG := zG_mem 384 rfl rfl
theorem zw_385 : (Jvm.Cond.methodLink "ShipLanterns" (220 : Nat) ({ cls := "ShipLanterns", name := "readSigns", desc := "()I" } : Jvm.MethodName)) ∈ zG := zG_mem 385 rfl rfl
theorem zw_387 : (Jvm.Cond.instanceMethod ({ cls := "ShipLanterns", name := "readSigns", desc := "()I" } : Jvm.MethodName)) ∈ zG := zG_mem 387 rfl rfl
theorem zw_388 : (Jvm.Cond.code ({ cls := "ShipLanterns", name := "readSigns", desc := "()I" } : Jvm.MethodName) prog_1_method_42_code (2 : Nat) (Option.some Jvm.ClassFile.FieldType.int)) ∈ zG := zG_mem 388 rfl rfl
theorem zw_389 : (Jvm.Cond.methodLink "ShipLanterns" (330 : Nat) ({ cls := "ShipLanterns$PartReader", name := "restart", desc := "()V" } : Jvm.MethodName)) ∈ zG := zG_mem 389 rfl rfl
theorem zw_390 : (Jvm.Cond.instanceMethod ({ cls := "ShipLanterns$PartReader", name := "restart", desc := "()V" } : Jvm.MethodName)) ∈ zG := zG_mem 390 rfl rfl
theorem zw_391 : (Jvm.Cond.selects "ShipLanterns$PartReader" ({ cls := "ShipLanterns$PartReader", name := "restart", desc := "()V" } : Jvm.MethodName) ({ cls := "ShipLanterns$PartReader", name := "restart", desc := "()V" } : Jvm.MethodName)) ∈ zG := zG_mem 391 rfl rfl
theorem zw_392 : (Jvm.Cond.code ({ cls := "ShipLanterns$PartReader", name := "restart", desc := "()V" } : Jvm.MethodName) prog_6_method_2_code (2 : Nat) (Option.none : Option Jvm.ClassFile.FieldType)) ∈ zG := zG_mem 392 rfl rfl
theorem zw_393 : (Jvm.Cond.methodLink "ShipLanterns" (333 : Nat) ({ cls := "ShipLanterns$PartReader", name := "takes", desc := "(I)Z" } : Jvm.MethodName)) ∈ zG := zG_mem 393 rfl rfl
theorem zw_394 : (Jvm.Cond.instanceMethod ({ cls := "ShipLanterns$PartReader", name := "takes", desc := "(I)Z" } : Jvm.MethodName)) ∈ zG := zG_mem 394 rfl rfl
theorem zw_395 : (Jvm.Cond.selects "ShipLanterns$PartReader" ({ cls := "ShipLanterns$PartReader", name := "takes", desc := "(I)Z" } : Jvm.MethodName) ({ cls := "ShipLanterns$PartReader", name := "takes", desc := "(I)Z" } : Jvm.MethodName)) ∈ zG := zG_mem 395 rfl rfl
theorem zw_396 : (Jvm.Cond.code ({ cls := "ShipLanterns$PartReader", name := "takes", desc := "(I)Z" } : Jvm.MethodName) prog_6_method_6_code (2 : Nat) (Option.some Jvm.ClassFile.FieldType.boolean)) ∈ zG := zG_mem 396 rfl rfl
theorem zw_397 : (Jvm.Cond.methodLink "ShipLanterns$PartReader" (26 : Nat) ({ cls := "ShipLanterns$PartReader", name := "takesDigit", desc := "(I)Z" } : Jvm.MethodName)) ∈ zG := zG_mem 397 rfl rfl
theorem zw_399 : (Jvm.Cond.instanceMethod ({ cls := "ShipLanterns$PartReader", name := "takesDigit", desc := "(I)Z" } : Jvm.MethodName)) ∈ zG := zG_mem 399 rfl rfl
theorem zw_400 : (Jvm.Cond.code ({ cls := "ShipLanterns$PartReader", name := "takesDigit", desc := "(I)Z" } : Jvm.MethodName) prog_6_method_9_code (4 : Nat) (Option.some Jvm.ClassFile.FieldType.boolean)) ∈ zG := zG_mem 400 rfl rfl
theorem zw_401 : (Jvm.Cond.methodLink "ShipLanterns$PartReader" (39 : Nat) ({ cls := "ShipLanterns$PartReader", name := "leastValue", desc := "()I" } : Jvm.MethodName)) ∈ zG := zG_mem 401 rfl rfl
theorem zw_403 : (Jvm.Cond.instanceMethod ({ cls := "ShipLanterns$PartReader", name := "leastValue", desc := "()I" } : Jvm.MethodName)) ∈ zG := zG_mem 403 rfl rfl
theorem zw_404 : (Jvm.Cond.code ({ cls := "ShipLanterns$PartReader", name := "leastValue", desc := "()I" } : Jvm.MethodName) prog_6_method_11_code (1 : Nat) (Option.some Jvm.ClassFile.FieldType.int)) ∈ zG := zG_mem 404 rfl rfl
theorem zw_405 : (Jvm.Cond.methodLink "ShipLanterns$PartReader" (42 : Nat) ({ cls := "ShipLanterns$PartReader", name := "mostValue", desc := "()I" } : Jvm.MethodName)) ∈ zG := zG_mem 405 rfl rfl
theorem zw_407 : (Jvm.Cond.instanceMethod ({ cls := "ShipLanterns$PartReader", name := "mostValue", desc := "()I" } : Jvm.MethodName)) ∈ zG := zG_mem 407 rfl rfl
theorem zw_408 : (Jvm.Cond.code ({ cls := "ShipLanterns$PartReader", name := "mostValue", desc := "()I" } : Jvm.MethodName) prog_6_method_12_code (1 : Nat) (Option.some Jvm.ClassFile.FieldType.int)) ∈ zG := zG_mem 408 rfl rfl
theorem zw_409 : (Jvm.Cond.methodLink "ShipLanterns$PartReader" (45 : Nat) ({ cls := "ShipLanterns$PartReader", name := "holdsLantern", desc := "()Z" } : Jvm.MethodName)) ∈ zG := zG_mem 409 rfl rfl
theorem zw_410 : (Jvm.Cond.instanceMethod ({ cls := "ShipLanterns$PartReader", name := "holdsLantern", desc := "()Z" } : Jvm.MethodName)) ∈ zG := zG_mem 410 rfl rfl
theorem zw_411 : (Jvm.Cond.selects "ShipLanterns$PartReader" ({ cls := "ShipLanterns$PartReader", name := "holdsLantern", desc := "()Z" } : Jvm.MethodName) ({ cls := "ShipLanterns$PartReader", name := "holdsLantern", desc := "()Z" } : Jvm.MethodName)) ∈ zG := zG_mem 411 rfl rfl
theorem zw_412 : (Jvm.Cond.code ({ cls := "ShipLanterns$PartReader", name := "holdsLantern", desc := "()Z" } : Jvm.MethodName) prog_6_method_4_code (1 : Nat) (Option.some Jvm.ClassFile.FieldType.boolean)) ∈ zG := zG_mem 412 rfl rfl
theorem zw_413 : (Jvm.Cond.methodLink "ShipLanterns$PartReader" (30 : Nat) ({ cls := "ShipLanterns$PartReader", name := "takesKind", desc := "(I)Z" } : Jvm.MethodName)) ∈ zG := zG_mem 413 rfl rfl
theorem zw_415 : (Jvm.Cond.instanceMethod ({ cls := "ShipLanterns$PartReader", name := "takesKind", desc := "(I)Z" } : Jvm.MethodName)) ∈ zG := zG_mem 415 rfl rfl
theorem zw_416 : (Jvm.Cond.code ({ cls := "ShipLanterns$PartReader", name := "takesKind", desc := "(I)Z" } : Jvm.MethodName) prog_6_method_8_code (2 : Nat) (Option.some Jvm.ClassFile.FieldType.boolean)) ∈ zG := zG_mem 416 rfl rfl
theorem zw_417 : (Jvm.Cond.methodLink "ShipLanterns$PartReader" (33 : Nat) ({ cls := "ShipLanterns$PartReader", name := "takesSeparator", desc := "(I)Z" } : Jvm.MethodName)) ∈ zG := zG_mem 417 rfl rfl
theorem zw_419 : (Jvm.Cond.instanceMethod ({ cls := "ShipLanterns$PartReader", name := "takesSeparator", desc := "(I)Z" } : Jvm.MethodName)) ∈ zG := zG_mem 419 rfl rfl
theorem zw_420 : (Jvm.Cond.code ({ cls := "ShipLanterns$PartReader", name := "takesSeparator", desc := "(I)Z" } : Jvm.MethodName) prog_6_method_7_code (3 : Nat) (Option.some Jvm.ClassFile.FieldType.boolean)) ∈ zG := zG_mem 420 rfl rfl
theorem zw_421 : (Jvm.Cond.methodLink "ShipLanterns$PartReader" (22 : Nat) ({ cls := "ShipLanterns$PartReader", name := "lastPlace", desc := "()I" } : Jvm.MethodName)) ∈ zG := zG_mem 421 rfl rfl
theorem zw_423 : (Jvm.Cond.instanceMethod ({ cls := "ShipLanterns$PartReader", name := "lastPlace", desc := "()I" } : Jvm.MethodName)) ∈ zG := zG_mem 423 rfl rfl
theorem zw_424 : (Jvm.Cond.code ({ cls := "ShipLanterns$PartReader", name := "lastPlace", desc := "()I" } : Jvm.MethodName) prog_6_method_10_code (1 : Nat) (Option.some Jvm.ClassFile.FieldType.int)) ∈ zG := zG_mem 424 rfl rfl
theorem zw_425 : (Jvm.Cond.methodLink "ShipLanterns$PartReader" (36 : Nat) ({ cls := "ShipLanterns$PartReader", name := "restart", desc := "()V" } : Jvm.MethodName)) ∈ zG := zG_mem 425 rfl rfl
theorem zw_426 : (Jvm.Cond.methodLink "ShipLanternsLaw" (184 : Nat) ({ cls := "ShipLanterns", name := "lossShare", desc := "()D" } : Jvm.MethodName)) ∈ zG := zG_mem 426 rfl rfl
theorem zw_427 : (Jvm.Cond.instanceMethod ({ cls := "ShipLanterns", name := "lossShare", desc := "()D" } : Jvm.MethodName)) ∈ zG := zG_mem 427 rfl rfl
theorem zw_428 : (Jvm.Cond.selects "ShipLanterns" ({ cls := "ShipLanterns", name := "lossShare", desc := "()D" } : Jvm.MethodName) ({ cls := "ShipLanterns", name := "lossShare", desc := "()D" } : Jvm.MethodName)) ∈ zG := zG_mem 428 rfl rfl
theorem zw_429 : (Jvm.Cond.code ({ cls := "ShipLanterns", name := "lossShare", desc := "()D" } : Jvm.MethodName) prog_1_method_27_code (2 : Nat) (Option.some Jvm.ClassFile.FieldType.double)) ∈ zG := zG_mem 429 rfl rfl
theorem zw_430 : (Jvm.Cond.methodLink "ShipLanternsLaw" (189 : Nat) ({ cls := "ShipLanterns", name := "digest", desc := "()J" } : Jvm.MethodName)) ∈ zG := zG_mem 430 rfl rfl
theorem zw_431 : (Jvm.Cond.instanceMethod ({ cls := "ShipLanterns", name := "digest", desc := "()J" } : Jvm.MethodName)) ∈ zG := zG_mem 431 rfl rfl
theorem zw_432 : (Jvm.Cond.selects "ShipLanterns" ({ cls := "ShipLanterns", name := "digest", desc := "()J" } : Jvm.MethodName) ({ cls := "ShipLanterns", name := "digest", desc := "()J" } : Jvm.MethodName)) ∈ zG := zG_mem 432 rfl rfl
theorem zw_433 : (Jvm.Cond.code ({ cls := "ShipLanterns", name := "digest", desc := "()J" } : Jvm.MethodName) prog_1_method_28_code (4 : Nat) (Option.some Jvm.ClassFile.FieldType.long)) ∈ zG := zG_mem 433 rfl rfl
theorem zw_434 : (Jvm.Cond.constantLong "ShipLanterns" (299 : Nat) (2141 : Int64)) ∈ zG := zG_mem 434 rfl rfl
theorem zw_435 : (Jvm.Cond.constantLong "ShipLanterns" (301 : Nat) (31 : Int64)) ∈ zG := zG_mem 435 rfl rfl
theorem zw_436 : (Jvm.Cond.methodLink "ShipLanterns" (266 : Nat) ({ cls := "ShipLanterns", name := "countOf", desc := "(I)I" } : Jvm.MethodName)) ∈ zG := zG_mem 436 rfl rfl
theorem zw_438 : (Jvm.Cond.instanceMethod ({ cls := "ShipLanterns", name := "countOf", desc := "(I)I" } : Jvm.MethodName)) ∈ zG := zG_mem 438 rfl rfl
theorem zw_439 : (Jvm.Cond.code ({ cls := "ShipLanterns", name := "countOf", desc := "(I)I" } : Jvm.MethodName) prog_1_method_53_code (2 : Nat) (Option.some Jvm.ClassFile.FieldType.int)) ∈ zG := zG_mem 439 rfl rfl
theorem zw_440 : (Jvm.Cond.methodLink "ShipLanterns" (400 : Nat) ({ cls := "ShipLanterns$Cables", name := "blownFuses", desc := "()I" } : Jvm.MethodName)) ∈ zG := zG_mem 440 rfl rfl
theorem zw_441 : (Jvm.Cond.instanceMethod ({ cls := "ShipLanterns$Cables", name := "blownFuses", desc := "()I" } : Jvm.MethodName)) ∈ zG := zG_mem 441 rfl rfl
theorem zw_442 : (Jvm.Cond.selects "ShipLanterns$Cables" ({ cls := "ShipLanterns$Cables", name := "blownFuses", desc := "()I" } : Jvm.MethodName) ({ cls := "ShipLanterns$Cables", name := "blownFuses", desc := "()I" } : Jvm.MethodName)) ∈ zG := zG_mem 442 rfl rfl
theorem zw_443 : (Jvm.Cond.code ({ cls := "ShipLanterns$Cables", name := "blownFuses", desc := "()I" } : Jvm.MethodName) prog_2_method_4_code (3 : Nat) (Option.some Jvm.ClassFile.FieldType.int)) ∈ zG := zG_mem 443 rfl rfl
theorem zw_444 : (Jvm.Cond.methodLink "ShipLanterns" (303 : Nat) ({ cls := "ShipLanterns", name := "hashBoxes", desc := "(J)J" } : Jvm.MethodName)) ∈ zG := zG_mem 444 rfl rfl
theorem zw_446 : (Jvm.Cond.instanceMethod ({ cls := "ShipLanterns", name := "hashBoxes", desc := "(J)J" } : Jvm.MethodName)) ∈ zG := zG_mem 446 rfl rfl
theorem zw_447 : (Jvm.Cond.code ({ cls := "ShipLanterns", name := "hashBoxes", desc := "(J)J" } : Jvm.MethodName) prog_1_method_54_code (8 : Nat) (Option.some Jvm.ClassFile.FieldType.long)) ∈ zG := zG_mem 447 rfl rfl
theorem zw_448 : (Jvm.Cond.methodLink "ShipLanterns" (244 : Nat) ({ cls := "ShipLanterns", name := "boxProperty", desc := "(II)I" } : Jvm.MethodName)) ∈ zG := zG_mem 448 rfl rfl
theorem zw_450 : (Jvm.Cond.instanceMethod ({ cls := "ShipLanterns", name := "boxProperty", desc := "(II)I" } : Jvm.MethodName)) ∈ zG := zG_mem 450 rfl rfl
theorem zw_451 : (Jvm.Cond.code ({ cls := "ShipLanterns", name := "boxProperty", desc := "(II)I" } : Jvm.MethodName) prog_1_method_45_code (4 : Nat) (Option.some Jvm.ClassFile.FieldType.int)) ∈ zG := zG_mem 451 rfl rfl
theorem zw_452 : (Jvm.Cond.methodLink "ShipLanterns" (108 : Nat) ({ cls := "ShipLanterns", name := "oneIf", desc := "(Z)I" } : Jvm.MethodName)) ∈ zG := zG_mem 452 rfl rfl
theorem zw_453 : (Jvm.Cond.static ({ cls := "ShipLanterns", name := "oneIf", desc := "(Z)I" } : Jvm.MethodName)) ∈ zG := zG_mem 453 rfl rfl
theorem zw_454 : (Jvm.Cond.code ({ cls := "ShipLanterns", name := "oneIf", desc := "(Z)I" } : Jvm.MethodName) prog_1_method_37_code (1 : Nat) (Option.some Jvm.ClassFile.FieldType.int)) ∈ zG := zG_mem 454 rfl rfl
theorem zw_455 : (Jvm.Cond.methodLink "ShipLanterns" (360 : Nat) ({ cls := "ShipLanterns", name := "lanternsBurningAt", desc := "(I)I" } : Jvm.MethodName)) ∈ zG := zG_mem 455 rfl rfl
theorem zw_457 : (Jvm.Cond.instanceMethod ({ cls := "ShipLanterns", name := "lanternsBurningAt", desc := "(I)I" } : Jvm.MethodName)) ∈ zG := zG_mem 457 rfl rfl
theorem zw_458 : (Jvm.Cond.code ({ cls := "ShipLanterns", name := "lanternsBurningAt", desc := "(I)I" } : Jvm.MethodName) prog_1_method_46_code (4 : Nat) (Option.some Jvm.ClassFile.FieldType.int)) ∈ zG := zG_mem 458 rfl rfl
theorem zw_459 : (Jvm.Cond.methodLink "ShipLanterns" (363 : Nat) ({ cls := "ShipLanterns", name := "unitsAt", desc := "(I)I" } : Jvm.MethodName)) ∈ zG := zG_mem 459 rfl rfl
theorem zw_461 : (Jvm.Cond.instanceMethod ({ cls := "ShipLanterns", name := "unitsAt", desc := "(I)I" } : Jvm.MethodName)) ∈ zG := zG_mem 461 rfl rfl
theorem zw_462 : (Jvm.Cond.code ({ cls := "ShipLanterns", name := "unitsAt", desc := "(I)I" } : Jvm.MethodName) prog_1_method_47_code (4 : Nat) (Option.some Jvm.ClassFile.FieldType.int)) ∈ zG := zG_mem 462 rfl rfl
theorem zw_463 : (Jvm.Cond.methodLink "ShipLanterns" (250 : Nat) ({ cls := "ShipLanterns", name := "terminalProperty", desc := "(III)I" } : Jvm.MethodName)) ∈ zG := zG_mem 463 rfl rfl
theorem zw_465 : (Jvm.Cond.instanceMethod ({ cls := "ShipLanterns", name := "terminalProperty", desc := "(III)I" } : Jvm.MethodName)) ∈ zG := zG_mem 465 rfl rfl
theorem zw_466 : (Jvm.Cond.code ({ cls := "ShipLanterns", name := "terminalProperty", desc := "(III)I" } : Jvm.MethodName) prog_1_method_48_code (5 : Nat) (Option.some Jvm.ClassFile.FieldType.int)) ∈ zG := zG_mem 466 rfl rfl
theorem zw_467 : (Jvm.Cond.methodLink "ShipLanterns" (375 : Nat) ({ cls := "ShipLanterns$Survey", name := "isAlive", desc := "(I)Z" } : Jvm.MethodName)) ∈ zG := zG_mem 467 rfl rfl
theorem zw_468 : (Jvm.Cond.instanceMethod ({ cls := "ShipLanterns$Survey", name := "isAlive", desc := "(I)Z" } : Jvm.MethodName)) ∈ zG := zG_mem 468 rfl rfl
theorem zw_469 : (Jvm.Cond.selects "ShipLanterns$Survey" ({ cls := "ShipLanterns$Survey", name := "isAlive", desc := "(I)Z" } : Jvm.MethodName) ({ cls := "ShipLanterns$Survey", name := "isAlive", desc := "(I)Z" } : Jvm.MethodName)) ∈ zG := zG_mem 469 rfl rfl
theorem zw_470 : (Jvm.Cond.code ({ cls := "ShipLanterns$Survey", name := "isAlive", desc := "(I)Z" } : Jvm.MethodName) prog_8_method_3_code (2 : Nat) (Option.some Jvm.ClassFile.FieldType.boolean)) ∈ zG := zG_mem 470 rfl rfl
theorem zw_471 : (Jvm.Cond.methodLink "ShipLanterns" (296 : Nat) ({ cls := "ShipLanterns$Survey", name := "current", desc := "(I)I" } : Jvm.MethodName)) ∈ zG := zG_mem 471 rfl rfl
theorem zw_472 : (Jvm.Cond.instanceMethod ({ cls := "ShipLanterns$Survey", name := "current", desc := "(I)I" } : Jvm.MethodName)) ∈ zG := zG_mem 472 rfl rfl
theorem zw_473 : (Jvm.Cond.selects "ShipLanterns$Survey" ({ cls := "ShipLanterns$Survey", name := "current", desc := "(I)I" } : Jvm.MethodName) ({ cls := "ShipLanterns$Survey", name := "current", desc := "(I)I" } : Jvm.MethodName)) ∈ zG := zG_mem 473 rfl rfl
theorem zw_474 : (Jvm.Cond.code ({ cls := "ShipLanterns$Survey", name := "current", desc := "(I)I" } : Jvm.MethodName) prog_8_method_5_code (3 : Nat) (Option.some Jvm.ClassFile.FieldType.int)) ∈ zG := zG_mem 474 rfl rfl
theorem zw_475 : (Jvm.Cond.methodLink "ShipLanterns$Survey" (105 : Nat) ({ cls := "ShipLanterns$Survey", name := "isAlive", desc := "(I)Z" } : Jvm.MethodName)) ∈ zG := zG_mem 475 rfl rfl
theorem zw_476 : (Jvm.Cond.methodLink "ShipLanterns" (378 : Nat) ({ cls := "ShipLanterns", name := "strengthsAt", desc := "(II)I" } : Jvm.MethodName)) ∈ zG := zG_mem 476 rfl rfl
theorem zw_478 : (Jvm.Cond.instanceMethod ({ cls := "ShipLanterns", name := "strengthsAt", desc := "(II)I" } : Jvm.MethodName)) ∈ zG := zG_mem 478 rfl rfl
theorem zw_479 : (Jvm.Cond.code ({ cls := "ShipLanterns", name := "strengthsAt", desc := "(II)I" } : Jvm.MethodName) prog_1_method_49_code (5 : Nat) (Option.some Jvm.ClassFile.FieldType.int)) ∈ zG := zG_mem 479 rfl rfl
theorem zw_480 : (Jvm.Cond.methodLink "ShipLanterns" (307 : Nat) ({ cls := "ShipLanterns", name := "hashLanternsAndFaults", desc := "(J)J" } : Jvm.MethodName)) ∈ zG := zG_mem 480 rfl rfl
theorem zw_482 : (Jvm.Cond.instanceMethod ({ cls := "ShipLanterns", name := "hashLanternsAndFaults", desc := "(J)J" } : Jvm.MethodName)) ∈ zG := zG_mem 482 rfl rfl
theorem zw_483 : (Jvm.Cond.code ({ cls := "ShipLanterns", name := "hashLanternsAndFaults", desc := "(J)J" } : Jvm.MethodName) prog_1_method_55_code (7 : Nat) (Option.some Jvm.ClassFile.FieldType.long)) ∈ zG := zG_mem 483 rfl rfl
theorem zw_484 : (Jvm.Cond.methodLink "ShipLanterns" (256 : Nat) ({ cls := "ShipLanterns", name := "lanternProperty", desc := "(II)I" } : Jvm.MethodName)) ∈ zG := zG_mem 484 rfl rfl
theorem zw_486 : (Jvm.Cond.instanceMethod ({ cls := "ShipLanterns", name := "lanternProperty", desc := "(II)I" } : Jvm.MethodName)) ∈ zG := zG_mem 486 rfl rfl
theorem zw_487 : (Jvm.Cond.code ({ cls := "ShipLanterns", name := "lanternProperty", desc := "(II)I" } : Jvm.MethodName) prog_1_method_50_code (3 : Nat) (Option.some Jvm.ClassFile.FieldType.int)) ∈ zG := zG_mem 487 rfl rfl
theorem zw_488 : (Jvm.Cond.methodLink "ShipLanterns" (388 : Nat) ({ cls := "ShipLanterns", name := "darkReason", desc := "(I)I" } : Jvm.MethodName)) ∈ zG := zG_mem 488 rfl rfl
theorem zw_490 : (Jvm.Cond.instanceMethod ({ cls := "ShipLanterns", name := "darkReason", desc := "(I)I" } : Jvm.MethodName)) ∈ zG := zG_mem 490 rfl rfl
theorem zw_491 : (Jvm.Cond.code ({ cls := "ShipLanterns", name := "darkReason", desc := "(I)I" } : Jvm.MethodName) prog_1_method_51_code (3 : Nat) (Option.some Jvm.ClassFile.FieldType.int)) ∈ zG := zG_mem 491 rfl rfl
theorem zw_492 : (Jvm.Cond.methodLink "ShipLanterns" (261 : Nat) ({ cls := "ShipLanterns", name := "faultProperty", desc := "(II)I" } : Jvm.MethodName)) ∈ zG := zG_mem 492 rfl rfl
theorem zw_494 : (Jvm.Cond.instanceMethod ({ cls := "ShipLanterns", name := "faultProperty", desc := "(II)I" } : Jvm.MethodName)) ∈ zG := zG_mem 494 rfl rfl
theorem zw_495 : (Jvm.Cond.code ({ cls := "ShipLanterns", name := "faultProperty", desc := "(II)I" } : Jvm.MethodName) prog_1_method_52_code (4 : Nat) (Option.some Jvm.ClassFile.FieldType.int)) ∈ zG := zG_mem 495 rfl rfl
theorem zw_496 : (Jvm.Cond.methodLink "ShipLanterns" (275 : Nat) ({ cls := "ShipLanterns$Survey", name := "lampOf", desc := "(I)I" } : Jvm.MethodName)) ∈ zG := zG_mem 496 rfl rfl
theorem zw_497 : (Jvm.Cond.instanceMethod ({ cls := "ShipLanterns$Survey", name := "lampOf", desc := "(I)I" } : Jvm.MethodName)) ∈ zG := zG_mem 497 rfl rfl
theorem zw_498 : (Jvm.Cond.selects "ShipLanterns$Survey" ({ cls := "ShipLanterns$Survey", name := "lampOf", desc := "(I)I" } : Jvm.MethodName) ({ cls := "ShipLanterns$Survey", name := "lampOf", desc := "(I)I" } : Jvm.MethodName)) ∈ zG := zG_mem 498 rfl rfl
theorem zw_499 : (Jvm.Cond.code ({ cls := "ShipLanterns$Survey", name := "lampOf", desc := "(I)I" } : Jvm.MethodName) prog_8_method_4_code (2 : Nat) (Option.some Jvm.ClassFile.FieldType.int)) ∈ zG := zG_mem 499 rfl rfl
theorem zw_500 : (Jvm.Cond.methodLink "ShipLanterns" (278 : Nat) ({ cls := "ShipLanterns", name := "boxesChangingLamp", desc := "(I)I" } : Jvm.MethodName)) ∈ zG := zG_mem 500 rfl rfl
theorem zw_502 : (Jvm.Cond.instanceMethod ({ cls := "ShipLanterns", name := "boxesChangingLamp", desc := "(I)I" } : Jvm.MethodName)) ∈ zG := zG_mem 502 rfl rfl
theorem zw_503 : (Jvm.Cond.code ({ cls := "ShipLanterns", name := "boxesChangingLamp", desc := "(I)I" } : Jvm.MethodName) prog_1_method_41_code (4 : Nat) (Option.some Jvm.ClassFile.FieldType.int)) ∈ zG := zG_mem 503 rfl rfl
theorem zw_504 : (Jvm.Cond.methodLink "ShipLanterns" (310 : Nat) ({ cls := "ShipLanterns", name := "hashTrials", desc := "(J)J" } : Jvm.MethodName)) ∈ zG := zG_mem 504 rfl rfl
theorem zw_506 : (Jvm.Cond.instanceMethod ({ cls := "ShipLanterns", name := "hashTrials", desc := "(J)J" } : Jvm.MethodName)) ∈ zG := zG_mem 506 rfl rfl
theorem zw_507 : (Jvm.Cond.code ({ cls := "ShipLanterns", name := "hashTrials", desc := "(J)J" } : Jvm.MethodName) prog_1_method_56_code (6 : Nat) (Option.some Jvm.ClassFile.FieldType.long)) ∈ zG := zG_mem 507 rfl rfl
theorem zw_508 : (Jvm.Cond.methodLink "ShipLanterns" (293 : Nat) ({ cls := "ShipLanterns", name := "surveyWithWholeFuses", desc := "()V" } : Jvm.MethodName)) ∈ zG := zG_mem 508 rfl rfl
theorem zw_510 : (Jvm.Cond.instanceMethod ({ cls := "ShipLanterns", name := "surveyWithWholeFuses", desc := "()V" } : Jvm.MethodName)) ∈ zG := zG_mem 510 rfl rfl
theorem zw_511 : (Jvm.Cond.code ({ cls := "ShipLanterns", name := "surveyWithWholeFuses", desc := "()V" } : Jvm.MethodName) prog_1_method_40_code (2 : Nat) (Option.none : Option Jvm.ClassFile.FieldType)) ∈ zG := zG_mem 511 rfl rfl
theorem zw_512 : (Jvm.Cond.methodLink "ShipLanterns" (283 : Nat) ({ cls := "ShipLanterns$Ship", name := "copy", desc := "(LShipLanterns$Ship;)V" } : Jvm.MethodName)) ∈ zG := zG_mem 512 rfl rfl
theorem zw_513 : (Jvm.Cond.instanceMethod ({ cls := "ShipLanterns$Ship", name := "copy", desc := "(LShipLanterns$Ship;)V" } : Jvm.MethodName)) ∈ zG := zG_mem 513 rfl rfl
theorem zw_514 : (Jvm.Cond.selects "ShipLanterns$Ship" ({ cls := "ShipLanterns$Ship", name := "copy", desc := "(LShipLanterns$Ship;)V" } : Jvm.MethodName) ({ cls := "ShipLanterns$Ship", name := "copy", desc := "(LShipLanterns$Ship;)V" } : Jvm.MethodName)) ∈ zG := zG_mem 514 rfl rfl
theorem zw_515 : (Jvm.Cond.code ({ cls := "ShipLanterns$Ship", name := "copy", desc := "(LShipLanterns$Ship;)V" } : Jvm.MethodName) prog_7_method_2_code (2 : Nat) (Option.none : Option Jvm.ClassFile.FieldType)) ∈ zG := zG_mem 515 rfl rfl
theorem zw_516 : (Jvm.Cond.methodLink "ShipLanterns$Ship" (48 : Nat) ({ cls := "ShipLanterns$Cables", name := "copy", desc := "(LShipLanterns$Cables;)V" } : Jvm.MethodName)) ∈ zG := zG_mem 516 rfl rfl
theorem zw_517 : (Jvm.Cond.instanceMethod ({ cls := "ShipLanterns$Cables", name := "copy", desc := "(LShipLanterns$Cables;)V" } : Jvm.MethodName)) ∈ zG := zG_mem 517 rfl rfl
theorem zw_518 : (Jvm.Cond.selects "ShipLanterns$Cables" ({ cls := "ShipLanterns$Cables", name := "copy", desc := "(LShipLanterns$Cables;)V" } : Jvm.MethodName) ({ cls := "ShipLanterns$Cables", name := "copy", desc := "(LShipLanterns$Cables;)V" } : Jvm.MethodName)) ∈ zG := zG_mem 518 rfl rfl
theorem zw_519 : (Jvm.Cond.code ({ cls := "ShipLanterns$Cables", name := "copy", desc := "(LShipLanterns$Cables;)V" } : Jvm.MethodName) prog_2_method_5_code (3 : Nat) (Option.none : Option Jvm.ClassFile.FieldType)) ∈ zG := zG_mem 519 rfl rfl
theorem zw_520 : (Jvm.Cond.methodLink "ShipLanterns$Ship" (52 : Nat) ({ cls := "ShipLanterns$Lanterns", name := "copy", desc := "(LShipLanterns$Lanterns;)V" } : Jvm.MethodName)) ∈ zG := zG_mem 520 rfl rfl
theorem zw_521 : (Jvm.Cond.instanceMethod ({ cls := "ShipLanterns$Lanterns", name := "copy", desc := "(LShipLanterns$Lanterns;)V" } : Jvm.MethodName)) ∈ zG := zG_mem 521 rfl rfl
theorem zw_522 : (Jvm.Cond.selects "ShipLanterns$Lanterns" ({ cls := "ShipLanterns$Lanterns", name := "copy", desc := "(LShipLanterns$Lanterns;)V" } : Jvm.MethodName) ({ cls := "ShipLanterns$Lanterns", name := "copy", desc := "(LShipLanterns$Lanterns;)V" } : Jvm.MethodName)) ∈ zG := zG_mem 522 rfl rfl
theorem zw_523 : (Jvm.Cond.code ({ cls := "ShipLanterns$Lanterns", name := "copy", desc := "(LShipLanterns$Lanterns;)V" } : Jvm.MethodName) prog_5_method_4_code (3 : Nat) (Option.none : Option Jvm.ClassFile.FieldType)) ∈ zG := zG_mem 523 rfl rfl
theorem zw_524 : (Jvm.Cond.methodLink "ShipLanterns$Ship" (55 : Nat) ({ cls := "ShipLanterns$Faults", name := "copy", desc := "(LShipLanterns$Faults;)V" } : Jvm.MethodName)) ∈ zG := zG_mem 524 rfl rfl
theorem zw_525 : (Jvm.Cond.instanceMethod ({ cls := "ShipLanterns$Faults", name := "copy", desc := "(LShipLanterns$Faults;)V" } : Jvm.MethodName)) ∈ zG := zG_mem 525 rfl rfl
theorem zw_526 : (Jvm.Cond.selects "ShipLanterns$Faults" ({ cls := "ShipLanterns$Faults", name := "copy", desc := "(LShipLanterns$Faults;)V" } : Jvm.MethodName) ({ cls := "ShipLanterns$Faults", name := "copy", desc := "(LShipLanterns$Faults;)V" } : Jvm.MethodName)) ∈ zG := zG_mem 526 rfl rfl
theorem zw_527 : (Jvm.Cond.code ({ cls := "ShipLanterns$Faults", name := "copy", desc := "(LShipLanterns$Faults;)V" } : Jvm.MethodName) prog_3_method_4_code (3 : Nat) (Option.none : Option Jvm.ClassFile.FieldType)) ∈ zG := zG_mem 527 rfl rfl
theorem zw_528 : (Jvm.Cond.methodLink "ShipLanterns" (239 : Nat) ({ cls := "ShipLanterns$Survey", name := "take", desc := "(LShipLanterns$Ship;)V" } : Jvm.MethodName)) ∈ zG := zG_mem 528 rfl rfl
theorem zw_529 : (Jvm.Cond.instanceMethod ({ cls := "ShipLanterns$Survey", name := "take", desc := "(LShipLanterns$Ship;)V" } : Jvm.MethodName)) ∈ zG := zG_mem 529 rfl rfl
theorem zw_530 : (Jvm.Cond.selects "ShipLanterns$Survey" ({ cls := "ShipLanterns$Survey", name := "take", desc := "(LShipLanterns$Ship;)V" } : Jvm.MethodName) ({ cls := "ShipLanterns$Survey", name := "take", desc := "(LShipLanterns$Ship;)V" } : Jvm.MethodName)) ∈ zG := zG_mem 530 rfl rfl
theorem zw_531 : (Jvm.Cond.code ({ cls := "ShipLanterns$Survey", name := "take", desc := "(LShipLanterns$Ship;)V" } : Jvm.MethodName) prog_8_method_2_code (2 : Nat) (Option.none : Option Jvm.ClassFile.FieldType)) ∈ zG := zG_mem 531 rfl rfl
theorem zw_532 : (Jvm.Cond.methodLink "ShipLanterns$Survey" (61 : Nat) ({ cls := "ShipLanterns$Survey", name := "clearSums", desc := "(I)V" } : Jvm.MethodName)) ∈ zG := zG_mem 532 rfl rfl
theorem zw_534 : (Jvm.Cond.instanceMethod ({ cls := "ShipLanterns$Survey", name := "clearSums", desc := "(I)V" } : Jvm.MethodName)) ∈ zG := zG_mem 534 rfl rfl
theorem zw_535 : (Jvm.Cond.code ({ cls := "ShipLanterns$Survey", name := "clearSums", desc := "(I)V" } : Jvm.MethodName) prog_8_method_7_code (4 : Nat) (Option.none : Option Jvm.ClassFile.FieldType)) ∈ zG := zG_mem 535 rfl rfl
theorem zw_536 : (Jvm.Cond.methodLink "ShipLanterns$Survey" (65 : Nat) ({ cls := "ShipLanterns$Survey", name := "followCables", desc := "(LShipLanterns$Cables;)V" } : Jvm.MethodName)) ∈ zG := zG_mem 536 rfl rfl
theorem zw_538 : (Jvm.Cond.instanceMethod ({ cls := "ShipLanterns$Survey", name := "followCables", desc := "(LShipLanterns$Cables;)V" } : Jvm.MethodName)) ∈ zG := zG_mem 538 rfl rfl
theorem zw_539 : (Jvm.Cond.code ({ cls := "ShipLanterns$Survey", name := "followCables", desc := "(LShipLanterns$Cables;)V" } : Jvm.MethodName) prog_8_method_8_code (7 : Nat) (Option.none : Option Jvm.ClassFile.FieldType)) ∈ zG := zG_mem 539 rfl rfl
theorem zw_540 : (Jvm.Cond.methodLink "ShipLanterns$Survey" (121 : Nat) ({ cls := "ShipLanterns$Cables", name := "connected", desc := "(II)I" } : Jvm.MethodName)) ∈ zG := zG_mem 540 rfl rfl
theorem zw_541 : (Jvm.Cond.instanceMethod ({ cls := "ShipLanterns$Cables", name := "connected", desc := "(II)I" } : Jvm.MethodName)) ∈ zG := zG_mem 541 rfl rfl
theorem zw_542 : (Jvm.Cond.selects "ShipLanterns$Cables" ({ cls := "ShipLanterns$Cables", name := "connected", desc := "(II)I" } : Jvm.MethodName) ({ cls := "ShipLanterns$Cables", name := "connected", desc := "(II)I" } : Jvm.MethodName)) ∈ zG := zG_mem 542 rfl rfl
theorem zw_543 : (Jvm.Cond.code ({ cls := "ShipLanterns$Cables", name := "connected", desc := "(II)I" } : Jvm.MethodName) prog_2_method_3_code (3 : Nat) (Option.some Jvm.ClassFile.FieldType.int)) ∈ zG := zG_mem 543 rfl rfl
theorem zw_544 : (Jvm.Cond.methodLink "ShipLanterns$Survey" (73 : Nat) ({ cls := "ShipLanterns$Survey", name := "findBurning", desc := "(LShipLanterns$Lanterns;)V" } : Jvm.MethodName)) ∈ zG := zG_mem 544 rfl rfl
theorem zw_546 : (Jvm.Cond.instanceMethod ({ cls := "ShipLanterns$Survey", name := "findBurning", desc := "(LShipLanterns$Lanterns;)V" } : Jvm.MethodName)) ∈ zG := zG_mem 546 rfl rfl
theorem zw_547 : (Jvm.Cond.code ({ cls := "ShipLanterns$Survey", name := "findBurning", desc := "(LShipLanterns$Lanterns;)V" } : Jvm.MethodName) prog_8_method_9_code (5 : Nat) (Option.none : Option Jvm.ClassFile.FieldType)) ∈ zG := zG_mem 547 rfl rfl
theorem zw_548 : (Jvm.Cond.methodLink "ShipLanterns$Survey" (81 : Nat) ({ cls := "ShipLanterns$Survey", name := "findStrengths", desc := "(LShipLanterns$Faults;)V" } : Jvm.MethodName)) ∈ zG := zG_mem 548 rfl rfl
theorem zw_550 : (Jvm.Cond.instanceMethod ({ cls := "ShipLanterns$Survey", name := "findStrengths", desc := "(LShipLanterns$Faults;)V" } : Jvm.MethodName)) ∈ zG := zG_mem 550 rfl rfl
theorem zw_551 : (Jvm.Cond.code ({ cls := "ShipLanterns$Survey", name := "findStrengths", desc := "(LShipLanterns$Faults;)V" } : Jvm.MethodName) prog_8_method_10_code (4 : Nat) (Option.none : Option Jvm.ClassFile.FieldType)) ∈ zG := zG_mem 551 rfl rfl
theorem zw_552 : (Jvm.Cond.methodLink "ShipLanterns$Survey" (85 : Nat) ({ cls := "ShipLanterns$Survey", name := "sumUpStrengths", desc := "(LShipLanterns$Cables;)V" } : Jvm.MethodName)) ∈ zG := zG_mem 552 rfl rfl
theorem zw_554 : (Jvm.Cond.instanceMethod ({ cls := "ShipLanterns$Survey", name := "sumUpStrengths", desc := "(LShipLanterns$Cables;)V" } : Jvm.MethodName)) ∈ zG := zG_mem 554 rfl rfl
theorem zw_555 : (Jvm.Cond.code ({ cls := "ShipLanterns$Survey", name := "sumUpStrengths", desc := "(LShipLanterns$Cables;)V" } : Jvm.MethodName) prog_8_method_11_code (4 : Nat) (Option.none : Option Jvm.ClassFile.FieldType)) ∈ zG := zG_mem 555 rfl rfl
theorem zw_556 : (Jvm.Cond.methodLink "ShipLanterns$Survey" (88 : Nat) ({ cls := "ShipLanterns$Survey", name := "lampOf", desc := "(I)I" } : Jvm.MethodName)) ∈ zG := zG_mem 556 rfl rfl
theorem zw_557 : (Jvm.Cond.methodLink "ShipLanterns$Survey" (92 : Nat) ({ cls := "java/lang/Math", name := "min", desc := "(II)I" } : Jvm.MethodName)) ∈ zG := zG_mem 557 rfl rfl
theorem zw_558 : (Jvm.Cond.static ({ cls := "java/lang/Math", name := "min", desc := "(II)I" } : Jvm.MethodName)) ∈ zG := zG_mem 558 rfl rfl
theorem zw_559 : (Jvm.Cond.code ({ cls := "java/lang/Math", name := "min", desc := "(II)I" } : Jvm.MethodName) prog_16_method_69_code (2 : Nat) (Option.some Jvm.ClassFile.FieldType.int)) ∈ zG := zG_mem 559 rfl rfl
theorem zw_560 : (Jvm.Cond.methodLink "ShipLanterns$Survey" (98 : Nat) ({ cls := "ShipLanterns$Survey", name := "shareLeak", desc := "(LShipLanterns$Faults;I)V" } : Jvm.MethodName)) ∈ zG := zG_mem 560 rfl rfl
theorem zw_562 : (Jvm.Cond.instanceMethod ({ cls := "ShipLanterns$Survey", name := "shareLeak", desc := "(LShipLanterns$Faults;I)V" } : Jvm.MethodName)) ∈ zG := zG_mem 562 rfl rfl
theorem zw_563 : (Jvm.Cond.code ({ cls := "ShipLanterns$Survey", name := "shareLeak", desc := "(LShipLanterns$Faults;I)V" } : Jvm.MethodName) prog_8_method_12_code (6 : Nat) (Option.none : Option Jvm.ClassFile.FieldType)) ∈ zG := zG_mem 563 rfl rfl
theorem zw_564 : (Jvm.Cond.methodLink "ShipLanterns$Survey" (102 : Nat) ({ cls := "ShipLanterns$Survey", name := "sumUpCurrents", desc := "(LShipLanterns$Cables;)V" } : Jvm.MethodName)) ∈ zG := zG_mem 564 rfl rfl
theorem zw_566 : (Jvm.Cond.instanceMethod ({ cls := "ShipLanterns$Survey", name := "sumUpCurrents", desc := "(LShipLanterns$Cables;)V" } : Jvm.MethodName)) ∈ zG := zG_mem 566 rfl rfl
theorem zw_567 : (Jvm.Cond.code ({ cls := "ShipLanterns$Survey", name := "sumUpCurrents", desc := "(LShipLanterns$Cables;)V" } : Jvm.MethodName) prog_8_method_13_code (5 : Nat) (Option.none : Option Jvm.ClassFile.FieldType)) ∈ zG := zG_mem 567 rfl rfl
theorem zw_568 : (Jvm.Cond.methodLink "ShipLanterns" (290 : Nat) ({ cls := "ShipLanterns", name := "burningIfToggled", desc := "(I)I" } : Jvm.MethodName)) ∈ zG := zG_mem 568 rfl rfl
theorem zw_570 : (Jvm.Cond.instanceMethod ({ cls := "ShipLanterns", name := "burningIfToggled", desc := "(I)I" } : Jvm.MethodName)) ∈ zG := zG_mem 570 rfl rfl
theorem zw_571 : (Jvm.Cond.code ({ cls := "ShipLanterns", name := "burningIfToggled", desc := "(I)I" } : Jvm.MethodName) prog_1_method_39_code (2 : Nat) (Option.some Jvm.ClassFile.FieldType.int)) ∈ zG := zG_mem 571 rfl rfl
theorem zw_572 : (Jvm.Cond.methodLink "ShipLanterns" (95 : Nat) ({ cls := "ShipLanterns", name := "settle", desc := "(LShipLanterns$Ship;LShipLanterns$Survey;)I" } : Jvm.MethodName)) ∈ zG := zG_mem 572 rfl rfl
theorem zw_573 : (Jvm.Cond.static ({ cls := "ShipLanterns", name := "settle", desc := "(LShipLanterns$Ship;LShipLanterns$Survey;)I" } : Jvm.MethodName)) ∈ zG := zG_mem 573 rfl rfl
theorem zw_574 : (Jvm.Cond.code ({ cls := "ShipLanterns", name := "settle", desc := "(LShipLanterns$Ship;LShipLanterns$Survey;)I" } : Jvm.MethodName) prog_1_method_38_code (4 : Nat) (Option.some Jvm.ClassFile.FieldType.int)) ∈ zG := zG_mem 574 rfl rfl
theorem zw_575 : (Jvm.Cond.methodLink "ShipLanterns" (286 : Nat) ({ cls := "ShipLanterns$Survey", name := "fuseToBlow", desc := "(LShipLanterns$Cables;)I" } : Jvm.MethodName)) ∈ zG := zG_mem 575 rfl rfl
theorem zw_576 : (Jvm.Cond.instanceMethod ({ cls := "ShipLanterns$Survey", name := "fuseToBlow", desc := "(LShipLanterns$Cables;)I" } : Jvm.MethodName)) ∈ zG := zG_mem 576 rfl rfl
theorem zw_577 : (Jvm.Cond.selects "ShipLanterns$Survey" ({ cls := "ShipLanterns$Survey", name := "fuseToBlow", desc := "(LShipLanterns$Cables;)I" } : Jvm.MethodName) ({ cls := "ShipLanterns$Survey", name := "fuseToBlow", desc := "(LShipLanterns$Cables;)I" } : Jvm.MethodName)) ∈ zG := zG_mem 577 rfl rfl
theorem zw_578 : (Jvm.Cond.code ({ cls := "ShipLanterns$Survey", name := "fuseToBlow", desc := "(LShipLanterns$Cables;)I" } : Jvm.MethodName) prog_8_method_6_code (6 : Nat) (Option.some Jvm.ClassFile.FieldType.int)) ∈ zG := zG_mem 578 rfl rfl
theorem zw_579 : (Jvm.Cond.methodLink "ShipLanterns$Survey" (109 : Nat) ({ cls := "ShipLanterns$Survey", name := "current", desc := "(I)I" } : Jvm.MethodName)) ∈ zG := zG_mem 579 rfl rfl
theorem zw_580 : (Jvm.Cond.methodLink "ShipLanterns" (313 : Nat) ({ cls := "ShipLanterns", name := "lossShare", desc := "()D" } : Jvm.MethodName)) ∈ zG := zG_mem 580 rfl rfl
theorem zw_581 : (Jvm.Cond.methodLink "ShipLanterns" (317 : Nat) ({ cls := "ShipLanterns", name := "bitsOfShare", desc := "(D)J" } : Jvm.MethodName)) ∈ zG := zG_mem 581 rfl rfl
theorem zw_582 : (Jvm.Cond.static ({ cls := "ShipLanterns", name := "bitsOfShare", desc := "(D)J" } : Jvm.MethodName)) ∈ zG := zG_mem 582 rfl rfl
theorem zw_583 : (Jvm.Cond.code ({ cls := "ShipLanterns", name := "bitsOfShare", desc := "(D)J" } : Jvm.MethodName) prog_1_method_58_code (8 : Nat) (Option.some Jvm.ClassFile.FieldType.long)) ∈ zG := zG_mem 583 rfl rfl
theorem zw_584 : (Jvm.Cond.constantLong "ShipLanterns" (403 : Nat) (1023 : Int64)) ∈ zG := zG_mem 584 rfl rfl
theorem zw_585 : (Jvm.Cond.constantDouble "ShipLanterns" (405 : Nat) (4611686018427387904 : UInt64)) ∈ zG := zG_mem 585 rfl rfl
theorem zw_586 : (Jvm.Cond.constantDouble "ShipLanterns" (407 : Nat) (4841369599423283200 : UInt64)) ∈ zG := zG_mem 586 rfl rfl
theorem zw_587 : (Jvm.Cond.methodLink "ShipLanterns" (321 : Nat) ({ cls := "ShipLanterns", name := "hashSigns", desc := "(J)J" } : Jvm.MethodName)) ∈ zG := zG_mem 587 rfl rfl
theorem zw_589 : (Jvm.Cond.instanceMethod ({ cls := "ShipLanterns", name := "hashSigns", desc := "(J)J" } : Jvm.MethodName)) ∈ zG := zG_mem 589 rfl rfl
theorem zw_590 : (Jvm.Cond.code ({ cls := "ShipLanterns", name := "hashSigns", desc := "(J)J" } : Jvm.MethodName) prog_1_method_57_code (6 : Nat) (Option.some Jvm.ClassFile.FieldType.long)) ∈ zG := zG_mem 590 rfl rfl
theorem zw_591 : (Jvm.Cond.methodLink "ShipLanternsLaw" (95 : Nat) ({ cls := "ShipLanternsLaw", name := "addBox", desc := "(LShipLanterns;IIIZ[J)I" } : Jvm.MethodName)) ∈ zG := zG_mem 591 rfl rfl
theorem zw_592 : (Jvm.Cond.static ({ cls := "ShipLanternsLaw", name := "addBox", desc := "(LShipLanterns;IIIZ[J)I" } : Jvm.MethodName)) ∈ zG := zG_mem 592 rfl rfl
theorem zw_593 : (Jvm.Cond.codeWith ({ cls := "ShipLanternsLaw", name := "addBox", desc := "(LShipLanterns;IIIZ[J)I" } : Jvm.MethodName) method_3_code (7 : Nat) (Option.some Jvm.ClassFile.FieldType.int) [((0 : Nat), (14 : Nat), (17 : Nat), (13 : Nat)), ((0 : Nat), (14 : Nat), (21 : Nat), (15 : Nat)), ((0 : Nat), (14 : Nat), (25 : Nat), (17 : Nat))]) ∈ zG := zG_mem 593 rfl rfl
theorem zw_594 : (Jvm.Cond.classLink "ShipLanternsLaw" (13 : Nat) "java/lang/IndexOutOfBoundsException") ∈ zG := zG_mem 594 rfl rfl
theorem zw_595 : (Jvm.Cond.classLink "ShipLanternsLaw" (15 : Nat) "java/lang/IllegalArgumentException") ∈ zG := zG_mem 595 rfl rfl
theorem zw_596 : (Jvm.Cond.classLink "ShipLanternsLaw" (17 : Nat) "java/lang/IllegalStateException") ∈ zG := zG_mem 596 rfl rfl
theorem zw_597 : (Jvm.Cond.methodLink "ShipLanternsLaw" (7 : Nat) ({ cls := "ShipLanterns", name := "addBox", desc := "(IIIZ)I" } : Jvm.MethodName)) ∈ zG := zG_mem 597 rfl rfl
theorem zw_598 : (Jvm.Cond.instanceMethod ({ cls := "ShipLanterns", name := "addBox", desc := "(IIIZ)I" } : Jvm.MethodName)) ∈ zG := zG_mem 598 rfl rfl
theorem zw_599 : (Jvm.Cond.selects "ShipLanterns" ({ cls := "ShipLanterns", name := "addBox", desc := "(IIIZ)I" } : Jvm.MethodName) ({ cls := "ShipLanterns", name := "addBox", desc := "(IIIZ)I" } : Jvm.MethodName)) ∈ zG := zG_mem 599 rfl rfl
theorem zw_600 : (Jvm.Cond.code ({ cls := "ShipLanterns", name := "addBox", desc := "(IIIZ)I" } : Jvm.MethodName) prog_1_method_2_code (5 : Nat) (Option.some Jvm.ClassFile.FieldType.int)) ∈ zG := zG_mem 600 rfl rfl
theorem zw_601 : (Jvm.Cond.methodLink "ShipLanterns" (54 : Nat) ({ cls := "ShipLanterns", name := "isBox", desc := "(I)Z" } : Jvm.MethodName)) ∈ zG := zG_mem 601 rfl rfl
theorem zw_603 : (Jvm.Cond.instanceMethod ({ cls := "ShipLanterns", name := "isBox", desc := "(I)Z" } : Jvm.MethodName)) ∈ zG := zG_mem 603 rfl rfl
theorem zw_604 : (Jvm.Cond.code ({ cls := "ShipLanterns", name := "isBox", desc := "(I)Z" } : Jvm.MethodName) prog_1_method_29_code (2 : Nat) (Option.some Jvm.ClassFile.FieldType.boolean)) ∈ zG := zG_mem 604 rfl rfl
theorem zw_605 : (Jvm.Cond.classLink "ShipLanterns" (58 : Nat) "java/lang/IndexOutOfBoundsException") ∈ zG := zG_mem 605 rfl rfl
theorem zw_606 : (Jvm.Cond.instantiable "java/lang/IndexOutOfBoundsException" (6 : Nat)) ∈ zG := zG_mem 606 rfl rfl
theorem zw_614 : (Jvm.Cond.selects "java/lang/IndexOutOfBoundsException" ({ cls := "java/lang/Throwable", name := "fillInStackTrace", desc := "(I)Ljava/lang/Throwable;" } : Jvm.MethodName) ({ cls := "java/lang/Throwable", name := "fillInStackTrace", desc := "(I)Ljava/lang/Throwable;" } : Jvm.MethodName)) ∈ zG := zG_mem 614 rfl rfl
theorem zw_615 : (Jvm.Cond.selects "java/lang/IndexOutOfBoundsException" ({ cls := "java/lang/Throwable", name := "fillInStackTrace", desc := "()Ljava/lang/Throwable;" } : Jvm.MethodName) ({ cls := "java/lang/Throwable", name := "fillInStackTrace", desc := "()Ljava/lang/Throwable;" } : Jvm.MethodName)) ∈ zG := zG_mem 615 rfl rfl
theorem zw_616 : (Jvm.Cond.lays "java/lang/IndexOutOfBoundsException" "java/lang/Throwable" "cause" "Ljava/lang/Throwable;") ∈ zG := zG_mem 616 rfl rfl
theorem zw_617 : (Jvm.Cond.lays "java/lang/Throwable" "java/lang/Throwable" "cause" "Ljava/lang/Throwable;") ∈ zG := zG_mem 617 rfl rfl
theorem zw_618 : (Jvm.Cond.lays "java/lang/IndexOutOfBoundsException" "java/lang/Throwable" "stackTrace" "[Ljava/lang/StackTraceElement;") ∈ zG := zG_mem 618 rfl rfl
theorem zw_619 : (Jvm.Cond.lays "java/lang/Throwable" "java/lang/Throwable" "stackTrace" "[Ljava/lang/StackTraceElement;") ∈ zG := zG_mem 619 rfl rfl
theorem zw_620 : (Jvm.Cond.lays "java/lang/IndexOutOfBoundsException" "java/lang/Throwable" "suppressedExceptions" "Ljava/util/List;") ∈ zG := zG_mem 620 rfl rfl
theorem zw_621 : (Jvm.Cond.lays "java/lang/Throwable" "java/lang/Throwable" "suppressedExceptions" "Ljava/util/List;") ∈ zG := zG_mem 621 rfl rfl
theorem zw_622 : (Jvm.Cond.lays "java/lang/IndexOutOfBoundsException" "java/lang/Throwable" "detailMessage" "Ljava/lang/String;") ∈ zG := zG_mem 622 rfl rfl
theorem zw_623 : (Jvm.Cond.lays "java/lang/Throwable" "java/lang/Throwable" "detailMessage" "Ljava/lang/String;") ∈ zG := zG_mem 623 rfl rfl
theorem zw_624 : (Jvm.Cond.lays "java/lang/IndexOutOfBoundsException" "java/lang/Throwable" "backtrace" "Ljava/lang/Object;") ∈ zG := zG_mem 624 rfl rfl
theorem zw_625 : (Jvm.Cond.lays "java/lang/Throwable" "java/lang/Throwable" "backtrace" "Ljava/lang/Object;") ∈ zG := zG_mem 625 rfl rfl
theorem zw_626 : (Jvm.Cond.fieldLink "java/lang/Throwable" (198 : Nat) "java/lang/Throwable" "backtrace" "Ljava/lang/Object;") ∈ zG := zG_mem 626 rfl rfl
theorem zw_628 : (Jvm.Cond.instanceMethod ({ cls := "java/lang/Throwable", name := "<init>", desc := "()V" } : Jvm.MethodName)) ∈ zG := zG_mem 628 rfl rfl
theorem zw_629 : (Jvm.Cond.code ({ cls := "java/lang/Throwable", name := "<init>", desc := "()V" } : Jvm.MethodName) prog_19_method_1_code (1 : Nat) (Option.none : Option Jvm.ClassFile.FieldType)) ∈ zG := zG_mem 629 rfl rfl
theorem zw_630 : (Jvm.Cond.methodLink "java/lang/Throwable" (1 : Nat) ({ cls := "java/lang/Object", name := "<init>", desc := "()V" } : Jvm.MethodName)) ∈ zG := zG_mem 630 rfl rfl
theorem zw_631 : (Jvm.Cond.fieldLink "java/lang/Throwable" (13 : Nat) "java/lang/Throwable" "UNASSIGNED_STACK" "[Ljava/lang/StackTraceElement;") ∈ zG := zG_mem 631 rfl rfl
theorem zw_633 : (Jvm.Cond.fieldLink "java/lang/Throwable" (20 : Nat) "java/lang/Throwable" "SUPPRESSED_SENTINEL" "Ljava/util/List;") ∈ zG := zG_mem 633 rfl rfl
theorem zw_635 : (Jvm.Cond.methodLink "java/lang/Throwable" (27 : Nat) ({ cls := "java/lang/Throwable", name := "fillInStackTrace", desc := "()Ljava/lang/Throwable;" } : Jvm.MethodName)) ∈ zG := zG_mem 635 rfl rfl
theorem zw_636 : (Jvm.Cond.instanceMethod ({ cls := "java/lang/Throwable", name := "fillInStackTrace", desc := "()Ljava/lang/Throwable;" } : Jvm.MethodName)) ∈ zG := zG_mem 636 rfl rfl
theorem zw_638 : (Jvm.Cond.selects "java/lang/IllegalArgumentException" ({ cls := "java/lang/Throwable", name := "fillInStackTrace", desc := "()Ljava/lang/Throwable;" } : Jvm.MethodName) ({ cls := "java/lang/Throwable", name := "fillInStackTrace", desc := "()Ljava/lang/Throwable;" } : Jvm.MethodName)) ∈ zG := zG_mem 638 rfl rfl
theorem zw_639 : (Jvm.Cond.selects "java/lang/IllegalStateException" ({ cls := "java/lang/Throwable", name := "fillInStackTrace", desc := "()Ljava/lang/Throwable;" } : Jvm.MethodName) ({ cls := "java/lang/Throwable", name := "fillInStackTrace", desc := "()Ljava/lang/Throwable;" } : Jvm.MethodName)) ∈ zG := zG_mem 639 rfl rfl
theorem zw_641 : (Jvm.Cond.methodLink "java/lang/Throwable" (202 : Nat) ({ cls := "java/lang/Throwable", name := "fillInStackTrace", desc := "(I)Ljava/lang/Throwable;" } : Jvm.MethodName)) ∈ zG := zG_mem 641 rfl rfl
theorem zw_643 : (Jvm.Cond.instanceMethod ({ cls := "java/lang/Throwable", name := "fillInStackTrace", desc := "(I)Ljava/lang/Throwable;" } : Jvm.MethodName)) ∈ zG := zG_mem 643 rfl rfl
theorem zw_644 : (Jvm.Cond.instantiable "java/lang/Throwable" (6 : Nat)) ∈ zG := zG_mem 644 rfl rfl
theorem zw_645 : (Jvm.Cond.native ({ cls := "java/lang/Throwable", name := "fillInStackTrace", desc := "(I)Ljava/lang/Throwable;" } : Jvm.MethodName)) ∈ zG := zG_mem 645 rfl rfl
theorem zw_647 : (Jvm.Cond.methodLink "ShipLanterns" (62 : Nat) ({ cls := "java/lang/IndexOutOfBoundsException", name := "<init>", desc := "(Ljava/lang/String;)V" } : Jvm.MethodName)) ∈ zG := zG_mem 647 rfl rfl
theorem zw_648 : (Jvm.Cond.instanceMethod ({ cls := "java/lang/IndexOutOfBoundsException", name := "<init>", desc := "(Ljava/lang/String;)V" } : Jvm.MethodName)) ∈ zG := zG_mem 648 rfl rfl
theorem zw_649 : (Jvm.Cond.code ({ cls := "java/lang/IndexOutOfBoundsException", name := "<init>", desc := "(Ljava/lang/String;)V" } : Jvm.MethodName) prog_15_method_2_code (2 : Nat) (Option.none : Option Jvm.ClassFile.FieldType)) ∈ zG := zG_mem 649 rfl rfl
theorem zw_650 : (Jvm.Cond.methodLink "java/lang/IndexOutOfBoundsException" (7 : Nat) ({ cls := "java/lang/RuntimeException", name := "<init>", desc := "(Ljava/lang/String;)V" } : Jvm.MethodName)) ∈ zG := zG_mem 650 rfl rfl
theorem zw_651 : (Jvm.Cond.instanceMethod ({ cls := "java/lang/RuntimeException", name := "<init>", desc := "(Ljava/lang/String;)V" } : Jvm.MethodName)) ∈ zG := zG_mem 651 rfl rfl
theorem zw_652 : (Jvm.Cond.code ({ cls := "java/lang/RuntimeException", name := "<init>", desc := "(Ljava/lang/String;)V" } : Jvm.MethodName) prog_17_method_2_code (2 : Nat) (Option.none : Option Jvm.ClassFile.FieldType)) ∈ zG := zG_mem 652 rfl rfl
theorem zw_653 : (Jvm.Cond.methodLink "java/lang/RuntimeException" (7 : Nat) ({ cls := "java/lang/Exception", name := "<init>", desc := "(Ljava/lang/String;)V" } : Jvm.MethodName)) ∈ zG := zG_mem 653 rfl rfl
theorem zw_654 : (Jvm.Cond.instanceMethod ({ cls := "java/lang/Exception", name := "<init>", desc := "(Ljava/lang/String;)V" } : Jvm.MethodName)) ∈ zG := zG_mem 654 rfl rfl
theorem zw_655 : (Jvm.Cond.code ({ cls := "java/lang/Exception", name := "<init>", desc := "(Ljava/lang/String;)V" } : Jvm.MethodName) prog_12_method_2_code (2 : Nat) (Option.none : Option Jvm.ClassFile.FieldType)) ∈ zG := zG_mem 655 rfl rfl
theorem zw_656 : (Jvm.Cond.methodLink "java/lang/Exception" (7 : Nat) ({ cls := "java/lang/Throwable", name := "<init>", desc := "(Ljava/lang/String;)V" } : Jvm.MethodName)) ∈ zG := zG_mem 656 rfl rfl
theorem zw_657 : (Jvm.Cond.instanceMethod ({ cls := "java/lang/Throwable", name := "<init>", desc := "(Ljava/lang/String;)V" } : Jvm.MethodName)) ∈ zG := zG_mem 657 rfl rfl
theorem zw_658 : (Jvm.Cond.code ({ cls := "java/lang/Throwable", name := "<init>", desc := "(Ljava/lang/String;)V" } : Jvm.MethodName) prog_19_method_2_code (2 : Nat) (Option.none : Option Jvm.ClassFile.FieldType)) ∈ zG := zG_mem 658 rfl rfl
theorem zw_659 : (Jvm.Cond.fieldLink "java/lang/Throwable" (198 : Nat) "java/lang/Throwable" "backtrace" "Ljava/lang/Object;") ∈ zG := zG_mem 659 rfl rfl
theorem zw_660 : (Jvm.Cond.fieldLink "java/lang/Throwable" (31 : Nat) "java/lang/Throwable" "detailMessage" "Ljava/lang/String;") ∈ zG := zG_mem 660 rfl rfl
theorem zw_661 : (Jvm.Cond.fieldLink "java/lang/Throwable" (7 : Nat) "java/lang/Throwable" "cause" "Ljava/lang/Throwable;") ∈ zG := zG_mem 661 rfl rfl
theorem zw_662 : (Jvm.Cond.fieldLink "java/lang/Throwable" (17 : Nat) "java/lang/Throwable" "stackTrace" "[Ljava/lang/StackTraceElement;") ∈ zG := zG_mem 662 rfl rfl
theorem zw_663 : (Jvm.Cond.fieldLink "java/lang/Throwable" (24 : Nat) "java/lang/Throwable" "suppressedExceptions" "Ljava/util/List;") ∈ zG := zG_mem 663 rfl rfl
theorem zw_668 : (Jvm.Cond.lays "java/lang/IndexOutOfBoundsException" "java/lang/Throwable" "depth" "I") ∈ zG := zG_mem 668 rfl rfl
theorem zw_672 : (Jvm.Cond.arrayClass Jvm.ClassFile.FieldType.byte) ∈ zG := zG_mem 672 rfl rfl
theorem zw_673 : (Jvm.Cond.methodLink "ShipLanterns" (65 : Nat) ({ cls := "ShipLanterns", name := "isRating", desc := "(I)Z" } : Jvm.MethodName)) ∈ zG := zG_mem 673 rfl rfl
theorem zw_674 : (Jvm.Cond.static ({ cls := "ShipLanterns", name := "isRating", desc := "(I)Z" } : Jvm.MethodName)) ∈ zG := zG_mem 674 rfl rfl
theorem zw_675 : (Jvm.Cond.code ({ cls := "ShipLanterns", name := "isRating", desc := "(I)Z" } : Jvm.MethodName) prog_1_method_35_code (1 : Nat) (Option.some Jvm.ClassFile.FieldType.boolean)) ∈ zG := zG_mem 675 rfl rfl
theorem zw_676 : (Jvm.Cond.classLink "ShipLanterns" (68 : Nat) "java/lang/IllegalArgumentException") ∈ zG := zG_mem 676 rfl rfl
theorem zw_677 : (Jvm.Cond.instantiable "java/lang/IllegalArgumentException" (6 : Nat)) ∈ zG := zG_mem 677 rfl rfl
theorem zw_679 : (Jvm.Cond.selects "java/lang/IllegalArgumentException" ({ cls := "java/lang/Throwable", name := "fillInStackTrace", desc := "(I)Ljava/lang/Throwable;" } : Jvm.MethodName) ({ cls := "java/lang/Throwable", name := "fillInStackTrace", desc := "(I)Ljava/lang/Throwable;" } : Jvm.MethodName)) ∈ zG := zG_mem 679 rfl rfl
theorem zw_680 : (Jvm.Cond.lays "java/lang/IllegalArgumentException" "java/lang/Throwable" "cause" "Ljava/lang/Throwable;") ∈ zG := zG_mem 680 rfl rfl
theorem zw_681 : (Jvm.Cond.lays "java/lang/IllegalArgumentException" "java/lang/Throwable" "stackTrace" "[Ljava/lang/StackTraceElement;") ∈ zG := zG_mem 681 rfl rfl
theorem zw_682 : (Jvm.Cond.lays "java/lang/IllegalArgumentException" "java/lang/Throwable" "suppressedExceptions" "Ljava/util/List;") ∈ zG := zG_mem 682 rfl rfl
theorem zw_683 : (Jvm.Cond.lays "java/lang/IllegalArgumentException" "java/lang/Throwable" "detailMessage" "Ljava/lang/String;") ∈ zG := zG_mem 683 rfl rfl
theorem zw_684 : (Jvm.Cond.lays "java/lang/IllegalArgumentException" "java/lang/Throwable" "backtrace" "Ljava/lang/Object;") ∈ zG := zG_mem 684 rfl rfl
theorem zw_686 : (Jvm.Cond.methodLink "ShipLanterns" (72 : Nat) ({ cls := "java/lang/IllegalArgumentException", name := "<init>", desc := "(Ljava/lang/String;)V" } : Jvm.MethodName)) ∈ zG := zG_mem 686 rfl rfl
theorem zw_687 : (Jvm.Cond.instanceMethod ({ cls := "java/lang/IllegalArgumentException", name := "<init>", desc := "(Ljava/lang/String;)V" } : Jvm.MethodName)) ∈ zG := zG_mem 687 rfl rfl
theorem zw_688 : (Jvm.Cond.code ({ cls := "java/lang/IllegalArgumentException", name := "<init>", desc := "(Ljava/lang/String;)V" } : Jvm.MethodName) prog_13_method_2_code (2 : Nat) (Option.none : Option Jvm.ClassFile.FieldType)) ∈ zG := zG_mem 688 rfl rfl
theorem zw_689 : (Jvm.Cond.methodLink "java/lang/IllegalArgumentException" (7 : Nat) ({ cls := "java/lang/RuntimeException", name := "<init>", desc := "(Ljava/lang/String;)V" } : Jvm.MethodName)) ∈ zG := zG_mem 689 rfl rfl
theorem zw_690 : (Jvm.Cond.lays "java/lang/IllegalArgumentException" "java/lang/Throwable" "depth" "I") ∈ zG := zG_mem 690 rfl rfl
theorem zw_692 : (Jvm.Cond.classLink "ShipLanterns" (82 : Nat) "java/lang/IllegalStateException") ∈ zG := zG_mem 692 rfl rfl
theorem zw_693 : (Jvm.Cond.instantiable "java/lang/IllegalStateException" (6 : Nat)) ∈ zG := zG_mem 693 rfl rfl
theorem zw_695 : (Jvm.Cond.selects "java/lang/IllegalStateException" ({ cls := "java/lang/Throwable", name := "fillInStackTrace", desc := "(I)Ljava/lang/Throwable;" } : Jvm.MethodName) ({ cls := "java/lang/Throwable", name := "fillInStackTrace", desc := "(I)Ljava/lang/Throwable;" } : Jvm.MethodName)) ∈ zG := zG_mem 695 rfl rfl
theorem zw_696 : (Jvm.Cond.lays "java/lang/IllegalStateException" "java/lang/Throwable" "cause" "Ljava/lang/Throwable;") ∈ zG := zG_mem 696 rfl rfl
theorem zw_697 : (Jvm.Cond.lays "java/lang/IllegalStateException" "java/lang/Throwable" "stackTrace" "[Ljava/lang/StackTraceElement;") ∈ zG := zG_mem 697 rfl rfl
theorem zw_698 : (Jvm.Cond.lays "java/lang/IllegalStateException" "java/lang/Throwable" "suppressedExceptions" "Ljava/util/List;") ∈ zG := zG_mem 698 rfl rfl
theorem zw_699 : (Jvm.Cond.lays "java/lang/IllegalStateException" "java/lang/Throwable" "detailMessage" "Ljava/lang/String;") ∈ zG := zG_mem 699 rfl rfl
theorem zw_700 : (Jvm.Cond.lays "java/lang/IllegalStateException" "java/lang/Throwable" "backtrace" "Ljava/lang/Object;") ∈ zG := zG_mem 700 rfl rfl
theorem zw_702 : (Jvm.Cond.methodLink "ShipLanterns" (86 : Nat) ({ cls := "java/lang/IllegalStateException", name := "<init>", desc := "(Ljava/lang/String;)V" } : Jvm.MethodName)) ∈ zG := zG_mem 702 rfl rfl
theorem zw_703 : (Jvm.Cond.instanceMethod ({ cls := "java/lang/IllegalStateException", name := "<init>", desc := "(Ljava/lang/String;)V" } : Jvm.MethodName)) ∈ zG := zG_mem 703 rfl rfl
theorem zw_704 : (Jvm.Cond.code ({ cls := "java/lang/IllegalStateException", name := "<init>", desc := "(Ljava/lang/String;)V" } : Jvm.MethodName) prog_14_method_2_code (2 : Nat) (Option.none : Option Jvm.ClassFile.FieldType)) ∈ zG := zG_mem 704 rfl rfl
theorem zw_705 : (Jvm.Cond.methodLink "java/lang/IllegalStateException" (7 : Nat) ({ cls := "java/lang/RuntimeException", name := "<init>", desc := "(Ljava/lang/String;)V" } : Jvm.MethodName)) ∈ zG := zG_mem 705 rfl rfl
theorem zw_706 : (Jvm.Cond.lays "java/lang/IllegalStateException" "java/lang/Throwable" "depth" "I") ∈ zG := zG_mem 706 rfl rfl
theorem zw_708 : (Jvm.Cond.methodLink "ShipLanterns" (87 : Nat) ({ cls := "ShipLanterns$History", name := "save", desc := "(LShipLanterns$Ship;)V" } : Jvm.MethodName)) ∈ zG := zG_mem 708 rfl rfl
theorem zw_709 : (Jvm.Cond.instanceMethod ({ cls := "ShipLanterns$History", name := "save", desc := "(LShipLanterns$Ship;)V" } : Jvm.MethodName)) ∈ zG := zG_mem 709 rfl rfl
theorem zw_710 : (Jvm.Cond.selects "ShipLanterns$History" ({ cls := "ShipLanterns$History", name := "save", desc := "(LShipLanterns$Ship;)V" } : Jvm.MethodName) ({ cls := "ShipLanterns$History", name := "save", desc := "(LShipLanterns$Ship;)V" } : Jvm.MethodName)) ∈ zG := zG_mem 710 rfl rfl
theorem zw_711 : (Jvm.Cond.code ({ cls := "ShipLanterns$History", name := "save", desc := "(LShipLanterns$Ship;)V" } : Jvm.MethodName) prog_4_method_2_code (2 : Nat) (Option.none : Option Jvm.ClassFile.FieldType)) ∈ zG := zG_mem 711 rfl rfl
theorem zw_712 : (Jvm.Cond.methodLink "ShipLanterns$History" (22 : Nat) ({ cls := "ShipLanterns$History", name := "dropOldest", desc := "()V" } : Jvm.MethodName)) ∈ zG := zG_mem 712 rfl rfl
theorem zw_714 : (Jvm.Cond.instanceMethod ({ cls := "ShipLanterns$History", name := "dropOldest", desc := "()V" } : Jvm.MethodName)) ∈ zG := zG_mem 714 rfl rfl
theorem zw_715 : (Jvm.Cond.code ({ cls := "ShipLanterns$History", name := "dropOldest", desc := "()V" } : Jvm.MethodName) prog_4_method_4_code (3 : Nat) (Option.none : Option Jvm.ClassFile.FieldType)) ∈ zG := zG_mem 715 rfl rfl
theorem zw_716 : (Jvm.Cond.methodLink "ShipLanterns$History" (25 : Nat) ({ cls := "ShipLanterns$Ship", name := "copy", desc := "(LShipLanterns$Ship;)V" } : Jvm.MethodName)) ∈ zG := zG_mem 716 rfl rfl
theorem zw_717 : (Jvm.Cond.methodLink "ShipLanterns" (91 : Nat) ({ cls := "ShipLanterns$Cables", name := "add", desc := "(IIIZ)V" } : Jvm.MethodName)) ∈ zG := zG_mem 717 rfl rfl
theorem zw_718 : (Jvm.Cond.instanceMethod ({ cls := "ShipLanterns$Cables", name := "add", desc := "(IIIZ)V" } : Jvm.MethodName)) ∈ zG := zG_mem 718 rfl rfl
theorem zw_719 : (Jvm.Cond.selects "ShipLanterns$Cables" ({ cls := "ShipLanterns$Cables", name := "add", desc := "(IIIZ)V" } : Jvm.MethodName) ({ cls := "ShipLanterns$Cables", name := "add", desc := "(IIIZ)V" } : Jvm.MethodName)) ∈ zG := zG_mem 719 rfl rfl
theorem zw_720 : (Jvm.Cond.code ({ cls := "ShipLanterns$Cables", name := "add", desc := "(IIIZ)V" } : Jvm.MethodName) prog_2_method_2_code (5 : Nat) (Option.none : Option Jvm.ClassFile.FieldType)) ∈ zG := zG_mem 720 rfl rfl
theorem zw_721 : (Jvm.Cond.methodLink "ShipLanternsLaw" (104 : Nat) ({ cls := "ShipLanternsLaw", name := "toggle", desc := "(LShipLanterns;I[J)I" } : Jvm.MethodName)) ∈ zG := zG_mem 721 rfl rfl
theorem zw_722 : (Jvm.Cond.static ({ cls := "ShipLanternsLaw", name := "toggle", desc := "(LShipLanterns;I[J)I" } : Jvm.MethodName)) ∈ zG := zG_mem 722 rfl rfl
theorem zw_723 : (Jvm.Cond.codeWith ({ cls := "ShipLanternsLaw", name := "toggle", desc := "(LShipLanterns;I[J)I" } : Jvm.MethodName) method_4_code (4 : Nat) (Option.some Jvm.ClassFile.FieldType.int) [((0 : Nat), (9 : Nat), (12 : Nat), (13 : Nat))]) ∈ zG := zG_mem 723 rfl rfl
theorem zw_724 : (Jvm.Cond.methodLink "ShipLanternsLaw" (19 : Nat) ({ cls := "ShipLanterns", name := "toggle", desc := "(I)I" } : Jvm.MethodName)) ∈ zG := zG_mem 724 rfl rfl
theorem zw_725 : (Jvm.Cond.instanceMethod ({ cls := "ShipLanterns", name := "toggle", desc := "(I)I" } : Jvm.MethodName)) ∈ zG := zG_mem 725 rfl rfl
theorem zw_726 : (Jvm.Cond.selects "ShipLanterns" ({ cls := "ShipLanterns", name := "toggle", desc := "(I)I" } : Jvm.MethodName) ({ cls := "ShipLanterns", name := "toggle", desc := "(I)I" } : Jvm.MethodName)) ∈ zG := zG_mem 726 rfl rfl
theorem zw_727 : (Jvm.Cond.code ({ cls := "ShipLanterns", name := "toggle", desc := "(I)I" } : Jvm.MethodName) prog_1_method_3_code (2 : Nat) (Option.some Jvm.ClassFile.FieldType.int)) ∈ zG := zG_mem 727 rfl rfl
theorem zw_728 : (Jvm.Cond.methodLink "ShipLanterns" (99 : Nat) ({ cls := "ShipLanterns", name := "isFedBox", desc := "(I)Z" } : Jvm.MethodName)) ∈ zG := zG_mem 728 rfl rfl
theorem zw_730 : (Jvm.Cond.instanceMethod ({ cls := "ShipLanterns", name := "isFedBox", desc := "(I)Z" } : Jvm.MethodName)) ∈ zG := zG_mem 730 rfl rfl
theorem zw_731 : (Jvm.Cond.code ({ cls := "ShipLanterns", name := "isFedBox", desc := "(I)Z" } : Jvm.MethodName) prog_1_method_30_code (2 : Nat) (Option.some Jvm.ClassFile.FieldType.boolean)) ∈ zG := zG_mem 731 rfl rfl
theorem zw_733 : (Jvm.Cond.methodLink "ShipLanternsLaw" (108 : Nat) ({ cls := "ShipLanternsLaw", name := "cross", desc := "(LShipLanterns;I[J)I" } : Jvm.MethodName)) ∈ zG := zG_mem 733 rfl rfl
theorem zw_734 : (Jvm.Cond.static ({ cls := "ShipLanternsLaw", name := "cross", desc := "(LShipLanterns;I[J)I" } : Jvm.MethodName)) ∈ zG := zG_mem 734 rfl rfl
theorem zw_735 : (Jvm.Cond.codeWith ({ cls := "ShipLanternsLaw", name := "cross", desc := "(LShipLanterns;I[J)I" } : Jvm.MethodName) method_5_code (4 : Nat) (Option.some Jvm.ClassFile.FieldType.int) [((0 : Nat), (9 : Nat), (12 : Nat), (13 : Nat))]) ∈ zG := zG_mem 735 rfl rfl
theorem zw_736 : (Jvm.Cond.methodLink "ShipLanternsLaw" (23 : Nat) ({ cls := "ShipLanterns", name := "cross", desc := "(I)I" } : Jvm.MethodName)) ∈ zG := zG_mem 736 rfl rfl
theorem zw_737 : (Jvm.Cond.instanceMethod ({ cls := "ShipLanterns", name := "cross", desc := "(I)I" } : Jvm.MethodName)) ∈ zG := zG_mem 737 rfl rfl
theorem zw_738 : (Jvm.Cond.selects "ShipLanterns" ({ cls := "ShipLanterns", name := "cross", desc := "(I)I" } : Jvm.MethodName) ({ cls := "ShipLanterns", name := "cross", desc := "(I)I" } : Jvm.MethodName)) ∈ zG := zG_mem 738 rfl rfl
theorem zw_739 : (Jvm.Cond.code ({ cls := "ShipLanterns", name := "cross", desc := "(I)I" } : Jvm.MethodName) prog_1_method_4_code (2 : Nat) (Option.some Jvm.ClassFile.FieldType.int)) ∈ zG := zG_mem 739 rfl rfl
theorem zw_740 : (Jvm.Cond.methodLink "ShipLanternsLaw" (111 : Nat) ({ cls := "ShipLanternsLaw", name := "replace", desc := "(LShipLanterns;III[J)I" } : Jvm.MethodName)) ∈ zG := zG_mem 740 rfl rfl
theorem zw_741 : (Jvm.Cond.static ({ cls := "ShipLanternsLaw", name := "replace", desc := "(LShipLanterns;III[J)I" } : Jvm.MethodName)) ∈ zG := zG_mem 741 rfl rfl
theorem zw_742 : (Jvm.Cond.codeWith ({ cls := "ShipLanternsLaw", name := "replace", desc := "(LShipLanterns;III[J)I" } : Jvm.MethodName) method_6_code (6 : Nat) (Option.some Jvm.ClassFile.FieldType.int) [((0 : Nat), (12 : Nat), (15 : Nat), (13 : Nat)), ((0 : Nat), (12 : Nat), (19 : Nat), (15 : Nat)), ((0 : Nat), (12 : Nat), (23 : Nat), (17 : Nat))]) ∈ zG := zG_mem 742 rfl rfl
theorem zw_743 : (Jvm.Cond.methodLink "ShipLanternsLaw" (26 : Nat) ({ cls := "ShipLanterns", name := "replace", desc := "(III)I" } : Jvm.MethodName)) ∈ zG := zG_mem 743 rfl rfl
theorem zw_744 : (Jvm.Cond.instanceMethod ({ cls := "ShipLanterns", name := "replace", desc := "(III)I" } : Jvm.MethodName)) ∈ zG := zG_mem 744 rfl rfl
theorem zw_745 : (Jvm.Cond.selects "ShipLanterns" ({ cls := "ShipLanterns", name := "replace", desc := "(III)I" } : Jvm.MethodName) ({ cls := "ShipLanterns", name := "replace", desc := "(III)I" } : Jvm.MethodName)) ∈ zG := zG_mem 745 rfl rfl
theorem zw_746 : (Jvm.Cond.code ({ cls := "ShipLanterns", name := "replace", desc := "(III)I" } : Jvm.MethodName) prog_1_method_5_code (5 : Nat) (Option.some Jvm.ClassFile.FieldType.int)) ∈ zG := zG_mem 746 rfl rfl
theorem zw_747 : (Jvm.Cond.methodLink "ShipLanterns" (118 : Nat) ({ cls := "ShipLanterns", name := "isTerminal", desc := "(I)Z" } : Jvm.MethodName)) ∈ zG := zG_mem 747 rfl rfl
theorem zw_748 : (Jvm.Cond.static ({ cls := "ShipLanterns", name := "isTerminal", desc := "(I)Z" } : Jvm.MethodName)) ∈ zG := zG_mem 748 rfl rfl
theorem zw_749 : (Jvm.Cond.code ({ cls := "ShipLanterns", name := "isTerminal", desc := "(I)Z" } : Jvm.MethodName) prog_1_method_33_code (1 : Nat) (Option.some Jvm.ClassFile.FieldType.boolean)) ∈ zG := zG_mem 749 rfl rfl
theorem zw_752 : (Jvm.Cond.methodLink "ShipLanternsLaw" (115 : Nat) ({ cls := "ShipLanternsLaw", name := "buyFuses", desc := "(LShipLanterns;I[J)I" } : Jvm.MethodName)) ∈ zG := zG_mem 752 rfl rfl
theorem zw_753 : (Jvm.Cond.static ({ cls := "ShipLanternsLaw", name := "buyFuses", desc := "(LShipLanterns;I[J)I" } : Jvm.MethodName)) ∈ zG := zG_mem 753 rfl rfl
theorem zw_754 : (Jvm.Cond.codeWith ({ cls := "ShipLanternsLaw", name := "buyFuses", desc := "(LShipLanterns;I[J)I" } : Jvm.MethodName) method_7_code (4 : Nat) (Option.some Jvm.ClassFile.FieldType.int) [((0 : Nat), (9 : Nat), (12 : Nat), (15 : Nat)), ((0 : Nat), (9 : Nat), (15 : Nat), (17 : Nat))]) ∈ zG := zG_mem 754 rfl rfl
theorem zw_755 : (Jvm.Cond.methodLink "ShipLanternsLaw" (30 : Nat) ({ cls := "ShipLanterns", name := "buyFuses", desc := "(I)I" } : Jvm.MethodName)) ∈ zG := zG_mem 755 rfl rfl
theorem zw_756 : (Jvm.Cond.instanceMethod ({ cls := "ShipLanterns", name := "buyFuses", desc := "(I)I" } : Jvm.MethodName)) ∈ zG := zG_mem 756 rfl rfl
theorem zw_757 : (Jvm.Cond.selects "ShipLanterns" ({ cls := "ShipLanterns", name := "buyFuses", desc := "(I)I" } : Jvm.MethodName) ({ cls := "ShipLanterns", name := "buyFuses", desc := "(I)I" } : Jvm.MethodName)) ∈ zG := zG_mem 757 rfl rfl
theorem zw_758 : (Jvm.Cond.code ({ cls := "ShipLanterns", name := "buyFuses", desc := "(I)I" } : Jvm.MethodName) prog_1_method_6_code (2 : Nat) (Option.some Jvm.ClassFile.FieldType.int)) ∈ zG := zG_mem 758 rfl rfl
theorem zw_761 : (Jvm.Cond.methodLink "ShipLanternsLaw" (118 : Nat) ({ cls := "ShipLanternsLaw", name := "hang", desc := "(LShipLanterns;IIZ[J)I" } : Jvm.MethodName)) ∈ zG := zG_mem 761 rfl rfl
theorem zw_762 : (Jvm.Cond.static ({ cls := "ShipLanternsLaw", name := "hang", desc := "(LShipLanterns;IIZ[J)I" } : Jvm.MethodName)) ∈ zG := zG_mem 762 rfl rfl
theorem zw_763 : (Jvm.Cond.codeWith ({ cls := "ShipLanternsLaw", name := "hang", desc := "(LShipLanterns;IIZ[J)I" } : Jvm.MethodName) method_8_code (6 : Nat) (Option.some Jvm.ClassFile.FieldType.int) [((0 : Nat), (12 : Nat), (15 : Nat), (13 : Nat)), ((0 : Nat), (12 : Nat), (19 : Nat), (15 : Nat)), ((0 : Nat), (12 : Nat), (23 : Nat), (17 : Nat))]) ∈ zG := zG_mem 763 rfl rfl
theorem zw_764 : (Jvm.Cond.methodLink "ShipLanternsLaw" (33 : Nat) ({ cls := "ShipLanterns", name := "hang", desc := "(IIZ)I" } : Jvm.MethodName)) ∈ zG := zG_mem 764 rfl rfl
theorem zw_765 : (Jvm.Cond.instanceMethod ({ cls := "ShipLanterns", name := "hang", desc := "(IIZ)I" } : Jvm.MethodName)) ∈ zG := zG_mem 765 rfl rfl
theorem zw_766 : (Jvm.Cond.selects "ShipLanterns" ({ cls := "ShipLanterns", name := "hang", desc := "(IIZ)I" } : Jvm.MethodName) ({ cls := "ShipLanterns", name := "hang", desc := "(IIZ)I" } : Jvm.MethodName)) ∈ zG := zG_mem 766 rfl rfl
theorem zw_767 : (Jvm.Cond.code ({ cls := "ShipLanterns", name := "hang", desc := "(IIZ)I" } : Jvm.MethodName) prog_1_method_7_code (4 : Nat) (Option.some Jvm.ClassFile.FieldType.int)) ∈ zG := zG_mem 767 rfl rfl
theorem zw_771 : (Jvm.Cond.methodLink "ShipLanterns" (153 : Nat) ({ cls := "ShipLanterns$Lanterns", name := "add", desc := "(IIZ)V" } : Jvm.MethodName)) ∈ zG := zG_mem 771 rfl rfl
theorem zw_772 : (Jvm.Cond.instanceMethod ({ cls := "ShipLanterns$Lanterns", name := "add", desc := "(IIZ)V" } : Jvm.MethodName)) ∈ zG := zG_mem 772 rfl rfl
theorem zw_773 : (Jvm.Cond.selects "ShipLanterns$Lanterns" ({ cls := "ShipLanterns$Lanterns", name := "add", desc := "(IIZ)V" } : Jvm.MethodName) ({ cls := "ShipLanterns$Lanterns", name := "add", desc := "(IIZ)V" } : Jvm.MethodName)) ∈ zG := zG_mem 773 rfl rfl
theorem zw_774 : (Jvm.Cond.code ({ cls := "ShipLanterns$Lanterns", name := "add", desc := "(IIZ)V" } : Jvm.MethodName) prog_5_method_2_code (4 : Nat) (Option.none : Option Jvm.ClassFile.FieldType)) ∈ zG := zG_mem 774 rfl rfl
theorem zw_775 : (Jvm.Cond.methodLink "ShipLanternsLaw" (122 : Nat) ({ cls := "ShipLanternsLaw", name := "takeDown", desc := "(LShipLanterns;I[J)I" } : Jvm.MethodName)) ∈ zG := zG_mem 775 rfl rfl
theorem zw_776 : (Jvm.Cond.static ({ cls := "ShipLanternsLaw", name := "takeDown", desc := "(LShipLanterns;I[J)I" } : Jvm.MethodName)) ∈ zG := zG_mem 776 rfl rfl
theorem zw_777 : (Jvm.Cond.codeWith ({ cls := "ShipLanternsLaw", name := "takeDown", desc := "(LShipLanterns;I[J)I" } : Jvm.MethodName) method_9_code (4 : Nat) (Option.some Jvm.ClassFile.FieldType.int) [((0 : Nat), (9 : Nat), (12 : Nat), (13 : Nat))]) ∈ zG := zG_mem 777 rfl rfl
theorem zw_778 : (Jvm.Cond.methodLink "ShipLanternsLaw" (37 : Nat) ({ cls := "ShipLanterns", name := "takeDown", desc := "(I)I" } : Jvm.MethodName)) ∈ zG := zG_mem 778 rfl rfl
theorem zw_779 : (Jvm.Cond.instanceMethod ({ cls := "ShipLanterns", name := "takeDown", desc := "(I)I" } : Jvm.MethodName)) ∈ zG := zG_mem 779 rfl rfl
theorem zw_780 : (Jvm.Cond.selects "ShipLanterns" ({ cls := "ShipLanterns", name := "takeDown", desc := "(I)I" } : Jvm.MethodName) ({ cls := "ShipLanterns", name := "takeDown", desc := "(I)I" } : Jvm.MethodName)) ∈ zG := zG_mem 780 rfl rfl
theorem zw_781 : (Jvm.Cond.code ({ cls := "ShipLanterns", name := "takeDown", desc := "(I)I" } : Jvm.MethodName) prog_1_method_8_code (3 : Nat) (Option.some Jvm.ClassFile.FieldType.int)) ∈ zG := zG_mem 781 rfl rfl
theorem zw_782 : (Jvm.Cond.methodLink "ShipLanterns" (156 : Nat) ({ cls := "ShipLanterns", name := "isLantern", desc := "(I)Z" } : Jvm.MethodName)) ∈ zG := zG_mem 782 rfl rfl
theorem zw_784 : (Jvm.Cond.instanceMethod ({ cls := "ShipLanterns", name := "isLantern", desc := "(I)Z" } : Jvm.MethodName)) ∈ zG := zG_mem 784 rfl rfl
theorem zw_785 : (Jvm.Cond.code ({ cls := "ShipLanterns", name := "isLantern", desc := "(I)Z" } : Jvm.MethodName) prog_1_method_31_code (2 : Nat) (Option.some Jvm.ClassFile.FieldType.boolean)) ∈ zG := zG_mem 785 rfl rfl
theorem zw_787 : (Jvm.Cond.methodLink "ShipLanterns" (164 : Nat) ({ cls := "ShipLanterns$Lanterns", name := "remove", desc := "(I)V" } : Jvm.MethodName)) ∈ zG := zG_mem 787 rfl rfl
theorem zw_788 : (Jvm.Cond.instanceMethod ({ cls := "ShipLanterns$Lanterns", name := "remove", desc := "(I)V" } : Jvm.MethodName)) ∈ zG := zG_mem 788 rfl rfl
theorem zw_789 : (Jvm.Cond.selects "ShipLanterns$Lanterns" ({ cls := "ShipLanterns$Lanterns", name := "remove", desc := "(I)V" } : Jvm.MethodName) ({ cls := "ShipLanterns$Lanterns", name := "remove", desc := "(I)V" } : Jvm.MethodName)) ∈ zG := zG_mem 789 rfl rfl
theorem zw_790 : (Jvm.Cond.code ({ cls := "ShipLanterns$Lanterns", name := "remove", desc := "(I)V" } : Jvm.MethodName) prog_5_method_3_code (3 : Nat) (Option.none : Option Jvm.ClassFile.FieldType)) ∈ zG := zG_mem 790 rfl rfl
theorem zw_791 : (Jvm.Cond.methodLink "ShipLanternsLaw" (125 : Nat) ({ cls := "ShipLanternsLaw", name := "fault", desc := "(LShipLanterns;III[J)I" } : Jvm.MethodName)) ∈ zG := zG_mem 791 rfl rfl
theorem zw_792 : (Jvm.Cond.static ({ cls := "ShipLanternsLaw", name := "fault", desc := "(LShipLanterns;III[J)I" } : Jvm.MethodName)) ∈ zG := zG_mem 792 rfl rfl
theorem zw_793 : (Jvm.Cond.codeWith ({ cls := "ShipLanternsLaw", name := "fault", desc := "(LShipLanterns;III[J)I" } : Jvm.MethodName) method_10_code (6 : Nat) (Option.some Jvm.ClassFile.FieldType.int) [((0 : Nat), (12 : Nat), (15 : Nat), (13 : Nat)), ((0 : Nat), (12 : Nat), (19 : Nat), (15 : Nat)), ((0 : Nat), (12 : Nat), (23 : Nat), (17 : Nat))]) ∈ zG := zG_mem 793 rfl rfl
theorem zw_794 : (Jvm.Cond.methodLink "ShipLanternsLaw" (40 : Nat) ({ cls := "ShipLanterns", name := "fault", desc := "(III)I" } : Jvm.MethodName)) ∈ zG := zG_mem 794 rfl rfl
theorem zw_795 : (Jvm.Cond.instanceMethod ({ cls := "ShipLanterns", name := "fault", desc := "(III)I" } : Jvm.MethodName)) ∈ zG := zG_mem 795 rfl rfl
theorem zw_796 : (Jvm.Cond.selects "ShipLanterns" ({ cls := "ShipLanterns", name := "fault", desc := "(III)I" } : Jvm.MethodName) ({ cls := "ShipLanterns", name := "fault", desc := "(III)I" } : Jvm.MethodName)) ∈ zG := zG_mem 796 rfl rfl
theorem zw_797 : (Jvm.Cond.code ({ cls := "ShipLanterns", name := "fault", desc := "(III)I" } : Jvm.MethodName) prog_1_method_9_code (4 : Nat) (Option.some Jvm.ClassFile.FieldType.int)) ∈ zG := zG_mem 797 rfl rfl
theorem zw_799 : (Jvm.Cond.methodLink "ShipLanterns" (170 : Nat) ({ cls := "ShipLanterns", name := "isStrength", desc := "(I)Z" } : Jvm.MethodName)) ∈ zG := zG_mem 799 rfl rfl
theorem zw_800 : (Jvm.Cond.static ({ cls := "ShipLanterns", name := "isStrength", desc := "(I)Z" } : Jvm.MethodName)) ∈ zG := zG_mem 800 rfl rfl
theorem zw_801 : (Jvm.Cond.code ({ cls := "ShipLanterns", name := "isStrength", desc := "(I)Z" } : Jvm.MethodName) prog_1_method_36_code (1 : Nat) (Option.some Jvm.ClassFile.FieldType.boolean)) ∈ zG := zG_mem 801 rfl rfl
theorem zw_804 : (Jvm.Cond.methodLink "ShipLanterns" (184 : Nat) ({ cls := "ShipLanterns$Faults", name := "add", desc := "(III)V" } : Jvm.MethodName)) ∈ zG := zG_mem 804 rfl rfl
theorem zw_805 : (Jvm.Cond.instanceMethod ({ cls := "ShipLanterns$Faults", name := "add", desc := "(III)V" } : Jvm.MethodName)) ∈ zG := zG_mem 805 rfl rfl
theorem zw_806 : (Jvm.Cond.selects "ShipLanterns$Faults" ({ cls := "ShipLanterns$Faults", name := "add", desc := "(III)V" } : Jvm.MethodName) ({ cls := "ShipLanterns$Faults", name := "add", desc := "(III)V" } : Jvm.MethodName)) ∈ zG := zG_mem 806 rfl rfl
theorem zw_807 : (Jvm.Cond.code ({ cls := "ShipLanterns$Faults", name := "add", desc := "(III)V" } : Jvm.MethodName) prog_3_method_2_code (4 : Nat) (Option.none : Option Jvm.ClassFile.FieldType)) ∈ zG := zG_mem 807 rfl rfl
theorem zw_808 : (Jvm.Cond.methodLink "ShipLanternsLaw" (128 : Nat) ({ cls := "ShipLanternsLaw", name := "mend", desc := "(LShipLanterns;I[J)I" } : Jvm.MethodName)) ∈ zG := zG_mem 808 rfl rfl
theorem zw_809 : (Jvm.Cond.static ({ cls := "ShipLanternsLaw", name := "mend", desc := "(LShipLanterns;I[J)I" } : Jvm.MethodName)) ∈ zG := zG_mem 809 rfl rfl
theorem zw_810 : (Jvm.Cond.codeWith ({ cls := "ShipLanternsLaw", name := "mend", desc := "(LShipLanterns;I[J)I" } : Jvm.MethodName) method_11_code (4 : Nat) (Option.some Jvm.ClassFile.FieldType.int) [((0 : Nat), (9 : Nat), (12 : Nat), (13 : Nat))]) ∈ zG := zG_mem 810 rfl rfl
theorem zw_811 : (Jvm.Cond.methodLink "ShipLanternsLaw" (43 : Nat) ({ cls := "ShipLanterns", name := "mend", desc := "(I)I" } : Jvm.MethodName)) ∈ zG := zG_mem 811 rfl rfl
theorem zw_812 : (Jvm.Cond.instanceMethod ({ cls := "ShipLanterns", name := "mend", desc := "(I)I" } : Jvm.MethodName)) ∈ zG := zG_mem 812 rfl rfl
theorem zw_813 : (Jvm.Cond.selects "ShipLanterns" ({ cls := "ShipLanterns", name := "mend", desc := "(I)I" } : Jvm.MethodName) ({ cls := "ShipLanterns", name := "mend", desc := "(I)I" } : Jvm.MethodName)) ∈ zG := zG_mem 813 rfl rfl
theorem zw_814 : (Jvm.Cond.code ({ cls := "ShipLanterns", name := "mend", desc := "(I)I" } : Jvm.MethodName) prog_1_method_10_code (3 : Nat) (Option.some Jvm.ClassFile.FieldType.int)) ∈ zG := zG_mem 814 rfl rfl
theorem zw_815 : (Jvm.Cond.methodLink "ShipLanterns" (187 : Nat) ({ cls := "ShipLanterns", name := "isFault", desc := "(I)Z" } : Jvm.MethodName)) ∈ zG := zG_mem 815 rfl rfl
theorem zw_817 : (Jvm.Cond.instanceMethod ({ cls := "ShipLanterns", name := "isFault", desc := "(I)Z" } : Jvm.MethodName)) ∈ zG := zG_mem 817 rfl rfl
theorem zw_818 : (Jvm.Cond.code ({ cls := "ShipLanterns", name := "isFault", desc := "(I)Z" } : Jvm.MethodName) prog_1_method_32_code (2 : Nat) (Option.some Jvm.ClassFile.FieldType.boolean)) ∈ zG := zG_mem 818 rfl rfl
theorem zw_820 : (Jvm.Cond.methodLink "ShipLanterns" (195 : Nat) ({ cls := "ShipLanterns$Faults", name := "remove", desc := "(I)V" } : Jvm.MethodName)) ∈ zG := zG_mem 820 rfl rfl
theorem zw_821 : (Jvm.Cond.instanceMethod ({ cls := "ShipLanterns$Faults", name := "remove", desc := "(I)V" } : Jvm.MethodName)) ∈ zG := zG_mem 821 rfl rfl
theorem zw_822 : (Jvm.Cond.selects "ShipLanterns$Faults" ({ cls := "ShipLanterns$Faults", name := "remove", desc := "(I)V" } : Jvm.MethodName) ({ cls := "ShipLanterns$Faults", name := "remove", desc := "(I)V" } : Jvm.MethodName)) ∈ zG := zG_mem 822 rfl rfl
theorem zw_823 : (Jvm.Cond.code ({ cls := "ShipLanterns$Faults", name := "remove", desc := "(I)V" } : Jvm.MethodName) prog_3_method_3_code (3 : Nat) (Option.none : Option Jvm.ClassFile.FieldType)) ∈ zG := zG_mem 823 rfl rfl
theorem zw_824 : (Jvm.Cond.methodLink "ShipLanternsLaw" (131 : Nat) ({ cls := "ShipLanternsLaw", name := "burn", desc := "(LShipLanterns;I[J)I" } : Jvm.MethodName)) ∈ zG := zG_mem 824 rfl rfl
theorem zw_825 : (Jvm.Cond.static ({ cls := "ShipLanternsLaw", name := "burn", desc := "(LShipLanterns;I[J)I" } : Jvm.MethodName)) ∈ zG := zG_mem 825 rfl rfl
theorem zw_826 : (Jvm.Cond.codeWith ({ cls := "ShipLanternsLaw", name := "burn", desc := "(LShipLanterns;I[J)I" } : Jvm.MethodName) method_12_code (4 : Nat) (Option.some Jvm.ClassFile.FieldType.int) [((0 : Nat), (9 : Nat), (12 : Nat), (15 : Nat)), ((0 : Nat), (9 : Nat), (15 : Nat), (17 : Nat))]) ∈ zG := zG_mem 826 rfl rfl
theorem zw_827 : (Jvm.Cond.methodLink "ShipLanternsLaw" (46 : Nat) ({ cls := "ShipLanterns", name := "burn", desc := "(I)I" } : Jvm.MethodName)) ∈ zG := zG_mem 827 rfl rfl
theorem zw_828 : (Jvm.Cond.instanceMethod ({ cls := "ShipLanterns", name := "burn", desc := "(I)I" } : Jvm.MethodName)) ∈ zG := zG_mem 828 rfl rfl
theorem zw_829 : (Jvm.Cond.selects "ShipLanterns" ({ cls := "ShipLanterns", name := "burn", desc := "(I)I" } : Jvm.MethodName) ({ cls := "ShipLanterns", name := "burn", desc := "(I)I" } : Jvm.MethodName)) ∈ zG := zG_mem 829 rfl rfl
theorem zw_830 : (Jvm.Cond.code ({ cls := "ShipLanterns", name := "burn", desc := "(I)I" } : Jvm.MethodName) prog_1_method_11_code (3 : Nat) (Option.some Jvm.ClassFile.FieldType.int)) ∈ zG := zG_mem 830 rfl rfl
theorem zw_832 : (Jvm.Cond.constant "ShipLanterns" (201 : Nat) (100000 : Int32)) ∈ zG := zG_mem 832 rfl rfl
theorem zw_834 : (Jvm.Cond.methodLink "ShipLanternsLaw" (134 : Nat) ({ cls := "ShipLanternsLaw", name := "append", desc := "(LShipLanterns;I[J)I" } : Jvm.MethodName)) ∈ zG := zG_mem 834 rfl rfl
theorem zw_835 : (Jvm.Cond.static ({ cls := "ShipLanternsLaw", name := "append", desc := "(LShipLanterns;I[J)I" } : Jvm.MethodName)) ∈ zG := zG_mem 835 rfl rfl
theorem zw_836 : (Jvm.Cond.codeWith ({ cls := "ShipLanternsLaw", name := "append", desc := "(LShipLanterns;I[J)I" } : Jvm.MethodName) method_13_code (4 : Nat) (Option.some Jvm.ClassFile.FieldType.int) [((0 : Nat), (9 : Nat), (12 : Nat), (15 : Nat)), ((0 : Nat), (9 : Nat), (15 : Nat), (17 : Nat))]) ∈ zG := zG_mem 836 rfl rfl
theorem zw_837 : (Jvm.Cond.methodLink "ShipLanternsLaw" (49 : Nat) ({ cls := "ShipLanterns", name := "append", desc := "(I)I" } : Jvm.MethodName)) ∈ zG := zG_mem 837 rfl rfl
theorem zw_838 : (Jvm.Cond.instanceMethod ({ cls := "ShipLanterns", name := "append", desc := "(I)I" } : Jvm.MethodName)) ∈ zG := zG_mem 838 rfl rfl
theorem zw_839 : (Jvm.Cond.selects "ShipLanterns" ({ cls := "ShipLanterns", name := "append", desc := "(I)I" } : Jvm.MethodName) ({ cls := "ShipLanterns", name := "append", desc := "(I)I" } : Jvm.MethodName)) ∈ zG := zG_mem 839 rfl rfl
theorem zw_840 : (Jvm.Cond.code ({ cls := "ShipLanterns", name := "append", desc := "(I)I" } : Jvm.MethodName) prog_1_method_12_code (2 : Nat) (Option.some Jvm.ClassFile.FieldType.int)) ∈ zG := zG_mem 840 rfl rfl
theorem zw_843 : (Jvm.Cond.methodLink "ShipLanternsLaw" (145 : Nat) ({ cls := "ShipLanternsLaw", name := "load", desc := "(LShipLanterns;[J)I" } : Jvm.MethodName)) ∈ zG := zG_mem 843 rfl rfl
theorem zw_844 : (Jvm.Cond.static ({ cls := "ShipLanternsLaw", name := "load", desc := "(LShipLanterns;[J)I" } : Jvm.MethodName)) ∈ zG := zG_mem 844 rfl rfl
theorem zw_845 : (Jvm.Cond.codeWith ({ cls := "ShipLanternsLaw", name := "load", desc := "(LShipLanterns;[J)I" } : Jvm.MethodName) method_14_code (3 : Nat) (Option.some Jvm.ClassFile.FieldType.int) [((0 : Nat), (8 : Nat), (11 : Nat), (15 : Nat))]) ∈ zG := zG_mem 845 rfl rfl
theorem zw_846 : (Jvm.Cond.methodLink "ShipLanternsLaw" (52 : Nat) ({ cls := "ShipLanterns", name := "load", desc := "()I" } : Jvm.MethodName)) ∈ zG := zG_mem 846 rfl rfl
theorem zw_847 : (Jvm.Cond.instanceMethod ({ cls := "ShipLanterns", name := "load", desc := "()I" } : Jvm.MethodName)) ∈ zG := zG_mem 847 rfl rfl
theorem zw_848 : (Jvm.Cond.selects "ShipLanterns" ({ cls := "ShipLanterns", name := "load", desc := "()I" } : Jvm.MethodName) ({ cls := "ShipLanterns", name := "load", desc := "()I" } : Jvm.MethodName)) ∈ zG := zG_mem 848 rfl rfl
theorem zw_849 : (Jvm.Cond.code ({ cls := "ShipLanterns", name := "load", desc := "()I" } : Jvm.MethodName) prog_1_method_15_code (2 : Nat) (Option.some Jvm.ClassFile.FieldType.int)) ∈ zG := zG_mem 849 rfl rfl
theorem zw_850 : (Jvm.Cond.methodLink "ShipLanterns" (224 : Nat) ({ cls := "ShipLanterns$PartReader", name := "isComplete", desc := "()Z" } : Jvm.MethodName)) ∈ zG := zG_mem 850 rfl rfl
theorem zw_851 : (Jvm.Cond.instanceMethod ({ cls := "ShipLanterns$PartReader", name := "isComplete", desc := "()Z" } : Jvm.MethodName)) ∈ zG := zG_mem 851 rfl rfl
theorem zw_852 : (Jvm.Cond.selects "ShipLanterns$PartReader" ({ cls := "ShipLanterns$PartReader", name := "isComplete", desc := "()Z" } : Jvm.MethodName) ({ cls := "ShipLanterns$PartReader", name := "isComplete", desc := "()Z" } : Jvm.MethodName)) ∈ zG := zG_mem 852 rfl rfl
theorem zw_853 : (Jvm.Cond.code ({ cls := "ShipLanterns$PartReader", name := "isComplete", desc := "()Z" } : Jvm.MethodName) prog_6_method_5_code (1 : Nat) (Option.some Jvm.ClassFile.FieldType.boolean)) ∈ zG := zG_mem 853 rfl rfl
theorem zw_855 : (Jvm.Cond.methodLink "ShipLanterns" (230 : Nat) ({ cls := "ShipLanterns", name := "addParts", desc := "()I" } : Jvm.MethodName)) ∈ zG := zG_mem 855 rfl rfl
theorem zw_857 : (Jvm.Cond.instanceMethod ({ cls := "ShipLanterns", name := "addParts", desc := "()I" } : Jvm.MethodName)) ∈ zG := zG_mem 857 rfl rfl
theorem zw_858 : (Jvm.Cond.code ({ cls := "ShipLanterns", name := "addParts", desc := "()I" } : Jvm.MethodName) prog_1_method_43_code (3 : Nat) (Option.some Jvm.ClassFile.FieldType.int)) ∈ zG := zG_mem 858 rfl rfl
theorem zw_859 : (Jvm.Cond.methodLink "ShipLanterns" (336 : Nat) ({ cls := "ShipLanterns", name := "addPart", desc := "()Z" } : Jvm.MethodName)) ∈ zG := zG_mem 859 rfl rfl
theorem zw_861 : (Jvm.Cond.instanceMethod ({ cls := "ShipLanterns", name := "addPart", desc := "()Z" } : Jvm.MethodName)) ∈ zG := zG_mem 861 rfl rfl
theorem zw_862 : (Jvm.Cond.code ({ cls := "ShipLanterns", name := "addPart", desc := "()Z" } : Jvm.MethodName) prog_1_method_44_code (2 : Nat) (Option.some Jvm.ClassFile.FieldType.boolean)) ∈ zG := zG_mem 862 rfl rfl
theorem zw_863 : (Jvm.Cond.methodLink "ShipLanterns" (342 : Nat) ({ cls := "ShipLanterns$PartReader", name := "holdsBox", desc := "()Z" } : Jvm.MethodName)) ∈ zG := zG_mem 863 rfl rfl
theorem zw_864 : (Jvm.Cond.instanceMethod ({ cls := "ShipLanterns$PartReader", name := "holdsBox", desc := "()Z" } : Jvm.MethodName)) ∈ zG := zG_mem 864 rfl rfl
theorem zw_865 : (Jvm.Cond.selects "ShipLanterns$PartReader" ({ cls := "ShipLanterns$PartReader", name := "holdsBox", desc := "()Z" } : Jvm.MethodName) ({ cls := "ShipLanterns$PartReader", name := "holdsBox", desc := "()Z" } : Jvm.MethodName)) ∈ zG := zG_mem 865 rfl rfl
theorem zw_866 : (Jvm.Cond.code ({ cls := "ShipLanterns$PartReader", name := "holdsBox", desc := "()Z" } : Jvm.MethodName) prog_6_method_3_code (1 : Nat) (Option.some Jvm.ClassFile.FieldType.boolean)) ∈ zG := zG_mem 866 rfl rfl
theorem zw_867 : (Jvm.Cond.methodLink "ShipLanterns" (348 : Nat) ({ cls := "ShipLanterns$PartReader", name := "holdsLantern", desc := "()Z" } : Jvm.MethodName)) ∈ zG := zG_mem 867 rfl rfl
theorem zw_868 : (Jvm.Cond.methodLink "ShipLanternsLaw" (149 : Nat) ({ cls := "ShipLanternsLaw", name := "undo", desc := "(LShipLanterns;[J)I" } : Jvm.MethodName)) ∈ zG := zG_mem 868 rfl rfl
theorem zw_869 : (Jvm.Cond.static ({ cls := "ShipLanternsLaw", name := "undo", desc := "(LShipLanterns;[J)I" } : Jvm.MethodName)) ∈ zG := zG_mem 869 rfl rfl
theorem zw_870 : (Jvm.Cond.codeWith ({ cls := "ShipLanternsLaw", name := "undo", desc := "(LShipLanterns;[J)I" } : Jvm.MethodName) method_15_code (3 : Nat) (Option.some Jvm.ClassFile.FieldType.int) [((0 : Nat), (8 : Nat), (11 : Nat), (17 : Nat))]) ∈ zG := zG_mem 870 rfl rfl
theorem zw_871 : (Jvm.Cond.methodLink "ShipLanternsLaw" (56 : Nat) ({ cls := "ShipLanterns", name := "undo", desc := "()I" } : Jvm.MethodName)) ∈ zG := zG_mem 871 rfl rfl
theorem zw_872 : (Jvm.Cond.instanceMethod ({ cls := "ShipLanterns", name := "undo", desc := "()I" } : Jvm.MethodName)) ∈ zG := zG_mem 872 rfl rfl
theorem zw_873 : (Jvm.Cond.selects "ShipLanterns" ({ cls := "ShipLanterns", name := "undo", desc := "()I" } : Jvm.MethodName) ({ cls := "ShipLanterns", name := "undo", desc := "()I" } : Jvm.MethodName)) ∈ zG := zG_mem 873 rfl rfl
theorem zw_874 : (Jvm.Cond.code ({ cls := "ShipLanterns", name := "undo", desc := "()I" } : Jvm.MethodName) prog_1_method_16_code (1 : Nat) (Option.some Jvm.ClassFile.FieldType.int)) ∈ zG := zG_mem 874 rfl rfl
theorem zw_876 : (Jvm.Cond.methodLink "ShipLanterns" (236 : Nat) ({ cls := "ShipLanterns$History", name := "restore", desc := "(LShipLanterns$Ship;)V" } : Jvm.MethodName)) ∈ zG := zG_mem 876 rfl rfl
theorem zw_877 : (Jvm.Cond.instanceMethod ({ cls := "ShipLanterns$History", name := "restore", desc := "(LShipLanterns$Ship;)V" } : Jvm.MethodName)) ∈ zG := zG_mem 877 rfl rfl
theorem zw_878 : (Jvm.Cond.selects "ShipLanterns$History" ({ cls := "ShipLanterns$History", name := "restore", desc := "(LShipLanterns$Ship;)V" } : Jvm.MethodName) ({ cls := "ShipLanterns$History", name := "restore", desc := "(LShipLanterns$Ship;)V" } : Jvm.MethodName)) ∈ zG := zG_mem 878 rfl rfl
theorem zw_879 : (Jvm.Cond.code ({ cls := "ShipLanterns$History", name := "restore", desc := "(LShipLanterns$Ship;)V" } : Jvm.MethodName) prog_4_method_3_code (2 : Nat) (Option.none : Option Jvm.ClassFile.FieldType)) ∈ zG := zG_mem 879 rfl rfl
theorem zw_880 : (Jvm.Cond.methodLink "ShipLanternsLaw" (152 : Nat) ({ cls := "ShipLanternsLaw", name := "box", desc := "(LShipLanterns;II[J)I" } : Jvm.MethodName)) ∈ zG := zG_mem 880 rfl rfl
theorem zw_881 : (Jvm.Cond.static ({ cls := "ShipLanternsLaw", name := "box", desc := "(LShipLanterns;II[J)I" } : Jvm.MethodName)) ∈ zG := zG_mem 881 rfl rfl
theorem zw_882 : (Jvm.Cond.codeWith ({ cls := "ShipLanternsLaw", name := "box", desc := "(LShipLanterns;II[J)I" } : Jvm.MethodName) method_16_code (5 : Nat) (Option.some Jvm.ClassFile.FieldType.int) [((0 : Nat), (10 : Nat), (13 : Nat), (13 : Nat)), ((0 : Nat), (10 : Nat), (17 : Nat), (15 : Nat))]) ∈ zG := zG_mem 882 rfl rfl
theorem zw_883 : (Jvm.Cond.methodLink "ShipLanternsLaw" (59 : Nat) ({ cls := "ShipLanterns", name := "box", desc := "(II)I" } : Jvm.MethodName)) ∈ zG := zG_mem 883 rfl rfl
theorem zw_884 : (Jvm.Cond.instanceMethod ({ cls := "ShipLanterns", name := "box", desc := "(II)I" } : Jvm.MethodName)) ∈ zG := zG_mem 884 rfl rfl
theorem zw_885 : (Jvm.Cond.selects "ShipLanterns" ({ cls := "ShipLanterns", name := "box", desc := "(II)I" } : Jvm.MethodName) ({ cls := "ShipLanterns", name := "box", desc := "(II)I" } : Jvm.MethodName)) ∈ zG := zG_mem 885 rfl rfl
theorem zw_886 : (Jvm.Cond.code ({ cls := "ShipLanterns", name := "box", desc := "(II)I" } : Jvm.MethodName) prog_1_method_17_code (3 : Nat) (Option.some Jvm.ClassFile.FieldType.int)) ∈ zG := zG_mem 886 rfl rfl
theorem zw_888 : (Jvm.Cond.methodLink "ShipLanternsLaw" (156 : Nat) ({ cls := "ShipLanternsLaw", name := "terminal", desc := "(LShipLanterns;III[J)I" } : Jvm.MethodName)) ∈ zG := zG_mem 888 rfl rfl
theorem zw_889 : (Jvm.Cond.static ({ cls := "ShipLanternsLaw", name := "terminal", desc := "(LShipLanterns;III[J)I" } : Jvm.MethodName)) ∈ zG := zG_mem 889 rfl rfl
theorem zw_890 : (Jvm.Cond.codeWith ({ cls := "ShipLanternsLaw", name := "terminal", desc := "(LShipLanterns;III[J)I" } : Jvm.MethodName) method_17_code (6 : Nat) (Option.some Jvm.ClassFile.FieldType.int) [((0 : Nat), (12 : Nat), (15 : Nat), (13 : Nat)), ((0 : Nat), (12 : Nat), (19 : Nat), (15 : Nat))]) ∈ zG := zG_mem 890 rfl rfl
theorem zw_891 : (Jvm.Cond.methodLink "ShipLanternsLaw" (63 : Nat) ({ cls := "ShipLanterns", name := "terminal", desc := "(III)I" } : Jvm.MethodName)) ∈ zG := zG_mem 891 rfl rfl
theorem zw_892 : (Jvm.Cond.instanceMethod ({ cls := "ShipLanterns", name := "terminal", desc := "(III)I" } : Jvm.MethodName)) ∈ zG := zG_mem 892 rfl rfl
theorem zw_893 : (Jvm.Cond.selects "ShipLanterns" ({ cls := "ShipLanterns", name := "terminal", desc := "(III)I" } : Jvm.MethodName) ({ cls := "ShipLanterns", name := "terminal", desc := "(III)I" } : Jvm.MethodName)) ∈ zG := zG_mem 893 rfl rfl
theorem zw_894 : (Jvm.Cond.code ({ cls := "ShipLanterns", name := "terminal", desc := "(III)I" } : Jvm.MethodName) prog_1_method_18_code (4 : Nat) (Option.some Jvm.ClassFile.FieldType.int)) ∈ zG := zG_mem 894 rfl rfl
theorem zw_896 : (Jvm.Cond.methodLink "ShipLanternsLaw" (159 : Nat) ({ cls := "ShipLanternsLaw", name := "lantern", desc := "(LShipLanterns;II[J)I" } : Jvm.MethodName)) ∈ zG := zG_mem 896 rfl rfl
theorem zw_897 : (Jvm.Cond.static ({ cls := "ShipLanternsLaw", name := "lantern", desc := "(LShipLanterns;II[J)I" } : Jvm.MethodName)) ∈ zG := zG_mem 897 rfl rfl
theorem zw_898 : (Jvm.Cond.codeWith ({ cls := "ShipLanternsLaw", name := "lantern", desc := "(LShipLanterns;II[J)I" } : Jvm.MethodName) method_18_code (5 : Nat) (Option.some Jvm.ClassFile.FieldType.int) [((0 : Nat), (10 : Nat), (13 : Nat), (13 : Nat)), ((0 : Nat), (10 : Nat), (17 : Nat), (15 : Nat))]) ∈ zG := zG_mem 898 rfl rfl
theorem zw_899 : (Jvm.Cond.methodLink "ShipLanternsLaw" (66 : Nat) ({ cls := "ShipLanterns", name := "lantern", desc := "(II)I" } : Jvm.MethodName)) ∈ zG := zG_mem 899 rfl rfl
theorem zw_900 : (Jvm.Cond.instanceMethod ({ cls := "ShipLanterns", name := "lantern", desc := "(II)I" } : Jvm.MethodName)) ∈ zG := zG_mem 900 rfl rfl
theorem zw_901 : (Jvm.Cond.selects "ShipLanterns" ({ cls := "ShipLanterns", name := "lantern", desc := "(II)I" } : Jvm.MethodName) ({ cls := "ShipLanterns", name := "lantern", desc := "(II)I" } : Jvm.MethodName)) ∈ zG := zG_mem 901 rfl rfl
theorem zw_902 : (Jvm.Cond.code ({ cls := "ShipLanterns", name := "lantern", desc := "(II)I" } : Jvm.MethodName) prog_1_method_19_code (3 : Nat) (Option.some Jvm.ClassFile.FieldType.int)) ∈ zG := zG_mem 902 rfl rfl
theorem zw_904 : (Jvm.Cond.methodLink "ShipLanternsLaw" (162 : Nat) ({ cls := "ShipLanternsLaw", name := "faultAt", desc := "(LShipLanterns;II[J)I" } : Jvm.MethodName)) ∈ zG := zG_mem 904 rfl rfl
theorem zw_905 : (Jvm.Cond.static ({ cls := "ShipLanternsLaw", name := "faultAt", desc := "(LShipLanterns;II[J)I" } : Jvm.MethodName)) ∈ zG := zG_mem 905 rfl rfl
theorem zw_906 : (Jvm.Cond.codeWith ({ cls := "ShipLanternsLaw", name := "faultAt", desc := "(LShipLanterns;II[J)I" } : Jvm.MethodName) method_19_code (5 : Nat) (Option.some Jvm.ClassFile.FieldType.int) [((0 : Nat), (10 : Nat), (13 : Nat), (13 : Nat)), ((0 : Nat), (10 : Nat), (17 : Nat), (15 : Nat))]) ∈ zG := zG_mem 906 rfl rfl
theorem zw_907 : (Jvm.Cond.methodLink "ShipLanternsLaw" (69 : Nat) ({ cls := "ShipLanterns", name := "faultAt", desc := "(II)I" } : Jvm.MethodName)) ∈ zG := zG_mem 907 rfl rfl
theorem zw_908 : (Jvm.Cond.instanceMethod ({ cls := "ShipLanterns", name := "faultAt", desc := "(II)I" } : Jvm.MethodName)) ∈ zG := zG_mem 908 rfl rfl
theorem zw_909 : (Jvm.Cond.selects "ShipLanterns" ({ cls := "ShipLanterns", name := "faultAt", desc := "(II)I" } : Jvm.MethodName) ({ cls := "ShipLanterns", name := "faultAt", desc := "(II)I" } : Jvm.MethodName)) ∈ zG := zG_mem 909 rfl rfl
theorem zw_910 : (Jvm.Cond.code ({ cls := "ShipLanterns", name := "faultAt", desc := "(II)I" } : Jvm.MethodName) prog_1_method_20_code (3 : Nat) (Option.some Jvm.ClassFile.FieldType.int)) ∈ zG := zG_mem 910 rfl rfl
theorem zw_912 : (Jvm.Cond.methodLink "ShipLanternsLaw" (165 : Nat) ({ cls := "ShipLanternsLaw", name := "count", desc := "(LShipLanterns;I[J)I" } : Jvm.MethodName)) ∈ zG := zG_mem 912 rfl rfl
theorem zw_913 : (Jvm.Cond.static ({ cls := "ShipLanternsLaw", name := "count", desc := "(LShipLanterns;I[J)I" } : Jvm.MethodName)) ∈ zG := zG_mem 913 rfl rfl
theorem zw_914 : (Jvm.Cond.codeWith ({ cls := "ShipLanternsLaw", name := "count", desc := "(LShipLanterns;I[J)I" } : Jvm.MethodName) method_20_code (4 : Nat) (Option.some Jvm.ClassFile.FieldType.int) [((0 : Nat), (9 : Nat), (12 : Nat), (15 : Nat))]) ∈ zG := zG_mem 914 rfl rfl
theorem zw_915 : (Jvm.Cond.methodLink "ShipLanternsLaw" (72 : Nat) ({ cls := "ShipLanterns", name := "count", desc := "(I)I" } : Jvm.MethodName)) ∈ zG := zG_mem 915 rfl rfl
theorem zw_916 : (Jvm.Cond.instanceMethod ({ cls := "ShipLanterns", name := "count", desc := "(I)I" } : Jvm.MethodName)) ∈ zG := zG_mem 916 rfl rfl
theorem zw_917 : (Jvm.Cond.selects "ShipLanterns" ({ cls := "ShipLanterns", name := "count", desc := "(I)I" } : Jvm.MethodName) ({ cls := "ShipLanterns", name := "count", desc := "(I)I" } : Jvm.MethodName)) ∈ zG := zG_mem 917 rfl rfl
theorem zw_918 : (Jvm.Cond.code ({ cls := "ShipLanterns", name := "count", desc := "(I)I" } : Jvm.MethodName) prog_1_method_21_code (2 : Nat) (Option.some Jvm.ClassFile.FieldType.int)) ∈ zG := zG_mem 918 rfl rfl
theorem zw_920 : (Jvm.Cond.methodLink "ShipLanternsLaw" (168 : Nat) ({ cls := "ShipLanternsLaw", name := "lamp", desc := "(LShipLanterns;I[J)I" } : Jvm.MethodName)) ∈ zG := zG_mem 920 rfl rfl
theorem zw_921 : (Jvm.Cond.static ({ cls := "ShipLanternsLaw", name := "lamp", desc := "(LShipLanterns;I[J)I" } : Jvm.MethodName)) ∈ zG := zG_mem 921 rfl rfl
theorem zw_922 : (Jvm.Cond.codeWith ({ cls := "ShipLanternsLaw", name := "lamp", desc := "(LShipLanterns;I[J)I" } : Jvm.MethodName) method_21_code (4 : Nat) (Option.some Jvm.ClassFile.FieldType.int) [((0 : Nat), (9 : Nat), (12 : Nat), (13 : Nat))]) ∈ zG := zG_mem 922 rfl rfl
theorem zw_923 : (Jvm.Cond.methodLink "ShipLanternsLaw" (75 : Nat) ({ cls := "ShipLanterns", name := "lamp", desc := "(I)I" } : Jvm.MethodName)) ∈ zG := zG_mem 923 rfl rfl
theorem zw_924 : (Jvm.Cond.instanceMethod ({ cls := "ShipLanterns", name := "lamp", desc := "(I)I" } : Jvm.MethodName)) ∈ zG := zG_mem 924 rfl rfl
theorem zw_925 : (Jvm.Cond.selects "ShipLanterns" ({ cls := "ShipLanterns", name := "lamp", desc := "(I)I" } : Jvm.MethodName) ({ cls := "ShipLanterns", name := "lamp", desc := "(I)I" } : Jvm.MethodName)) ∈ zG := zG_mem 925 rfl rfl
theorem zw_926 : (Jvm.Cond.code ({ cls := "ShipLanterns", name := "lamp", desc := "(I)I" } : Jvm.MethodName) prog_1_method_22_code (2 : Nat) (Option.some Jvm.ClassFile.FieldType.int)) ∈ zG := zG_mem 926 rfl rfl
theorem zw_927 : (Jvm.Cond.methodLink "ShipLanterns" (270 : Nat) ({ cls := "ShipLanterns", name := "isPole", desc := "(I)Z" } : Jvm.MethodName)) ∈ zG := zG_mem 927 rfl rfl
theorem zw_928 : (Jvm.Cond.static ({ cls := "ShipLanterns", name := "isPole", desc := "(I)Z" } : Jvm.MethodName)) ∈ zG := zG_mem 928 rfl rfl
theorem zw_929 : (Jvm.Cond.code ({ cls := "ShipLanterns", name := "isPole", desc := "(I)Z" } : Jvm.MethodName) prog_1_method_34_code (1 : Nat) (Option.some Jvm.ClassFile.FieldType.boolean)) ∈ zG := zG_mem 929 rfl rfl
theorem zw_931 : (Jvm.Cond.methodLink "ShipLanternsLaw" (171 : Nat) ({ cls := "ShipLanternsLaw", name := "locate", desc := "(LShipLanterns;I[J)I" } : Jvm.MethodName)) ∈ zG := zG_mem 931 rfl rfl
theorem zw_932 : (Jvm.Cond.static ({ cls := "ShipLanternsLaw", name := "locate", desc := "(LShipLanterns;I[J)I" } : Jvm.MethodName)) ∈ zG := zG_mem 932 rfl rfl
theorem zw_933 : (Jvm.Cond.codeWith ({ cls := "ShipLanternsLaw", name := "locate", desc := "(LShipLanterns;I[J)I" } : Jvm.MethodName) method_22_code (4 : Nat) (Option.some Jvm.ClassFile.FieldType.int) [((0 : Nat), (9 : Nat), (12 : Nat), (13 : Nat))]) ∈ zG := zG_mem 933 rfl rfl
theorem zw_934 : (Jvm.Cond.methodLink "ShipLanternsLaw" (78 : Nat) ({ cls := "ShipLanterns", name := "locate", desc := "(I)I" } : Jvm.MethodName)) ∈ zG := zG_mem 934 rfl rfl
theorem zw_935 : (Jvm.Cond.instanceMethod ({ cls := "ShipLanterns", name := "locate", desc := "(I)I" } : Jvm.MethodName)) ∈ zG := zG_mem 935 rfl rfl
theorem zw_936 : (Jvm.Cond.selects "ShipLanterns" ({ cls := "ShipLanterns", name := "locate", desc := "(I)I" } : Jvm.MethodName) ({ cls := "ShipLanterns", name := "locate", desc := "(I)I" } : Jvm.MethodName)) ∈ zG := zG_mem 936 rfl rfl
theorem zw_937 : (Jvm.Cond.code ({ cls := "ShipLanterns", name := "locate", desc := "(I)I" } : Jvm.MethodName) prog_1_method_23_code (2 : Nat) (Option.some Jvm.ClassFile.FieldType.int)) ∈ zG := zG_mem 937 rfl rfl
theorem zw_938 : (Jvm.Cond.methodLink "ShipLanternsLaw" (174 : Nat) ({ cls := "ShipLanternsLaw", name := "ifFault", desc := "(LShipLanterns;IIII[J)I" } : Jvm.MethodName)) ∈ zG := zG_mem 938 rfl rfl
theorem zw_939 : (Jvm.Cond.static ({ cls := "ShipLanternsLaw", name := "ifFault", desc := "(LShipLanterns;IIII[J)I" } : Jvm.MethodName)) ∈ zG := zG_mem 939 rfl rfl
theorem zw_940 : (Jvm.Cond.codeWith ({ cls := "ShipLanternsLaw", name := "ifFault", desc := "(LShipLanterns;IIII[J)I" } : Jvm.MethodName) method_23_code (7 : Nat) (Option.some Jvm.ClassFile.FieldType.int) [((0 : Nat), (14 : Nat), (17 : Nat), (13 : Nat)), ((0 : Nat), (14 : Nat), (21 : Nat), (15 : Nat))]) ∈ zG := zG_mem 940 rfl rfl
theorem zw_941 : (Jvm.Cond.methodLink "ShipLanternsLaw" (81 : Nat) ({ cls := "ShipLanterns", name := "ifFault", desc := "(IIII)I" } : Jvm.MethodName)) ∈ zG := zG_mem 941 rfl rfl
theorem zw_942 : (Jvm.Cond.instanceMethod ({ cls := "ShipLanterns", name := "ifFault", desc := "(IIII)I" } : Jvm.MethodName)) ∈ zG := zG_mem 942 rfl rfl
theorem zw_943 : (Jvm.Cond.selects "ShipLanterns" ({ cls := "ShipLanterns", name := "ifFault", desc := "(IIII)I" } : Jvm.MethodName) ({ cls := "ShipLanterns", name := "ifFault", desc := "(IIII)I" } : Jvm.MethodName)) ∈ zG := zG_mem 943 rfl rfl
theorem zw_944 : (Jvm.Cond.code ({ cls := "ShipLanterns", name := "ifFault", desc := "(IIII)I" } : Jvm.MethodName) prog_1_method_24_code (7 : Nat) (Option.some Jvm.ClassFile.FieldType.int)) ∈ zG := zG_mem 944 rfl rfl
theorem zw_946 : (Jvm.Cond.methodLink "ShipLanternsLaw" (178 : Nat) ({ cls := "ShipLanternsLaw", name := "ifToggled", desc := "(LShipLanterns;I[J)I" } : Jvm.MethodName)) ∈ zG := zG_mem 946 rfl rfl
theorem zw_947 : (Jvm.Cond.static ({ cls := "ShipLanternsLaw", name := "ifToggled", desc := "(LShipLanterns;I[J)I" } : Jvm.MethodName)) ∈ zG := zG_mem 947 rfl rfl
theorem zw_948 : (Jvm.Cond.codeWith ({ cls := "ShipLanternsLaw", name := "ifToggled", desc := "(LShipLanterns;I[J)I" } : Jvm.MethodName) method_24_code (4 : Nat) (Option.some Jvm.ClassFile.FieldType.int) [((0 : Nat), (9 : Nat), (12 : Nat), (13 : Nat))]) ∈ zG := zG_mem 948 rfl rfl
theorem zw_949 : (Jvm.Cond.methodLink "ShipLanternsLaw" (85 : Nat) ({ cls := "ShipLanterns", name := "ifToggled", desc := "(I)I" } : Jvm.MethodName)) ∈ zG := zG_mem 949 rfl rfl
theorem zw_950 : (Jvm.Cond.instanceMethod ({ cls := "ShipLanterns", name := "ifToggled", desc := "(I)I" } : Jvm.MethodName)) ∈ zG := zG_mem 950 rfl rfl
theorem zw_951 : (Jvm.Cond.selects "ShipLanterns" ({ cls := "ShipLanterns", name := "ifToggled", desc := "(I)I" } : Jvm.MethodName) ({ cls := "ShipLanterns", name := "ifToggled", desc := "(I)I" } : Jvm.MethodName)) ∈ zG := zG_mem 951 rfl rfl
theorem zw_952 : (Jvm.Cond.code ({ cls := "ShipLanterns", name := "ifToggled", desc := "(I)I" } : Jvm.MethodName) prog_1_method_25_code (2 : Nat) (Option.some Jvm.ClassFile.FieldType.int)) ∈ zG := zG_mem 952 rfl rfl
theorem zw_953 : (Jvm.Cond.methodLink "ShipLanternsLaw" (181 : Nat) ({ cls := "ShipLanternsLaw", name := "neededRating", desc := "(LShipLanterns;II[J)I" } : Jvm.MethodName)) ∈ zG := zG_mem 953 rfl rfl
theorem zw_954 : (Jvm.Cond.static ({ cls := "ShipLanternsLaw", name := "neededRating", desc := "(LShipLanterns;II[J)I" } : Jvm.MethodName)) ∈ zG := zG_mem 954 rfl rfl
theorem zw_955 : (Jvm.Cond.codeWith ({ cls := "ShipLanternsLaw", name := "neededRating", desc := "(LShipLanterns;II[J)I" } : Jvm.MethodName) method_25_code (5 : Nat) (Option.some Jvm.ClassFile.FieldType.int) [((0 : Nat), (10 : Nat), (13 : Nat), (13 : Nat))]) ∈ zG := zG_mem 955 rfl rfl
theorem zw_956 : (Jvm.Cond.methodLink "ShipLanternsLaw" (88 : Nat) ({ cls := "ShipLanterns", name := "neededRating", desc := "(II)I" } : Jvm.MethodName)) ∈ zG := zG_mem 956 rfl rfl
theorem zw_957 : (Jvm.Cond.instanceMethod ({ cls := "ShipLanterns", name := "neededRating", desc := "(II)I" } : Jvm.MethodName)) ∈ zG := zG_mem 957 rfl rfl
theorem zw_958 : (Jvm.Cond.selects "ShipLanterns" ({ cls := "ShipLanterns", name := "neededRating", desc := "(II)I" } : Jvm.MethodName) ({ cls := "ShipLanterns", name := "neededRating", desc := "(II)I" } : Jvm.MethodName)) ∈ zG := zG_mem 958 rfl rfl
theorem zw_959 : (Jvm.Cond.code ({ cls := "ShipLanterns", name := "neededRating", desc := "(II)I" } : Jvm.MethodName) prog_1_method_26_code (3 : Nat) (Option.some Jvm.ClassFile.FieldType.int)) ∈ zG := zG_mem 959 rfl rfl
theorem zw_960 : (Jvm.Cond.classLink "ShipLanternsLaw" (92 : Nat) "ShipLanternsModel") ∈ zG := zG_mem 960 rfl rfl
theorem zw_961 : (Jvm.Cond.instantiable "ShipLanternsModel" (15 : Nat)) ∈ zG := zG_mem 961 rfl rfl
theorem zw_962 : (Jvm.Cond.methodLink "ShipLanternsLaw" (94 : Nat) ({ cls := "ShipLanternsModel", name := "<init>", desc := "()V" } : Jvm.MethodName)) ∈ zG := zG_mem 962 rfl rfl
theorem zw_963 : (Jvm.Cond.instanceMethod ({ cls := "ShipLanternsModel", name := "<init>", desc := "()V" } : Jvm.MethodName)) ∈ zG := zG_mem 963 rfl rfl
theorem zw_964 : (Jvm.Cond.code ({ cls := "ShipLanternsModel", name := "<init>", desc := "()V" } : Jvm.MethodName) prog_10_method_1_code (1 : Nat) (Option.none : Option Jvm.ClassFile.FieldType)) ∈ zG := zG_mem 964 rfl rfl
theorem zw_965 : (Jvm.Cond.methodLink "ShipLanternsModel" (1 : Nat) ({ cls := "java/lang/Object", name := "<init>", desc := "()V" } : Jvm.MethodName)) ∈ zG := zG_mem 965 rfl rfl
theorem zw_966 : (Jvm.Cond.fieldLink "ShipLanternsModel" (25 : Nat) "ShipLanternsModel" "thrown" "I") ∈ zG := zG_mem 966 rfl rfl
theorem zw_967 : (Jvm.Cond.fieldLink "ShipLanternsModel" (7 : Nat) "ShipLanternsModel" "z" "[I") ∈ zG := zG_mem 967 rfl rfl
theorem zw_968 : (Jvm.Cond.fieldLink "ShipLanternsModel" (102 : Nat) "ShipLanternsModel" "saves" "I") ∈ zG := zG_mem 968 rfl rfl
theorem zw_969 : (Jvm.Cond.fieldLink "ShipLanternsModel" (13 : Nat) "ShipLanternsModel" "saved" "[I") ∈ zG := zG_mem 969 rfl rfl
theorem zw_970 : (Jvm.Cond.fieldLink "ShipLanternsModel" (162 : Nat) "ShipLanternsModel" "length" "I") ∈ zG := zG_mem 970 rfl rfl
theorem zw_971 : (Jvm.Cond.fieldLink "ShipLanternsModel" (16 : Nat) "ShipLanternsModel" "text" "[I") ∈ zG := zG_mem 971 rfl rfl
theorem zw_972 : (Jvm.Cond.fieldLink "ShipLanternsModel" (93 : Nat) "ShipLanternsModel" "blown" "I") ∈ zG := zG_mem 972 rfl rfl
theorem zw_973 : (Jvm.Cond.fieldLink "ShipLanternsModel" (96 : Nat) "ShipLanternsModel" "firstBlown" "I") ∈ zG := zG_mem 973 rfl rfl
theorem zw_974 : (Jvm.Cond.fieldLink "ShipLanternsModel" (19 : Nat) "ShipLanternsModel" "aside" "[I") ∈ zG := zG_mem 974 rfl rfl
theorem zw_975 : (Jvm.Cond.fieldLink "ShipLanternsModel" (168 : Nat) "ShipLanternsModel" "sign" "I") ∈ zG := zG_mem 975 rfl rfl
theorem zw_976 : (Jvm.Cond.fieldLink "ShipLanternsModel" (165 : Nat) "ShipLanternsModel" "which" "I") ∈ zG := zG_mem 976 rfl rfl
theorem zw_977 : (Jvm.Cond.fieldLink "ShipLanternsModel" (174 : Nat) "ShipLanternsModel" "digits" "I") ∈ zG := zG_mem 977 rfl rfl
theorem zw_978 : (Jvm.Cond.fieldLink "ShipLanternsModel" (171 : Nat) "ShipLanternsModel" "parts" "I") ∈ zG := zG_mem 978 rfl rfl
theorem zw_979 : (Jvm.Cond.fieldLink "ShipLanternsModel" (22 : Nat) "ShipLanternsModel" "read" "[I") ∈ zG := zG_mem 979 rfl rfl
theorem zw_980 : (Jvm.Cond.fieldLink "ShipLanternsModel" (261 : Nat) "ShipLanternsModel" "h" "J") ∈ zG := zG_mem 980 rfl rfl
theorem zw_981 : (Jvm.Cond.lays "ShipLanternsModel" "ShipLanternsModel" "thrown" "I") ∈ zG := zG_mem 981 rfl rfl
theorem zw_983 : (Jvm.Cond.laysFinal "ShipLanternsModel" "ShipLanternsModel" "z" "[I") ∈ zG := zG_mem 983 rfl rfl
theorem zw_985 : (Jvm.Cond.lays "ShipLanternsModel" "ShipLanternsModel" "saves" "I") ∈ zG := zG_mem 985 rfl rfl
theorem zw_987 : (Jvm.Cond.laysFinal "ShipLanternsModel" "ShipLanternsModel" "saved" "[I") ∈ zG := zG_mem 987 rfl rfl
theorem zw_989 : (Jvm.Cond.lays "ShipLanternsModel" "ShipLanternsModel" "length" "I") ∈ zG := zG_mem 989 rfl rfl
theorem zw_991 : (Jvm.Cond.laysFinal "ShipLanternsModel" "ShipLanternsModel" "text" "[I") ∈ zG := zG_mem 991 rfl rfl
theorem zw_993 : (Jvm.Cond.lays "ShipLanternsModel" "ShipLanternsModel" "blown" "I") ∈ zG := zG_mem 993 rfl rfl
theorem zw_995 : (Jvm.Cond.lays "ShipLanternsModel" "ShipLanternsModel" "firstBlown" "I") ∈ zG := zG_mem 995 rfl rfl
theorem zw_997 : (Jvm.Cond.laysFinal "ShipLanternsModel" "ShipLanternsModel" "aside" "[I") ∈ zG := zG_mem 997 rfl rfl
theorem zw_999 : (Jvm.Cond.lays "ShipLanternsModel" "ShipLanternsModel" "sign" "I") ∈ zG := zG_mem 999 rfl rfl
theorem zw_1001 : (Jvm.Cond.lays "ShipLanternsModel" "ShipLanternsModel" "which" "I") ∈ zG := zG_mem 1001 rfl rfl
theorem zw_1003 : (Jvm.Cond.lays "ShipLanternsModel" "ShipLanternsModel" "digits" "I") ∈ zG := zG_mem 1003 rfl rfl
theorem zw_1005 : (Jvm.Cond.lays "ShipLanternsModel" "ShipLanternsModel" "parts" "I") ∈ zG := zG_mem 1005 rfl rfl
theorem zw_1007 : (Jvm.Cond.laysFinal "ShipLanternsModel" "ShipLanternsModel" "read" "[I") ∈ zG := zG_mem 1007 rfl rfl
theorem zw_1009 : (Jvm.Cond.lays "ShipLanternsModel" "ShipLanternsModel" "h" "J") ∈ zG := zG_mem 1009 rfl rfl
theorem zw_1012 : (Jvm.Cond.methodLink "ShipLanternsLaw" (101 : Nat) ({ cls := "ShipLanternsModel", name := "thrown", desc := "()I" } : Jvm.MethodName)) ∈ zG := zG_mem 1012 rfl rfl
theorem zw_1013 : (Jvm.Cond.instanceMethod ({ cls := "ShipLanternsModel", name := "thrown", desc := "()I" } : Jvm.MethodName)) ∈ zG := zG_mem 1013 rfl rfl
theorem zw_1014 : (Jvm.Cond.selects "ShipLanternsModel" ({ cls := "ShipLanternsModel", name := "thrown", desc := "()I" } : Jvm.MethodName) ({ cls := "ShipLanternsModel", name := "thrown", desc := "()I" } : Jvm.MethodName)) ∈ zG := zG_mem 1014 rfl rfl
theorem zw_1015 : (Jvm.Cond.code ({ cls := "ShipLanternsModel", name := "thrown", desc := "()I" } : Jvm.MethodName) prog_10_method_2_code (1 : Nat) (Option.some Jvm.ClassFile.FieldType.int)) ∈ zG := zG_mem 1015 rfl rfl
theorem zw_1016 : (Jvm.Cond.methodLink "ShipLanternsLaw" (151 : Nat) ({ cls := "ShipLanternsModel", name := "undo", desc := "()I" } : Jvm.MethodName)) ∈ zG := zG_mem 1016 rfl rfl
theorem zw_1017 : (Jvm.Cond.instanceMethod ({ cls := "ShipLanternsModel", name := "undo", desc := "()I" } : Jvm.MethodName)) ∈ zG := zG_mem 1017 rfl rfl
theorem zw_1018 : (Jvm.Cond.selects "ShipLanternsModel" ({ cls := "ShipLanternsModel", name := "undo", desc := "()I" } : Jvm.MethodName) ({ cls := "ShipLanternsModel", name := "undo", desc := "()I" } : Jvm.MethodName)) ∈ zG := zG_mem 1018 rfl rfl
theorem zw_1019 : (Jvm.Cond.code ({ cls := "ShipLanternsModel", name := "undo", desc := "()I" } : Jvm.MethodName) prog_10_method_30_code (2 : Nat) (Option.some Jvm.ClassFile.FieldType.int)) ∈ zG := zG_mem 1019 rfl rfl
theorem zw_1020 : (Jvm.Cond.methodLink "ShipLanternsLaw" (100 : Nat) ({ cls := "ShipLanternsModel", name := "addBox", desc := "(IIIZ)I" } : Jvm.MethodName)) ∈ zG := zG_mem 1020 rfl rfl
theorem zw_1021 : (Jvm.Cond.instanceMethod ({ cls := "ShipLanternsModel", name := "addBox", desc := "(IIIZ)I" } : Jvm.MethodName)) ∈ zG := zG_mem 1021 rfl rfl
theorem zw_1022 : (Jvm.Cond.selects "ShipLanternsModel" ({ cls := "ShipLanternsModel", name := "addBox", desc := "(IIIZ)I" } : Jvm.MethodName) ({ cls := "ShipLanternsModel", name := "addBox", desc := "(IIIZ)I" } : Jvm.MethodName)) ∈ zG := zG_mem 1022 rfl rfl
theorem zw_1023 : (Jvm.Cond.code ({ cls := "ShipLanternsModel", name := "addBox", desc := "(IIIZ)I" } : Jvm.MethodName) prog_10_method_36_code (5 : Nat) (Option.some Jvm.ClassFile.FieldType.int)) ∈ zG := zG_mem 1023 rfl rfl
theorem zw_1024 : (Jvm.Cond.methodLink "ShipLanternsModel" (114 : Nat) ({ cls := "ShipLanternsModel", name := "whyNoBox", desc := "(III)I" } : Jvm.MethodName)) ∈ zG := zG_mem 1024 rfl rfl
theorem zw_1026 : (Jvm.Cond.instanceMethod ({ cls := "ShipLanternsModel", name := "whyNoBox", desc := "(III)I" } : Jvm.MethodName)) ∈ zG := zG_mem 1026 rfl rfl
theorem zw_1027 : (Jvm.Cond.code ({ cls := "ShipLanternsModel", name := "whyNoBox", desc := "(III)I" } : Jvm.MethodName) prog_10_method_34_code (4 : Nat) (Option.some Jvm.ClassFile.FieldType.int)) ∈ zG := zG_mem 1027 rfl rfl
theorem zw_1028 : (Jvm.Cond.methodLink "ShipLanternsModel" (105 : Nat) ({ cls := "ShipLanternsModel", name := "isBox", desc := "(I)Z" } : Jvm.MethodName)) ∈ zG := zG_mem 1028 rfl rfl
theorem zw_1030 : (Jvm.Cond.instanceMethod ({ cls := "ShipLanternsModel", name := "isBox", desc := "(I)Z" } : Jvm.MethodName)) ∈ zG := zG_mem 1030 rfl rfl
theorem zw_1031 : (Jvm.Cond.code ({ cls := "ShipLanternsModel", name := "isBox", desc := "(I)Z" } : Jvm.MethodName) prog_10_method_7_code (2 : Nat) (Option.some Jvm.ClassFile.FieldType.boolean)) ∈ zG := zG_mem 1031 rfl rfl
theorem zw_1032 : (Jvm.Cond.methodLink "ShipLanternsModel" (29 : Nat) ({ cls := "ShipLanternsModel", name := "within", desc := "(III)Z" } : Jvm.MethodName)) ∈ zG := zG_mem 1032 rfl rfl
theorem zw_1033 : (Jvm.Cond.static ({ cls := "ShipLanternsModel", name := "within", desc := "(III)Z" } : Jvm.MethodName)) ∈ zG := zG_mem 1033 rfl rfl
theorem zw_1034 : (Jvm.Cond.code ({ cls := "ShipLanternsModel", name := "within", desc := "(III)Z" } : Jvm.MethodName) prog_10_method_3_code (3 : Nat) (Option.some Jvm.ClassFile.FieldType.boolean)) ∈ zG := zG_mem 1034 rfl rfl
theorem zw_1035 : (Jvm.Cond.methodLink "ShipLanternsModel" (108 : Nat) ({ cls := "ShipLanternsModel", name := "isRating", desc := "(I)Z" } : Jvm.MethodName)) ∈ zG := zG_mem 1035 rfl rfl
theorem zw_1036 : (Jvm.Cond.static ({ cls := "ShipLanternsModel", name := "isRating", desc := "(I)Z" } : Jvm.MethodName)) ∈ zG := zG_mem 1036 rfl rfl
theorem zw_1037 : (Jvm.Cond.code ({ cls := "ShipLanternsModel", name := "isRating", desc := "(I)Z" } : Jvm.MethodName) prog_10_method_33_code (1 : Nat) (Option.some Jvm.ClassFile.FieldType.boolean)) ∈ zG := zG_mem 1037 rfl rfl
theorem zw_1038 : (Jvm.Cond.methodLink "ShipLanternsModel" (118 : Nat) ({ cls := "ShipLanternsModel", name := "save", desc := "()V" } : Jvm.MethodName)) ∈ zG := zG_mem 1038 rfl rfl
theorem zw_1040 : (Jvm.Cond.instanceMethod ({ cls := "ShipLanternsModel", name := "save", desc := "()V" } : Jvm.MethodName)) ∈ zG := zG_mem 1040 rfl rfl
theorem zw_1041 : (Jvm.Cond.code ({ cls := "ShipLanternsModel", name := "save", desc := "()V" } : Jvm.MethodName) prog_10_method_29_code (2 : Nat) (Option.none : Option Jvm.ClassFile.FieldType)) ∈ zG := zG_mem 1041 rfl rfl
theorem zw_1042 : (Jvm.Cond.methodLink "ShipLanternsModel" (121 : Nat) ({ cls := "ShipLanternsModel", name := "bringBox", desc := "(IIIZ)V" } : Jvm.MethodName)) ∈ zG := zG_mem 1042 rfl rfl
theorem zw_1044 : (Jvm.Cond.instanceMethod ({ cls := "ShipLanternsModel", name := "bringBox", desc := "(IIIZ)V" } : Jvm.MethodName)) ∈ zG := zG_mem 1044 rfl rfl
theorem zw_1045 : (Jvm.Cond.code ({ cls := "ShipLanternsModel", name := "bringBox", desc := "(IIIZ)V" } : Jvm.MethodName) prog_10_method_35_code (6 : Nat) (Option.none : Option Jvm.ClassFile.FieldType)) ∈ zG := zG_mem 1045 rfl rfl
theorem zw_1046 : (Jvm.Cond.methodLink "ShipLanternsModel" (111 : Nat) ({ cls := "ShipLanternsModel", name := "settle", desc := "()V" } : Jvm.MethodName)) ∈ zG := zG_mem 1046 rfl rfl
theorem zw_1048 : (Jvm.Cond.instanceMethod ({ cls := "ShipLanternsModel", name := "settle", desc := "()V" } : Jvm.MethodName)) ∈ zG := zG_mem 1048 rfl rfl
theorem zw_1049 : (Jvm.Cond.code ({ cls := "ShipLanternsModel", name := "settle", desc := "()V" } : Jvm.MethodName) prog_10_method_28_code (2 : Nat) (Option.none : Option Jvm.ClassFile.FieldType)) ∈ zG := zG_mem 1049 rfl rfl
theorem zw_1050 : (Jvm.Cond.methodLink "ShipLanternsModel" (99 : Nat) ({ cls := "ShipLanternsModel", name := "nextToBlow", desc := "()I" } : Jvm.MethodName)) ∈ zG := zG_mem 1050 rfl rfl
theorem zw_1052 : (Jvm.Cond.instanceMethod ({ cls := "ShipLanternsModel", name := "nextToBlow", desc := "()I" } : Jvm.MethodName)) ∈ zG := zG_mem 1052 rfl rfl
theorem zw_1053 : (Jvm.Cond.code ({ cls := "ShipLanternsModel", name := "nextToBlow", desc := "()I" } : Jvm.MethodName) prog_10_method_27_code (4 : Nat) (Option.some Jvm.ClassFile.FieldType.int)) ∈ zG := zG_mem 1053 rfl rfl
theorem zw_1054 : (Jvm.Cond.methodLink "ShipLanternsModel" (87 : Nat) ({ cls := "ShipLanternsModel", name := "current", desc := "(II)I" } : Jvm.MethodName)) ∈ zG := zG_mem 1054 rfl rfl
theorem zw_1056 : (Jvm.Cond.instanceMethod ({ cls := "ShipLanternsModel", name := "current", desc := "(II)I" } : Jvm.MethodName)) ∈ zG := zG_mem 1056 rfl rfl
theorem zw_1057 : (Jvm.Cond.code ({ cls := "ShipLanternsModel", name := "current", desc := "(II)I" } : Jvm.MethodName) prog_10_method_26_code (5 : Nat) (Option.some Jvm.ClassFile.FieldType.int)) ∈ zG := zG_mem 1057 rfl rfl
theorem zw_1058 : (Jvm.Cond.methodLink "ShipLanternsModel" (61 : Nat) ({ cls := "ShipLanternsModel", name := "isAlive", desc := "(II)Z" } : Jvm.MethodName)) ∈ zG := zG_mem 1058 rfl rfl
theorem zw_1060 : (Jvm.Cond.instanceMethod ({ cls := "ShipLanternsModel", name := "isAlive", desc := "(II)Z" } : Jvm.MethodName)) ∈ zG := zG_mem 1060 rfl rfl
theorem zw_1061 : (Jvm.Cond.code ({ cls := "ShipLanternsModel", name := "isAlive", desc := "(II)Z" } : Jvm.MethodName) prog_10_method_15_code (3 : Nat) (Option.some Jvm.ClassFile.FieldType.boolean)) ∈ zG := zG_mem 1061 rfl rfl
theorem zw_1062 : (Jvm.Cond.methodLink "ShipLanternsModel" (40 : Nat) ({ cls := "ShipLanternsModel", name := "isSwitched", desc := "(I)Z" } : Jvm.MethodName)) ∈ zG := zG_mem 1062 rfl rfl
theorem zw_1064 : (Jvm.Cond.instanceMethod ({ cls := "ShipLanternsModel", name := "isSwitched", desc := "(I)Z" } : Jvm.MethodName)) ∈ zG := zG_mem 1064 rfl rfl
theorem zw_1065 : (Jvm.Cond.code ({ cls := "ShipLanternsModel", name := "isSwitched", desc := "(I)Z" } : Jvm.MethodName) prog_10_method_13_code (4 : Nat) (Option.some Jvm.ClassFile.FieldType.boolean)) ∈ zG := zG_mem 1065 rfl rfl
theorem zw_1066 : (Jvm.Cond.methodLink "ShipLanternsModel" (33 : Nat) ({ cls := "ShipLanternsModel", name := "ofBox", desc := "(II)I" } : Jvm.MethodName)) ∈ zG := zG_mem 1066 rfl rfl
theorem zw_1068 : (Jvm.Cond.instanceMethod ({ cls := "ShipLanternsModel", name := "ofBox", desc := "(II)I" } : Jvm.MethodName)) ∈ zG := zG_mem 1068 rfl rfl
theorem zw_1069 : (Jvm.Cond.code ({ cls := "ShipLanternsModel", name := "ofBox", desc := "(II)I" } : Jvm.MethodName) prog_10_method_4_code (3 : Nat) (Option.some Jvm.ClassFile.FieldType.int)) ∈ zG := zG_mem 1069 rfl rfl
theorem zw_1070 : (Jvm.Cond.methodLink "ShipLanternsModel" (44 : Nat) ({ cls := "ShipLanternsModel", name := "isWhole", desc := "(II)Z" } : Jvm.MethodName)) ∈ zG := zG_mem 1070 rfl rfl
theorem zw_1072 : (Jvm.Cond.instanceMethod ({ cls := "ShipLanternsModel", name := "isWhole", desc := "(II)Z" } : Jvm.MethodName)) ∈ zG := zG_mem 1072 rfl rfl
theorem zw_1073 : (Jvm.Cond.code ({ cls := "ShipLanternsModel", name := "isWhole", desc := "(II)Z" } : Jvm.MethodName) prog_10_method_14_code (6 : Nat) (Option.some Jvm.ClassFile.FieldType.boolean)) ∈ zG := zG_mem 1073 rfl rfl
theorem zw_1074 : (Jvm.Cond.methodLink "ShipLanternsModel" (37 : Nat) ({ cls := "ShipLanternsModel", name := "above", desc := "(II)I" } : Jvm.MethodName)) ∈ zG := zG_mem 1074 rfl rfl
theorem zw_1076 : (Jvm.Cond.instanceMethod ({ cls := "ShipLanternsModel", name := "above", desc := "(II)I" } : Jvm.MethodName)) ∈ zG := zG_mem 1076 rfl rfl
theorem zw_1077 : (Jvm.Cond.code ({ cls := "ShipLanternsModel", name := "above", desc := "(II)I" } : Jvm.MethodName) prog_10_method_10_code (3 : Nat) (Option.some Jvm.ClassFile.FieldType.int)) ∈ zG := zG_mem 1077 rfl rfl
theorem zw_1078 : (Jvm.Cond.methodLink "ShipLanternsModel" (54 : Nat) ({ cls := "ShipLanternsModel", name := "dark", desc := "(I)I" } : Jvm.MethodName)) ∈ zG := zG_mem 1078 rfl rfl
theorem zw_1080 : (Jvm.Cond.instanceMethod ({ cls := "ShipLanternsModel", name := "dark", desc := "(I)I" } : Jvm.MethodName)) ∈ zG := zG_mem 1080 rfl rfl
theorem zw_1081 : (Jvm.Cond.code ({ cls := "ShipLanternsModel", name := "dark", desc := "(I)I" } : Jvm.MethodName) prog_10_method_18_code (3 : Nat) (Option.some Jvm.ClassFile.FieldType.int)) ∈ zG := zG_mem 1081 rfl rfl
theorem zw_1082 : (Jvm.Cond.methodLink "ShipLanternsModel" (48 : Nat) ({ cls := "ShipLanternsModel", name := "ofLantern", desc := "(II)I" } : Jvm.MethodName)) ∈ zG := zG_mem 1082 rfl rfl
theorem zw_1084 : (Jvm.Cond.instanceMethod ({ cls := "ShipLanternsModel", name := "ofLantern", desc := "(II)I" } : Jvm.MethodName)) ∈ zG := zG_mem 1084 rfl rfl
theorem zw_1085 : (Jvm.Cond.code ({ cls := "ShipLanternsModel", name := "ofLantern", desc := "(II)I" } : Jvm.MethodName) prog_10_method_5_code (3 : Nat) (Option.some Jvm.ClassFile.FieldType.int)) ∈ zG := zG_mem 1085 rfl rfl
theorem zw_1086 : (Jvm.Cond.methodLink "ShipLanternsModel" (51 : Nat) ({ cls := "ShipLanternsModel", name := "pole", desc := "(II)I" } : Jvm.MethodName)) ∈ zG := zG_mem 1086 rfl rfl
theorem zw_1088 : (Jvm.Cond.instanceMethod ({ cls := "ShipLanternsModel", name := "pole", desc := "(II)I" } : Jvm.MethodName)) ∈ zG := zG_mem 1088 rfl rfl
theorem zw_1089 : (Jvm.Cond.code ({ cls := "ShipLanternsModel", name := "pole", desc := "(II)I" } : Jvm.MethodName) prog_10_method_11_code (5 : Nat) (Option.some Jvm.ClassFile.FieldType.int)) ∈ zG := zG_mem 1089 rfl rfl
theorem zw_1090 : (Jvm.Cond.methodLink "ShipLanternsModel" (77 : Nat) ({ cls := "ShipLanternsModel", name := "isBehind", desc := "(II)Z" } : Jvm.MethodName)) ∈ zG := zG_mem 1090 rfl rfl
theorem zw_1092 : (Jvm.Cond.instanceMethod ({ cls := "ShipLanternsModel", name := "isBehind", desc := "(II)Z" } : Jvm.MethodName)) ∈ zG := zG_mem 1092 rfl rfl
theorem zw_1093 : (Jvm.Cond.code ({ cls := "ShipLanternsModel", name := "isBehind", desc := "(II)Z" } : Jvm.MethodName) prog_10_method_17_code (4 : Nat) (Option.some Jvm.ClassFile.FieldType.boolean)) ∈ zG := zG_mem 1093 rfl rfl
theorem zw_1094 : (Jvm.Cond.methodLink "ShipLanternsModel" (58 : Nat) ({ cls := "ShipLanternsModel", name := "ofFault", desc := "(II)I" } : Jvm.MethodName)) ∈ zG := zG_mem 1094 rfl rfl
theorem zw_1096 : (Jvm.Cond.instanceMethod ({ cls := "ShipLanternsModel", name := "ofFault", desc := "(II)I" } : Jvm.MethodName)) ∈ zG := zG_mem 1096 rfl rfl
theorem zw_1097 : (Jvm.Cond.code ({ cls := "ShipLanternsModel", name := "ofFault", desc := "(II)I" } : Jvm.MethodName) prog_10_method_6_code (3 : Nat) (Option.some Jvm.ClassFile.FieldType.int)) ∈ zG := zG_mem 1097 rfl rfl
theorem zw_1098 : (Jvm.Cond.methodLink "ShipLanternsModel" (80 : Nat) ({ cls := "ShipLanternsModel", name := "comesBy", desc := "(IIII)Z" } : Jvm.MethodName)) ∈ zG := zG_mem 1098 rfl rfl
theorem zw_1100 : (Jvm.Cond.instanceMethod ({ cls := "ShipLanternsModel", name := "comesBy", desc := "(IIII)Z" } : Jvm.MethodName)) ∈ zG := zG_mem 1100 rfl rfl
theorem zw_1101 : (Jvm.Cond.code ({ cls := "ShipLanternsModel", name := "comesBy", desc := "(IIII)Z" } : Jvm.MethodName) prog_10_method_16_code (7 : Nat) (Option.some Jvm.ClassFile.FieldType.boolean)) ∈ zG := zG_mem 1101 rfl rfl
theorem zw_1102 : (Jvm.Cond.methodLink "ShipLanternsModel" (84 : Nat) ({ cls := "ShipLanternsModel", name := "flow", desc := "(I)I" } : Jvm.MethodName)) ∈ zG := zG_mem 1102 rfl rfl
theorem zw_1104 : (Jvm.Cond.instanceMethod ({ cls := "ShipLanternsModel", name := "flow", desc := "(I)I" } : Jvm.MethodName)) ∈ zG := zG_mem 1104 rfl rfl
theorem zw_1105 : (Jvm.Cond.code ({ cls := "ShipLanternsModel", name := "flow", desc := "(I)I" } : Jvm.MethodName) prog_10_method_25_code (4 : Nat) (Option.some Jvm.ClassFile.FieldType.int)) ∈ zG := zG_mem 1105 rfl rfl
theorem zw_1106 : (Jvm.Cond.methodLink "ShipLanternsModel" (64 : Nat) ({ cls := "ShipLanternsModel", name := "isLive", desc := "(I)Z" } : Jvm.MethodName)) ∈ zG := zG_mem 1106 rfl rfl
theorem zw_1108 : (Jvm.Cond.instanceMethod ({ cls := "ShipLanternsModel", name := "isLive", desc := "(I)Z" } : Jvm.MethodName)) ∈ zG := zG_mem 1108 rfl rfl
theorem zw_1109 : (Jvm.Cond.code ({ cls := "ShipLanternsModel", name := "isLive", desc := "(I)Z" } : Jvm.MethodName) prog_10_method_21_code (2 : Nat) (Option.some Jvm.ClassFile.FieldType.boolean)) ∈ zG := zG_mem 1109 rfl rfl
theorem zw_1110 : (Jvm.Cond.methodLink "ShipLanternsModel" (73 : Nat) ({ cls := "ShipLanternsModel", name := "leak", desc := "()I" } : Jvm.MethodName)) ∈ zG := zG_mem 1110 rfl rfl
theorem zw_1112 : (Jvm.Cond.instanceMethod ({ cls := "ShipLanternsModel", name := "leak", desc := "()I" } : Jvm.MethodName)) ∈ zG := zG_mem 1112 rfl rfl
theorem zw_1113 : (Jvm.Cond.code ({ cls := "ShipLanternsModel", name := "leak", desc := "()I" } : Jvm.MethodName) prog_10_method_24_code (1 : Nat) (Option.some Jvm.ClassFile.FieldType.int)) ∈ zG := zG_mem 1113 rfl rfl
theorem zw_1114 : (Jvm.Cond.methodLink "ShipLanternsModel" (70 : Nat) ({ cls := "ShipLanternsModel", name := "lampOf", desc := "(I)I" } : Jvm.MethodName)) ∈ zG := zG_mem 1114 rfl rfl
theorem zw_1116 : (Jvm.Cond.instanceMethod ({ cls := "ShipLanternsModel", name := "lampOf", desc := "(I)I" } : Jvm.MethodName)) ∈ zG := zG_mem 1116 rfl rfl
theorem zw_1117 : (Jvm.Cond.code ({ cls := "ShipLanternsModel", name := "lampOf", desc := "(I)I" } : Jvm.MethodName) prog_10_method_23_code (4 : Nat) (Option.some Jvm.ClassFile.FieldType.int)) ∈ zG := zG_mem 1117 rfl rfl
theorem zw_1118 : (Jvm.Cond.methodLink "ShipLanternsModel" (67 : Nat) ({ cls := "ShipLanternsModel", name := "faultPole", desc := "(I)I" } : Jvm.MethodName)) ∈ zG := zG_mem 1118 rfl rfl
theorem zw_1120 : (Jvm.Cond.instanceMethod ({ cls := "ShipLanternsModel", name := "faultPole", desc := "(I)I" } : Jvm.MethodName)) ∈ zG := zG_mem 1120 rfl rfl
theorem zw_1121 : (Jvm.Cond.code ({ cls := "ShipLanternsModel", name := "faultPole", desc := "(I)I" } : Jvm.MethodName) prog_10_method_22_code (2 : Nat) (Option.some Jvm.ClassFile.FieldType.int)) ∈ zG := zG_mem 1121 rfl rfl
theorem zw_1122 : (Jvm.Cond.methodLink "ShipLanternsModel" (90 : Nat) ({ cls := "ShipLanternsModel", name := "depth", desc := "(I)I" } : Jvm.MethodName)) ∈ zG := zG_mem 1122 rfl rfl
theorem zw_1124 : (Jvm.Cond.instanceMethod ({ cls := "ShipLanternsModel", name := "depth", desc := "(I)I" } : Jvm.MethodName)) ∈ zG := zG_mem 1124 rfl rfl
theorem zw_1125 : (Jvm.Cond.code ({ cls := "ShipLanternsModel", name := "depth", desc := "(I)I" } : Jvm.MethodName) prog_10_method_12_code (4 : Nat) (Option.some Jvm.ClassFile.FieldType.int)) ∈ zG := zG_mem 1125 rfl rfl
theorem zw_1126 : (Jvm.Cond.methodLink "ShipLanternsLaw" (107 : Nat) ({ cls := "ShipLanternsModel", name := "toggle", desc := "(I)I" } : Jvm.MethodName)) ∈ zG := zG_mem 1126 rfl rfl
theorem zw_1127 : (Jvm.Cond.instanceMethod ({ cls := "ShipLanternsModel", name := "toggle", desc := "(I)I" } : Jvm.MethodName)) ∈ zG := zG_mem 1127 rfl rfl
theorem zw_1128 : (Jvm.Cond.selects "ShipLanternsModel" ({ cls := "ShipLanternsModel", name := "toggle", desc := "(I)I" } : Jvm.MethodName) ({ cls := "ShipLanternsModel", name := "toggle", desc := "(I)I" } : Jvm.MethodName)) ∈ zG := zG_mem 1128 rfl rfl
theorem zw_1129 : (Jvm.Cond.code ({ cls := "ShipLanternsModel", name := "toggle", desc := "(I)I" } : Jvm.MethodName) prog_10_method_38_code (2 : Nat) (Option.some Jvm.ClassFile.FieldType.int)) ∈ zG := zG_mem 1129 rfl rfl
theorem zw_1130 : (Jvm.Cond.methodLink "ShipLanternsModel" (125 : Nat) ({ cls := "ShipLanternsModel", name := "isFed", desc := "(I)Z" } : Jvm.MethodName)) ∈ zG := zG_mem 1130 rfl rfl
theorem zw_1132 : (Jvm.Cond.instanceMethod ({ cls := "ShipLanternsModel", name := "isFed", desc := "(I)Z" } : Jvm.MethodName)) ∈ zG := zG_mem 1132 rfl rfl
theorem zw_1133 : (Jvm.Cond.code ({ cls := "ShipLanternsModel", name := "isFed", desc := "(I)Z" } : Jvm.MethodName) prog_10_method_8_code (2 : Nat) (Option.some Jvm.ClassFile.FieldType.boolean)) ∈ zG := zG_mem 1133 rfl rfl
theorem zw_1134 : (Jvm.Cond.methodLink "ShipLanternsModel" (128 : Nat) ({ cls := "ShipLanternsModel", name := "turn", desc := "(II)V" } : Jvm.MethodName)) ∈ zG := zG_mem 1134 rfl rfl
theorem zw_1136 : (Jvm.Cond.instanceMethod ({ cls := "ShipLanternsModel", name := "turn", desc := "(II)V" } : Jvm.MethodName)) ∈ zG := zG_mem 1136 rfl rfl
theorem zw_1137 : (Jvm.Cond.code ({ cls := "ShipLanternsModel", name := "turn", desc := "(II)V" } : Jvm.MethodName) prog_10_method_37_code (3 : Nat) (Option.none : Option Jvm.ClassFile.FieldType)) ∈ zG := zG_mem 1137 rfl rfl
theorem zw_1138 : (Jvm.Cond.methodLink "ShipLanternsLaw" (110 : Nat) ({ cls := "ShipLanternsModel", name := "cross", desc := "(I)I" } : Jvm.MethodName)) ∈ zG := zG_mem 1138 rfl rfl
theorem zw_1139 : (Jvm.Cond.instanceMethod ({ cls := "ShipLanternsModel", name := "cross", desc := "(I)I" } : Jvm.MethodName)) ∈ zG := zG_mem 1139 rfl rfl
theorem zw_1140 : (Jvm.Cond.selects "ShipLanternsModel" ({ cls := "ShipLanternsModel", name := "cross", desc := "(I)I" } : Jvm.MethodName) ({ cls := "ShipLanternsModel", name := "cross", desc := "(I)I" } : Jvm.MethodName)) ∈ zG := zG_mem 1140 rfl rfl
theorem zw_1141 : (Jvm.Cond.code ({ cls := "ShipLanternsModel", name := "cross", desc := "(I)I" } : Jvm.MethodName) prog_10_method_39_code (2 : Nat) (Option.some Jvm.ClassFile.FieldType.int)) ∈ zG := zG_mem 1141 rfl rfl
theorem zw_1142 : (Jvm.Cond.methodLink "ShipLanternsModel" (132 : Nat) ({ cls := "ShipLanternsModel", name := "burning", desc := "()I" } : Jvm.MethodName)) ∈ zG := zG_mem 1142 rfl rfl
theorem zw_1144 : (Jvm.Cond.instanceMethod ({ cls := "ShipLanternsModel", name := "burning", desc := "()I" } : Jvm.MethodName)) ∈ zG := zG_mem 1144 rfl rfl
theorem zw_1145 : (Jvm.Cond.code ({ cls := "ShipLanternsModel", name := "burning", desc := "()I" } : Jvm.MethodName) prog_10_method_19_code (3 : Nat) (Option.some Jvm.ClassFile.FieldType.int)) ∈ zG := zG_mem 1145 rfl rfl
theorem zw_1146 : (Jvm.Cond.methodLink "ShipLanternsLaw" (114 : Nat) ({ cls := "ShipLanternsModel", name := "replace", desc := "(III)I" } : Jvm.MethodName)) ∈ zG := zG_mem 1146 rfl rfl
theorem zw_1147 : (Jvm.Cond.instanceMethod ({ cls := "ShipLanternsModel", name := "replace", desc := "(III)I" } : Jvm.MethodName)) ∈ zG := zG_mem 1147 rfl rfl
theorem zw_1148 : (Jvm.Cond.selects "ShipLanternsModel" ({ cls := "ShipLanternsModel", name := "replace", desc := "(III)I" } : Jvm.MethodName) ({ cls := "ShipLanternsModel", name := "replace", desc := "(III)I" } : Jvm.MethodName)) ∈ zG := zG_mem 1148 rfl rfl
theorem zw_1149 : (Jvm.Cond.code ({ cls := "ShipLanternsModel", name := "replace", desc := "(III)I" } : Jvm.MethodName) prog_10_method_40_code (5 : Nat) (Option.some Jvm.ClassFile.FieldType.int)) ∈ zG := zG_mem 1149 rfl rfl
theorem zw_1150 : (Jvm.Cond.methodLink "ShipLanternsModel" (135 : Nat) ({ cls := "ShipLanternsModel", name := "isTerminal", desc := "(I)Z" } : Jvm.MethodName)) ∈ zG := zG_mem 1150 rfl rfl
theorem zw_1151 : (Jvm.Cond.static ({ cls := "ShipLanternsModel", name := "isTerminal", desc := "(I)Z" } : Jvm.MethodName)) ∈ zG := zG_mem 1151 rfl rfl
theorem zw_1152 : (Jvm.Cond.code ({ cls := "ShipLanternsModel", name := "isTerminal", desc := "(I)Z" } : Jvm.MethodName) prog_10_method_9_code (1 : Nat) (Option.some Jvm.ClassFile.FieldType.boolean)) ∈ zG := zG_mem 1152 rfl rfl
theorem zw_1153 : (Jvm.Cond.methodLink "ShipLanternsLaw" (117 : Nat) ({ cls := "ShipLanternsModel", name := "buyFuses", desc := "(I)I" } : Jvm.MethodName)) ∈ zG := zG_mem 1153 rfl rfl
theorem zw_1154 : (Jvm.Cond.instanceMethod ({ cls := "ShipLanternsModel", name := "buyFuses", desc := "(I)I" } : Jvm.MethodName)) ∈ zG := zG_mem 1154 rfl rfl
theorem zw_1155 : (Jvm.Cond.selects "ShipLanternsModel" ({ cls := "ShipLanternsModel", name := "buyFuses", desc := "(I)I" } : Jvm.MethodName) ({ cls := "ShipLanternsModel", name := "buyFuses", desc := "(I)I" } : Jvm.MethodName)) ∈ zG := zG_mem 1155 rfl rfl
theorem zw_1156 : (Jvm.Cond.code ({ cls := "ShipLanternsModel", name := "buyFuses", desc := "(I)I" } : Jvm.MethodName) prog_10_method_41_code (2 : Nat) (Option.some Jvm.ClassFile.FieldType.int)) ∈ zG := zG_mem 1156 rfl rfl
theorem zw_1157 : (Jvm.Cond.methodLink "ShipLanternsLaw" (121 : Nat) ({ cls := "ShipLanternsModel", name := "hang", desc := "(IIZ)I" } : Jvm.MethodName)) ∈ zG := zG_mem 1157 rfl rfl
theorem zw_1158 : (Jvm.Cond.instanceMethod ({ cls := "ShipLanternsModel", name := "hang", desc := "(IIZ)I" } : Jvm.MethodName)) ∈ zG := zG_mem 1158 rfl rfl
theorem zw_1159 : (Jvm.Cond.selects "ShipLanternsModel" ({ cls := "ShipLanternsModel", name := "hang", desc := "(IIZ)I" } : Jvm.MethodName) ({ cls := "ShipLanternsModel", name := "hang", desc := "(IIZ)I" } : Jvm.MethodName)) ∈ zG := zG_mem 1159 rfl rfl
theorem zw_1160 : (Jvm.Cond.code ({ cls := "ShipLanternsModel", name := "hang", desc := "(IIZ)I" } : Jvm.MethodName) prog_10_method_44_code (4 : Nat) (Option.some Jvm.ClassFile.FieldType.int)) ∈ zG := zG_mem 1160 rfl rfl
theorem zw_1161 : (Jvm.Cond.methodLink "ShipLanternsModel" (138 : Nat) ({ cls := "ShipLanternsModel", name := "whyNoLantern", desc := "(II)I" } : Jvm.MethodName)) ∈ zG := zG_mem 1161 rfl rfl
theorem zw_1163 : (Jvm.Cond.instanceMethod ({ cls := "ShipLanternsModel", name := "whyNoLantern", desc := "(II)I" } : Jvm.MethodName)) ∈ zG := zG_mem 1163 rfl rfl
theorem zw_1164 : (Jvm.Cond.code ({ cls := "ShipLanternsModel", name := "whyNoLantern", desc := "(II)I" } : Jvm.MethodName) prog_10_method_42_code (3 : Nat) (Option.some Jvm.ClassFile.FieldType.int)) ∈ zG := zG_mem 1164 rfl rfl
theorem zw_1165 : (Jvm.Cond.methodLink "ShipLanternsModel" (141 : Nat) ({ cls := "ShipLanternsModel", name := "bringLantern", desc := "(IIZ)V" } : Jvm.MethodName)) ∈ zG := zG_mem 1165 rfl rfl
theorem zw_1167 : (Jvm.Cond.instanceMethod ({ cls := "ShipLanternsModel", name := "bringLantern", desc := "(IIZ)V" } : Jvm.MethodName)) ∈ zG := zG_mem 1167 rfl rfl
theorem zw_1168 : (Jvm.Cond.code ({ cls := "ShipLanternsModel", name := "bringLantern", desc := "(IIZ)V" } : Jvm.MethodName) prog_10_method_43_code (5 : Nat) (Option.none : Option Jvm.ClassFile.FieldType)) ∈ zG := zG_mem 1168 rfl rfl
theorem zw_1169 : (Jvm.Cond.methodLink "ShipLanternsLaw" (124 : Nat) ({ cls := "ShipLanternsModel", name := "takeDown", desc := "(I)I" } : Jvm.MethodName)) ∈ zG := zG_mem 1169 rfl rfl
theorem zw_1170 : (Jvm.Cond.instanceMethod ({ cls := "ShipLanternsModel", name := "takeDown", desc := "(I)I" } : Jvm.MethodName)) ∈ zG := zG_mem 1170 rfl rfl
theorem zw_1171 : (Jvm.Cond.selects "ShipLanternsModel" ({ cls := "ShipLanternsModel", name := "takeDown", desc := "(I)I" } : Jvm.MethodName) ({ cls := "ShipLanternsModel", name := "takeDown", desc := "(I)I" } : Jvm.MethodName)) ∈ zG := zG_mem 1171 rfl rfl
theorem zw_1172 : (Jvm.Cond.code ({ cls := "ShipLanternsModel", name := "takeDown", desc := "(I)I" } : Jvm.MethodName) prog_10_method_46_code (4 : Nat) (Option.some Jvm.ClassFile.FieldType.int)) ∈ zG := zG_mem 1172 rfl rfl
theorem zw_1173 : (Jvm.Cond.methodLink "ShipLanternsModel" (145 : Nat) ({ cls := "ShipLanternsModel", name := "isLantern", desc := "(I)Z" } : Jvm.MethodName)) ∈ zG := zG_mem 1173 rfl rfl
theorem zw_1175 : (Jvm.Cond.instanceMethod ({ cls := "ShipLanternsModel", name := "isLantern", desc := "(I)Z" } : Jvm.MethodName)) ∈ zG := zG_mem 1175 rfl rfl
theorem zw_1176 : (Jvm.Cond.code ({ cls := "ShipLanternsModel", name := "isLantern", desc := "(I)Z" } : Jvm.MethodName) prog_10_method_45_code (2 : Nat) (Option.some Jvm.ClassFile.FieldType.boolean)) ∈ zG := zG_mem 1176 rfl rfl
theorem zw_1177 : (Jvm.Cond.methodLink "ShipLanternsLaw" (127 : Nat) ({ cls := "ShipLanternsModel", name := "fault", desc := "(III)I" } : Jvm.MethodName)) ∈ zG := zG_mem 1177 rfl rfl
theorem zw_1178 : (Jvm.Cond.instanceMethod ({ cls := "ShipLanternsModel", name := "fault", desc := "(III)I" } : Jvm.MethodName)) ∈ zG := zG_mem 1178 rfl rfl
theorem zw_1179 : (Jvm.Cond.selects "ShipLanternsModel" ({ cls := "ShipLanternsModel", name := "fault", desc := "(III)I" } : Jvm.MethodName) ({ cls := "ShipLanternsModel", name := "fault", desc := "(III)I" } : Jvm.MethodName)) ∈ zG := zG_mem 1179 rfl rfl
theorem zw_1180 : (Jvm.Cond.code ({ cls := "ShipLanternsModel", name := "fault", desc := "(III)I" } : Jvm.MethodName) prog_10_method_49_code (4 : Nat) (Option.some Jvm.ClassFile.FieldType.int)) ∈ zG := zG_mem 1180 rfl rfl
theorem zw_1181 : (Jvm.Cond.methodLink "ShipLanternsModel" (148 : Nat) ({ cls := "ShipLanternsModel", name := "whyNoFault", desc := "(III)I" } : Jvm.MethodName)) ∈ zG := zG_mem 1181 rfl rfl
theorem zw_1183 : (Jvm.Cond.instanceMethod ({ cls := "ShipLanternsModel", name := "whyNoFault", desc := "(III)I" } : Jvm.MethodName)) ∈ zG := zG_mem 1183 rfl rfl
theorem zw_1184 : (Jvm.Cond.code ({ cls := "ShipLanternsModel", name := "whyNoFault", desc := "(III)I" } : Jvm.MethodName) prog_10_method_47_code (4 : Nat) (Option.some Jvm.ClassFile.FieldType.int)) ∈ zG := zG_mem 1184 rfl rfl
theorem zw_1185 : (Jvm.Cond.methodLink "ShipLanternsModel" (151 : Nat) ({ cls := "ShipLanternsModel", name := "bringFault", desc := "(III)V" } : Jvm.MethodName)) ∈ zG := zG_mem 1185 rfl rfl
theorem zw_1187 : (Jvm.Cond.instanceMethod ({ cls := "ShipLanternsModel", name := "bringFault", desc := "(III)V" } : Jvm.MethodName)) ∈ zG := zG_mem 1187 rfl rfl
theorem zw_1188 : (Jvm.Cond.code ({ cls := "ShipLanternsModel", name := "bringFault", desc := "(III)V" } : Jvm.MethodName) prog_10_method_48_code (5 : Nat) (Option.none : Option Jvm.ClassFile.FieldType)) ∈ zG := zG_mem 1188 rfl rfl
theorem zw_1189 : (Jvm.Cond.methodLink "ShipLanternsLaw" (130 : Nat) ({ cls := "ShipLanternsModel", name := "mend", desc := "(I)I" } : Jvm.MethodName)) ∈ zG := zG_mem 1189 rfl rfl
theorem zw_1190 : (Jvm.Cond.instanceMethod ({ cls := "ShipLanternsModel", name := "mend", desc := "(I)I" } : Jvm.MethodName)) ∈ zG := zG_mem 1190 rfl rfl
theorem zw_1191 : (Jvm.Cond.selects "ShipLanternsModel" ({ cls := "ShipLanternsModel", name := "mend", desc := "(I)I" } : Jvm.MethodName) ({ cls := "ShipLanternsModel", name := "mend", desc := "(I)I" } : Jvm.MethodName)) ∈ zG := zG_mem 1191 rfl rfl
theorem zw_1192 : (Jvm.Cond.code ({ cls := "ShipLanternsModel", name := "mend", desc := "(I)I" } : Jvm.MethodName) prog_10_method_51_code (4 : Nat) (Option.some Jvm.ClassFile.FieldType.int)) ∈ zG := zG_mem 1192 rfl rfl
theorem zw_1193 : (Jvm.Cond.methodLink "ShipLanternsModel" (155 : Nat) ({ cls := "ShipLanternsModel", name := "isFault", desc := "(I)Z" } : Jvm.MethodName)) ∈ zG := zG_mem 1193 rfl rfl
theorem zw_1195 : (Jvm.Cond.instanceMethod ({ cls := "ShipLanternsModel", name := "isFault", desc := "(I)Z" } : Jvm.MethodName)) ∈ zG := zG_mem 1195 rfl rfl
theorem zw_1196 : (Jvm.Cond.code ({ cls := "ShipLanternsModel", name := "isFault", desc := "(I)Z" } : Jvm.MethodName) prog_10_method_50_code (2 : Nat) (Option.some Jvm.ClassFile.FieldType.boolean)) ∈ zG := zG_mem 1196 rfl rfl
theorem zw_1197 : (Jvm.Cond.methodLink "ShipLanternsLaw" (133 : Nat) ({ cls := "ShipLanternsModel", name := "burn", desc := "(I)I" } : Jvm.MethodName)) ∈ zG := zG_mem 1197 rfl rfl
theorem zw_1198 : (Jvm.Cond.instanceMethod ({ cls := "ShipLanternsModel", name := "burn", desc := "(I)I" } : Jvm.MethodName)) ∈ zG := zG_mem 1198 rfl rfl
theorem zw_1199 : (Jvm.Cond.selects "ShipLanternsModel" ({ cls := "ShipLanternsModel", name := "burn", desc := "(I)I" } : Jvm.MethodName) ({ cls := "ShipLanternsModel", name := "burn", desc := "(I)I" } : Jvm.MethodName)) ∈ zG := zG_mem 1199 rfl rfl
theorem zw_1200 : (Jvm.Cond.code ({ cls := "ShipLanternsModel", name := "burn", desc := "(I)I" } : Jvm.MethodName) prog_10_method_52_code (3 : Nat) (Option.some Jvm.ClassFile.FieldType.int)) ∈ zG := zG_mem 1200 rfl rfl
theorem zw_1201 : (Jvm.Cond.constant "ShipLanternsModel" (158 : Nat) (100000 : Int32)) ∈ zG := zG_mem 1201 rfl rfl
theorem zw_1202 : (Jvm.Cond.methodLink "ShipLanternsModel" (159 : Nat) ({ cls := "ShipLanternsModel", name := "drawn", desc := "()I" } : Jvm.MethodName)) ∈ zG := zG_mem 1202 rfl rfl
theorem zw_1204 : (Jvm.Cond.instanceMethod ({ cls := "ShipLanternsModel", name := "drawn", desc := "()I" } : Jvm.MethodName)) ∈ zG := zG_mem 1204 rfl rfl
theorem zw_1205 : (Jvm.Cond.code ({ cls := "ShipLanternsModel", name := "drawn", desc := "()I" } : Jvm.MethodName) prog_10_method_20_code (3 : Nat) (Option.some Jvm.ClassFile.FieldType.int)) ∈ zG := zG_mem 1205 rfl rfl
theorem zw_1206 : (Jvm.Cond.methodLink "ShipLanternsLaw" (136 : Nat) ({ cls := "ShipLanternsModel", name := "append", desc := "(I)I" } : Jvm.MethodName)) ∈ zG := zG_mem 1206 rfl rfl
theorem zw_1207 : (Jvm.Cond.instanceMethod ({ cls := "ShipLanternsModel", name := "append", desc := "(I)I" } : Jvm.MethodName)) ∈ zG := zG_mem 1207 rfl rfl
theorem zw_1208 : (Jvm.Cond.selects "ShipLanternsModel" ({ cls := "ShipLanternsModel", name := "append", desc := "(I)I" } : Jvm.MethodName) ({ cls := "ShipLanternsModel", name := "append", desc := "(I)I" } : Jvm.MethodName)) ∈ zG := zG_mem 1208 rfl rfl
theorem zw_1209 : (Jvm.Cond.code ({ cls := "ShipLanternsModel", name := "append", desc := "(I)I" } : Jvm.MethodName) prog_10_method_53_code (2 : Nat) (Option.some Jvm.ClassFile.FieldType.int)) ∈ zG := zG_mem 1209 rfl rfl
theorem zw_1210 : (Jvm.Cond.methodLink "ShipLanternsLaw" (140 : Nat) ({ cls := "ShipLanternsModel", name := "clearBuffer", desc := "()I" } : Jvm.MethodName)) ∈ zG := zG_mem 1210 rfl rfl
theorem zw_1211 : (Jvm.Cond.instanceMethod ({ cls := "ShipLanternsModel", name := "clearBuffer", desc := "()I" } : Jvm.MethodName)) ∈ zG := zG_mem 1211 rfl rfl
theorem zw_1212 : (Jvm.Cond.selects "ShipLanternsModel" ({ cls := "ShipLanternsModel", name := "clearBuffer", desc := "()I" } : Jvm.MethodName) ({ cls := "ShipLanternsModel", name := "clearBuffer", desc := "()I" } : Jvm.MethodName)) ∈ zG := zG_mem 1212 rfl rfl
theorem zw_1213 : (Jvm.Cond.code ({ cls := "ShipLanternsModel", name := "clearBuffer", desc := "()I" } : Jvm.MethodName) prog_10_method_54_code (2 : Nat) (Option.some Jvm.ClassFile.FieldType.int)) ∈ zG := zG_mem 1213 rfl rfl
theorem zw_1214 : (Jvm.Cond.methodLink "ShipLanternsLaw" (144 : Nat) ({ cls := "ShipLanternsModel", name := "firstError", desc := "()I" } : Jvm.MethodName)) ∈ zG := zG_mem 1214 rfl rfl
theorem zw_1215 : (Jvm.Cond.instanceMethod ({ cls := "ShipLanternsModel", name := "firstError", desc := "()I" } : Jvm.MethodName)) ∈ zG := zG_mem 1215 rfl rfl
theorem zw_1216 : (Jvm.Cond.selects "ShipLanternsModel" ({ cls := "ShipLanternsModel", name := "firstError", desc := "()I" } : Jvm.MethodName) ({ cls := "ShipLanternsModel", name := "firstError", desc := "()I" } : Jvm.MethodName)) ∈ zG := zG_mem 1216 rfl rfl
theorem zw_1217 : (Jvm.Cond.code ({ cls := "ShipLanternsModel", name := "firstError", desc := "()I" } : Jvm.MethodName) prog_10_method_63_code (1 : Nat) (Option.some Jvm.ClassFile.FieldType.int)) ∈ zG := zG_mem 1217 rfl rfl
theorem zw_1218 : (Jvm.Cond.methodLink "ShipLanternsModel" (199 : Nat) ({ cls := "ShipLanternsModel", name := "readText", desc := "()I" } : Jvm.MethodName)) ∈ zG := zG_mem 1218 rfl rfl
theorem zw_1220 : (Jvm.Cond.instanceMethod ({ cls := "ShipLanternsModel", name := "readText", desc := "()I" } : Jvm.MethodName)) ∈ zG := zG_mem 1220 rfl rfl
theorem zw_1221 : (Jvm.Cond.code ({ cls := "ShipLanternsModel", name := "readText", desc := "()I" } : Jvm.MethodName) prog_10_method_62_code (2 : Nat) (Option.some Jvm.ClassFile.FieldType.int)) ∈ zG := zG_mem 1221 rfl rfl
theorem zw_1222 : (Jvm.Cond.methodLink "ShipLanternsModel" (196 : Nat) ({ cls := "ShipLanternsModel", name := "takes", desc := "(I)Z" } : Jvm.MethodName)) ∈ zG := zG_mem 1222 rfl rfl
theorem zw_1224 : (Jvm.Cond.instanceMethod ({ cls := "ShipLanternsModel", name := "takes", desc := "(I)Z" } : Jvm.MethodName)) ∈ zG := zG_mem 1224 rfl rfl
theorem zw_1225 : (Jvm.Cond.code ({ cls := "ShipLanternsModel", name := "takes", desc := "(I)Z" } : Jvm.MethodName) prog_10_method_61_code (3 : Nat) (Option.some Jvm.ClassFile.FieldType.boolean)) ∈ zG := zG_mem 1225 rfl rfl
theorem zw_1226 : (Jvm.Cond.methodLink "ShipLanternsModel" (183 : Nat) ({ cls := "ShipLanternsModel", name := "takesDigit", desc := "(I)Z" } : Jvm.MethodName)) ∈ zG := zG_mem 1226 rfl rfl
theorem zw_1228 : (Jvm.Cond.instanceMethod ({ cls := "ShipLanternsModel", name := "takesDigit", desc := "(I)Z" } : Jvm.MethodName)) ∈ zG := zG_mem 1228 rfl rfl
theorem zw_1229 : (Jvm.Cond.code ({ cls := "ShipLanternsModel", name := "takesDigit", desc := "(I)Z" } : Jvm.MethodName) prog_10_method_57_code (5 : Nat) (Option.some Jvm.ClassFile.FieldType.boolean)) ∈ zG := zG_mem 1229 rfl rfl
theorem zw_1230 : (Jvm.Cond.methodLink "ShipLanternsModel" (177 : Nat) ({ cls := "ShipLanternsModel", name := "least", desc := "()I" } : Jvm.MethodName)) ∈ zG := zG_mem 1230 rfl rfl
theorem zw_1232 : (Jvm.Cond.instanceMethod ({ cls := "ShipLanternsModel", name := "least", desc := "()I" } : Jvm.MethodName)) ∈ zG := zG_mem 1232 rfl rfl
theorem zw_1233 : (Jvm.Cond.code ({ cls := "ShipLanternsModel", name := "least", desc := "()I" } : Jvm.MethodName) prog_10_method_55_code (1 : Nat) (Option.some Jvm.ClassFile.FieldType.int)) ∈ zG := zG_mem 1233 rfl rfl
theorem zw_1234 : (Jvm.Cond.methodLink "ShipLanternsModel" (180 : Nat) ({ cls := "ShipLanternsModel", name := "greatest", desc := "()I" } : Jvm.MethodName)) ∈ zG := zG_mem 1234 rfl rfl
theorem zw_1236 : (Jvm.Cond.instanceMethod ({ cls := "ShipLanternsModel", name := "greatest", desc := "()I" } : Jvm.MethodName)) ∈ zG := zG_mem 1236 rfl rfl
theorem zw_1237 : (Jvm.Cond.code ({ cls := "ShipLanternsModel", name := "greatest", desc := "()I" } : Jvm.MethodName) prog_10_method_56_code (1 : Nat) (Option.some Jvm.ClassFile.FieldType.int)) ∈ zG := zG_mem 1237 rfl rfl
theorem zw_1238 : (Jvm.Cond.methodLink "ShipLanternsModel" (186 : Nat) ({ cls := "ShipLanternsModel", name := "isSign", desc := "(I)Z" } : Jvm.MethodName)) ∈ zG := zG_mem 1238 rfl rfl
theorem zw_1240 : (Jvm.Cond.instanceMethod ({ cls := "ShipLanternsModel", name := "isSign", desc := "(I)Z" } : Jvm.MethodName)) ∈ zG := zG_mem 1240 rfl rfl
theorem zw_1241 : (Jvm.Cond.code ({ cls := "ShipLanternsModel", name := "isSign", desc := "(I)Z" } : Jvm.MethodName) prog_10_method_58_code (2 : Nat) (Option.some Jvm.ClassFile.FieldType.boolean)) ∈ zG := zG_mem 1241 rfl rfl
theorem zw_1242 : (Jvm.Cond.methodLink "ShipLanternsModel" (189 : Nat) ({ cls := "ShipLanternsModel", name := "isPartOver", desc := "()Z" } : Jvm.MethodName)) ∈ zG := zG_mem 1242 rfl rfl
theorem zw_1244 : (Jvm.Cond.instanceMethod ({ cls := "ShipLanternsModel", name := "isPartOver", desc := "()Z" } : Jvm.MethodName)) ∈ zG := zG_mem 1244 rfl rfl
theorem zw_1245 : (Jvm.Cond.code ({ cls := "ShipLanternsModel", name := "isPartOver", desc := "()Z" } : Jvm.MethodName) prog_10_method_59_code (1 : Nat) (Option.some Jvm.ClassFile.FieldType.boolean)) ∈ zG := zG_mem 1245 rfl rfl
theorem zw_1246 : (Jvm.Cond.methodLink "ShipLanternsModel" (193 : Nat) ({ cls := "ShipLanternsModel", name := "endPart", desc := "()V" } : Jvm.MethodName)) ∈ zG := zG_mem 1246 rfl rfl
theorem zw_1248 : (Jvm.Cond.instanceMethod ({ cls := "ShipLanternsModel", name := "endPart", desc := "()V" } : Jvm.MethodName)) ∈ zG := zG_mem 1248 rfl rfl
theorem zw_1249 : (Jvm.Cond.code ({ cls := "ShipLanternsModel", name := "endPart", desc := "()V" } : Jvm.MethodName) prog_10_method_60_code (1 : Nat) (Option.none : Option Jvm.ClassFile.FieldType)) ∈ zG := zG_mem 1249 rfl rfl
theorem zw_1250 : (Jvm.Cond.methodLink "ShipLanternsLaw" (148 : Nat) ({ cls := "ShipLanternsModel", name := "load", desc := "()I" } : Jvm.MethodName)) ∈ zG := zG_mem 1250 rfl rfl
theorem zw_1251 : (Jvm.Cond.instanceMethod ({ cls := "ShipLanternsModel", name := "load", desc := "()I" } : Jvm.MethodName)) ∈ zG := zG_mem 1251 rfl rfl
theorem zw_1252 : (Jvm.Cond.selects "ShipLanternsModel" ({ cls := "ShipLanternsModel", name := "load", desc := "()I" } : Jvm.MethodName) ({ cls := "ShipLanternsModel", name := "load", desc := "()I" } : Jvm.MethodName)) ∈ zG := zG_mem 1252 rfl rfl
theorem zw_1253 : (Jvm.Cond.code ({ cls := "ShipLanternsModel", name := "load", desc := "()I" } : Jvm.MethodName) prog_10_method_66_code (3 : Nat) (Option.some Jvm.ClassFile.FieldType.int)) ∈ zG := zG_mem 1253 rfl rfl
theorem zw_1254 : (Jvm.Cond.methodLink "ShipLanternsModel" (202 : Nat) ({ cls := "ShipLanternsModel", name := "whyNoPart", desc := "(I)I" } : Jvm.MethodName)) ∈ zG := zG_mem 1254 rfl rfl
theorem zw_1256 : (Jvm.Cond.instanceMethod ({ cls := "ShipLanternsModel", name := "whyNoPart", desc := "(I)I" } : Jvm.MethodName)) ∈ zG := zG_mem 1256 rfl rfl
theorem zw_1257 : (Jvm.Cond.code ({ cls := "ShipLanternsModel", name := "whyNoPart", desc := "(I)I" } : Jvm.MethodName) prog_10_method_64_code (3 : Nat) (Option.some Jvm.ClassFile.FieldType.int)) ∈ zG := zG_mem 1257 rfl rfl
theorem zw_1258 : (Jvm.Cond.methodLink "ShipLanternsModel" (205 : Nat) ({ cls := "ShipLanternsModel", name := "bringPart", desc := "(I)V" } : Jvm.MethodName)) ∈ zG := zG_mem 1258 rfl rfl
theorem zw_1260 : (Jvm.Cond.instanceMethod ({ cls := "ShipLanternsModel", name := "bringPart", desc := "(I)V" } : Jvm.MethodName)) ∈ zG := zG_mem 1260 rfl rfl
theorem zw_1261 : (Jvm.Cond.code ({ cls := "ShipLanternsModel", name := "bringPart", desc := "(I)V" } : Jvm.MethodName) prog_10_method_65_code (3 : Nat) (Option.none : Option Jvm.ClassFile.FieldType)) ∈ zG := zG_mem 1261 rfl rfl
theorem zw_1262 : (Jvm.Cond.methodLink "ShipLanternsLaw" (155 : Nat) ({ cls := "ShipLanternsModel", name := "box", desc := "(II)I" } : Jvm.MethodName)) ∈ zG := zG_mem 1262 rfl rfl
theorem zw_1263 : (Jvm.Cond.instanceMethod ({ cls := "ShipLanternsModel", name := "box", desc := "(II)I" } : Jvm.MethodName)) ∈ zG := zG_mem 1263 rfl rfl
theorem zw_1264 : (Jvm.Cond.selects "ShipLanternsModel" ({ cls := "ShipLanternsModel", name := "box", desc := "(II)I" } : Jvm.MethodName) ({ cls := "ShipLanternsModel", name := "box", desc := "(II)I" } : Jvm.MethodName)) ∈ zG := zG_mem 1264 rfl rfl
theorem zw_1265 : (Jvm.Cond.code ({ cls := "ShipLanternsModel", name := "box", desc := "(II)I" } : Jvm.MethodName) prog_10_method_70_code (3 : Nat) (Option.some Jvm.ClassFile.FieldType.int)) ∈ zG := zG_mem 1265 rfl rfl
theorem zw_1266 : (Jvm.Cond.methodLink "ShipLanternsModel" (216 : Nat) ({ cls := "ShipLanternsModel", name := "boxNow", desc := "(II)I" } : Jvm.MethodName)) ∈ zG := zG_mem 1266 rfl rfl
theorem zw_1268 : (Jvm.Cond.instanceMethod ({ cls := "ShipLanternsModel", name := "boxNow", desc := "(II)I" } : Jvm.MethodName)) ∈ zG := zG_mem 1268 rfl rfl
theorem zw_1269 : (Jvm.Cond.code ({ cls := "ShipLanternsModel", name := "boxNow", desc := "(II)I" } : Jvm.MethodName) prog_10_method_69_code (3 : Nat) (Option.some Jvm.ClassFile.FieldType.int)) ∈ zG := zG_mem 1269 rfl rfl
theorem zw_1270 : (Jvm.Cond.methodLink "ShipLanternsModel" (209 : Nat) ({ cls := "ShipLanternsModel", name := "behind", desc := "(I)I" } : Jvm.MethodName)) ∈ zG := zG_mem 1270 rfl rfl
theorem zw_1272 : (Jvm.Cond.instanceMethod ({ cls := "ShipLanternsModel", name := "behind", desc := "(I)I" } : Jvm.MethodName)) ∈ zG := zG_mem 1272 rfl rfl
theorem zw_1273 : (Jvm.Cond.code ({ cls := "ShipLanternsModel", name := "behind", desc := "(I)I" } : Jvm.MethodName) prog_10_method_67_code (4 : Nat) (Option.some Jvm.ClassFile.FieldType.int)) ∈ zG := zG_mem 1273 rfl rfl
theorem zw_1274 : (Jvm.Cond.methodLink "ShipLanternsModel" (212 : Nat) ({ cls := "ShipLanternsModel", name := "lanternsAt", desc := "(IZ)I" } : Jvm.MethodName)) ∈ zG := zG_mem 1274 rfl rfl
theorem zw_1276 : (Jvm.Cond.instanceMethod ({ cls := "ShipLanternsModel", name := "lanternsAt", desc := "(IZ)I" } : Jvm.MethodName)) ∈ zG := zG_mem 1276 rfl rfl
theorem zw_1277 : (Jvm.Cond.code ({ cls := "ShipLanternsModel", name := "lanternsAt", desc := "(IZ)I" } : Jvm.MethodName) prog_10_method_68_code (6 : Nat) (Option.some Jvm.ClassFile.FieldType.int)) ∈ zG := zG_mem 1277 rfl rfl
theorem zw_1278 : (Jvm.Cond.methodLink "ShipLanternsLaw" (158 : Nat) ({ cls := "ShipLanternsModel", name := "terminal", desc := "(III)I" } : Jvm.MethodName)) ∈ zG := zG_mem 1278 rfl rfl
theorem zw_1279 : (Jvm.Cond.instanceMethod ({ cls := "ShipLanternsModel", name := "terminal", desc := "(III)I" } : Jvm.MethodName)) ∈ zG := zG_mem 1279 rfl rfl
theorem zw_1280 : (Jvm.Cond.selects "ShipLanternsModel" ({ cls := "ShipLanternsModel", name := "terminal", desc := "(III)I" } : Jvm.MethodName) ({ cls := "ShipLanternsModel", name := "terminal", desc := "(III)I" } : Jvm.MethodName)) ∈ zG := zG_mem 1280 rfl rfl
theorem zw_1281 : (Jvm.Cond.code ({ cls := "ShipLanternsModel", name := "terminal", desc := "(III)I" } : Jvm.MethodName) prog_10_method_73_code (5 : Nat) (Option.some Jvm.ClassFile.FieldType.int)) ∈ zG := zG_mem 1281 rfl rfl
theorem zw_1282 : (Jvm.Cond.methodLink "ShipLanternsModel" (222 : Nat) ({ cls := "ShipLanternsModel", name := "terminalNow", desc := "(III)I" } : Jvm.MethodName)) ∈ zG := zG_mem 1282 rfl rfl
theorem zw_1284 : (Jvm.Cond.instanceMethod ({ cls := "ShipLanternsModel", name := "terminalNow", desc := "(III)I" } : Jvm.MethodName)) ∈ zG := zG_mem 1284 rfl rfl
theorem zw_1285 : (Jvm.Cond.code ({ cls := "ShipLanternsModel", name := "terminalNow", desc := "(III)I" } : Jvm.MethodName) prog_10_method_72_code (4 : Nat) (Option.some Jvm.ClassFile.FieldType.int)) ∈ zG := zG_mem 1285 rfl rfl
theorem zw_1286 : (Jvm.Cond.methodLink "ShipLanternsModel" (219 : Nat) ({ cls := "ShipLanternsModel", name := "faultsAt", desc := "(II)I" } : Jvm.MethodName)) ∈ zG := zG_mem 1286 rfl rfl
theorem zw_1288 : (Jvm.Cond.instanceMethod ({ cls := "ShipLanternsModel", name := "faultsAt", desc := "(II)I" } : Jvm.MethodName)) ∈ zG := zG_mem 1288 rfl rfl
theorem zw_1289 : (Jvm.Cond.code ({ cls := "ShipLanternsModel", name := "faultsAt", desc := "(II)I" } : Jvm.MethodName) prog_10_method_71_code (5 : Nat) (Option.some Jvm.ClassFile.FieldType.int)) ∈ zG := zG_mem 1289 rfl rfl
theorem zw_1290 : (Jvm.Cond.methodLink "ShipLanternsLaw" (161 : Nat) ({ cls := "ShipLanternsModel", name := "lantern", desc := "(II)I" } : Jvm.MethodName)) ∈ zG := zG_mem 1290 rfl rfl
theorem zw_1291 : (Jvm.Cond.instanceMethod ({ cls := "ShipLanternsModel", name := "lantern", desc := "(II)I" } : Jvm.MethodName)) ∈ zG := zG_mem 1291 rfl rfl
theorem zw_1292 : (Jvm.Cond.selects "ShipLanternsModel" ({ cls := "ShipLanternsModel", name := "lantern", desc := "(II)I" } : Jvm.MethodName) ({ cls := "ShipLanternsModel", name := "lantern", desc := "(II)I" } : Jvm.MethodName)) ∈ zG := zG_mem 1292 rfl rfl
theorem zw_1293 : (Jvm.Cond.code ({ cls := "ShipLanternsModel", name := "lantern", desc := "(II)I" } : Jvm.MethodName) prog_10_method_75_code (3 : Nat) (Option.some Jvm.ClassFile.FieldType.int)) ∈ zG := zG_mem 1293 rfl rfl
theorem zw_1294 : (Jvm.Cond.methodLink "ShipLanternsModel" (225 : Nat) ({ cls := "ShipLanternsModel", name := "lanternNow", desc := "(II)I" } : Jvm.MethodName)) ∈ zG := zG_mem 1294 rfl rfl
theorem zw_1296 : (Jvm.Cond.instanceMethod ({ cls := "ShipLanternsModel", name := "lanternNow", desc := "(II)I" } : Jvm.MethodName)) ∈ zG := zG_mem 1296 rfl rfl
theorem zw_1297 : (Jvm.Cond.code ({ cls := "ShipLanternsModel", name := "lanternNow", desc := "(II)I" } : Jvm.MethodName) prog_10_method_74_code (3 : Nat) (Option.some Jvm.ClassFile.FieldType.int)) ∈ zG := zG_mem 1297 rfl rfl
theorem zw_1298 : (Jvm.Cond.methodLink "ShipLanternsLaw" (164 : Nat) ({ cls := "ShipLanternsModel", name := "faultAt", desc := "(II)I" } : Jvm.MethodName)) ∈ zG := zG_mem 1298 rfl rfl
theorem zw_1299 : (Jvm.Cond.instanceMethod ({ cls := "ShipLanternsModel", name := "faultAt", desc := "(II)I" } : Jvm.MethodName)) ∈ zG := zG_mem 1299 rfl rfl
theorem zw_1300 : (Jvm.Cond.selects "ShipLanternsModel" ({ cls := "ShipLanternsModel", name := "faultAt", desc := "(II)I" } : Jvm.MethodName) ({ cls := "ShipLanternsModel", name := "faultAt", desc := "(II)I" } : Jvm.MethodName)) ∈ zG := zG_mem 1300 rfl rfl
theorem zw_1301 : (Jvm.Cond.code ({ cls := "ShipLanternsModel", name := "faultAt", desc := "(II)I" } : Jvm.MethodName) prog_10_method_77_code (3 : Nat) (Option.some Jvm.ClassFile.FieldType.int)) ∈ zG := zG_mem 1301 rfl rfl
theorem zw_1302 : (Jvm.Cond.methodLink "ShipLanternsModel" (228 : Nat) ({ cls := "ShipLanternsModel", name := "faultNow", desc := "(II)I" } : Jvm.MethodName)) ∈ zG := zG_mem 1302 rfl rfl
theorem zw_1304 : (Jvm.Cond.instanceMethod ({ cls := "ShipLanternsModel", name := "faultNow", desc := "(II)I" } : Jvm.MethodName)) ∈ zG := zG_mem 1304 rfl rfl
theorem zw_1305 : (Jvm.Cond.code ({ cls := "ShipLanternsModel", name := "faultNow", desc := "(II)I" } : Jvm.MethodName) prog_10_method_76_code (3 : Nat) (Option.some Jvm.ClassFile.FieldType.int)) ∈ zG := zG_mem 1305 rfl rfl
theorem zw_1306 : (Jvm.Cond.methodLink "ShipLanternsLaw" (167 : Nat) ({ cls := "ShipLanternsModel", name := "count", desc := "(I)I" } : Jvm.MethodName)) ∈ zG := zG_mem 1306 rfl rfl
theorem zw_1307 : (Jvm.Cond.instanceMethod ({ cls := "ShipLanternsModel", name := "count", desc := "(I)I" } : Jvm.MethodName)) ∈ zG := zG_mem 1307 rfl rfl
theorem zw_1308 : (Jvm.Cond.selects "ShipLanternsModel" ({ cls := "ShipLanternsModel", name := "count", desc := "(I)I" } : Jvm.MethodName) ({ cls := "ShipLanternsModel", name := "count", desc := "(I)I" } : Jvm.MethodName)) ∈ zG := zG_mem 1308 rfl rfl
theorem zw_1309 : (Jvm.Cond.code ({ cls := "ShipLanternsModel", name := "count", desc := "(I)I" } : Jvm.MethodName) prog_10_method_80_code (2 : Nat) (Option.some Jvm.ClassFile.FieldType.int)) ∈ zG := zG_mem 1309 rfl rfl
theorem zw_1310 : (Jvm.Cond.methodLink "ShipLanternsModel" (234 : Nat) ({ cls := "ShipLanternsModel", name := "counted", desc := "(I)I" } : Jvm.MethodName)) ∈ zG := zG_mem 1310 rfl rfl
theorem zw_1312 : (Jvm.Cond.instanceMethod ({ cls := "ShipLanternsModel", name := "counted", desc := "(I)I" } : Jvm.MethodName)) ∈ zG := zG_mem 1312 rfl rfl
theorem zw_1313 : (Jvm.Cond.code ({ cls := "ShipLanternsModel", name := "counted", desc := "(I)I" } : Jvm.MethodName) prog_10_method_79_code (2 : Nat) (Option.some Jvm.ClassFile.FieldType.int)) ∈ zG := zG_mem 1313 rfl rfl
theorem zw_1314 : (Jvm.Cond.methodLink "ShipLanternsModel" (231 : Nat) ({ cls := "ShipLanternsModel", name := "blownNow", desc := "()I" } : Jvm.MethodName)) ∈ zG := zG_mem 1314 rfl rfl
theorem zw_1316 : (Jvm.Cond.instanceMethod ({ cls := "ShipLanternsModel", name := "blownNow", desc := "()I" } : Jvm.MethodName)) ∈ zG := zG_mem 1316 rfl rfl
theorem zw_1317 : (Jvm.Cond.code ({ cls := "ShipLanternsModel", name := "blownNow", desc := "()I" } : Jvm.MethodName) prog_10_method_78_code (3 : Nat) (Option.some Jvm.ClassFile.FieldType.int)) ∈ zG := zG_mem 1317 rfl rfl
theorem zw_1318 : (Jvm.Cond.methodLink "ShipLanternsLaw" (170 : Nat) ({ cls := "ShipLanternsModel", name := "lamp", desc := "(I)I" } : Jvm.MethodName)) ∈ zG := zG_mem 1318 rfl rfl
theorem zw_1319 : (Jvm.Cond.instanceMethod ({ cls := "ShipLanternsModel", name := "lamp", desc := "(I)I" } : Jvm.MethodName)) ∈ zG := zG_mem 1319 rfl rfl
theorem zw_1320 : (Jvm.Cond.selects "ShipLanternsModel" ({ cls := "ShipLanternsModel", name := "lamp", desc := "(I)I" } : Jvm.MethodName) ({ cls := "ShipLanternsModel", name := "lamp", desc := "(I)I" } : Jvm.MethodName)) ∈ zG := zG_mem 1320 rfl rfl
theorem zw_1321 : (Jvm.Cond.code ({ cls := "ShipLanternsModel", name := "lamp", desc := "(I)I" } : Jvm.MethodName) prog_10_method_81_code (2 : Nat) (Option.some Jvm.ClassFile.FieldType.int)) ∈ zG := zG_mem 1321 rfl rfl
theorem zw_1322 : (Jvm.Cond.methodLink "ShipLanternsLaw" (173 : Nat) ({ cls := "ShipLanternsModel", name := "locate", desc := "(I)I" } : Jvm.MethodName)) ∈ zG := zG_mem 1322 rfl rfl
theorem zw_1323 : (Jvm.Cond.instanceMethod ({ cls := "ShipLanternsModel", name := "locate", desc := "(I)I" } : Jvm.MethodName)) ∈ zG := zG_mem 1323 rfl rfl
theorem zw_1324 : (Jvm.Cond.selects "ShipLanternsModel" ({ cls := "ShipLanternsModel", name := "locate", desc := "(I)I" } : Jvm.MethodName) ({ cls := "ShipLanternsModel", name := "locate", desc := "(I)I" } : Jvm.MethodName)) ∈ zG := zG_mem 1324 rfl rfl
theorem zw_1325 : (Jvm.Cond.code ({ cls := "ShipLanternsModel", name := "locate", desc := "(I)I" } : Jvm.MethodName) prog_10_method_83_code (2 : Nat) (Option.some Jvm.ClassFile.FieldType.int)) ∈ zG := zG_mem 1325 rfl rfl
theorem zw_1326 : (Jvm.Cond.methodLink "ShipLanternsModel" (237 : Nat) ({ cls := "ShipLanternsModel", name := "located", desc := "(I)I" } : Jvm.MethodName)) ∈ zG := zG_mem 1326 rfl rfl
theorem zw_1328 : (Jvm.Cond.instanceMethod ({ cls := "ShipLanternsModel", name := "located", desc := "(I)I" } : Jvm.MethodName)) ∈ zG := zG_mem 1328 rfl rfl
theorem zw_1329 : (Jvm.Cond.code ({ cls := "ShipLanternsModel", name := "located", desc := "(I)I" } : Jvm.MethodName) prog_10_method_82_code (5 : Nat) (Option.some Jvm.ClassFile.FieldType.int)) ∈ zG := zG_mem 1329 rfl rfl
theorem zw_1330 : (Jvm.Cond.methodLink "ShipLanternsLaw" (177 : Nat) ({ cls := "ShipLanternsModel", name := "ifFault", desc := "(IIII)I" } : Jvm.MethodName)) ∈ zG := zG_mem 1330 rfl rfl
theorem zw_1331 : (Jvm.Cond.instanceMethod ({ cls := "ShipLanternsModel", name := "ifFault", desc := "(IIII)I" } : Jvm.MethodName)) ∈ zG := zG_mem 1331 rfl rfl
theorem zw_1332 : (Jvm.Cond.selects "ShipLanternsModel" ({ cls := "ShipLanternsModel", name := "ifFault", desc := "(IIII)I" } : Jvm.MethodName) ({ cls := "ShipLanternsModel", name := "ifFault", desc := "(IIII)I" } : Jvm.MethodName)) ∈ zG := zG_mem 1332 rfl rfl
theorem zw_1333 : (Jvm.Cond.code ({ cls := "ShipLanternsModel", name := "ifFault", desc := "(IIII)I" } : Jvm.MethodName) prog_10_method_85_code (7 : Nat) (Option.some Jvm.ClassFile.FieldType.int)) ∈ zG := zG_mem 1333 rfl rfl
theorem zw_1334 : (Jvm.Cond.methodLink "ShipLanternsModel" (240 : Nat) ({ cls := "ShipLanternsModel", name := "keepAside", desc := "()V" } : Jvm.MethodName)) ∈ zG := zG_mem 1334 rfl rfl
theorem zw_1336 : (Jvm.Cond.instanceMethod ({ cls := "ShipLanternsModel", name := "keepAside", desc := "()V" } : Jvm.MethodName)) ∈ zG := zG_mem 1336 rfl rfl
theorem zw_1337 : (Jvm.Cond.code ({ cls := "ShipLanternsModel", name := "keepAside", desc := "()V" } : Jvm.MethodName) prog_10_method_31_code (2 : Nat) (Option.none : Option Jvm.ClassFile.FieldType)) ∈ zG := zG_mem 1337 rfl rfl
theorem zw_1338 : (Jvm.Cond.methodLink "ShipLanternsModel" (243 : Nat) ({ cls := "ShipLanternsModel", name := "faultAnswer", desc := "(I)I" } : Jvm.MethodName)) ∈ zG := zG_mem 1338 rfl rfl
theorem zw_1340 : (Jvm.Cond.instanceMethod ({ cls := "ShipLanternsModel", name := "faultAnswer", desc := "(I)I" } : Jvm.MethodName)) ∈ zG := zG_mem 1340 rfl rfl
theorem zw_1341 : (Jvm.Cond.code ({ cls := "ShipLanternsModel", name := "faultAnswer", desc := "(I)I" } : Jvm.MethodName) prog_10_method_84_code (2 : Nat) (Option.some Jvm.ClassFile.FieldType.int)) ∈ zG := zG_mem 1341 rfl rfl
theorem zw_1342 : (Jvm.Cond.methodLink "ShipLanternsModel" (246 : Nat) ({ cls := "ShipLanternsModel", name := "takeBack", desc := "()V" } : Jvm.MethodName)) ∈ zG := zG_mem 1342 rfl rfl
theorem zw_1344 : (Jvm.Cond.instanceMethod ({ cls := "ShipLanternsModel", name := "takeBack", desc := "()V" } : Jvm.MethodName)) ∈ zG := zG_mem 1344 rfl rfl
theorem zw_1345 : (Jvm.Cond.code ({ cls := "ShipLanternsModel", name := "takeBack", desc := "()V" } : Jvm.MethodName) prog_10_method_32_code (2 : Nat) (Option.none : Option Jvm.ClassFile.FieldType)) ∈ zG := zG_mem 1345 rfl rfl
theorem zw_1346 : (Jvm.Cond.methodLink "ShipLanternsLaw" (180 : Nat) ({ cls := "ShipLanternsModel", name := "ifToggled", desc := "(I)I" } : Jvm.MethodName)) ∈ zG := zG_mem 1346 rfl rfl
theorem zw_1347 : (Jvm.Cond.instanceMethod ({ cls := "ShipLanternsModel", name := "ifToggled", desc := "(I)I" } : Jvm.MethodName)) ∈ zG := zG_mem 1347 rfl rfl
theorem zw_1348 : (Jvm.Cond.selects "ShipLanternsModel" ({ cls := "ShipLanternsModel", name := "ifToggled", desc := "(I)I" } : Jvm.MethodName) ({ cls := "ShipLanternsModel", name := "ifToggled", desc := "(I)I" } : Jvm.MethodName)) ∈ zG := zG_mem 1348 rfl rfl
theorem zw_1349 : (Jvm.Cond.code ({ cls := "ShipLanternsModel", name := "ifToggled", desc := "(I)I" } : Jvm.MethodName) prog_10_method_87_code (2 : Nat) (Option.some Jvm.ClassFile.FieldType.int)) ∈ zG := zG_mem 1349 rfl rfl
theorem zw_1350 : (Jvm.Cond.methodLink "ShipLanternsModel" (249 : Nat) ({ cls := "ShipLanternsModel", name := "toggledAnswer", desc := "(I)I" } : Jvm.MethodName)) ∈ zG := zG_mem 1350 rfl rfl
theorem zw_1352 : (Jvm.Cond.instanceMethod ({ cls := "ShipLanternsModel", name := "toggledAnswer", desc := "(I)I" } : Jvm.MethodName)) ∈ zG := zG_mem 1352 rfl rfl
theorem zw_1353 : (Jvm.Cond.code ({ cls := "ShipLanternsModel", name := "toggledAnswer", desc := "(I)I" } : Jvm.MethodName) prog_10_method_86_code (3 : Nat) (Option.some Jvm.ClassFile.FieldType.int)) ∈ zG := zG_mem 1353 rfl rfl
theorem zw_1354 : (Jvm.Cond.methodLink "ShipLanternsLaw" (183 : Nat) ({ cls := "ShipLanternsModel", name := "neededRating", desc := "(II)I" } : Jvm.MethodName)) ∈ zG := zG_mem 1354 rfl rfl
theorem zw_1355 : (Jvm.Cond.instanceMethod ({ cls := "ShipLanternsModel", name := "neededRating", desc := "(II)I" } : Jvm.MethodName)) ∈ zG := zG_mem 1355 rfl rfl
theorem zw_1356 : (Jvm.Cond.selects "ShipLanternsModel" ({ cls := "ShipLanternsModel", name := "neededRating", desc := "(II)I" } : Jvm.MethodName) ({ cls := "ShipLanternsModel", name := "neededRating", desc := "(II)I" } : Jvm.MethodName)) ∈ zG := zG_mem 1356 rfl rfl
theorem zw_1357 : (Jvm.Cond.code ({ cls := "ShipLanternsModel", name := "neededRating", desc := "(II)I" } : Jvm.MethodName) prog_10_method_89_code (3 : Nat) (Option.some Jvm.ClassFile.FieldType.int)) ∈ zG := zG_mem 1357 rfl rfl
theorem zw_1358 : (Jvm.Cond.methodLink "ShipLanternsModel" (252 : Nat) ({ cls := "ShipLanternsModel", name := "ratingAnswer", desc := "(II)I" } : Jvm.MethodName)) ∈ zG := zG_mem 1358 rfl rfl
theorem zw_1360 : (Jvm.Cond.instanceMethod ({ cls := "ShipLanternsModel", name := "ratingAnswer", desc := "(II)I" } : Jvm.MethodName)) ∈ zG := zG_mem 1360 rfl rfl
theorem zw_1361 : (Jvm.Cond.code ({ cls := "ShipLanternsModel", name := "ratingAnswer", desc := "(II)I" } : Jvm.MethodName) prog_10_method_88_code (4 : Nat) (Option.some Jvm.ClassFile.FieldType.int)) ∈ zG := zG_mem 1361 rfl rfl
theorem zw_1362 : (Jvm.Cond.methodLink "ShipLanternsLaw" (188 : Nat) ({ cls := "ShipLanternsModel", name := "lossShare", desc := "()D" } : Jvm.MethodName)) ∈ zG := zG_mem 1362 rfl rfl
theorem zw_1363 : (Jvm.Cond.instanceMethod ({ cls := "ShipLanternsModel", name := "lossShare", desc := "()D" } : Jvm.MethodName)) ∈ zG := zG_mem 1363 rfl rfl
theorem zw_1364 : (Jvm.Cond.selects "ShipLanternsModel" ({ cls := "ShipLanternsModel", name := "lossShare", desc := "()D" } : Jvm.MethodName) ({ cls := "ShipLanternsModel", name := "lossShare", desc := "()D" } : Jvm.MethodName)) ∈ zG := zG_mem 1364 rfl rfl
theorem zw_1365 : (Jvm.Cond.code ({ cls := "ShipLanternsModel", name := "lossShare", desc := "()D" } : Jvm.MethodName) prog_10_method_91_code (1 : Nat) (Option.some Jvm.ClassFile.FieldType.double)) ∈ zG := zG_mem 1365 rfl rfl
theorem zw_1366 : (Jvm.Cond.methodLink "ShipLanternsModel" (255 : Nat) ({ cls := "ShipLanternsModel", name := "shareNow", desc := "()D" } : Jvm.MethodName)) ∈ zG := zG_mem 1366 rfl rfl
theorem zw_1368 : (Jvm.Cond.instanceMethod ({ cls := "ShipLanternsModel", name := "shareNow", desc := "()D" } : Jvm.MethodName)) ∈ zG := zG_mem 1368 rfl rfl
theorem zw_1369 : (Jvm.Cond.code ({ cls := "ShipLanternsModel", name := "shareNow", desc := "()D" } : Jvm.MethodName) prog_10_method_90_code (2 : Nat) (Option.some Jvm.ClassFile.FieldType.double)) ∈ zG := zG_mem 1369 rfl rfl
theorem zw_1370 : (Jvm.Cond.methodLink "ShipLanternsLaw" (193 : Nat) ({ cls := "ShipLanternsModel", name := "digest", desc := "()J" } : Jvm.MethodName)) ∈ zG := zG_mem 1370 rfl rfl
theorem zw_1371 : (Jvm.Cond.instanceMethod ({ cls := "ShipLanternsModel", name := "digest", desc := "()J" } : Jvm.MethodName)) ∈ zG := zG_mem 1371 rfl rfl
theorem zw_1372 : (Jvm.Cond.selects "ShipLanternsModel" ({ cls := "ShipLanternsModel", name := "digest", desc := "()J" } : Jvm.MethodName) ({ cls := "ShipLanternsModel", name := "digest", desc := "()J" } : Jvm.MethodName)) ∈ zG := zG_mem 1372 rfl rfl
theorem zw_1373 : (Jvm.Cond.code ({ cls := "ShipLanternsModel", name := "digest", desc := "()J" } : Jvm.MethodName) prog_10_method_94_code (2 : Nat) (Option.some Jvm.ClassFile.FieldType.long)) ∈ zG := zG_mem 1373 rfl rfl
theorem zw_1374 : (Jvm.Cond.constantLong "ShipLanternsModel" (269 : Nat) (2141 : Int64)) ∈ zG := zG_mem 1374 rfl rfl
theorem zw_1375 : (Jvm.Cond.methodLink "ShipLanternsModel" (265 : Nat) ({ cls := "ShipLanternsModel", name := "mix", desc := "(J)V" } : Jvm.MethodName)) ∈ zG := zG_mem 1375 rfl rfl
theorem zw_1377 : (Jvm.Cond.instanceMethod ({ cls := "ShipLanternsModel", name := "mix", desc := "(J)V" } : Jvm.MethodName)) ∈ zG := zG_mem 1377 rfl rfl
theorem zw_1378 : (Jvm.Cond.code ({ cls := "ShipLanternsModel", name := "mix", desc := "(J)V" } : Jvm.MethodName) prog_10_method_92_code (3 : Nat) (Option.none : Option Jvm.ClassFile.FieldType)) ∈ zG := zG_mem 1378 rfl rfl
theorem zw_1379 : (Jvm.Cond.constantLong "ShipLanternsModel" (259 : Nat) (31 : Int64)) ∈ zG := zG_mem 1379 rfl rfl
theorem zw_1380 : (Jvm.Cond.methodLink "ShipLanternsModel" (271 : Nat) ({ cls := "ShipLanternsModel", name := "mixBox", desc := "(I)V" } : Jvm.MethodName)) ∈ zG := zG_mem 1380 rfl rfl
theorem zw_1382 : (Jvm.Cond.instanceMethod ({ cls := "ShipLanternsModel", name := "mixBox", desc := "(I)V" } : Jvm.MethodName)) ∈ zG := zG_mem 1382 rfl rfl
theorem zw_1383 : (Jvm.Cond.code ({ cls := "ShipLanternsModel", name := "mixBox", desc := "(I)V" } : Jvm.MethodName) prog_10_method_93_code (3 : Nat) (Option.none : Option Jvm.ClassFile.FieldType)) ∈ zG := zG_mem 1383 rfl rfl
theorem zw_1384 : (Jvm.Cond.methodLink "ShipLanternsModel" (274 : Nat) ({ cls := "java/lang/Double", name := "doubleToLongBits", desc := "(D)J" } : Jvm.MethodName)) ∈ zG := zG_mem 1384 rfl rfl
theorem zw_1385 : (Jvm.Cond.static ({ cls := "java/lang/Double", name := "doubleToLongBits", desc := "(D)J" } : Jvm.MethodName)) ∈ zG := zG_mem 1385 rfl rfl
theorem zw_1386 : (Jvm.Cond.code ({ cls := "java/lang/Double", name := "doubleToLongBits", desc := "(D)J" } : Jvm.MethodName) prog_11_method_23_code (2 : Nat) (Option.some Jvm.ClassFile.FieldType.long)) ∈ zG := zG_mem 1386 rfl rfl
theorem zw_1387 : (Jvm.Cond.methodLink "java/lang/Double" (122 : Nat) ({ cls := "java/lang/Double", name := "isNaN", desc := "(D)Z" } : Jvm.MethodName)) ∈ zG := zG_mem 1387 rfl rfl
theorem zw_1388 : (Jvm.Cond.static ({ cls := "java/lang/Double", name := "isNaN", desc := "(D)Z" } : Jvm.MethodName)) ∈ zG := zG_mem 1388 rfl rfl
theorem zw_1389 : (Jvm.Cond.code ({ cls := "java/lang/Double", name := "isNaN", desc := "(D)Z" } : Jvm.MethodName) prog_11_method_6_code (2 : Nat) (Option.some Jvm.ClassFile.FieldType.boolean)) ∈ zG := zG_mem 1389 rfl rfl
theorem zw_1390 : (Jvm.Cond.methodLink "java/lang/Double" (134 : Nat) ({ cls := "java/lang/Double", name := "doubleToRawLongBits", desc := "(D)J" } : Jvm.MethodName)) ∈ zG := zG_mem 1390 rfl rfl
theorem zw_1391 : (Jvm.Cond.static ({ cls := "java/lang/Double", name := "doubleToRawLongBits", desc := "(D)J" } : Jvm.MethodName)) ∈ zG := zG_mem 1391 rfl rfl
theorem zw_1392 : (Jvm.Cond.native ({ cls := "java/lang/Double", name := "doubleToRawLongBits", desc := "(D)J" } : Jvm.MethodName)) ∈ zG := zG_mem 1392 rfl rfl
theorem zw_1393 : (Jvm.Cond.constantLong "java/lang/Double" (137 : Nat) (9221120237041090560 : Int64)) ∈ zG := zG_mem 1393 rfl rfl
theorem zw_1394 : (Jvm.Cond.arrayClass Jvm.ClassFile.FieldType.long) ∈ zG := zG_mem 1394 rfl rfl
theorem zin_X0 : ∀ w ∈ u_ws RX0 TX0 6, w ∈ zG := (List.forall_mem_cons.mpr ⟨zw_155, List.forall_mem_cons.mpr ⟨zw_157, List.forall_mem_cons.mpr ⟨zw_159, List.forall_mem_cons.mpr ⟨zw_161, List.forall_mem_cons.mpr ⟨zw_163, List.forall_mem_cons.mpr ⟨zw_165, fun _ h => nomatch h⟩⟩⟩⟩⟩⟩ : ∀ w ∈ [u_lay RX0 TX0 0, u_lay RX0 TX0 1, u_lay RX0 TX0 2, u_lay RX0 TX0 3, u_lay RX0 TX0 4, u_lay RX0 TX0 5], w ∈ zG)
theorem zin_X1 : ∀ w ∈ u_ws RX1 TX1 4, w ∈ zG := (List.forall_mem_cons.mpr ⟨zw_215, List.forall_mem_cons.mpr ⟨zw_217, List.forall_mem_cons.mpr ⟨zw_219, List.forall_mem_cons.mpr ⟨zw_221, fun _ h => nomatch h⟩⟩⟩⟩ : ∀ w ∈ [u_lay RX1 TX1 0, u_lay RX1 TX1 1, u_lay RX1 TX1 2, u_lay RX1 TX1 3], w ∈ zG)
theorem zin_X2 : ∀ w ∈ u_ws RX2 TX2 2, w ∈ zG := (List.forall_mem_cons.mpr ⟨zw_326, List.forall_mem_cons.mpr ⟨zw_328, fun _ h => nomatch h⟩⟩ : ∀ w ∈ [u_lay RX2 TX2 0, u_lay RX2 TX2 1], w ∈ zG)
theorem zin_X3 : ∀ w ∈ u_ws RX3 TX3 4, w ∈ zG := (List.forall_mem_cons.mpr ⟨zw_188, List.forall_mem_cons.mpr ⟨zw_190, List.forall_mem_cons.mpr ⟨zw_192, List.forall_mem_cons.mpr ⟨zw_194, fun _ h => nomatch h⟩⟩⟩⟩ : ∀ w ∈ [u_lay RX3 TX3 0, u_lay RX3 TX3 1, u_lay RX3 TX3 2, u_lay RX3 TX3 3], w ∈ zG)
theorem zin_X4 : ∀ w ∈ u_ws RX4 TX4 3, w ∈ zG := (List.forall_mem_cons.mpr ⟨zw_342, List.forall_mem_cons.mpr ⟨zw_344, List.forall_mem_cons.mpr ⟨zw_346, fun _ h => nomatch h⟩⟩⟩ : ∀ w ∈ [u_lay RX4 TX4 0, u_lay RX4 TX4 1, u_lay RX4 TX4 2], w ∈ zG)
theorem zin_X5 : ∀ w ∈ u_ws RX5 TX5 8, w ∈ zG := (List.forall_mem_cons.mpr ⟨zw_243, List.forall_mem_cons.mpr ⟨zw_245, List.forall_mem_cons.mpr ⟨zw_247, List.forall_mem_cons.mpr ⟨zw_249, List.forall_mem_cons.mpr ⟨zw_251, List.forall_mem_cons.mpr ⟨zw_253, List.forall_mem_cons.mpr ⟨zw_255, List.forall_mem_cons.mpr ⟨zw_257, fun _ h => nomatch h⟩⟩⟩⟩⟩⟩⟩⟩ : ∀ w ∈ [u_lay RX5 TX5 0, u_lay RX5 TX5 1, u_lay RX5 TX5 2, u_lay RX5 TX5 3, u_lay RX5 TX5 4, u_lay RX5 TX5 5, u_lay RX5 TX5 6, u_lay RX5 TX5 7], w ∈ zG)
theorem zin_X6 : ∀ w ∈ u_ws RX6 TX6 12, w ∈ zG := (List.forall_mem_cons.mpr ⟨zw_289, List.forall_mem_cons.mpr ⟨zw_291, List.forall_mem_cons.mpr ⟨zw_293, List.forall_mem_cons.mpr ⟨zw_295, List.forall_mem_cons.mpr ⟨zw_297, List.forall_mem_cons.mpr ⟨zw_299, List.forall_mem_cons.mpr ⟨zw_301, List.forall_mem_cons.mpr ⟨zw_303, List.forall_mem_cons.mpr ⟨zw_305, List.forall_mem_cons.mpr ⟨zw_307, List.forall_mem_cons.mpr ⟨zw_309, List.forall_mem_cons.mpr ⟨zw_311, fun _ h => nomatch h⟩⟩⟩⟩⟩⟩⟩⟩⟩⟩⟩⟩ : ∀ w ∈ [u_lay RX6 TX6 0, u_lay RX6 TX6 1, u_lay RX6 TX6 2, u_lay RX6 TX6 3, u_lay RX6 TX6 4, u_lay RX6 TX6 5, u_lay RX6 TX6 6, u_lay RX6 TX6 7, u_lay RX6 TX6 8, u_lay RX6 TX6 9, u_lay RX6 TX6 10, u_lay RX6 TX6 11], w ∈ zG)
theorem zin_X7 : ∀ w ∈ u_ws RX7 TX7 9, w ∈ zG := (List.forall_mem_cons.mpr ⟨zw_358, List.forall_mem_cons.mpr ⟨zw_360, List.forall_mem_cons.mpr ⟨zw_362, List.forall_mem_cons.mpr ⟨zw_364, List.forall_mem_cons.mpr ⟨zw_366, List.forall_mem_cons.mpr ⟨zw_368, List.forall_mem_cons.mpr ⟨zw_370, List.forall_mem_cons.mpr ⟨zw_372, List.forall_mem_cons.mpr ⟨zw_374, fun _ h => nomatch h⟩⟩⟩⟩⟩⟩⟩⟩⟩ : ∀ w ∈ [u_lay RX7 TX7 0, u_lay RX7 TX7 1, u_lay RX7 TX7 2, u_lay RX7 TX7 3, u_lay RX7 TX7 4, u_lay RX7 TX7 5, u_lay RX7 TX7 6, u_lay RX7 TX7 7, u_lay RX7 TX7 8], w ∈ zG)
theorem zin_X8 : ∀ w ∈ u_ws RX8 TX8 15, w ∈ zG := (List.forall_mem_cons.mpr ⟨zw_981, List.forall_mem_cons.mpr ⟨zw_983, List.forall_mem_cons.mpr ⟨zw_985, List.forall_mem_cons.mpr ⟨zw_987, List.forall_mem_cons.mpr ⟨zw_989, List.forall_mem_cons.mpr ⟨zw_991, List.forall_mem_cons.mpr ⟨zw_993, List.forall_mem_cons.mpr ⟨zw_995, List.forall_mem_cons.mpr ⟨zw_997, List.forall_mem_cons.mpr ⟨zw_999, List.forall_mem_cons.mpr ⟨zw_1001, List.forall_mem_cons.mpr ⟨zw_1003, List.forall_mem_cons.mpr ⟨zw_1005, List.forall_mem_cons.mpr ⟨zw_1007, List.forall_mem_cons.mpr ⟨zw_1009, fun _ h => nomatch h⟩⟩⟩⟩⟩⟩⟩⟩⟩⟩⟩⟩⟩⟩⟩ : ∀ w ∈ [u_lay RX8 TX8 0, u_lay RX8 TX8 1, u_lay RX8 TX8 2, u_lay RX8 TX8 3, u_lay RX8 TX8 4, u_lay RX8 TX8 5, u_lay RX8 TX8 6, u_lay RX8 TX8 7, u_lay RX8 TX8 8, u_lay RX8 TX8 9, u_lay RX8 TX8 10, u_lay RX8 TX8 11, u_lay RX8 TX8 12, u_lay RX8 TX8 13, u_lay RX8 TX8 14], w ∈ zG)
end ZWORDS
