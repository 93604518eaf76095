theorem qw_0 : (Cond.selects "KitchenTable$Tape" ({ cls := "KitchenTable$Tape", name := "skipBlanks", desc := "()V" } : MethodName) ({ cls := "KitchenTable$Tape", name := "skipBlanks", desc := "()V" } : MethodName)) ∈ GW := gw_at 0 (by decide +kernel) rfl
theorem qw_1 : (Cond.selects "KitchenTable$Tape" ({ cls := "KitchenTable$Tape", name := "nextToken", desc := "(I)I" } : MethodName) ({ cls := "KitchenTable$Tape", name := "nextToken", desc := "(I)I" } : MethodName)) ∈ GW := gw_at 1 (by decide +kernel) rfl
theorem qw_2 : (Cond.selects "KitchenTable$Tape" ({ cls := "KitchenTable$Tape", name := "wordToken", desc := "(I)I" } : MethodName) ({ cls := "KitchenTable$Tape", name := "wordToken", desc := "(I)I" } : MethodName)) ∈ GW := gw_at 2 (by decide +kernel) rfl
theorem qw_3 : (Cond.selects "KitchenTable$Tape" ({ cls := "KitchenTable$Tape", name := "spells", desc := "(ILjava/lang/String;)Z" } : MethodName) ({ cls := "KitchenTable$Tape", name := "spells", desc := "(ILjava/lang/String;)Z" } : MethodName)) ∈ GW := gw_at 3 (by decide +kernel) rfl
theorem qw_4 : (Cond.selects "KitchenTable$Tape" ({ cls := "KitchenTable$Tape", name := "numberToken", desc := "(I)I" } : MethodName) ({ cls := "KitchenTable$Tape", name := "numberToken", desc := "(I)I" } : MethodName)) ∈ GW := gw_at 4 (by decide +kernel) rfl
theorem qw_5 : (Cond.selects "KitchenTable$Parser" ({ cls := "KitchenTable$Parser", name := "expect", desc := "(I)V" } : MethodName) ({ cls := "KitchenTable$Parser", name := "expect", desc := "(I)V" } : MethodName)) ∈ GW := gw_at 5 (by decide +kernel) rfl
theorem qw_6 : (Cond.selects "KitchenTable$Parser" ({ cls := "KitchenTable$Parser", name := "token", desc := "()I" } : MethodName) ({ cls := "KitchenTable$Parser", name := "token", desc := "()I" } : MethodName)) ∈ GW := gw_at 6 (by decide +kernel) rfl
theorem qw_7 : (Cond.selects "KitchenTable$Parser" ({ cls := "KitchenTable$Parser", name := "advance", desc := "()V" } : MethodName) ({ cls := "KitchenTable$Parser", name := "advance", desc := "()V" } : MethodName)) ∈ GW := gw_at 7 (by decide +kernel) rfl
theorem qw_8 : (Cond.selects "KitchenTable$Parser" ({ cls := "KitchenTable$Parser", name := "fail", desc := "()V" } : MethodName) ({ cls := "KitchenTable$Parser", name := "fail", desc := "()V" } : MethodName)) ∈ GW := gw_at 8 (by decide +kernel) rfl
theorem qw_9 : (Cond.selects "KitchenTable$Parser" ({ cls := "KitchenTable$Parser", name := "level", desc := "(I)V" } : MethodName) ({ cls := "KitchenTable$Parser", name := "level", desc := "(I)V" } : MethodName)) ∈ GW := gw_at 9 (by decide +kernel) rfl
theorem qw_10 : (Cond.selects "KitchenTable$Parser" ({ cls := "KitchenTable$Parser", name := "one", desc := "()V" } : MethodName) ({ cls := "KitchenTable$Parser", name := "one", desc := "()V" } : MethodName)) ∈ GW := gw_at 10 (by decide +kernel) rfl
theorem qw_11 : (Cond.selects "KitchenTable$Parser" ({ cls := "KitchenTable$Parser", name := "negative", desc := "()V" } : MethodName) ({ cls := "KitchenTable$Parser", name := "negative", desc := "()V" } : MethodName)) ∈ GW := gw_at 11 (by decide +kernel) rfl
theorem qw_12 : (Cond.selects "KitchenTable$Parser" ({ cls := "KitchenTable$Parser", name := "opens", desc := "()Z" } : MethodName) ({ cls := "KitchenTable$Parser", name := "opens", desc := "()Z" } : MethodName)) ∈ GW := gw_at 12 (by decide +kernel) rfl
theorem qw_13 : (Cond.selects "KitchenTable$Parser" ({ cls := "KitchenTable$Parser", name := "inner", desc := "()V" } : MethodName) ({ cls := "KitchenTable$Parser", name := "inner", desc := "()V" } : MethodName)) ∈ GW := gw_at 13 (by decide +kernel) rfl
theorem qw_14 : (Cond.selects "KitchenTable$Parser" ({ cls := "KitchenTable$Parser", name := "negation", desc := "()V" } : MethodName) ({ cls := "KitchenTable$Parser", name := "negation", desc := "()V" } : MethodName)) ∈ GW := gw_at 14 (by decide +kernel) rfl
theorem qw_15 : (Cond.selects "KitchenTable$Parser" ({ cls := "KitchenTable$Parser", name := "chain", desc := "(I)V" } : MethodName) ({ cls := "KitchenTable$Parser", name := "chain", desc := "(I)V" } : MethodName)) ∈ GW := gw_at 15 (by decide +kernel) rfl
theorem qw_16 : (Cond.selects "KitchenTable$Parser" ({ cls := "KitchenTable$Parser", name := "joins", desc := "(I)Z" } : MethodName) ({ cls := "KitchenTable$Parser", name := "joins", desc := "(I)Z" } : MethodName)) ∈ GW := gw_at 16 (by decide +kernel) rfl
theorem qw_17 : (Cond.selects "KitchenTable" ({ cls := "KitchenTable", name := "addSlip", desc := "(III)I" } : MethodName) ({ cls := "KitchenTable", name := "addSlip", desc := "(III)I" } : MethodName)) ∈ GW := gw_at 17 (by decide +kernel) rfl
theorem qw_18 : (Cond.selects "KitchenTable" ({ cls := "KitchenTable", name := "moveSlip", desc := "(II)I" } : MethodName) ({ cls := "KitchenTable", name := "moveSlip", desc := "(II)I" } : MethodName)) ∈ GW := gw_at 18 (by decide +kernel) rfl
theorem qw_19 : (Cond.selects "KitchenTable" ({ cls := "KitchenTable", name := "settledCourse", desc := "()LKitchenTable$Course;" } : MethodName) ({ cls := "KitchenTable", name := "settledCourse", desc := "()LKitchenTable$Course;" } : MethodName)) ∈ GW := gw_at 19 (by decide +kernel) rfl
theorem qw_20 : (Cond.selects "KitchenTable$Course" ({ cls := "KitchenTable$Course", name := "clear", desc := "()V" } : MethodName) ({ cls := "KitchenTable$Course", name := "clear", desc := "()V" } : MethodName)) ∈ GW := gw_at 20 (by decide +kernel) rfl
theorem qw_21 : (Cond.selects "KitchenTable$Course" ({ cls := "KitchenTable$Course", name := "sortUppermost", desc := "()V" } : MethodName) ({ cls := "KitchenTable$Course", name := "sortUppermost", desc := "()V" } : MethodName)) ∈ GW := gw_at 21 (by decide +kernel) rfl
theorem qw_22 : (Cond.selects "KitchenTable$Course" ({ cls := "KitchenTable$Course", name := "putIn", desc := "(I)I" } : MethodName) ({ cls := "KitchenTable$Course", name := "putIn", desc := "(I)I" } : MethodName)) ∈ GW := gw_at 22 (by decide +kernel) rfl
theorem qw_23 : (Cond.selects "KitchenTable$Course" ({ cls := "KitchenTable$Course", name := "visit", desc := "(III)V" } : MethodName) ({ cls := "KitchenTable$Course", name := "visit", desc := "(III)V" } : MethodName)) ∈ GW := gw_at 23 (by decide +kernel) rfl
theorem qw_24 : (Cond.selects "KitchenTable$Course" ({ cls := "KitchenTable$Course", name := "uppermostOf", desc := "(II)I" } : MethodName) ({ cls := "KitchenTable$Course", name := "uppermostOf", desc := "(II)I" } : MethodName)) ∈ GW := gw_at 24 (by decide +kernel) rfl
theorem qw_25 : (Cond.selects "KitchenTable$Course" ({ cls := "KitchenTable$Course", name := "learn", desc := "(III)V" } : MethodName) ({ cls := "KitchenTable$Course", name := "learn", desc := "(III)V" } : MethodName)) ∈ GW := gw_at 25 (by decide +kernel) rfl
theorem qw_26 : (Cond.selects "KitchenTable$Course" ({ cls := "KitchenTable$Course", name := "says", desc := "(IIII)I" } : MethodName) ({ cls := "KitchenTable$Course", name := "says", desc := "(IIII)I" } : MethodName)) ∈ GW := gw_at 26 (by decide +kernel) rfl
theorem qw_27 : (Cond.selects "KitchenTable$Course" ({ cls := "KitchenTable$Course", name := "act", desc := "(III)V" } : MethodName) ({ cls := "KitchenTable$Course", name := "act", desc := "(III)V" } : MethodName)) ∈ GW := gw_at 27 (by decide +kernel) rfl
theorem qw_28 : (Cond.selects "KitchenTable$Course" ({ cls := "KitchenTable$Course", name := "askedInAll", desc := "(I)I" } : MethodName) ({ cls := "KitchenTable$Course", name := "askedInAll", desc := "(I)I" } : MethodName)) ∈ GW := gw_at 28 (by decide +kernel) rfl
theorem qw_29 : (Cond.selects "KitchenTable$Course" ({ cls := "KitchenTable$Course", name := "careFor", desc := "(I)I" } : MethodName) ({ cls := "KitchenTable$Course", name := "careFor", desc := "(I)I" } : MethodName)) ∈ GW := gw_at 29 (by decide +kernel) rfl
theorem qw_30 : (Cond.selects "KitchenTable" ({ cls := "KitchenTable", name := "harmIfReading", desc := "(II)I" } : MethodName) ({ cls := "KitchenTable", name := "harmIfReading", desc := "(II)I" } : MethodName)) ∈ GW := gw_at 30 (by decide +kernel) rfl
theorem qw_31 : (Cond.selects "KitchenTable$Marks" ({ cls := "KitchenTable$Marks", name := "waysOf", desc := "(II)I" } : MethodName) ({ cls := "KitchenTable$Marks", name := "waysOf", desc := "(II)I" } : MethodName)) ∈ GW := gw_at 31 (by decide +kernel) rfl
theorem qw_32 : (Cond.selects "KitchenTableModel" ({ cls := "KitchenTableModel", name := "next", desc := "()V" } : MethodName) ({ cls := "KitchenTableModel", name := "next", desc := "()V" } : MethodName)) ∈ GW := gw_at 32 (by decide +kernel) rfl
theorem qw_33 : (Cond.selects "KitchenTableModel" ({ cls := "KitchenTableModel", name := "part", desc := "(Ljava/lang/String;I)Z" } : MethodName) ({ cls := "KitchenTableModel", name := "part", desc := "(Ljava/lang/String;I)Z" } : MethodName)) ∈ GW := gw_at 33 (by decide +kernel) rfl
theorem qw_34 : (Cond.selects "KitchenTableModel" ({ cls := "KitchenTableModel", name := "is", desc := "(Ljava/lang/String;)Z" } : MethodName) ({ cls := "KitchenTableModel", name := "is", desc := "(Ljava/lang/String;)Z" } : MethodName)) ∈ GW := gw_at 34 (by decide +kernel) rfl
theorem qw_35 : (Cond.selects "KitchenTableModel" ({ cls := "KitchenTableModel", name := "any", desc := "()Z" } : MethodName) ({ cls := "KitchenTableModel", name := "any", desc := "()Z" } : MethodName)) ∈ GW := gw_at 35 (by decide +kernel) rfl
theorem qw_36 : (Cond.selects "KitchenTableModel" ({ cls := "KitchenTableModel", name := "both", desc := "()Z" } : MethodName) ({ cls := "KitchenTableModel", name := "both", desc := "()Z" } : MethodName)) ∈ GW := gw_at 36 (by decide +kernel) rfl
theorem qw_37 : (Cond.selects "KitchenTableModel" ({ cls := "KitchenTableModel", name := "not", desc := "()Z" } : MethodName) ({ cls := "KitchenTableModel", name := "not", desc := "()Z" } : MethodName)) ∈ GW := gw_at 37 (by decide +kernel) rfl
theorem qw_38 : (Cond.selects "KitchenTableModel" ({ cls := "KitchenTableModel", name := "put", desc := "(I)V" } : MethodName) ({ cls := "KitchenTableModel", name := "put", desc := "(I)V" } : MethodName)) ∈ GW := gw_at 38 (by decide +kernel) rfl
theorem qw_39 : (Cond.selects "KitchenTableModel" ({ cls := "KitchenTableModel", name := "sum", desc := "()Z" } : MethodName) ({ cls := "KitchenTableModel", name := "sum", desc := "()Z" } : MethodName)) ∈ GW := gw_at 39 (by decide +kernel) rfl
theorem qw_40 : (Cond.selects "KitchenTableModel" ({ cls := "KitchenTableModel", name := "term", desc := "()Z" } : MethodName) ({ cls := "KitchenTableModel", name := "term", desc := "()Z" } : MethodName)) ∈ GW := gw_at 40 (by decide +kernel) rfl
theorem qw_41 : (Cond.selects "KitchenTableModel" ({ cls := "KitchenTableModel", name := "one", desc := "()Z" } : MethodName) ({ cls := "KitchenTableModel", name := "one", desc := "()Z" } : MethodName)) ∈ GW := gw_at 41 (by decide +kernel) rfl
theorem qw_42 : (Cond.selects "KitchenTableModel" ({ cls := "KitchenTableModel", name := "name", desc := "()I" } : MethodName) ({ cls := "KitchenTableModel", name := "name", desc := "()I" } : MethodName)) ∈ GW := gw_at 42 (by decide +kernel) rfl
theorem qw_43 : (Cond.selects "KitchenTableModel" ({ cls := "KitchenTableModel", name := "is", desc := "(C)Z" } : MethodName) ({ cls := "KitchenTableModel", name := "is", desc := "(C)Z" } : MethodName)) ∈ GW := gw_at 43 (by decide +kernel) rfl
theorem qw_44 : (Cond.selects "KitchenTableModel" ({ cls := "KitchenTableModel", name := "isNote", desc := "(I)Z" } : MethodName) ({ cls := "KitchenTableModel", name := "isNote", desc := "(I)Z" } : MethodName)) ∈ GW := gw_at 44 (by decide +kernel) rfl
theorem qw_45 : (Cond.selects "KitchenTableModel" ({ cls := "KitchenTableModel", name := "isPerson", desc := "(I)Z" } : MethodName) ({ cls := "KitchenTableModel", name := "isPerson", desc := "(I)Z" } : MethodName)) ∈ GW := gw_at 45 (by decide +kernel) rfl
theorem qw_46 : (Cond.selects "KitchenTableModel" ({ cls := "KitchenTableModel", name := "high", desc := "(I)I" } : MethodName) ({ cls := "KitchenTableModel", name := "high", desc := "(I)I" } : MethodName)) ∈ GW := gw_at 46 (by decide +kernel) rfl
theorem qw_47 : (Cond.selects "KitchenTableModel" ({ cls := "KitchenTableModel", name := "lasts", desc := "(I)I" } : MethodName) ({ cls := "KitchenTableModel", name := "lasts", desc := "(I)I" } : MethodName)) ∈ GW := gw_at 47 (by decide +kernel) rfl
theorem qw_48 : (Cond.selects "KitchenTableModel" ({ cls := "KitchenTableModel", name := "asks", desc := "(I)I" } : MethodName) ({ cls := "KitchenTableModel", name := "asks", desc := "(I)I" } : MethodName)) ∈ GW := gw_at 48 (by decide +kernel) rfl
theorem qw_49 : (Cond.selects "KitchenTableModel" ({ cls := "KitchenTableModel", name := "tells", desc := "(I)I" } : MethodName) ({ cls := "KitchenTableModel", name := "tells", desc := "(I)I" } : MethodName)) ∈ GW := gw_at 49 (by decide +kernel) rfl
theorem qw_50 : (Cond.selects "KitchenTableModel" ({ cls := "KitchenTableModel", name := "go", desc := "()V" } : MethodName) ({ cls := "KitchenTableModel", name := "go", desc := "()V" } : MethodName)) ∈ GW := gw_at 50 (by decide +kernel) rfl
theorem qw_51 : (Cond.selects "KitchenTableModel" ({ cls := "KitchenTableModel", name := "comes", desc := "(II)Z" } : MethodName) ({ cls := "KitchenTableModel", name := "comes", desc := "(II)Z" } : MethodName)) ∈ GW := gw_at 51 (by decide +kernel) rfl
theorem qw_52 : (Cond.selects "KitchenTableModel" ({ cls := "KitchenTableModel", name := "come", desc := "(II)V" } : MethodName) ({ cls := "KitchenTableModel", name := "come", desc := "(II)V" } : MethodName)) ∈ GW := gw_at 52 (by decide +kernel) rfl
theorem qw_53 : (Cond.selects "KitchenTableModel" ({ cls := "KitchenTableModel", name := "there", desc := "(II)Z" } : MethodName) ({ cls := "KitchenTableModel", name := "there", desc := "(II)Z" } : MethodName)) ∈ GW := gw_at 53 (by decide +kernel) rfl
theorem qw_54 : (Cond.selects "KitchenTableModel" ({ cls := "KitchenTableModel", name := "above", desc := "(II)Z" } : MethodName) ({ cls := "KitchenTableModel", name := "above", desc := "(II)Z" } : MethodName)) ∈ GW := gw_at 54 (by decide +kernel) rfl
theorem qw_55 : (Cond.selects "KitchenTableModel" ({ cls := "KitchenTableModel", name := "worth", desc := "(IIIIIII)I" } : MethodName) ({ cls := "KitchenTableModel", name := "worth", desc := "(IIIIIII)I" } : MethodName)) ∈ GW := gw_at 55 (by decide +kernel) rfl
theorem qw_56 : (Cond.selects "KitchenTableModel" ({ cls := "KitchenTableModel", name := "lying", desc := "(I)I" } : MethodName) ({ cls := "KitchenTableModel", name := "lying", desc := "(I)I" } : MethodName)) ∈ GW := gw_at 56 (by decide +kernel) rfl
theorem qw_57 : (Cond.selects "KitchenTableModel" ({ cls := "KitchenTableModel", name := "isAsked", desc := "(I)Z" } : MethodName) ({ cls := "KitchenTableModel", name := "isAsked", desc := "(I)Z" } : MethodName)) ∈ GW := gw_at 57 (by decide +kernel) rfl
theorem qw_58 : (Cond.selects "KitchenTableModel" ({ cls := "KitchenTableModel", name := "care", desc := "(I)I" } : MethodName) ({ cls := "KitchenTableModel", name := "care", desc := "(I)I" } : MethodName)) ∈ GW := gw_at 58 (by decide +kernel) rfl
theorem qw_59 : (Cond.selects "KitchenTableModel" ({ cls := "KitchenTableModel", name := "all", desc := "(II)J" } : MethodName) ({ cls := "KitchenTableModel", name := "all", desc := "(II)J" } : MethodName)) ∈ GW := gw_at 59 (by decide +kernel) rfl
theorem qw_60 : (Cond.initialized "KitchenTableLaw") ∈ GW := gw_at 60 (by decide +kernel) rfl
theorem qw_61 : (Cond.initialized "KitchenTable") ∈ GW := gw_at 61 (by decide +kernel) rfl
theorem qw_62 : (Cond.initialized "KitchenTable$Table") ∈ GW := gw_at 62 (by decide +kernel) rfl
theorem qw_63 : (Cond.initialized "KitchenTable$Guest") ∈ GW := gw_at 63 (by decide +kernel) rfl
theorem qw_64 : (Cond.initialized "KitchenTable$Slip") ∈ GW := gw_at 64 (by decide +kernel) rfl
theorem qw_65 : (Cond.initialized "KitchenTable$Rule") ∈ GW := gw_at 65 (by decide +kernel) rfl
theorem qw_66 : (Cond.initialized "KitchenTable$Course") ∈ GW := gw_at 66 (by decide +kernel) rfl
theorem qw_67 : (Cond.initialized "KitchenTable$Tape") ∈ GW := gw_at 67 (by decide +kernel) rfl
theorem qw_68 : (Cond.initialized "KitchenTable$Marks") ∈ GW := gw_at 68 (by decide +kernel) rfl
theorem qw_69 : (Cond.initialized "KitchenTable$Image") ∈ GW := gw_at 69 (by decide +kernel) rfl
theorem qw_70 : (Cond.initialized "KitchenTable$Sheet") ∈ GW := gw_at 70 (by decide +kernel) rfl
theorem qw_71 : (Cond.initialized "java/lang/String") ∈ GW := gw_at 71 (by decide +kernel) rfl
theorem qw_72 : (Cond.initialized "java/lang/StringLatin1") ∈ GW := gw_at 72 (by decide +kernel) rfl
theorem qw_73 : (Cond.initialized "jdk/internal/util/Preconditions") ∈ GW := gw_at 73 (by decide +kernel) rfl
theorem qw_74 : (Cond.initialized "java/lang/StringUTF16") ∈ GW := gw_at 74 (by decide +kernel) rfl
theorem qw_75 : (Cond.initialized "KitchenTable$Parser") ∈ GW := gw_at 75 (by decide +kernel) rfl
theorem qw_76 : (Cond.initialized "KitchenTableModel") ∈ GW := gw_at 76 (by decide +kernel) rfl
theorem qw_77 : (Cond.initialized "java/lang/Math") ∈ GW := gw_at 77 (by decide +kernel) rfl
theorem qw_78 : (Cond.initialized "java/util/Arrays") ∈ GW := gw_at 78 (by decide +kernel) rfl
theorem qw_79 : (Cond.initialized "java/lang/Integer") ∈ GW := gw_at 79 (by decide +kernel) rfl
theorem qw_80 : (Cond.initialized "java/lang/System") ∈ GW := gw_at 80 (by decide +kernel) rfl
theorem qw_81 : (Cond.classLink "KitchenTableLaw" (7 : Nat) "KitchenTable") ∈ GW := gw_at 81 (by decide +kernel) rfl
theorem qw_82 : (Cond.instantiable "KitchenTable" (6 : Nat)) ∈ GW := gw_at 82 (by decide +kernel) rfl
theorem qw_83 : (Cond.methodLink "KitchenTableLaw" (9 : Nat) ({ cls := "KitchenTable", name := "<init>", desc := "()V" } : MethodName)) ∈ GW := gw_at 83 (by decide +kernel) rfl
theorem qw_84 : (Cond.instanceMethod ({ cls := "KitchenTable", name := "<init>", desc := "()V" } : MethodName)) ∈ GW := gw_at 84 (by decide +kernel) rfl
theorem qw_85 : (Cond.code ({ cls := "KitchenTable", name := "<init>", desc := "()V" } : MethodName) prog_1_method_1_code (2 : Nat) (Option.none : Option FieldType)) ∈ GW := gw_at 85 (by decide +kernel) rfl
theorem qw_86 : (Cond.methodLink "KitchenTable" (1 : Nat) ({ cls := "java/lang/Object", name := "<init>", desc := "()V" } : MethodName)) ∈ GW := gw_at 86 (by decide +kernel) rfl
theorem qw_87 : (Cond.instanceMethod ({ cls := "java/lang/Object", name := "<init>", desc := "()V" } : MethodName)) ∈ GW := gw_at 87 (by decide +kernel) rfl
theorem qw_88 : (Cond.code ({ cls := "java/lang/Object", name := "<init>", desc := "()V" } : MethodName) object_method_1_code (1 : Nat) (Option.none : Option FieldType)) ∈ GW := gw_at 88 (by decide +kernel) rfl
theorem qw_89 : (Cond.classLink "KitchenTable" (7 : Nat) "KitchenTable$Table") ∈ GW := gw_at 89 (by decide +kernel) rfl
theorem qw_90 : (Cond.instantiable "KitchenTable$Table" (7 : Nat)) ∈ GW := gw_at 90 (by decide +kernel) rfl
theorem qw_91 : (Cond.methodLink "KitchenTable" (9 : Nat) ({ cls := "KitchenTable$Table", name := "<init>", desc := "()V" } : MethodName)) ∈ GW := gw_at 91 (by decide +kernel) rfl
theorem qw_92 : (Cond.instanceMethod ({ cls := "KitchenTable$Table", name := "<init>", desc := "()V" } : MethodName)) ∈ GW := gw_at 92 (by decide +kernel) rfl
theorem qw_93 : (Cond.code ({ cls := "KitchenTable$Table", name := "<init>", desc := "()V" } : MethodName) prog_10_method_1_code (2 : Nat) (Option.none : Option FieldType)) ∈ GW := gw_at 93 (by decide +kernel) rfl
theorem qw_94 : (Cond.methodLink "KitchenTable$Table" (3 : Nat) ({ cls := "java/lang/Object", name := "<init>", desc := "()V" } : MethodName)) ∈ GW := gw_at 94 (by decide +kernel) rfl
theorem qw_95 : (Cond.classLink "KitchenTable$Table" (9 : Nat) "KitchenTable$Guest") ∈ GW := gw_at 95 (by decide +kernel) rfl
theorem qw_97 : (Cond.classLink "KitchenTable$Table" (17 : Nat) "KitchenTable$Slip") ∈ GW := gw_at 97 (by decide +kernel) rfl
theorem qw_99 : (Cond.classLink "KitchenTable$Table" (23 : Nat) "KitchenTable$Rule") ∈ GW := gw_at 99 (by decide +kernel) rfl
theorem qw_101 : (Cond.instantiable "KitchenTable$Guest" (1 : Nat)) ∈ GW := gw_at 101 (by decide +kernel) rfl
theorem qw_103 : (Cond.instanceMethod ({ cls := "KitchenTable$Guest", name := "<init>", desc := "()V" } : MethodName)) ∈ GW := gw_at 103 (by decide +kernel) rfl
theorem qw_104 : (Cond.code ({ cls := "KitchenTable$Guest", name := "<init>", desc := "()V" } : MethodName) prog_3_method_1_code (1 : Nat) (Option.none : Option FieldType)) ∈ GW := gw_at 104 (by decide +kernel) rfl
theorem qw_105 : (Cond.methodLink "KitchenTable$Guest" (3 : Nat) ({ cls := "java/lang/Object", name := "<init>", desc := "()V" } : MethodName)) ∈ GW := gw_at 105 (by decide +kernel) rfl
theorem qw_106 : (Cond.fieldLink "KitchenTable$Guest" (9 : Nat) "KitchenTable$Guest" "traits" "[I") ∈ GW := gw_at 106 (by decide +kernel) rfl
theorem qw_107 : (Cond.fieldLink "KitchenTable$Table" (45 : Nat) "KitchenTable$Guest" "traits" "[I") ∈ GW := gw_at 107 (by decide +kernel) rfl
theorem qw_108 : (Cond.fieldLink "KitchenTable" (112 : Nat) "KitchenTable$Guest" "traits" "[I") ∈ GW := gw_at 108 (by decide +kernel) rfl
theorem qw_109 : (Cond.fieldLink "KitchenTable$Course" (133 : Nat) "KitchenTable$Guest" "traits" "[I") ∈ GW := gw_at 109 (by decide +kernel) rfl
theorem qw_110 : (Cond.laysFinal "KitchenTable$Guest" "KitchenTable$Guest" "traits" "[I") ∈ GW := gw_at 110 (by decide +kernel) rfl
theorem qw_113 : (Cond.arrayClass FieldType.int) ∈ GW := gw_at 113 (by decide +kernel) rfl
theorem qw_114 : (Cond.instantiable "KitchenTable$Slip" (8 : Nat)) ∈ GW := gw_at 114 (by decide +kernel) rfl
theorem qw_116 : (Cond.instanceMethod ({ cls := "KitchenTable$Slip", name := "<init>", desc := "()V" } : MethodName)) ∈ GW := gw_at 116 (by decide +kernel) rfl
theorem qw_117 : (Cond.code ({ cls := "KitchenTable$Slip", name := "<init>", desc := "()V" } : MethodName) prog_9_method_1_code (1 : Nat) (Option.none : Option FieldType)) ∈ GW := gw_at 117 (by decide +kernel) rfl
theorem qw_118 : (Cond.methodLink "KitchenTable$Slip" (3 : Nat) ({ cls := "java/lang/Object", name := "<init>", desc := "()V" } : MethodName)) ∈ GW := gw_at 118 (by decide +kernel) rfl
theorem qw_119 : (Cond.fieldLink "KitchenTable$Slip" (9 : Nat) "KitchenTable$Slip" "kind" "I") ∈ GW := gw_at 119 (by decide +kernel) rfl
theorem qw_120 : (Cond.fieldLink "KitchenTable" (125 : Nat) "KitchenTable$Slip" "kind" "I") ∈ GW := gw_at 120 (by decide +kernel) rfl
theorem qw_121 : (Cond.fieldLink "KitchenTable$Slip" (15 : Nat) "KitchenTable$Slip" "hour" "I") ∈ GW := gw_at 121 (by decide +kernel) rfl
theorem qw_122 : (Cond.fieldLink "KitchenTable" (130 : Nat) "KitchenTable$Slip" "hour" "I") ∈ GW := gw_at 122 (by decide +kernel) rfl
theorem qw_123 : (Cond.fieldLink "KitchenTable$Table" (56 : Nat) "KitchenTable$Slip" "hour" "I") ∈ GW := gw_at 123 (by decide +kernel) rfl
theorem qw_124 : (Cond.fieldLink "KitchenTable$Slip" (18 : Nat) "KitchenTable$Slip" "thing" "I") ∈ GW := gw_at 124 (by decide +kernel) rfl
theorem qw_125 : (Cond.fieldLink "KitchenTable" (133 : Nat) "KitchenTable$Slip" "thing" "I") ∈ GW := gw_at 125 (by decide +kernel) rfl
theorem qw_126 : (Cond.fieldLink "KitchenTable$Course" (155 : Nat) "KitchenTable$Slip" "thing" "I") ∈ GW := gw_at 126 (by decide +kernel) rfl
theorem qw_127 : (Cond.fieldLink "KitchenTable$Slip" (21 : Nat) "KitchenTable$Slip" "number" "I") ∈ GW := gw_at 127 (by decide +kernel) rfl
theorem qw_128 : (Cond.fieldLink "KitchenTable" (136 : Nat) "KitchenTable$Slip" "number" "I") ∈ GW := gw_at 128 (by decide +kernel) rfl
theorem qw_129 : (Cond.fieldLink "KitchenTable$Slip" (28 : Nat) "KitchenTable$Slip" "high" "I") ∈ GW := gw_at 129 (by decide +kernel) rfl
theorem qw_130 : (Cond.fieldLink "KitchenTable" (139 : Nat) "KitchenTable$Slip" "high" "I") ∈ GW := gw_at 130 (by decide +kernel) rfl
theorem qw_131 : (Cond.fieldLink "KitchenTable$Table" (53 : Nat) "KitchenTable$Slip" "high" "I") ∈ GW := gw_at 131 (by decide +kernel) rfl
theorem qw_132 : (Cond.fieldLink "KitchenTable$Slip" (34 : Nat) "KitchenTable$Slip" "lasts" "I") ∈ GW := gw_at 132 (by decide +kernel) rfl
theorem qw_133 : (Cond.fieldLink "KitchenTable" (142 : Nat) "KitchenTable$Slip" "lasts" "I") ∈ GW := gw_at 133 (by decide +kernel) rfl
theorem qw_134 : (Cond.fieldLink "KitchenTable$Slip" (41 : Nat) "KitchenTable$Slip" "asks" "I") ∈ GW := gw_at 134 (by decide +kernel) rfl
theorem qw_135 : (Cond.fieldLink "KitchenTable" (145 : Nat) "KitchenTable$Slip" "asks" "I") ∈ GW := gw_at 135 (by decide +kernel) rfl
theorem qw_136 : (Cond.fieldLink "KitchenTable$Course" (149 : Nat) "KitchenTable$Slip" "asks" "I") ∈ GW := gw_at 136 (by decide +kernel) rfl
theorem qw_137 : (Cond.fieldLink "KitchenTable$Slip" (47 : Nat) "KitchenTable$Slip" "tells" "I") ∈ GW := gw_at 137 (by decide +kernel) rfl
theorem qw_138 : (Cond.fieldLink "KitchenTable" (148 : Nat) "KitchenTable$Slip" "tells" "I") ∈ GW := gw_at 138 (by decide +kernel) rfl
theorem qw_139 : (Cond.fieldLink "KitchenTable$Course" (152 : Nat) "KitchenTable$Slip" "tells" "I") ∈ GW := gw_at 139 (by decide +kernel) rfl
theorem qw_140 : (Cond.lays "KitchenTable$Slip" "KitchenTable$Slip" "kind" "I") ∈ GW := gw_at 140 (by decide +kernel) rfl
theorem qw_142 : (Cond.lays "KitchenTable$Slip" "KitchenTable$Slip" "hour" "I") ∈ GW := gw_at 142 (by decide +kernel) rfl
theorem qw_144 : (Cond.lays "KitchenTable$Slip" "KitchenTable$Slip" "thing" "I") ∈ GW := gw_at 144 (by decide +kernel) rfl
theorem qw_146 : (Cond.lays "KitchenTable$Slip" "KitchenTable$Slip" "number" "I") ∈ GW := gw_at 146 (by decide +kernel) rfl
theorem qw_148 : (Cond.lays "KitchenTable$Slip" "KitchenTable$Slip" "high" "I") ∈ GW := gw_at 148 (by decide +kernel) rfl
theorem qw_150 : (Cond.lays "KitchenTable$Slip" "KitchenTable$Slip" "lasts" "I") ∈ GW := gw_at 150 (by decide +kernel) rfl
theorem qw_152 : (Cond.lays "KitchenTable$Slip" "KitchenTable$Slip" "asks" "I") ∈ GW := gw_at 152 (by decide +kernel) rfl
theorem qw_154 : (Cond.lays "KitchenTable$Slip" "KitchenTable$Slip" "tells" "I") ∈ GW := gw_at 154 (by decide +kernel) rfl
theorem qw_157 : (Cond.instantiable "KitchenTable$Rule" (3 : Nat)) ∈ GW := gw_at 157 (by decide +kernel) rfl
theorem qw_159 : (Cond.instanceMethod ({ cls := "KitchenTable$Rule", name := "<init>", desc := "()V" } : MethodName)) ∈ GW := gw_at 159 (by decide +kernel) rfl
theorem qw_160 : (Cond.code ({ cls := "KitchenTable$Rule", name := "<init>", desc := "()V" } : MethodName) prog_7_method_1_code (1 : Nat) (Option.none : Option FieldType)) ∈ GW := gw_at 160 (by decide +kernel) rfl
theorem qw_161 : (Cond.methodLink "KitchenTable$Rule" (3 : Nat) ({ cls := "java/lang/Object", name := "<init>", desc := "()V" } : MethodName)) ∈ GW := gw_at 161 (by decide +kernel) rfl
theorem qw_162 : (Cond.fieldLink "KitchenTable$Rule" (11 : Nat) "KitchenTable$Rule" "steps" "[I") ∈ GW := gw_at 162 (by decide +kernel) rfl
theorem qw_163 : (Cond.fieldLink "KitchenTable$Rule" (15 : Nat) "KitchenTable$Rule" "ends" "[I") ∈ GW := gw_at 163 (by decide +kernel) rfl
theorem qw_164 : (Cond.fieldLink "KitchenTable$Rule" (18 : Nat) "KitchenTable$Rule" "size" "I") ∈ GW := gw_at 164 (by decide +kernel) rfl
theorem qw_165 : (Cond.laysFinal "KitchenTable$Rule" "KitchenTable$Rule" "steps" "[I") ∈ GW := gw_at 165 (by decide +kernel) rfl
theorem qw_167 : (Cond.laysFinal "KitchenTable$Rule" "KitchenTable$Rule" "ends" "[I") ∈ GW := gw_at 167 (by decide +kernel) rfl
theorem qw_169 : (Cond.lays "KitchenTable$Rule" "KitchenTable$Rule" "size" "I") ∈ GW := gw_at 169 (by decide +kernel) rfl
theorem qw_172 : (Cond.fieldLink "KitchenTable$Table" (11 : Nat) "KitchenTable$Table" "people" "[LKitchenTable$Guest;") ∈ GW := gw_at 172 (by decide +kernel) rfl
theorem qw_173 : (Cond.fieldLink "KitchenTable$Course" (82 : Nat) "KitchenTable$Table" "people" "[LKitchenTable$Guest;") ∈ GW := gw_at 173 (by decide +kernel) rfl
theorem qw_174 : (Cond.fieldLink "KitchenTable" (108 : Nat) "KitchenTable$Table" "people" "[LKitchenTable$Guest;") ∈ GW := gw_at 174 (by decide +kernel) rfl
theorem qw_175 : (Cond.fieldLink "KitchenTable$Table" (19 : Nat) "KitchenTable$Table" "slips" "[LKitchenTable$Slip;") ∈ GW := gw_at 175 (by decide +kernel) rfl
theorem qw_176 : (Cond.fieldLink "KitchenTable" (121 : Nat) "KitchenTable$Table" "slips" "[LKitchenTable$Slip;") ∈ GW := gw_at 176 (by decide +kernel) rfl
theorem qw_177 : (Cond.fieldLink "KitchenTable$Course" (124 : Nat) "KitchenTable$Table" "slips" "[LKitchenTable$Slip;") ∈ GW := gw_at 177 (by decide +kernel) rfl
theorem qw_178 : (Cond.fieldLink "KitchenTable$Table" (25 : Nat) "KitchenTable$Table" "rules" "[LKitchenTable$Rule;") ∈ GW := gw_at 178 (by decide +kernel) rfl
theorem qw_179 : (Cond.fieldLink "KitchenTable" (71 : Nat) "KitchenTable$Table" "rules" "[LKitchenTable$Rule;") ∈ GW := gw_at 179 (by decide +kernel) rfl
theorem qw_180 : (Cond.fieldLink "KitchenTable$Course" (161 : Nat) "KitchenTable$Table" "rules" "[LKitchenTable$Rule;") ∈ GW := gw_at 180 (by decide +kernel) rfl
theorem qw_181 : (Cond.fieldLink "KitchenTable$Table" (29 : Nat) "KitchenTable$Table" "peopleCount" "I") ∈ GW := gw_at 181 (by decide +kernel) rfl
theorem qw_182 : (Cond.fieldLink "KitchenTable$Course" (77 : Nat) "KitchenTable$Table" "peopleCount" "I") ∈ GW := gw_at 182 (by decide +kernel) rfl
theorem qw_183 : (Cond.fieldLink "KitchenTable" (201 : Nat) "KitchenTable$Table" "peopleCount" "I") ∈ GW := gw_at 183 (by decide +kernel) rfl
theorem qw_184 : (Cond.fieldLink "KitchenTable$Table" (33 : Nat) "KitchenTable$Table" "slipCount" "I") ∈ GW := gw_at 184 (by decide +kernel) rfl
theorem qw_185 : (Cond.fieldLink "KitchenTable$Course" (117 : Nat) "KitchenTable$Table" "slipCount" "I") ∈ GW := gw_at 185 (by decide +kernel) rfl
theorem qw_186 : (Cond.fieldLink "KitchenTable" (167 : Nat) "KitchenTable$Table" "slipCount" "I") ∈ GW := gw_at 186 (by decide +kernel) rfl
theorem qw_187 : (Cond.fieldLink "KitchenTable$Table" (36 : Nat) "KitchenTable$Table" "ruleCount" "I") ∈ GW := gw_at 187 (by decide +kernel) rfl
theorem qw_188 : (Cond.fieldLink "KitchenTable" (81 : Nat) "KitchenTable$Table" "ruleCount" "I") ∈ GW := gw_at 188 (by decide +kernel) rfl
theorem qw_189 : (Cond.fieldLink "KitchenTable$Table" (39 : Nat) "KitchenTable$Table" "ruleNumber" "I") ∈ GW := gw_at 189 (by decide +kernel) rfl
theorem qw_190 : (Cond.fieldLink "KitchenTable" (154 : Nat) "KitchenTable$Table" "ruleNumber" "I") ∈ GW := gw_at 190 (by decide +kernel) rfl
theorem qw_191 : (Cond.fieldLink "KitchenTable$Course" (165 : Nat) "KitchenTable$Table" "ruleNumber" "I") ∈ GW := gw_at 191 (by decide +kernel) rfl
theorem qw_192 : (Cond.laysFinal "KitchenTable$Table" "KitchenTable$Table" "people" "[LKitchenTable$Guest;") ∈ GW := gw_at 192 (by decide +kernel) rfl
theorem qw_194 : (Cond.laysFinal "KitchenTable$Table" "KitchenTable$Table" "slips" "[LKitchenTable$Slip;") ∈ GW := gw_at 194 (by decide +kernel) rfl
theorem qw_196 : (Cond.laysFinal "KitchenTable$Table" "KitchenTable$Table" "rules" "[LKitchenTable$Rule;") ∈ GW := gw_at 196 (by decide +kernel) rfl
theorem qw_198 : (Cond.lays "KitchenTable$Table" "KitchenTable$Table" "peopleCount" "I") ∈ GW := gw_at 198 (by decide +kernel) rfl
theorem qw_200 : (Cond.lays "KitchenTable$Table" "KitchenTable$Table" "slipCount" "I") ∈ GW := gw_at 200 (by decide +kernel) rfl
theorem qw_202 : (Cond.lays "KitchenTable$Table" "KitchenTable$Table" "ruleCount" "I") ∈ GW := gw_at 202 (by decide +kernel) rfl
theorem qw_204 : (Cond.lays "KitchenTable$Table" "KitchenTable$Table" "ruleNumber" "I") ∈ GW := gw_at 204 (by decide +kernel) rfl
theorem qw_207 : (Cond.classLink "KitchenTable" (16 : Nat) "KitchenTable$Course") ∈ GW := gw_at 207 (by decide +kernel) rfl
theorem qw_208 : (Cond.instantiable "KitchenTable$Course" (16 : Nat)) ∈ GW := gw_at 208 (by decide +kernel) rfl
theorem qw_209 : (Cond.methodLink "KitchenTable" (18 : Nat) ({ cls := "KitchenTable$Course", name := "<init>", desc := "(LKitchenTable$Table;)V" } : MethodName)) ∈ GW := gw_at 209 (by decide +kernel) rfl
theorem qw_210 : (Cond.instanceMethod ({ cls := "KitchenTable$Course", name := "<init>", desc := "(LKitchenTable$Table;)V" } : MethodName)) ∈ GW := gw_at 210 (by decide +kernel) rfl
theorem qw_211 : (Cond.code ({ cls := "KitchenTable$Course", name := "<init>", desc := "(LKitchenTable$Table;)V" } : MethodName) prog_2_method_1_code (2 : Nat) (Option.none : Option FieldType)) ∈ GW := gw_at 211 (by decide +kernel) rfl
theorem qw_212 : (Cond.methodLink "KitchenTable$Course" (3 : Nat) ({ cls := "java/lang/Object", name := "<init>", desc := "()V" } : MethodName)) ∈ GW := gw_at 212 (by decide +kernel) rfl
theorem qw_213 : (Cond.classLink "KitchenTable$Course" (19 : Nat) "[[I") ∈ GW := gw_at 213 (by decide +kernel) rfl
theorem qw_215 : (Cond.fieldLink "KitchenTable$Course" (9 : Nat) "KitchenTable$Course" "stale" "Z") ∈ GW := gw_at 215 (by decide +kernel) rfl
theorem qw_216 : (Cond.fieldLink "KitchenTable" (93 : Nat) "KitchenTable$Course" "stale" "Z") ∈ GW := gw_at 216 (by decide +kernel) rfl
theorem qw_217 : (Cond.fieldLink "KitchenTable$Course" (15 : Nat) "KitchenTable$Course" "lyingAtEnd" "[I") ∈ GW := gw_at 217 (by decide +kernel) rfl
theorem qw_218 : (Cond.fieldLink "KitchenTable" (164 : Nat) "KitchenTable$Course" "lyingAtEnd" "[I") ∈ GW := gw_at 218 (by decide +kernel) rfl
theorem qw_219 : (Cond.fieldLink "KitchenTable$Course" (21 : Nat) "KitchenTable$Course" "knownAtEnd" "[[I") ∈ GW := gw_at 219 (by decide +kernel) rfl
theorem qw_220 : (Cond.fieldLink "KitchenTable" (177 : Nat) "KitchenTable$Course" "knownAtEnd" "[[I") ∈ GW := gw_at 220 (by decide +kernel) rfl
theorem qw_221 : (Cond.fieldLink "KitchenTable$Course" (24 : Nat) "KitchenTable$Course" "firstRead" "[[I") ∈ GW := gw_at 221 (by decide +kernel) rfl
theorem qw_222 : (Cond.fieldLink "KitchenTable" (173 : Nat) "KitchenTable$Course" "firstRead" "[[I") ∈ GW := gw_at 222 (by decide +kernel) rfl
theorem qw_223 : (Cond.fieldLink "KitchenTable$Course" (27 : Nat) "KitchenTable$Course" "timesDone" "[[I") ∈ GW := gw_at 223 (by decide +kernel) rfl
theorem qw_224 : (Cond.fieldLink "KitchenTable" (186 : Nat) "KitchenTable$Course" "timesDone" "[[I") ∈ GW := gw_at 224 (by decide +kernel) rfl
theorem qw_225 : (Cond.fieldLink "KitchenTable$Course" (30 : Nat) "KitchenTable$Course" "timesInAll" "[I") ∈ GW := gw_at 225 (by decide +kernel) rfl
theorem qw_226 : (Cond.fieldLink "KitchenTable" (183 : Nat) "KitchenTable$Course" "timesInAll" "[I") ∈ GW := gw_at 226 (by decide +kernel) rfl
theorem qw_227 : (Cond.fieldLink "KitchenTable$Course" (33 : Nat) "KitchenTable$Course" "firstHour" "[I") ∈ GW := gw_at 227 (by decide +kernel) rfl
theorem qw_228 : (Cond.fieldLink "KitchenTable" (189 : Nat) "KitchenTable$Course" "firstHour" "[I") ∈ GW := gw_at 228 (by decide +kernel) rfl
theorem qw_229 : (Cond.fieldLink "KitchenTable$Course" (36 : Nat) "KitchenTable$Course" "firstDoer" "[I") ∈ GW := gw_at 229 (by decide +kernel) rfl
theorem qw_230 : (Cond.fieldLink "KitchenTable" (192 : Nat) "KitchenTable$Course" "firstDoer" "[I") ∈ GW := gw_at 230 (by decide +kernel) rfl
theorem qw_231 : (Cond.fieldLink "KitchenTable$Course" (63 : Nat) "KitchenTable$Course" "table" "LKitchenTable$Table;") ∈ GW := gw_at 231 (by decide +kernel) rfl
theorem qw_232 : (Cond.fieldLink "KitchenTable$Course" (39 : Nat) "KitchenTable$Course" "uppermost" "[I") ∈ GW := gw_at 232 (by decide +kernel) rfl
theorem qw_233 : (Cond.fieldLink "KitchenTable$Course" (42 : Nat) "KitchenTable$Course" "known" "[I") ∈ GW := gw_at 233 (by decide +kernel) rfl
theorem qw_234 : (Cond.fieldLink "KitchenTable$Course" (45 : Nat) "KitchenTable$Course" "askedOf" "[[I") ∈ GW := gw_at 234 (by decide +kernel) rfl
theorem qw_235 : (Cond.fieldLink "KitchenTable$Course" (48 : Nat) "KitchenTable$Course" "toldTo" "[[I") ∈ GW := gw_at 235 (by decide +kernel) rfl
theorem qw_236 : (Cond.fieldLink "KitchenTable$Course" (51 : Nat) "KitchenTable$Course" "facts" "[I") ∈ GW := gw_at 236 (by decide +kernel) rfl
theorem qw_237 : (Cond.fieldLink "KitchenTable$Course" (56 : Nat) "KitchenTable$Course" "stack" "[I") ∈ GW := gw_at 237 (by decide +kernel) rfl
theorem qw_238 : (Cond.fieldLink "KitchenTable$Course" (59 : Nat) "KitchenTable$Course" "gone" "I") ∈ GW := gw_at 238 (by decide +kernel) rfl
theorem qw_239 : (Cond.lays "KitchenTable$Course" "KitchenTable$Course" "stale" "Z") ∈ GW := gw_at 239 (by decide +kernel) rfl
theorem qw_241 : (Cond.laysFinal "KitchenTable$Course" "KitchenTable$Course" "lyingAtEnd" "[I") ∈ GW := gw_at 241 (by decide +kernel) rfl
theorem qw_243 : (Cond.laysFinal "KitchenTable$Course" "KitchenTable$Course" "knownAtEnd" "[[I") ∈ GW := gw_at 243 (by decide +kernel) rfl
theorem qw_245 : (Cond.laysFinal "KitchenTable$Course" "KitchenTable$Course" "firstRead" "[[I") ∈ GW := gw_at 245 (by decide +kernel) rfl
theorem qw_247 : (Cond.laysFinal "KitchenTable$Course" "KitchenTable$Course" "timesDone" "[[I") ∈ GW := gw_at 247 (by decide +kernel) rfl
theorem qw_249 : (Cond.laysFinal "KitchenTable$Course" "KitchenTable$Course" "timesInAll" "[I") ∈ GW := gw_at 249 (by decide +kernel) rfl
theorem qw_251 : (Cond.laysFinal "KitchenTable$Course" "KitchenTable$Course" "firstHour" "[I") ∈ GW := gw_at 251 (by decide +kernel) rfl
theorem qw_253 : (Cond.laysFinal "KitchenTable$Course" "KitchenTable$Course" "firstDoer" "[I") ∈ GW := gw_at 253 (by decide +kernel) rfl
theorem qw_255 : (Cond.laysFinal "KitchenTable$Course" "KitchenTable$Course" "table" "LKitchenTable$Table;") ∈ GW := gw_at 255 (by decide +kernel) rfl
theorem qw_257 : (Cond.laysFinal "KitchenTable$Course" "KitchenTable$Course" "uppermost" "[I") ∈ GW := gw_at 257 (by decide +kernel) rfl
theorem qw_259 : (Cond.laysFinal "KitchenTable$Course" "KitchenTable$Course" "known" "[I") ∈ GW := gw_at 259 (by decide +kernel) rfl
theorem qw_261 : (Cond.laysFinal "KitchenTable$Course" "KitchenTable$Course" "askedOf" "[[I") ∈ GW := gw_at 261 (by decide +kernel) rfl
theorem qw_263 : (Cond.laysFinal "KitchenTable$Course" "KitchenTable$Course" "toldTo" "[[I") ∈ GW := gw_at 263 (by decide +kernel) rfl
theorem qw_265 : (Cond.laysFinal "KitchenTable$Course" "KitchenTable$Course" "facts" "[I") ∈ GW := gw_at 265 (by decide +kernel) rfl
theorem qw_267 : (Cond.laysFinal "KitchenTable$Course" "KitchenTable$Course" "stack" "[I") ∈ GW := gw_at 267 (by decide +kernel) rfl
theorem qw_269 : (Cond.lays "KitchenTable$Course" "KitchenTable$Course" "gone" "I") ∈ GW := gw_at 269 (by decide +kernel) rfl
theorem qw_272 : (Cond.classLink "KitchenTable" (25 : Nat) "KitchenTable$Tape") ∈ GW := gw_at 272 (by decide +kernel) rfl
theorem qw_273 : (Cond.instantiable "KitchenTable$Tape" (5 : Nat)) ∈ GW := gw_at 273 (by decide +kernel) rfl
theorem qw_275 : (Cond.instanceMethod ({ cls := "KitchenTable$Tape", name := "<init>", desc := "()V" } : MethodName)) ∈ GW := gw_at 275 (by decide +kernel) rfl
theorem qw_276 : (Cond.code ({ cls := "KitchenTable$Tape", name := "<init>", desc := "()V" } : MethodName) prog_11_method_1_code (1 : Nat) (Option.none : Option FieldType)) ∈ GW := gw_at 276 (by decide +kernel) rfl
theorem qw_277 : (Cond.methodLink "KitchenTable$Tape" (5 : Nat) ({ cls := "java/lang/Object", name := "<init>", desc := "()V" } : MethodName)) ∈ GW := gw_at 277 (by decide +kernel) rfl
theorem qw_278 : (Cond.fieldLink "KitchenTable$Tape" (11 : Nat) "KitchenTable$Tape" "size" "I") ∈ GW := gw_at 278 (by decide +kernel) rfl
theorem qw_279 : (Cond.fieldLink "KitchenTable$Parser" (49 : Nat) "KitchenTable$Tape" "size" "I") ∈ GW := gw_at 279 (by decide +kernel) rfl
theorem qw_280 : (Cond.fieldLink "KitchenTable" (151 : Nat) "KitchenTable$Tape" "size" "I") ∈ GW := gw_at 280 (by decide +kernel) rfl
theorem qw_281 : (Cond.fieldLink "KitchenTable$Tape" (15 : Nat) "KitchenTable$Tape" "bytes" "[I") ∈ GW := gw_at 281 (by decide +kernel) rfl
theorem qw_282 : (Cond.fieldLink "KitchenTable$Tape" (19 : Nat) "KitchenTable$Tape" "tokens" "[I") ∈ GW := gw_at 282 (by decide +kernel) rfl
theorem qw_284 : (Cond.fieldLink "KitchenTable$Tape" (22 : Nat) "KitchenTable$Tape" "starts" "[I") ∈ GW := gw_at 284 (by decide +kernel) rfl
theorem qw_286 : (Cond.fieldLink "KitchenTable$Tape" (25 : Nat) "KitchenTable$Tape" "at" "I") ∈ GW := gw_at 286 (by decide +kernel) rfl
theorem qw_287 : (Cond.lays "KitchenTable$Tape" "KitchenTable$Tape" "size" "I") ∈ GW := gw_at 287 (by decide +kernel) rfl
theorem qw_289 : (Cond.laysFinal "KitchenTable$Tape" "KitchenTable$Tape" "bytes" "[I") ∈ GW := gw_at 289 (by decide +kernel) rfl
theorem qw_291 : (Cond.laysFinal "KitchenTable$Tape" "KitchenTable$Tape" "tokens" "[I") ∈ GW := gw_at 291 (by decide +kernel) rfl
theorem qw_293 : (Cond.laysFinal "KitchenTable$Tape" "KitchenTable$Tape" "starts" "[I") ∈ GW := gw_at 293 (by decide +kernel) rfl
theorem qw_295 : (Cond.lays "KitchenTable$Tape" "KitchenTable$Tape" "at" "I") ∈ GW := gw_at 295 (by decide +kernel) rfl
theorem qw_298 : (Cond.classLink "KitchenTable" (32 : Nat) "KitchenTable$Marks") ∈ GW := gw_at 298 (by decide +kernel) rfl
theorem qw_299 : (Cond.instantiable "KitchenTable$Marks" (5 : Nat)) ∈ GW := gw_at 299 (by decide +kernel) rfl
theorem qw_301 : (Cond.instanceMethod ({ cls := "KitchenTable$Marks", name := "<init>", desc := "()V" } : MethodName)) ∈ GW := gw_at 301 (by decide +kernel) rfl
theorem qw_302 : (Cond.code ({ cls := "KitchenTable$Marks", name := "<init>", desc := "()V" } : MethodName) prog_5_method_1_code (1 : Nat) (Option.none : Option FieldType)) ∈ GW := gw_at 302 (by decide +kernel) rfl
theorem qw_303 : (Cond.methodLink "KitchenTable$Marks" (3 : Nat) ({ cls := "java/lang/Object", name := "<init>", desc := "()V" } : MethodName)) ∈ GW := gw_at 303 (by decide +kernel) rfl
theorem qw_304 : (Cond.fieldLink "KitchenTable$Marks" (9 : Nat) "KitchenTable$Marks" "ahead" "[I") ∈ GW := gw_at 304 (by decide +kernel) rfl
theorem qw_305 : (Cond.fieldLink "KitchenTable$Marks" (15 : Nat) "KitchenTable$Marks" "behind" "[I") ∈ GW := gw_at 305 (by decide +kernel) rfl
theorem qw_306 : (Cond.fieldLink "KitchenTable$Marks" (18 : Nat) "KitchenTable$Marks" "size" "I") ∈ GW := gw_at 306 (by decide +kernel) rfl
theorem qw_307 : (Cond.fieldLink "KitchenTable" (213 : Nat) "KitchenTable$Marks" "size" "I") ∈ GW := gw_at 307 (by decide +kernel) rfl
theorem qw_308 : (Cond.fieldLink "KitchenTable$Marks" (22 : Nat) "KitchenTable$Marks" "before" "[I") ∈ GW := gw_at 308 (by decide +kernel) rfl
theorem qw_309 : (Cond.fieldLink "KitchenTable$Marks" (25 : Nat) "KitchenTable$Marks" "ways" "[I") ∈ GW := gw_at 309 (by decide +kernel) rfl
theorem qw_310 : (Cond.laysFinal "KitchenTable$Marks" "KitchenTable$Marks" "ahead" "[I") ∈ GW := gw_at 310 (by decide +kernel) rfl
theorem qw_312 : (Cond.laysFinal "KitchenTable$Marks" "KitchenTable$Marks" "behind" "[I") ∈ GW := gw_at 312 (by decide +kernel) rfl
theorem qw_314 : (Cond.lays "KitchenTable$Marks" "KitchenTable$Marks" "size" "I") ∈ GW := gw_at 314 (by decide +kernel) rfl
theorem qw_316 : (Cond.laysFinal "KitchenTable$Marks" "KitchenTable$Marks" "before" "[I") ∈ GW := gw_at 316 (by decide +kernel) rfl
theorem qw_318 : (Cond.laysFinal "KitchenTable$Marks" "KitchenTable$Marks" "ways" "[I") ∈ GW := gw_at 318 (by decide +kernel) rfl
theorem qw_321 : (Cond.classLink "KitchenTable" (39 : Nat) "KitchenTable$Image") ∈ GW := gw_at 321 (by decide +kernel) rfl
theorem qw_322 : (Cond.instantiable "KitchenTable$Image" (7 : Nat)) ∈ GW := gw_at 322 (by decide +kernel) rfl
theorem qw_324 : (Cond.instanceMethod ({ cls := "KitchenTable$Image", name := "<init>", desc := "()V" } : MethodName)) ∈ GW := gw_at 324 (by decide +kernel) rfl
theorem qw_325 : (Cond.code ({ cls := "KitchenTable$Image", name := "<init>", desc := "()V" } : MethodName) prog_4_method_1_code (1 : Nat) (Option.none : Option FieldType)) ∈ GW := gw_at 325 (by decide +kernel) rfl
theorem qw_326 : (Cond.methodLink "KitchenTable$Image" (3 : Nat) ({ cls := "java/lang/Object", name := "<init>", desc := "()V" } : MethodName)) ∈ GW := gw_at 326 (by decide +kernel) rfl
theorem qw_327 : (Cond.classLink "KitchenTable$Image" (19 : Nat) "[[I") ∈ GW := gw_at 327 (by decide +kernel) rfl
theorem qw_328 : (Cond.fieldLink "KitchenTable$Image" (9 : Nat) "KitchenTable$Image" "isThere" "Z") ∈ GW := gw_at 328 (by decide +kernel) rfl
theorem qw_329 : (Cond.fieldLink "KitchenTable" (241 : Nat) "KitchenTable$Image" "isThere" "Z") ∈ GW := gw_at 329 (by decide +kernel) rfl
theorem qw_330 : (Cond.fieldLink "KitchenTable$Image" (15 : Nat) "KitchenTable$Image" "peopleCount" "I") ∈ GW := gw_at 330 (by decide +kernel) rfl
theorem qw_331 : (Cond.fieldLink "KitchenTable" (244 : Nat) "KitchenTable$Image" "peopleCount" "I") ∈ GW := gw_at 331 (by decide +kernel) rfl
theorem qw_332 : (Cond.fieldLink "KitchenTable$Image" (21 : Nat) "KitchenTable$Image" "traits" "[[I") ∈ GW := gw_at 332 (by decide +kernel) rfl
theorem qw_333 : (Cond.fieldLink "KitchenTable" (245 : Nat) "KitchenTable$Image" "traits" "[[I") ∈ GW := gw_at 333 (by decide +kernel) rfl
theorem qw_334 : (Cond.fieldLink "KitchenTable$Image" (24 : Nat) "KitchenTable$Image" "slipCount" "I") ∈ GW := gw_at 334 (by decide +kernel) rfl
theorem qw_335 : (Cond.fieldLink "KitchenTable" (253 : Nat) "KitchenTable$Image" "slipCount" "I") ∈ GW := gw_at 335 (by decide +kernel) rfl
theorem qw_336 : (Cond.fieldLink "KitchenTable$Image" (27 : Nat) "KitchenTable$Image" "hours" "[I") ∈ GW := gw_at 336 (by decide +kernel) rfl
theorem qw_337 : (Cond.fieldLink "KitchenTable" (254 : Nat) "KitchenTable$Image" "hours" "[I") ∈ GW := gw_at 337 (by decide +kernel) rfl
theorem qw_338 : (Cond.fieldLink "KitchenTable$Image" (31 : Nat) "KitchenTable$Image" "markCount" "I") ∈ GW := gw_at 338 (by decide +kernel) rfl
theorem qw_339 : (Cond.fieldLink "KitchenTable" (257 : Nat) "KitchenTable$Image" "markCount" "I") ∈ GW := gw_at 339 (by decide +kernel) rfl
theorem qw_340 : (Cond.fieldLink "KitchenTable$Image" (34 : Nat) "KitchenTable$Image" "ruleNumber" "I") ∈ GW := gw_at 340 (by decide +kernel) rfl
theorem qw_341 : (Cond.fieldLink "KitchenTable" (260 : Nat) "KitchenTable$Image" "ruleNumber" "I") ∈ GW := gw_at 341 (by decide +kernel) rfl
theorem qw_342 : (Cond.lays "KitchenTable$Image" "KitchenTable$Image" "isThere" "Z") ∈ GW := gw_at 342 (by decide +kernel) rfl
theorem qw_344 : (Cond.lays "KitchenTable$Image" "KitchenTable$Image" "peopleCount" "I") ∈ GW := gw_at 344 (by decide +kernel) rfl
theorem qw_346 : (Cond.laysFinal "KitchenTable$Image" "KitchenTable$Image" "traits" "[[I") ∈ GW := gw_at 346 (by decide +kernel) rfl
theorem qw_348 : (Cond.lays "KitchenTable$Image" "KitchenTable$Image" "slipCount" "I") ∈ GW := gw_at 348 (by decide +kernel) rfl
theorem qw_350 : (Cond.laysFinal "KitchenTable$Image" "KitchenTable$Image" "hours" "[I") ∈ GW := gw_at 350 (by decide +kernel) rfl
theorem qw_352 : (Cond.lays "KitchenTable$Image" "KitchenTable$Image" "markCount" "I") ∈ GW := gw_at 352 (by decide +kernel) rfl
theorem qw_354 : (Cond.lays "KitchenTable$Image" "KitchenTable$Image" "ruleNumber" "I") ∈ GW := gw_at 354 (by decide +kernel) rfl
theorem qw_357 : (Cond.classLink "KitchenTable" (46 : Nat) "KitchenTable$Sheet") ∈ GW := gw_at 357 (by decide +kernel) rfl
theorem qw_359 : (Cond.instantiable "KitchenTable$Sheet" (3 : Nat)) ∈ GW := gw_at 359 (by decide +kernel) rfl
theorem qw_361 : (Cond.instanceMethod ({ cls := "KitchenTable$Sheet", name := "<init>", desc := "()V" } : MethodName)) ∈ GW := gw_at 361 (by decide +kernel) rfl
theorem qw_362 : (Cond.code ({ cls := "KitchenTable$Sheet", name := "<init>", desc := "()V" } : MethodName) prog_8_method_1_code (1 : Nat) (Option.none : Option FieldType)) ∈ GW := gw_at 362 (by decide +kernel) rfl
theorem qw_363 : (Cond.methodLink "KitchenTable$Sheet" (3 : Nat) ({ cls := "java/lang/Object", name := "<init>", desc := "()V" } : MethodName)) ∈ GW := gw_at 363 (by decide +kernel) rfl
theorem qw_364 : (Cond.fieldLink "KitchenTable$Sheet" (9 : Nat) "KitchenTable$Sheet" "cells" "[I") ∈ GW := gw_at 364 (by decide +kernel) rfl
theorem qw_365 : (Cond.fieldLink "KitchenTable" (234 : Nat) "KitchenTable$Sheet" "cells" "[I") ∈ GW := gw_at 365 (by decide +kernel) rfl
theorem qw_366 : (Cond.fieldLink "KitchenTable$Sheet" (15 : Nat) "KitchenTable$Sheet" "sort" "I") ∈ GW := gw_at 366 (by decide +kernel) rfl
theorem qw_367 : (Cond.fieldLink "KitchenTable" (271 : Nat) "KitchenTable$Sheet" "sort" "I") ∈ GW := gw_at 367 (by decide +kernel) rfl
theorem qw_368 : (Cond.fieldLink "KitchenTable$Sheet" (19 : Nat) "KitchenTable$Sheet" "size" "I") ∈ GW := gw_at 368 (by decide +kernel) rfl
theorem qw_369 : (Cond.fieldLink "KitchenTable" (233 : Nat) "KitchenTable$Sheet" "size" "I") ∈ GW := gw_at 369 (by decide +kernel) rfl
theorem qw_370 : (Cond.laysFinal "KitchenTable$Sheet" "KitchenTable$Sheet" "cells" "[I") ∈ GW := gw_at 370 (by decide +kernel) rfl
theorem qw_372 : (Cond.lays "KitchenTable$Sheet" "KitchenTable$Sheet" "sort" "I") ∈ GW := gw_at 372 (by decide +kernel) rfl
theorem qw_374 : (Cond.lays "KitchenTable$Sheet" "KitchenTable$Sheet" "size" "I") ∈ GW := gw_at 374 (by decide +kernel) rfl
theorem qw_378 : (Cond.methodLink "KitchenTable" (55 : Nat) ({ cls := "java/lang/String", name := "length", desc := "()I" } : MethodName)) ∈ GW := gw_at 378 (by decide +kernel) rfl
theorem qw_379 : (Cond.instanceMethod ({ cls := "java/lang/String", name := "length", desc := "()I" } : MethodName)) ∈ GW := gw_at 379 (by decide +kernel) rfl
theorem qw_380 : (Cond.selects "java/lang/String" ({ cls := "java/lang/String", name := "length", desc := "()I" } : MethodName) ({ cls := "java/lang/String", name := "length", desc := "()I" } : MethodName)) ∈ GW := gw_at 380 (by decide +kernel) rfl
theorem qw_381 : (Cond.code ({ cls := "java/lang/String", name := "length", desc := "()I" } : MethodName) prog_16_method_54_code (1 : Nat) (Option.some FieldType.int)) ∈ GW := gw_at 381 (by decide +kernel) rfl
theorem qw_382 : (Cond.methodLink "java/lang/String" (335 : Nat) ({ cls := "java/lang/String", name := "coder", desc := "()B" } : MethodName)) ∈ GW := gw_at 382 (by decide +kernel) rfl
theorem qw_383 : (Cond.instanceMethod ({ cls := "java/lang/String", name := "coder", desc := "()B" } : MethodName)) ∈ GW := gw_at 383 (by decide +kernel) rfl
theorem qw_384 : (Cond.selects "java/lang/String" ({ cls := "java/lang/String", name := "coder", desc := "()B" } : MethodName) ({ cls := "java/lang/String", name := "coder", desc := "()B" } : MethodName)) ∈ GW := gw_at 384 (by decide +kernel) rfl
theorem qw_385 : (Cond.code ({ cls := "java/lang/String", name := "coder", desc := "()B" } : MethodName) prog_16_method_152_code (1 : Nat) (Option.some FieldType.byte)) ∈ GW := gw_at 385 (by decide +kernel) rfl
theorem qw_386 : (Cond.fieldLink "java/lang/String" (38 : Nat) "java/lang/String" "COMPACT_STRINGS" "Z") ∈ GW := gw_at 386 (by decide +kernel) rfl
theorem qw_388 : (Cond.methodLink "KitchenTable" (61 : Nat) ({ cls := "java/lang/String", name := "charAt", desc := "(I)C" } : MethodName)) ∈ GW := gw_at 388 (by decide +kernel) rfl
theorem qw_389 : (Cond.instanceMethod ({ cls := "java/lang/String", name := "charAt", desc := "(I)C" } : MethodName)) ∈ GW := gw_at 389 (by decide +kernel) rfl
theorem qw_390 : (Cond.selects "java/lang/String" ({ cls := "java/lang/String", name := "charAt", desc := "(I)C" } : MethodName) ({ cls := "java/lang/String", name := "charAt", desc := "(I)C" } : MethodName)) ∈ GW := gw_at 390 (by decide +kernel) rfl
theorem qw_391 : (Cond.code ({ cls := "java/lang/String", name := "charAt", desc := "(I)C" } : MethodName) prog_16_method_56_code (2 : Nat) (Option.some FieldType.char)) ∈ GW := gw_at 391 (by decide +kernel) rfl
theorem qw_392 : (Cond.methodLink "java/lang/String" (492 : Nat) ({ cls := "java/lang/String", name := "isLatin1", desc := "()Z" } : MethodName)) ∈ GW := gw_at 392 (by decide +kernel) rfl
theorem qw_393 : (Cond.instanceMethod ({ cls := "java/lang/String", name := "isLatin1", desc := "()Z" } : MethodName)) ∈ GW := gw_at 393 (by decide +kernel) rfl
theorem qw_394 : (Cond.selects "java/lang/String" ({ cls := "java/lang/String", name := "isLatin1", desc := "()Z" } : MethodName) ({ cls := "java/lang/String", name := "isLatin1", desc := "()Z" } : MethodName)) ∈ GW := gw_at 394 (by decide +kernel) rfl
theorem qw_395 : (Cond.code ({ cls := "java/lang/String", name := "isLatin1", desc := "()Z" } : MethodName) prog_16_method_154_code (1 : Nat) (Option.some FieldType.boolean)) ∈ GW := gw_at 395 (by decide +kernel) rfl
theorem qw_396 : (Cond.methodLink "java/lang/String" (495 : Nat) ({ cls := "java/lang/StringLatin1", name := "charAt", desc := "([BI)C" } : MethodName)) ∈ GW := gw_at 396 (by decide +kernel) rfl
theorem qw_397 : (Cond.static ({ cls := "java/lang/StringLatin1", name := "charAt", desc := "([BI)C" } : MethodName)) ∈ GW := gw_at 397 (by decide +kernel) rfl
theorem qw_398 : (Cond.code ({ cls := "java/lang/StringLatin1", name := "charAt", desc := "([BI)C" } : MethodName) prog_17_method_2_code (2 : Nat) (Option.some FieldType.char)) ∈ GW := gw_at 398 (by decide +kernel) rfl
theorem qw_399 : (Cond.methodLink "java/lang/StringLatin1" (9 : Nat) ({ cls := "java/lang/String", name := "checkIndex", desc := "(II)V" } : MethodName)) ∈ GW := gw_at 399 (by decide +kernel) rfl
theorem qw_400 : (Cond.static ({ cls := "java/lang/String", name := "checkIndex", desc := "(II)V" } : MethodName)) ∈ GW := gw_at 400 (by decide +kernel) rfl
theorem qw_401 : (Cond.code ({ cls := "java/lang/String", name := "checkIndex", desc := "(II)V" } : MethodName) prog_16_method_155_code (2 : Nat) (Option.none : Option FieldType)) ∈ GW := gw_at 401 (by decide +kernel) rfl
theorem qw_402 : (Cond.fieldLink "java/lang/String" (1053 : Nat) "jdk/internal/util/Preconditions" "SIOOBE_FORMATTER" "Ljava/util/function/BiFunction;") ∈ GW := gw_at 402 (by decide +kernel) rfl
theorem qw_404 : (Cond.methodLink "java/lang/String" (1059 : Nat) ({ cls := "jdk/internal/util/Preconditions", name := "checkIndex", desc := "(IILjava/util/function/BiFunction;)I" } : MethodName)) ∈ GW := gw_at 404 (by decide +kernel) rfl
theorem qw_405 : (Cond.static ({ cls := "jdk/internal/util/Preconditions", name := "checkIndex", desc := "(IILjava/util/function/BiFunction;)I" } : MethodName)) ∈ GW := gw_at 405 (by decide +kernel) rfl
theorem qw_406 : (Cond.code ({ cls := "jdk/internal/util/Preconditions", name := "checkIndex", desc := "(IILjava/util/function/BiFunction;)I" } : MethodName) prog_21_method_11_code (3 : Nat) (Option.some FieldType.int)) ∈ GW := gw_at 406 (by decide +kernel) rfl
theorem qw_407 : (Cond.methodLink "java/lang/String" (498 : Nat) ({ cls := "java/lang/StringUTF16", name := "charAt", desc := "([BI)C" } : MethodName)) ∈ GW := gw_at 407 (by decide +kernel) rfl
theorem qw_408 : (Cond.static ({ cls := "java/lang/StringUTF16", name := "charAt", desc := "([BI)C" } : MethodName)) ∈ GW := gw_at 408 (by decide +kernel) rfl
theorem qw_409 : (Cond.code ({ cls := "java/lang/StringUTF16", name := "charAt", desc := "([BI)C" } : MethodName) prog_18_method_83_code (2 : Nat) (Option.some FieldType.char)) ∈ GW := gw_at 409 (by decide +kernel) rfl
theorem qw_410 : (Cond.methodLink "java/lang/StringUTF16" (67 : Nat) ({ cls := "java/lang/StringUTF16", name := "checkIndex", desc := "(I[B)V" } : MethodName)) ∈ GW := gw_at 410 (by decide +kernel) rfl
theorem qw_411 : (Cond.static ({ cls := "java/lang/StringUTF16", name := "checkIndex", desc := "(I[B)V" } : MethodName)) ∈ GW := gw_at 411 (by decide +kernel) rfl
theorem qw_412 : (Cond.code ({ cls := "java/lang/StringUTF16", name := "checkIndex", desc := "(I[B)V" } : MethodName) prog_18_method_91_code (2 : Nat) (Option.none : Option FieldType)) ∈ GW := gw_at 412 (by decide +kernel) rfl
theorem qw_413 : (Cond.methodLink "java/lang/StringUTF16" (48 : Nat) ({ cls := "java/lang/StringUTF16", name := "length", desc := "([B)I" } : MethodName)) ∈ GW := gw_at 413 (by decide +kernel) rfl
theorem qw_414 : (Cond.static ({ cls := "java/lang/StringUTF16", name := "length", desc := "([B)I" } : MethodName)) ∈ GW := gw_at 414 (by decide +kernel) rfl
theorem qw_415 : (Cond.code ({ cls := "java/lang/StringUTF16", name := "length", desc := "([B)I" } : MethodName) prog_18_method_6_code (1 : Nat) (Option.some FieldType.int)) ∈ GW := gw_at 415 (by decide +kernel) rfl
theorem qw_416 : (Cond.methodLink "java/lang/StringUTF16" (414 : Nat) ({ cls := "java/lang/String", name := "checkIndex", desc := "(II)V" } : MethodName)) ∈ GW := gw_at 416 (by decide +kernel) rfl
theorem qw_417 : (Cond.methodLink "java/lang/StringUTF16" (71 : Nat) ({ cls := "java/lang/StringUTF16", name := "getChar", desc := "([BI)C" } : MethodName)) ∈ GW := gw_at 417 (by decide +kernel) rfl
theorem qw_418 : (Cond.static ({ cls := "java/lang/StringUTF16", name := "getChar", desc := "([BI)C" } : MethodName)) ∈ GW := gw_at 418 (by decide +kernel) rfl
theorem qw_419 : (Cond.code ({ cls := "java/lang/StringUTF16", name := "getChar", desc := "([BI)C" } : MethodName) prog_18_method_5_code (2 : Nat) (Option.some FieldType.char)) ∈ GW := gw_at 419 (by decide +kernel) rfl
theorem qw_420 : (Cond.fieldLink "java/lang/StringUTF16" (44 : Nat) "java/lang/StringUTF16" "$assertionsDisabled" "Z") ∈ GW := gw_at 420 (by decide +kernel) rfl
theorem qw_422 : (Cond.fieldLink "java/lang/StringUTF16" (59 : Nat) "java/lang/StringUTF16" "HI_BYTE_SHIFT" "I") ∈ GW := gw_at 422 (by decide +kernel) rfl
theorem qw_424 : (Cond.fieldLink "java/lang/StringUTF16" (63 : Nat) "java/lang/StringUTF16" "LO_BYTE_SHIFT" "I") ∈ GW := gw_at 424 (by decide +kernel) rfl
theorem qw_426 : (Cond.methodLink "KitchenTable" (65 : Nat) ({ cls := "KitchenTable$Tape", name := "append", desc := "(I)Z" } : MethodName)) ∈ GW := gw_at 426 (by decide +kernel) rfl
theorem qw_427 : (Cond.instanceMethod ({ cls := "KitchenTable$Tape", name := "append", desc := "(I)Z" } : MethodName)) ∈ GW := gw_at 427 (by decide +kernel) rfl
theorem qw_428 : (Cond.selects "KitchenTable$Tape" ({ cls := "KitchenTable$Tape", name := "append", desc := "(I)Z" } : MethodName) ({ cls := "KitchenTable$Tape", name := "append", desc := "(I)Z" } : MethodName)) ∈ GW := gw_at 428 (by decide +kernel) rfl
theorem qw_429 : (Cond.code ({ cls := "KitchenTable$Tape", name := "append", desc := "(I)Z" } : MethodName) prog_11_method_2_code (2 : Nat) (Option.some FieldType.boolean)) ∈ GW := gw_at 429 (by decide +kernel) rfl
theorem qw_430 : (Cond.classLink "KitchenTable" (69 : Nat) "KitchenTable$Parser") ∈ GW := gw_at 430 (by decide +kernel) rfl
theorem qw_431 : (Cond.instantiable "KitchenTable$Parser" (5 : Nat)) ∈ GW := gw_at 431 (by decide +kernel) rfl
theorem qw_432 : (Cond.methodLink "KitchenTable" (75 : Nat) ({ cls := "KitchenTable$Parser", name := "<init>", desc := "(LKitchenTable$Tape;LKitchenTable$Rule;)V" } : MethodName)) ∈ GW := gw_at 432 (by decide +kernel) rfl
theorem qw_433 : (Cond.instanceMethod ({ cls := "KitchenTable$Parser", name := "<init>", desc := "(LKitchenTable$Tape;LKitchenTable$Rule;)V" } : MethodName)) ∈ GW := gw_at 433 (by decide +kernel) rfl
theorem qw_434 : (Cond.code ({ cls := "KitchenTable$Parser", name := "<init>", desc := "(LKitchenTable$Tape;LKitchenTable$Rule;)V" } : MethodName) prog_6_method_1_code (3 : Nat) (Option.none : Option FieldType)) ∈ GW := gw_at 434 (by decide +kernel) rfl
theorem qw_435 : (Cond.methodLink "KitchenTable$Parser" (3 : Nat) ({ cls := "java/lang/Object", name := "<init>", desc := "()V" } : MethodName)) ∈ GW := gw_at 435 (by decide +kernel) rfl
theorem qw_436 : (Cond.fieldLink "KitchenTable$Parser" (21 : Nat) "KitchenTable$Parser" "tape" "LKitchenTable$Tape;") ∈ GW := gw_at 436 (by decide +kernel) rfl
theorem qw_437 : (Cond.fieldLink "KitchenTable$Parser" (25 : Nat) "KitchenTable$Parser" "rule" "LKitchenTable$Rule;") ∈ GW := gw_at 437 (by decide +kernel) rfl
theorem qw_438 : (Cond.fieldLink "KitchenTable$Parser" (9 : Nat) "KitchenTable$Parser" "index" "I") ∈ GW := gw_at 438 (by decide +kernel) rfl
theorem qw_439 : (Cond.fieldLink "KitchenTable$Parser" (15 : Nat) "KitchenTable$Parser" "open" "I") ∈ GW := gw_at 439 (by decide +kernel) rfl
theorem qw_440 : (Cond.fieldLink "KitchenTable$Parser" (18 : Nat) "KitchenTable$Parser" "fault" "I") ∈ GW := gw_at 440 (by decide +kernel) rfl
theorem qw_441 : (Cond.laysFinal "KitchenTable$Parser" "KitchenTable$Parser" "tape" "LKitchenTable$Tape;") ∈ GW := gw_at 441 (by decide +kernel) rfl
theorem qw_443 : (Cond.laysFinal "KitchenTable$Parser" "KitchenTable$Parser" "rule" "LKitchenTable$Rule;") ∈ GW := gw_at 443 (by decide +kernel) rfl
theorem qw_445 : (Cond.lays "KitchenTable$Parser" "KitchenTable$Parser" "index" "I") ∈ GW := gw_at 445 (by decide +kernel) rfl
theorem qw_447 : (Cond.lays "KitchenTable$Parser" "KitchenTable$Parser" "open" "I") ∈ GW := gw_at 447 (by decide +kernel) rfl
theorem qw_449 : (Cond.lays "KitchenTable$Parser" "KitchenTable$Parser" "fault" "I") ∈ GW := gw_at 449 (by decide +kernel) rfl
theorem qw_452 : (Cond.arrayClass FieldType.byte) ∈ GW := gw_at 452 (by decide +kernel) rfl
theorem qw_453 : (Cond.methodLink "KitchenTable" (78 : Nat) ({ cls := "KitchenTable$Parser", name := "parse", desc := "()I" } : MethodName)) ∈ GW := gw_at 453 (by decide +kernel) rfl
theorem qw_454 : (Cond.instanceMethod ({ cls := "KitchenTable$Parser", name := "parse", desc := "()I" } : MethodName)) ∈ GW := gw_at 454 (by decide +kernel) rfl
theorem qw_455 : (Cond.selects "KitchenTable$Parser" ({ cls := "KitchenTable$Parser", name := "parse", desc := "()I" } : MethodName) ({ cls := "KitchenTable$Parser", name := "parse", desc := "()I" } : MethodName)) ∈ GW := gw_at 455 (by decide +kernel) rfl
theorem qw_456 : (Cond.code ({ cls := "KitchenTable$Parser", name := "parse", desc := "()I" } : MethodName) prog_6_method_2_code (2 : Nat) (Option.some FieldType.int)) ∈ GW := gw_at 456 (by decide +kernel) rfl
theorem qw_457 : (Cond.methodLink "KitchenTable$Parser" (29 : Nat) ({ cls := "KitchenTable$Tape", name := "scan", desc := "()V" } : MethodName)) ∈ GW := gw_at 457 (by decide +kernel) rfl
theorem qw_458 : (Cond.instanceMethod ({ cls := "KitchenTable$Tape", name := "scan", desc := "()V" } : MethodName)) ∈ GW := gw_at 458 (by decide +kernel) rfl
theorem qw_459 : (Cond.selects "KitchenTable$Tape" ({ cls := "KitchenTable$Tape", name := "scan", desc := "()V" } : MethodName) ({ cls := "KitchenTable$Tape", name := "scan", desc := "()V" } : MethodName)) ∈ GW := gw_at 459 (by decide +kernel) rfl
theorem qw_460 : (Cond.code ({ cls := "KitchenTable$Tape", name := "scan", desc := "()V" } : MethodName) prog_11_method_3_code (2 : Nat) (Option.none : Option FieldType)) ∈ GW := gw_at 460 (by decide +kernel) rfl
theorem qw_461 : (Cond.methodLink "KitchenTable$Tape" (28 : Nat) ({ cls := "KitchenTable$Tape", name := "skipBlanks", desc := "()V" } : MethodName)) ∈ GW := gw_at 461 (by decide +kernel) rfl
theorem qw_463 : (Cond.instanceMethod ({ cls := "KitchenTable$Tape", name := "skipBlanks", desc := "()V" } : MethodName)) ∈ GW := gw_at 463 (by decide +kernel) rfl
theorem qw_464 : (Cond.code ({ cls := "KitchenTable$Tape", name := "skipBlanks", desc := "()V" } : MethodName) prog_11_method_4_code (1 : Nat) (Option.none : Option FieldType)) ∈ GW := gw_at 464 (by decide +kernel) rfl
theorem qw_465 : (Cond.methodLink "KitchenTable$Tape" (31 : Nat) ({ cls := "KitchenTable$Tape", name := "nextToken", desc := "(I)I" } : MethodName)) ∈ GW := gw_at 465 (by decide +kernel) rfl
theorem qw_467 : (Cond.instanceMethod ({ cls := "KitchenTable$Tape", name := "nextToken", desc := "(I)I" } : MethodName)) ∈ GW := gw_at 467 (by decide +kernel) rfl
theorem qw_468 : (Cond.code ({ cls := "KitchenTable$Tape", name := "nextToken", desc := "(I)I" } : MethodName) prog_11_method_5_code (3 : Nat) (Option.some FieldType.int)) ∈ GW := gw_at 468 (by decide +kernel) rfl
theorem qw_469 : (Cond.methodLink "KitchenTable$Tape" (35 : Nat) ({ cls := "KitchenTable$Tape", name := "isSmall", desc := "(I)Z" } : MethodName)) ∈ GW := gw_at 469 (by decide +kernel) rfl
theorem qw_470 : (Cond.static ({ cls := "KitchenTable$Tape", name := "isSmall", desc := "(I)Z" } : MethodName)) ∈ GW := gw_at 470 (by decide +kernel) rfl
theorem qw_471 : (Cond.code ({ cls := "KitchenTable$Tape", name := "isSmall", desc := "(I)Z" } : MethodName) prog_11_method_9_code (1 : Nat) (Option.some FieldType.boolean)) ∈ GW := gw_at 471 (by decide +kernel) rfl
theorem qw_472 : (Cond.methodLink "KitchenTable$Tape" (39 : Nat) ({ cls := "KitchenTable$Tape", name := "wordToken", desc := "(I)I" } : MethodName)) ∈ GW := gw_at 472 (by decide +kernel) rfl
theorem qw_474 : (Cond.instanceMethod ({ cls := "KitchenTable$Tape", name := "wordToken", desc := "(I)I" } : MethodName)) ∈ GW := gw_at 474 (by decide +kernel) rfl
theorem qw_475 : (Cond.code ({ cls := "KitchenTable$Tape", name := "wordToken", desc := "(I)I" } : MethodName) prog_11_method_7_code (2 : Nat) (Option.some FieldType.int)) ∈ GW := gw_at 475 (by decide +kernel) rfl
theorem qw_477 : (Cond.methodLink "KitchenTable$Tape" (53 : Nat) ({ cls := "KitchenTable$Tape", name := "spells", desc := "(ILjava/lang/String;)Z" } : MethodName)) ∈ GW := gw_at 477 (by decide +kernel) rfl
theorem qw_479 : (Cond.instanceMethod ({ cls := "KitchenTable$Tape", name := "spells", desc := "(ILjava/lang/String;)Z" } : MethodName)) ∈ GW := gw_at 479 (by decide +kernel) rfl
theorem qw_480 : (Cond.code ({ cls := "KitchenTable$Tape", name := "spells", desc := "(ILjava/lang/String;)Z" } : MethodName) prog_11_method_8_code (4 : Nat) (Option.some FieldType.boolean)) ∈ GW := gw_at 480 (by decide +kernel) rfl
theorem qw_481 : (Cond.methodLink "KitchenTable$Tape" (83 : Nat) ({ cls := "java/lang/String", name := "length", desc := "()I" } : MethodName)) ∈ GW := gw_at 481 (by decide +kernel) rfl
theorem qw_482 : (Cond.methodLink "KitchenTable$Tape" (89 : Nat) ({ cls := "java/lang/String", name := "charAt", desc := "(I)C" } : MethodName)) ∈ GW := gw_at 482 (by decide +kernel) rfl
theorem qw_494 : (Cond.methodLink "KitchenTable$Tape" (42 : Nat) ({ cls := "KitchenTable$Tape", name := "isDigit", desc := "(I)Z" } : MethodName)) ∈ GW := gw_at 494 (by decide +kernel) rfl
theorem qw_495 : (Cond.static ({ cls := "KitchenTable$Tape", name := "isDigit", desc := "(I)Z" } : MethodName)) ∈ GW := gw_at 495 (by decide +kernel) rfl
theorem qw_496 : (Cond.code ({ cls := "KitchenTable$Tape", name := "isDigit", desc := "(I)Z" } : MethodName) prog_11_method_10_code (1 : Nat) (Option.some FieldType.boolean)) ∈ GW := gw_at 496 (by decide +kernel) rfl
theorem qw_497 : (Cond.methodLink "KitchenTable$Tape" (45 : Nat) ({ cls := "KitchenTable$Tape", name := "numberToken", desc := "(I)I" } : MethodName)) ∈ GW := gw_at 497 (by decide +kernel) rfl
theorem qw_499 : (Cond.instanceMethod ({ cls := "KitchenTable$Tape", name := "numberToken", desc := "(I)I" } : MethodName)) ∈ GW := gw_at 499 (by decide +kernel) rfl
theorem qw_500 : (Cond.code ({ cls := "KitchenTable$Tape", name := "numberToken", desc := "(I)I" } : MethodName) prog_11_method_6_code (3 : Nat) (Option.some FieldType.int)) ∈ GW := gw_at 500 (by decide +kernel) rfl
theorem qw_501 : (Cond.methodLink "KitchenTable$Tape" (48 : Nat) ({ cls := "KitchenTable$Tape", name := "isSign", desc := "(I)Z" } : MethodName)) ∈ GW := gw_at 501 (by decide +kernel) rfl
theorem qw_502 : (Cond.static ({ cls := "KitchenTable$Tape", name := "isSign", desc := "(I)Z" } : MethodName)) ∈ GW := gw_at 502 (by decide +kernel) rfl
theorem qw_503 : (Cond.code ({ cls := "KitchenTable$Tape", name := "isSign", desc := "(I)Z" } : MethodName) prog_11_method_11_code (1 : Nat) (Option.some FieldType.boolean)) ∈ GW := gw_at 503 (by decide +kernel) rfl
theorem qw_504 : (Cond.methodLink "KitchenTable$Parser" (34 : Nat) ({ cls := "KitchenTable$Rule", name := "clear", desc := "()V" } : MethodName)) ∈ GW := gw_at 504 (by decide +kernel) rfl
theorem qw_505 : (Cond.instanceMethod ({ cls := "KitchenTable$Rule", name := "clear", desc := "()V" } : MethodName)) ∈ GW := gw_at 505 (by decide +kernel) rfl
theorem qw_506 : (Cond.selects "KitchenTable$Rule" ({ cls := "KitchenTable$Rule", name := "clear", desc := "()V" } : MethodName) ({ cls := "KitchenTable$Rule", name := "clear", desc := "()V" } : MethodName)) ∈ GW := gw_at 506 (by decide +kernel) rfl
theorem qw_507 : (Cond.code ({ cls := "KitchenTable$Rule", name := "clear", desc := "()V" } : MethodName) prog_7_method_2_code (1 : Nat) (Option.none : Option FieldType)) ∈ GW := gw_at 507 (by decide +kernel) rfl
theorem qw_508 : (Cond.methodLink "KitchenTable$Parser" (39 : Nat) ({ cls := "KitchenTable$Parser", name := "expect", desc := "(I)V" } : MethodName)) ∈ GW := gw_at 508 (by decide +kernel) rfl
theorem qw_510 : (Cond.instanceMethod ({ cls := "KitchenTable$Parser", name := "expect", desc := "(I)V" } : MethodName)) ∈ GW := gw_at 510 (by decide +kernel) rfl
theorem qw_511 : (Cond.code ({ cls := "KitchenTable$Parser", name := "expect", desc := "(I)V" } : MethodName) prog_6_method_6_code (2 : Nat) (Option.none : Option FieldType)) ∈ GW := gw_at 511 (by decide +kernel) rfl
theorem qw_512 : (Cond.methodLink "KitchenTable$Parser" (59 : Nat) ({ cls := "KitchenTable$Parser", name := "token", desc := "()I" } : MethodName)) ∈ GW := gw_at 512 (by decide +kernel) rfl
theorem qw_514 : (Cond.instanceMethod ({ cls := "KitchenTable$Parser", name := "token", desc := "()I" } : MethodName)) ∈ GW := gw_at 514 (by decide +kernel) rfl
theorem qw_515 : (Cond.code ({ cls := "KitchenTable$Parser", name := "token", desc := "()I" } : MethodName) prog_6_method_3_code (1 : Nat) (Option.some FieldType.int)) ∈ GW := gw_at 515 (by decide +kernel) rfl
theorem qw_516 : (Cond.methodLink "KitchenTable$Parser" (63 : Nat) ({ cls := "KitchenTable$Parser", name := "advance", desc := "()V" } : MethodName)) ∈ GW := gw_at 516 (by decide +kernel) rfl
theorem qw_518 : (Cond.instanceMethod ({ cls := "KitchenTable$Parser", name := "advance", desc := "()V" } : MethodName)) ∈ GW := gw_at 518 (by decide +kernel) rfl
theorem qw_519 : (Cond.code ({ cls := "KitchenTable$Parser", name := "advance", desc := "()V" } : MethodName) prog_6_method_4_code (1 : Nat) (Option.none : Option FieldType)) ∈ GW := gw_at 519 (by decide +kernel) rfl
theorem qw_520 : (Cond.methodLink "KitchenTable$Parser" (66 : Nat) ({ cls := "KitchenTable$Parser", name := "fail", desc := "()V" } : MethodName)) ∈ GW := gw_at 520 (by decide +kernel) rfl
theorem qw_522 : (Cond.instanceMethod ({ cls := "KitchenTable$Parser", name := "fail", desc := "()V" } : MethodName)) ∈ GW := gw_at 522 (by decide +kernel) rfl
theorem qw_523 : (Cond.code ({ cls := "KitchenTable$Parser", name := "fail", desc := "()V" } : MethodName) prog_6_method_5_code (1 : Nat) (Option.none : Option FieldType)) ∈ GW := gw_at 523 (by decide +kernel) rfl
theorem qw_524 : (Cond.methodLink "KitchenTable$Parser" (43 : Nat) ({ cls := "KitchenTable$Parser", name := "level", desc := "(I)V" } : MethodName)) ∈ GW := gw_at 524 (by decide +kernel) rfl
theorem qw_526 : (Cond.instanceMethod ({ cls := "KitchenTable$Parser", name := "level", desc := "(I)V" } : MethodName)) ∈ GW := gw_at 526 (by decide +kernel) rfl
theorem qw_527 : (Cond.code ({ cls := "KitchenTable$Parser", name := "level", desc := "(I)V" } : MethodName) prog_6_method_7_code (2 : Nat) (Option.none : Option FieldType)) ∈ GW := gw_at 527 (by decide +kernel) rfl
theorem qw_528 : (Cond.methodLink "KitchenTable$Parser" (69 : Nat) ({ cls := "KitchenTable$Parser", name := "one", desc := "()V" } : MethodName)) ∈ GW := gw_at 528 (by decide +kernel) rfl
theorem qw_530 : (Cond.instanceMethod ({ cls := "KitchenTable$Parser", name := "one", desc := "()V" } : MethodName)) ∈ GW := gw_at 530 (by decide +kernel) rfl
theorem qw_531 : (Cond.code ({ cls := "KitchenTable$Parser", name := "one", desc := "()V" } : MethodName) prog_6_method_11_code (2 : Nat) (Option.none : Option FieldType)) ∈ GW := gw_at 531 (by decide +kernel) rfl
theorem qw_532 : (Cond.methodLink "KitchenTable$Parser" (82 : Nat) ({ cls := "KitchenTable$Rule", name := "add", desc := "(I)V" } : MethodName)) ∈ GW := gw_at 532 (by decide +kernel) rfl
theorem qw_533 : (Cond.instanceMethod ({ cls := "KitchenTable$Rule", name := "add", desc := "(I)V" } : MethodName)) ∈ GW := gw_at 533 (by decide +kernel) rfl
theorem qw_534 : (Cond.selects "KitchenTable$Rule" ({ cls := "KitchenTable$Rule", name := "add", desc := "(I)V" } : MethodName) ({ cls := "KitchenTable$Rule", name := "add", desc := "(I)V" } : MethodName)) ∈ GW := gw_at 534 (by decide +kernel) rfl
theorem qw_535 : (Cond.code ({ cls := "KitchenTable$Rule", name := "add", desc := "(I)V" } : MethodName) prog_7_method_3_code (2 : Nat) (Option.none : Option FieldType)) ∈ GW := gw_at 535 (by decide +kernel) rfl
theorem qw_536 : (Cond.methodLink "KitchenTable$Parser" (89 : Nat) ({ cls := "KitchenTable$Parser", name := "negative", desc := "()V" } : MethodName)) ∈ GW := gw_at 536 (by decide +kernel) rfl
theorem qw_538 : (Cond.instanceMethod ({ cls := "KitchenTable$Parser", name := "negative", desc := "()V" } : MethodName)) ∈ GW := gw_at 538 (by decide +kernel) rfl
theorem qw_539 : (Cond.code ({ cls := "KitchenTable$Parser", name := "negative", desc := "()V" } : MethodName) prog_6_method_12_code (1 : Nat) (Option.none : Option FieldType)) ∈ GW := gw_at 539 (by decide +kernel) rfl
theorem qw_540 : (Cond.methodLink "KitchenTable$Parser" (85 : Nat) ({ cls := "KitchenTable$Parser", name := "opens", desc := "()Z" } : MethodName)) ∈ GW := gw_at 540 (by decide +kernel) rfl
theorem qw_542 : (Cond.instanceMethod ({ cls := "KitchenTable$Parser", name := "opens", desc := "()Z" } : MethodName)) ∈ GW := gw_at 542 (by decide +kernel) rfl
theorem qw_543 : (Cond.code ({ cls := "KitchenTable$Parser", name := "opens", desc := "()Z" } : MethodName) prog_6_method_14_code (1 : Nat) (Option.some FieldType.boolean)) ∈ GW := gw_at 543 (by decide +kernel) rfl
theorem qw_544 : (Cond.methodLink "KitchenTable$Parser" (92 : Nat) ({ cls := "KitchenTable$Parser", name := "inner", desc := "()V" } : MethodName)) ∈ GW := gw_at 544 (by decide +kernel) rfl
theorem qw_546 : (Cond.instanceMethod ({ cls := "KitchenTable$Parser", name := "inner", desc := "()V" } : MethodName)) ∈ GW := gw_at 546 (by decide +kernel) rfl
theorem qw_547 : (Cond.code ({ cls := "KitchenTable$Parser", name := "inner", desc := "()V" } : MethodName) prog_6_method_13_code (1 : Nat) (Option.none : Option FieldType)) ∈ GW := gw_at 547 (by decide +kernel) rfl
theorem qw_548 : (Cond.methodLink "KitchenTable$Parser" (72 : Nat) ({ cls := "KitchenTable$Parser", name := "negation", desc := "()V" } : MethodName)) ∈ GW := gw_at 548 (by decide +kernel) rfl
theorem qw_550 : (Cond.instanceMethod ({ cls := "KitchenTable$Parser", name := "negation", desc := "()V" } : MethodName)) ∈ GW := gw_at 550 (by decide +kernel) rfl
theorem qw_551 : (Cond.code ({ cls := "KitchenTable$Parser", name := "negation", desc := "()V" } : MethodName) prog_6_method_10_code (1 : Nat) (Option.none : Option FieldType)) ∈ GW := gw_at 551 (by decide +kernel) rfl
theorem qw_552 : (Cond.methodLink "KitchenTable$Parser" (75 : Nat) ({ cls := "KitchenTable$Parser", name := "chain", desc := "(I)V" } : MethodName)) ∈ GW := gw_at 552 (by decide +kernel) rfl
theorem qw_554 : (Cond.instanceMethod ({ cls := "KitchenTable$Parser", name := "chain", desc := "(I)V" } : MethodName)) ∈ GW := gw_at 554 (by decide +kernel) rfl
theorem qw_555 : (Cond.code ({ cls := "KitchenTable$Parser", name := "chain", desc := "(I)V" } : MethodName) prog_6_method_8_code (5 : Nat) (Option.none : Option FieldType)) ∈ GW := gw_at 555 (by decide +kernel) rfl
theorem qw_556 : (Cond.methodLink "KitchenTable$Parser" (78 : Nat) ({ cls := "KitchenTable$Parser", name := "joins", desc := "(I)Z" } : MethodName)) ∈ GW := gw_at 556 (by decide +kernel) rfl
theorem qw_558 : (Cond.instanceMethod ({ cls := "KitchenTable$Parser", name := "joins", desc := "(I)Z" } : MethodName)) ∈ GW := gw_at 558 (by decide +kernel) rfl
theorem qw_559 : (Cond.code ({ cls := "KitchenTable$Parser", name := "joins", desc := "(I)Z" } : MethodName) prog_6_method_9_code (3 : Nat) (Option.some FieldType.boolean)) ∈ GW := gw_at 559 (by decide +kernel) rfl
theorem qw_560 : (Cond.methodLink "KitchenTable$Parser" (46 : Nat) ({ cls := "KitchenTable$Rule", name := "endPart", desc := "(I)V" } : MethodName)) ∈ GW := gw_at 560 (by decide +kernel) rfl
theorem qw_561 : (Cond.instanceMethod ({ cls := "KitchenTable$Rule", name := "endPart", desc := "(I)V" } : MethodName)) ∈ GW := gw_at 561 (by decide +kernel) rfl
theorem qw_562 : (Cond.selects "KitchenTable$Rule" ({ cls := "KitchenTable$Rule", name := "endPart", desc := "(I)V" } : MethodName) ({ cls := "KitchenTable$Rule", name := "endPart", desc := "(I)V" } : MethodName)) ∈ GW := gw_at 562 (by decide +kernel) rfl
theorem qw_563 : (Cond.code ({ cls := "KitchenTable$Rule", name := "endPart", desc := "(I)V" } : MethodName) prog_7_method_4_code (2 : Nat) (Option.none : Option FieldType)) ∈ GW := gw_at 563 (by decide +kernel) rfl
theorem qw_564 : (Cond.fieldLink "KitchenTable" (10 : Nat) "KitchenTable" "table" "LKitchenTable$Table;") ∈ GW := gw_at 564 (by decide +kernel) rfl
theorem qw_565 : (Cond.fieldLink "KitchenTable" (21 : Nat) "KitchenTable" "course" "LKitchenTable$Course;") ∈ GW := gw_at 565 (by decide +kernel) rfl
theorem qw_566 : (Cond.fieldLink "KitchenTable" (28 : Nat) "KitchenTable" "tape" "LKitchenTable$Tape;") ∈ GW := gw_at 566 (by decide +kernel) rfl
theorem qw_567 : (Cond.fieldLink "KitchenTable" (35 : Nat) "KitchenTable" "marks" "LKitchenTable$Marks;") ∈ GW := gw_at 567 (by decide +kernel) rfl
theorem qw_568 : (Cond.fieldLink "KitchenTable" (42 : Nat) "KitchenTable" "kept" "LKitchenTable$Image;") ∈ GW := gw_at 568 (by decide +kernel) rfl
theorem qw_569 : (Cond.fieldLink "KitchenTable" (48 : Nat) "KitchenTable" "sheets" "[LKitchenTable$Sheet;") ∈ GW := gw_at 569 (by decide +kernel) rfl
theorem qw_570 : (Cond.laysFinal "KitchenTable" "KitchenTable" "table" "LKitchenTable$Table;") ∈ GW := gw_at 570 (by decide +kernel) rfl
theorem qw_572 : (Cond.laysFinal "KitchenTable" "KitchenTable" "course" "LKitchenTable$Course;") ∈ GW := gw_at 572 (by decide +kernel) rfl
theorem qw_574 : (Cond.laysFinal "KitchenTable" "KitchenTable" "tape" "LKitchenTable$Tape;") ∈ GW := gw_at 574 (by decide +kernel) rfl
theorem qw_576 : (Cond.laysFinal "KitchenTable" "KitchenTable" "marks" "LKitchenTable$Marks;") ∈ GW := gw_at 576 (by decide +kernel) rfl
theorem qw_578 : (Cond.laysFinal "KitchenTable" "KitchenTable" "kept" "LKitchenTable$Image;") ∈ GW := gw_at 578 (by decide +kernel) rfl
theorem qw_580 : (Cond.laysFinal "KitchenTable" "KitchenTable" "sheets" "[LKitchenTable$Sheet;") ∈ GW := gw_at 580 (by decide +kernel) rfl
theorem qw_583 : (Cond.methodLink "KitchenTableLaw" (13 : Nat) ({ cls := "KitchenTable", name := "person", desc := "(III)I" } : MethodName)) ∈ GW := gw_at 583 (by decide +kernel) rfl
theorem qw_584 : (Cond.instanceMethod ({ cls := "KitchenTable", name := "person", desc := "(III)I" } : MethodName)) ∈ GW := gw_at 584 (by decide +kernel) rfl
theorem qw_585 : (Cond.selects "KitchenTable" ({ cls := "KitchenTable", name := "person", desc := "(III)I" } : MethodName) ({ cls := "KitchenTable", name := "person", desc := "(III)I" } : MethodName)) ∈ GW := gw_at 585 (by decide +kernel) rfl
theorem qw_586 : (Cond.code ({ cls := "KitchenTable", name := "person", desc := "(III)I" } : MethodName) prog_1_method_2_code (6 : Nat) (Option.some FieldType.int)) ∈ GW := gw_at 586 (by decide +kernel) rfl
theorem qw_587 : (Cond.methodLink "KitchenTable" (85 : Nat) ({ cls := "KitchenTable", name := "fits", desc := "(II)Z" } : MethodName)) ∈ GW := gw_at 587 (by decide +kernel) rfl
theorem qw_588 : (Cond.static ({ cls := "KitchenTable", name := "fits", desc := "(II)Z" } : MethodName)) ∈ GW := gw_at 588 (by decide +kernel) rfl
theorem qw_589 : (Cond.code ({ cls := "KitchenTable", name := "fits", desc := "(II)Z" } : MethodName) prog_1_method_36_code (2 : Nat) (Option.some FieldType.boolean)) ∈ GW := gw_at 589 (by decide +kernel) rfl
theorem qw_590 : (Cond.fieldLink "KitchenTable" (280 : Nat) "KitchenTable" "LEAST_TRAIT" "[I") ∈ GW := gw_at 590 (by decide +kernel) rfl
theorem qw_592 : (Cond.fieldLink "KitchenTable" (283 : Nat) "KitchenTable" "MOST_TRAIT" "[I") ∈ GW := gw_at 592 (by decide +kernel) rfl
theorem qw_594 : (Cond.methodLink "KitchenTable" (89 : Nat) ({ cls := "KitchenTable$Table", name := "addGuest", desc := "(IIII)I" } : MethodName)) ∈ GW := gw_at 594 (by decide +kernel) rfl
theorem qw_595 : (Cond.instanceMethod ({ cls := "KitchenTable$Table", name := "addGuest", desc := "(IIII)I" } : MethodName)) ∈ GW := gw_at 595 (by decide +kernel) rfl
theorem qw_596 : (Cond.selects "KitchenTable$Table" ({ cls := "KitchenTable$Table", name := "addGuest", desc := "(IIII)I" } : MethodName) ({ cls := "KitchenTable$Table", name := "addGuest", desc := "(IIII)I" } : MethodName)) ∈ GW := gw_at 596 (by decide +kernel) rfl
theorem qw_597 : (Cond.code ({ cls := "KitchenTable$Table", name := "addGuest", desc := "(IIII)I" } : MethodName) prog_10_method_4_code (6 : Nat) (Option.some FieldType.int)) ∈ GW := gw_at 597 (by decide +kernel) rfl
theorem qw_598 : (Cond.methodLink "KitchenTableLaw" (18 : Nat) ({ cls := "KitchenTable", name := "note", desc := "(III)I" } : MethodName)) ∈ GW := gw_at 598 (by decide +kernel) rfl
theorem qw_599 : (Cond.instanceMethod ({ cls := "KitchenTable", name := "note", desc := "(III)I" } : MethodName)) ∈ GW := gw_at 599 (by decide +kernel) rfl
theorem qw_600 : (Cond.selects "KitchenTable" ({ cls := "KitchenTable", name := "note", desc := "(III)I" } : MethodName) ({ cls := "KitchenTable", name := "note", desc := "(III)I" } : MethodName)) ∈ GW := gw_at 600 (by decide +kernel) rfl
theorem qw_601 : (Cond.code ({ cls := "KitchenTable", name := "note", desc := "(III)I" } : MethodName) prog_1_method_3_code (5 : Nat) (Option.some FieldType.int)) ∈ GW := gw_at 601 (by decide +kernel) rfl
theorem qw_602 : (Cond.methodLink "KitchenTable" (97 : Nat) ({ cls := "KitchenTable", name := "addSlip", desc := "(III)I" } : MethodName)) ∈ GW := gw_at 602 (by decide +kernel) rfl
theorem qw_604 : (Cond.instanceMethod ({ cls := "KitchenTable", name := "addSlip", desc := "(III)I" } : MethodName)) ∈ GW := gw_at 604 (by decide +kernel) rfl
theorem qw_605 : (Cond.code ({ cls := "KitchenTable", name := "addSlip", desc := "(III)I" } : MethodName) prog_1_method_37_code (5 : Nat) (Option.some FieldType.int)) ∈ GW := gw_at 605 (by decide +kernel) rfl
theorem qw_606 : (Cond.methodLink "KitchenTable" (157 : Nat) ({ cls := "KitchenTable", name := "isHour", desc := "(I)Z" } : MethodName)) ∈ GW := gw_at 606 (by decide +kernel) rfl
theorem qw_607 : (Cond.static ({ cls := "KitchenTable", name := "isHour", desc := "(I)Z" } : MethodName)) ∈ GW := gw_at 607 (by decide +kernel) rfl
theorem qw_608 : (Cond.code ({ cls := "KitchenTable", name := "isHour", desc := "(I)Z" } : MethodName) prog_1_method_33_code (1 : Nat) (Option.some FieldType.boolean)) ∈ GW := gw_at 608 (by decide +kernel) rfl
theorem qw_609 : (Cond.methodLink "KitchenTable" (180 : Nat) ({ cls := "KitchenTable", name := "isThing", desc := "(I)Z" } : MethodName)) ∈ GW := gw_at 609 (by decide +kernel) rfl
theorem qw_610 : (Cond.static ({ cls := "KitchenTable", name := "isThing", desc := "(I)Z" } : MethodName)) ∈ GW := gw_at 610 (by decide +kernel) rfl
theorem qw_611 : (Cond.code ({ cls := "KitchenTable", name := "isThing", desc := "(I)Z" } : MethodName) prog_1_method_34_code (1 : Nat) (Option.some FieldType.boolean)) ∈ GW := gw_at 611 (by decide +kernel) rfl
theorem qw_612 : (Cond.methodLink "KitchenTable" (286 : Nat) ({ cls := "KitchenTable$Table", name := "addSlip", desc := "(IIII)I" } : MethodName)) ∈ GW := gw_at 612 (by decide +kernel) rfl
theorem qw_613 : (Cond.instanceMethod ({ cls := "KitchenTable$Table", name := "addSlip", desc := "(IIII)I" } : MethodName)) ∈ GW := gw_at 613 (by decide +kernel) rfl
theorem qw_614 : (Cond.selects "KitchenTable$Table" ({ cls := "KitchenTable$Table", name := "addSlip", desc := "(IIII)I" } : MethodName) ({ cls := "KitchenTable$Table", name := "addSlip", desc := "(IIII)I" } : MethodName)) ∈ GW := gw_at 614 (by decide +kernel) rfl
theorem qw_615 : (Cond.code ({ cls := "KitchenTable$Table", name := "addSlip", desc := "(IIII)I" } : MethodName) prog_10_method_5_code (5 : Nat) (Option.some FieldType.int)) ∈ GW := gw_at 615 (by decide +kernel) rfl
theorem qw_616 : (Cond.methodLink "KitchenTable$Table" (49 : Nat) ({ cls := "KitchenTable$Slip", name := "become", desc := "(IIII)V" } : MethodName)) ∈ GW := gw_at 616 (by decide +kernel) rfl
theorem qw_617 : (Cond.instanceMethod ({ cls := "KitchenTable$Slip", name := "become", desc := "(IIII)V" } : MethodName)) ∈ GW := gw_at 617 (by decide +kernel) rfl
theorem qw_618 : (Cond.selects "KitchenTable$Slip" ({ cls := "KitchenTable$Slip", name := "become", desc := "(IIII)V" } : MethodName) ({ cls := "KitchenTable$Slip", name := "become", desc := "(IIII)V" } : MethodName)) ∈ GW := gw_at 618 (by decide +kernel) rfl
theorem qw_619 : (Cond.code ({ cls := "KitchenTable$Slip", name := "become", desc := "(IIII)V" } : MethodName) prog_9_method_2_code (5 : Nat) (Option.none : Option FieldType)) ∈ GW := gw_at 619 (by decide +kernel) rfl
theorem qw_620 : (Cond.methodLink "KitchenTable$Slip" (24 : Nat) ({ cls := "KitchenTable$Slip", name := "highOf", desc := "(II)I" } : MethodName)) ∈ GW := gw_at 620 (by decide +kernel) rfl
theorem qw_621 : (Cond.static ({ cls := "KitchenTable$Slip", name := "highOf", desc := "(II)I" } : MethodName)) ∈ GW := gw_at 621 (by decide +kernel) rfl
theorem qw_622 : (Cond.code ({ cls := "KitchenTable$Slip", name := "highOf", desc := "(II)I" } : MethodName) prog_9_method_5_code (2 : Nat) (Option.some FieldType.int)) ∈ GW := gw_at 622 (by decide +kernel) rfl
theorem qw_623 : (Cond.methodLink "KitchenTable$Slip" (54 : Nat) ({ cls := "java/lang/Math", name := "max", desc := "(II)I" } : MethodName)) ∈ GW := gw_at 623 (by decide +kernel) rfl
theorem qw_624 : (Cond.static ({ cls := "java/lang/Math", name := "max", desc := "(II)I" } : MethodName)) ∈ GW := gw_at 624 (by decide +kernel) rfl
theorem qw_625 : (Cond.code ({ cls := "java/lang/Math", name := "max", desc := "(II)I" } : MethodName) prog_15_method_65_code (2 : Nat) (Option.some FieldType.int)) ∈ GW := gw_at 625 (by decide +kernel) rfl
theorem qw_626 : (Cond.methodLink "KitchenTable$Slip" (31 : Nat) ({ cls := "KitchenTable$Slip", name := "lastsOf", desc := "(II)I" } : MethodName)) ∈ GW := gw_at 626 (by decide +kernel) rfl
theorem qw_627 : (Cond.static ({ cls := "KitchenTable$Slip", name := "lastsOf", desc := "(II)I" } : MethodName)) ∈ GW := gw_at 627 (by decide +kernel) rfl
theorem qw_628 : (Cond.code ({ cls := "KitchenTable$Slip", name := "lastsOf", desc := "(II)I" } : MethodName) prog_9_method_6_code (2 : Nat) (Option.some FieldType.int)) ∈ GW := gw_at 628 (by decide +kernel) rfl
theorem qw_629 : (Cond.methodLink "KitchenTable$Slip" (37 : Nat) ({ cls := "KitchenTable$Slip", name := "asksOf", desc := "(I)I" } : MethodName)) ∈ GW := gw_at 629 (by decide +kernel) rfl
theorem qw_630 : (Cond.static ({ cls := "KitchenTable$Slip", name := "asksOf", desc := "(I)I" } : MethodName)) ∈ GW := gw_at 630 (by decide +kernel) rfl
theorem qw_631 : (Cond.code ({ cls := "KitchenTable$Slip", name := "asksOf", desc := "(I)I" } : MethodName) prog_9_method_7_code (1 : Nat) (Option.some FieldType.int)) ∈ GW := gw_at 631 (by decide +kernel) rfl
theorem qw_632 : (Cond.methodLink "KitchenTable$Slip" (44 : Nat) ({ cls := "KitchenTable$Slip", name := "tellsOf", desc := "(I)I" } : MethodName)) ∈ GW := gw_at 632 (by decide +kernel) rfl
theorem qw_633 : (Cond.static ({ cls := "KitchenTable$Slip", name := "tellsOf", desc := "(I)I" } : MethodName)) ∈ GW := gw_at 633 (by decide +kernel) rfl
theorem qw_634 : (Cond.code ({ cls := "KitchenTable$Slip", name := "tellsOf", desc := "(I)I" } : MethodName) prog_9_method_8_code (1 : Nat) (Option.some FieldType.int)) ∈ GW := gw_at 634 (by decide +kernel) rfl
theorem qw_635 : (Cond.methodLink "KitchenTableLaw" (22 : Nat) ({ cls := "KitchenTable", name := "set", desc := "(III)I" } : MethodName)) ∈ GW := gw_at 635 (by decide +kernel) rfl
theorem qw_636 : (Cond.instanceMethod ({ cls := "KitchenTable", name := "set", desc := "(III)I" } : MethodName)) ∈ GW := gw_at 636 (by decide +kernel) rfl
theorem qw_637 : (Cond.selects "KitchenTable" ({ cls := "KitchenTable", name := "set", desc := "(III)I" } : MethodName) ({ cls := "KitchenTable", name := "set", desc := "(III)I" } : MethodName)) ∈ GW := gw_at 637 (by decide +kernel) rfl
theorem qw_638 : (Cond.code ({ cls := "KitchenTable", name := "set", desc := "(III)I" } : MethodName) prog_1_method_4_code (6 : Nat) (Option.some FieldType.int)) ∈ GW := gw_at 638 (by decide +kernel) rfl
theorem qw_639 : (Cond.methodLink "KitchenTable" (101 : Nat) ({ cls := "KitchenTable", name := "moveSlip", desc := "(II)I" } : MethodName)) ∈ GW := gw_at 639 (by decide +kernel) rfl
theorem qw_641 : (Cond.instanceMethod ({ cls := "KitchenTable", name := "moveSlip", desc := "(II)I" } : MethodName)) ∈ GW := gw_at 641 (by decide +kernel) rfl
theorem qw_642 : (Cond.code ({ cls := "KitchenTable", name := "moveSlip", desc := "(II)I" } : MethodName) prog_1_method_38_code (5 : Nat) (Option.some FieldType.int)) ∈ GW := gw_at 642 (by decide +kernel) rfl
theorem qw_643 : (Cond.methodLink "KitchenTable" (118 : Nat) ({ cls := "KitchenTable$Table", name := "hasSlip", desc := "(I)Z" } : MethodName)) ∈ GW := gw_at 643 (by decide +kernel) rfl
theorem qw_644 : (Cond.instanceMethod ({ cls := "KitchenTable$Table", name := "hasSlip", desc := "(I)Z" } : MethodName)) ∈ GW := gw_at 644 (by decide +kernel) rfl
theorem qw_645 : (Cond.selects "KitchenTable$Table" ({ cls := "KitchenTable$Table", name := "hasSlip", desc := "(I)Z" } : MethodName) ({ cls := "KitchenTable$Table", name := "hasSlip", desc := "(I)Z" } : MethodName)) ∈ GW := gw_at 645 (by decide +kernel) rfl
theorem qw_646 : (Cond.code ({ cls := "KitchenTable$Table", name := "hasSlip", desc := "(I)Z" } : MethodName) prog_10_method_3_code (2 : Nat) (Option.some FieldType.boolean)) ∈ GW := gw_at 646 (by decide +kernel) rfl
theorem qw_647 : (Cond.methodLink "KitchenTable" (105 : Nat) ({ cls := "KitchenTable$Table", name := "hasGuest", desc := "(I)Z" } : MethodName)) ∈ GW := gw_at 647 (by decide +kernel) rfl
theorem qw_648 : (Cond.instanceMethod ({ cls := "KitchenTable$Table", name := "hasGuest", desc := "(I)Z" } : MethodName)) ∈ GW := gw_at 648 (by decide +kernel) rfl
theorem qw_649 : (Cond.selects "KitchenTable$Table" ({ cls := "KitchenTable$Table", name := "hasGuest", desc := "(I)Z" } : MethodName) ({ cls := "KitchenTable$Table", name := "hasGuest", desc := "(I)Z" } : MethodName)) ∈ GW := gw_at 649 (by decide +kernel) rfl
theorem qw_650 : (Cond.code ({ cls := "KitchenTable$Table", name := "hasGuest", desc := "(I)Z" } : MethodName) prog_10_method_2_code (2 : Nat) (Option.some FieldType.boolean)) ∈ GW := gw_at 650 (by decide +kernel) rfl
theorem qw_651 : (Cond.methodLink "KitchenTableLaw" (26 : Nat) ({ cls := "KitchenTable", name := "told", desc := "(II)I" } : MethodName)) ∈ GW := gw_at 651 (by decide +kernel) rfl
theorem qw_652 : (Cond.instanceMethod ({ cls := "KitchenTable", name := "told", desc := "(II)I" } : MethodName)) ∈ GW := gw_at 652 (by decide +kernel) rfl
theorem qw_653 : (Cond.selects "KitchenTable" ({ cls := "KitchenTable", name := "told", desc := "(II)I" } : MethodName) ({ cls := "KitchenTable", name := "told", desc := "(II)I" } : MethodName)) ∈ GW := gw_at 653 (by decide +kernel) rfl
theorem qw_654 : (Cond.code ({ cls := "KitchenTable", name := "told", desc := "(II)I" } : MethodName) prog_1_method_5_code (4 : Nat) (Option.some FieldType.int)) ∈ GW := gw_at 654 (by decide +kernel) rfl
theorem qw_655 : (Cond.methodLink "KitchenTableLaw" (31 : Nat) ({ cls := "KitchenTable", name := "feed", desc := "(I)I" } : MethodName)) ∈ GW := gw_at 655 (by decide +kernel) rfl
theorem qw_656 : (Cond.instanceMethod ({ cls := "KitchenTable", name := "feed", desc := "(I)I" } : MethodName)) ∈ GW := gw_at 656 (by decide +kernel) rfl
theorem qw_657 : (Cond.selects "KitchenTable" ({ cls := "KitchenTable", name := "feed", desc := "(I)I" } : MethodName) ({ cls := "KitchenTable", name := "feed", desc := "(I)I" } : MethodName)) ∈ GW := gw_at 657 (by decide +kernel) rfl
theorem qw_658 : (Cond.code ({ cls := "KitchenTable", name := "feed", desc := "(I)I" } : MethodName) prog_1_method_6_code (2 : Nat) (Option.some FieldType.int)) ∈ GW := gw_at 658 (by decide +kernel) rfl
theorem qw_659 : (Cond.methodLink "KitchenTableLaw" (36 : Nat) ({ cls := "KitchenTable", name := "text", desc := "()I" } : MethodName)) ∈ GW := gw_at 659 (by decide +kernel) rfl
theorem qw_660 : (Cond.instanceMethod ({ cls := "KitchenTable", name := "text", desc := "()I" } : MethodName)) ∈ GW := gw_at 660 (by decide +kernel) rfl
theorem qw_661 : (Cond.selects "KitchenTable" ({ cls := "KitchenTable", name := "text", desc := "()I" } : MethodName) ({ cls := "KitchenTable", name := "text", desc := "()I" } : MethodName)) ∈ GW := gw_at 661 (by decide +kernel) rfl
theorem qw_662 : (Cond.code ({ cls := "KitchenTable", name := "text", desc := "()I" } : MethodName) prog_1_method_7_code (2 : Nat) (Option.some FieldType.int)) ∈ GW := gw_at 662 (by decide +kernel) rfl
theorem qw_663 : (Cond.methodLink "KitchenTableLaw" (41 : Nat) ({ cls := "KitchenTable", name := "force", desc := "(I)I" } : MethodName)) ∈ GW := gw_at 663 (by decide +kernel) rfl
theorem qw_664 : (Cond.instanceMethod ({ cls := "KitchenTable", name := "force", desc := "(I)I" } : MethodName)) ∈ GW := gw_at 664 (by decide +kernel) rfl
theorem qw_665 : (Cond.selects "KitchenTable" ({ cls := "KitchenTable", name := "force", desc := "(I)I" } : MethodName) ({ cls := "KitchenTable", name := "force", desc := "(I)I" } : MethodName)) ∈ GW := gw_at 665 (by decide +kernel) rfl
theorem qw_666 : (Cond.code ({ cls := "KitchenTable", name := "force", desc := "(I)I" } : MethodName) prog_1_method_8_code (3 : Nat) (Option.some FieldType.int)) ∈ GW := gw_at 666 (by decide +kernel) rfl
theorem qw_667 : (Cond.methodLink "KitchenTableLaw" (45 : Nat) ({ cls := "KitchenTable", name := "lies", desc := "(I)I" } : MethodName)) ∈ GW := gw_at 667 (by decide +kernel) rfl
theorem qw_668 : (Cond.instanceMethod ({ cls := "KitchenTable", name := "lies", desc := "(I)I" } : MethodName)) ∈ GW := gw_at 668 (by decide +kernel) rfl
theorem qw_669 : (Cond.selects "KitchenTable" ({ cls := "KitchenTable", name := "lies", desc := "(I)I" } : MethodName) ({ cls := "KitchenTable", name := "lies", desc := "(I)I" } : MethodName)) ∈ GW := gw_at 669 (by decide +kernel) rfl
theorem qw_670 : (Cond.code ({ cls := "KitchenTable", name := "lies", desc := "(I)I" } : MethodName) prog_1_method_9_code (2 : Nat) (Option.some FieldType.int)) ∈ GW := gw_at 670 (by decide +kernel) rfl
theorem qw_671 : (Cond.methodLink "KitchenTable" (160 : Nat) ({ cls := "KitchenTable", name := "settledCourse", desc := "()LKitchenTable$Course;" } : MethodName)) ∈ GW := gw_at 671 (by decide +kernel) rfl
theorem qw_673 : (Cond.instanceMethod ({ cls := "KitchenTable", name := "settledCourse", desc := "()LKitchenTable$Course;" } : MethodName)) ∈ GW := gw_at 673 (by decide +kernel) rfl
theorem qw_674 : (Cond.code ({ cls := "KitchenTable", name := "settledCourse", desc := "()LKitchenTable$Course;" } : MethodName) prog_1_method_39_code (1 : Nat) (Option.some (FieldType.object "KitchenTable$Course"))) ∈ GW := gw_at 674 (by decide +kernel) rfl
theorem qw_675 : (Cond.methodLink "KitchenTable" (207 : Nat) ({ cls := "KitchenTable$Course", name := "run", desc := "()V" } : MethodName)) ∈ GW := gw_at 675 (by decide +kernel) rfl
theorem qw_676 : (Cond.instanceMethod ({ cls := "KitchenTable$Course", name := "run", desc := "()V" } : MethodName)) ∈ GW := gw_at 676 (by decide +kernel) rfl
theorem qw_677 : (Cond.selects "KitchenTable$Course" ({ cls := "KitchenTable$Course", name := "run", desc := "()V" } : MethodName) ({ cls := "KitchenTable$Course", name := "run", desc := "()V" } : MethodName)) ∈ GW := gw_at 677 (by decide +kernel) rfl
theorem qw_678 : (Cond.code ({ cls := "KitchenTable$Course", name := "run", desc := "()V" } : MethodName) prog_2_method_2_code (4 : Nat) (Option.none : Option FieldType)) ∈ GW := gw_at 678 (by decide +kernel) rfl
theorem qw_679 : (Cond.methodLink "KitchenTable$Course" (67 : Nat) ({ cls := "KitchenTable$Course", name := "clear", desc := "()V" } : MethodName)) ∈ GW := gw_at 679 (by decide +kernel) rfl
theorem qw_681 : (Cond.instanceMethod ({ cls := "KitchenTable$Course", name := "clear", desc := "()V" } : MethodName)) ∈ GW := gw_at 681 (by decide +kernel) rfl
theorem qw_682 : (Cond.code ({ cls := "KitchenTable$Course", name := "clear", desc := "()V" } : MethodName) prog_2_method_5_code (2 : Nat) (Option.none : Option FieldType)) ∈ GW := gw_at 682 (by decide +kernel) rfl
theorem qw_683 : (Cond.methodLink "KitchenTable$Course" (111 : Nat) ({ cls := "java/util/Arrays", name := "fill", desc := "([II)V" } : MethodName)) ∈ GW := gw_at 683 (by decide +kernel) rfl
theorem qw_684 : (Cond.static ({ cls := "java/util/Arrays", name := "fill", desc := "([II)V" } : MethodName)) ∈ GW := gw_at 684 (by decide +kernel) rfl
theorem qw_685 : (Cond.code ({ cls := "java/util/Arrays", name := "fill", desc := "([II)V" } : MethodName) prog_20_method_103_code (4 : Nat) (Option.none : Option FieldType)) ∈ GW := gw_at 685 (by decide +kernel) rfl
theorem qw_686 : (Cond.methodLink "KitchenTable$Course" (70 : Nat) ({ cls := "KitchenTable$Course", name := "sortUppermost", desc := "()V" } : MethodName)) ∈ GW := gw_at 686 (by decide +kernel) rfl
theorem qw_688 : (Cond.instanceMethod ({ cls := "KitchenTable$Course", name := "sortUppermost", desc := "()V" } : MethodName)) ∈ GW := gw_at 688 (by decide +kernel) rfl
theorem qw_689 : (Cond.code ({ cls := "KitchenTable$Course", name := "sortUppermost", desc := "()V" } : MethodName) prog_2_method_6_code (3 : Nat) (Option.none : Option FieldType)) ∈ GW := gw_at 689 (by decide +kernel) rfl
theorem qw_690 : (Cond.methodLink "KitchenTable$Course" (120 : Nat) ({ cls := "KitchenTable$Table", name := "liesAbove", desc := "(II)Z" } : MethodName)) ∈ GW := gw_at 690 (by decide +kernel) rfl
theorem qw_691 : (Cond.instanceMethod ({ cls := "KitchenTable$Table", name := "liesAbove", desc := "(II)Z" } : MethodName)) ∈ GW := gw_at 691 (by decide +kernel) rfl
theorem qw_692 : (Cond.selects "KitchenTable$Table" ({ cls := "KitchenTable$Table", name := "liesAbove", desc := "(II)Z" } : MethodName) ({ cls := "KitchenTable$Table", name := "liesAbove", desc := "(II)Z" } : MethodName)) ∈ GW := gw_at 692 (by decide +kernel) rfl
theorem qw_693 : (Cond.code ({ cls := "KitchenTable$Table", name := "liesAbove", desc := "(II)Z" } : MethodName) prog_10_method_6_code (5 : Nat) (Option.some FieldType.boolean)) ∈ GW := gw_at 693 (by decide +kernel) rfl
theorem qw_694 : (Cond.methodLink "KitchenTable$Course" (73 : Nat) ({ cls := "KitchenTable$Course", name := "putIn", desc := "(I)I" } : MethodName)) ∈ GW := gw_at 694 (by decide +kernel) rfl
theorem qw_696 : (Cond.instanceMethod ({ cls := "KitchenTable$Course", name := "putIn", desc := "(I)I" } : MethodName)) ∈ GW := gw_at 696 (by decide +kernel) rfl
theorem qw_697 : (Cond.code ({ cls := "KitchenTable$Course", name := "putIn", desc := "(I)I" } : MethodName) prog_2_method_7_code (4 : Nat) (Option.some FieldType.int)) ∈ GW := gw_at 697 (by decide +kernel) rfl
theorem qw_698 : (Cond.methodLink "KitchenTable$Course" (128 : Nat) ({ cls := "KitchenTable$Slip", name := "liesIn", desc := "(I)Z" } : MethodName)) ∈ GW := gw_at 698 (by decide +kernel) rfl
theorem qw_699 : (Cond.instanceMethod ({ cls := "KitchenTable$Slip", name := "liesIn", desc := "(I)Z" } : MethodName)) ∈ GW := gw_at 699 (by decide +kernel) rfl
theorem qw_700 : (Cond.selects "KitchenTable$Slip" ({ cls := "KitchenTable$Slip", name := "liesIn", desc := "(I)Z" } : MethodName) ({ cls := "KitchenTable$Slip", name := "liesIn", desc := "(I)Z" } : MethodName)) ∈ GW := gw_at 700 (by decide +kernel) rfl
theorem qw_701 : (Cond.code ({ cls := "KitchenTable$Slip", name := "liesIn", desc := "(I)Z" } : MethodName) prog_9_method_3_code (2 : Nat) (Option.some FieldType.boolean)) ∈ GW := gw_at 701 (by decide +kernel) rfl
theorem qw_702 : (Cond.methodLink "KitchenTable$Course" (86 : Nat) ({ cls := "KitchenTable$Guest", name := "comesIn", desc := "(I)Z" } : MethodName)) ∈ GW := gw_at 702 (by decide +kernel) rfl
theorem qw_703 : (Cond.instanceMethod ({ cls := "KitchenTable$Guest", name := "comesIn", desc := "(I)Z" } : MethodName)) ∈ GW := gw_at 703 (by decide +kernel) rfl
theorem qw_704 : (Cond.selects "KitchenTable$Guest" ({ cls := "KitchenTable$Guest", name := "comesIn", desc := "(I)Z" } : MethodName) ({ cls := "KitchenTable$Guest", name := "comesIn", desc := "(I)Z" } : MethodName)) ∈ GW := gw_at 704 (by decide +kernel) rfl
theorem qw_705 : (Cond.code ({ cls := "KitchenTable$Guest", name := "comesIn", desc := "(I)Z" } : MethodName) prog_3_method_2_code (3 : Nat) (Option.some FieldType.boolean)) ∈ GW := gw_at 705 (by decide +kernel) rfl
theorem qw_706 : (Cond.methodLink "KitchenTable$Course" (92 : Nat) ({ cls := "KitchenTable$Course", name := "visit", desc := "(III)V" } : MethodName)) ∈ GW := gw_at 706 (by decide +kernel) rfl
theorem qw_708 : (Cond.instanceMethod ({ cls := "KitchenTable$Course", name := "visit", desc := "(III)V" } : MethodName)) ∈ GW := gw_at 708 (by decide +kernel) rfl
theorem qw_709 : (Cond.code ({ cls := "KitchenTable$Course", name := "visit", desc := "(III)V" } : MethodName) prog_2_method_8_code (8 : Nat) (Option.none : Option FieldType)) ∈ GW := gw_at 709 (by decide +kernel) rfl
theorem qw_710 : (Cond.methodLink "KitchenTable$Course" (136 : Nat) ({ cls := "KitchenTable$Course", name := "uppermostOf", desc := "(II)I" } : MethodName)) ∈ GW := gw_at 710 (by decide +kernel) rfl
theorem qw_712 : (Cond.instanceMethod ({ cls := "KitchenTable$Course", name := "uppermostOf", desc := "(II)I" } : MethodName)) ∈ GW := gw_at 712 (by decide +kernel) rfl
theorem qw_713 : (Cond.code ({ cls := "KitchenTable$Course", name := "uppermostOf", desc := "(II)I" } : MethodName) prog_2_method_9_code (7 : Nat) (Option.some FieldType.int)) ∈ GW := gw_at 713 (by decide +kernel) rfl
theorem qw_714 : (Cond.methodLink "KitchenTable$Course" (139 : Nat) ({ cls := "KitchenTable$Course", name := "learn", desc := "(III)V" } : MethodName)) ∈ GW := gw_at 714 (by decide +kernel) rfl
theorem qw_716 : (Cond.instanceMethod ({ cls := "KitchenTable$Course", name := "learn", desc := "(III)V" } : MethodName)) ∈ GW := gw_at 716 (by decide +kernel) rfl
theorem qw_717 : (Cond.code ({ cls := "KitchenTable$Course", name := "learn", desc := "(III)V" } : MethodName) prog_2_method_10_code (7 : Nat) (Option.none : Option FieldType)) ∈ GW := gw_at 717 (by decide +kernel) rfl
theorem qw_718 : (Cond.methodLink "KitchenTable$Course" (142 : Nat) ({ cls := "KitchenTable$Course", name := "says", desc := "(IIII)I" } : MethodName)) ∈ GW := gw_at 718 (by decide +kernel) rfl
theorem qw_720 : (Cond.instanceMethod ({ cls := "KitchenTable$Course", name := "says", desc := "(IIII)I" } : MethodName)) ∈ GW := gw_at 720 (by decide +kernel) rfl
theorem qw_721 : (Cond.code ({ cls := "KitchenTable$Course", name := "says", desc := "(IIII)I" } : MethodName) prog_2_method_14_code (5 : Nat) (Option.some FieldType.int)) ∈ GW := gw_at 721 (by decide +kernel) rfl
theorem qw_722 : (Cond.methodLink "KitchenTable$Course" (168 : Nat) ({ cls := "KitchenTable$Rule", name := "value", desc := "(I[I[I)I" } : MethodName)) ∈ GW := gw_at 722 (by decide +kernel) rfl
theorem qw_723 : (Cond.instanceMethod ({ cls := "KitchenTable$Rule", name := "value", desc := "(I[I[I)I" } : MethodName)) ∈ GW := gw_at 723 (by decide +kernel) rfl
theorem qw_724 : (Cond.selects "KitchenTable$Rule" ({ cls := "KitchenTable$Rule", name := "value", desc := "(I[I[I)I" } : MethodName) ({ cls := "KitchenTable$Rule", name := "value", desc := "(I[I[I)I" } : MethodName)) ∈ GW := gw_at 724 (by decide +kernel) rfl
theorem qw_725 : (Cond.code ({ cls := "KitchenTable$Rule", name := "value", desc := "(I[I[I)I" } : MethodName) prog_7_method_5_code (7 : Nat) (Option.some FieldType.int)) ∈ GW := gw_at 725 (by decide +kernel) rfl
theorem qw_726 : (Cond.methodLink "KitchenTable$Rule" (24 : Nat) ({ cls := "KitchenTable$Rule", name := "meant", desc := "(I[I)I" } : MethodName)) ∈ GW := gw_at 726 (by decide +kernel) rfl
theorem qw_727 : (Cond.static ({ cls := "KitchenTable$Rule", name := "meant", desc := "(I[I)I" } : MethodName)) ∈ GW := gw_at 727 (by decide +kernel) rfl
theorem qw_728 : (Cond.code ({ cls := "KitchenTable$Rule", name := "meant", desc := "(I[I)I" } : MethodName) prog_7_method_6_code (3 : Nat) (Option.some FieldType.int)) ∈ GW := gw_at 728 (by decide +kernel) rfl
theorem qw_729 : (Cond.methodLink "KitchenTable$Rule" (28 : Nat) ({ cls := "KitchenTable$Rule", name := "joined", desc := "(III)I" } : MethodName)) ∈ GW := gw_at 729 (by decide +kernel) rfl
theorem qw_730 : (Cond.static ({ cls := "KitchenTable$Rule", name := "joined", desc := "(III)I" } : MethodName)) ∈ GW := gw_at 730 (by decide +kernel) rfl
theorem qw_731 : (Cond.code ({ cls := "KitchenTable$Rule", name := "joined", desc := "(III)I" } : MethodName) prog_7_method_7_code (3 : Nat) (Option.some FieldType.int)) ∈ GW := gw_at 731 (by decide +kernel) rfl
theorem qw_732 : (Cond.methodLink "KitchenTable$Course" (146 : Nat) ({ cls := "KitchenTable$Course", name := "act", desc := "(III)V" } : MethodName)) ∈ GW := gw_at 732 (by decide +kernel) rfl
theorem qw_734 : (Cond.instanceMethod ({ cls := "KitchenTable$Course", name := "act", desc := "(III)V" } : MethodName)) ∈ GW := gw_at 734 (by decide +kernel) rfl
theorem qw_735 : (Cond.code ({ cls := "KitchenTable$Course", name := "act", desc := "(III)V" } : MethodName) prog_2_method_11_code (4 : Nat) (Option.none : Option FieldType)) ∈ GW := gw_at 735 (by decide +kernel) rfl
theorem qw_736 : (Cond.methodLink "KitchenTableLaw" (49 : Nat) ({ cls := "KitchenTable", name := "top", desc := "(I)I" } : MethodName)) ∈ GW := gw_at 736 (by decide +kernel) rfl
theorem qw_737 : (Cond.instanceMethod ({ cls := "KitchenTable", name := "top", desc := "(I)I" } : MethodName)) ∈ GW := gw_at 737 (by decide +kernel) rfl
theorem qw_738 : (Cond.selects "KitchenTable" ({ cls := "KitchenTable", name := "top", desc := "(I)I" } : MethodName) ({ cls := "KitchenTable", name := "top", desc := "(I)I" } : MethodName)) ∈ GW := gw_at 738 (by decide +kernel) rfl
theorem qw_739 : (Cond.code ({ cls := "KitchenTable", name := "top", desc := "(I)I" } : MethodName) prog_1_method_10_code (6 : Nat) (Option.some FieldType.int)) ∈ GW := gw_at 739 (by decide +kernel) rfl
theorem qw_740 : (Cond.methodLink "KitchenTable" (170 : Nat) ({ cls := "KitchenTable$Table", name := "liesAbove", desc := "(II)Z" } : MethodName)) ∈ GW := gw_at 740 (by decide +kernel) rfl
theorem qw_741 : (Cond.methodLink "KitchenTableLaw" (53 : Nat) ({ cls := "KitchenTable", name := "read", desc := "(II)I" } : MethodName)) ∈ GW := gw_at 741 (by decide +kernel) rfl
theorem qw_742 : (Cond.instanceMethod ({ cls := "KitchenTable", name := "read", desc := "(II)I" } : MethodName)) ∈ GW := gw_at 742 (by decide +kernel) rfl
theorem qw_743 : (Cond.selects "KitchenTable" ({ cls := "KitchenTable", name := "read", desc := "(II)I" } : MethodName) ({ cls := "KitchenTable", name := "read", desc := "(II)I" } : MethodName)) ∈ GW := gw_at 743 (by decide +kernel) rfl
theorem qw_744 : (Cond.code ({ cls := "KitchenTable", name := "read", desc := "(II)I" } : MethodName) prog_1_method_11_code (3 : Nat) (Option.some FieldType.int)) ∈ GW := gw_at 744 (by decide +kernel) rfl
theorem qw_745 : (Cond.methodLink "KitchenTableLaw" (57 : Nat) ({ cls := "KitchenTable", name := "knew", desc := "(II)I" } : MethodName)) ∈ GW := gw_at 745 (by decide +kernel) rfl
theorem qw_746 : (Cond.instanceMethod ({ cls := "KitchenTable", name := "knew", desc := "(II)I" } : MethodName)) ∈ GW := gw_at 746 (by decide +kernel) rfl
theorem qw_747 : (Cond.selects "KitchenTable" ({ cls := "KitchenTable", name := "knew", desc := "(II)I" } : MethodName) ({ cls := "KitchenTable", name := "knew", desc := "(II)I" } : MethodName)) ∈ GW := gw_at 747 (by decide +kernel) rfl
theorem qw_748 : (Cond.code ({ cls := "KitchenTable", name := "knew", desc := "(II)I" } : MethodName) prog_1_method_12_code (3 : Nat) (Option.some FieldType.int)) ∈ GW := gw_at 748 (by decide +kernel) rfl
theorem qw_749 : (Cond.methodLink "KitchenTableLaw" (61 : Nat) ({ cls := "KitchenTable", name := "done", desc := "(II)I" } : MethodName)) ∈ GW := gw_at 749 (by decide +kernel) rfl
theorem qw_750 : (Cond.instanceMethod ({ cls := "KitchenTable", name := "done", desc := "(II)I" } : MethodName)) ∈ GW := gw_at 750 (by decide +kernel) rfl
theorem qw_751 : (Cond.selects "KitchenTable" ({ cls := "KitchenTable", name := "done", desc := "(II)I" } : MethodName) ({ cls := "KitchenTable", name := "done", desc := "(II)I" } : MethodName)) ∈ GW := gw_at 751 (by decide +kernel) rfl
theorem qw_752 : (Cond.code ({ cls := "KitchenTable", name := "done", desc := "(II)I" } : MethodName) prog_1_method_13_code (4 : Nat) (Option.some FieldType.int)) ∈ GW := gw_at 752 (by decide +kernel) rfl
theorem qw_753 : (Cond.methodLink "KitchenTableLaw" (65 : Nat) ({ cls := "KitchenTable", name := "when", desc := "(II)I" } : MethodName)) ∈ GW := gw_at 753 (by decide +kernel) rfl
theorem qw_754 : (Cond.instanceMethod ({ cls := "KitchenTable", name := "when", desc := "(II)I" } : MethodName)) ∈ GW := gw_at 754 (by decide +kernel) rfl
theorem qw_755 : (Cond.selects "KitchenTable" ({ cls := "KitchenTable", name := "when", desc := "(II)I" } : MethodName) ({ cls := "KitchenTable", name := "when", desc := "(II)I" } : MethodName)) ∈ GW := gw_at 755 (by decide +kernel) rfl
theorem qw_756 : (Cond.code ({ cls := "KitchenTable", name := "when", desc := "(II)I" } : MethodName) prog_1_method_14_code (4 : Nat) (Option.some FieldType.int)) ∈ GW := gw_at 756 (by decide +kernel) rfl
theorem qw_757 : (Cond.methodLink "KitchenTableLaw" (69 : Nat) ({ cls := "KitchenTable", name := "things", desc := "(I)I" } : MethodName)) ∈ GW := gw_at 757 (by decide +kernel) rfl
theorem qw_758 : (Cond.instanceMethod ({ cls := "KitchenTable", name := "things", desc := "(I)I" } : MethodName)) ∈ GW := gw_at 758 (by decide +kernel) rfl
theorem qw_759 : (Cond.selects "KitchenTable" ({ cls := "KitchenTable", name := "things", desc := "(I)I" } : MethodName) ({ cls := "KitchenTable", name := "things", desc := "(I)I" } : MethodName)) ∈ GW := gw_at 759 (by decide +kernel) rfl
theorem qw_760 : (Cond.code ({ cls := "KitchenTable", name := "things", desc := "(I)I" } : MethodName) prog_1_method_15_code (6 : Nat) (Option.some FieldType.int)) ∈ GW := gw_at 760 (by decide +kernel) rfl
theorem qw_761 : (Cond.methodLink "KitchenTable" (195 : Nat) ({ cls := "KitchenTable$Course", name := "isNeglected", desc := "(I)Z" } : MethodName)) ∈ GW := gw_at 761 (by decide +kernel) rfl
theorem qw_762 : (Cond.instanceMethod ({ cls := "KitchenTable$Course", name := "isNeglected", desc := "(I)Z" } : MethodName)) ∈ GW := gw_at 762 (by decide +kernel) rfl
theorem qw_763 : (Cond.selects "KitchenTable$Course" ({ cls := "KitchenTable$Course", name := "isNeglected", desc := "(I)Z" } : MethodName) ({ cls := "KitchenTable$Course", name := "isNeglected", desc := "(I)Z" } : MethodName)) ∈ GW := gw_at 763 (by decide +kernel) rfl
theorem qw_764 : (Cond.code ({ cls := "KitchenTable$Course", name := "isNeglected", desc := "(I)Z" } : MethodName) prog_2_method_4_code (2 : Nat) (Option.some FieldType.boolean)) ∈ GW := gw_at 764 (by decide +kernel) rfl
theorem qw_765 : (Cond.methodLink "KitchenTable$Course" (108 : Nat) ({ cls := "KitchenTable$Course", name := "askedInAll", desc := "(I)I" } : MethodName)) ∈ GW := gw_at 765 (by decide +kernel) rfl
theorem qw_767 : (Cond.instanceMethod ({ cls := "KitchenTable$Course", name := "askedInAll", desc := "(I)I" } : MethodName)) ∈ GW := gw_at 767 (by decide +kernel) rfl
theorem qw_768 : (Cond.code ({ cls := "KitchenTable$Course", name := "askedInAll", desc := "(I)I" } : MethodName) prog_2_method_13_code (4 : Nat) (Option.some FieldType.int)) ∈ GW := gw_at 768 (by decide +kernel) rfl
theorem qw_769 : (Cond.methodLink "KitchenTableLaw" (73 : Nat) ({ cls := "KitchenTable", name := "harm", desc := "()I" } : MethodName)) ∈ GW := gw_at 769 (by decide +kernel) rfl
theorem qw_770 : (Cond.instanceMethod ({ cls := "KitchenTable", name := "harm", desc := "()I" } : MethodName)) ∈ GW := gw_at 770 (by decide +kernel) rfl
theorem qw_771 : (Cond.selects "KitchenTable" ({ cls := "KitchenTable", name := "harm", desc := "()I" } : MethodName) ({ cls := "KitchenTable", name := "harm", desc := "()I" } : MethodName)) ∈ GW := gw_at 771 (by decide +kernel) rfl
theorem qw_772 : (Cond.code ({ cls := "KitchenTable", name := "harm", desc := "()I" } : MethodName) prog_1_method_16_code (1 : Nat) (Option.some FieldType.int)) ∈ GW := gw_at 772 (by decide +kernel) rfl
theorem qw_773 : (Cond.methodLink "KitchenTable" (198 : Nat) ({ cls := "KitchenTable$Course", name := "harmDone", desc := "()I" } : MethodName)) ∈ GW := gw_at 773 (by decide +kernel) rfl
theorem qw_774 : (Cond.instanceMethod ({ cls := "KitchenTable$Course", name := "harmDone", desc := "()I" } : MethodName)) ∈ GW := gw_at 774 (by decide +kernel) rfl
theorem qw_775 : (Cond.selects "KitchenTable$Course" ({ cls := "KitchenTable$Course", name := "harmDone", desc := "()I" } : MethodName) ({ cls := "KitchenTable$Course", name := "harmDone", desc := "()I" } : MethodName)) ∈ GW := gw_at 775 (by decide +kernel) rfl
theorem qw_776 : (Cond.code ({ cls := "KitchenTable$Course", name := "harmDone", desc := "()I" } : MethodName) prog_2_method_3_code (3 : Nat) (Option.some FieldType.int)) ∈ GW := gw_at 776 (by decide +kernel) rfl
theorem qw_777 : (Cond.methodLink "KitchenTable$Course" (96 : Nat) ({ cls := "KitchenTable$Course", name := "isNeglected", desc := "(I)Z" } : MethodName)) ∈ GW := gw_at 777 (by decide +kernel) rfl
theorem qw_778 : (Cond.methodLink "KitchenTable$Course" (99 : Nat) ({ cls := "KitchenTable$Course", name := "careFor", desc := "(I)I" } : MethodName)) ∈ GW := gw_at 778 (by decide +kernel) rfl
theorem qw_780 : (Cond.instanceMethod ({ cls := "KitchenTable$Course", name := "careFor", desc := "(I)I" } : MethodName)) ∈ GW := gw_at 780 (by decide +kernel) rfl
theorem qw_781 : (Cond.code ({ cls := "KitchenTable$Course", name := "careFor", desc := "(I)I" } : MethodName) prog_2_method_12_code (4 : Nat) (Option.some FieldType.int)) ∈ GW := gw_at 781 (by decide +kernel) rfl
theorem qw_782 : (Cond.methodLink "KitchenTable$Course" (158 : Nat) ({ cls := "java/lang/Math", name := "min", desc := "(II)I" } : MethodName)) ∈ GW := gw_at 782 (by decide +kernel) rfl
theorem qw_783 : (Cond.static ({ cls := "java/lang/Math", name := "min", desc := "(II)I" } : MethodName)) ∈ GW := gw_at 783 (by decide +kernel) rfl
theorem qw_784 : (Cond.code ({ cls := "java/lang/Math", name := "min", desc := "(II)I" } : MethodName) prog_15_method_69_code (2 : Nat) (Option.some FieldType.int)) ∈ GW := gw_at 784 (by decide +kernel) rfl
theorem qw_785 : (Cond.methodLink "KitchenTable$Course" (102 : Nat) ({ cls := "java/lang/Math", name := "max", desc := "(II)I" } : MethodName)) ∈ GW := gw_at 785 (by decide +kernel) rfl
theorem qw_786 : (Cond.methodLink "KitchenTableLaw" (77 : Nat) ({ cls := "KitchenTable", name := "helps", desc := "(I)I" } : MethodName)) ∈ GW := gw_at 786 (by decide +kernel) rfl
theorem qw_787 : (Cond.instanceMethod ({ cls := "KitchenTable", name := "helps", desc := "(I)I" } : MethodName)) ∈ GW := gw_at 787 (by decide +kernel) rfl
theorem qw_788 : (Cond.selects "KitchenTable" ({ cls := "KitchenTable", name := "helps", desc := "(I)I" } : MethodName) ({ cls := "KitchenTable", name := "helps", desc := "(I)I" } : MethodName)) ∈ GW := gw_at 788 (by decide +kernel) rfl
theorem qw_789 : (Cond.code ({ cls := "KitchenTable", name := "helps", desc := "(I)I" } : MethodName) prog_1_method_17_code (6 : Nat) (Option.some FieldType.int)) ∈ GW := gw_at 789 (by decide +kernel) rfl
theorem qw_790 : (Cond.methodLink "KitchenTable" (204 : Nat) ({ cls := "KitchenTable", name := "harmIfReading", desc := "(II)I" } : MethodName)) ∈ GW := gw_at 790 (by decide +kernel) rfl
theorem qw_792 : (Cond.instanceMethod ({ cls := "KitchenTable", name := "harmIfReading", desc := "(II)I" } : MethodName)) ∈ GW := gw_at 792 (by decide +kernel) rfl
theorem qw_793 : (Cond.code ({ cls := "KitchenTable", name := "harmIfReading", desc := "(II)I" } : MethodName) prog_1_method_40_code (6 : Nat) (Option.some FieldType.int)) ∈ GW := gw_at 793 (by decide +kernel) rfl
theorem qw_794 : (Cond.methodLink "KitchenTableLaw" (81 : Nat) ({ cls := "KitchenTable", name := "once", desc := "(I)I" } : MethodName)) ∈ GW := gw_at 794 (by decide +kernel) rfl
theorem qw_795 : (Cond.instanceMethod ({ cls := "KitchenTable", name := "once", desc := "(I)I" } : MethodName)) ∈ GW := gw_at 795 (by decide +kernel) rfl
theorem qw_796 : (Cond.selects "KitchenTable" ({ cls := "KitchenTable", name := "once", desc := "(I)I" } : MethodName) ({ cls := "KitchenTable", name := "once", desc := "(I)I" } : MethodName)) ∈ GW := gw_at 796 (by decide +kernel) rfl
theorem qw_797 : (Cond.code ({ cls := "KitchenTable", name := "once", desc := "(I)I" } : MethodName) prog_1_method_18_code (6 : Nat) (Option.some FieldType.int)) ∈ GW := gw_at 797 (by decide +kernel) rfl
theorem qw_798 : (Cond.methodLink "KitchenTableLaw" (85 : Nat) ({ cls := "KitchenTable", name := "whose", desc := "(II)I" } : MethodName)) ∈ GW := gw_at 798 (by decide +kernel) rfl
theorem qw_799 : (Cond.instanceMethod ({ cls := "KitchenTable", name := "whose", desc := "(II)I" } : MethodName)) ∈ GW := gw_at 799 (by decide +kernel) rfl
theorem qw_800 : (Cond.selects "KitchenTable" ({ cls := "KitchenTable", name := "whose", desc := "(II)I" } : MethodName) ({ cls := "KitchenTable", name := "whose", desc := "(II)I" } : MethodName)) ∈ GW := gw_at 800 (by decide +kernel) rfl
theorem qw_801 : (Cond.code ({ cls := "KitchenTable", name := "whose", desc := "(II)I" } : MethodName) prog_1_method_19_code (4 : Nat) (Option.some FieldType.int)) ∈ GW := gw_at 801 (by decide +kernel) rfl
theorem qw_802 : (Cond.methodLink "KitchenTableLaw" (89 : Nat) ({ cls := "KitchenTable", name := "mark", desc := "(II)I" } : MethodName)) ∈ GW := gw_at 802 (by decide +kernel) rfl
theorem qw_803 : (Cond.instanceMethod ({ cls := "KitchenTable", name := "mark", desc := "(II)I" } : MethodName)) ∈ GW := gw_at 803 (by decide +kernel) rfl
theorem qw_804 : (Cond.selects "KitchenTable" ({ cls := "KitchenTable", name := "mark", desc := "(II)I" } : MethodName) ({ cls := "KitchenTable", name := "mark", desc := "(II)I" } : MethodName)) ∈ GW := gw_at 804 (by decide +kernel) rfl
theorem qw_805 : (Cond.code ({ cls := "KitchenTable", name := "mark", desc := "(II)I" } : MethodName) prog_1_method_20_code (3 : Nat) (Option.some FieldType.int)) ∈ GW := gw_at 805 (by decide +kernel) rfl
theorem qw_806 : (Cond.methodLink "KitchenTable" (210 : Nat) ({ cls := "KitchenTable$Marks", name := "add", desc := "(II)Z" } : MethodName)) ∈ GW := gw_at 806 (by decide +kernel) rfl
theorem qw_807 : (Cond.instanceMethod ({ cls := "KitchenTable$Marks", name := "add", desc := "(II)Z" } : MethodName)) ∈ GW := gw_at 807 (by decide +kernel) rfl
theorem qw_808 : (Cond.selects "KitchenTable$Marks" ({ cls := "KitchenTable$Marks", name := "add", desc := "(II)Z" } : MethodName) ({ cls := "KitchenTable$Marks", name := "add", desc := "(II)Z" } : MethodName)) ∈ GW := gw_at 808 (by decide +kernel) rfl
theorem qw_809 : (Cond.code ({ cls := "KitchenTable$Marks", name := "add", desc := "(II)Z" } : MethodName) prog_5_method_2_code (3 : Nat) (Option.some FieldType.boolean)) ∈ GW := gw_at 809 (by decide +kernel) rfl
theorem qw_810 : (Cond.methodLink "KitchenTableLaw" (93 : Nat) ({ cls := "KitchenTable", name := "orders", desc := "()J" } : MethodName)) ∈ GW := gw_at 810 (by decide +kernel) rfl
theorem qw_811 : (Cond.instanceMethod ({ cls := "KitchenTable", name := "orders", desc := "()J" } : MethodName)) ∈ GW := gw_at 811 (by decide +kernel) rfl
theorem qw_812 : (Cond.selects "KitchenTable" ({ cls := "KitchenTable", name := "orders", desc := "()J" } : MethodName) ({ cls := "KitchenTable", name := "orders", desc := "()J" } : MethodName)) ∈ GW := gw_at 812 (by decide +kernel) rfl
theorem qw_813 : (Cond.code ({ cls := "KitchenTable", name := "orders", desc := "()J" } : MethodName) prog_1_method_21_code (1 : Nat) (Option.some FieldType.long)) ∈ GW := gw_at 813 (by decide +kernel) rfl
theorem qw_814 : (Cond.methodLink "KitchenTable" (214 : Nat) ({ cls := "KitchenTable$Marks", name := "ordersOf", desc := "(III)I" } : MethodName)) ∈ GW := gw_at 814 (by decide +kernel) rfl
theorem qw_815 : (Cond.instanceMethod ({ cls := "KitchenTable$Marks", name := "ordersOf", desc := "(III)I" } : MethodName)) ∈ GW := gw_at 815 (by decide +kernel) rfl
theorem qw_816 : (Cond.selects "KitchenTable$Marks" ({ cls := "KitchenTable$Marks", name := "ordersOf", desc := "(III)I" } : MethodName) ({ cls := "KitchenTable$Marks", name := "ordersOf", desc := "(III)I" } : MethodName)) ∈ GW := gw_at 816 (by decide +kernel) rfl
theorem qw_817 : (Cond.code ({ cls := "KitchenTable$Marks", name := "ordersOf", desc := "(III)I" } : MethodName) prog_5_method_3_code (6 : Nat) (Option.some FieldType.int)) ∈ GW := gw_at 817 (by decide +kernel) rfl
theorem qw_818 : (Cond.methodLink "KitchenTable$Marks" (28 : Nat) ({ cls := "java/util/Arrays", name := "fill", desc := "([II)V" } : MethodName)) ∈ GW := gw_at 818 (by decide +kernel) rfl
theorem qw_819 : (Cond.methodLink "KitchenTable$Marks" (34 : Nat) ({ cls := "KitchenTable$Marks", name := "waysOf", desc := "(II)I" } : MethodName)) ∈ GW := gw_at 819 (by decide +kernel) rfl
theorem qw_821 : (Cond.instanceMethod ({ cls := "KitchenTable$Marks", name := "waysOf", desc := "(II)I" } : MethodName)) ∈ GW := gw_at 821 (by decide +kernel) rfl
theorem qw_822 : (Cond.code ({ cls := "KitchenTable$Marks", name := "waysOf", desc := "(II)I" } : MethodName) prog_5_method_4_code (5 : Nat) (Option.some FieldType.int)) ∈ GW := gw_at 822 (by decide +kernel) rfl
theorem qw_823 : (Cond.methodLink "KitchenTableLaw" (98 : Nat) ({ cls := "KitchenTable", name := "odds", desc := "(III)J" } : MethodName)) ∈ GW := gw_at 823 (by decide +kernel) rfl
theorem qw_824 : (Cond.instanceMethod ({ cls := "KitchenTable", name := "odds", desc := "(III)J" } : MethodName)) ∈ GW := gw_at 824 (by decide +kernel) rfl
theorem qw_825 : (Cond.selects "KitchenTable" ({ cls := "KitchenTable", name := "odds", desc := "(III)J" } : MethodName) ({ cls := "KitchenTable", name := "odds", desc := "(III)J" } : MethodName)) ∈ GW := gw_at 825 (by decide +kernel) rfl
theorem qw_826 : (Cond.code ({ cls := "KitchenTable", name := "odds", desc := "(III)J" } : MethodName) prog_1_method_22_code (8 : Nat) (Option.some FieldType.long)) ∈ GW := gw_at 826 (by decide +kernel) rfl
theorem qw_827 : (Cond.constantLong "KitchenTable" (217 : Nat) (-4611686018427387904 : Int64)) ∈ GW := gw_at 827 (by decide +kernel) rfl
theorem qw_828 : (Cond.methodLink "KitchenTable" (219 : Nat) ({ cls := "KitchenTable", name := "greatestDivisor", desc := "(II)I" } : MethodName)) ∈ GW := gw_at 828 (by decide +kernel) rfl
theorem qw_829 : (Cond.static ({ cls := "KitchenTable", name := "greatestDivisor", desc := "(II)I" } : MethodName)) ∈ GW := gw_at 829 (by decide +kernel) rfl
theorem qw_830 : (Cond.code ({ cls := "KitchenTable", name := "greatestDivisor", desc := "(II)I" } : MethodName) prog_1_method_41_code (6 : Nat) (Option.some FieldType.int)) ∈ GW := gw_at 830 (by decide +kernel) rfl
theorem qw_831 : (Cond.methodLink "KitchenTableLaw" (103 : Nat) ({ cls := "KitchenTable", name := "place", desc := "(II)I" } : MethodName)) ∈ GW := gw_at 831 (by decide +kernel) rfl
theorem qw_832 : (Cond.instanceMethod ({ cls := "KitchenTable", name := "place", desc := "(II)I" } : MethodName)) ∈ GW := gw_at 832 (by decide +kernel) rfl
theorem qw_833 : (Cond.selects "KitchenTable" ({ cls := "KitchenTable", name := "place", desc := "(II)I" } : MethodName) ({ cls := "KitchenTable", name := "place", desc := "(II)I" } : MethodName)) ∈ GW := gw_at 833 (by decide +kernel) rfl
theorem qw_834 : (Cond.code ({ cls := "KitchenTable", name := "place", desc := "(II)I" } : MethodName) prog_1_method_23_code (3 : Nat) (Option.some FieldType.int)) ∈ GW := gw_at 834 (by decide +kernel) rfl
theorem qw_835 : (Cond.methodLink "KitchenTable" (222 : Nat) ({ cls := "KitchenTable$Marks", name := "farthestPlace", desc := "(IIZ)I" } : MethodName)) ∈ GW := gw_at 835 (by decide +kernel) rfl
theorem qw_836 : (Cond.instanceMethod ({ cls := "KitchenTable$Marks", name := "farthestPlace", desc := "(IIZ)I" } : MethodName)) ∈ GW := gw_at 836 (by decide +kernel) rfl
theorem qw_837 : (Cond.selects "KitchenTable$Marks" ({ cls := "KitchenTable$Marks", name := "farthestPlace", desc := "(IIZ)I" } : MethodName) ({ cls := "KitchenTable$Marks", name := "farthestPlace", desc := "(IIZ)I" } : MethodName)) ∈ GW := gw_at 837 (by decide +kernel) rfl
theorem qw_838 : (Cond.code ({ cls := "KitchenTable$Marks", name := "farthestPlace", desc := "(IIZ)I" } : MethodName) prog_5_method_5_code (8 : Nat) (Option.some FieldType.int)) ∈ GW := gw_at 838 (by decide +kernel) rfl
theorem qw_839 : (Cond.methodLink "KitchenTable$Marks" (38 : Nat) ({ cls := "java/lang/Integer", name := "bitCount", desc := "(I)I" } : MethodName)) ∈ GW := gw_at 839 (by decide +kernel) rfl
theorem qw_840 : (Cond.static ({ cls := "java/lang/Integer", name := "bitCount", desc := "(I)I" } : MethodName)) ∈ GW := gw_at 840 (by decide +kernel) rfl
theorem qw_841 : (Cond.code ({ cls := "java/lang/Integer", name := "bitCount", desc := "(I)I" } : MethodName) prog_14_method_49_code (1 : Nat) (Option.some FieldType.int)) ∈ GW := gw_at 841 (by decide +kernel) rfl
theorem qw_842 : (Cond.constant "java/lang/Integer" (265 : Nat) (1431655765 : Int32)) ∈ GW := gw_at 842 (by decide +kernel) rfl
theorem qw_843 : (Cond.constant "java/lang/Integer" (266 : Nat) (858993459 : Int32)) ∈ GW := gw_at 843 (by decide +kernel) rfl
theorem qw_844 : (Cond.constant "java/lang/Integer" (267 : Nat) (252645135 : Int32)) ∈ GW := gw_at 844 (by decide +kernel) rfl
theorem qw_845 : (Cond.methodLink "KitchenTableLaw" (107 : Nat) ({ cls := "KitchenTable", name := "came", desc := "(I)I" } : MethodName)) ∈ GW := gw_at 845 (by decide +kernel) rfl
theorem qw_846 : (Cond.instanceMethod ({ cls := "KitchenTable", name := "came", desc := "(I)I" } : MethodName)) ∈ GW := gw_at 846 (by decide +kernel) rfl
theorem qw_847 : (Cond.selects "KitchenTable" ({ cls := "KitchenTable", name := "came", desc := "(I)I" } : MethodName) ({ cls := "KitchenTable", name := "came", desc := "(I)I" } : MethodName)) ∈ GW := gw_at 847 (by decide +kernel) rfl
theorem qw_848 : (Cond.code ({ cls := "KitchenTable", name := "came", desc := "(I)I" } : MethodName) prog_1_method_24_code (4 : Nat) (Option.some FieldType.int)) ∈ GW := gw_at 848 (by decide +kernel) rfl
theorem qw_849 : (Cond.methodLink "KitchenTable" (226 : Nat) ({ cls := "KitchenTable", name := "isSheet", desc := "(I)Z" } : MethodName)) ∈ GW := gw_at 849 (by decide +kernel) rfl
theorem qw_850 : (Cond.static ({ cls := "KitchenTable", name := "isSheet", desc := "(I)Z" } : MethodName)) ∈ GW := gw_at 850 (by decide +kernel) rfl
theorem qw_851 : (Cond.code ({ cls := "KitchenTable", name := "isSheet", desc := "(I)Z" } : MethodName) prog_1_method_35_code (1 : Nat) (Option.some FieldType.boolean)) ∈ GW := gw_at 851 (by decide +kernel) rfl
theorem qw_852 : (Cond.methodLink "KitchenTable" (229 : Nat) ({ cls := "KitchenTable$Sheet", name := "isMissing", desc := "()Z" } : MethodName)) ∈ GW := gw_at 852 (by decide +kernel) rfl
theorem qw_853 : (Cond.instanceMethod ({ cls := "KitchenTable$Sheet", name := "isMissing", desc := "()Z" } : MethodName)) ∈ GW := gw_at 853 (by decide +kernel) rfl
theorem qw_854 : (Cond.selects "KitchenTable$Sheet" ({ cls := "KitchenTable$Sheet", name := "isMissing", desc := "()Z" } : MethodName) ({ cls := "KitchenTable$Sheet", name := "isMissing", desc := "()Z" } : MethodName)) ∈ GW := gw_at 854 (by decide +kernel) rfl
theorem qw_855 : (Cond.code ({ cls := "KitchenTable$Sheet", name := "isMissing", desc := "()Z" } : MethodName) prog_8_method_2_code (1 : Nat) (Option.some FieldType.boolean)) ∈ GW := gw_at 855 (by decide +kernel) rfl
theorem qw_856 : (Cond.methodLink "KitchenTable" (237 : Nat) ({ cls := "KitchenTable$Table", name := "whoComes", desc := "(I)I" } : MethodName)) ∈ GW := gw_at 856 (by decide +kernel) rfl
theorem qw_857 : (Cond.instanceMethod ({ cls := "KitchenTable$Table", name := "whoComes", desc := "(I)I" } : MethodName)) ∈ GW := gw_at 857 (by decide +kernel) rfl
theorem qw_858 : (Cond.selects "KitchenTable$Table" ({ cls := "KitchenTable$Table", name := "whoComes", desc := "(I)I" } : MethodName) ({ cls := "KitchenTable$Table", name := "whoComes", desc := "(I)I" } : MethodName)) ∈ GW := gw_at 858 (by decide +kernel) rfl
theorem qw_859 : (Cond.code ({ cls := "KitchenTable$Table", name := "whoComes", desc := "(I)I" } : MethodName) prog_10_method_7_code (4 : Nat) (Option.some FieldType.int)) ∈ GW := gw_at 859 (by decide +kernel) rfl
theorem qw_860 : (Cond.methodLink "KitchenTable$Table" (59 : Nat) ({ cls := "KitchenTable$Guest", name := "comesIn", desc := "(I)Z" } : MethodName)) ∈ GW := gw_at 860 (by decide +kernel) rfl
theorem qw_861 : (Cond.methodLink "KitchenTableLaw" (111 : Nat) ({ cls := "KitchenTable", name := "image", desc := "()I" } : MethodName)) ∈ GW := gw_at 861 (by decide +kernel) rfl
theorem qw_862 : (Cond.instanceMethod ({ cls := "KitchenTable", name := "image", desc := "()I" } : MethodName)) ∈ GW := gw_at 862 (by decide +kernel) rfl
theorem qw_863 : (Cond.selects "KitchenTable" ({ cls := "KitchenTable", name := "image", desc := "()I" } : MethodName) ({ cls := "KitchenTable", name := "image", desc := "()I" } : MethodName)) ∈ GW := gw_at 863 (by decide +kernel) rfl
theorem qw_864 : (Cond.code ({ cls := "KitchenTable", name := "image", desc := "()I" } : MethodName) prog_1_method_25_code (2 : Nat) (Option.some FieldType.int)) ∈ GW := gw_at 864 (by decide +kernel) rfl
theorem qw_865 : (Cond.methodLink "KitchenTable" (247 : Nat) ({ cls := "java/lang/System", name := "arraycopy", desc := "(Ljava/lang/Object;ILjava/lang/Object;II)V" } : MethodName)) ∈ GW := gw_at 865 (by decide +kernel) rfl
theorem qw_866 : (Cond.static ({ cls := "java/lang/System", name := "arraycopy", desc := "(Ljava/lang/Object;ILjava/lang/Object;II)V" } : MethodName)) ∈ GW := gw_at 866 (by decide +kernel) rfl
theorem qw_867 : (Cond.native ({ cls := "java/lang/System", name := "arraycopy", desc := "(Ljava/lang/Object;ILjava/lang/Object;II)V" } : MethodName)) ∈ GW := gw_at 867 (by decide +kernel) rfl
theorem qw_868 : (Cond.methodLink "KitchenTableLaw" (115 : Nat) ({ cls := "KitchenTable", name := "back", desc := "()I" } : MethodName)) ∈ GW := gw_at 868 (by decide +kernel) rfl
theorem qw_869 : (Cond.instanceMethod ({ cls := "KitchenTable", name := "back", desc := "()I" } : MethodName)) ∈ GW := gw_at 869 (by decide +kernel) rfl
theorem qw_870 : (Cond.selects "KitchenTable" ({ cls := "KitchenTable", name := "back", desc := "()I" } : MethodName) ({ cls := "KitchenTable", name := "back", desc := "()I" } : MethodName)) ∈ GW := gw_at 870 (by decide +kernel) rfl
theorem qw_871 : (Cond.code ({ cls := "KitchenTable", name := "back", desc := "()I" } : MethodName) prog_1_method_26_code (2 : Nat) (Option.some FieldType.int)) ∈ GW := gw_at 871 (by decide +kernel) rfl
theorem qw_872 : (Cond.methodLink "KitchenTableLaw" (119 : Nat) ({ cls := "KitchenTable", name := "count", desc := "(I)I" } : MethodName)) ∈ GW := gw_at 872 (by decide +kernel) rfl
theorem qw_873 : (Cond.instanceMethod ({ cls := "KitchenTable", name := "count", desc := "(I)I" } : MethodName)) ∈ GW := gw_at 873 (by decide +kernel) rfl
theorem qw_874 : (Cond.selects "KitchenTable" ({ cls := "KitchenTable", name := "count", desc := "(I)I" } : MethodName) ({ cls := "KitchenTable", name := "count", desc := "(I)I" } : MethodName)) ∈ GW := gw_at 874 (by decide +kernel) rfl
theorem qw_875 : (Cond.code ({ cls := "KitchenTable", name := "count", desc := "(I)I" } : MethodName) prog_1_method_27_code (2 : Nat) (Option.some FieldType.int)) ∈ GW := gw_at 875 (by decide +kernel) rfl
theorem qw_876 : (Cond.methodLink "KitchenTableLaw" (123 : Nat) ({ cls := "KitchenTable", name := "sheet", desc := "(III)I" } : MethodName)) ∈ GW := gw_at 876 (by decide +kernel) rfl
theorem qw_877 : (Cond.instanceMethod ({ cls := "KitchenTable", name := "sheet", desc := "(III)I" } : MethodName)) ∈ GW := gw_at 877 (by decide +kernel) rfl
theorem qw_878 : (Cond.selects "KitchenTable" ({ cls := "KitchenTable", name := "sheet", desc := "(III)I" } : MethodName) ({ cls := "KitchenTable", name := "sheet", desc := "(III)I" } : MethodName)) ∈ GW := gw_at 878 (by decide +kernel) rfl
theorem qw_879 : (Cond.code ({ cls := "KitchenTable", name := "sheet", desc := "(III)I" } : MethodName) prog_1_method_28_code (5 : Nat) (Option.some FieldType.int)) ∈ GW := gw_at 879 (by decide +kernel) rfl
theorem qw_880 : (Cond.methodLink "KitchenTable" (261 : Nat) ({ cls := "KitchenTable$Sheet", name := "become", desc := "(II)V" } : MethodName)) ∈ GW := gw_at 880 (by decide +kernel) rfl
theorem qw_881 : (Cond.instanceMethod ({ cls := "KitchenTable$Sheet", name := "become", desc := "(II)V" } : MethodName)) ∈ GW := gw_at 881 (by decide +kernel) rfl
theorem qw_882 : (Cond.selects "KitchenTable$Sheet" ({ cls := "KitchenTable$Sheet", name := "become", desc := "(II)V" } : MethodName) ({ cls := "KitchenTable$Sheet", name := "become", desc := "(II)V" } : MethodName)) ∈ GW := gw_at 882 (by decide +kernel) rfl
theorem qw_883 : (Cond.code ({ cls := "KitchenTable$Sheet", name := "become", desc := "(II)V" } : MethodName) prog_8_method_5_code (3 : Nat) (Option.none : Option FieldType)) ∈ GW := gw_at 883 (by decide +kernel) rfl
theorem qw_884 : (Cond.methodLink "KitchenTable$Sheet" (22 : Nat) ({ cls := "java/util/Arrays", name := "fill", desc := "([II)V" } : MethodName)) ∈ GW := gw_at 884 (by decide +kernel) rfl
theorem qw_885 : (Cond.methodLink "KitchenTableLaw" (127 : Nat) ({ cls := "KitchenTable", name := "cell", desc := "(III)I" } : MethodName)) ∈ GW := gw_at 885 (by decide +kernel) rfl
theorem qw_886 : (Cond.instanceMethod ({ cls := "KitchenTable", name := "cell", desc := "(III)I" } : MethodName)) ∈ GW := gw_at 886 (by decide +kernel) rfl
theorem qw_887 : (Cond.selects "KitchenTable" ({ cls := "KitchenTable", name := "cell", desc := "(III)I" } : MethodName) ({ cls := "KitchenTable", name := "cell", desc := "(III)I" } : MethodName)) ∈ GW := gw_at 887 (by decide +kernel) rfl
theorem qw_888 : (Cond.code ({ cls := "KitchenTable", name := "cell", desc := "(III)I" } : MethodName) prog_1_method_29_code (5 : Nat) (Option.some FieldType.int)) ∈ GW := gw_at 888 (by decide +kernel) rfl
theorem qw_889 : (Cond.methodLink "KitchenTable" (265 : Nat) ({ cls := "KitchenTable$Sheet", name := "has", desc := "(I)Z" } : MethodName)) ∈ GW := gw_at 889 (by decide +kernel) rfl
theorem qw_890 : (Cond.instanceMethod ({ cls := "KitchenTable$Sheet", name := "has", desc := "(I)Z" } : MethodName)) ∈ GW := gw_at 890 (by decide +kernel) rfl
theorem qw_891 : (Cond.selects "KitchenTable$Sheet" ({ cls := "KitchenTable$Sheet", name := "has", desc := "(I)Z" } : MethodName) ({ cls := "KitchenTable$Sheet", name := "has", desc := "(I)Z" } : MethodName)) ∈ GW := gw_at 891 (by decide +kernel) rfl
theorem qw_892 : (Cond.code ({ cls := "KitchenTable$Sheet", name := "has", desc := "(I)Z" } : MethodName) prog_8_method_3_code (2 : Nat) (Option.some FieldType.boolean)) ∈ GW := gw_at 892 (by decide +kernel) rfl
theorem qw_893 : (Cond.methodLink "KitchenTable" (268 : Nat) ({ cls := "KitchenTable$Sheet", name := "put", desc := "(II)V" } : MethodName)) ∈ GW := gw_at 893 (by decide +kernel) rfl
theorem qw_894 : (Cond.instanceMethod ({ cls := "KitchenTable$Sheet", name := "put", desc := "(II)V" } : MethodName)) ∈ GW := gw_at 894 (by decide +kernel) rfl
theorem qw_895 : (Cond.selects "KitchenTable$Sheet" ({ cls := "KitchenTable$Sheet", name := "put", desc := "(II)V" } : MethodName) ({ cls := "KitchenTable$Sheet", name := "put", desc := "(II)V" } : MethodName)) ∈ GW := gw_at 895 (by decide +kernel) rfl
theorem qw_896 : (Cond.code ({ cls := "KitchenTable$Sheet", name := "put", desc := "(II)V" } : MethodName) prog_8_method_6_code (3 : Nat) (Option.none : Option FieldType)) ∈ GW := gw_at 896 (by decide +kernel) rfl
theorem qw_897 : (Cond.methodLink "KitchenTableLaw" (131 : Nat) ({ cls := "KitchenTable", name := "copy", desc := "(IIIII)I" } : MethodName)) ∈ GW := gw_at 897 (by decide +kernel) rfl
theorem qw_898 : (Cond.instanceMethod ({ cls := "KitchenTable", name := "copy", desc := "(IIIII)I" } : MethodName)) ∈ GW := gw_at 898 (by decide +kernel) rfl
theorem qw_899 : (Cond.selects "KitchenTable" ({ cls := "KitchenTable", name := "copy", desc := "(IIIII)I" } : MethodName) ({ cls := "KitchenTable", name := "copy", desc := "(IIIII)I" } : MethodName)) ∈ GW := gw_at 899 (by decide +kernel) rfl
theorem qw_900 : (Cond.code ({ cls := "KitchenTable", name := "copy", desc := "(IIIII)I" } : MethodName) prog_1_method_30_code (8 : Nat) (Option.some FieldType.int)) ∈ GW := gw_at 900 (by decide +kernel) rfl
theorem qw_901 : (Cond.methodLink "KitchenTable" (274 : Nat) ({ cls := "KitchenTable$Sheet", name := "hasRun", desc := "(II)Z" } : MethodName)) ∈ GW := gw_at 901 (by decide +kernel) rfl
theorem qw_902 : (Cond.instanceMethod ({ cls := "KitchenTable$Sheet", name := "hasRun", desc := "(II)Z" } : MethodName)) ∈ GW := gw_at 902 (by decide +kernel) rfl
theorem qw_903 : (Cond.selects "KitchenTable$Sheet" ({ cls := "KitchenTable$Sheet", name := "hasRun", desc := "(II)Z" } : MethodName) ({ cls := "KitchenTable$Sheet", name := "hasRun", desc := "(II)Z" } : MethodName)) ∈ GW := gw_at 903 (by decide +kernel) rfl
theorem qw_904 : (Cond.code ({ cls := "KitchenTable$Sheet", name := "hasRun", desc := "(II)Z" } : MethodName) prog_8_method_4_code (3 : Nat) (Option.some FieldType.boolean)) ∈ GW := gw_at 904 (by decide +kernel) rfl
theorem qw_905 : (Cond.methodLink "KitchenTableLaw" (136 : Nat) ({ cls := "KitchenTable", name := "notes", desc := "(IIII)I" } : MethodName)) ∈ GW := gw_at 905 (by decide +kernel) rfl
theorem qw_906 : (Cond.instanceMethod ({ cls := "KitchenTable", name := "notes", desc := "(IIII)I" } : MethodName)) ∈ GW := gw_at 906 (by decide +kernel) rfl
theorem qw_907 : (Cond.selects "KitchenTable" ({ cls := "KitchenTable", name := "notes", desc := "(IIII)I" } : MethodName) ({ cls := "KitchenTable", name := "notes", desc := "(IIII)I" } : MethodName)) ∈ GW := gw_at 907 (by decide +kernel) rfl
theorem qw_908 : (Cond.code ({ cls := "KitchenTable", name := "notes", desc := "(IIII)I" } : MethodName) prog_1_method_31_code (9 : Nat) (Option.some FieldType.int)) ∈ GW := gw_at 908 (by decide +kernel) rfl
theorem qw_909 : (Cond.methodLink "KitchenTableLaw" (141 : Nat) ({ cls := "KitchenTable", name := "taken", desc := "(II)I" } : MethodName)) ∈ GW := gw_at 909 (by decide +kernel) rfl
theorem qw_910 : (Cond.instanceMethod ({ cls := "KitchenTable", name := "taken", desc := "(II)I" } : MethodName)) ∈ GW := gw_at 910 (by decide +kernel) rfl
theorem qw_911 : (Cond.selects "KitchenTable" ({ cls := "KitchenTable", name := "taken", desc := "(II)I" } : MethodName) ({ cls := "KitchenTable", name := "taken", desc := "(II)I" } : MethodName)) ∈ GW := gw_at 911 (by decide +kernel) rfl
theorem qw_912 : (Cond.code ({ cls := "KitchenTable", name := "taken", desc := "(II)I" } : MethodName) prog_1_method_32_code (4 : Nat) (Option.some FieldType.int)) ∈ GW := gw_at 912 (by decide +kernel) rfl
theorem qw_913 : (Cond.methodLink "KitchenTable" (277 : Nat) ({ cls := "KitchenTable$Slip", name := "isUnder", desc := "(I)Z" } : MethodName)) ∈ GW := gw_at 913 (by decide +kernel) rfl
theorem qw_914 : (Cond.instanceMethod ({ cls := "KitchenTable$Slip", name := "isUnder", desc := "(I)Z" } : MethodName)) ∈ GW := gw_at 914 (by decide +kernel) rfl
theorem qw_915 : (Cond.selects "KitchenTable$Slip" ({ cls := "KitchenTable$Slip", name := "isUnder", desc := "(I)Z" } : MethodName) ({ cls := "KitchenTable$Slip", name := "isUnder", desc := "(I)Z" } : MethodName)) ∈ GW := gw_at 915 (by decide +kernel) rfl
theorem qw_916 : (Cond.code ({ cls := "KitchenTable$Slip", name := "isUnder", desc := "(I)Z" } : MethodName) prog_9_method_4_code (4 : Nat) (Option.some FieldType.boolean)) ∈ GW := gw_at 916 (by decide +kernel) rfl
theorem qw_917 : (Cond.fieldLink "KitchenTable$Slip" (50 : Nat) "KitchenTable$Slip" "ABOVE" "[I") ∈ GW := gw_at 917 (by decide +kernel) rfl
theorem qw_919 : (Cond.classLink "KitchenTableLaw" (10 : Nat) "KitchenTableModel") ∈ GW := gw_at 919 (by decide +kernel) rfl
theorem qw_920 : (Cond.instantiable "KitchenTableModel" (48 : Nat)) ∈ GW := gw_at 920 (by decide +kernel) rfl
theorem qw_921 : (Cond.methodLink "KitchenTableLaw" (12 : Nat) ({ cls := "KitchenTableModel", name := "<init>", desc := "()V" } : MethodName)) ∈ GW := gw_at 921 (by decide +kernel) rfl
theorem qw_922 : (Cond.instanceMethod ({ cls := "KitchenTableModel", name := "<init>", desc := "()V" } : MethodName)) ∈ GW := gw_at 922 (by decide +kernel) rfl
theorem qw_923 : (Cond.code ({ cls := "KitchenTableModel", name := "<init>", desc := "()V" } : MethodName) prog_13_method_1_code (3 : Nat) (Option.none : Option FieldType)) ∈ GW := gw_at 923 (by decide +kernel) rfl
theorem qw_924 : (Cond.methodLink "KitchenTableModel" (1 : Nat) ({ cls := "java/lang/Object", name := "<init>", desc := "()V" } : MethodName)) ∈ GW := gw_at 924 (by decide +kernel) rfl
theorem qw_926 : (Cond.methodLink "KitchenTableModel" (106 : Nat) ({ cls := "java/lang/String", name := "length", desc := "()I" } : MethodName)) ∈ GW := gw_at 926 (by decide +kernel) rfl
theorem qw_927 : (Cond.methodLink "KitchenTableModel" (112 : Nat) ({ cls := "java/lang/String", name := "charAt", desc := "(I)C" } : MethodName)) ∈ GW := gw_at 927 (by decide +kernel) rfl
theorem qw_928 : (Cond.methodLink "KitchenTableModel" (116 : Nat) ({ cls := "KitchenTableModel", name := "feed", desc := "(I)I" } : MethodName)) ∈ GW := gw_at 928 (by decide +kernel) rfl
theorem qw_929 : (Cond.instanceMethod ({ cls := "KitchenTableModel", name := "feed", desc := "(I)I" } : MethodName)) ∈ GW := gw_at 929 (by decide +kernel) rfl
theorem qw_930 : (Cond.selects "KitchenTableModel" ({ cls := "KitchenTableModel", name := "feed", desc := "(I)I" } : MethodName) ({ cls := "KitchenTableModel", name := "feed", desc := "(I)I" } : MethodName)) ∈ GW := gw_at 930 (by decide +kernel) rfl
theorem qw_931 : (Cond.code ({ cls := "KitchenTableModel", name := "feed", desc := "(I)I" } : MethodName) prog_13_method_13_code (2 : Nat) (Option.some FieldType.int)) ∈ GW := gw_at 931 (by decide +kernel) rfl
theorem qw_932 : (Cond.methodLink "KitchenTableModel" (127 : Nat) ({ cls := "KitchenTableModel", name := "within", desc := "(III)Z" } : MethodName)) ∈ GW := gw_at 932 (by decide +kernel) rfl
theorem qw_933 : (Cond.static ({ cls := "KitchenTableModel", name := "within", desc := "(III)Z" } : MethodName)) ∈ GW := gw_at 933 (by decide +kernel) rfl
theorem qw_934 : (Cond.code ({ cls := "KitchenTableModel", name := "within", desc := "(III)Z" } : MethodName) prog_13_method_2_code (3 : Nat) (Option.some FieldType.boolean)) ∈ GW := gw_at 934 (by decide +kernel) rfl
theorem qw_935 : (Cond.methodLink "KitchenTableModel" (120 : Nat) ({ cls := "KitchenTableModel", name := "text", desc := "()I" } : MethodName)) ∈ GW := gw_at 935 (by decide +kernel) rfl
theorem qw_936 : (Cond.instanceMethod ({ cls := "KitchenTableModel", name := "text", desc := "()I" } : MethodName)) ∈ GW := gw_at 936 (by decide +kernel) rfl
theorem qw_937 : (Cond.selects "KitchenTableModel" ({ cls := "KitchenTableModel", name := "text", desc := "()I" } : MethodName) ({ cls := "KitchenTableModel", name := "text", desc := "()I" } : MethodName)) ∈ GW := gw_at 937 (by decide +kernel) rfl
theorem qw_938 : (Cond.code ({ cls := "KitchenTableModel", name := "text", desc := "()I" } : MethodName) prog_13_method_28_code (2 : Nat) (Option.some FieldType.int)) ∈ GW := gw_at 938 (by decide +kernel) rfl
theorem qw_939 : (Cond.methodLink "KitchenTableModel" (199 : Nat) ({ cls := "KitchenTableModel", name := "next", desc := "()V" } : MethodName)) ∈ GW := gw_at 939 (by decide +kernel) rfl
theorem qw_941 : (Cond.instanceMethod ({ cls := "KitchenTableModel", name := "next", desc := "()V" } : MethodName)) ∈ GW := gw_at 941 (by decide +kernel) rfl
theorem qw_942 : (Cond.code ({ cls := "KitchenTableModel", name := "next", desc := "()V" } : MethodName) prog_13_method_14_code (2 : Nat) (Option.none : Option FieldType)) ∈ GW := gw_at 942 (by decide +kernel) rfl
theorem qw_943 : (Cond.methodLink "KitchenTableModel" (165 : Nat) ({ cls := "KitchenTableModel", name := "isDigit", desc := "(I)Z" } : MethodName)) ∈ GW := gw_at 943 (by decide +kernel) rfl
theorem qw_944 : (Cond.static ({ cls := "KitchenTableModel", name := "isDigit", desc := "(I)Z" } : MethodName)) ∈ GW := gw_at 944 (by decide +kernel) rfl
theorem qw_945 : (Cond.code ({ cls := "KitchenTableModel", name := "isDigit", desc := "(I)Z" } : MethodName) prog_13_method_15_code (1 : Nat) (Option.some FieldType.boolean)) ∈ GW := gw_at 945 (by decide +kernel) rfl
theorem qw_946 : (Cond.methodLink "KitchenTableModel" (171 : Nat) ({ cls := "KitchenTableModel", name := "isLetter", desc := "(I)Z" } : MethodName)) ∈ GW := gw_at 946 (by decide +kernel) rfl
theorem qw_947 : (Cond.static ({ cls := "KitchenTableModel", name := "isLetter", desc := "(I)Z" } : MethodName)) ∈ GW := gw_at 947 (by decide +kernel) rfl
theorem qw_948 : (Cond.code ({ cls := "KitchenTableModel", name := "isLetter", desc := "(I)Z" } : MethodName) prog_13_method_16_code (1 : Nat) (Option.some FieldType.boolean)) ∈ GW := gw_at 948 (by decide +kernel) rfl
theorem qw_950 : (Cond.methodLink "KitchenTableModel" (235 : Nat) ({ cls := "KitchenTableModel", name := "part", desc := "(Ljava/lang/String;I)Z" } : MethodName)) ∈ GW := gw_at 950 (by decide +kernel) rfl
theorem qw_952 : (Cond.instanceMethod ({ cls := "KitchenTableModel", name := "part", desc := "(Ljava/lang/String;I)Z" } : MethodName)) ∈ GW := gw_at 952 (by decide +kernel) rfl
theorem qw_953 : (Cond.code ({ cls := "KitchenTableModel", name := "part", desc := "(Ljava/lang/String;I)Z" } : MethodName) prog_13_method_27_code (3 : Nat) (Option.some FieldType.boolean)) ∈ GW := gw_at 953 (by decide +kernel) rfl
theorem qw_954 : (Cond.methodLink "KitchenTableModel" (176 : Nat) ({ cls := "KitchenTableModel", name := "is", desc := "(Ljava/lang/String;)Z" } : MethodName)) ∈ GW := gw_at 954 (by decide +kernel) rfl
theorem qw_956 : (Cond.instanceMethod ({ cls := "KitchenTableModel", name := "is", desc := "(Ljava/lang/String;)Z" } : MethodName)) ∈ GW := gw_at 956 (by decide +kernel) rfl
theorem qw_957 : (Cond.code ({ cls := "KitchenTableModel", name := "is", desc := "(Ljava/lang/String;)Z" } : MethodName) prog_13_method_17_code (3 : Nat) (Option.some FieldType.boolean)) ∈ GW := gw_at 957 (by decide +kernel) rfl
theorem qw_958 : (Cond.methodLink "KitchenTableModel" (230 : Nat) ({ cls := "KitchenTableModel", name := "any", desc := "()Z" } : MethodName)) ∈ GW := gw_at 958 (by decide +kernel) rfl
theorem qw_960 : (Cond.instanceMethod ({ cls := "KitchenTableModel", name := "any", desc := "()Z" } : MethodName)) ∈ GW := gw_at 960 (by decide +kernel) rfl
theorem qw_961 : (Cond.code ({ cls := "KitchenTableModel", name := "any", desc := "()Z" } : MethodName) prog_13_method_21_code (1 : Nat) (Option.some FieldType.boolean)) ∈ GW := gw_at 961 (by decide +kernel) rfl
theorem qw_962 : (Cond.methodLink "KitchenTableModel" (193 : Nat) ({ cls := "KitchenTableModel", name := "both", desc := "()Z" } : MethodName)) ∈ GW := gw_at 962 (by decide +kernel) rfl
theorem qw_964 : (Cond.instanceMethod ({ cls := "KitchenTableModel", name := "both", desc := "()Z" } : MethodName)) ∈ GW := gw_at 964 (by decide +kernel) rfl
theorem qw_965 : (Cond.code ({ cls := "KitchenTableModel", name := "both", desc := "()Z" } : MethodName) prog_13_method_22_code (1 : Nat) (Option.some FieldType.boolean)) ∈ GW := gw_at 965 (by decide +kernel) rfl
theorem qw_966 : (Cond.methodLink "KitchenTableModel" (206 : Nat) ({ cls := "KitchenTableModel", name := "not", desc := "()Z" } : MethodName)) ∈ GW := gw_at 966 (by decide +kernel) rfl
theorem qw_968 : (Cond.instanceMethod ({ cls := "KitchenTableModel", name := "not", desc := "()Z" } : MethodName)) ∈ GW := gw_at 968 (by decide +kernel) rfl
theorem qw_969 : (Cond.code ({ cls := "KitchenTableModel", name := "not", desc := "()Z" } : MethodName) prog_13_method_23_code (2 : Nat) (Option.some FieldType.boolean)) ∈ GW := gw_at 969 (by decide +kernel) rfl
theorem qw_971 : (Cond.methodLink "KitchenTableModel" (202 : Nat) ({ cls := "KitchenTableModel", name := "put", desc := "(I)V" } : MethodName)) ∈ GW := gw_at 971 (by decide +kernel) rfl
theorem qw_973 : (Cond.instanceMethod ({ cls := "KitchenTableModel", name := "put", desc := "(I)V" } : MethodName)) ∈ GW := gw_at 973 (by decide +kernel) rfl
theorem qw_974 : (Cond.code ({ cls := "KitchenTableModel", name := "put", desc := "(I)V" } : MethodName) prog_13_method_20_code (2 : Nat) (Option.none : Option FieldType)) ∈ GW := gw_at 974 (by decide +kernel) rfl
theorem qw_975 : (Cond.methodLink "KitchenTableModel" (215 : Nat) ({ cls := "KitchenTableModel", name := "sum", desc := "()Z" } : MethodName)) ∈ GW := gw_at 975 (by decide +kernel) rfl
theorem qw_977 : (Cond.instanceMethod ({ cls := "KitchenTableModel", name := "sum", desc := "()Z" } : MethodName)) ∈ GW := gw_at 977 (by decide +kernel) rfl
theorem qw_978 : (Cond.code ({ cls := "KitchenTableModel", name := "sum", desc := "()Z" } : MethodName) prog_13_method_24_code (2 : Nat) (Option.some FieldType.boolean)) ∈ GW := gw_at 978 (by decide +kernel) rfl
theorem qw_979 : (Cond.methodLink "KitchenTableModel" (221 : Nat) ({ cls := "KitchenTableModel", name := "term", desc := "()Z" } : MethodName)) ∈ GW := gw_at 979 (by decide +kernel) rfl
theorem qw_981 : (Cond.instanceMethod ({ cls := "KitchenTableModel", name := "term", desc := "()Z" } : MethodName)) ∈ GW := gw_at 981 (by decide +kernel) rfl
theorem qw_982 : (Cond.code ({ cls := "KitchenTableModel", name := "term", desc := "()Z" } : MethodName) prog_13_method_25_code (1 : Nat) (Option.some FieldType.boolean)) ∈ GW := gw_at 982 (by decide +kernel) rfl
theorem qw_983 : (Cond.methodLink "KitchenTableModel" (224 : Nat) ({ cls := "KitchenTableModel", name := "one", desc := "()Z" } : MethodName)) ∈ GW := gw_at 983 (by decide +kernel) rfl
theorem qw_985 : (Cond.instanceMethod ({ cls := "KitchenTableModel", name := "one", desc := "()Z" } : MethodName)) ∈ GW := gw_at 985 (by decide +kernel) rfl
theorem qw_986 : (Cond.code ({ cls := "KitchenTableModel", name := "one", desc := "()Z" } : MethodName) prog_13_method_26_code (2 : Nat) (Option.some FieldType.boolean)) ∈ GW := gw_at 986 (by decide +kernel) rfl
theorem qw_987 : (Cond.methodLink "KitchenTableModel" (227 : Nat) ({ cls := "KitchenTableModel", name := "name", desc := "()I" } : MethodName)) ∈ GW := gw_at 987 (by decide +kernel) rfl
theorem qw_989 : (Cond.instanceMethod ({ cls := "KitchenTableModel", name := "name", desc := "()I" } : MethodName)) ∈ GW := gw_at 989 (by decide +kernel) rfl
theorem qw_990 : (Cond.code ({ cls := "KitchenTableModel", name := "name", desc := "()I" } : MethodName) prog_13_method_19_code (1 : Nat) (Option.some FieldType.int)) ∈ GW := gw_at 990 (by decide +kernel) rfl
theorem qw_997 : (Cond.methodLink "KitchenTableModel" (218 : Nat) ({ cls := "KitchenTableModel", name := "is", desc := "(C)Z" } : MethodName)) ∈ GW := gw_at 997 (by decide +kernel) rfl
theorem qw_999 : (Cond.instanceMethod ({ cls := "KitchenTableModel", name := "is", desc := "(C)Z" } : MethodName)) ∈ GW := gw_at 999 (by decide +kernel) rfl
theorem qw_1000 : (Cond.code ({ cls := "KitchenTableModel", name := "is", desc := "(C)Z" } : MethodName) prog_13_method_18_code (2 : Nat) (Option.some FieldType.boolean)) ∈ GW := gw_at 1000 (by decide +kernel) rfl
theorem qw_1005 : (Cond.fieldLink "KitchenTableModel" (123 : Nat) "KitchenTableModel" "people" "I") ∈ GW := gw_at 1005 (by decide +kernel) rfl
theorem qw_1006 : (Cond.fieldLink "KitchenTableModel" (7 : Nat) "KitchenTableModel" "first" "[I") ∈ GW := gw_at 1006 (by decide +kernel) rfl
theorem qw_1007 : (Cond.fieldLink "KitchenTableModel" (13 : Nat) "KitchenTableModel" "every" "[I") ∈ GW := gw_at 1007 (by decide +kernel) rfl
theorem qw_1008 : (Cond.fieldLink "KitchenTableModel" (16 : Nat) "KitchenTableModel" "reads" "[I") ∈ GW := gw_at 1008 (by decide +kernel) rfl
theorem qw_1009 : (Cond.fieldLink "KitchenTableModel" (19 : Nat) "KitchenTableModel" "temper" "[I") ∈ GW := gw_at 1009 (by decide +kernel) rfl
theorem qw_1010 : (Cond.fieldLink "KitchenTableModel" (131 : Nat) "KitchenTableModel" "notes" "I") ∈ GW := gw_at 1010 (by decide +kernel) rfl
theorem qw_1011 : (Cond.fieldLink "KitchenTableModel" (22 : Nat) "KitchenTableModel" "kind" "[I") ∈ GW := gw_at 1011 (by decide +kernel) rfl
theorem qw_1012 : (Cond.fieldLink "KitchenTableModel" (25 : Nat) "KitchenTableModel" "hour" "[I") ∈ GW := gw_at 1012 (by decide +kernel) rfl
theorem qw_1013 : (Cond.fieldLink "KitchenTableModel" (28 : Nat) "KitchenTableModel" "thing" "[I") ∈ GW := gw_at 1013 (by decide +kernel) rfl
theorem qw_1014 : (Cond.fieldLink "KitchenTableModel" (31 : Nat) "KitchenTableModel" "number" "[I") ∈ GW := gw_at 1014 (by decide +kernel) rfl
theorem qw_1015 : (Cond.fieldLink "KitchenTableModel" (278 : Nat) "KitchenTableModel" "marks" "I") ∈ GW := gw_at 1015 (by decide +kernel) rfl
theorem qw_1016 : (Cond.fieldLink "KitchenTableModel" (34 : Nat) "KitchenTableModel" "ahead" "[I") ∈ GW := gw_at 1016 (by decide +kernel) rfl
theorem qw_1017 : (Cond.fieldLink "KitchenTableModel" (37 : Nat) "KitchenTableModel" "behind" "[I") ∈ GW := gw_at 1017 (by decide +kernel) rfl
theorem qw_1018 : (Cond.fieldLink "KitchenTableModel" (153 : Nat) "KitchenTableModel" "taped" "I") ∈ GW := gw_at 1018 (by decide +kernel) rfl
theorem qw_1019 : (Cond.fieldLink "KitchenTableModel" (40 : Nat) "KitchenTableModel" "tape" "[I") ∈ GW := gw_at 1019 (by decide +kernel) rfl
theorem qw_1020 : (Cond.fieldLink "KitchenTableModel" (187 : Nat) "KitchenTableModel" "texts" "I") ∈ GW := gw_at 1020 (by decide +kernel) rfl
theorem qw_1021 : (Cond.fieldLink "KitchenTableModel" (243 : Nat) "KitchenTableModel" "rule" "I") ∈ GW := gw_at 1021 (by decide +kernel) rfl
theorem qw_1022 : (Cond.fieldLink "KitchenTableModel" (43 : Nat) "KitchenTableModel" "code" "[I") ∈ GW := gw_at 1022 (by decide +kernel) rfl
theorem qw_1023 : (Cond.fieldLink "KitchenTableModel" (46 : Nat) "KitchenTableModel" "begins" "[I") ∈ GW := gw_at 1023 (by decide +kernel) rfl
theorem qw_1024 : (Cond.fieldLink "KitchenTableModel" (190 : Nat) "KitchenTableModel" "made" "I") ∈ GW := gw_at 1024 (by decide +kernel) rfl
theorem qw_1025 : (Cond.fieldLink "KitchenTableModel" (156 : Nat) "KitchenTableModel" "at" "I") ∈ GW := gw_at 1025 (by decide +kernel) rfl
theorem qw_1026 : (Cond.fieldLink "KitchenTableModel" (159 : Nat) "KitchenTableModel" "from" "I") ∈ GW := gw_at 1026 (by decide +kernel) rfl
theorem qw_1027 : (Cond.fieldLink "KitchenTableModel" (162 : Nat) "KitchenTableModel" "sort" "I") ∈ GW := gw_at 1027 (by decide +kernel) rfl
theorem qw_1028 : (Cond.fieldLink "KitchenTableModel" (168 : Nat) "KitchenTableModel" "value" "I") ∈ GW := gw_at 1028 (by decide +kernel) rfl
theorem qw_1029 : (Cond.fieldLink "KitchenTableModel" (212 : Nat) "KitchenTableModel" "open" "I") ∈ GW := gw_at 1029 (by decide +kernel) rfl
theorem qw_1030 : (Cond.fieldLink "KitchenTableModel" (49 : Nat) "KitchenTableModel" "stack" "[I") ∈ GW := gw_at 1030 (by decide +kernel) rfl
theorem qw_1031 : (Cond.fieldLink "KitchenTableModel" (52 : Nat) "KitchenTableModel" "readAt" "[I") ∈ GW := gw_at 1031 (by decide +kernel) rfl
theorem qw_1032 : (Cond.fieldLink "KitchenTableModel" (55 : Nat) "KitchenTableModel" "doneBy" "[I") ∈ GW := gw_at 1032 (by decide +kernel) rfl
theorem qw_1033 : (Cond.fieldLink "KitchenTableModel" (58 : Nat) "KitchenTableModel" "doneAll" "[I") ∈ GW := gw_at 1033 (by decide +kernel) rfl
theorem qw_1034 : (Cond.fieldLink "KitchenTableModel" (61 : Nat) "KitchenTableModel" "doneHour" "[I") ∈ GW := gw_at 1034 (by decide +kernel) rfl
theorem qw_1035 : (Cond.fieldLink "KitchenTableModel" (64 : Nat) "KitchenTableModel" "doneWho" "[I") ∈ GW := gw_at 1035 (by decide +kernel) rfl
theorem qw_1036 : (Cond.fieldLink "KitchenTableModel" (67 : Nat) "KitchenTableModel" "takenAt" "[I") ∈ GW := gw_at 1036 (by decide +kernel) rfl
theorem qw_1037 : (Cond.fieldLink "KitchenTableModel" (70 : Nat) "KitchenTableModel" "ways" "[J") ∈ GW := gw_at 1037 (by decide +kernel) rfl
theorem qw_1038 : (Cond.fieldLink "KitchenTableModel" (74 : Nat) "KitchenTableModel" "needs" "[I") ∈ GW := gw_at 1038 (by decide +kernel) rfl
theorem qw_1039 : (Cond.fieldLink "KitchenTableModel" (292 : Nat) "KitchenTableModel" "imaged" "Z") ∈ GW := gw_at 1039 (by decide +kernel) rfl
theorem qw_1040 : (Cond.fieldLink "KitchenTableModel" (296 : Nat) "KitchenTableModel" "oldPeople" "I") ∈ GW := gw_at 1040 (by decide +kernel) rfl
theorem qw_1041 : (Cond.fieldLink "KitchenTableModel" (299 : Nat) "KitchenTableModel" "oldNotes" "I") ∈ GW := gw_at 1041 (by decide +kernel) rfl
theorem qw_1042 : (Cond.fieldLink "KitchenTableModel" (302 : Nat) "KitchenTableModel" "oldMarks" "I") ∈ GW := gw_at 1042 (by decide +kernel) rfl
theorem qw_1043 : (Cond.fieldLink "KitchenTableModel" (305 : Nat) "KitchenTableModel" "oldRule" "I") ∈ GW := gw_at 1043 (by decide +kernel) rfl
theorem qw_1044 : (Cond.fieldLink "KitchenTableModel" (77 : Nat) "KitchenTableModel" "oldFirst" "[I") ∈ GW := gw_at 1044 (by decide +kernel) rfl
theorem qw_1045 : (Cond.fieldLink "KitchenTableModel" (80 : Nat) "KitchenTableModel" "oldEvery" "[I") ∈ GW := gw_at 1045 (by decide +kernel) rfl
theorem qw_1046 : (Cond.fieldLink "KitchenTableModel" (83 : Nat) "KitchenTableModel" "oldReads" "[I") ∈ GW := gw_at 1046 (by decide +kernel) rfl
theorem qw_1047 : (Cond.fieldLink "KitchenTableModel" (86 : Nat) "KitchenTableModel" "oldTemper" "[I") ∈ GW := gw_at 1047 (by decide +kernel) rfl
theorem qw_1048 : (Cond.fieldLink "KitchenTableModel" (89 : Nat) "KitchenTableModel" "oldHour" "[I") ∈ GW := gw_at 1048 (by decide +kernel) rfl
theorem qw_1049 : (Cond.fieldLink "KitchenTableModel" (92 : Nat) "KitchenTableModel" "sheetSort" "[I") ∈ GW := gw_at 1049 (by decide +kernel) rfl
theorem qw_1050 : (Cond.fieldLink "KitchenTableModel" (95 : Nat) "KitchenTableModel" "sheetSize" "[I") ∈ GW := gw_at 1050 (by decide +kernel) rfl
theorem qw_1051 : (Cond.fieldLink "KitchenTableModel" (98 : Nat) "KitchenTableModel" "cells" "[I") ∈ GW := gw_at 1051 (by decide +kernel) rfl
theorem qw_1052 : (Cond.fieldLink "KitchenTableModel" (101 : Nat) "KitchenTableModel" "spare" "[I") ∈ GW := gw_at 1052 (by decide +kernel) rfl
theorem qw_1053 : (Cond.lays "KitchenTableModel" "KitchenTableModel" "people" "I") ∈ GW := gw_at 1053 (by decide +kernel) rfl
theorem qw_1055 : (Cond.laysFinal "KitchenTableModel" "KitchenTableModel" "first" "[I") ∈ GW := gw_at 1055 (by decide +kernel) rfl
theorem qw_1057 : (Cond.laysFinal "KitchenTableModel" "KitchenTableModel" "every" "[I") ∈ GW := gw_at 1057 (by decide +kernel) rfl
theorem qw_1059 : (Cond.laysFinal "KitchenTableModel" "KitchenTableModel" "reads" "[I") ∈ GW := gw_at 1059 (by decide +kernel) rfl
theorem qw_1061 : (Cond.laysFinal "KitchenTableModel" "KitchenTableModel" "temper" "[I") ∈ GW := gw_at 1061 (by decide +kernel) rfl
theorem qw_1063 : (Cond.lays "KitchenTableModel" "KitchenTableModel" "notes" "I") ∈ GW := gw_at 1063 (by decide +kernel) rfl
theorem qw_1065 : (Cond.laysFinal "KitchenTableModel" "KitchenTableModel" "kind" "[I") ∈ GW := gw_at 1065 (by decide +kernel) rfl
theorem qw_1067 : (Cond.laysFinal "KitchenTableModel" "KitchenTableModel" "hour" "[I") ∈ GW := gw_at 1067 (by decide +kernel) rfl
theorem qw_1069 : (Cond.laysFinal "KitchenTableModel" "KitchenTableModel" "thing" "[I") ∈ GW := gw_at 1069 (by decide +kernel) rfl
theorem qw_1071 : (Cond.laysFinal "KitchenTableModel" "KitchenTableModel" "number" "[I") ∈ GW := gw_at 1071 (by decide +kernel) rfl
theorem qw_1073 : (Cond.lays "KitchenTableModel" "KitchenTableModel" "marks" "I") ∈ GW := gw_at 1073 (by decide +kernel) rfl
theorem qw_1075 : (Cond.laysFinal "KitchenTableModel" "KitchenTableModel" "ahead" "[I") ∈ GW := gw_at 1075 (by decide +kernel) rfl
theorem qw_1077 : (Cond.laysFinal "KitchenTableModel" "KitchenTableModel" "behind" "[I") ∈ GW := gw_at 1077 (by decide +kernel) rfl
theorem qw_1079 : (Cond.lays "KitchenTableModel" "KitchenTableModel" "taped" "I") ∈ GW := gw_at 1079 (by decide +kernel) rfl
theorem qw_1081 : (Cond.laysFinal "KitchenTableModel" "KitchenTableModel" "tape" "[I") ∈ GW := gw_at 1081 (by decide +kernel) rfl
theorem qw_1083 : (Cond.lays "KitchenTableModel" "KitchenTableModel" "texts" "I") ∈ GW := gw_at 1083 (by decide +kernel) rfl
theorem qw_1085 : (Cond.lays "KitchenTableModel" "KitchenTableModel" "rule" "I") ∈ GW := gw_at 1085 (by decide +kernel) rfl
theorem qw_1087 : (Cond.laysFinal "KitchenTableModel" "KitchenTableModel" "code" "[I") ∈ GW := gw_at 1087 (by decide +kernel) rfl
theorem qw_1089 : (Cond.laysFinal "KitchenTableModel" "KitchenTableModel" "begins" "[I") ∈ GW := gw_at 1089 (by decide +kernel) rfl
theorem qw_1091 : (Cond.lays "KitchenTableModel" "KitchenTableModel" "made" "I") ∈ GW := gw_at 1091 (by decide +kernel) rfl
theorem qw_1093 : (Cond.lays "KitchenTableModel" "KitchenTableModel" "at" "I") ∈ GW := gw_at 1093 (by decide +kernel) rfl
theorem qw_1095 : (Cond.lays "KitchenTableModel" "KitchenTableModel" "from" "I") ∈ GW := gw_at 1095 (by decide +kernel) rfl
theorem qw_1097 : (Cond.lays "KitchenTableModel" "KitchenTableModel" "sort" "I") ∈ GW := gw_at 1097 (by decide +kernel) rfl
theorem qw_1099 : (Cond.lays "KitchenTableModel" "KitchenTableModel" "value" "I") ∈ GW := gw_at 1099 (by decide +kernel) rfl
theorem qw_1101 : (Cond.lays "KitchenTableModel" "KitchenTableModel" "open" "I") ∈ GW := gw_at 1101 (by decide +kernel) rfl
theorem qw_1103 : (Cond.laysFinal "KitchenTableModel" "KitchenTableModel" "stack" "[I") ∈ GW := gw_at 1103 (by decide +kernel) rfl
theorem qw_1105 : (Cond.laysFinal "KitchenTableModel" "KitchenTableModel" "readAt" "[I") ∈ GW := gw_at 1105 (by decide +kernel) rfl
theorem qw_1107 : (Cond.laysFinal "KitchenTableModel" "KitchenTableModel" "doneBy" "[I") ∈ GW := gw_at 1107 (by decide +kernel) rfl
theorem qw_1109 : (Cond.laysFinal "KitchenTableModel" "KitchenTableModel" "doneAll" "[I") ∈ GW := gw_at 1109 (by decide +kernel) rfl
theorem qw_1111 : (Cond.laysFinal "KitchenTableModel" "KitchenTableModel" "doneHour" "[I") ∈ GW := gw_at 1111 (by decide +kernel) rfl
theorem qw_1113 : (Cond.laysFinal "KitchenTableModel" "KitchenTableModel" "doneWho" "[I") ∈ GW := gw_at 1113 (by decide +kernel) rfl
theorem qw_1115 : (Cond.laysFinal "KitchenTableModel" "KitchenTableModel" "takenAt" "[I") ∈ GW := gw_at 1115 (by decide +kernel) rfl
theorem qw_1117 : (Cond.laysFinal "KitchenTableModel" "KitchenTableModel" "ways" "[J") ∈ GW := gw_at 1117 (by decide +kernel) rfl
theorem qw_1119 : (Cond.laysFinal "KitchenTableModel" "KitchenTableModel" "needs" "[I") ∈ GW := gw_at 1119 (by decide +kernel) rfl
theorem qw_1121 : (Cond.lays "KitchenTableModel" "KitchenTableModel" "imaged" "Z") ∈ GW := gw_at 1121 (by decide +kernel) rfl
theorem qw_1123 : (Cond.lays "KitchenTableModel" "KitchenTableModel" "oldPeople" "I") ∈ GW := gw_at 1123 (by decide +kernel) rfl
theorem qw_1125 : (Cond.lays "KitchenTableModel" "KitchenTableModel" "oldNotes" "I") ∈ GW := gw_at 1125 (by decide +kernel) rfl
theorem qw_1127 : (Cond.lays "KitchenTableModel" "KitchenTableModel" "oldMarks" "I") ∈ GW := gw_at 1127 (by decide +kernel) rfl
theorem qw_1129 : (Cond.lays "KitchenTableModel" "KitchenTableModel" "oldRule" "I") ∈ GW := gw_at 1129 (by decide +kernel) rfl
theorem qw_1131 : (Cond.laysFinal "KitchenTableModel" "KitchenTableModel" "oldFirst" "[I") ∈ GW := gw_at 1131 (by decide +kernel) rfl
theorem qw_1133 : (Cond.laysFinal "KitchenTableModel" "KitchenTableModel" "oldEvery" "[I") ∈ GW := gw_at 1133 (by decide +kernel) rfl
theorem qw_1135 : (Cond.laysFinal "KitchenTableModel" "KitchenTableModel" "oldReads" "[I") ∈ GW := gw_at 1135 (by decide +kernel) rfl
theorem qw_1137 : (Cond.laysFinal "KitchenTableModel" "KitchenTableModel" "oldTemper" "[I") ∈ GW := gw_at 1137 (by decide +kernel) rfl
theorem qw_1139 : (Cond.laysFinal "KitchenTableModel" "KitchenTableModel" "oldHour" "[I") ∈ GW := gw_at 1139 (by decide +kernel) rfl
theorem qw_1141 : (Cond.laysFinal "KitchenTableModel" "KitchenTableModel" "sheetSort" "[I") ∈ GW := gw_at 1141 (by decide +kernel) rfl
theorem qw_1143 : (Cond.laysFinal "KitchenTableModel" "KitchenTableModel" "sheetSize" "[I") ∈ GW := gw_at 1143 (by decide +kernel) rfl
theorem qw_1145 : (Cond.laysFinal "KitchenTableModel" "KitchenTableModel" "cells" "[I") ∈ GW := gw_at 1145 (by decide +kernel) rfl
theorem qw_1147 : (Cond.laysFinal "KitchenTableModel" "KitchenTableModel" "spare" "[I") ∈ GW := gw_at 1147 (by decide +kernel) rfl
theorem qw_1150 : (Cond.arrayClass FieldType.long) ∈ GW := gw_at 1150 (by decide +kernel) rfl
theorem qw_1151 : (Cond.methodLink "KitchenTableLaw" (17 : Nat) ({ cls := "KitchenTableModel", name := "person", desc := "(III)I" } : MethodName)) ∈ GW := gw_at 1151 (by decide +kernel) rfl
theorem qw_1152 : (Cond.instanceMethod ({ cls := "KitchenTableModel", name := "person", desc := "(III)I" } : MethodName)) ∈ GW := gw_at 1152 (by decide +kernel) rfl
theorem qw_1153 : (Cond.selects "KitchenTableModel" ({ cls := "KitchenTableModel", name := "person", desc := "(III)I" } : MethodName) ({ cls := "KitchenTableModel", name := "person", desc := "(III)I" } : MethodName)) ∈ GW := gw_at 1153 (by decide +kernel) rfl
theorem qw_1154 : (Cond.code ({ cls := "KitchenTableModel", name := "person", desc := "(III)I" } : MethodName) prog_13_method_5_code (4 : Nat) (Option.some FieldType.int)) ∈ GW := gw_at 1154 (by decide +kernel) rfl
theorem qw_1155 : (Cond.methodLink "KitchenTableLaw" (21 : Nat) ({ cls := "KitchenTableModel", name := "note", desc := "(III)I" } : MethodName)) ∈ GW := gw_at 1155 (by decide +kernel) rfl
theorem qw_1156 : (Cond.instanceMethod ({ cls := "KitchenTableModel", name := "note", desc := "(III)I" } : MethodName)) ∈ GW := gw_at 1156 (by decide +kernel) rfl
theorem qw_1157 : (Cond.selects "KitchenTableModel" ({ cls := "KitchenTableModel", name := "note", desc := "(III)I" } : MethodName) ({ cls := "KitchenTableModel", name := "note", desc := "(III)I" } : MethodName)) ∈ GW := gw_at 1157 (by decide +kernel) rfl
theorem qw_1158 : (Cond.code ({ cls := "KitchenTableModel", name := "note", desc := "(III)I" } : MethodName) prog_13_method_6_code (4 : Nat) (Option.some FieldType.int)) ∈ GW := gw_at 1158 (by decide +kernel) rfl
theorem qw_1159 : (Cond.methodLink "KitchenTableLaw" (25 : Nat) ({ cls := "KitchenTableModel", name := "set", desc := "(III)I" } : MethodName)) ∈ GW := gw_at 1159 (by decide +kernel) rfl
theorem qw_1160 : (Cond.instanceMethod ({ cls := "KitchenTableModel", name := "set", desc := "(III)I" } : MethodName)) ∈ GW := gw_at 1160 (by decide +kernel) rfl
theorem qw_1161 : (Cond.selects "KitchenTableModel" ({ cls := "KitchenTableModel", name := "set", desc := "(III)I" } : MethodName) ({ cls := "KitchenTableModel", name := "set", desc := "(III)I" } : MethodName)) ∈ GW := gw_at 1161 (by decide +kernel) rfl
theorem qw_1162 : (Cond.code ({ cls := "KitchenTableModel", name := "set", desc := "(III)I" } : MethodName) prog_13_method_7_code (5 : Nat) (Option.some FieldType.int)) ∈ GW := gw_at 1162 (by decide +kernel) rfl
theorem qw_1163 : (Cond.methodLink "KitchenTableModel" (134 : Nat) ({ cls := "KitchenTableModel", name := "isNote", desc := "(I)Z" } : MethodName)) ∈ GW := gw_at 1163 (by decide +kernel) rfl
theorem qw_1165 : (Cond.instanceMethod ({ cls := "KitchenTableModel", name := "isNote", desc := "(I)Z" } : MethodName)) ∈ GW := gw_at 1165 (by decide +kernel) rfl
theorem qw_1166 : (Cond.code ({ cls := "KitchenTableModel", name := "isNote", desc := "(I)Z" } : MethodName) prog_13_method_4_code (2 : Nat) (Option.some FieldType.boolean)) ∈ GW := gw_at 1166 (by decide +kernel) rfl
theorem qw_1167 : (Cond.methodLink "KitchenTableModel" (138 : Nat) ({ cls := "KitchenTableModel", name := "isPerson", desc := "(I)Z" } : MethodName)) ∈ GW := gw_at 1167 (by decide +kernel) rfl
theorem qw_1169 : (Cond.instanceMethod ({ cls := "KitchenTableModel", name := "isPerson", desc := "(I)Z" } : MethodName)) ∈ GW := gw_at 1169 (by decide +kernel) rfl
theorem qw_1170 : (Cond.code ({ cls := "KitchenTableModel", name := "isPerson", desc := "(I)Z" } : MethodName) prog_13_method_3_code (2 : Nat) (Option.some FieldType.boolean)) ∈ GW := gw_at 1170 (by decide +kernel) rfl
theorem qw_1171 : (Cond.methodLink "KitchenTableLaw" (30 : Nat) ({ cls := "KitchenTableModel", name := "told", desc := "(II)I" } : MethodName)) ∈ GW := gw_at 1171 (by decide +kernel) rfl
theorem qw_1172 : (Cond.instanceMethod ({ cls := "KitchenTableModel", name := "told", desc := "(II)I" } : MethodName)) ∈ GW := gw_at 1172 (by decide +kernel) rfl
theorem qw_1173 : (Cond.selects "KitchenTableModel" ({ cls := "KitchenTableModel", name := "told", desc := "(II)I" } : MethodName) ({ cls := "KitchenTableModel", name := "told", desc := "(II)I" } : MethodName)) ∈ GW := gw_at 1173 (by decide +kernel) rfl
theorem qw_1174 : (Cond.code ({ cls := "KitchenTableModel", name := "told", desc := "(II)I" } : MethodName) prog_13_method_12_code (3 : Nat) (Option.some FieldType.int)) ∈ GW := gw_at 1174 (by decide +kernel) rfl
theorem qw_1175 : (Cond.methodLink "KitchenTableModel" (141 : Nat) ({ cls := "KitchenTableModel", name := "high", desc := "(I)I" } : MethodName)) ∈ GW := gw_at 1175 (by decide +kernel) rfl
theorem qw_1177 : (Cond.instanceMethod ({ cls := "KitchenTableModel", name := "high", desc := "(I)I" } : MethodName)) ∈ GW := gw_at 1177 (by decide +kernel) rfl
theorem qw_1178 : (Cond.code ({ cls := "KitchenTableModel", name := "high", desc := "(I)I" } : MethodName) prog_13_method_8_code (2 : Nat) (Option.some FieldType.int)) ∈ GW := gw_at 1178 (by decide +kernel) rfl
theorem qw_1179 : (Cond.methodLink "KitchenTableModel" (144 : Nat) ({ cls := "KitchenTableModel", name := "lasts", desc := "(I)I" } : MethodName)) ∈ GW := gw_at 1179 (by decide +kernel) rfl
theorem qw_1181 : (Cond.instanceMethod ({ cls := "KitchenTableModel", name := "lasts", desc := "(I)I" } : MethodName)) ∈ GW := gw_at 1181 (by decide +kernel) rfl
theorem qw_1182 : (Cond.code ({ cls := "KitchenTableModel", name := "lasts", desc := "(I)I" } : MethodName) prog_13_method_9_code (2 : Nat) (Option.some FieldType.int)) ∈ GW := gw_at 1182 (by decide +kernel) rfl
theorem qw_1183 : (Cond.methodLink "KitchenTableModel" (147 : Nat) ({ cls := "KitchenTableModel", name := "asks", desc := "(I)I" } : MethodName)) ∈ GW := gw_at 1183 (by decide +kernel) rfl
theorem qw_1185 : (Cond.instanceMethod ({ cls := "KitchenTableModel", name := "asks", desc := "(I)I" } : MethodName)) ∈ GW := gw_at 1185 (by decide +kernel) rfl
theorem qw_1186 : (Cond.code ({ cls := "KitchenTableModel", name := "asks", desc := "(I)I" } : MethodName) prog_13_method_10_code (2 : Nat) (Option.some FieldType.int)) ∈ GW := gw_at 1186 (by decide +kernel) rfl
theorem qw_1187 : (Cond.methodLink "KitchenTableModel" (150 : Nat) ({ cls := "KitchenTableModel", name := "tells", desc := "(I)I" } : MethodName)) ∈ GW := gw_at 1187 (by decide +kernel) rfl
theorem qw_1189 : (Cond.instanceMethod ({ cls := "KitchenTableModel", name := "tells", desc := "(I)I" } : MethodName)) ∈ GW := gw_at 1189 (by decide +kernel) rfl
theorem qw_1190 : (Cond.code ({ cls := "KitchenTableModel", name := "tells", desc := "(I)I" } : MethodName) prog_13_method_11_code (2 : Nat) (Option.some FieldType.int)) ∈ GW := gw_at 1190 (by decide +kernel) rfl
theorem qw_1191 : (Cond.methodLink "KitchenTableLaw" (35 : Nat) ({ cls := "KitchenTableModel", name := "feed", desc := "(I)I" } : MethodName)) ∈ GW := gw_at 1191 (by decide +kernel) rfl
theorem qw_1192 : (Cond.methodLink "KitchenTableLaw" (40 : Nat) ({ cls := "KitchenTableModel", name := "text", desc := "()I" } : MethodName)) ∈ GW := gw_at 1192 (by decide +kernel) rfl
theorem qw_1193 : (Cond.methodLink "KitchenTableLaw" (44 : Nat) ({ cls := "KitchenTableModel", name := "force", desc := "(I)I" } : MethodName)) ∈ GW := gw_at 1193 (by decide +kernel) rfl
theorem qw_1194 : (Cond.instanceMethod ({ cls := "KitchenTableModel", name := "force", desc := "(I)I" } : MethodName)) ∈ GW := gw_at 1194 (by decide +kernel) rfl
theorem qw_1195 : (Cond.selects "KitchenTableModel" ({ cls := "KitchenTableModel", name := "force", desc := "(I)I" } : MethodName) ({ cls := "KitchenTableModel", name := "force", desc := "(I)I" } : MethodName)) ∈ GW := gw_at 1195 (by decide +kernel) rfl
theorem qw_1196 : (Cond.code ({ cls := "KitchenTableModel", name := "force", desc := "(I)I" } : MethodName) prog_13_method_29_code (3 : Nat) (Option.some FieldType.int)) ∈ GW := gw_at 1196 (by decide +kernel) rfl
theorem qw_1197 : (Cond.methodLink "KitchenTableLaw" (48 : Nat) ({ cls := "KitchenTableModel", name := "lies", desc := "(I)I" } : MethodName)) ∈ GW := gw_at 1197 (by decide +kernel) rfl
theorem qw_1198 : (Cond.instanceMethod ({ cls := "KitchenTableModel", name := "lies", desc := "(I)I" } : MethodName)) ∈ GW := gw_at 1198 (by decide +kernel) rfl
theorem qw_1199 : (Cond.selects "KitchenTableModel" ({ cls := "KitchenTableModel", name := "lies", desc := "(I)I" } : MethodName) ({ cls := "KitchenTableModel", name := "lies", desc := "(I)I" } : MethodName)) ∈ GW := gw_at 1199 (by decide +kernel) rfl
theorem qw_1200 : (Cond.code ({ cls := "KitchenTableModel", name := "lies", desc := "(I)I" } : MethodName) prog_13_method_37_code (2 : Nat) (Option.some FieldType.int)) ∈ GW := gw_at 1200 (by decide +kernel) rfl
theorem qw_1201 : (Cond.methodLink "KitchenTableModel" (264 : Nat) ({ cls := "KitchenTableModel", name := "go", desc := "()V" } : MethodName)) ∈ GW := gw_at 1201 (by decide +kernel) rfl
theorem qw_1203 : (Cond.instanceMethod ({ cls := "KitchenTableModel", name := "go", desc := "()V" } : MethodName)) ∈ GW := gw_at 1203 (by decide +kernel) rfl
theorem qw_1204 : (Cond.code ({ cls := "KitchenTableModel", name := "go", desc := "()V" } : MethodName) prog_13_method_34_code (3 : Nat) (Option.none : Option FieldType)) ∈ GW := gw_at 1204 (by decide +kernel) rfl
theorem qw_1205 : (Cond.methodLink "KitchenTableModel" (246 : Nat) ({ cls := "KitchenTableModel", name := "comes", desc := "(II)Z" } : MethodName)) ∈ GW := gw_at 1205 (by decide +kernel) rfl
theorem qw_1207 : (Cond.instanceMethod ({ cls := "KitchenTableModel", name := "comes", desc := "(II)Z" } : MethodName)) ∈ GW := gw_at 1207 (by decide +kernel) rfl
theorem qw_1208 : (Cond.code ({ cls := "KitchenTableModel", name := "comes", desc := "(II)Z" } : MethodName) prog_13_method_31_code (3 : Nat) (Option.some FieldType.boolean)) ∈ GW := gw_at 1208 (by decide +kernel) rfl
theorem qw_1209 : (Cond.methodLink "KitchenTableModel" (250 : Nat) ({ cls := "KitchenTableModel", name := "come", desc := "(II)V" } : MethodName)) ∈ GW := gw_at 1209 (by decide +kernel) rfl
theorem qw_1211 : (Cond.instanceMethod ({ cls := "KitchenTableModel", name := "come", desc := "(II)V" } : MethodName)) ∈ GW := gw_at 1211 (by decide +kernel) rfl
theorem qw_1212 : (Cond.code ({ cls := "KitchenTableModel", name := "come", desc := "(II)V" } : MethodName) prog_13_method_35_code (8 : Nat) (Option.none : Option FieldType)) ∈ GW := gw_at 1212 (by decide +kernel) rfl
theorem qw_1213 : (Cond.methodLink "KitchenTableModel" (254 : Nat) ({ cls := "KitchenTableModel", name := "there", desc := "(II)Z" } : MethodName)) ∈ GW := gw_at 1213 (by decide +kernel) rfl
theorem qw_1215 : (Cond.instanceMethod ({ cls := "KitchenTableModel", name := "there", desc := "(II)Z" } : MethodName)) ∈ GW := gw_at 1215 (by decide +kernel) rfl
theorem qw_1216 : (Cond.code ({ cls := "KitchenTableModel", name := "there", desc := "(II)Z" } : MethodName) prog_13_method_32_code (3 : Nat) (Option.some FieldType.boolean)) ∈ GW := gw_at 1216 (by decide +kernel) rfl
theorem qw_1217 : (Cond.methodLink "KitchenTableModel" (257 : Nat) ({ cls := "KitchenTableModel", name := "above", desc := "(II)Z" } : MethodName)) ∈ GW := gw_at 1217 (by decide +kernel) rfl
theorem qw_1219 : (Cond.instanceMethod ({ cls := "KitchenTableModel", name := "above", desc := "(II)Z" } : MethodName)) ∈ GW := gw_at 1219 (by decide +kernel) rfl
theorem qw_1220 : (Cond.code ({ cls := "KitchenTableModel", name := "above", desc := "(II)Z" } : MethodName) prog_13_method_33_code (3 : Nat) (Option.some FieldType.boolean)) ∈ GW := gw_at 1220 (by decide +kernel) rfl
theorem qw_1221 : (Cond.methodLink "KitchenTableModel" (260 : Nat) ({ cls := "KitchenTableModel", name := "worth", desc := "(IIIIIII)I" } : MethodName)) ∈ GW := gw_at 1221 (by decide +kernel) rfl
theorem qw_1223 : (Cond.instanceMethod ({ cls := "KitchenTableModel", name := "worth", desc := "(IIIIIII)I" } : MethodName)) ∈ GW := gw_at 1223 (by decide +kernel) rfl
theorem qw_1224 : (Cond.code ({ cls := "KitchenTableModel", name := "worth", desc := "(IIIIIII)I" } : MethodName) prog_13_method_30_code (15 : Nat) (Option.some FieldType.int)) ∈ GW := gw_at 1224 (by decide +kernel) rfl
theorem qw_1225 : (Cond.methodLink "KitchenTableModel" (267 : Nat) ({ cls := "KitchenTableModel", name := "lying", desc := "(I)I" } : MethodName)) ∈ GW := gw_at 1225 (by decide +kernel) rfl
theorem qw_1227 : (Cond.instanceMethod ({ cls := "KitchenTableModel", name := "lying", desc := "(I)I" } : MethodName)) ∈ GW := gw_at 1227 (by decide +kernel) rfl
theorem qw_1228 : (Cond.code ({ cls := "KitchenTableModel", name := "lying", desc := "(I)I" } : MethodName) prog_13_method_36_code (4 : Nat) (Option.some FieldType.int)) ∈ GW := gw_at 1228 (by decide +kernel) rfl
theorem qw_1229 : (Cond.methodLink "KitchenTableLaw" (52 : Nat) ({ cls := "KitchenTableModel", name := "top", desc := "(I)I" } : MethodName)) ∈ GW := gw_at 1229 (by decide +kernel) rfl
theorem qw_1230 : (Cond.instanceMethod ({ cls := "KitchenTableModel", name := "top", desc := "(I)I" } : MethodName)) ∈ GW := gw_at 1230 (by decide +kernel) rfl
theorem qw_1231 : (Cond.selects "KitchenTableModel" ({ cls := "KitchenTableModel", name := "top", desc := "(I)I" } : MethodName) ({ cls := "KitchenTableModel", name := "top", desc := "(I)I" } : MethodName)) ∈ GW := gw_at 1231 (by decide +kernel) rfl
theorem qw_1232 : (Cond.code ({ cls := "KitchenTableModel", name := "top", desc := "(I)I" } : MethodName) prog_13_method_38_code (5 : Nat) (Option.some FieldType.int)) ∈ GW := gw_at 1232 (by decide +kernel) rfl
theorem qw_1233 : (Cond.methodLink "KitchenTableLaw" (56 : Nat) ({ cls := "KitchenTableModel", name := "read", desc := "(II)I" } : MethodName)) ∈ GW := gw_at 1233 (by decide +kernel) rfl
theorem qw_1234 : (Cond.instanceMethod ({ cls := "KitchenTableModel", name := "read", desc := "(II)I" } : MethodName)) ∈ GW := gw_at 1234 (by decide +kernel) rfl
theorem qw_1235 : (Cond.selects "KitchenTableModel" ({ cls := "KitchenTableModel", name := "read", desc := "(II)I" } : MethodName) ({ cls := "KitchenTableModel", name := "read", desc := "(II)I" } : MethodName)) ∈ GW := gw_at 1235 (by decide +kernel) rfl
theorem qw_1236 : (Cond.code ({ cls := "KitchenTableModel", name := "read", desc := "(II)I" } : MethodName) prog_13_method_39_code (3 : Nat) (Option.some FieldType.int)) ∈ GW := gw_at 1236 (by decide +kernel) rfl
theorem qw_1237 : (Cond.methodLink "KitchenTableLaw" (60 : Nat) ({ cls := "KitchenTableModel", name := "knew", desc := "(II)I" } : MethodName)) ∈ GW := gw_at 1237 (by decide +kernel) rfl
theorem qw_1238 : (Cond.instanceMethod ({ cls := "KitchenTableModel", name := "knew", desc := "(II)I" } : MethodName)) ∈ GW := gw_at 1238 (by decide +kernel) rfl
theorem qw_1239 : (Cond.selects "KitchenTableModel" ({ cls := "KitchenTableModel", name := "knew", desc := "(II)I" } : MethodName) ({ cls := "KitchenTableModel", name := "knew", desc := "(II)I" } : MethodName)) ∈ GW := gw_at 1239 (by decide +kernel) rfl
theorem qw_1240 : (Cond.code ({ cls := "KitchenTableModel", name := "knew", desc := "(II)I" } : MethodName) prog_13_method_40_code (5 : Nat) (Option.some FieldType.int)) ∈ GW := gw_at 1240 (by decide +kernel) rfl
theorem qw_1241 : (Cond.methodLink "KitchenTableLaw" (64 : Nat) ({ cls := "KitchenTableModel", name := "done", desc := "(II)I" } : MethodName)) ∈ GW := gw_at 1241 (by decide +kernel) rfl
theorem qw_1242 : (Cond.instanceMethod ({ cls := "KitchenTableModel", name := "done", desc := "(II)I" } : MethodName)) ∈ GW := gw_at 1242 (by decide +kernel) rfl
theorem qw_1243 : (Cond.selects "KitchenTableModel" ({ cls := "KitchenTableModel", name := "done", desc := "(II)I" } : MethodName) ({ cls := "KitchenTableModel", name := "done", desc := "(II)I" } : MethodName)) ∈ GW := gw_at 1243 (by decide +kernel) rfl
theorem qw_1244 : (Cond.code ({ cls := "KitchenTableModel", name := "done", desc := "(II)I" } : MethodName) prog_13_method_41_code (3 : Nat) (Option.some FieldType.int)) ∈ GW := gw_at 1244 (by decide +kernel) rfl
theorem qw_1245 : (Cond.methodLink "KitchenTableLaw" (68 : Nat) ({ cls := "KitchenTableModel", name := "when", desc := "(II)I" } : MethodName)) ∈ GW := gw_at 1245 (by decide +kernel) rfl
theorem qw_1246 : (Cond.instanceMethod ({ cls := "KitchenTableModel", name := "when", desc := "(II)I" } : MethodName)) ∈ GW := gw_at 1246 (by decide +kernel) rfl
theorem qw_1247 : (Cond.selects "KitchenTableModel" ({ cls := "KitchenTableModel", name := "when", desc := "(II)I" } : MethodName) ({ cls := "KitchenTableModel", name := "when", desc := "(II)I" } : MethodName)) ∈ GW := gw_at 1247 (by decide +kernel) rfl
theorem qw_1248 : (Cond.code ({ cls := "KitchenTableModel", name := "when", desc := "(II)I" } : MethodName) prog_13_method_42_code (3 : Nat) (Option.some FieldType.int)) ∈ GW := gw_at 1248 (by decide +kernel) rfl
theorem qw_1249 : (Cond.methodLink "KitchenTableLaw" (72 : Nat) ({ cls := "KitchenTableModel", name := "things", desc := "(I)I" } : MethodName)) ∈ GW := gw_at 1249 (by decide +kernel) rfl
theorem qw_1250 : (Cond.instanceMethod ({ cls := "KitchenTableModel", name := "things", desc := "(I)I" } : MethodName)) ∈ GW := gw_at 1250 (by decide +kernel) rfl
theorem qw_1251 : (Cond.selects "KitchenTableModel" ({ cls := "KitchenTableModel", name := "things", desc := "(I)I" } : MethodName) ({ cls := "KitchenTableModel", name := "things", desc := "(I)I" } : MethodName)) ∈ GW := gw_at 1251 (by decide +kernel) rfl
theorem qw_1252 : (Cond.code ({ cls := "KitchenTableModel", name := "things", desc := "(I)I" } : MethodName) prog_13_method_44_code (4 : Nat) (Option.some FieldType.int)) ∈ GW := gw_at 1252 (by decide +kernel) rfl
theorem qw_1253 : (Cond.methodLink "KitchenTableModel" (270 : Nat) ({ cls := "KitchenTableModel", name := "isAsked", desc := "(I)Z" } : MethodName)) ∈ GW := gw_at 1253 (by decide +kernel) rfl
theorem qw_1255 : (Cond.instanceMethod ({ cls := "KitchenTableModel", name := "isAsked", desc := "(I)Z" } : MethodName)) ∈ GW := gw_at 1255 (by decide +kernel) rfl
theorem qw_1256 : (Cond.code ({ cls := "KitchenTableModel", name := "isAsked", desc := "(I)Z" } : MethodName) prog_13_method_43_code (3 : Nat) (Option.some FieldType.boolean)) ∈ GW := gw_at 1256 (by decide +kernel) rfl
theorem qw_1257 : (Cond.methodLink "KitchenTableLaw" (76 : Nat) ({ cls := "KitchenTableModel", name := "harm", desc := "()I" } : MethodName)) ∈ GW := gw_at 1257 (by decide +kernel) rfl
theorem qw_1258 : (Cond.instanceMethod ({ cls := "KitchenTableModel", name := "harm", desc := "()I" } : MethodName)) ∈ GW := gw_at 1258 (by decide +kernel) rfl
theorem qw_1259 : (Cond.selects "KitchenTableModel" ({ cls := "KitchenTableModel", name := "harm", desc := "()I" } : MethodName) ({ cls := "KitchenTableModel", name := "harm", desc := "()I" } : MethodName)) ∈ GW := gw_at 1259 (by decide +kernel) rfl
theorem qw_1260 : (Cond.code ({ cls := "KitchenTableModel", name := "harm", desc := "()I" } : MethodName) prog_13_method_46_code (3 : Nat) (Option.some FieldType.int)) ∈ GW := gw_at 1260 (by decide +kernel) rfl
theorem qw_1261 : (Cond.methodLink "KitchenTableModel" (273 : Nat) ({ cls := "KitchenTableModel", name := "care", desc := "(I)I" } : MethodName)) ∈ GW := gw_at 1261 (by decide +kernel) rfl
theorem qw_1263 : (Cond.instanceMethod ({ cls := "KitchenTableModel", name := "care", desc := "(I)I" } : MethodName)) ∈ GW := gw_at 1263 (by decide +kernel) rfl
theorem qw_1264 : (Cond.code ({ cls := "KitchenTableModel", name := "care", desc := "(I)I" } : MethodName) prog_13_method_45_code (5 : Nat) (Option.some FieldType.int)) ∈ GW := gw_at 1264 (by decide +kernel) rfl
theorem qw_1265 : (Cond.methodLink "KitchenTableLaw" (80 : Nat) ({ cls := "KitchenTableModel", name := "helps", desc := "(I)I" } : MethodName)) ∈ GW := gw_at 1265 (by decide +kernel) rfl
theorem qw_1266 : (Cond.instanceMethod ({ cls := "KitchenTableModel", name := "helps", desc := "(I)I" } : MethodName)) ∈ GW := gw_at 1266 (by decide +kernel) rfl
theorem qw_1267 : (Cond.selects "KitchenTableModel" ({ cls := "KitchenTableModel", name := "helps", desc := "(I)I" } : MethodName) ({ cls := "KitchenTableModel", name := "helps", desc := "(I)I" } : MethodName)) ∈ GW := gw_at 1267 (by decide +kernel) rfl
theorem qw_1268 : (Cond.code ({ cls := "KitchenTableModel", name := "helps", desc := "(I)I" } : MethodName) prog_13_method_47_code (7 : Nat) (Option.some FieldType.int)) ∈ GW := gw_at 1268 (by decide +kernel) rfl
theorem qw_1269 : (Cond.methodLink "KitchenTableModel" (275 : Nat) ({ cls := "KitchenTableModel", name := "harm", desc := "()I" } : MethodName)) ∈ GW := gw_at 1269 (by decide +kernel) rfl
theorem qw_1270 : (Cond.methodLink "KitchenTableLaw" (84 : Nat) ({ cls := "KitchenTableModel", name := "once", desc := "(I)I" } : MethodName)) ∈ GW := gw_at 1270 (by decide +kernel) rfl
theorem qw_1271 : (Cond.instanceMethod ({ cls := "KitchenTableModel", name := "once", desc := "(I)I" } : MethodName)) ∈ GW := gw_at 1271 (by decide +kernel) rfl
theorem qw_1272 : (Cond.selects "KitchenTableModel" ({ cls := "KitchenTableModel", name := "once", desc := "(I)I" } : MethodName) ({ cls := "KitchenTableModel", name := "once", desc := "(I)I" } : MethodName)) ∈ GW := gw_at 1272 (by decide +kernel) rfl
theorem qw_1273 : (Cond.code ({ cls := "KitchenTableModel", name := "once", desc := "(I)I" } : MethodName) prog_13_method_48_code (5 : Nat) (Option.some FieldType.int)) ∈ GW := gw_at 1273 (by decide +kernel) rfl
theorem qw_1274 : (Cond.methodLink "KitchenTableLaw" (88 : Nat) ({ cls := "KitchenTableModel", name := "whose", desc := "(II)I" } : MethodName)) ∈ GW := gw_at 1274 (by decide +kernel) rfl
theorem qw_1275 : (Cond.instanceMethod ({ cls := "KitchenTableModel", name := "whose", desc := "(II)I" } : MethodName)) ∈ GW := gw_at 1275 (by decide +kernel) rfl
theorem qw_1276 : (Cond.selects "KitchenTableModel" ({ cls := "KitchenTableModel", name := "whose", desc := "(II)I" } : MethodName) ({ cls := "KitchenTableModel", name := "whose", desc := "(II)I" } : MethodName)) ∈ GW := gw_at 1276 (by decide +kernel) rfl
theorem qw_1277 : (Cond.code ({ cls := "KitchenTableModel", name := "whose", desc := "(II)I" } : MethodName) prog_13_method_49_code (6 : Nat) (Option.some FieldType.int)) ∈ GW := gw_at 1277 (by decide +kernel) rfl
theorem qw_1278 : (Cond.methodLink "KitchenTableLaw" (92 : Nat) ({ cls := "KitchenTableModel", name := "mark", desc := "(II)I" } : MethodName)) ∈ GW := gw_at 1278 (by decide +kernel) rfl
theorem qw_1279 : (Cond.instanceMethod ({ cls := "KitchenTableModel", name := "mark", desc := "(II)I" } : MethodName)) ∈ GW := gw_at 1279 (by decide +kernel) rfl
theorem qw_1280 : (Cond.selects "KitchenTableModel" ({ cls := "KitchenTableModel", name := "mark", desc := "(II)I" } : MethodName) ({ cls := "KitchenTableModel", name := "mark", desc := "(II)I" } : MethodName)) ∈ GW := gw_at 1280 (by decide +kernel) rfl
theorem qw_1281 : (Cond.code ({ cls := "KitchenTableModel", name := "mark", desc := "(II)I" } : MethodName) prog_13_method_50_code (3 : Nat) (Option.some FieldType.int)) ∈ GW := gw_at 1281 (by decide +kernel) rfl
theorem qw_1282 : (Cond.methodLink "KitchenTableLaw" (97 : Nat) ({ cls := "KitchenTableModel", name := "orders", desc := "()J" } : MethodName)) ∈ GW := gw_at 1282 (by decide +kernel) rfl
theorem qw_1283 : (Cond.instanceMethod ({ cls := "KitchenTableModel", name := "orders", desc := "()J" } : MethodName)) ∈ GW := gw_at 1283 (by decide +kernel) rfl
theorem qw_1284 : (Cond.selects "KitchenTableModel" ({ cls := "KitchenTableModel", name := "orders", desc := "()J" } : MethodName) ({ cls := "KitchenTableModel", name := "orders", desc := "()J" } : MethodName)) ∈ GW := gw_at 1284 (by decide +kernel) rfl
theorem qw_1285 : (Cond.code ({ cls := "KitchenTableModel", name := "orders", desc := "()J" } : MethodName) prog_13_method_52_code (1 : Nat) (Option.some FieldType.long)) ∈ GW := gw_at 1285 (by decide +kernel) rfl
theorem qw_1286 : (Cond.methodLink "KitchenTableModel" (281 : Nat) ({ cls := "KitchenTableModel", name := "all", desc := "(II)J" } : MethodName)) ∈ GW := gw_at 1286 (by decide +kernel) rfl
theorem qw_1288 : (Cond.instanceMethod ({ cls := "KitchenTableModel", name := "all", desc := "(II)J" } : MethodName)) ∈ GW := gw_at 1288 (by decide +kernel) rfl
theorem qw_1289 : (Cond.code ({ cls := "KitchenTableModel", name := "all", desc := "(II)J" } : MethodName) prog_13_method_51_code (6 : Nat) (Option.some FieldType.long)) ∈ GW := gw_at 1289 (by decide +kernel) rfl
theorem qw_1290 : (Cond.methodLink "KitchenTableLaw" (102 : Nat) ({ cls := "KitchenTableModel", name := "odds", desc := "(III)J" } : MethodName)) ∈ GW := gw_at 1290 (by decide +kernel) rfl
theorem qw_1291 : (Cond.instanceMethod ({ cls := "KitchenTableModel", name := "odds", desc := "(III)J" } : MethodName)) ∈ GW := gw_at 1291 (by decide +kernel) rfl
theorem qw_1292 : (Cond.selects "KitchenTableModel" ({ cls := "KitchenTableModel", name := "odds", desc := "(III)J" } : MethodName) ({ cls := "KitchenTableModel", name := "odds", desc := "(III)J" } : MethodName)) ∈ GW := gw_at 1292 (by decide +kernel) rfl
theorem qw_1293 : (Cond.code ({ cls := "KitchenTableModel", name := "odds", desc := "(III)J" } : MethodName) prog_13_method_53_code (14 : Nat) (Option.some FieldType.long)) ∈ GW := gw_at 1293 (by decide +kernel) rfl
theorem qw_1294 : (Cond.constantLong "KitchenTableModel" (285 : Nat) (-4611686018427387904 : Int64)) ∈ GW := gw_at 1294 (by decide +kernel) rfl
theorem qw_1295 : (Cond.methodLink "KitchenTableLaw" (106 : Nat) ({ cls := "KitchenTableModel", name := "place", desc := "(II)I" } : MethodName)) ∈ GW := gw_at 1295 (by decide +kernel) rfl
theorem qw_1296 : (Cond.instanceMethod ({ cls := "KitchenTableModel", name := "place", desc := "(II)I" } : MethodName)) ∈ GW := gw_at 1296 (by decide +kernel) rfl
theorem qw_1297 : (Cond.selects "KitchenTableModel" ({ cls := "KitchenTableModel", name := "place", desc := "(II)I" } : MethodName) ({ cls := "KitchenTableModel", name := "place", desc := "(II)I" } : MethodName)) ∈ GW := gw_at 1297 (by decide +kernel) rfl
theorem qw_1298 : (Cond.code ({ cls := "KitchenTableModel", name := "place", desc := "(II)I" } : MethodName) prog_13_method_54_code (6 : Nat) (Option.some FieldType.int)) ∈ GW := gw_at 1298 (by decide +kernel) rfl
theorem qw_1299 : (Cond.methodLink "KitchenTableModel" (287 : Nat) ({ cls := "java/lang/Integer", name := "bitCount", desc := "(I)I" } : MethodName)) ∈ GW := gw_at 1299 (by decide +kernel) rfl
theorem qw_1300 : (Cond.methodLink "KitchenTableLaw" (110 : Nat) ({ cls := "KitchenTableModel", name := "came", desc := "(I)I" } : MethodName)) ∈ GW := gw_at 1300 (by decide +kernel) rfl
theorem qw_1301 : (Cond.instanceMethod ({ cls := "KitchenTableModel", name := "came", desc := "(I)I" } : MethodName)) ∈ GW := gw_at 1301 (by decide +kernel) rfl
theorem qw_1302 : (Cond.selects "KitchenTableModel" ({ cls := "KitchenTableModel", name := "came", desc := "(I)I" } : MethodName) ({ cls := "KitchenTableModel", name := "came", desc := "(I)I" } : MethodName)) ∈ GW := gw_at 1302 (by decide +kernel) rfl
theorem qw_1303 : (Cond.code ({ cls := "KitchenTableModel", name := "came", desc := "(I)I" } : MethodName) prog_13_method_55_code (5 : Nat) (Option.some FieldType.int)) ∈ GW := gw_at 1303 (by decide +kernel) rfl
theorem qw_1304 : (Cond.methodLink "KitchenTableLaw" (114 : Nat) ({ cls := "KitchenTableModel", name := "image", desc := "()I" } : MethodName)) ∈ GW := gw_at 1304 (by decide +kernel) rfl
theorem qw_1305 : (Cond.instanceMethod ({ cls := "KitchenTableModel", name := "image", desc := "()I" } : MethodName)) ∈ GW := gw_at 1305 (by decide +kernel) rfl
theorem qw_1306 : (Cond.selects "KitchenTableModel" ({ cls := "KitchenTableModel", name := "image", desc := "()I" } : MethodName) ({ cls := "KitchenTableModel", name := "image", desc := "()I" } : MethodName)) ∈ GW := gw_at 1306 (by decide +kernel) rfl
theorem qw_1307 : (Cond.code ({ cls := "KitchenTableModel", name := "image", desc := "()I" } : MethodName) prog_13_method_56_code (2 : Nat) (Option.some FieldType.int)) ∈ GW := gw_at 1307 (by decide +kernel) rfl
theorem qw_1308 : (Cond.methodLink "KitchenTableLaw" (118 : Nat) ({ cls := "KitchenTableModel", name := "back", desc := "()I" } : MethodName)) ∈ GW := gw_at 1308 (by decide +kernel) rfl
theorem qw_1309 : (Cond.instanceMethod ({ cls := "KitchenTableModel", name := "back", desc := "()I" } : MethodName)) ∈ GW := gw_at 1309 (by decide +kernel) rfl
theorem qw_1310 : (Cond.selects "KitchenTableModel" ({ cls := "KitchenTableModel", name := "back", desc := "()I" } : MethodName) ({ cls := "KitchenTableModel", name := "back", desc := "()I" } : MethodName)) ∈ GW := gw_at 1310 (by decide +kernel) rfl
theorem qw_1311 : (Cond.code ({ cls := "KitchenTableModel", name := "back", desc := "()I" } : MethodName) prog_13_method_57_code (2 : Nat) (Option.some FieldType.int)) ∈ GW := gw_at 1311 (by decide +kernel) rfl
theorem qw_1312 : (Cond.methodLink "KitchenTableLaw" (122 : Nat) ({ cls := "KitchenTableModel", name := "count", desc := "(I)I" } : MethodName)) ∈ GW := gw_at 1312 (by decide +kernel) rfl
theorem qw_1313 : (Cond.instanceMethod ({ cls := "KitchenTableModel", name := "count", desc := "(I)I" } : MethodName)) ∈ GW := gw_at 1313 (by decide +kernel) rfl
theorem qw_1314 : (Cond.selects "KitchenTableModel" ({ cls := "KitchenTableModel", name := "count", desc := "(I)I" } : MethodName) ({ cls := "KitchenTableModel", name := "count", desc := "(I)I" } : MethodName)) ∈ GW := gw_at 1314 (by decide +kernel) rfl
theorem qw_1315 : (Cond.code ({ cls := "KitchenTableModel", name := "count", desc := "(I)I" } : MethodName) prog_13_method_58_code (2 : Nat) (Option.some FieldType.int)) ∈ GW := gw_at 1315 (by decide +kernel) rfl
theorem qw_1316 : (Cond.methodLink "KitchenTableLaw" (126 : Nat) ({ cls := "KitchenTableModel", name := "sheet", desc := "(III)I" } : MethodName)) ∈ GW := gw_at 1316 (by decide +kernel) rfl
theorem qw_1317 : (Cond.instanceMethod ({ cls := "KitchenTableModel", name := "sheet", desc := "(III)I" } : MethodName)) ∈ GW := gw_at 1317 (by decide +kernel) rfl
theorem qw_1318 : (Cond.selects "KitchenTableModel" ({ cls := "KitchenTableModel", name := "sheet", desc := "(III)I" } : MethodName) ({ cls := "KitchenTableModel", name := "sheet", desc := "(III)I" } : MethodName)) ∈ GW := gw_at 1318 (by decide +kernel) rfl
theorem qw_1319 : (Cond.code ({ cls := "KitchenTableModel", name := "sheet", desc := "(III)I" } : MethodName) prog_13_method_59_code (5 : Nat) (Option.some FieldType.int)) ∈ GW := gw_at 1319 (by decide +kernel) rfl
theorem qw_1320 : (Cond.methodLink "KitchenTableLaw" (130 : Nat) ({ cls := "KitchenTableModel", name := "cell", desc := "(III)I" } : MethodName)) ∈ GW := gw_at 1320 (by decide +kernel) rfl
theorem qw_1321 : (Cond.instanceMethod ({ cls := "KitchenTableModel", name := "cell", desc := "(III)I" } : MethodName)) ∈ GW := gw_at 1321 (by decide +kernel) rfl
theorem qw_1322 : (Cond.selects "KitchenTableModel" ({ cls := "KitchenTableModel", name := "cell", desc := "(III)I" } : MethodName) ({ cls := "KitchenTableModel", name := "cell", desc := "(III)I" } : MethodName)) ∈ GW := gw_at 1322 (by decide +kernel) rfl
theorem qw_1323 : (Cond.code ({ cls := "KitchenTableModel", name := "cell", desc := "(III)I" } : MethodName) prog_13_method_60_code (4 : Nat) (Option.some FieldType.int)) ∈ GW := gw_at 1323 (by decide +kernel) rfl
theorem qw_1324 : (Cond.methodLink "KitchenTableLaw" (135 : Nat) ({ cls := "KitchenTableModel", name := "copy", desc := "(IIIII)I" } : MethodName)) ∈ GW := gw_at 1324 (by decide +kernel) rfl
theorem qw_1325 : (Cond.instanceMethod ({ cls := "KitchenTableModel", name := "copy", desc := "(IIIII)I" } : MethodName)) ∈ GW := gw_at 1325 (by decide +kernel) rfl
theorem qw_1326 : (Cond.selects "KitchenTableModel" ({ cls := "KitchenTableModel", name := "copy", desc := "(IIIII)I" } : MethodName) ({ cls := "KitchenTableModel", name := "copy", desc := "(IIIII)I" } : MethodName)) ∈ GW := gw_at 1326 (by decide +kernel) rfl
theorem qw_1327 : (Cond.code ({ cls := "KitchenTableModel", name := "copy", desc := "(IIIII)I" } : MethodName) prog_13_method_61_code (7 : Nat) (Option.some FieldType.int)) ∈ GW := gw_at 1327 (by decide +kernel) rfl
theorem qw_1328 : (Cond.methodLink "KitchenTableLaw" (140 : Nat) ({ cls := "KitchenTableModel", name := "notes", desc := "(IIII)I" } : MethodName)) ∈ GW := gw_at 1328 (by decide +kernel) rfl
theorem qw_1329 : (Cond.instanceMethod ({ cls := "KitchenTableModel", name := "notes", desc := "(IIII)I" } : MethodName)) ∈ GW := gw_at 1329 (by decide +kernel) rfl
theorem qw_1330 : (Cond.selects "KitchenTableModel" ({ cls := "KitchenTableModel", name := "notes", desc := "(IIII)I" } : MethodName) ({ cls := "KitchenTableModel", name := "notes", desc := "(IIII)I" } : MethodName)) ∈ GW := gw_at 1330 (by decide +kernel) rfl
theorem qw_1331 : (Cond.code ({ cls := "KitchenTableModel", name := "notes", desc := "(IIII)I" } : MethodName) prog_13_method_62_code (10 : Nat) (Option.some FieldType.int)) ∈ GW := gw_at 1331 (by decide +kernel) rfl
theorem qw_1332 : (Cond.constantLong "KitchenTableModel" (308 : Nat) (3 : Int64)) ∈ GW := gw_at 1332 (by decide +kernel) rfl
theorem qw_1333 : (Cond.constantLong "KitchenTableModel" (310 : Nat) (2 : Int64)) ∈ GW := gw_at 1333 (by decide +kernel) rfl
theorem qw_1334 : (Cond.methodLink "KitchenTableModel" (312 : Nat) ({ cls := "KitchenTableModel", name := "note", desc := "(III)I" } : MethodName)) ∈ GW := gw_at 1334 (by decide +kernel) rfl
theorem qw_1335 : (Cond.methodLink "KitchenTableLaw" (144 : Nat) ({ cls := "KitchenTableModel", name := "taken", desc := "(II)I" } : MethodName)) ∈ GW := gw_at 1335 (by decide +kernel) rfl
theorem qw_1336 : (Cond.instanceMethod ({ cls := "KitchenTableModel", name := "taken", desc := "(II)I" } : MethodName)) ∈ GW := gw_at 1336 (by decide +kernel) rfl
theorem qw_1337 : (Cond.selects "KitchenTableModel" ({ cls := "KitchenTableModel", name := "taken", desc := "(II)I" } : MethodName) ({ cls := "KitchenTableModel", name := "taken", desc := "(II)I" } : MethodName)) ∈ GW := gw_at 1337 (by decide +kernel) rfl
theorem qw_1338 : (Cond.code ({ cls := "KitchenTableModel", name := "taken", desc := "(II)I" } : MethodName) prog_13_method_63_code (4 : Nat) (Option.some FieldType.int)) ∈ GW := gw_at 1338 (by decide +kernel) rfl
theorem qw_1339 : (Cond.fieldLink "java/lang/String" (9 : Nat) "java/lang/String" "value" "[B") ∈ GW := gw_at 1339 (by decide +kernel) rfl
theorem qw_1340 : (Cond.fieldLink "java/lang/String" (15 : Nat) "java/lang/String" "coder" "B") ∈ GW := gw_at 1340 (by decide +kernel) rfl
