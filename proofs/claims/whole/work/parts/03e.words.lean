-- the words of tables_1, by their places
theorem tb_0 : tables_1[0]? = some (Jvm.Cond.initialized "PairedComingLaw") := by decide +kernel
theorem tb_1 : tables_1[1]? = some (Jvm.Cond.initialized "PairedComing") := by decide +kernel
theorem tb_2 : tables_1[2]? = some (Jvm.Cond.initialized "PairedComing$Board") := by decide +kernel
theorem tb_3 : tables_1[3]? = some (Jvm.Cond.initialized "PairedComing$Standing") := by decide +kernel
theorem tb_4 : tables_1[4]? = some (Jvm.Cond.initialized "java/util/Arrays") := by decide +kernel
theorem tb_5 : tables_1[5]? = some (Jvm.Cond.initialized "PairedComing$Plan") := by decide +kernel
theorem tb_6 : tables_1[6]? = some (Jvm.Cond.initialized "PairedComing$Rooms") := by decide +kernel
theorem tb_7 : tables_1[7]? = some (Jvm.Cond.initialized "PairedComing$Hopes") := by decide +kernel
theorem tb_8 : tables_1[8]? = some (Jvm.Cond.initialized "PairedComing$Tape") := by decide +kernel
theorem tb_9 : tables_1[9]? = some (Jvm.Cond.initialized "PairedComing$Rule") := by decide +kernel
theorem tb_10 : tables_1[10]? = some (Jvm.Cond.initialized "PairedComing$Mean") := by decide +kernel
theorem tb_11 : tables_1[11]? = some (Jvm.Cond.initialized "PairedComing$Worst") := by decide +kernel
theorem tb_12 : tables_1[12]? = some (Jvm.Cond.initialized "PairedComing$Sheet") := by decide +kernel
theorem tb_13 : tables_1[13]? = some (Jvm.Cond.initialized "PairedComingModel") := by decide +kernel
theorem tb_14 : tables_1[14]? = some (Jvm.Cond.initialized "java/lang/String") := by decide +kernel
theorem tb_15 : tables_1[15]? = some (Jvm.Cond.initialized "java/lang/StringLatin1") := by decide +kernel
theorem tb_16 : tables_1[16]? = some (Jvm.Cond.initialized "jdk/internal/util/Preconditions") := by decide +kernel
theorem tb_17 : tables_1[17]? = some (Jvm.Cond.initialized "java/lang/StringUTF16") := by decide +kernel
theorem tb_18 : tables_1[18]? = some (Jvm.Cond.initialized "java/lang/Math") := by decide +kernel
theorem tb_19 : tables_1[19]? = some (Jvm.Cond.initialized "java/lang/Character") := by decide +kernel
theorem tb_20 : tables_1[20]? = some (Jvm.Cond.initialized "java/lang/System") := by decide +kernel
theorem tb_21 : tables_1[21]? = some (Jvm.Cond.classLink "PairedComingLaw" (7 : Nat) "PairedComing") := by decide +kernel
theorem tb_22 : tables_1[22]? = some (Jvm.Cond.instantiable "PairedComing" (14 : Nat)) := by decide +kernel
theorem tb_23 : tables_1[23]? = some (Jvm.Cond.methodLink "PairedComingLaw" (9 : Nat) ({ cls := "PairedComing", name := "<init>", desc := "()V" } : Jvm.MethodName)) := by decide +kernel
theorem tb_24 : tables_1[24]? = some (Jvm.Cond.instanceMethod ({ cls := "PairedComing", name := "<init>", desc := "()V" } : Jvm.MethodName)) := by decide +kernel
theorem tb_25 : tables_1[25]? = some (Jvm.Cond.code ({ cls := "PairedComing", name := "<init>", desc := "()V" } : Jvm.MethodName) prog_1_method_1_code (2 : Nat) (Option.none : Option Jvm.ClassFile.FieldType)) := by decide +kernel
theorem tb_26 : tables_1[26]? = some (Jvm.Cond.methodLink "PairedComing" (1 : Nat) ({ cls := "java/lang/Object", name := "<init>", desc := "()V" } : Jvm.MethodName)) := by decide +kernel
theorem tb_27 : tables_1[27]? = some (Jvm.Cond.instanceMethod ({ cls := "java/lang/Object", name := "<init>", desc := "()V" } : Jvm.MethodName)) := by decide +kernel
theorem tb_28 : tables_1[28]? = some (Jvm.Cond.code ({ cls := "java/lang/Object", name := "<init>", desc := "()V" } : Jvm.MethodName) object_method_1_code (1 : Nat) (Option.none : Option Jvm.ClassFile.FieldType)) := by decide +kernel
theorem tb_29 : tables_1[29]? = some (Jvm.Cond.classLink "PairedComing" (7 : Nat) "PairedComing$Board") := by decide +kernel
theorem tb_30 : tables_1[30]? = some (Jvm.Cond.instantiable "PairedComing$Board" (8 : Nat)) := by decide +kernel
theorem tb_32 : tables_1[32]? = some (Jvm.Cond.instanceMethod ({ cls := "PairedComing$Board", name := "<init>", desc := "()V" } : Jvm.MethodName)) := by decide +kernel
theorem tb_33 : tables_1[33]? = some (Jvm.Cond.code ({ cls := "PairedComing$Board", name := "<init>", desc := "()V" } : Jvm.MethodName) prog_2_method_1_code (1 : Nat) (Option.none : Option Jvm.ClassFile.FieldType)) := by decide +kernel
theorem tb_34 : tables_1[34]? = some (Jvm.Cond.methodLink "PairedComing$Board" (3 : Nat) ({ cls := "java/lang/Object", name := "<init>", desc := "()V" } : Jvm.MethodName)) := by decide +kernel
theorem tb_35 : tables_1[35]? = some (Jvm.Cond.fieldLink "PairedComing$Board" (9 : Nat) "PairedComing$Board" "room" "[I") := by decide +kernel
theorem tb_36 : tables_1[36]? = some (Jvm.Cond.fieldLink "PairedComing$Rooms" (30 : Nat) "PairedComing$Board" "room" "[I") := by decide +kernel
theorem tb_37 : tables_1[37]? = some (Jvm.Cond.fieldLink "PairedComing$Standing" (72 : Nat) "PairedComing$Board" "room" "[I") := by decide +kernel
theorem tb_38 : tables_1[38]? = some (Jvm.Cond.fieldLink "PairedComing" (132 : Nat) "PairedComing$Board" "room" "[I") := by decide +kernel
theorem tb_39 : tables_1[39]? = some (Jvm.Cond.fieldLink "PairedComing$Board" (15 : Nat) "PairedComing$Board" "rank" "[I") := by decide +kernel
theorem tb_40 : tables_1[40]? = some (Jvm.Cond.fieldLink "PairedComing" (126 : Nat) "PairedComing$Board" "rank" "[I") := by decide +kernel
theorem tb_41 : tables_1[41]? = some (Jvm.Cond.fieldLink "PairedComing$Standing" (144 : Nat) "PairedComing$Board" "rank" "[I") := by decide +kernel
theorem tb_42 : tables_1[42]? = some (Jvm.Cond.fieldLink "PairedComing$Board" (18 : Nat) "PairedComing$Board" "budget" "[I") := by decide +kernel
theorem tb_43 : tables_1[43]? = some (Jvm.Cond.fieldLink "PairedComing" (135 : Nat) "PairedComing$Board" "budget" "[I") := by decide +kernel
theorem tb_44 : tables_1[44]? = some (Jvm.Cond.fieldLink "PairedComing$Standing" (86 : Nat) "PairedComing$Board" "budget" "[I") := by decide +kernel
theorem tb_45 : tables_1[45]? = some (Jvm.Cond.fieldLink "PairedComing$Board" (21 : Nat) "PairedComing$Board" "chance" "[I") := by decide +kernel
theorem tb_46 : tables_1[46]? = some (Jvm.Cond.fieldLink "PairedComing$Hopes" (46 : Nat) "PairedComing$Board" "chance" "[I") := by decide +kernel
theorem tb_47 : tables_1[47]? = some (Jvm.Cond.fieldLink "PairedComing" (119 : Nat) "PairedComing$Board" "chance" "[I") := by decide +kernel
theorem tb_48 : tables_1[48]? = some (Jvm.Cond.fieldLink "PairedComing$Board" (24 : Nat) "PairedComing$Board" "worths" "[I") := by decide +kernel
theorem tb_49 : tables_1[49]? = some (Jvm.Cond.fieldLink "PairedComing$Plan" (76 : Nat) "PairedComing$Board" "worths" "[I") := by decide +kernel
theorem tb_50 : tables_1[50]? = some (Jvm.Cond.fieldLink "PairedComing$Board" (27 : Nat) "PairedComing$Board" "posts" "I") := by decide +kernel
theorem tb_51 : tables_1[51]? = some (Jvm.Cond.fieldLink "PairedComing$Rooms" (25 : Nat) "PairedComing$Board" "posts" "I") := by decide +kernel
theorem tb_52 : tables_1[52]? = some (Jvm.Cond.fieldLink "PairedComing" (84 : Nat) "PairedComing$Board" "posts" "I") := by decide +kernel
theorem tb_53 : tables_1[53]? = some (Jvm.Cond.fieldLink "PairedComing$Hopes" (68 : Nat) "PairedComing$Board" "posts" "I") := by decide +kernel
theorem tb_54 : tables_1[54]? = some (Jvm.Cond.fieldLink "PairedComing$Plan" (73 : Nat) "PairedComing$Board" "posts" "I") := by decide +kernel
theorem tb_55 : tables_1[55]? = some (Jvm.Cond.fieldLink "PairedComing$Standing" (75 : Nat) "PairedComing$Board" "posts" "I") := by decide +kernel
theorem tb_56 : tables_1[56]? = some (Jvm.Cond.fieldLink "PairedComing$Hopes" (43 : Nat) "PairedComing$Board" "guests" "I") := by decide +kernel
theorem tb_57 : tables_1[57]? = some (Jvm.Cond.fieldLink "PairedComing" (95 : Nat) "PairedComing$Board" "guests" "I") := by decide +kernel
theorem tb_58 : tables_1[58]? = some (Jvm.Cond.fieldLink "PairedComing$Board" (34 : Nat) "PairedComing$Board" "guests" "I") := by decide +kernel
theorem tb_59 : tables_1[59]? = some (Jvm.Cond.fieldLink "PairedComing$Standing" (63 : Nat) "PairedComing$Board" "guests" "I") := by decide +kernel
theorem tb_60 : tables_1[60]? = some (Jvm.Cond.fieldLink "PairedComing$Plan" (49 : Nat) "PairedComing$Board" "guests" "I") := by decide +kernel
theorem tb_61 : tables_1[61]? = some (Jvm.Cond.fieldLink "PairedComing$Hopes" (33 : Nat) "PairedComing$Board" "version" "I") := by decide +kernel
theorem tb_62 : tables_1[62]? = some (Jvm.Cond.fieldLink "PairedComing$Board" (31 : Nat) "PairedComing$Board" "version" "I") := by decide +kernel
theorem tb_63 : tables_1[63]? = some (Jvm.Cond.fieldLink "PairedComing$Plan" (33 : Nat) "PairedComing$Board" "version" "I") := by decide +kernel
theorem tb_64 : tables_1[64]? = some (Jvm.Cond.fieldLink "PairedComing" (276 : Nat) "PairedComing$Board" "version" "I") := by decide +kernel
theorem tb_65 : tables_1[65]? = some (Jvm.Cond.laysFinal "PairedComing$Board" "PairedComing$Board" "room" "[I") := by decide +kernel
theorem tb_67 : tables_1[67]? = some (Jvm.Cond.laysFinal "PairedComing$Board" "PairedComing$Board" "rank" "[I") := by decide +kernel
theorem tb_69 : tables_1[69]? = some (Jvm.Cond.laysFinal "PairedComing$Board" "PairedComing$Board" "budget" "[I") := by decide +kernel
theorem tb_71 : tables_1[71]? = some (Jvm.Cond.laysFinal "PairedComing$Board" "PairedComing$Board" "chance" "[I") := by decide +kernel
theorem tb_73 : tables_1[73]? = some (Jvm.Cond.laysFinal "PairedComing$Board" "PairedComing$Board" "worths" "[I") := by decide +kernel
theorem tb_75 : tables_1[75]? = some (Jvm.Cond.lays "PairedComing$Board" "PairedComing$Board" "posts" "I") := by decide +kernel
theorem tb_77 : tables_1[77]? = some (Jvm.Cond.lays "PairedComing$Board" "PairedComing$Board" "guests" "I") := by decide +kernel
theorem tb_79 : tables_1[79]? = some (Jvm.Cond.lays "PairedComing$Board" "PairedComing$Board" "version" "I") := by decide +kernel
theorem tb_82 : tables_1[82]? = some (Jvm.Cond.arrayClass Jvm.ClassFile.FieldType.int) := by decide +kernel
theorem tb_83 : tables_1[83]? = some (Jvm.Cond.classLink "PairedComing" (16 : Nat) "PairedComing$Standing") := by decide +kernel
theorem tb_84 : tables_1[84]? = some (Jvm.Cond.instantiable "PairedComing$Standing" (13 : Nat)) := by decide +kernel
theorem tb_85 : tables_1[85]? = some (Jvm.Cond.methodLink "PairedComing" (18 : Nat) ({ cls := "PairedComing$Standing", name := "<init>", desc := "(LPairedComing$Board;)V" } : Jvm.MethodName)) := by decide +kernel
theorem tb_86 : tables_1[86]? = some (Jvm.Cond.instanceMethod ({ cls := "PairedComing$Standing", name := "<init>", desc := "(LPairedComing$Board;)V" } : Jvm.MethodName)) := by decide +kernel
theorem tb_87 : tables_1[87]? = some (Jvm.Cond.code ({ cls := "PairedComing$Standing", name := "<init>", desc := "(LPairedComing$Board;)V" } : Jvm.MethodName) prog_9_method_1_code (2 : Nat) (Option.none : Option Jvm.ClassFile.FieldType)) := by decide +kernel
theorem tb_88 : tables_1[88]? = some (Jvm.Cond.methodLink "PairedComing$Standing" (3 : Nat) ({ cls := "java/lang/Object", name := "<init>", desc := "()V" } : Jvm.MethodName)) := by decide +kernel
theorem tb_89 : tables_1[89]? = some (Jvm.Cond.methodLink "PairedComing$Standing" (44 : Nat) ({ cls := "java/util/Arrays", name := "fill", desc := "([II)V" } : Jvm.MethodName)) := by decide +kernel
theorem tb_90 : tables_1[90]? = some (Jvm.Cond.static ({ cls := "java/util/Arrays", name := "fill", desc := "([II)V" } : Jvm.MethodName)) := by decide +kernel
theorem tb_91 : tables_1[91]? = some (Jvm.Cond.code ({ cls := "java/util/Arrays", name := "fill", desc := "([II)V" } : Jvm.MethodName) prog_20_method_103_code (4 : Nat) (Option.none : Option Jvm.ClassFile.FieldType)) := by decide +kernel
theorem tb_92 : tables_1[92]? = some (Jvm.Cond.fieldLink "PairedComing$Standing" (40 : Nat) "PairedComing$Standing" "board" "LPairedComing$Board;") := by decide +kernel
theorem tb_93 : tables_1[93]? = some (Jvm.Cond.fieldLink "PairedComing" (396 : Nat) "PairedComing$Standing" "board" "LPairedComing$Board;") := by decide +kernel
theorem tb_94 : tables_1[94]? = some (Jvm.Cond.fieldLink "PairedComing$Standing" (9 : Nat) "PairedComing$Standing" "taken" "[I") := by decide +kernel
theorem tb_95 : tables_1[95]? = some (Jvm.Cond.fieldLink "PairedComing$Standing" (15 : Nat) "PairedComing$Standing" "paid" "[I") := by decide +kernel
theorem tb_96 : tables_1[96]? = some (Jvm.Cond.fieldLink "PairedComing" (142 : Nat) "PairedComing$Standing" "paid" "[I") := by decide +kernel
theorem tb_97 : tables_1[97]? = some (Jvm.Cond.fieldLink "PairedComing$Standing" (18 : Nat) "PairedComing$Standing" "held" "[I") := by decide +kernel
theorem tb_98 : tables_1[98]? = some (Jvm.Cond.fieldLink "PairedComing" (213 : Nat) "PairedComing$Standing" "held" "[I") := by decide +kernel
theorem tb_99 : tables_1[99]? = some (Jvm.Cond.fieldLink "PairedComing$Standing" (21 : Nat) "PairedComing$Standing" "cameAs" "[I") := by decide +kernel
theorem tb_100 : tables_1[100]? = some (Jvm.Cond.fieldLink "PairedComing$Standing" (24 : Nat) "PairedComing$Standing" "actGuest" "[I") := by decide +kernel
theorem tb_101 : tables_1[101]? = some (Jvm.Cond.fieldLink "PairedComing$Standing" (27 : Nat) "PairedComing$Standing" "actPost" "[I") := by decide +kernel
theorem tb_102 : tables_1[102]? = some (Jvm.Cond.fieldLink "PairedComing$Standing" (30 : Nat) "PairedComing$Standing" "actPays" "[I") := by decide +kernel
theorem tb_103 : tables_1[103]? = some (Jvm.Cond.fieldLink "PairedComing$Standing" (33 : Nat) "PairedComing$Standing" "actDropped" "[I") := by decide +kernel
theorem tb_104 : tables_1[104]? = some (Jvm.Cond.fieldLink "PairedComing$Standing" (36 : Nat) "PairedComing$Standing" "actGoes" "[Z") := by decide +kernel
theorem tb_105 : tables_1[105]? = some (Jvm.Cond.fieldLink "PairedComing$Standing" (50 : Nat) "PairedComing$Standing" "came" "I") := by decide +kernel
theorem tb_106 : tables_1[106]? = some (Jvm.Cond.fieldLink "PairedComing" (80 : Nat) "PairedComing$Standing" "came" "I") := by decide +kernel
theorem tb_107 : tables_1[107]? = some (Jvm.Cond.fieldLink "PairedComing$Standing" (54 : Nat) "PairedComing$Standing" "dropped" "I") := by decide +kernel
theorem tb_108 : tables_1[108]? = some (Jvm.Cond.fieldLink "PairedComing" (210 : Nat) "PairedComing$Standing" "dropped" "I") := by decide +kernel
theorem tb_109 : tables_1[109]? = some (Jvm.Cond.fieldLink "PairedComing$Standing" (57 : Nat) "PairedComing$Standing" "acts" "I") := by decide +kernel
theorem tb_110 : tables_1[110]? = some (Jvm.Cond.fieldLink "PairedComing" (351 : Nat) "PairedComing$Standing" "acts" "I") := by decide +kernel
theorem tb_111 : tables_1[111]? = some (Jvm.Cond.laysFinal "PairedComing$Standing" "PairedComing$Standing" "board" "LPairedComing$Board;") := by decide +kernel
theorem tb_113 : tables_1[113]? = some (Jvm.Cond.laysFinal "PairedComing$Standing" "PairedComing$Standing" "taken" "[I") := by decide +kernel
theorem tb_115 : tables_1[115]? = some (Jvm.Cond.laysFinal "PairedComing$Standing" "PairedComing$Standing" "paid" "[I") := by decide +kernel
theorem tb_117 : tables_1[117]? = some (Jvm.Cond.laysFinal "PairedComing$Standing" "PairedComing$Standing" "held" "[I") := by decide +kernel
theorem tb_119 : tables_1[119]? = some (Jvm.Cond.laysFinal "PairedComing$Standing" "PairedComing$Standing" "cameAs" "[I") := by decide +kernel
theorem tb_121 : tables_1[121]? = some (Jvm.Cond.laysFinal "PairedComing$Standing" "PairedComing$Standing" "actGuest" "[I") := by decide +kernel
theorem tb_123 : tables_1[123]? = some (Jvm.Cond.laysFinal "PairedComing$Standing" "PairedComing$Standing" "actPost" "[I") := by decide +kernel
theorem tb_125 : tables_1[125]? = some (Jvm.Cond.laysFinal "PairedComing$Standing" "PairedComing$Standing" "actPays" "[I") := by decide +kernel
theorem tb_127 : tables_1[127]? = some (Jvm.Cond.laysFinal "PairedComing$Standing" "PairedComing$Standing" "actDropped" "[I") := by decide +kernel
theorem tb_129 : tables_1[129]? = some (Jvm.Cond.laysFinal "PairedComing$Standing" "PairedComing$Standing" "actGoes" "[Z") := by decide +kernel
theorem tb_131 : tables_1[131]? = some (Jvm.Cond.lays "PairedComing$Standing" "PairedComing$Standing" "came" "I") := by decide +kernel
theorem tb_133 : tables_1[133]? = some (Jvm.Cond.lays "PairedComing$Standing" "PairedComing$Standing" "dropped" "I") := by decide +kernel
theorem tb_135 : tables_1[135]? = some (Jvm.Cond.lays "PairedComing$Standing" "PairedComing$Standing" "acts" "I") := by decide +kernel
theorem tb_138 : tables_1[138]? = some (Jvm.Cond.arrayClass Jvm.ClassFile.FieldType.boolean) := by decide +kernel
theorem tb_139 : tables_1[139]? = some (Jvm.Cond.classLink "PairedComing" (34 : Nat) "PairedComing$Plan") := by decide +kernel
theorem tb_140 : tables_1[140]? = some (Jvm.Cond.instantiable "PairedComing$Plan" (6 : Nat)) := by decide +kernel
theorem tb_142 : tables_1[142]? = some (Jvm.Cond.instanceMethod ({ cls := "PairedComing$Plan", name := "<init>", desc := "()V" } : Jvm.MethodName)) := by decide +kernel
theorem tb_143 : tables_1[143]? = some (Jvm.Cond.code ({ cls := "PairedComing$Plan", name := "<init>", desc := "()V" } : Jvm.MethodName) prog_5_method_1_code (1 : Nat) (Option.none : Option Jvm.ClassFile.FieldType)) := by decide +kernel
theorem tb_144 : tables_1[144]? = some (Jvm.Cond.methodLink "PairedComing$Plan" (3 : Nat) ({ cls := "java/lang/Object", name := "<init>", desc := "()V" } : Jvm.MethodName)) := by decide +kernel
theorem tb_145 : tables_1[145]? = some (Jvm.Cond.classLink "PairedComing$Plan" (15 : Nat) "PairedComing$Rooms") := by decide +kernel
theorem tb_146 : tables_1[146]? = some (Jvm.Cond.instantiable "PairedComing$Rooms" (4 : Nat)) := by decide +kernel
theorem tb_148 : tables_1[148]? = some (Jvm.Cond.instanceMethod ({ cls := "PairedComing$Rooms", name := "<init>", desc := "()V" } : Jvm.MethodName)) := by decide +kernel
theorem tb_149 : tables_1[149]? = some (Jvm.Cond.code ({ cls := "PairedComing$Rooms", name := "<init>", desc := "()V" } : Jvm.MethodName) prog_6_method_1_code (1 : Nat) (Option.none : Option Jvm.ClassFile.FieldType)) := by decide +kernel
theorem tb_150 : tables_1[150]? = some (Jvm.Cond.methodLink "PairedComing$Rooms" (3 : Nat) ({ cls := "java/lang/Object", name := "<init>", desc := "()V" } : Jvm.MethodName)) := by decide +kernel
theorem tb_151 : tables_1[151]? = some (Jvm.Cond.fieldLink "PairedComing$Rooms" (9 : Nat) "PairedComing$Rooms" "stride" "[I") := by decide +kernel
theorem tb_152 : tables_1[152]? = some (Jvm.Cond.fieldLink "PairedComing$Hopes" (89 : Nat) "PairedComing$Rooms" "stride" "[I") := by decide +kernel
theorem tb_153 : tables_1[153]? = some (Jvm.Cond.fieldLink "PairedComing$Plan" (83 : Nat) "PairedComing$Rooms" "stride" "[I") := by decide +kernel
theorem tb_154 : tables_1[154]? = some (Jvm.Cond.fieldLink "PairedComing$Rooms" (15 : Nat) "PairedComing$Rooms" "open" "[I") := by decide +kernel
theorem tb_155 : tables_1[155]? = some (Jvm.Cond.fieldLink "PairedComing$Rooms" (18 : Nat) "PairedComing$Rooms" "free" "[I") := by decide +kernel
theorem tb_156 : tables_1[156]? = some (Jvm.Cond.fieldLink "PairedComing$Hopes" (54 : Nat) "PairedComing$Rooms" "free" "[I") := by decide +kernel
theorem tb_157 : tables_1[157]? = some (Jvm.Cond.fieldLink "PairedComing$Rooms" (21 : Nat) "PairedComing$Rooms" "states" "I") := by decide +kernel
theorem tb_158 : tables_1[158]? = some (Jvm.Cond.fieldLink "PairedComing$Hopes" (61 : Nat) "PairedComing$Rooms" "states" "I") := by decide +kernel
theorem tb_159 : tables_1[159]? = some (Jvm.Cond.fieldLink "PairedComing$Plan" (66 : Nat) "PairedComing$Rooms" "states" "I") := by decide +kernel
theorem tb_160 : tables_1[160]? = some (Jvm.Cond.laysFinal "PairedComing$Rooms" "PairedComing$Rooms" "stride" "[I") := by decide +kernel
theorem tb_162 : tables_1[162]? = some (Jvm.Cond.laysFinal "PairedComing$Rooms" "PairedComing$Rooms" "open" "[I") := by decide +kernel
theorem tb_164 : tables_1[164]? = some (Jvm.Cond.laysFinal "PairedComing$Rooms" "PairedComing$Rooms" "free" "[I") := by decide +kernel
theorem tb_166 : tables_1[166]? = some (Jvm.Cond.lays "PairedComing$Rooms" "PairedComing$Rooms" "states" "I") := by decide +kernel
theorem tb_169 : tables_1[169]? = some (Jvm.Cond.fieldLink "PairedComing$Plan" (9 : Nat) "PairedComing$Plan" "postOf" "[I") := by decide +kernel
theorem tb_170 : tables_1[170]? = some (Jvm.Cond.fieldLink "PairedComing" (232 : Nat) "PairedComing$Plan" "postOf" "[I") := by decide +kernel
theorem tb_171 : tables_1[171]? = some (Jvm.Cond.fieldLink "PairedComing$Plan" (39 : Nat) "PairedComing$Plan" "sum" "I") := by decide +kernel
theorem tb_172 : tables_1[172]? = some (Jvm.Cond.fieldLink "PairedComing" (229 : Nat) "PairedComing$Plan" "sum" "I") := by decide +kernel
theorem tb_173 : tables_1[173]? = some (Jvm.Cond.fieldLink "PairedComing$Plan" (18 : Nat) "PairedComing$Plan" "rooms" "LPairedComing$Rooms;") := by decide +kernel
theorem tb_174 : tables_1[174]? = some (Jvm.Cond.fieldLink "PairedComing$Plan" (22 : Nat) "PairedComing$Plan" "sums" "[I") := by decide +kernel
theorem tb_175 : tables_1[175]? = some (Jvm.Cond.fieldLink "PairedComing$Plan" (25 : Nat) "PairedComing$Plan" "version" "I") := by decide +kernel
theorem tb_176 : tables_1[176]? = some (Jvm.Cond.fieldLink "PairedComing$Plan" (36 : Nat) "PairedComing$Plan" "batch" "I") := by decide +kernel
theorem tb_177 : tables_1[177]? = some (Jvm.Cond.laysFinal "PairedComing$Plan" "PairedComing$Plan" "postOf" "[I") := by decide +kernel
theorem tb_179 : tables_1[179]? = some (Jvm.Cond.lays "PairedComing$Plan" "PairedComing$Plan" "sum" "I") := by decide +kernel
theorem tb_181 : tables_1[181]? = some (Jvm.Cond.laysFinal "PairedComing$Plan" "PairedComing$Plan" "rooms" "LPairedComing$Rooms;") := by decide +kernel
theorem tb_183 : tables_1[183]? = some (Jvm.Cond.laysFinal "PairedComing$Plan" "PairedComing$Plan" "sums" "[I") := by decide +kernel
theorem tb_185 : tables_1[185]? = some (Jvm.Cond.lays "PairedComing$Plan" "PairedComing$Plan" "version" "I") := by decide +kernel
theorem tb_187 : tables_1[187]? = some (Jvm.Cond.lays "PairedComing$Plan" "PairedComing$Plan" "batch" "I") := by decide +kernel
theorem tb_190 : tables_1[190]? = some (Jvm.Cond.classLink "PairedComing" (41 : Nat) "PairedComing$Hopes") := by decide +kernel
theorem tb_191 : tables_1[191]? = some (Jvm.Cond.instantiable "PairedComing$Hopes" (6 : Nat)) := by decide +kernel
theorem tb_192 : tables_1[192]? = some (Jvm.Cond.methodLink "PairedComing" (43 : Nat) ({ cls := "PairedComing$Hopes", name := "<init>", desc := "(LPairedComing$Board;)V" } : Jvm.MethodName)) := by decide +kernel
theorem tb_193 : tables_1[193]? = some (Jvm.Cond.instanceMethod ({ cls := "PairedComing$Hopes", name := "<init>", desc := "(LPairedComing$Board;)V" } : Jvm.MethodName)) := by decide +kernel
theorem tb_194 : tables_1[194]? = some (Jvm.Cond.code ({ cls := "PairedComing$Hopes", name := "<init>", desc := "(LPairedComing$Board;)V" } : Jvm.MethodName) prog_3_method_1_code (2 : Nat) (Option.none : Option Jvm.ClassFile.FieldType)) := by decide +kernel
theorem tb_195 : tables_1[195]? = some (Jvm.Cond.methodLink "PairedComing$Hopes" (3 : Nat) ({ cls := "java/lang/Object", name := "<init>", desc := "()V" } : Jvm.MethodName)) := by decide +kernel
theorem tb_196 : tables_1[196]? = some (Jvm.Cond.classLink "PairedComing$Hopes" (15 : Nat) "PairedComing$Rooms") := by decide +kernel
theorem tb_198 : tables_1[198]? = some (Jvm.Cond.fieldLink "PairedComing$Hopes" (9 : Nat) "PairedComing$Hopes" "scale" "[J") := by decide +kernel
theorem tb_199 : tables_1[199]? = some (Jvm.Cond.fieldLink "PairedComing" (307 : Nat) "PairedComing$Hopes" "scale" "[J") := by decide +kernel
theorem tb_200 : tables_1[200]? = some (Jvm.Cond.fieldLink "PairedComing$Hopes" (40 : Nat) "PairedComing$Hopes" "chances" "I") := by decide +kernel
theorem tb_201 : tables_1[201]? = some (Jvm.Cond.fieldLink "PairedComing" (300 : Nat) "PairedComing$Hopes" "chances" "I") := by decide +kernel
theorem tb_202 : tables_1[202]? = some (Jvm.Cond.fieldLink "PairedComing$Hopes" (29 : Nat) "PairedComing$Hopes" "board" "LPairedComing$Board;") := by decide +kernel
theorem tb_203 : tables_1[203]? = some (Jvm.Cond.fieldLink "PairedComing$Hopes" (18 : Nat) "PairedComing$Hopes" "rooms" "LPairedComing$Rooms;") := by decide +kernel
theorem tb_204 : tables_1[204]? = some (Jvm.Cond.fieldLink "PairedComing$Hopes" (22 : Nat) "PairedComing$Hopes" "values" "[J") := by decide +kernel
theorem tb_205 : tables_1[205]? = some (Jvm.Cond.fieldLink "PairedComing$Hopes" (25 : Nat) "PairedComing$Hopes" "version" "I") := by decide +kernel
theorem tb_206 : tables_1[206]? = some (Jvm.Cond.laysFinal "PairedComing$Hopes" "PairedComing$Hopes" "scale" "[J") := by decide +kernel
theorem tb_208 : tables_1[208]? = some (Jvm.Cond.lays "PairedComing$Hopes" "PairedComing$Hopes" "chances" "I") := by decide +kernel
theorem tb_210 : tables_1[210]? = some (Jvm.Cond.laysFinal "PairedComing$Hopes" "PairedComing$Hopes" "board" "LPairedComing$Board;") := by decide +kernel
theorem tb_212 : tables_1[212]? = some (Jvm.Cond.laysFinal "PairedComing$Hopes" "PairedComing$Hopes" "rooms" "LPairedComing$Rooms;") := by decide +kernel
theorem tb_214 : tables_1[214]? = some (Jvm.Cond.laysFinal "PairedComing$Hopes" "PairedComing$Hopes" "values" "[J") := by decide +kernel
theorem tb_216 : tables_1[216]? = some (Jvm.Cond.lays "PairedComing$Hopes" "PairedComing$Hopes" "version" "I") := by decide +kernel
theorem tb_219 : tables_1[219]? = some (Jvm.Cond.arrayClass Jvm.ClassFile.FieldType.long) := by decide +kernel
theorem tb_220 : tables_1[220]? = some (Jvm.Cond.classLink "PairedComing" (48 : Nat) "PairedComing$Tape") := by decide +kernel
theorem tb_221 : tables_1[221]? = some (Jvm.Cond.instantiable "PairedComing$Tape" (8 : Nat)) := by decide +kernel
theorem tb_223 : tables_1[223]? = some (Jvm.Cond.instanceMethod ({ cls := "PairedComing$Tape", name := "<init>", desc := "()V" } : Jvm.MethodName)) := by decide +kernel
theorem tb_224 : tables_1[224]? = some (Jvm.Cond.code ({ cls := "PairedComing$Tape", name := "<init>", desc := "()V" } : Jvm.MethodName) prog_10_method_1_code (1 : Nat) (Option.none : Option Jvm.ClassFile.FieldType)) := by decide +kernel
theorem tb_225 : tables_1[225]? = some (Jvm.Cond.methodLink "PairedComing$Tape" (3 : Nat) ({ cls := "java/lang/Object", name := "<init>", desc := "()V" } : Jvm.MethodName)) := by decide +kernel
theorem tb_226 : tables_1[226]? = some (Jvm.Cond.fieldLink "PairedComing$Tape" (15 : Nat) "PairedComing$Tape" "length" "I") := by decide +kernel
theorem tb_227 : tables_1[227]? = some (Jvm.Cond.fieldLink "PairedComing" (151 : Nat) "PairedComing$Tape" "length" "I") := by decide +kernel
theorem tb_228 : tables_1[228]? = some (Jvm.Cond.fieldLink "PairedComing$Tape" (22 : Nat) "PairedComing$Tape" "fault" "I") := by decide +kernel
theorem tb_229 : tables_1[229]? = some (Jvm.Cond.fieldLink "PairedComing" (165 : Nat) "PairedComing$Tape" "fault" "I") := by decide +kernel
theorem tb_230 : tables_1[230]? = some (Jvm.Cond.fieldLink "PairedComing$Tape" (25 : Nat) "PairedComing$Tape" "faultPlace" "I") := by decide +kernel
theorem tb_231 : tables_1[231]? = some (Jvm.Cond.fieldLink "PairedComing" (171 : Nat) "PairedComing$Tape" "faultPlace" "I") := by decide +kernel
theorem tb_232 : tables_1[232]? = some (Jvm.Cond.fieldLink "PairedComing$Tape" (9 : Nat) "PairedComing$Tape" "bytes" "[I") := by decide +kernel
theorem tb_233 : tables_1[233]? = some (Jvm.Cond.fieldLink "PairedComing$Tape" (19 : Nat) "PairedComing$Tape" "at" "I") := by decide +kernel
theorem tb_234 : tables_1[234]? = some (Jvm.Cond.fieldLink "PairedComing$Tape" (44 : Nat) "PairedComing$Tape" "token" "I") := by decide +kernel
theorem tb_235 : tables_1[235]? = some (Jvm.Cond.fieldLink "PairedComing$Tape" (78 : Nat) "PairedComing$Tape" "tokenPlace" "I") := by decide +kernel
theorem tb_236 : tables_1[236]? = some (Jvm.Cond.fieldLink "PairedComing$Tape" (71 : Nat) "PairedComing$Tape" "number" "I") := by decide +kernel
theorem tb_237 : tables_1[237]? = some (Jvm.Cond.lays "PairedComing$Tape" "PairedComing$Tape" "length" "I") := by decide +kernel
theorem tb_239 : tables_1[239]? = some (Jvm.Cond.lays "PairedComing$Tape" "PairedComing$Tape" "fault" "I") := by decide +kernel
theorem tb_241 : tables_1[241]? = some (Jvm.Cond.lays "PairedComing$Tape" "PairedComing$Tape" "faultPlace" "I") := by decide +kernel
theorem tb_243 : tables_1[243]? = some (Jvm.Cond.laysFinal "PairedComing$Tape" "PairedComing$Tape" "bytes" "[I") := by decide +kernel
theorem tb_245 : tables_1[245]? = some (Jvm.Cond.lays "PairedComing$Tape" "PairedComing$Tape" "at" "I") := by decide +kernel
theorem tb_247 : tables_1[247]? = some (Jvm.Cond.lays "PairedComing$Tape" "PairedComing$Tape" "token" "I") := by decide +kernel
theorem tb_249 : tables_1[249]? = some (Jvm.Cond.lays "PairedComing$Tape" "PairedComing$Tape" "tokenPlace" "I") := by decide +kernel
theorem tb_251 : tables_1[251]? = some (Jvm.Cond.lays "PairedComing$Tape" "PairedComing$Tape" "number" "I") := by decide +kernel
theorem tb_254 : tables_1[254]? = some (Jvm.Cond.classLink "PairedComing" (55 : Nat) "PairedComing$Rule") := by decide +kernel
theorem tb_256 : tables_1[256]? = some (Jvm.Cond.classLink "PairedComing" (61 : Nat) "PairedComing$Sheet") := by decide +kernel
theorem tb_258 : tables_1[258]? = some (Jvm.Cond.instantiable "PairedComing$Rule" (11 : Nat)) := by decide +kernel
theorem tb_259 : tables_1[259]? = some (Jvm.Cond.methodLink "PairedComing" (74 : Nat) ({ cls := "PairedComing$Rule", name := "<init>", desc := "()V" } : Jvm.MethodName)) := by decide +kernel
theorem tb_260 : tables_1[260]? = some (Jvm.Cond.instanceMethod ({ cls := "PairedComing$Rule", name := "<init>", desc := "()V" } : Jvm.MethodName)) := by decide +kernel
theorem tb_261 : tables_1[261]? = some (Jvm.Cond.code ({ cls := "PairedComing$Rule", name := "<init>", desc := "()V" } : Jvm.MethodName) prog_7_method_1_code (2 : Nat) (Option.none : Option Jvm.ClassFile.FieldType)) := by decide +kernel
theorem tb_262 : tables_1[262]? = some (Jvm.Cond.methodLink "PairedComing$Rule" (3 : Nat) ({ cls := "java/lang/Object", name := "<init>", desc := "()V" } : Jvm.MethodName)) := by decide +kernel
theorem tb_263 : tables_1[263]? = some (Jvm.Cond.classLink "PairedComing$Rule" (30 : Nat) "PairedComing$Mean") := by decide +kernel
theorem tb_264 : tables_1[264]? = some (Jvm.Cond.instantiable "PairedComing$Mean" (5 : Nat)) := by decide +kernel
theorem tb_266 : tables_1[266]? = some (Jvm.Cond.instanceMethod ({ cls := "PairedComing$Mean", name := "<init>", desc := "()V" } : Jvm.MethodName)) := by decide +kernel
theorem tb_267 : tables_1[267]? = some (Jvm.Cond.code ({ cls := "PairedComing$Mean", name := "<init>", desc := "()V" } : Jvm.MethodName) prog_4_method_1_code (1 : Nat) (Option.none : Option Jvm.ClassFile.FieldType)) := by decide +kernel
theorem tb_268 : tables_1[268]? = some (Jvm.Cond.methodLink "PairedComing$Mean" (1 : Nat) ({ cls := "java/lang/Object", name := "<init>", desc := "()V" } : Jvm.MethodName)) := by decide +kernel
theorem tb_269 : tables_1[269]? = some (Jvm.Cond.fieldLink "PairedComing$Mean" (9 : Nat) "PairedComing$Mean" "version" "I") := by decide +kernel
theorem tb_270 : tables_1[270]? = some (Jvm.Cond.fieldLink "PairedComing$Mean" (13 : Nat) "PairedComing$Mean" "sum" "J") := by decide +kernel
theorem tb_271 : tables_1[271]? = some (Jvm.Cond.fieldLink "PairedComing" (255 : Nat) "PairedComing$Mean" "sum" "J") := by decide +kernel
theorem tb_272 : tables_1[272]? = some (Jvm.Cond.fieldLink "PairedComing$Mean" (17 : Nat) "PairedComing$Mean" "ways" "J") := by decide +kernel
theorem tb_273 : tables_1[273]? = some (Jvm.Cond.fieldLink "PairedComing" (260 : Nat) "PairedComing$Mean" "ways" "J") := by decide +kernel
theorem tb_274 : tables_1[274]? = some (Jvm.Cond.fieldLink "PairedComing$Mean" (20 : Nat) "PairedComing$Mean" "least" "I") := by decide +kernel
theorem tb_275 : tables_1[275]? = some (Jvm.Cond.fieldLink "PairedComing" (267 : Nat) "PairedComing$Mean" "least" "I") := by decide +kernel
theorem tb_276 : tables_1[276]? = some (Jvm.Cond.fieldLink "PairedComing$Mean" (23 : Nat) "PairedComing$Mean" "greatest" "I") := by decide +kernel
theorem tb_277 : tables_1[277]? = some (Jvm.Cond.fieldLink "PairedComing" (270 : Nat) "PairedComing$Mean" "greatest" "I") := by decide +kernel
theorem tb_278 : tables_1[278]? = some (Jvm.Cond.lays "PairedComing$Mean" "PairedComing$Mean" "version" "I") := by decide +kernel
theorem tb_280 : tables_1[280]? = some (Jvm.Cond.lays "PairedComing$Mean" "PairedComing$Mean" "sum" "J") := by decide +kernel
theorem tb_282 : tables_1[282]? = some (Jvm.Cond.lays "PairedComing$Mean" "PairedComing$Mean" "ways" "J") := by decide +kernel
theorem tb_284 : tables_1[284]? = some (Jvm.Cond.lays "PairedComing$Mean" "PairedComing$Mean" "least" "I") := by decide +kernel
theorem tb_286 : tables_1[286]? = some (Jvm.Cond.lays "PairedComing$Mean" "PairedComing$Mean" "greatest" "I") := by decide +kernel
theorem tb_289 : tables_1[289]? = some (Jvm.Cond.classLink "PairedComing$Rule" (40 : Nat) "PairedComing$Worst") := by decide +kernel
theorem tb_291 : tables_1[291]? = some (Jvm.Cond.instantiable "PairedComing$Worst" (4 : Nat)) := by decide +kernel
theorem tb_293 : tables_1[293]? = some (Jvm.Cond.instanceMethod ({ cls := "PairedComing$Worst", name := "<init>", desc := "()V" } : Jvm.MethodName)) := by decide +kernel
theorem tb_294 : tables_1[294]? = some (Jvm.Cond.code ({ cls := "PairedComing$Worst", name := "<init>", desc := "()V" } : Jvm.MethodName) prog_11_method_1_code (1 : Nat) (Option.none : Option Jvm.ClassFile.FieldType)) := by decide +kernel
theorem tb_295 : tables_1[295]? = some (Jvm.Cond.methodLink "PairedComing$Worst" (1 : Nat) ({ cls := "java/lang/Object", name := "<init>", desc := "()V" } : Jvm.MethodName)) := by decide +kernel
theorem tb_296 : tables_1[296]? = some (Jvm.Cond.fieldLink "PairedComing$Worst" (16 : Nat) "PairedComing$Worst" "value" "I") := by decide +kernel
theorem tb_297 : tables_1[297]? = some (Jvm.Cond.fieldLink "PairedComing" (331 : Nat) "PairedComing$Worst" "value" "I") := by decide +kernel
theorem tb_298 : tables_1[298]? = some (Jvm.Cond.fieldLink "PairedComing$Worst" (7 : Nat) "PairedComing$Worst" "best" "I") := by decide +kernel
theorem tb_299 : tables_1[299]? = some (Jvm.Cond.fieldLink "PairedComing" (333 : Nat) "PairedComing$Worst" "best" "I") := by decide +kernel
theorem tb_300 : tables_1[300]? = some (Jvm.Cond.fieldLink "PairedComing$Worst" (19 : Nat) "PairedComing$Worst" "bits" "I") := by decide +kernel
theorem tb_301 : tables_1[301]? = some (Jvm.Cond.fieldLink "PairedComing" (336 : Nat) "PairedComing$Worst" "bits" "I") := by decide +kernel
theorem tb_302 : tables_1[302]? = some (Jvm.Cond.fieldLink "PairedComing$Worst" (13 : Nat) "PairedComing$Worst" "whole" "I") := by decide +kernel
theorem tb_303 : tables_1[303]? = some (Jvm.Cond.fieldLink "PairedComing" (339 : Nat) "PairedComing$Worst" "whole" "I") := by decide +kernel
theorem tb_304 : tables_1[304]? = some (Jvm.Cond.lays "PairedComing$Worst" "PairedComing$Worst" "value" "I") := by decide +kernel
theorem tb_306 : tables_1[306]? = some (Jvm.Cond.lays "PairedComing$Worst" "PairedComing$Worst" "best" "I") := by decide +kernel
theorem tb_308 : tables_1[308]? = some (Jvm.Cond.lays "PairedComing$Worst" "PairedComing$Worst" "bits" "I") := by decide +kernel
theorem tb_310 : tables_1[310]? = some (Jvm.Cond.lays "PairedComing$Worst" "PairedComing$Worst" "whole" "I") := by decide +kernel
theorem tb_313 : tables_1[313]? = some (Jvm.Cond.fieldLink "PairedComing$Rule" (11 : Nat) "PairedComing$Rule" "keyKind" "[I") := by decide +kernel
theorem tb_314 : tables_1[314]? = some (Jvm.Cond.fieldLink "PairedComing" (184 : Nat) "PairedComing$Rule" "keyKind" "[I") := by decide +kernel
theorem tb_315 : tables_1[315]? = some (Jvm.Cond.fieldLink "PairedComing$Standing" (138 : Nat) "PairedComing$Rule" "keyKind" "[I") := by decide +kernel
theorem tb_316 : tables_1[316]? = some (Jvm.Cond.fieldLink "PairedComing$Rule" (17 : Nat) "PairedComing$Rule" "keyLeast" "[Z") := by decide +kernel
theorem tb_317 : tables_1[317]? = some (Jvm.Cond.fieldLink "PairedComing" (187 : Nat) "PairedComing$Rule" "keyLeast" "[Z") := by decide +kernel
theorem tb_318 : tables_1[318]? = some (Jvm.Cond.fieldLink "PairedComing$Standing" (141 : Nat) "PairedComing$Rule" "keyLeast" "[Z") := by decide +kernel
theorem tb_319 : tables_1[319]? = some (Jvm.Cond.fieldLink "PairedComing$Rule" (21 : Nat) "PairedComing$Rule" "testKind" "[I") := by decide +kernel
theorem tb_320 : tables_1[320]? = some (Jvm.Cond.fieldLink "PairedComing$Standing" (122 : Nat) "PairedComing$Rule" "testKind" "[I") := by decide +kernel
theorem tb_321 : tables_1[321]? = some (Jvm.Cond.fieldLink "PairedComing$Rule" (24 : Nat) "PairedComing$Rule" "testBelow" "[Z") := by decide +kernel
theorem tb_322 : tables_1[322]? = some (Jvm.Cond.fieldLink "PairedComing$Standing" (132 : Nat) "PairedComing$Rule" "testBelow" "[Z") := by decide +kernel
theorem tb_323 : tables_1[323]? = some (Jvm.Cond.fieldLink "PairedComing$Rule" (27 : Nat) "PairedComing$Rule" "testNumber" "[I") := by decide +kernel
theorem tb_324 : tables_1[324]? = some (Jvm.Cond.fieldLink "PairedComing$Standing" (129 : Nat) "PairedComing$Rule" "testNumber" "[I") := by decide +kernel
theorem tb_325 : tables_1[325]? = some (Jvm.Cond.fieldLink "PairedComing$Rule" (33 : Nat) "PairedComing$Rule" "byOrders" "LPairedComing$Mean;") := by decide +kernel
theorem tb_326 : tables_1[326]? = some (Jvm.Cond.fieldLink "PairedComing" (390 : Nat) "PairedComing$Rule" "byOrders" "LPairedComing$Mean;") := by decide +kernel
theorem tb_327 : tables_1[327]? = some (Jvm.Cond.fieldLink "PairedComing$Rule" (37 : Nat) "PairedComing$Rule" "byRanks" "LPairedComing$Mean;") := by decide +kernel
theorem tb_328 : tables_1[328]? = some (Jvm.Cond.fieldLink "PairedComing" (272 : Nat) "PairedComing$Rule" "byRanks" "LPairedComing$Mean;") := by decide +kernel
theorem tb_329 : tables_1[329]? = some (Jvm.Cond.fieldLink "PairedComing$Rule" (42 : Nat) "PairedComing$Rule" "worst" "[LPairedComing$Worst;") := by decide +kernel
theorem tb_330 : tables_1[330]? = some (Jvm.Cond.fieldLink "PairedComing" (318 : Nat) "PairedComing$Rule" "worst" "[LPairedComing$Worst;") := by decide +kernel
theorem tb_331 : tables_1[331]? = some (Jvm.Cond.fieldLink "PairedComing$Rule" (47 : Nat) "PairedComing$Rule" "keys" "I") := by decide +kernel
theorem tb_332 : tables_1[332]? = some (Jvm.Cond.fieldLink "PairedComing" (177 : Nat) "PairedComing$Rule" "keys" "I") := by decide +kernel
theorem tb_333 : tables_1[333]? = some (Jvm.Cond.fieldLink "PairedComing$Standing" (135 : Nat) "PairedComing$Rule" "keys" "I") := by decide +kernel
theorem tb_334 : tables_1[334]? = some (Jvm.Cond.fieldLink "PairedComing$Rule" (51 : Nat) "PairedComing$Rule" "tests" "I") := by decide +kernel
theorem tb_335 : tables_1[335]? = some (Jvm.Cond.fieldLink "PairedComing$Tape" (68 : Nat) "PairedComing$Rule" "tests" "I") := by decide +kernel
theorem tb_336 : tables_1[336]? = some (Jvm.Cond.fieldLink "PairedComing" (191 : Nat) "PairedComing$Rule" "tests" "I") := by decide +kernel
theorem tb_337 : tables_1[337]? = some (Jvm.Cond.fieldLink "PairedComing$Standing" (119 : Nat) "PairedComing$Rule" "tests" "I") := by decide +kernel
theorem tb_338 : tables_1[338]? = some (Jvm.Cond.fieldLink "PairedComing$Rule" (54 : Nat) "PairedComing$Rule" "drops" "Z") := by decide +kernel
theorem tb_339 : tables_1[339]? = some (Jvm.Cond.fieldLink "PairedComing$Tape" (50 : Nat) "PairedComing$Rule" "drops" "Z") := by decide +kernel
theorem tb_340 : tables_1[340]? = some (Jvm.Cond.fieldLink "PairedComing$Standing" (99 : Nat) "PairedComing$Rule" "drops" "Z") := by decide +kernel
theorem tb_341 : tables_1[341]? = some (Jvm.Cond.fieldLink "PairedComing" (194 : Nat) "PairedComing$Rule" "drops" "Z") := by decide +kernel
theorem tb_342 : tables_1[342]? = some (Jvm.Cond.laysFinal "PairedComing$Rule" "PairedComing$Rule" "keyKind" "[I") := by decide +kernel
theorem tb_344 : tables_1[344]? = some (Jvm.Cond.laysFinal "PairedComing$Rule" "PairedComing$Rule" "keyLeast" "[Z") := by decide +kernel
theorem tb_346 : tables_1[346]? = some (Jvm.Cond.laysFinal "PairedComing$Rule" "PairedComing$Rule" "testKind" "[I") := by decide +kernel
theorem tb_348 : tables_1[348]? = some (Jvm.Cond.laysFinal "PairedComing$Rule" "PairedComing$Rule" "testBelow" "[Z") := by decide +kernel
theorem tb_350 : tables_1[350]? = some (Jvm.Cond.laysFinal "PairedComing$Rule" "PairedComing$Rule" "testNumber" "[I") := by decide +kernel
theorem tb_352 : tables_1[352]? = some (Jvm.Cond.laysFinal "PairedComing$Rule" "PairedComing$Rule" "byOrders" "LPairedComing$Mean;") := by decide +kernel
theorem tb_354 : tables_1[354]? = some (Jvm.Cond.laysFinal "PairedComing$Rule" "PairedComing$Rule" "byRanks" "LPairedComing$Mean;") := by decide +kernel
theorem tb_356 : tables_1[356]? = some (Jvm.Cond.laysFinal "PairedComing$Rule" "PairedComing$Rule" "worst" "[LPairedComing$Worst;") := by decide +kernel
theorem tb_358 : tables_1[358]? = some (Jvm.Cond.lays "PairedComing$Rule" "PairedComing$Rule" "keys" "I") := by decide +kernel
theorem tb_360 : tables_1[360]? = some (Jvm.Cond.lays "PairedComing$Rule" "PairedComing$Rule" "tests" "I") := by decide +kernel
theorem tb_362 : tables_1[362]? = some (Jvm.Cond.lays "PairedComing$Rule" "PairedComing$Rule" "drops" "Z") := by decide +kernel
theorem tb_365 : tables_1[365]? = some (Jvm.Cond.instantiable "PairedComing$Sheet" (3 : Nat)) := by decide +kernel
theorem tb_367 : tables_1[367]? = some (Jvm.Cond.instanceMethod ({ cls := "PairedComing$Sheet", name := "<init>", desc := "()V" } : Jvm.MethodName)) := by decide +kernel
theorem tb_368 : tables_1[368]? = some (Jvm.Cond.code ({ cls := "PairedComing$Sheet", name := "<init>", desc := "()V" } : Jvm.MethodName) prog_8_method_1_code (1 : Nat) (Option.none : Option Jvm.ClassFile.FieldType)) := by decide +kernel
theorem tb_369 : tables_1[369]? = some (Jvm.Cond.methodLink "PairedComing$Sheet" (3 : Nat) ({ cls := "java/lang/Object", name := "<init>", desc := "()V" } : Jvm.MethodName)) := by decide +kernel
theorem tb_370 : tables_1[370]? = some (Jvm.Cond.fieldLink "PairedComing$Sheet" (9 : Nat) "PairedComing$Sheet" "cells" "[I") := by decide +kernel
theorem tb_371 : tables_1[371]? = some (Jvm.Cond.fieldLink "PairedComing" (375 : Nat) "PairedComing$Sheet" "cells" "[I") := by decide +kernel
theorem tb_372 : tables_1[372]? = some (Jvm.Cond.fieldLink "PairedComing$Sheet" (15 : Nat) "PairedComing$Sheet" "lane" "I") := by decide +kernel
theorem tb_373 : tables_1[373]? = some (Jvm.Cond.fieldLink "PairedComing" (372 : Nat) "PairedComing$Sheet" "lane" "I") := by decide +kernel
theorem tb_374 : tables_1[374]? = some (Jvm.Cond.fieldLink "PairedComing$Sheet" (19 : Nat) "PairedComing$Sheet" "size" "I") := by decide +kernel
theorem tb_375 : tables_1[375]? = some (Jvm.Cond.fieldLink "PairedComing" (385 : Nat) "PairedComing$Sheet" "size" "I") := by decide +kernel
theorem tb_376 : tables_1[376]? = some (Jvm.Cond.laysFinal "PairedComing$Sheet" "PairedComing$Sheet" "cells" "[I") := by decide +kernel
theorem tb_378 : tables_1[378]? = some (Jvm.Cond.lays "PairedComing$Sheet" "PairedComing$Sheet" "lane" "I") := by decide +kernel
theorem tb_380 : tables_1[380]? = some (Jvm.Cond.lays "PairedComing$Sheet" "PairedComing$Sheet" "size" "I") := by decide +kernel
theorem tb_383 : tables_1[383]? = some (Jvm.Cond.fieldLink "PairedComing" (10 : Nat) "PairedComing" "board" "LPairedComing$Board;") := by decide +kernel
theorem tb_384 : tables_1[384]? = some (Jvm.Cond.fieldLink "PairedComing" (21 : Nat) "PairedComing" "market" "LPairedComing$Standing;") := by decide +kernel
theorem tb_385 : tables_1[385]? = some (Jvm.Cond.fieldLink "PairedComing" (25 : Nat) "PairedComing" "practice" "LPairedComing$Standing;") := by decide +kernel
theorem tb_386 : tables_1[386]? = some (Jvm.Cond.fieldLink "PairedComing" (28 : Nat) "PairedComing" "trial" "LPairedComing$Board;") := by decide +kernel
theorem tb_387 : tables_1[387]? = some (Jvm.Cond.fieldLink "PairedComing" (31 : Nat) "PairedComing" "trialRun" "LPairedComing$Standing;") := by decide +kernel
theorem tb_388 : tables_1[388]? = some (Jvm.Cond.fieldLink "PairedComing" (37 : Nat) "PairedComing" "plan" "LPairedComing$Plan;") := by decide +kernel
theorem tb_389 : tables_1[389]? = some (Jvm.Cond.fieldLink "PairedComing" (44 : Nat) "PairedComing" "hopes" "LPairedComing$Hopes;") := by decide +kernel
theorem tb_390 : tables_1[390]? = some (Jvm.Cond.fieldLink "PairedComing" (51 : Nat) "PairedComing" "tape" "LPairedComing$Tape;") := by decide +kernel
theorem tb_391 : tables_1[391]? = some (Jvm.Cond.fieldLink "PairedComing" (57 : Nat) "PairedComing" "rules" "[LPairedComing$Rule;") := by decide +kernel
theorem tb_392 : tables_1[392]? = some (Jvm.Cond.fieldLink "PairedComing" (63 : Nat) "PairedComing" "sheets" "[LPairedComing$Sheet;") := by decide +kernel
theorem tb_393 : tables_1[393]? = some (Jvm.Cond.fieldLink "PairedComing" (67 : Nat) "PairedComing" "turns" "[I") := by decide +kernel
theorem tb_394 : tables_1[394]? = some (Jvm.Cond.fieldLink "PairedComing" (71 : Nat) "PairedComing" "priceOf" "[I") := by decide +kernel
theorem tb_395 : tables_1[395]? = some (Jvm.Cond.fieldLink "PairedComing" (158 : Nat) "PairedComing" "ruleCount" "I") := by decide +kernel
theorem tb_396 : tables_1[396]? = some (Jvm.Cond.fieldLink "PairedComing" (168 : Nat) "PairedComing" "lastFault" "I") := by decide +kernel
theorem tb_397 : tables_1[397]? = some (Jvm.Cond.laysFinal "PairedComing" "PairedComing" "board" "LPairedComing$Board;") := by decide +kernel
theorem tb_399 : tables_1[399]? = some (Jvm.Cond.laysFinal "PairedComing" "PairedComing" "market" "LPairedComing$Standing;") := by decide +kernel
theorem tb_401 : tables_1[401]? = some (Jvm.Cond.laysFinal "PairedComing" "PairedComing" "practice" "LPairedComing$Standing;") := by decide +kernel
theorem tb_403 : tables_1[403]? = some (Jvm.Cond.laysFinal "PairedComing" "PairedComing" "trial" "LPairedComing$Board;") := by decide +kernel
theorem tb_405 : tables_1[405]? = some (Jvm.Cond.laysFinal "PairedComing" "PairedComing" "trialRun" "LPairedComing$Standing;") := by decide +kernel
theorem tb_407 : tables_1[407]? = some (Jvm.Cond.laysFinal "PairedComing" "PairedComing" "plan" "LPairedComing$Plan;") := by decide +kernel
theorem tb_409 : tables_1[409]? = some (Jvm.Cond.laysFinal "PairedComing" "PairedComing" "hopes" "LPairedComing$Hopes;") := by decide +kernel
theorem tb_411 : tables_1[411]? = some (Jvm.Cond.laysFinal "PairedComing" "PairedComing" "tape" "LPairedComing$Tape;") := by decide +kernel
theorem tb_413 : tables_1[413]? = some (Jvm.Cond.laysFinal "PairedComing" "PairedComing" "rules" "[LPairedComing$Rule;") := by decide +kernel
theorem tb_415 : tables_1[415]? = some (Jvm.Cond.laysFinal "PairedComing" "PairedComing" "sheets" "[LPairedComing$Sheet;") := by decide +kernel
theorem tb_417 : tables_1[417]? = some (Jvm.Cond.laysFinal "PairedComing" "PairedComing" "turns" "[I") := by decide +kernel
theorem tb_419 : tables_1[419]? = some (Jvm.Cond.laysFinal "PairedComing" "PairedComing" "priceOf" "[I") := by decide +kernel
theorem tb_421 : tables_1[421]? = some (Jvm.Cond.lays "PairedComing" "PairedComing" "ruleCount" "I") := by decide +kernel
theorem tb_423 : tables_1[423]? = some (Jvm.Cond.lays "PairedComing" "PairedComing" "lastFault" "I") := by decide +kernel
theorem tb_426 : tables_1[426]? = some (Jvm.Cond.methodLink "PairedComingLaw" (13 : Nat) ({ cls := "PairedComing", name := "post", desc := "(III)I" } : Jvm.MethodName)) := by decide +kernel
theorem tb_427 : tables_1[427]? = some (Jvm.Cond.instanceMethod ({ cls := "PairedComing", name := "post", desc := "(III)I" } : Jvm.MethodName)) := by decide +kernel
theorem tb_428 : tables_1[428]? = some (Jvm.Cond.selects "PairedComing" ({ cls := "PairedComing", name := "post", desc := "(III)I" } : Jvm.MethodName) ({ cls := "PairedComing", name := "post", desc := "(III)I" } : Jvm.MethodName)) := by decide +kernel
theorem tb_429 : tables_1[429]? = some (Jvm.Cond.code ({ cls := "PairedComing", name := "post", desc := "(III)I" } : Jvm.MethodName) prog_1_method_2_code (4 : Nat) (Option.some Jvm.ClassFile.FieldType.int)) := by decide +kernel
theorem tb_430 : tables_1[430]? = some (Jvm.Cond.methodLink "PairedComing" (76 : Nat) ({ cls := "PairedComing", name := "isIn", desc := "(III)Z" } : Jvm.MethodName)) := by decide +kernel
theorem tb_431 : tables_1[431]? = some (Jvm.Cond.static ({ cls := "PairedComing", name := "isIn", desc := "(III)Z" } : Jvm.MethodName)) := by decide +kernel
theorem tb_432 : tables_1[432]? = some (Jvm.Cond.code ({ cls := "PairedComing", name := "isIn", desc := "(III)Z" } : Jvm.MethodName) prog_1_method_36_code (3 : Nat) (Option.some Jvm.ClassFile.FieldType.boolean)) := by decide +kernel
theorem tb_433 : tables_1[433]? = some (Jvm.Cond.methodLink "PairedComing" (87 : Nat) ({ cls := "PairedComing$Board", name := "allRooms", desc := "()I" } : Jvm.MethodName)) := by decide +kernel
theorem tb_434 : tables_1[434]? = some (Jvm.Cond.instanceMethod ({ cls := "PairedComing$Board", name := "allRooms", desc := "()I" } : Jvm.MethodName)) := by decide +kernel
theorem tb_435 : tables_1[435]? = some (Jvm.Cond.selects "PairedComing$Board" ({ cls := "PairedComing$Board", name := "allRooms", desc := "()I" } : Jvm.MethodName) ({ cls := "PairedComing$Board", name := "allRooms", desc := "()I" } : Jvm.MethodName)) := by decide +kernel
theorem tb_436 : tables_1[436]? = some (Jvm.Cond.code ({ cls := "PairedComing$Board", name := "allRooms", desc := "()I" } : Jvm.MethodName) prog_2_method_9_code (3 : Nat) (Option.some Jvm.ClassFile.FieldType.int)) := by decide +kernel
theorem tb_437 : tables_1[437]? = some (Jvm.Cond.methodLink "PairedComing" (91 : Nat) ({ cls := "PairedComing$Board", name := "addPost", desc := "(III)I" } : Jvm.MethodName)) := by decide +kernel
theorem tb_438 : tables_1[438]? = some (Jvm.Cond.instanceMethod ({ cls := "PairedComing$Board", name := "addPost", desc := "(III)I" } : Jvm.MethodName)) := by decide +kernel
theorem tb_439 : tables_1[439]? = some (Jvm.Cond.selects "PairedComing$Board" ({ cls := "PairedComing$Board", name := "addPost", desc := "(III)I" } : Jvm.MethodName) ({ cls := "PairedComing$Board", name := "addPost", desc := "(III)I" } : Jvm.MethodName)) := by decide +kernel
theorem tb_440 : tables_1[440]? = some (Jvm.Cond.code ({ cls := "PairedComing$Board", name := "addPost", desc := "(III)I" } : Jvm.MethodName) prog_2_method_2_code (4 : Nat) (Option.some Jvm.ClassFile.FieldType.int)) := by decide +kernel
theorem tb_441 : tables_1[441]? = some (Jvm.Cond.methodLink "PairedComingLaw" (18 : Nat) ({ cls := "PairedComing", name := "guest", desc := "()I" } : Jvm.MethodName)) := by decide +kernel
theorem tb_442 : tables_1[442]? = some (Jvm.Cond.instanceMethod ({ cls := "PairedComing", name := "guest", desc := "()I" } : Jvm.MethodName)) := by decide +kernel
theorem tb_443 : tables_1[443]? = some (Jvm.Cond.selects "PairedComing" ({ cls := "PairedComing", name := "guest", desc := "()I" } : Jvm.MethodName) ({ cls := "PairedComing", name := "guest", desc := "()I" } : Jvm.MethodName)) := by decide +kernel
theorem tb_444 : tables_1[444]? = some (Jvm.Cond.code ({ cls := "PairedComing", name := "guest", desc := "()I" } : Jvm.MethodName) prog_1_method_3_code (1 : Nat) (Option.some Jvm.ClassFile.FieldType.int)) := by decide +kernel
theorem tb_445 : tables_1[445]? = some (Jvm.Cond.methodLink "PairedComing" (98 : Nat) ({ cls := "PairedComing$Board", name := "addGuest", desc := "()I" } : Jvm.MethodName)) := by decide +kernel
theorem tb_446 : tables_1[446]? = some (Jvm.Cond.instanceMethod ({ cls := "PairedComing$Board", name := "addGuest", desc := "()I" } : Jvm.MethodName)) := by decide +kernel
theorem tb_447 : tables_1[447]? = some (Jvm.Cond.selects "PairedComing$Board" ({ cls := "PairedComing$Board", name := "addGuest", desc := "()I" } : Jvm.MethodName) ({ cls := "PairedComing$Board", name := "addGuest", desc := "()I" } : Jvm.MethodName)) := by decide +kernel
theorem tb_448 : tables_1[448]? = some (Jvm.Cond.code ({ cls := "PairedComing$Board", name := "addGuest", desc := "()I" } : Jvm.MethodName) prog_2_method_3_code (1 : Nat) (Option.some Jvm.ClassFile.FieldType.int)) := by decide +kernel
theorem tb_449 : tables_1[449]? = some (Jvm.Cond.methodLink "PairedComingLaw" (23 : Nat) ({ cls := "PairedComing", name := "worth", desc := "(III)I" } : Jvm.MethodName)) := by decide +kernel
theorem tb_450 : tables_1[450]? = some (Jvm.Cond.instanceMethod ({ cls := "PairedComing", name := "worth", desc := "(III)I" } : Jvm.MethodName)) := by decide +kernel
theorem tb_451 : tables_1[451]? = some (Jvm.Cond.selects "PairedComing" ({ cls := "PairedComing", name := "worth", desc := "(III)I" } : Jvm.MethodName) ({ cls := "PairedComing", name := "worth", desc := "(III)I" } : Jvm.MethodName)) := by decide +kernel
theorem tb_452 : tables_1[452]? = some (Jvm.Cond.code ({ cls := "PairedComing", name := "worth", desc := "(III)I" } : Jvm.MethodName) prog_1_method_4_code (5 : Nat) (Option.some Jvm.ClassFile.FieldType.int)) := by decide +kernel
theorem tb_453 : tables_1[453]? = some (Jvm.Cond.methodLink "PairedComing" (101 : Nat) ({ cls := "PairedComing", name := "isGuest", desc := "(I)Z" } : Jvm.MethodName)) := by decide +kernel
theorem tb_455 : tables_1[455]? = some (Jvm.Cond.instanceMethod ({ cls := "PairedComing", name := "isGuest", desc := "(I)Z" } : Jvm.MethodName)) := by decide +kernel
theorem tb_456 : tables_1[456]? = some (Jvm.Cond.code ({ cls := "PairedComing", name := "isGuest", desc := "(I)Z" } : Jvm.MethodName) prog_1_method_39_code (2 : Nat) (Option.some Jvm.ClassFile.FieldType.boolean)) := by decide +kernel
theorem tb_457 : tables_1[457]? = some (Jvm.Cond.methodLink "PairedComing" (105 : Nat) ({ cls := "PairedComing", name := "isPost", desc := "(I)Z" } : Jvm.MethodName)) := by decide +kernel
theorem tb_459 : tables_1[459]? = some (Jvm.Cond.instanceMethod ({ cls := "PairedComing", name := "isPost", desc := "(I)Z" } : Jvm.MethodName)) := by decide +kernel
theorem tb_460 : tables_1[460]? = some (Jvm.Cond.code ({ cls := "PairedComing", name := "isPost", desc := "(I)Z" } : Jvm.MethodName) prog_1_method_38_code (2 : Nat) (Option.some Jvm.ClassFile.FieldType.boolean)) := by decide +kernel
theorem tb_461 : tables_1[461]? = some (Jvm.Cond.methodLink "PairedComing" (108 : Nat) ({ cls := "PairedComing$Standing", name := "hasCome", desc := "(I)Z" } : Jvm.MethodName)) := by decide +kernel
theorem tb_462 : tables_1[462]? = some (Jvm.Cond.instanceMethod ({ cls := "PairedComing$Standing", name := "hasCome", desc := "(I)Z" } : Jvm.MethodName)) := by decide +kernel
theorem tb_463 : tables_1[463]? = some (Jvm.Cond.selects "PairedComing$Standing" ({ cls := "PairedComing$Standing", name := "hasCome", desc := "(I)Z" } : Jvm.MethodName) ({ cls := "PairedComing$Standing", name := "hasCome", desc := "(I)Z" } : Jvm.MethodName)) := by decide +kernel
theorem tb_464 : tables_1[464]? = some (Jvm.Cond.code ({ cls := "PairedComing$Standing", name := "hasCome", desc := "(I)Z" } : Jvm.MethodName) prog_9_method_4_code (2 : Nat) (Option.some Jvm.ClassFile.FieldType.boolean)) := by decide +kernel
theorem tb_465 : tables_1[465]? = some (Jvm.Cond.methodLink "PairedComing" (111 : Nat) ({ cls := "PairedComing$Board", name := "worthAt", desc := "(II)I" } : Jvm.MethodName)) := by decide +kernel
theorem tb_466 : tables_1[466]? = some (Jvm.Cond.instanceMethod ({ cls := "PairedComing$Board", name := "worthAt", desc := "(II)I" } : Jvm.MethodName)) := by decide +kernel
theorem tb_467 : tables_1[467]? = some (Jvm.Cond.selects "PairedComing$Board" ({ cls := "PairedComing$Board", name := "worthAt", desc := "(II)I" } : Jvm.MethodName) ({ cls := "PairedComing$Board", name := "worthAt", desc := "(II)I" } : Jvm.MethodName)) := by decide +kernel
theorem tb_468 : tables_1[468]? = some (Jvm.Cond.code ({ cls := "PairedComing$Board", name := "worthAt", desc := "(II)I" } : Jvm.MethodName) prog_2_method_4_code (3 : Nat) (Option.some Jvm.ClassFile.FieldType.int)) := by decide +kernel
theorem tb_469 : tables_1[469]? = some (Jvm.Cond.methodLink "PairedComing" (115 : Nat) ({ cls := "PairedComing$Board", name := "putWorth", desc := "(III)V" } : Jvm.MethodName)) := by decide +kernel
theorem tb_470 : tables_1[470]? = some (Jvm.Cond.instanceMethod ({ cls := "PairedComing$Board", name := "putWorth", desc := "(III)V" } : Jvm.MethodName)) := by decide +kernel
theorem tb_471 : tables_1[471]? = some (Jvm.Cond.selects "PairedComing$Board" ({ cls := "PairedComing$Board", name := "putWorth", desc := "(III)V" } : Jvm.MethodName) ({ cls := "PairedComing$Board", name := "putWorth", desc := "(III)V" } : Jvm.MethodName)) := by decide +kernel
theorem tb_472 : tables_1[472]? = some (Jvm.Cond.code ({ cls := "PairedComing$Board", name := "putWorth", desc := "(III)V" } : Jvm.MethodName) prog_2_method_5_code (4 : Nat) (Option.none : Option Jvm.ClassFile.FieldType)) := by decide +kernel
theorem tb_473 : tables_1[473]? = some (Jvm.Cond.methodLink "PairedComingLaw" (27 : Nat) ({ cls := "PairedComing", name := "chance", desc := "(II)I" } : Jvm.MethodName)) := by decide +kernel
theorem tb_474 : tables_1[474]? = some (Jvm.Cond.instanceMethod ({ cls := "PairedComing", name := "chance", desc := "(II)I" } : Jvm.MethodName)) := by decide +kernel
theorem tb_475 : tables_1[475]? = some (Jvm.Cond.selects "PairedComing" ({ cls := "PairedComing", name := "chance", desc := "(II)I" } : Jvm.MethodName) ({ cls := "PairedComing", name := "chance", desc := "(II)I" } : Jvm.MethodName)) := by decide +kernel
theorem tb_476 : tables_1[476]? = some (Jvm.Cond.code ({ cls := "PairedComing", name := "chance", desc := "(II)I" } : Jvm.MethodName) prog_1_method_5_code (4 : Nat) (Option.some Jvm.ClassFile.FieldType.int)) := by decide +kernel
theorem tb_477 : tables_1[477]? = some (Jvm.Cond.methodLink "PairedComing" (122 : Nat) ({ cls := "PairedComing$Board", name := "putChance", desc := "(II)V" } : Jvm.MethodName)) := by decide +kernel
theorem tb_478 : tables_1[478]? = some (Jvm.Cond.instanceMethod ({ cls := "PairedComing$Board", name := "putChance", desc := "(II)V" } : Jvm.MethodName)) := by decide +kernel
theorem tb_479 : tables_1[479]? = some (Jvm.Cond.selects "PairedComing$Board" ({ cls := "PairedComing$Board", name := "putChance", desc := "(II)V" } : Jvm.MethodName) ({ cls := "PairedComing$Board", name := "putChance", desc := "(II)V" } : Jvm.MethodName)) := by decide +kernel
theorem tb_480 : tables_1[480]? = some (Jvm.Cond.code ({ cls := "PairedComing$Board", name := "putChance", desc := "(II)V" } : Jvm.MethodName) prog_2_method_6_code (3 : Nat) (Option.none : Option Jvm.ClassFile.FieldType)) := by decide +kernel
theorem tb_481 : tables_1[481]? = some (Jvm.Cond.methodLink "PairedComingLaw" (32 : Nat) ({ cls := "PairedComing", name := "rank", desc := "(II)I" } : Jvm.MethodName)) := by decide +kernel
theorem tb_482 : tables_1[482]? = some (Jvm.Cond.instanceMethod ({ cls := "PairedComing", name := "rank", desc := "(II)I" } : Jvm.MethodName)) := by decide +kernel
theorem tb_483 : tables_1[483]? = some (Jvm.Cond.selects "PairedComing" ({ cls := "PairedComing", name := "rank", desc := "(II)I" } : Jvm.MethodName) ({ cls := "PairedComing", name := "rank", desc := "(II)I" } : Jvm.MethodName)) := by decide +kernel
theorem tb_484 : tables_1[484]? = some (Jvm.Cond.code ({ cls := "PairedComing", name := "rank", desc := "(II)I" } : Jvm.MethodName) prog_1_method_6_code (4 : Nat) (Option.some Jvm.ClassFile.FieldType.int)) := by decide +kernel
theorem tb_485 : tables_1[485]? = some (Jvm.Cond.methodLink "PairedComing" (129 : Nat) ({ cls := "PairedComing$Board", name := "putRank", desc := "(II)V" } : Jvm.MethodName)) := by decide +kernel
theorem tb_486 : tables_1[486]? = some (Jvm.Cond.instanceMethod ({ cls := "PairedComing$Board", name := "putRank", desc := "(II)V" } : Jvm.MethodName)) := by decide +kernel
theorem tb_487 : tables_1[487]? = some (Jvm.Cond.selects "PairedComing$Board" ({ cls := "PairedComing$Board", name := "putRank", desc := "(II)V" } : Jvm.MethodName) ({ cls := "PairedComing$Board", name := "putRank", desc := "(II)V" } : Jvm.MethodName)) := by decide +kernel
theorem tb_488 : tables_1[488]? = some (Jvm.Cond.code ({ cls := "PairedComing$Board", name := "putRank", desc := "(II)V" } : Jvm.MethodName) prog_2_method_7_code (3 : Nat) (Option.none : Option Jvm.ClassFile.FieldType)) := by decide +kernel
theorem tb_489 : tables_1[489]? = some (Jvm.Cond.methodLink "PairedComingLaw" (36 : Nat) ({ cls := "PairedComing", name := "told", desc := "(II)I" } : Jvm.MethodName)) := by decide +kernel
theorem tb_490 : tables_1[490]? = some (Jvm.Cond.instanceMethod ({ cls := "PairedComing", name := "told", desc := "(II)I" } : Jvm.MethodName)) := by decide +kernel
theorem tb_491 : tables_1[491]? = some (Jvm.Cond.selects "PairedComing" ({ cls := "PairedComing", name := "told", desc := "(II)I" } : Jvm.MethodName) ({ cls := "PairedComing", name := "told", desc := "(II)I" } : Jvm.MethodName)) := by decide +kernel
theorem tb_492 : tables_1[492]? = some (Jvm.Cond.code ({ cls := "PairedComing", name := "told", desc := "(II)I" } : Jvm.MethodName) prog_1_method_7_code (3 : Nat) (Option.some Jvm.ClassFile.FieldType.int)) := by decide +kernel
theorem tb_493 : tables_1[493]? = some (Jvm.Cond.methodLink "PairedComing" (138 : Nat) ({ cls := "PairedComing$Standing", name := "freeAt", desc := "(I)I" } : Jvm.MethodName)) := by decide +kernel
theorem tb_494 : tables_1[494]? = some (Jvm.Cond.instanceMethod ({ cls := "PairedComing$Standing", name := "freeAt", desc := "(I)I" } : Jvm.MethodName)) := by decide +kernel
theorem tb_495 : tables_1[495]? = some (Jvm.Cond.selects "PairedComing$Standing" ({ cls := "PairedComing$Standing", name := "freeAt", desc := "(I)I" } : Jvm.MethodName) ({ cls := "PairedComing$Standing", name := "freeAt", desc := "(I)I" } : Jvm.MethodName)) := by decide +kernel
theorem tb_496 : tables_1[496]? = some (Jvm.Cond.code ({ cls := "PairedComing$Standing", name := "freeAt", desc := "(I)I" } : Jvm.MethodName) prog_9_method_5_code (2 : Nat) (Option.some Jvm.ClassFile.FieldType.int)) := by decide +kernel
theorem tb_497 : tables_1[497]? = some (Jvm.Cond.methodLink "PairedComing" (145 : Nat) ({ cls := "PairedComing$Standing", name := "heldBits", desc := "(I)I" } : Jvm.MethodName)) := by decide +kernel
theorem tb_498 : tables_1[498]? = some (Jvm.Cond.instanceMethod ({ cls := "PairedComing$Standing", name := "heldBits", desc := "(I)I" } : Jvm.MethodName)) := by decide +kernel
theorem tb_499 : tables_1[499]? = some (Jvm.Cond.selects "PairedComing$Standing" ({ cls := "PairedComing$Standing", name := "heldBits", desc := "(I)I" } : Jvm.MethodName) ({ cls := "PairedComing$Standing", name := "heldBits", desc := "(I)I" } : Jvm.MethodName)) := by decide +kernel
theorem tb_500 : tables_1[500]? = some (Jvm.Cond.code ({ cls := "PairedComing$Standing", name := "heldBits", desc := "(I)I" } : Jvm.MethodName) prog_9_method_6_code (4 : Nat) (Option.some Jvm.ClassFile.FieldType.int)) := by decide +kernel
theorem tb_501 : tables_1[501]? = some (Jvm.Cond.methodLink "PairedComing" (148 : Nat) ({ cls := "PairedComing$Board", name := "linksOf", desc := "(I)I" } : Jvm.MethodName)) := by decide +kernel
theorem tb_502 : tables_1[502]? = some (Jvm.Cond.instanceMethod ({ cls := "PairedComing$Board", name := "linksOf", desc := "(I)I" } : Jvm.MethodName)) := by decide +kernel
theorem tb_503 : tables_1[503]? = some (Jvm.Cond.selects "PairedComing$Board" ({ cls := "PairedComing$Board", name := "linksOf", desc := "(I)I" } : Jvm.MethodName) ({ cls := "PairedComing$Board", name := "linksOf", desc := "(I)I" } : Jvm.MethodName)) := by decide +kernel
theorem tb_504 : tables_1[504]? = some (Jvm.Cond.code ({ cls := "PairedComing$Board", name := "linksOf", desc := "(I)I" } : Jvm.MethodName) prog_2_method_10_code (4 : Nat) (Option.some Jvm.ClassFile.FieldType.int)) := by decide +kernel
theorem tb_505 : tables_1[505]? = some (Jvm.Cond.methodLink "PairedComing$Board" (37 : Nat) ({ cls := "PairedComing$Board", name := "worthAt", desc := "(II)I" } : Jvm.MethodName)) := by decide +kernel
theorem tb_506 : tables_1[506]? = some (Jvm.Cond.methodLink "PairedComingLaw" (42 : Nat) ({ cls := "PairedComing", name := "feed", desc := "(J)I" } : Jvm.MethodName)) := by decide +kernel
theorem tb_507 : tables_1[507]? = some (Jvm.Cond.instanceMethod ({ cls := "PairedComing", name := "feed", desc := "(J)I" } : Jvm.MethodName)) := by decide +kernel
theorem tb_508 : tables_1[508]? = some (Jvm.Cond.selects "PairedComing" ({ cls := "PairedComing", name := "feed", desc := "(J)I" } : Jvm.MethodName) ({ cls := "PairedComing", name := "feed", desc := "(J)I" } : Jvm.MethodName)) := by decide +kernel
theorem tb_509 : tables_1[509]? = some (Jvm.Cond.code ({ cls := "PairedComing", name := "feed", desc := "(J)I" } : Jvm.MethodName) prog_1_method_8_code (3 : Nat) (Option.some Jvm.ClassFile.FieldType.int)) := by decide +kernel
theorem tb_510 : tables_1[510]? = some (Jvm.Cond.methodLink "PairedComing" (154 : Nat) ({ cls := "PairedComing$Tape", name := "addEight", desc := "(J)V" } : Jvm.MethodName)) := by decide +kernel
theorem tb_511 : tables_1[511]? = some (Jvm.Cond.instanceMethod ({ cls := "PairedComing$Tape", name := "addEight", desc := "(J)V" } : Jvm.MethodName)) := by decide +kernel
theorem tb_512 : tables_1[512]? = some (Jvm.Cond.selects "PairedComing$Tape" ({ cls := "PairedComing$Tape", name := "addEight", desc := "(J)V" } : Jvm.MethodName) ({ cls := "PairedComing$Tape", name := "addEight", desc := "(J)V" } : Jvm.MethodName)) := by decide +kernel
theorem tb_513 : tables_1[513]? = some (Jvm.Cond.code ({ cls := "PairedComing$Tape", name := "addEight", desc := "(J)V" } : Jvm.MethodName) prog_10_method_2_code (4 : Nat) (Option.none : Option Jvm.ClassFile.FieldType)) := by decide +kernel
theorem tb_514 : tables_1[514]? = some (Jvm.Cond.methodLink "PairedComingLaw" (47 : Nat) ({ cls := "PairedComing", name := "end", desc := "(I)I" } : Jvm.MethodName)) := by decide +kernel
theorem tb_515 : tables_1[515]? = some (Jvm.Cond.instanceMethod ({ cls := "PairedComing", name := "end", desc := "(I)I" } : Jvm.MethodName)) := by decide +kernel
theorem tb_516 : tables_1[516]? = some (Jvm.Cond.selects "PairedComing" ({ cls := "PairedComing", name := "end", desc := "(I)I" } : Jvm.MethodName) ({ cls := "PairedComing", name := "end", desc := "(I)I" } : Jvm.MethodName)) := by decide +kernel
theorem tb_517 : tables_1[517]? = some (Jvm.Cond.code ({ cls := "PairedComing", name := "end", desc := "(I)I" } : Jvm.MethodName) prog_1_method_9_code (3 : Nat) (Option.some Jvm.ClassFile.FieldType.int)) := by decide +kernel
theorem tb_518 : tables_1[518]? = some (Jvm.Cond.methodLink "PairedComingLaw" (52 : Nat) ({ cls := "PairedComing", name := "rule", desc := "()I" } : Jvm.MethodName)) := by decide +kernel
theorem tb_519 : tables_1[519]? = some (Jvm.Cond.instanceMethod ({ cls := "PairedComing", name := "rule", desc := "()I" } : Jvm.MethodName)) := by decide +kernel
theorem tb_520 : tables_1[520]? = some (Jvm.Cond.selects "PairedComing" ({ cls := "PairedComing", name := "rule", desc := "()I" } : Jvm.MethodName) ({ cls := "PairedComing", name := "rule", desc := "()I" } : Jvm.MethodName)) := by decide +kernel
theorem tb_521 : tables_1[521]? = some (Jvm.Cond.code ({ cls := "PairedComing", name := "rule", desc := "()I" } : Jvm.MethodName) prog_1_method_10_code (1 : Nat) (Option.some Jvm.ClassFile.FieldType.int)) := by decide +kernel
theorem tb_522 : tables_1[522]? = some (Jvm.Cond.methodLink "PairedComing" (161 : Nat) ({ cls := "PairedComing$Tape", name := "readInto", desc := "(LPairedComing$Rule;)V" } : Jvm.MethodName)) := by decide +kernel
theorem tb_523 : tables_1[523]? = some (Jvm.Cond.instanceMethod ({ cls := "PairedComing$Tape", name := "readInto", desc := "(LPairedComing$Rule;)V" } : Jvm.MethodName)) := by decide +kernel
theorem tb_524 : tables_1[524]? = some (Jvm.Cond.selects "PairedComing$Tape" ({ cls := "PairedComing$Tape", name := "readInto", desc := "(LPairedComing$Rule;)V" } : Jvm.MethodName) ({ cls := "PairedComing$Tape", name := "readInto", desc := "(LPairedComing$Rule;)V" } : Jvm.MethodName)) := by decide +kernel
theorem tb_525 : tables_1[525]? = some (Jvm.Cond.code ({ cls := "PairedComing$Tape", name := "readInto", desc := "(LPairedComing$Rule;)V" } : Jvm.MethodName) prog_10_method_3_code (3 : Nat) (Option.none : Option Jvm.ClassFile.FieldType)) := by decide +kernel
theorem tb_526 : tables_1[526]? = some (Jvm.Cond.methodLink "PairedComing$Tape" (28 : Nat) ({ cls := "PairedComing$Rule", name := "clear", desc := "()V" } : Jvm.MethodName)) := by decide +kernel
theorem tb_527 : tables_1[527]? = some (Jvm.Cond.instanceMethod ({ cls := "PairedComing$Rule", name := "clear", desc := "()V" } : Jvm.MethodName)) := by decide +kernel
theorem tb_528 : tables_1[528]? = some (Jvm.Cond.selects "PairedComing$Rule" ({ cls := "PairedComing$Rule", name := "clear", desc := "()V" } : Jvm.MethodName) ({ cls := "PairedComing$Rule", name := "clear", desc := "()V" } : Jvm.MethodName)) := by decide +kernel
theorem tb_529 : tables_1[529]? = some (Jvm.Cond.code ({ cls := "PairedComing$Rule", name := "clear", desc := "()V" } : Jvm.MethodName) prog_7_method_2_code (1 : Nat) (Option.none : Option Jvm.ClassFile.FieldType)) := by decide +kernel
theorem tb_530 : tables_1[530]? = some (Jvm.Cond.methodLink "PairedComing$Tape" (33 : Nat) ({ cls := "PairedComing$Tape", name := "advance", desc := "()V" } : Jvm.MethodName)) := by decide +kernel
theorem tb_532 : tables_1[532]? = some (Jvm.Cond.instanceMethod ({ cls := "PairedComing$Tape", name := "advance", desc := "()V" } : Jvm.MethodName)) := by decide +kernel
theorem tb_533 : tables_1[533]? = some (Jvm.Cond.code ({ cls := "PairedComing$Tape", name := "advance", desc := "()V" } : Jvm.MethodName) prog_10_method_9_code (1 : Nat) (Option.none : Option Jvm.ClassFile.FieldType)) := by decide +kernel
theorem tb_534 : tables_1[534]? = some (Jvm.Cond.methodLink "PairedComing$Tape" (81 : Nat) ({ cls := "PairedComing$Tape", name := "isLetter", desc := "(I)Z" } : Jvm.MethodName)) := by decide +kernel
theorem tb_535 : tables_1[535]? = some (Jvm.Cond.static ({ cls := "PairedComing$Tape", name := "isLetter", desc := "(I)Z" } : Jvm.MethodName)) := by decide +kernel
theorem tb_536 : tables_1[536]? = some (Jvm.Cond.code ({ cls := "PairedComing$Tape", name := "isLetter", desc := "(I)Z" } : Jvm.MethodName) prog_10_method_10_code (1 : Nat) (Option.some Jvm.ClassFile.FieldType.boolean)) := by decide +kernel
theorem tb_537 : tables_1[537]? = some (Jvm.Cond.methodLink "PairedComing$Tape" (84 : Nat) ({ cls := "PairedComing$Tape", name := "readName", desc := "()V" } : Jvm.MethodName)) := by decide +kernel
theorem tb_539 : tables_1[539]? = some (Jvm.Cond.instanceMethod ({ cls := "PairedComing$Tape", name := "readName", desc := "()V" } : Jvm.MethodName)) := by decide +kernel
theorem tb_540 : tables_1[540]? = some (Jvm.Cond.code ({ cls := "PairedComing$Tape", name := "readName", desc := "()V" } : Jvm.MethodName) prog_10_method_12_code (2 : Nat) (Option.none : Option Jvm.ClassFile.FieldType)) := by decide +kernel
theorem tb_541 : tables_1[541]? = some (Jvm.Cond.methodLink "PairedComing$Tape" (96 : Nat) ({ cls := "PairedComing$Tape", name := "isName", desc := "(I)Z" } : Jvm.MethodName)) := by decide +kernel
theorem tb_543 : tables_1[543]? = some (Jvm.Cond.instanceMethod ({ cls := "PairedComing$Tape", name := "isName", desc := "(I)Z" } : Jvm.MethodName)) := by decide +kernel
theorem tb_544 : tables_1[544]? = some (Jvm.Cond.code ({ cls := "PairedComing$Tape", name := "isName", desc := "(I)Z" } : Jvm.MethodName) prog_10_method_13_code (5 : Nat) (Option.some Jvm.ClassFile.FieldType.boolean)) := by decide +kernel
theorem tb_546 : tables_1[546]? = some (Jvm.Cond.methodLink "PairedComing$Tape" (101 : Nat) ({ cls := "java/lang/String", name := "charAt", desc := "(I)C" } : Jvm.MethodName)) := by decide +kernel
theorem tb_547 : tables_1[547]? = some (Jvm.Cond.instanceMethod ({ cls := "java/lang/String", name := "charAt", desc := "(I)C" } : Jvm.MethodName)) := by decide +kernel
theorem tb_548 : tables_1[548]? = some (Jvm.Cond.selects "java/lang/String" ({ cls := "java/lang/String", name := "charAt", desc := "(I)C" } : Jvm.MethodName) ({ cls := "java/lang/String", name := "charAt", desc := "(I)C" } : Jvm.MethodName)) := by decide +kernel
theorem tb_549 : tables_1[549]? = some (Jvm.Cond.code ({ cls := "java/lang/String", name := "charAt", desc := "(I)C" } : Jvm.MethodName) prog_16_method_56_code (2 : Nat) (Option.some Jvm.ClassFile.FieldType.char)) := by decide +kernel
theorem tb_550 : tables_1[550]? = some (Jvm.Cond.methodLink "java/lang/String" (492 : Nat) ({ cls := "java/lang/String", name := "isLatin1", desc := "()Z" } : Jvm.MethodName)) := by decide +kernel
theorem tb_551 : tables_1[551]? = some (Jvm.Cond.instanceMethod ({ cls := "java/lang/String", name := "isLatin1", desc := "()Z" } : Jvm.MethodName)) := by decide +kernel
theorem tb_552 : tables_1[552]? = some (Jvm.Cond.selects "java/lang/String" ({ cls := "java/lang/String", name := "isLatin1", desc := "()Z" } : Jvm.MethodName) ({ cls := "java/lang/String", name := "isLatin1", desc := "()Z" } : Jvm.MethodName)) := by decide +kernel
theorem tb_553 : tables_1[553]? = some (Jvm.Cond.code ({ cls := "java/lang/String", name := "isLatin1", desc := "()Z" } : Jvm.MethodName) prog_16_method_154_code (1 : Nat) (Option.some Jvm.ClassFile.FieldType.boolean)) := by decide +kernel
theorem tb_554 : tables_1[554]? = some (Jvm.Cond.fieldLink "java/lang/String" (38 : Nat) "java/lang/String" "COMPACT_STRINGS" "Z") := by decide +kernel
theorem tb_556 : tables_1[556]? = some (Jvm.Cond.methodLink "java/lang/String" (495 : Nat) ({ cls := "java/lang/StringLatin1", name := "charAt", desc := "([BI)C" } : Jvm.MethodName)) := by decide +kernel
theorem tb_557 : tables_1[557]? = some (Jvm.Cond.static ({ cls := "java/lang/StringLatin1", name := "charAt", desc := "([BI)C" } : Jvm.MethodName)) := by decide +kernel
theorem tb_558 : tables_1[558]? = some (Jvm.Cond.code ({ cls := "java/lang/StringLatin1", name := "charAt", desc := "([BI)C" } : Jvm.MethodName) prog_17_method_2_code (2 : Nat) (Option.some Jvm.ClassFile.FieldType.char)) := by decide +kernel
theorem tb_559 : tables_1[559]? = some (Jvm.Cond.methodLink "java/lang/StringLatin1" (9 : Nat) ({ cls := "java/lang/String", name := "checkIndex", desc := "(II)V" } : Jvm.MethodName)) := by decide +kernel
theorem tb_560 : tables_1[560]? = some (Jvm.Cond.static ({ cls := "java/lang/String", name := "checkIndex", desc := "(II)V" } : Jvm.MethodName)) := by decide +kernel
theorem tb_561 : tables_1[561]? = some (Jvm.Cond.code ({ cls := "java/lang/String", name := "checkIndex", desc := "(II)V" } : Jvm.MethodName) prog_16_method_155_code (2 : Nat) (Option.none : Option Jvm.ClassFile.FieldType)) := by decide +kernel
theorem tb_562 : tables_1[562]? = some (Jvm.Cond.fieldLink "java/lang/String" (1053 : Nat) "jdk/internal/util/Preconditions" "SIOOBE_FORMATTER" "Ljava/util/function/BiFunction;") := by decide +kernel
theorem tb_564 : tables_1[564]? = some (Jvm.Cond.methodLink "java/lang/String" (1059 : Nat) ({ cls := "jdk/internal/util/Preconditions", name := "checkIndex", desc := "(IILjava/util/function/BiFunction;)I" } : Jvm.MethodName)) := by decide +kernel
theorem tb_565 : tables_1[565]? = some (Jvm.Cond.static ({ cls := "jdk/internal/util/Preconditions", name := "checkIndex", desc := "(IILjava/util/function/BiFunction;)I" } : Jvm.MethodName)) := by decide +kernel
theorem tb_566 : tables_1[566]? = some (Jvm.Cond.code ({ cls := "jdk/internal/util/Preconditions", name := "checkIndex", desc := "(IILjava/util/function/BiFunction;)I" } : Jvm.MethodName) prog_21_method_11_code (3 : Nat) (Option.some Jvm.ClassFile.FieldType.int)) := by decide +kernel
theorem tb_567 : tables_1[567]? = some (Jvm.Cond.methodLink "java/lang/String" (498 : Nat) ({ cls := "java/lang/StringUTF16", name := "charAt", desc := "([BI)C" } : Jvm.MethodName)) := by decide +kernel
theorem tb_568 : tables_1[568]? = some (Jvm.Cond.static ({ cls := "java/lang/StringUTF16", name := "charAt", desc := "([BI)C" } : Jvm.MethodName)) := by decide +kernel
theorem tb_569 : tables_1[569]? = some (Jvm.Cond.code ({ cls := "java/lang/StringUTF16", name := "charAt", desc := "([BI)C" } : Jvm.MethodName) prog_18_method_83_code (2 : Nat) (Option.some Jvm.ClassFile.FieldType.char)) := by decide +kernel
theorem tb_570 : tables_1[570]? = some (Jvm.Cond.methodLink "java/lang/StringUTF16" (67 : Nat) ({ cls := "java/lang/StringUTF16", name := "checkIndex", desc := "(I[B)V" } : Jvm.MethodName)) := by decide +kernel
theorem tb_571 : tables_1[571]? = some (Jvm.Cond.static ({ cls := "java/lang/StringUTF16", name := "checkIndex", desc := "(I[B)V" } : Jvm.MethodName)) := by decide +kernel
theorem tb_572 : tables_1[572]? = some (Jvm.Cond.code ({ cls := "java/lang/StringUTF16", name := "checkIndex", desc := "(I[B)V" } : Jvm.MethodName) prog_18_method_91_code (2 : Nat) (Option.none : Option Jvm.ClassFile.FieldType)) := by decide +kernel
theorem tb_573 : tables_1[573]? = some (Jvm.Cond.methodLink "java/lang/StringUTF16" (48 : Nat) ({ cls := "java/lang/StringUTF16", name := "length", desc := "([B)I" } : Jvm.MethodName)) := by decide +kernel
theorem tb_574 : tables_1[574]? = some (Jvm.Cond.static ({ cls := "java/lang/StringUTF16", name := "length", desc := "([B)I" } : Jvm.MethodName)) := by decide +kernel
theorem tb_575 : tables_1[575]? = some (Jvm.Cond.code ({ cls := "java/lang/StringUTF16", name := "length", desc := "([B)I" } : Jvm.MethodName) prog_18_method_6_code (1 : Nat) (Option.some Jvm.ClassFile.FieldType.int)) := by decide +kernel
theorem tb_576 : tables_1[576]? = some (Jvm.Cond.methodLink "java/lang/StringUTF16" (414 : Nat) ({ cls := "java/lang/String", name := "checkIndex", desc := "(II)V" } : Jvm.MethodName)) := by decide +kernel
theorem tb_577 : tables_1[577]? = some (Jvm.Cond.methodLink "java/lang/StringUTF16" (71 : Nat) ({ cls := "java/lang/StringUTF16", name := "getChar", desc := "([BI)C" } : Jvm.MethodName)) := by decide +kernel
theorem tb_578 : tables_1[578]? = some (Jvm.Cond.static ({ cls := "java/lang/StringUTF16", name := "getChar", desc := "([BI)C" } : Jvm.MethodName)) := by decide +kernel
theorem tb_579 : tables_1[579]? = some (Jvm.Cond.code ({ cls := "java/lang/StringUTF16", name := "getChar", desc := "([BI)C" } : Jvm.MethodName) prog_18_method_5_code (2 : Nat) (Option.some Jvm.ClassFile.FieldType.char)) := by decide +kernel
theorem tb_580 : tables_1[580]? = some (Jvm.Cond.fieldLink "java/lang/StringUTF16" (44 : Nat) "java/lang/StringUTF16" "$assertionsDisabled" "Z") := by decide +kernel
theorem tb_582 : tables_1[582]? = some (Jvm.Cond.fieldLink "java/lang/StringUTF16" (59 : Nat) "java/lang/StringUTF16" "HI_BYTE_SHIFT" "I") := by decide +kernel
theorem tb_584 : tables_1[584]? = some (Jvm.Cond.fieldLink "java/lang/StringUTF16" (63 : Nat) "java/lang/StringUTF16" "LO_BYTE_SHIFT" "I") := by decide +kernel
theorem tb_586 : tables_1[586]? = some (Jvm.Cond.methodLink "PairedComing$Tape" (54 : Nat) ({ cls := "PairedComing$Tape", name := "fail", desc := "(I)V" } : Jvm.MethodName)) := by decide +kernel
theorem tb_588 : tables_1[588]? = some (Jvm.Cond.instanceMethod ({ cls := "PairedComing$Tape", name := "fail", desc := "(I)V" } : Jvm.MethodName)) := by decide +kernel
theorem tb_589 : tables_1[589]? = some (Jvm.Cond.code ({ cls := "PairedComing$Tape", name := "fail", desc := "(I)V" } : Jvm.MethodName) prog_10_method_8_code (2 : Nat) (Option.none : Option Jvm.ClassFile.FieldType)) := by decide +kernel
theorem tb_590 : tables_1[590]? = some (Jvm.Cond.methodLink "PairedComing$Tape" (87 : Nat) ({ cls := "PairedComing$Tape", name := "isFigure", desc := "(I)Z" } : Jvm.MethodName)) := by decide +kernel
theorem tb_591 : tables_1[591]? = some (Jvm.Cond.static ({ cls := "PairedComing$Tape", name := "isFigure", desc := "(I)Z" } : Jvm.MethodName)) := by decide +kernel
theorem tb_592 : tables_1[592]? = some (Jvm.Cond.code ({ cls := "PairedComing$Tape", name := "isFigure", desc := "(I)Z" } : Jvm.MethodName) prog_10_method_11_code (1 : Nat) (Option.some Jvm.ClassFile.FieldType.boolean)) := by decide +kernel
theorem tb_593 : tables_1[593]? = some (Jvm.Cond.methodLink "PairedComing$Tape" (90 : Nat) ({ cls := "PairedComing$Tape", name := "readNumber", desc := "()V" } : Jvm.MethodName)) := by decide +kernel
theorem tb_595 : tables_1[595]? = some (Jvm.Cond.instanceMethod ({ cls := "PairedComing$Tape", name := "readNumber", desc := "()V" } : Jvm.MethodName)) := by decide +kernel
theorem tb_596 : tables_1[596]? = some (Jvm.Cond.code ({ cls := "PairedComing$Tape", name := "readNumber", desc := "()V" } : Jvm.MethodName) prog_10_method_14_code (1 : Nat) (Option.none : Option Jvm.ClassFile.FieldType)) := by decide +kernel
theorem tb_597 : tables_1[597]? = some (Jvm.Cond.methodLink "PairedComing$Tape" (93 : Nat) ({ cls := "PairedComing$Tape", name := "readSign", desc := "()V" } : Jvm.MethodName)) := by decide +kernel
theorem tb_599 : tables_1[599]? = some (Jvm.Cond.instanceMethod ({ cls := "PairedComing$Tape", name := "readSign", desc := "()V" } : Jvm.MethodName)) := by decide +kernel
theorem tb_600 : tables_1[600]? = some (Jvm.Cond.code ({ cls := "PairedComing$Tape", name := "readSign", desc := "()V" } : Jvm.MethodName) prog_10_method_15_code (2 : Nat) (Option.none : Option Jvm.ClassFile.FieldType)) := by decide +kernel
theorem tb_602 : tables_1[602]? = some (Jvm.Cond.methodLink "PairedComing$Tape" (109 : Nat) ({ cls := "java/lang/String", name := "indexOf", desc := "(I)I" } : Jvm.MethodName)) := by decide +kernel
theorem tb_603 : tables_1[603]? = some (Jvm.Cond.instanceMethod ({ cls := "java/lang/String", name := "indexOf", desc := "(I)I" } : Jvm.MethodName)) := by decide +kernel
theorem tb_604 : tables_1[604]? = some (Jvm.Cond.selects "java/lang/String" ({ cls := "java/lang/String", name := "indexOf", desc := "(I)I" } : Jvm.MethodName) ({ cls := "java/lang/String", name := "indexOf", desc := "(I)I" } : Jvm.MethodName)) := by decide +kernel
theorem tb_605 : tables_1[605]? = some (Jvm.Cond.code ({ cls := "java/lang/String", name := "indexOf", desc := "(I)I" } : Jvm.MethodName) prog_16_method_79_code (2 : Nat) (Option.some Jvm.ClassFile.FieldType.int)) := by decide +kernel
theorem tb_606 : tables_1[606]? = some (Jvm.Cond.methodLink "java/lang/String" (633 : Nat) ({ cls := "java/lang/String", name := "indexOf", desc := "(II)I" } : Jvm.MethodName)) := by decide +kernel
theorem tb_607 : tables_1[607]? = some (Jvm.Cond.instanceMethod ({ cls := "java/lang/String", name := "indexOf", desc := "(II)I" } : Jvm.MethodName)) := by decide +kernel
theorem tb_608 : tables_1[608]? = some (Jvm.Cond.selects "java/lang/String" ({ cls := "java/lang/String", name := "indexOf", desc := "(II)I" } : Jvm.MethodName) ({ cls := "java/lang/String", name := "indexOf", desc := "(II)I" } : Jvm.MethodName)) := by decide +kernel
theorem tb_609 : tables_1[609]? = some (Jvm.Cond.code ({ cls := "java/lang/String", name := "indexOf", desc := "(II)I" } : Jvm.MethodName) prog_16_method_80_code (3 : Nat) (Option.some Jvm.ClassFile.FieldType.int)) := by decide +kernel
theorem tb_610 : tables_1[610]? = some (Jvm.Cond.methodLink "java/lang/String" (505 : Nat) ({ cls := "java/lang/String", name := "length", desc := "()I" } : Jvm.MethodName)) := by decide +kernel
theorem tb_611 : tables_1[611]? = some (Jvm.Cond.instanceMethod ({ cls := "java/lang/String", name := "length", desc := "()I" } : Jvm.MethodName)) := by decide +kernel
theorem tb_612 : tables_1[612]? = some (Jvm.Cond.selects "java/lang/String" ({ cls := "java/lang/String", name := "length", desc := "()I" } : Jvm.MethodName) ({ cls := "java/lang/String", name := "length", desc := "()I" } : Jvm.MethodName)) := by decide +kernel
theorem tb_613 : tables_1[613]? = some (Jvm.Cond.code ({ cls := "java/lang/String", name := "length", desc := "()I" } : Jvm.MethodName) prog_16_method_54_code (1 : Nat) (Option.some Jvm.ClassFile.FieldType.int)) := by decide +kernel
theorem tb_614 : tables_1[614]? = some (Jvm.Cond.methodLink "java/lang/String" (335 : Nat) ({ cls := "java/lang/String", name := "coder", desc := "()B" } : Jvm.MethodName)) := by decide +kernel
theorem tb_615 : tables_1[615]? = some (Jvm.Cond.instanceMethod ({ cls := "java/lang/String", name := "coder", desc := "()B" } : Jvm.MethodName)) := by decide +kernel
theorem tb_616 : tables_1[616]? = some (Jvm.Cond.selects "java/lang/String" ({ cls := "java/lang/String", name := "coder", desc := "()B" } : Jvm.MethodName) ({ cls := "java/lang/String", name := "coder", desc := "()B" } : Jvm.MethodName)) := by decide +kernel
theorem tb_617 : tables_1[617]? = some (Jvm.Cond.code ({ cls := "java/lang/String", name := "coder", desc := "()B" } : Jvm.MethodName) prog_16_method_152_code (1 : Nat) (Option.some Jvm.ClassFile.FieldType.byte)) := by decide +kernel
theorem tb_618 : tables_1[618]? = some (Jvm.Cond.methodLink "java/lang/String" (637 : Nat) ({ cls := "java/lang/StringLatin1", name := "indexOf", desc := "([BIII)I" } : Jvm.MethodName)) := by decide +kernel
theorem tb_619 : tables_1[619]? = some (Jvm.Cond.static ({ cls := "java/lang/StringLatin1", name := "indexOf", desc := "([BIII)I" } : Jvm.MethodName)) := by decide +kernel
theorem tb_620 : tables_1[620]? = some (Jvm.Cond.code ({ cls := "java/lang/StringLatin1", name := "indexOf", desc := "([BIII)I" } : Jvm.MethodName) prog_17_method_22_code (4 : Nat) (Option.some Jvm.ClassFile.FieldType.int)) := by decide +kernel
theorem tb_621 : tables_1[621]? = some (Jvm.Cond.methodLink "java/lang/StringLatin1" (88 : Nat) ({ cls := "java/lang/StringLatin1", name := "canEncode", desc := "(I)Z" } : Jvm.MethodName)) := by decide +kernel
theorem tb_622 : tables_1[622]? = some (Jvm.Cond.static ({ cls := "java/lang/StringLatin1", name := "canEncode", desc := "(I)Z" } : Jvm.MethodName)) := by decide +kernel
theorem tb_623 : tables_1[623]? = some (Jvm.Cond.code ({ cls := "java/lang/StringLatin1", name := "canEncode", desc := "(I)Z" } : Jvm.MethodName) prog_17_method_4_code (1 : Nat) (Option.some Jvm.ClassFile.FieldType.boolean)) := by decide +kernel
theorem tb_624 : tables_1[624]? = some (Jvm.Cond.methodLink "java/lang/StringLatin1" (92 : Nat) ({ cls := "java/lang/Math", name := "max", desc := "(II)I" } : Jvm.MethodName)) := by decide +kernel
theorem tb_625 : tables_1[625]? = some (Jvm.Cond.static ({ cls := "java/lang/Math", name := "max", desc := "(II)I" } : Jvm.MethodName)) := by decide +kernel
theorem tb_626 : tables_1[626]? = some (Jvm.Cond.code ({ cls := "java/lang/Math", name := "max", desc := "(II)I" } : Jvm.MethodName) prog_15_method_65_code (2 : Nat) (Option.some Jvm.ClassFile.FieldType.int)) := by decide +kernel
theorem tb_627 : tables_1[627]? = some (Jvm.Cond.methodLink "java/lang/StringLatin1" (38 : Nat) ({ cls := "java/lang/Math", name := "min", desc := "(II)I" } : Jvm.MethodName)) := by decide +kernel
theorem tb_628 : tables_1[628]? = some (Jvm.Cond.static ({ cls := "java/lang/Math", name := "min", desc := "(II)I" } : Jvm.MethodName)) := by decide +kernel
theorem tb_629 : tables_1[629]? = some (Jvm.Cond.code ({ cls := "java/lang/Math", name := "min", desc := "(II)I" } : Jvm.MethodName) prog_15_method_69_code (2 : Nat) (Option.some Jvm.ClassFile.FieldType.int)) := by decide +kernel
theorem tb_630 : tables_1[630]? = some (Jvm.Cond.methodLink "java/lang/StringLatin1" (95 : Nat) ({ cls := "java/lang/StringLatin1", name := "indexOfChar", desc := "([BIII)I" } : Jvm.MethodName)) := by decide +kernel
theorem tb_631 : tables_1[631]? = some (Jvm.Cond.static ({ cls := "java/lang/StringLatin1", name := "indexOfChar", desc := "([BIII)I" } : Jvm.MethodName)) := by decide +kernel
theorem tb_632 : tables_1[632]? = some (Jvm.Cond.code ({ cls := "java/lang/StringLatin1", name := "indexOfChar", desc := "([BIII)I" } : Jvm.MethodName) prog_17_method_23_code (6 : Nat) (Option.some Jvm.ClassFile.FieldType.int)) := by decide +kernel
theorem tb_633 : tables_1[633]? = some (Jvm.Cond.methodLink "java/lang/String" (640 : Nat) ({ cls := "java/lang/StringUTF16", name := "indexOf", desc := "([BIII)I" } : Jvm.MethodName)) := by decide +kernel
theorem tb_634 : tables_1[634]? = some (Jvm.Cond.static ({ cls := "java/lang/StringUTF16", name := "indexOf", desc := "([BIII)I" } : Jvm.MethodName)) := by decide +kernel
theorem tb_635 : tables_1[635]? = some (Jvm.Cond.code ({ cls := "java/lang/StringUTF16", name := "indexOf", desc := "([BIII)I" } : Jvm.MethodName) prog_18_method_40_code (4 : Nat) (Option.some Jvm.ClassFile.FieldType.int)) := by decide +kernel
theorem tb_636 : tables_1[636]? = some (Jvm.Cond.methodLink "java/lang/StringUTF16" (224 : Nat) ({ cls := "java/lang/Math", name := "max", desc := "(II)I" } : Jvm.MethodName)) := by decide +kernel
theorem tb_637 : tables_1[637]? = some (Jvm.Cond.methodLink "java/lang/StringUTF16" (183 : Nat) ({ cls := "java/lang/Math", name := "min", desc := "(II)I" } : Jvm.MethodName)) := by decide +kernel
theorem tb_638 : tables_1[638]? = some (Jvm.Cond.constant "java/lang/StringUTF16" (227 : Nat) (65536 : Int32)) := by decide +kernel
theorem tb_639 : tables_1[639]? = some (Jvm.Cond.methodLink "java/lang/StringUTF16" (228 : Nat) ({ cls := "java/lang/StringUTF16", name := "indexOfChar", desc := "([BIII)I" } : Jvm.MethodName)) := by decide +kernel
theorem tb_640 : tables_1[640]? = some (Jvm.Cond.static ({ cls := "java/lang/StringUTF16", name := "indexOfChar", desc := "([BIII)I" } : Jvm.MethodName)) := by decide +kernel
theorem tb_641 : tables_1[641]? = some (Jvm.Cond.code ({ cls := "java/lang/StringUTF16", name := "indexOfChar", desc := "([BIII)I" } : Jvm.MethodName) prog_18_method_47_code (4 : Nat) (Option.some Jvm.ClassFile.FieldType.int)) := by decide +kernel
theorem tb_642 : tables_1[642]? = some (Jvm.Cond.methodLink "java/lang/StringUTF16" (96 : Nat) ({ cls := "java/lang/StringUTF16", name := "checkBoundsBeginEnd", desc := "(II[B)V" } : Jvm.MethodName)) := by decide +kernel
theorem tb_643 : tables_1[643]? = some (Jvm.Cond.static ({ cls := "java/lang/StringUTF16", name := "checkBoundsBeginEnd", desc := "(II[B)V" } : Jvm.MethodName)) := by decide +kernel
theorem tb_644 : tables_1[644]? = some (Jvm.Cond.code ({ cls := "java/lang/StringUTF16", name := "checkBoundsBeginEnd", desc := "(II[B)V" } : Jvm.MethodName) prog_18_method_93_code (3 : Nat) (Option.none : Option Jvm.ClassFile.FieldType)) := by decide +kernel
theorem tb_645 : tables_1[645]? = some (Jvm.Cond.methodLink "java/lang/StringUTF16" (241 : Nat) ({ cls := "java/lang/String", name := "checkBoundsBeginEnd", desc := "(III)V" } : Jvm.MethodName)) := by decide +kernel
theorem tb_646 : tables_1[646]? = some (Jvm.Cond.static ({ cls := "java/lang/String", name := "checkBoundsBeginEnd", desc := "(III)V" } : Jvm.MethodName)) := by decide +kernel
theorem tb_647 : tables_1[647]? = some (Jvm.Cond.code ({ cls := "java/lang/String", name := "checkBoundsBeginEnd", desc := "(III)V" } : Jvm.MethodName) prog_16_method_158_code (3 : Nat) (Option.none : Option Jvm.ClassFile.FieldType)) := by decide +kernel
theorem tb_648 : tables_1[648]? = some (Jvm.Cond.methodLink "java/lang/String" (1062 : Nat) ({ cls := "jdk/internal/util/Preconditions", name := "checkFromToIndex", desc := "(IIILjava/util/function/BiFunction;)I" } : Jvm.MethodName)) := by decide +kernel
theorem tb_649 : tables_1[649]? = some (Jvm.Cond.static ({ cls := "jdk/internal/util/Preconditions", name := "checkFromToIndex", desc := "(IIILjava/util/function/BiFunction;)I" } : Jvm.MethodName)) := by decide +kernel
theorem tb_650 : tables_1[650]? = some (Jvm.Cond.code ({ cls := "jdk/internal/util/Preconditions", name := "checkFromToIndex", desc := "(IIILjava/util/function/BiFunction;)I" } : Jvm.MethodName) prog_21_method_12_code (4 : Nat) (Option.some Jvm.ClassFile.FieldType.int)) := by decide +kernel
theorem tb_651 : tables_1[651]? = some (Jvm.Cond.methodLink "java/lang/StringUTF16" (244 : Nat) ({ cls := "java/lang/StringUTF16", name := "indexOfCharUnsafe", desc := "([BIII)I" } : Jvm.MethodName)) := by decide +kernel
theorem tb_652 : tables_1[652]? = some (Jvm.Cond.static ({ cls := "java/lang/StringUTF16", name := "indexOfCharUnsafe", desc := "([BIII)I" } : Jvm.MethodName)) := by decide +kernel
theorem tb_653 : tables_1[653]? = some (Jvm.Cond.code ({ cls := "java/lang/StringUTF16", name := "indexOfCharUnsafe", desc := "([BIII)I" } : Jvm.MethodName) prog_18_method_48_code (5 : Nat) (Option.some Jvm.ClassFile.FieldType.int)) := by decide +kernel
theorem tb_654 : tables_1[654]? = some (Jvm.Cond.methodLink "java/lang/StringUTF16" (232 : Nat) ({ cls := "java/lang/StringUTF16", name := "indexOfSupplementary", desc := "([BIII)I" } : Jvm.MethodName)) := by decide +kernel
theorem tb_655 : tables_1[655]? = some (Jvm.Cond.static ({ cls := "java/lang/StringUTF16", name := "indexOfSupplementary", desc := "([BIII)I" } : Jvm.MethodName)) := by decide +kernel
theorem tb_656 : tables_1[656]? = some (Jvm.Cond.code ({ cls := "java/lang/StringUTF16", name := "indexOfSupplementary", desc := "([BIII)I" } : Jvm.MethodName) prog_18_method_49_code (7 : Nat) (Option.some Jvm.ClassFile.FieldType.int)) := by decide +kernel
theorem tb_657 : tables_1[657]? = some (Jvm.Cond.methodLink "java/lang/StringUTF16" (164 : Nat) ({ cls := "java/lang/Character", name := "isValidCodePoint", desc := "(I)Z" } : Jvm.MethodName)) := by decide +kernel
theorem tb_658 : tables_1[658]? = some (Jvm.Cond.static ({ cls := "java/lang/Character", name := "isValidCodePoint", desc := "(I)Z" } : Jvm.MethodName)) := by decide +kernel
theorem tb_659 : tables_1[659]? = some (Jvm.Cond.code ({ cls := "java/lang/Character", name := "isValidCodePoint", desc := "(I)Z" } : Jvm.MethodName) prog_14_method_11_code (2 : Nat) (Option.some Jvm.ClassFile.FieldType.boolean)) := by decide +kernel
theorem tb_660 : tables_1[660]? = some (Jvm.Cond.methodLink "java/lang/StringUTF16" (157 : Nat) ({ cls := "java/lang/Character", name := "highSurrogate", desc := "(I)C" } : Jvm.MethodName)) := by decide +kernel
theorem tb_661 : tables_1[661]? = some (Jvm.Cond.static ({ cls := "java/lang/Character", name := "highSurrogate", desc := "(I)C" } : Jvm.MethodName)) := by decide +kernel
theorem tb_662 : tables_1[662]? = some (Jvm.Cond.code ({ cls := "java/lang/Character", name := "highSurrogate", desc := "(I)C" } : Jvm.MethodName) prog_14_method_28_code (1 : Nat) (Option.some Jvm.ClassFile.FieldType.char)) := by decide +kernel
theorem tb_663 : tables_1[663]? = some (Jvm.Cond.constant "java/lang/Character" (110 : Nat) (55232 : Int32)) := by decide +kernel
theorem tb_664 : tables_1[664]? = some (Jvm.Cond.methodLink "java/lang/StringUTF16" (161 : Nat) ({ cls := "java/lang/Character", name := "lowSurrogate", desc := "(I)C" } : Jvm.MethodName)) := by decide +kernel
theorem tb_665 : tables_1[665]? = some (Jvm.Cond.static ({ cls := "java/lang/Character", name := "lowSurrogate", desc := "(I)C" } : Jvm.MethodName)) := by decide +kernel
theorem tb_666 : tables_1[666]? = some (Jvm.Cond.code ({ cls := "java/lang/Character", name := "lowSurrogate", desc := "(I)C" } : Jvm.MethodName) prog_14_method_29_code (1 : Nat) (Option.some Jvm.ClassFile.FieldType.char)) := by decide +kernel
theorem tb_667 : tables_1[667]? = some (Jvm.Cond.constant "java/lang/Character" (76 : Nat) (56320 : Int32)) := by decide +kernel
theorem tb_668 : tables_1[668]? = some (Jvm.Cond.methodLink "PairedComing$Tape" (36 : Nat) ({ cls := "PairedComing$Tape", name := "expect", desc := "(I)V" } : Jvm.MethodName)) := by decide +kernel
theorem tb_670 : tables_1[670]? = some (Jvm.Cond.instanceMethod ({ cls := "PairedComing$Tape", name := "expect", desc := "(I)V" } : Jvm.MethodName)) := by decide +kernel
theorem tb_671 : tables_1[671]? = some (Jvm.Cond.code ({ cls := "PairedComing$Tape", name := "expect", desc := "(I)V" } : Jvm.MethodName) prog_10_method_7_code (2 : Nat) (Option.none : Option Jvm.ClassFile.FieldType)) := by decide +kernel
theorem tb_672 : tables_1[672]? = some (Jvm.Cond.methodLink "PairedComing$Tape" (40 : Nat) ({ cls := "PairedComing$Tape", name := "readKey", desc := "(LPairedComing$Rule;)V" } : Jvm.MethodName)) := by decide +kernel
theorem tb_674 : tables_1[674]? = some (Jvm.Cond.instanceMethod ({ cls := "PairedComing$Tape", name := "readKey", desc := "(LPairedComing$Rule;)V" } : Jvm.MethodName)) := by decide +kernel
theorem tb_675 : tables_1[675]? = some (Jvm.Cond.code ({ cls := "PairedComing$Tape", name := "readKey", desc := "(LPairedComing$Rule;)V" } : Jvm.MethodName) prog_10_method_4_code (4 : Nat) (Option.none : Option Jvm.ClassFile.FieldType)) := by decide +kernel
theorem tb_676 : tables_1[676]? = some (Jvm.Cond.methodLink "PairedComing$Tape" (57 : Nat) ({ cls := "PairedComing$Tape", name := "isKey", desc := "(I)Z" } : Jvm.MethodName)) := by decide +kernel
theorem tb_677 : tables_1[677]? = some (Jvm.Cond.static ({ cls := "PairedComing$Tape", name := "isKey", desc := "(I)Z" } : Jvm.MethodName)) := by decide +kernel
theorem tb_678 : tables_1[678]? = some (Jvm.Cond.code ({ cls := "PairedComing$Tape", name := "isKey", desc := "(I)Z" } : Jvm.MethodName) prog_10_method_6_code (1 : Nat) (Option.some Jvm.ClassFile.FieldType.boolean)) := by decide +kernel
theorem tb_679 : tables_1[679]? = some (Jvm.Cond.methodLink "PairedComing$Tape" (61 : Nat) ({ cls := "PairedComing$Rule", name := "hasKey", desc := "(I)Z" } : Jvm.MethodName)) := by decide +kernel
theorem tb_680 : tables_1[680]? = some (Jvm.Cond.instanceMethod ({ cls := "PairedComing$Rule", name := "hasKey", desc := "(I)Z" } : Jvm.MethodName)) := by decide +kernel
theorem tb_681 : tables_1[681]? = some (Jvm.Cond.selects "PairedComing$Rule" ({ cls := "PairedComing$Rule", name := "hasKey", desc := "(I)Z" } : Jvm.MethodName) ({ cls := "PairedComing$Rule", name := "hasKey", desc := "(I)Z" } : Jvm.MethodName)) := by decide +kernel
theorem tb_682 : tables_1[682]? = some (Jvm.Cond.code ({ cls := "PairedComing$Rule", name := "hasKey", desc := "(I)Z" } : Jvm.MethodName) prog_7_method_3_code (3 : Nat) (Option.some Jvm.ClassFile.FieldType.boolean)) := by decide +kernel
theorem tb_683 : tables_1[683]? = some (Jvm.Cond.methodLink "PairedComing$Tape" (64 : Nat) ({ cls := "PairedComing$Rule", name := "addKey", desc := "(IZ)V" } : Jvm.MethodName)) := by decide +kernel
theorem tb_684 : tables_1[684]? = some (Jvm.Cond.instanceMethod ({ cls := "PairedComing$Rule", name := "addKey", desc := "(IZ)V" } : Jvm.MethodName)) := by decide +kernel
theorem tb_685 : tables_1[685]? = some (Jvm.Cond.selects "PairedComing$Rule" ({ cls := "PairedComing$Rule", name := "addKey", desc := "(IZ)V" } : Jvm.MethodName) ({ cls := "PairedComing$Rule", name := "addKey", desc := "(IZ)V" } : Jvm.MethodName)) := by decide +kernel
theorem tb_686 : tables_1[686]? = some (Jvm.Cond.code ({ cls := "PairedComing$Rule", name := "addKey", desc := "(IZ)V" } : Jvm.MethodName) prog_7_method_5_code (3 : Nat) (Option.none : Option Jvm.ClassFile.FieldType)) := by decide +kernel
theorem tb_687 : tables_1[687]? = some (Jvm.Cond.methodLink "PairedComing$Tape" (47 : Nat) ({ cls := "PairedComing$Tape", name := "readTest", desc := "(LPairedComing$Rule;)V" } : Jvm.MethodName)) := by decide +kernel
theorem tb_689 : tables_1[689]? = some (Jvm.Cond.instanceMethod ({ cls := "PairedComing$Tape", name := "readTest", desc := "(LPairedComing$Rule;)V" } : Jvm.MethodName)) := by decide +kernel
theorem tb_690 : tables_1[690]? = some (Jvm.Cond.code ({ cls := "PairedComing$Tape", name := "readTest", desc := "(LPairedComing$Rule;)V" } : Jvm.MethodName) prog_10_method_5_code (5 : Nat) (Option.none : Option Jvm.ClassFile.FieldType)) := by decide +kernel
theorem tb_691 : tables_1[691]? = some (Jvm.Cond.methodLink "PairedComing$Tape" (74 : Nat) ({ cls := "PairedComing$Rule", name := "addTest", desc := "(IZI)V" } : Jvm.MethodName)) := by decide +kernel
theorem tb_692 : tables_1[692]? = some (Jvm.Cond.instanceMethod ({ cls := "PairedComing$Rule", name := "addTest", desc := "(IZI)V" } : Jvm.MethodName)) := by decide +kernel
theorem tb_693 : tables_1[693]? = some (Jvm.Cond.selects "PairedComing$Rule" ({ cls := "PairedComing$Rule", name := "addTest", desc := "(IZI)V" } : Jvm.MethodName) ({ cls := "PairedComing$Rule", name := "addTest", desc := "(IZI)V" } : Jvm.MethodName)) := by decide +kernel
theorem tb_694 : tables_1[694]? = some (Jvm.Cond.code ({ cls := "PairedComing$Rule", name := "addTest", desc := "(IZI)V" } : Jvm.MethodName) prog_7_method_6_code (4 : Nat) (Option.none : Option Jvm.ClassFile.FieldType)) := by decide +kernel
theorem tb_695 : tables_1[695]? = some (Jvm.Cond.arrayClass Jvm.ClassFile.FieldType.byte) := by decide +kernel
theorem tb_696 : tables_1[696]? = some (Jvm.Cond.methodLink "PairedComingLaw" (56 : Nat) ({ cls := "PairedComing", name := "fault", desc := "()I" } : Jvm.MethodName)) := by decide +kernel
theorem tb_697 : tables_1[697]? = some (Jvm.Cond.instanceMethod ({ cls := "PairedComing", name := "fault", desc := "()I" } : Jvm.MethodName)) := by decide +kernel
theorem tb_698 : tables_1[698]? = some (Jvm.Cond.selects "PairedComing" ({ cls := "PairedComing", name := "fault", desc := "()I" } : Jvm.MethodName) ({ cls := "PairedComing", name := "fault", desc := "()I" } : Jvm.MethodName)) := by decide +kernel
theorem tb_699 : tables_1[699]? = some (Jvm.Cond.code ({ cls := "PairedComing", name := "fault", desc := "()I" } : Jvm.MethodName) prog_1_method_11_code (1 : Nat) (Option.some Jvm.ClassFile.FieldType.int)) := by decide +kernel
theorem tb_700 : tables_1[700]? = some (Jvm.Cond.methodLink "PairedComingLaw" (60 : Nat) ({ cls := "PairedComing", name := "ruleOf", desc := "(II)I" } : Jvm.MethodName)) := by decide +kernel
theorem tb_701 : tables_1[701]? = some (Jvm.Cond.instanceMethod ({ cls := "PairedComing", name := "ruleOf", desc := "(II)I" } : Jvm.MethodName)) := by decide +kernel
theorem tb_702 : tables_1[702]? = some (Jvm.Cond.selects "PairedComing" ({ cls := "PairedComing", name := "ruleOf", desc := "(II)I" } : Jvm.MethodName) ({ cls := "PairedComing", name := "ruleOf", desc := "(II)I" } : Jvm.MethodName)) := by decide +kernel
theorem tb_703 : tables_1[703]? = some (Jvm.Cond.code ({ cls := "PairedComing", name := "ruleOf", desc := "(II)I" } : Jvm.MethodName) prog_1_method_12_code (5 : Nat) (Option.some Jvm.ClassFile.FieldType.int)) := by decide +kernel
theorem tb_704 : tables_1[704]? = some (Jvm.Cond.methodLink "PairedComing" (174 : Nat) ({ cls := "PairedComing", name := "isRule", desc := "(I)Z" } : Jvm.MethodName)) := by decide +kernel
theorem tb_706 : tables_1[706]? = some (Jvm.Cond.instanceMethod ({ cls := "PairedComing", name := "isRule", desc := "(I)Z" } : Jvm.MethodName)) := by decide +kernel
theorem tb_707 : tables_1[707]? = some (Jvm.Cond.code ({ cls := "PairedComing", name := "isRule", desc := "(I)Z" } : Jvm.MethodName) prog_1_method_40_code (2 : Nat) (Option.some Jvm.ClassFile.FieldType.boolean)) := by decide +kernel
theorem tb_708 : tables_1[708]? = some (Jvm.Cond.methodLink "PairedComing" (180 : Nat) ({ cls := "PairedComing", name := "isEach", desc := "(II)Z" } : Jvm.MethodName)) := by decide +kernel
theorem tb_709 : tables_1[709]? = some (Jvm.Cond.static ({ cls := "PairedComing", name := "isEach", desc := "(II)Z" } : Jvm.MethodName)) := by decide +kernel
theorem tb_710 : tables_1[710]? = some (Jvm.Cond.code ({ cls := "PairedComing", name := "isEach", desc := "(II)Z" } : Jvm.MethodName) prog_1_method_37_code (2 : Nat) (Option.some Jvm.ClassFile.FieldType.boolean)) := by decide +kernel
theorem tb_711 : tables_1[711]? = some (Jvm.Cond.methodLink "PairedComingLaw" (64 : Nat) ({ cls := "PairedComing", name := "run", desc := "(II)I" } : Jvm.MethodName)) := by decide +kernel
theorem tb_712 : tables_1[712]? = some (Jvm.Cond.instanceMethod ({ cls := "PairedComing", name := "run", desc := "(II)I" } : Jvm.MethodName)) := by decide +kernel
theorem tb_713 : tables_1[713]? = some (Jvm.Cond.selects "PairedComing" ({ cls := "PairedComing", name := "run", desc := "(II)I" } : Jvm.MethodName) ({ cls := "PairedComing", name := "run", desc := "(II)I" } : Jvm.MethodName)) := by decide +kernel
theorem tb_714 : tables_1[714]? = some (Jvm.Cond.code ({ cls := "PairedComing", name := "run", desc := "(II)I" } : Jvm.MethodName) prog_1_method_13_code (3 : Nat) (Option.some Jvm.ClassFile.FieldType.int)) := by decide +kernel
theorem tb_715 : tables_1[715]? = some (Jvm.Cond.methodLink "PairedComing" (198 : Nat) ({ cls := "PairedComing$Standing", name := "runByNumbers", desc := "(LPairedComing$Rule;)V" } : Jvm.MethodName)) := by decide +kernel
theorem tb_716 : tables_1[716]? = some (Jvm.Cond.instanceMethod ({ cls := "PairedComing$Standing", name := "runByNumbers", desc := "(LPairedComing$Rule;)V" } : Jvm.MethodName)) := by decide +kernel
theorem tb_717 : tables_1[717]? = some (Jvm.Cond.selects "PairedComing$Standing" ({ cls := "PairedComing$Standing", name := "runByNumbers", desc := "(LPairedComing$Rule;)V" } : Jvm.MethodName) ({ cls := "PairedComing$Standing", name := "runByNumbers", desc := "(LPairedComing$Rule;)V" } : Jvm.MethodName)) := by decide +kernel
theorem tb_718 : tables_1[718]? = some (Jvm.Cond.code ({ cls := "PairedComing$Standing", name := "runByNumbers", desc := "(LPairedComing$Rule;)V" } : Jvm.MethodName) prog_9_method_3_code (3 : Nat) (Option.none : Option Jvm.ClassFile.FieldType)) := by decide +kernel
theorem tb_719 : tables_1[719]? = some (Jvm.Cond.methodLink "PairedComing$Standing" (60 : Nat) ({ cls := "PairedComing$Standing", name := "clear", desc := "()V" } : Jvm.MethodName)) := by decide +kernel
theorem tb_720 : tables_1[720]? = some (Jvm.Cond.instanceMethod ({ cls := "PairedComing$Standing", name := "clear", desc := "()V" } : Jvm.MethodName)) := by decide +kernel
theorem tb_721 : tables_1[721]? = some (Jvm.Cond.selects "PairedComing$Standing" ({ cls := "PairedComing$Standing", name := "clear", desc := "()V" } : Jvm.MethodName) ({ cls := "PairedComing$Standing", name := "clear", desc := "()V" } : Jvm.MethodName)) := by decide +kernel
theorem tb_722 : tables_1[722]? = some (Jvm.Cond.code ({ cls := "PairedComing$Standing", name := "clear", desc := "()V" } : Jvm.MethodName) prog_9_method_2_code (1 : Nat) (Option.none : Option Jvm.ClassFile.FieldType)) := by decide +kernel
theorem tb_723 : tables_1[723]? = some (Jvm.Cond.methodLink "PairedComing$Standing" (68 : Nat) ({ cls := "PairedComing$Standing", name := "comeBy", desc := "(ILPairedComing$Rule;)I" } : Jvm.MethodName)) := by decide +kernel
theorem tb_724 : tables_1[724]? = some (Jvm.Cond.instanceMethod ({ cls := "PairedComing$Standing", name := "comeBy", desc := "(ILPairedComing$Rule;)I" } : Jvm.MethodName)) := by decide +kernel
theorem tb_725 : tables_1[725]? = some (Jvm.Cond.selects "PairedComing$Standing" ({ cls := "PairedComing$Standing", name := "comeBy", desc := "(ILPairedComing$Rule;)I" } : Jvm.MethodName) ({ cls := "PairedComing$Standing", name := "comeBy", desc := "(ILPairedComing$Rule;)I" } : Jvm.MethodName)) := by decide +kernel
theorem tb_726 : tables_1[726]? = some (Jvm.Cond.code ({ cls := "PairedComing$Standing", name := "comeBy", desc := "(ILPairedComing$Rule;)I" } : Jvm.MethodName) prog_9_method_11_code (4 : Nat) (Option.some Jvm.ClassFile.FieldType.int)) := by decide +kernel
theorem tb_727 : tables_1[727]? = some (Jvm.Cond.methodLink "PairedComing$Standing" (89 : Nat) ({ cls := "PairedComing$Standing", name := "choose", desc := "(ILPairedComing$Rule;)I" } : Jvm.MethodName)) := by decide +kernel
theorem tb_729 : tables_1[729]? = some (Jvm.Cond.instanceMethod ({ cls := "PairedComing$Standing", name := "choose", desc := "(ILPairedComing$Rule;)I" } : Jvm.MethodName)) := by decide +kernel
theorem tb_730 : tables_1[730]? = some (Jvm.Cond.code ({ cls := "PairedComing$Standing", name := "choose", desc := "(ILPairedComing$Rule;)I" } : Jvm.MethodName) prog_9_method_12_code (6 : Nat) (Option.some Jvm.ClassFile.FieldType.int)) := by decide +kernel
theorem tb_731 : tables_1[731]? = some (Jvm.Cond.methodLink "PairedComing$Standing" (95 : Nat) ({ cls := "PairedComing$Standing", name := "canTake", desc := "(II)Z" } : Jvm.MethodName)) := by decide +kernel
theorem tb_732 : tables_1[732]? = some (Jvm.Cond.instanceMethod ({ cls := "PairedComing$Standing", name := "canTake", desc := "(II)Z" } : Jvm.MethodName)) := by decide +kernel
theorem tb_733 : tables_1[733]? = some (Jvm.Cond.selects "PairedComing$Standing" ({ cls := "PairedComing$Standing", name := "canTake", desc := "(II)Z" } : Jvm.MethodName) ({ cls := "PairedComing$Standing", name := "canTake", desc := "(II)Z" } : Jvm.MethodName)) := by decide +kernel
theorem tb_734 : tables_1[734]? = some (Jvm.Cond.code ({ cls := "PairedComing$Standing", name := "canTake", desc := "(II)Z" } : Jvm.MethodName) prog_9_method_10_code (3 : Nat) (Option.some Jvm.ClassFile.FieldType.boolean)) := by decide +kernel
theorem tb_735 : tables_1[735]? = some (Jvm.Cond.methodLink "PairedComing$Standing" (78 : Nat) ({ cls := "PairedComing$Board", name := "worthAt", desc := "(II)I" } : Jvm.MethodName)) := by decide +kernel
theorem tb_736 : tables_1[736]? = some (Jvm.Cond.methodLink "PairedComing$Standing" (82 : Nat) ({ cls := "PairedComing$Standing", name := "freeAt", desc := "(I)I" } : Jvm.MethodName)) := by decide +kernel
theorem tb_737 : tables_1[737]? = some (Jvm.Cond.methodLink "PairedComing$Standing" (105 : Nat) ({ cls := "PairedComing$Standing", name := "canTakeByDrop", desc := "(II)Z" } : Jvm.MethodName)) := by decide +kernel
theorem tb_739 : tables_1[739]? = some (Jvm.Cond.instanceMethod ({ cls := "PairedComing$Standing", name := "canTakeByDrop", desc := "(II)Z" } : Jvm.MethodName)) := by decide +kernel
theorem tb_740 : tables_1[740]? = some (Jvm.Cond.code ({ cls := "PairedComing$Standing", name := "canTakeByDrop", desc := "(II)Z" } : Jvm.MethodName) prog_9_method_13_code (4 : Nat) (Option.some Jvm.ClassFile.FieldType.boolean)) := by decide +kernel
theorem tb_741 : tables_1[741]? = some (Jvm.Cond.methodLink "PairedComing$Standing" (116 : Nat) ({ cls := "PairedComing$Standing", name := "weakestAt", desc := "(I)I" } : Jvm.MethodName)) := by decide +kernel
theorem tb_743 : tables_1[743]? = some (Jvm.Cond.instanceMethod ({ cls := "PairedComing$Standing", name := "weakestAt", desc := "(I)I" } : Jvm.MethodName)) := by decide +kernel
theorem tb_744 : tables_1[744]? = some (Jvm.Cond.code ({ cls := "PairedComing$Standing", name := "weakestAt", desc := "(I)I" } : Jvm.MethodName) prog_9_method_14_code (6 : Nat) (Option.some Jvm.ClassFile.FieldType.int)) := by decide +kernel
theorem tb_745 : tables_1[745]? = some (Jvm.Cond.methodLink "PairedComing$Standing" (108 : Nat) ({ cls := "PairedComing$Standing", name := "passes", desc := "(IILPairedComing$Rule;)Z" } : Jvm.MethodName)) := by decide +kernel
theorem tb_747 : tables_1[747]? = some (Jvm.Cond.instanceMethod ({ cls := "PairedComing$Standing", name := "passes", desc := "(IILPairedComing$Rule;)Z" } : Jvm.MethodName)) := by decide +kernel
theorem tb_748 : tables_1[748]? = some (Jvm.Cond.code ({ cls := "PairedComing$Standing", name := "passes", desc := "(IILPairedComing$Rule;)Z" } : Jvm.MethodName) prog_9_method_15_code (7 : Nat) (Option.some Jvm.ClassFile.FieldType.boolean)) := by decide +kernel
theorem tb_749 : tables_1[749]? = some (Jvm.Cond.methodLink "PairedComing$Standing" (125 : Nat) ({ cls := "PairedComing$Standing", name := "keyOf", desc := "(III)I" } : Jvm.MethodName)) := by decide +kernel
theorem tb_751 : tables_1[751]? = some (Jvm.Cond.instanceMethod ({ cls := "PairedComing$Standing", name := "keyOf", desc := "(III)I" } : Jvm.MethodName)) := by decide +kernel
theorem tb_752 : tables_1[752]? = some (Jvm.Cond.code ({ cls := "PairedComing$Standing", name := "keyOf", desc := "(III)I" } : Jvm.MethodName) prog_9_method_17_code (4 : Nat) (Option.some Jvm.ClassFile.FieldType.int)) := by decide +kernel
theorem tb_753 : tables_1[753]? = some (Jvm.Cond.methodLink "PairedComing$Standing" (112 : Nat) ({ cls := "PairedComing$Standing", name := "isAhead", desc := "(IIILPairedComing$Rule;)Z" } : Jvm.MethodName)) := by decide +kernel
theorem tb_755 : tables_1[755]? = some (Jvm.Cond.instanceMethod ({ cls := "PairedComing$Standing", name := "isAhead", desc := "(IIILPairedComing$Rule;)Z" } : Jvm.MethodName)) := by decide +kernel
theorem tb_756 : tables_1[756]? = some (Jvm.Cond.code ({ cls := "PairedComing$Standing", name := "isAhead", desc := "(IIILPairedComing$Rule;)Z" } : Jvm.MethodName) prog_9_method_16_code (8 : Nat) (Option.some Jvm.ClassFile.FieldType.boolean)) := by decide +kernel
theorem tb_757 : tables_1[757]? = some (Jvm.Cond.methodLink "PairedComing$Standing" (92 : Nat) ({ cls := "PairedComing$Standing", name := "enter", desc := "(II)I" } : Jvm.MethodName)) := by decide +kernel
theorem tb_758 : tables_1[758]? = some (Jvm.Cond.instanceMethod ({ cls := "PairedComing$Standing", name := "enter", desc := "(II)I" } : Jvm.MethodName)) := by decide +kernel
theorem tb_759 : tables_1[759]? = some (Jvm.Cond.selects "PairedComing$Standing" ({ cls := "PairedComing$Standing", name := "enter", desc := "(II)I" } : Jvm.MethodName) ({ cls := "PairedComing$Standing", name := "enter", desc := "(II)I" } : Jvm.MethodName)) := by decide +kernel
theorem tb_760 : tables_1[760]? = some (Jvm.Cond.code ({ cls := "PairedComing$Standing", name := "enter", desc := "(II)I" } : Jvm.MethodName) prog_9_method_18_code (5 : Nat) (Option.some Jvm.ClassFile.FieldType.int)) := by decide +kernel
theorem tb_761 : tables_1[761]? = some (Jvm.Cond.methodLink "PairedComing$Standing" (147 : Nat) ({ cls := "PairedComing$Standing", name := "drop", desc := "(II)V" } : Jvm.MethodName)) := by decide +kernel
theorem tb_763 : tables_1[763]? = some (Jvm.Cond.instanceMethod ({ cls := "PairedComing$Standing", name := "drop", desc := "(II)V" } : Jvm.MethodName)) := by decide +kernel
theorem tb_764 : tables_1[764]? = some (Jvm.Cond.code ({ cls := "PairedComing$Standing", name := "drop", desc := "(II)V" } : Jvm.MethodName) prog_9_method_19_code (3 : Nat) (Option.none : Option Jvm.ClassFile.FieldType)) := by decide +kernel
theorem tb_765 : tables_1[765]? = some (Jvm.Cond.methodLink "PairedComing$Standing" (151 : Nat) ({ cls := "java/lang/Math", name := "min", desc := "(II)I" } : Jvm.MethodName)) := by decide +kernel
theorem tb_766 : tables_1[766]? = some (Jvm.Cond.methodLink "PairedComing$Standing" (156 : Nat) ({ cls := "PairedComing$Standing", name := "note", desc := "(IIIIZ)V" } : Jvm.MethodName)) := by decide +kernel
theorem tb_768 : tables_1[768]? = some (Jvm.Cond.instanceMethod ({ cls := "PairedComing$Standing", name := "note", desc := "(IIIIZ)V" } : Jvm.MethodName)) := by decide +kernel
theorem tb_769 : tables_1[769]? = some (Jvm.Cond.code ({ cls := "PairedComing$Standing", name := "note", desc := "(IIIIZ)V" } : Jvm.MethodName) prog_9_method_21_code (6 : Nat) (Option.none : Option Jvm.ClassFile.FieldType)) := by decide +kernel
theorem tb_770 : tables_1[770]? = some (Jvm.Cond.methodLink "PairedComing" (201 : Nat) ({ cls := "PairedComing$Standing", name := "value", desc := "()I" } : Jvm.MethodName)) := by decide +kernel
theorem tb_771 : tables_1[771]? = some (Jvm.Cond.instanceMethod ({ cls := "PairedComing$Standing", name := "value", desc := "()I" } : Jvm.MethodName)) := by decide +kernel
theorem tb_772 : tables_1[772]? = some (Jvm.Cond.selects "PairedComing$Standing" ({ cls := "PairedComing$Standing", name := "value", desc := "()I" } : Jvm.MethodName) ({ cls := "PairedComing$Standing", name := "value", desc := "()I" } : Jvm.MethodName)) := by decide +kernel
theorem tb_773 : tables_1[773]? = some (Jvm.Cond.code ({ cls := "PairedComing$Standing", name := "value", desc := "()I" } : Jvm.MethodName) prog_9_method_7_code (3 : Nat) (Option.some Jvm.ClassFile.FieldType.int)) := by decide +kernel
theorem tb_774 : tables_1[774]? = some (Jvm.Cond.methodLink "PairedComing" (204 : Nat) ({ cls := "PairedComing$Standing", name := "kept", desc := "()I" } : Jvm.MethodName)) := by decide +kernel
theorem tb_775 : tables_1[775]? = some (Jvm.Cond.instanceMethod ({ cls := "PairedComing$Standing", name := "kept", desc := "()I" } : Jvm.MethodName)) := by decide +kernel
theorem tb_776 : tables_1[776]? = some (Jvm.Cond.selects "PairedComing$Standing" ({ cls := "PairedComing$Standing", name := "kept", desc := "()I" } : Jvm.MethodName) ({ cls := "PairedComing$Standing", name := "kept", desc := "()I" } : Jvm.MethodName)) := by decide +kernel
theorem tb_777 : tables_1[777]? = some (Jvm.Cond.code ({ cls := "PairedComing$Standing", name := "kept", desc := "()I" } : Jvm.MethodName) prog_9_method_8_code (3 : Nat) (Option.some Jvm.ClassFile.FieldType.int)) := by decide +kernel
theorem tb_778 : tables_1[778]? = some (Jvm.Cond.methodLink "PairedComing" (207 : Nat) ({ cls := "PairedComing$Standing", name := "paired", desc := "()I" } : Jvm.MethodName)) := by decide +kernel
theorem tb_779 : tables_1[779]? = some (Jvm.Cond.instanceMethod ({ cls := "PairedComing$Standing", name := "paired", desc := "()I" } : Jvm.MethodName)) := by decide +kernel
theorem tb_780 : tables_1[780]? = some (Jvm.Cond.selects "PairedComing$Standing" ({ cls := "PairedComing$Standing", name := "paired", desc := "()I" } : Jvm.MethodName) ({ cls := "PairedComing$Standing", name := "paired", desc := "()I" } : Jvm.MethodName)) := by decide +kernel
theorem tb_781 : tables_1[781]? = some (Jvm.Cond.code ({ cls := "PairedComing$Standing", name := "paired", desc := "()I" } : Jvm.MethodName) prog_9_method_9_code (3 : Nat) (Option.some Jvm.ClassFile.FieldType.int)) := by decide +kernel
theorem tb_782 : tables_1[782]? = some (Jvm.Cond.methodLink "PairedComingLaw" (68 : Nat) ({ cls := "PairedComing", name := "runBy", desc := "(II)I" } : Jvm.MethodName)) := by decide +kernel
theorem tb_783 : tables_1[783]? = some (Jvm.Cond.instanceMethod ({ cls := "PairedComing", name := "runBy", desc := "(II)I" } : Jvm.MethodName)) := by decide +kernel
theorem tb_784 : tables_1[784]? = some (Jvm.Cond.selects "PairedComing" ({ cls := "PairedComing", name := "runBy", desc := "(II)I" } : Jvm.MethodName) ({ cls := "PairedComing", name := "runBy", desc := "(II)I" } : Jvm.MethodName)) := by decide +kernel
theorem tb_785 : tables_1[785]? = some (Jvm.Cond.code ({ cls := "PairedComing", name := "runBy", desc := "(II)I" } : Jvm.MethodName) prog_1_method_14_code (4 : Nat) (Option.some Jvm.ClassFile.FieldType.int)) := by decide +kernel
theorem tb_786 : tables_1[786]? = some (Jvm.Cond.methodLink "PairedComing" (216 : Nat) ({ cls := "PairedComing", name := "readOrder", desc := "(I)Z" } : Jvm.MethodName)) := by decide +kernel
theorem tb_788 : tables_1[788]? = some (Jvm.Cond.instanceMethod ({ cls := "PairedComing", name := "readOrder", desc := "(I)Z" } : Jvm.MethodName)) := by decide +kernel
theorem tb_789 : tables_1[789]? = some (Jvm.Cond.code ({ cls := "PairedComing", name := "readOrder", desc := "(I)Z" } : Jvm.MethodName) prog_1_method_42_code (6 : Nat) (Option.some Jvm.ClassFile.FieldType.boolean)) := by decide +kernel
theorem tb_790 : tables_1[790]? = some (Jvm.Cond.methodLink "PairedComing" (219 : Nat) ({ cls := "PairedComing$Standing", name := "clear", desc := "()V" } : Jvm.MethodName)) := by decide +kernel
theorem tb_791 : tables_1[791]? = some (Jvm.Cond.methodLink "PairedComing" (222 : Nat) ({ cls := "PairedComing$Standing", name := "comeBy", desc := "(ILPairedComing$Rule;)I" } : Jvm.MethodName)) := by decide +kernel
theorem tb_792 : tables_1[792]? = some (Jvm.Cond.methodLink "PairedComingLaw" (72 : Nat) ({ cls := "PairedComing", name := "best", desc := "()I" } : Jvm.MethodName)) := by decide +kernel
theorem tb_793 : tables_1[793]? = some (Jvm.Cond.instanceMethod ({ cls := "PairedComing", name := "best", desc := "()I" } : Jvm.MethodName)) := by decide +kernel
theorem tb_794 : tables_1[794]? = some (Jvm.Cond.selects "PairedComing" ({ cls := "PairedComing", name := "best", desc := "()I" } : Jvm.MethodName) ({ cls := "PairedComing", name := "best", desc := "()I" } : Jvm.MethodName)) := by decide +kernel
theorem tb_795 : tables_1[795]? = some (Jvm.Cond.code ({ cls := "PairedComing", name := "best", desc := "()I" } : Jvm.MethodName) prog_1_method_15_code (1 : Nat) (Option.some Jvm.ClassFile.FieldType.int)) := by decide +kernel
theorem tb_796 : tables_1[796]? = some (Jvm.Cond.methodLink "PairedComing" (226 : Nat) ({ cls := "PairedComing$Plan", name := "makeBest", desc := "(LPairedComing$Board;)V" } : Jvm.MethodName)) := by decide +kernel
theorem tb_797 : tables_1[797]? = some (Jvm.Cond.instanceMethod ({ cls := "PairedComing$Plan", name := "makeBest", desc := "(LPairedComing$Board;)V" } : Jvm.MethodName)) := by decide +kernel
theorem tb_798 : tables_1[798]? = some (Jvm.Cond.selects "PairedComing$Plan" ({ cls := "PairedComing$Plan", name := "makeBest", desc := "(LPairedComing$Board;)V" } : Jvm.MethodName) ({ cls := "PairedComing$Plan", name := "makeBest", desc := "(LPairedComing$Board;)V" } : Jvm.MethodName)) := by decide +kernel
theorem tb_799 : tables_1[799]? = some (Jvm.Cond.code ({ cls := "PairedComing$Plan", name := "makeBest", desc := "(LPairedComing$Board;)V" } : Jvm.MethodName) prog_5_method_2_code (2 : Nat) (Option.none : Option Jvm.ClassFile.FieldType)) := by decide +kernel
theorem tb_800 : tables_1[800]? = some (Jvm.Cond.methodLink "PairedComing$Plan" (29 : Nat) ({ cls := "PairedComing$Plan", name := "make", desc := "(LPairedComing$Board;I)V" } : Jvm.MethodName)) := by decide +kernel
theorem tb_801 : tables_1[801]? = some (Jvm.Cond.instanceMethod ({ cls := "PairedComing$Plan", name := "make", desc := "(LPairedComing$Board;I)V" } : Jvm.MethodName)) := by decide +kernel
theorem tb_802 : tables_1[802]? = some (Jvm.Cond.selects "PairedComing$Plan" ({ cls := "PairedComing$Plan", name := "make", desc := "(LPairedComing$Board;I)V" } : Jvm.MethodName) ({ cls := "PairedComing$Plan", name := "make", desc := "(LPairedComing$Board;I)V" } : Jvm.MethodName)) := by decide +kernel
theorem tb_803 : tables_1[803]? = some (Jvm.Cond.code ({ cls := "PairedComing$Plan", name := "make", desc := "(LPairedComing$Board;I)V" } : Jvm.MethodName) prog_5_method_3_code (6 : Nat) (Option.none : Option Jvm.ClassFile.FieldType)) := by decide +kernel
theorem tb_804 : tables_1[804]? = some (Jvm.Cond.methodLink "PairedComing$Plan" (42 : Nat) ({ cls := "PairedComing$Rooms", name := "shape", desc := "(LPairedComing$Board;I)V" } : Jvm.MethodName)) := by decide +kernel
theorem tb_805 : tables_1[805]? = some (Jvm.Cond.instanceMethod ({ cls := "PairedComing$Rooms", name := "shape", desc := "(LPairedComing$Board;I)V" } : Jvm.MethodName)) := by decide +kernel
theorem tb_806 : tables_1[806]? = some (Jvm.Cond.selects "PairedComing$Rooms" ({ cls := "PairedComing$Rooms", name := "shape", desc := "(LPairedComing$Board;I)V" } : Jvm.MethodName) ({ cls := "PairedComing$Rooms", name := "shape", desc := "(LPairedComing$Board;I)V" } : Jvm.MethodName)) := by decide +kernel
theorem tb_807 : tables_1[807]? = some (Jvm.Cond.code ({ cls := "PairedComing$Rooms", name := "shape", desc := "(LPairedComing$Board;I)V" } : Jvm.MethodName) prog_6_method_2_code (6 : Nat) (Option.none : Option Jvm.ClassFile.FieldType)) := by decide +kernel
theorem tb_808 : tables_1[808]? = some (Jvm.Cond.methodLink "PairedComing$Rooms" (33 : Nat) ({ cls := "PairedComing$Rooms", name := "addLayer", desc := "(II)V" } : Jvm.MethodName)) := by decide +kernel
theorem tb_810 : tables_1[810]? = some (Jvm.Cond.instanceMethod ({ cls := "PairedComing$Rooms", name := "addLayer", desc := "(II)V" } : Jvm.MethodName)) := by decide +kernel
theorem tb_811 : tables_1[811]? = some (Jvm.Cond.code ({ cls := "PairedComing$Rooms", name := "addLayer", desc := "(II)V" } : Jvm.MethodName) prog_6_method_3_code (5 : Nat) (Option.none : Option Jvm.ClassFile.FieldType)) := by decide +kernel
