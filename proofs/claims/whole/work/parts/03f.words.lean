theorem tb_812 : tables_1[812]? = some (Jvm.Cond.methodLink "PairedComing$Plan" (45 : Nat) ({ cls := "PairedComing$Rooms", name := "allFree", desc := "()I" } : Jvm.MethodName)) := by decide +kernel
theorem tb_813 : tables_1[813]? = some (Jvm.Cond.instanceMethod ({ cls := "PairedComing$Rooms", name := "allFree", desc := "()I" } : Jvm.MethodName)) := by decide +kernel
theorem tb_814 : tables_1[814]? = some (Jvm.Cond.selects "PairedComing$Rooms" ({ cls := "PairedComing$Rooms", name := "allFree", desc := "()I" } : Jvm.MethodName) ({ cls := "PairedComing$Rooms", name := "allFree", desc := "()I" } : Jvm.MethodName)) := by decide +kernel
theorem tb_815 : tables_1[815]? = some (Jvm.Cond.code ({ cls := "PairedComing$Rooms", name := "allFree", desc := "()I" } : Jvm.MethodName) prog_6_method_5_code (1 : Nat) (Option.some Jvm.ClassFile.FieldType.int)) := by decide +kernel
theorem tb_816 : tables_1[816]? = some (Jvm.Cond.methodLink "PairedComing$Plan" (52 : Nat) ({ cls := "java/lang/Math", name := "min", desc := "(II)I" } : Jvm.MethodName)) := by decide +kernel
theorem tb_817 : tables_1[817]? = some (Jvm.Cond.methodLink "PairedComing$Plan" (58 : Nat) ({ cls := "PairedComing$Plan", name := "fill", desc := "(LPairedComing$Board;II)V" } : Jvm.MethodName)) := by decide +kernel
theorem tb_819 : tables_1[819]? = some (Jvm.Cond.instanceMethod ({ cls := "PairedComing$Plan", name := "fill", desc := "(LPairedComing$Board;II)V" } : Jvm.MethodName)) := by decide +kernel
theorem tb_820 : tables_1[820]? = some (Jvm.Cond.code ({ cls := "PairedComing$Plan", name := "fill", desc := "(LPairedComing$Board;II)V" } : Jvm.MethodName) prog_5_method_5_code (6 : Nat) (Option.none : Option Jvm.ClassFile.FieldType)) := by decide +kernel
theorem tb_821 : tables_1[821]? = some (Jvm.Cond.methodLink "PairedComing$Plan" (69 : Nat) ({ cls := "PairedComing$Plan", name := "greatestFrom", desc := "(LPairedComing$Board;II)I" } : Jvm.MethodName)) := by decide +kernel
theorem tb_823 : tables_1[823]? = some (Jvm.Cond.instanceMethod ({ cls := "PairedComing$Plan", name := "greatestFrom", desc := "(LPairedComing$Board;II)I" } : Jvm.MethodName)) := by decide +kernel
theorem tb_824 : tables_1[824]? = some (Jvm.Cond.code ({ cls := "PairedComing$Plan", name := "greatestFrom", desc := "(LPairedComing$Board;II)I" } : Jvm.MethodName) prog_5_method_6_code (8 : Nat) (Option.some Jvm.ClassFile.FieldType.int)) := by decide +kernel
theorem tb_825 : tables_1[825]? = some (Jvm.Cond.methodLink "PairedComing$Plan" (79 : Nat) ({ cls := "PairedComing$Rooms", name := "isOpen", desc := "(II)Z" } : Jvm.MethodName)) := by decide +kernel
theorem tb_826 : tables_1[826]? = some (Jvm.Cond.instanceMethod ({ cls := "PairedComing$Rooms", name := "isOpen", desc := "(II)Z" } : Jvm.MethodName)) := by decide +kernel
theorem tb_827 : tables_1[827]? = some (Jvm.Cond.selects "PairedComing$Rooms" ({ cls := "PairedComing$Rooms", name := "isOpen", desc := "(II)Z" } : Jvm.MethodName) ({ cls := "PairedComing$Rooms", name := "isOpen", desc := "(II)Z" } : Jvm.MethodName)) := by decide +kernel
theorem tb_828 : tables_1[828]? = some (Jvm.Cond.code ({ cls := "PairedComing$Rooms", name := "isOpen", desc := "(II)Z" } : Jvm.MethodName) prog_6_method_4_code (3 : Nat) (Option.some Jvm.ClassFile.FieldType.boolean)) := by decide +kernel
theorem tb_829 : tables_1[829]? = some (Jvm.Cond.methodLink "PairedComing$Plan" (86 : Nat) ({ cls := "java/lang/Math", name := "max", desc := "(II)I" } : Jvm.MethodName)) := by decide +kernel
theorem tb_830 : tables_1[830]? = some (Jvm.Cond.methodLink "PairedComing$Plan" (62 : Nat) ({ cls := "PairedComing$Plan", name := "pair", desc := "(LPairedComing$Board;III)I" } : Jvm.MethodName)) := by decide +kernel
theorem tb_832 : tables_1[832]? = some (Jvm.Cond.instanceMethod ({ cls := "PairedComing$Plan", name := "pair", desc := "(LPairedComing$Board;III)I" } : Jvm.MethodName)) := by decide +kernel
theorem tb_833 : tables_1[833]? = some (Jvm.Cond.code ({ cls := "PairedComing$Plan", name := "pair", desc := "(LPairedComing$Board;III)I" } : Jvm.MethodName) prog_5_method_7_code (8 : Nat) (Option.some Jvm.ClassFile.FieldType.int)) := by decide +kernel
theorem tb_834 : tables_1[834]? = some (Jvm.Cond.methodLink "PairedComing$Plan" (89 : Nat) ({ cls := "PairedComing$Plan", name := "leastPost", desc := "(LPairedComing$Board;II)I" } : Jvm.MethodName)) := by decide +kernel
theorem tb_836 : tables_1[836]? = some (Jvm.Cond.instanceMethod ({ cls := "PairedComing$Plan", name := "leastPost", desc := "(LPairedComing$Board;II)I" } : Jvm.MethodName)) := by decide +kernel
theorem tb_837 : tables_1[837]? = some (Jvm.Cond.code ({ cls := "PairedComing$Plan", name := "leastPost", desc := "(LPairedComing$Board;II)I" } : Jvm.MethodName) prog_5_method_8_code (7 : Nat) (Option.some Jvm.ClassFile.FieldType.int)) := by decide +kernel
theorem tb_838 : tables_1[838]? = some (Jvm.Cond.methodLink "PairedComingLaw" (76 : Nat) ({ cls := "PairedComing", name := "bestOf", desc := "(I)I" } : Jvm.MethodName)) := by decide +kernel
theorem tb_839 : tables_1[839]? = some (Jvm.Cond.instanceMethod ({ cls := "PairedComing", name := "bestOf", desc := "(I)I" } : Jvm.MethodName)) := by decide +kernel
theorem tb_840 : tables_1[840]? = some (Jvm.Cond.selects "PairedComing" ({ cls := "PairedComing", name := "bestOf", desc := "(I)I" } : Jvm.MethodName) ({ cls := "PairedComing", name := "bestOf", desc := "(I)I" } : Jvm.MethodName)) := by decide +kernel
theorem tb_841 : tables_1[841]? = some (Jvm.Cond.code ({ cls := "PairedComing", name := "bestOf", desc := "(I)I" } : Jvm.MethodName) prog_1_method_16_code (2 : Nat) (Option.some Jvm.ClassFile.FieldType.int)) := by decide +kernel
theorem tb_842 : tables_1[842]? = some (Jvm.Cond.methodLink "PairedComingLaw" (80 : Nat) ({ cls := "PairedComing", name := "price", desc := "(I)I" } : Jvm.MethodName)) := by decide +kernel
theorem tb_843 : tables_1[843]? = some (Jvm.Cond.instanceMethod ({ cls := "PairedComing", name := "price", desc := "(I)I" } : Jvm.MethodName)) := by decide +kernel
theorem tb_844 : tables_1[844]? = some (Jvm.Cond.selects "PairedComing" ({ cls := "PairedComing", name := "price", desc := "(I)I" } : Jvm.MethodName) ({ cls := "PairedComing", name := "price", desc := "(I)I" } : Jvm.MethodName)) := by decide +kernel
theorem tb_845 : tables_1[845]? = some (Jvm.Cond.code ({ cls := "PairedComing", name := "price", desc := "(I)I" } : Jvm.MethodName) prog_1_method_17_code (2 : Nat) (Option.some Jvm.ClassFile.FieldType.int)) := by decide +kernel
theorem tb_846 : tables_1[846]? = some (Jvm.Cond.methodLink "PairedComing" (235 : Nat) ({ cls := "PairedComing$Plan", name := "greatest", desc := "(LPairedComing$Board;I)I" } : Jvm.MethodName)) := by decide +kernel
theorem tb_847 : tables_1[847]? = some (Jvm.Cond.instanceMethod ({ cls := "PairedComing$Plan", name := "greatest", desc := "(LPairedComing$Board;I)I" } : Jvm.MethodName)) := by decide +kernel
theorem tb_848 : tables_1[848]? = some (Jvm.Cond.selects "PairedComing$Plan" ({ cls := "PairedComing$Plan", name := "greatest", desc := "(LPairedComing$Board;I)I" } : Jvm.MethodName) ({ cls := "PairedComing$Plan", name := "greatest", desc := "(LPairedComing$Board;I)I" } : Jvm.MethodName)) := by decide +kernel
theorem tb_849 : tables_1[849]? = some (Jvm.Cond.code ({ cls := "PairedComing$Plan", name := "greatest", desc := "(LPairedComing$Board;I)I" } : Jvm.MethodName) prog_5_method_4_code (3 : Nat) (Option.some Jvm.ClassFile.FieldType.int)) := by decide +kernel
theorem tb_850 : tables_1[850]? = some (Jvm.Cond.methodLink "PairedComingLaw" (84 : Nat) ({ cls := "PairedComing", name := "cover", desc := "(J)I" } : Jvm.MethodName)) := by decide +kernel
theorem tb_851 : tables_1[851]? = some (Jvm.Cond.instanceMethod ({ cls := "PairedComing", name := "cover", desc := "(J)I" } : Jvm.MethodName)) := by decide +kernel
theorem tb_852 : tables_1[852]? = some (Jvm.Cond.selects "PairedComing" ({ cls := "PairedComing", name := "cover", desc := "(J)I" } : Jvm.MethodName) ({ cls := "PairedComing", name := "cover", desc := "(J)I" } : Jvm.MethodName)) := by decide +kernel
theorem tb_853 : tables_1[853]? = some (Jvm.Cond.code ({ cls := "PairedComing", name := "cover", desc := "(J)I" } : Jvm.MethodName) prog_1_method_18_code (5 : Nat) (Option.some Jvm.ClassFile.FieldType.int)) := by decide +kernel
theorem tb_854 : tables_1[854]? = some (Jvm.Cond.methodLink "PairedComing" (239 : Nat) ({ cls := "PairedComing", name := "readPrices", desc := "(J)Z" } : Jvm.MethodName)) := by decide +kernel
theorem tb_856 : tables_1[856]? = some (Jvm.Cond.instanceMethod ({ cls := "PairedComing", name := "readPrices", desc := "(J)Z" } : Jvm.MethodName)) := by decide +kernel
theorem tb_857 : tables_1[857]? = some (Jvm.Cond.code ({ cls := "PairedComing", name := "readPrices", desc := "(J)Z" } : Jvm.MethodName) prog_1_method_43_code (6 : Nat) (Option.some Jvm.ClassFile.FieldType.boolean)) := by decide +kernel
theorem tb_858 : tables_1[858]? = some (Jvm.Cond.constantLong "PairedComing" (388 : Nat) (100 : Int64)) := by decide +kernel
theorem tb_859 : tables_1[859]? = some (Jvm.Cond.methodLink "PairedComing" (243 : Nat) ({ cls := "PairedComing$Board", name := "gainOver", desc := "(I[I)I" } : Jvm.MethodName)) := by decide +kernel
theorem tb_860 : tables_1[860]? = some (Jvm.Cond.instanceMethod ({ cls := "PairedComing$Board", name := "gainOver", desc := "(I[I)I" } : Jvm.MethodName)) := by decide +kernel
theorem tb_861 : tables_1[861]? = some (Jvm.Cond.selects "PairedComing$Board" ({ cls := "PairedComing$Board", name := "gainOver", desc := "(I[I)I" } : Jvm.MethodName) ({ cls := "PairedComing$Board", name := "gainOver", desc := "(I[I)I" } : Jvm.MethodName)) := by decide +kernel
theorem tb_862 : tables_1[862]? = some (Jvm.Cond.code ({ cls := "PairedComing$Board", name := "gainOver", desc := "(I[I)I" } : Jvm.MethodName) prog_2_method_12_code (5 : Nat) (Option.some Jvm.ClassFile.FieldType.int)) := by decide +kernel
theorem tb_863 : tables_1[863]? = some (Jvm.Cond.methodLink "PairedComing$Board" (45 : Nat) ({ cls := "java/lang/Math", name := "max", desc := "(II)I" } : Jvm.MethodName)) := by decide +kernel
theorem tb_864 : tables_1[864]? = some (Jvm.Cond.methodLink "PairedComingLaw" (88 : Nat) ({ cls := "PairedComing", name := "share", desc := "(III)I" } : Jvm.MethodName)) := by decide +kernel
theorem tb_865 : tables_1[865]? = some (Jvm.Cond.instanceMethod ({ cls := "PairedComing", name := "share", desc := "(III)I" } : Jvm.MethodName)) := by decide +kernel
theorem tb_866 : tables_1[866]? = some (Jvm.Cond.selects "PairedComing" ({ cls := "PairedComing", name := "share", desc := "(III)I" } : Jvm.MethodName) ({ cls := "PairedComing", name := "share", desc := "(III)I" } : Jvm.MethodName)) := by decide +kernel
theorem tb_867 : tables_1[867]? = some (Jvm.Cond.code ({ cls := "PairedComing", name := "share", desc := "(III)I" } : Jvm.MethodName) prog_1_method_19_code (4 : Nat) (Option.some Jvm.ClassFile.FieldType.int)) := by decide +kernel
theorem tb_868 : tables_1[868]? = some (Jvm.Cond.methodLink "PairedComingLaw" (92 : Nat) ({ cls := "PairedComing", name := "mean", desc := "(II)J" } : Jvm.MethodName)) := by decide +kernel
theorem tb_869 : tables_1[869]? = some (Jvm.Cond.instanceMethod ({ cls := "PairedComing", name := "mean", desc := "(II)J" } : Jvm.MethodName)) := by decide +kernel
theorem tb_870 : tables_1[870]? = some (Jvm.Cond.selects "PairedComing" ({ cls := "PairedComing", name := "mean", desc := "(II)J" } : Jvm.MethodName) ({ cls := "PairedComing", name := "mean", desc := "(II)J" } : Jvm.MethodName)) := by decide +kernel
theorem tb_871 : tables_1[871]? = some (Jvm.Cond.code ({ cls := "PairedComing", name := "mean", desc := "(II)J" } : Jvm.MethodName) prog_1_method_20_code (4 : Nat) (Option.some Jvm.ClassFile.FieldType.long)) := by decide +kernel
theorem tb_872 : tables_1[872]? = some (Jvm.Cond.constantLong "PairedComing" (247 : Nat) (-1 : Int64)) := by decide +kernel
theorem tb_873 : tables_1[873]? = some (Jvm.Cond.constantLong "PairedComing" (249 : Nat) (-2 : Int64)) := by decide +kernel
theorem tb_874 : tables_1[874]? = some (Jvm.Cond.methodLink "PairedComing" (251 : Nat) ({ cls := "PairedComing", name := "meanOverOrders", desc := "(LPairedComing$Rule;)LPairedComing$Mean;" } : Jvm.MethodName)) := by decide +kernel
theorem tb_876 : tables_1[876]? = some (Jvm.Cond.instanceMethod ({ cls := "PairedComing", name := "meanOverOrders", desc := "(LPairedComing$Rule;)LPairedComing$Mean;" } : Jvm.MethodName)) := by decide +kernel
theorem tb_877 : tables_1[877]? = some (Jvm.Cond.code ({ cls := "PairedComing", name := "meanOverOrders", desc := "(LPairedComing$Rule;)LPairedComing$Mean;" } : Jvm.MethodName) prog_1_method_45_code (3 : Nat) (Option.some (Jvm.ClassFile.FieldType.object "PairedComing$Mean"))) := by decide +kernel
theorem tb_878 : tables_1[878]? = some (Jvm.Cond.methodLink "PairedComing" (279 : Nat) ({ cls := "PairedComing$Mean", name := "isStale", desc := "(I)Z" } : Jvm.MethodName)) := by decide +kernel
theorem tb_879 : tables_1[879]? = some (Jvm.Cond.instanceMethod ({ cls := "PairedComing$Mean", name := "isStale", desc := "(I)Z" } : Jvm.MethodName)) := by decide +kernel
theorem tb_880 : tables_1[880]? = some (Jvm.Cond.selects "PairedComing$Mean" ({ cls := "PairedComing$Mean", name := "isStale", desc := "(I)Z" } : Jvm.MethodName) ({ cls := "PairedComing$Mean", name := "isStale", desc := "(I)Z" } : Jvm.MethodName)) := by decide +kernel
theorem tb_881 : tables_1[881]? = some (Jvm.Cond.code ({ cls := "PairedComing$Mean", name := "isStale", desc := "(I)Z" } : Jvm.MethodName) prog_4_method_2_code (2 : Nat) (Option.some Jvm.ClassFile.FieldType.boolean)) := by decide +kernel
theorem tb_882 : tables_1[882]? = some (Jvm.Cond.methodLink "PairedComing" (282 : Nat) ({ cls := "PairedComing$Mean", name := "start", desc := "(I)V" } : Jvm.MethodName)) := by decide +kernel
theorem tb_883 : tables_1[883]? = some (Jvm.Cond.instanceMethod ({ cls := "PairedComing$Mean", name := "start", desc := "(I)V" } : Jvm.MethodName)) := by decide +kernel
theorem tb_884 : tables_1[884]? = some (Jvm.Cond.selects "PairedComing$Mean" ({ cls := "PairedComing$Mean", name := "start", desc := "(I)V" } : Jvm.MethodName) ({ cls := "PairedComing$Mean", name := "start", desc := "(I)V" } : Jvm.MethodName)) := by decide +kernel
theorem tb_885 : tables_1[885]? = some (Jvm.Cond.code ({ cls := "PairedComing$Mean", name := "start", desc := "(I)V" } : Jvm.MethodName) prog_4_method_3_code (2 : Nat) (Option.none : Option Jvm.ClassFile.FieldType)) := by decide +kernel
theorem tb_886 : tables_1[886]? = some (Jvm.Cond.methodLink "PairedComing" (393 : Nat) ({ cls := "PairedComing", name := "overOrders", desc := "(LPairedComing$Standing;LPairedComing$Rule;LPairedComing$Mean;I)V" } : Jvm.MethodName)) := by decide +kernel
theorem tb_887 : tables_1[887]? = some (Jvm.Cond.static ({ cls := "PairedComing", name := "overOrders", desc := "(LPairedComing$Standing;LPairedComing$Rule;LPairedComing$Mean;I)V" } : Jvm.MethodName)) := by decide +kernel
theorem tb_888 : tables_1[888]? = some (Jvm.Cond.code ({ cls := "PairedComing", name := "overOrders", desc := "(LPairedComing$Standing;LPairedComing$Rule;LPairedComing$Mean;I)V" } : Jvm.MethodName) prog_1_method_46_code (6 : Nat) (Option.none : Option Jvm.ClassFile.FieldType)) := by decide +kernel
theorem tb_889 : tables_1[889]? = some (Jvm.Cond.methodLink "PairedComing" (397 : Nat) ({ cls := "PairedComing$Mean", name := "add", desc := "(I)V" } : Jvm.MethodName)) := by decide +kernel
theorem tb_890 : tables_1[890]? = some (Jvm.Cond.instanceMethod ({ cls := "PairedComing$Mean", name := "add", desc := "(I)V" } : Jvm.MethodName)) := by decide +kernel
theorem tb_891 : tables_1[891]? = some (Jvm.Cond.selects "PairedComing$Mean" ({ cls := "PairedComing$Mean", name := "add", desc := "(I)V" } : Jvm.MethodName) ({ cls := "PairedComing$Mean", name := "add", desc := "(I)V" } : Jvm.MethodName)) := by decide +kernel
theorem tb_892 : tables_1[892]? = some (Jvm.Cond.code ({ cls := "PairedComing$Mean", name := "add", desc := "(I)V" } : Jvm.MethodName) prog_4_method_4_code (2 : Nat) (Option.none : Option Jvm.ClassFile.FieldType)) := by decide +kernel
theorem tb_893 : tables_1[893]? = some (Jvm.Cond.methodLink "PairedComing$Mean" (26 : Nat) ({ cls := "java/lang/Math", name := "min", desc := "(II)I" } : Jvm.MethodName)) := by decide +kernel
theorem tb_894 : tables_1[894]? = some (Jvm.Cond.methodLink "PairedComing$Mean" (32 : Nat) ({ cls := "java/lang/Math", name := "max", desc := "(II)I" } : Jvm.MethodName)) := by decide +kernel
theorem tb_895 : tables_1[895]? = some (Jvm.Cond.methodLink "PairedComing" (354 : Nat) ({ cls := "PairedComing$Standing", name := "takeBack", desc := "()V" } : Jvm.MethodName)) := by decide +kernel
theorem tb_896 : tables_1[896]? = some (Jvm.Cond.instanceMethod ({ cls := "PairedComing$Standing", name := "takeBack", desc := "()V" } : Jvm.MethodName)) := by decide +kernel
theorem tb_897 : tables_1[897]? = some (Jvm.Cond.selects "PairedComing$Standing" ({ cls := "PairedComing$Standing", name := "takeBack", desc := "()V" } : Jvm.MethodName) ({ cls := "PairedComing$Standing", name := "takeBack", desc := "()V" } : Jvm.MethodName)) := by decide +kernel
theorem tb_898 : tables_1[898]? = some (Jvm.Cond.code ({ cls := "PairedComing$Standing", name := "takeBack", desc := "()V" } : Jvm.MethodName) prog_9_method_22_code (3 : Nat) (Option.none : Option Jvm.ClassFile.FieldType)) := by decide +kernel
theorem tb_899 : tables_1[899]? = some (Jvm.Cond.methodLink "PairedComing$Standing" (160 : Nat) ({ cls := "PairedComing$Standing", name := "takeBackDrop", desc := "(II)V" } : Jvm.MethodName)) := by decide +kernel
theorem tb_901 : tables_1[901]? = some (Jvm.Cond.instanceMethod ({ cls := "PairedComing$Standing", name := "takeBackDrop", desc := "(II)V" } : Jvm.MethodName)) := by decide +kernel
theorem tb_902 : tables_1[902]? = some (Jvm.Cond.code ({ cls := "PairedComing$Standing", name := "takeBackDrop", desc := "(II)V" } : Jvm.MethodName) prog_9_method_23_code (3 : Nat) (Option.none : Option Jvm.ClassFile.FieldType)) := by decide +kernel
theorem tb_903 : tables_1[903]? = some (Jvm.Cond.methodLink "PairedComing" (263 : Nat) ({ cls := "PairedComing", name := "inLowestTerms", desc := "(JJI)J" } : Jvm.MethodName)) := by decide +kernel
theorem tb_904 : tables_1[904]? = some (Jvm.Cond.static ({ cls := "PairedComing", name := "inLowestTerms", desc := "(JJI)J" } : Jvm.MethodName)) := by decide +kernel
theorem tb_905 : tables_1[905]? = some (Jvm.Cond.code ({ cls := "PairedComing", name := "inLowestTerms", desc := "(JJI)J" } : Jvm.MethodName) prog_1_method_49_code (9 : Nat) (Option.some Jvm.ClassFile.FieldType.long)) := by decide +kernel
theorem tb_906 : tables_1[906]? = some (Jvm.Cond.methodLink "PairedComing" (411 : Nat) ({ cls := "PairedComing", name := "commonDivisor", desc := "(JJ)J" } : Jvm.MethodName)) := by decide +kernel
theorem tb_907 : tables_1[907]? = some (Jvm.Cond.static ({ cls := "PairedComing", name := "commonDivisor", desc := "(JJ)J" } : Jvm.MethodName)) := by decide +kernel
theorem tb_908 : tables_1[908]? = some (Jvm.Cond.code ({ cls := "PairedComing", name := "commonDivisor", desc := "(JJ)J" } : Jvm.MethodName) prog_1_method_50_code (11 : Nat) (Option.some Jvm.ClassFile.FieldType.long)) := by decide +kernel
theorem tb_909 : tables_1[909]? = some (Jvm.Cond.methodLink "PairedComingLaw" (97 : Nat) ({ cls := "PairedComing", name := "ends", desc := "(II)I" } : Jvm.MethodName)) := by decide +kernel
theorem tb_910 : tables_1[910]? = some (Jvm.Cond.instanceMethod ({ cls := "PairedComing", name := "ends", desc := "(II)I" } : Jvm.MethodName)) := by decide +kernel
theorem tb_911 : tables_1[911]? = some (Jvm.Cond.selects "PairedComing" ({ cls := "PairedComing", name := "ends", desc := "(II)I" } : Jvm.MethodName) ({ cls := "PairedComing", name := "ends", desc := "(II)I" } : Jvm.MethodName)) := by decide +kernel
theorem tb_912 : tables_1[912]? = some (Jvm.Cond.code ({ cls := "PairedComing", name := "ends", desc := "(II)I" } : Jvm.MethodName) prog_1_method_21_code (4 : Nat) (Option.some Jvm.ClassFile.FieldType.int)) := by decide +kernel
theorem tb_913 : tables_1[913]? = some (Jvm.Cond.methodLink "PairedComingLaw" (101 : Nat) ({ cls := "PairedComing", name := "meanOfRanks", desc := "(II)J" } : Jvm.MethodName)) := by decide +kernel
theorem tb_914 : tables_1[914]? = some (Jvm.Cond.instanceMethod ({ cls := "PairedComing", name := "meanOfRanks", desc := "(II)J" } : Jvm.MethodName)) := by decide +kernel
theorem tb_915 : tables_1[915]? = some (Jvm.Cond.selects "PairedComing" ({ cls := "PairedComing", name := "meanOfRanks", desc := "(II)J" } : Jvm.MethodName) ({ cls := "PairedComing", name := "meanOfRanks", desc := "(II)J" } : Jvm.MethodName)) := by decide +kernel
theorem tb_916 : tables_1[916]? = some (Jvm.Cond.code ({ cls := "PairedComing", name := "meanOfRanks", desc := "(II)J" } : Jvm.MethodName) prog_1_method_22_code (4 : Nat) (Option.some Jvm.ClassFile.FieldType.long)) := by decide +kernel
theorem tb_917 : tables_1[917]? = some (Jvm.Cond.methodLink "PairedComing" (286 : Nat) ({ cls := "PairedComing$Board", name := "copyOf", desc := "(LPairedComing$Board;)V" } : Jvm.MethodName)) := by decide +kernel
theorem tb_918 : tables_1[918]? = some (Jvm.Cond.instanceMethod ({ cls := "PairedComing$Board", name := "copyOf", desc := "(LPairedComing$Board;)V" } : Jvm.MethodName)) := by decide +kernel
theorem tb_919 : tables_1[919]? = some (Jvm.Cond.selects "PairedComing$Board" ({ cls := "PairedComing$Board", name := "copyOf", desc := "(LPairedComing$Board;)V" } : Jvm.MethodName) ({ cls := "PairedComing$Board", name := "copyOf", desc := "(LPairedComing$Board;)V" } : Jvm.MethodName)) := by decide +kernel
theorem tb_920 : tables_1[920]? = some (Jvm.Cond.code ({ cls := "PairedComing$Board", name := "copyOf", desc := "(LPairedComing$Board;)V" } : Jvm.MethodName) prog_2_method_13_code (2 : Nat) (Option.none : Option Jvm.ClassFile.FieldType)) := by decide +kernel
theorem tb_921 : tables_1[921]? = some (Jvm.Cond.methodLink "PairedComing$Board" (50 : Nat) ({ cls := "java/lang/System", name := "arraycopy", desc := "(Ljava/lang/Object;ILjava/lang/Object;II)V" } : Jvm.MethodName)) := by decide +kernel
theorem tb_922 : tables_1[922]? = some (Jvm.Cond.static ({ cls := "java/lang/System", name := "arraycopy", desc := "(Ljava/lang/Object;ILjava/lang/Object;II)V" } : Jvm.MethodName)) := by decide +kernel
theorem tb_923 : tables_1[923]? = some (Jvm.Cond.native ({ cls := "java/lang/System", name := "arraycopy", desc := "(Ljava/lang/Object;ILjava/lang/Object;II)V" } : Jvm.MethodName)) := by decide +kernel
theorem tb_924 : tables_1[924]? = some (Jvm.Cond.methodLink "PairedComing" (289 : Nat) ({ cls := "PairedComing$Rule", name := "asksRank", desc := "()Z" } : Jvm.MethodName)) := by decide +kernel
theorem tb_925 : tables_1[925]? = some (Jvm.Cond.instanceMethod ({ cls := "PairedComing$Rule", name := "asksRank", desc := "()Z" } : Jvm.MethodName)) := by decide +kernel
theorem tb_926 : tables_1[926]? = some (Jvm.Cond.selects "PairedComing$Rule" ({ cls := "PairedComing$Rule", name := "asksRank", desc := "()Z" } : Jvm.MethodName) ({ cls := "PairedComing$Rule", name := "asksRank", desc := "()Z" } : Jvm.MethodName)) := by decide +kernel
theorem tb_927 : tables_1[927]? = some (Jvm.Cond.code ({ cls := "PairedComing$Rule", name := "asksRank", desc := "()Z" } : Jvm.MethodName) prog_7_method_4_code (2 : Nat) (Option.some Jvm.ClassFile.FieldType.boolean)) := by decide +kernel
theorem tb_928 : tables_1[928]? = some (Jvm.Cond.methodLink "PairedComing$Rule" (58 : Nat) ({ cls := "PairedComing$Rule", name := "hasKey", desc := "(I)Z" } : Jvm.MethodName)) := by decide +kernel
theorem tb_929 : tables_1[929]? = some (Jvm.Cond.methodLink "PairedComing" (293 : Nat) ({ cls := "PairedComing", name := "overRanks", desc := "(LPairedComing$Standing;LPairedComing$Rule;LPairedComing$Mean;I)V" } : Jvm.MethodName)) := by decide +kernel
theorem tb_930 : tables_1[930]? = some (Jvm.Cond.static ({ cls := "PairedComing", name := "overRanks", desc := "(LPairedComing$Standing;LPairedComing$Rule;LPairedComing$Mean;I)V" } : Jvm.MethodName)) := by decide +kernel
theorem tb_931 : tables_1[931]? = some (Jvm.Cond.code ({ cls := "PairedComing", name := "overRanks", desc := "(LPairedComing$Standing;LPairedComing$Rule;LPairedComing$Mean;I)V" } : Jvm.MethodName) prog_1_method_47_code (6 : Nat) (Option.none : Option Jvm.ClassFile.FieldType)) := by decide +kernel
theorem tb_932 : tables_1[932]? = some (Jvm.Cond.methodLink "PairedComing" (400 : Nat) ({ cls := "PairedComing$Board", name := "swapRanks", desc := "(II)V" } : Jvm.MethodName)) := by decide +kernel
theorem tb_933 : tables_1[933]? = some (Jvm.Cond.instanceMethod ({ cls := "PairedComing$Board", name := "swapRanks", desc := "(II)V" } : Jvm.MethodName)) := by decide +kernel
theorem tb_934 : tables_1[934]? = some (Jvm.Cond.selects "PairedComing$Board" ({ cls := "PairedComing$Board", name := "swapRanks", desc := "(II)V" } : Jvm.MethodName) ({ cls := "PairedComing$Board", name := "swapRanks", desc := "(II)V" } : Jvm.MethodName)) := by decide +kernel
theorem tb_935 : tables_1[935]? = some (Jvm.Cond.code ({ cls := "PairedComing$Board", name := "swapRanks", desc := "(II)V" } : Jvm.MethodName) prog_2_method_8_code (4 : Nat) (Option.none : Option Jvm.ClassFile.FieldType)) := by decide +kernel
theorem tb_936 : tables_1[936]? = some (Jvm.Cond.methodLink "PairedComingLaw" (105 : Nat) ({ cls := "PairedComing", name := "hope", desc := "(II)J" } : Jvm.MethodName)) := by decide +kernel
theorem tb_937 : tables_1[937]? = some (Jvm.Cond.instanceMethod ({ cls := "PairedComing", name := "hope", desc := "(II)J" } : Jvm.MethodName)) := by decide +kernel
theorem tb_938 : tables_1[938]? = some (Jvm.Cond.selects "PairedComing" ({ cls := "PairedComing", name := "hope", desc := "(II)J" } : Jvm.MethodName) ({ cls := "PairedComing", name := "hope", desc := "(II)J" } : Jvm.MethodName)) := by decide +kernel
theorem tb_939 : tables_1[939]? = some (Jvm.Cond.code ({ cls := "PairedComing", name := "hope", desc := "(II)J" } : Jvm.MethodName) prog_1_method_23_code (3 : Nat) (Option.some Jvm.ClassFile.FieldType.long)) := by decide +kernel
theorem tb_940 : tables_1[940]? = some (Jvm.Cond.methodLink "PairedComing" (297 : Nat) ({ cls := "PairedComing$Hopes", name := "bringUp", desc := "()V" } : Jvm.MethodName)) := by decide +kernel
theorem tb_941 : tables_1[941]? = some (Jvm.Cond.instanceMethod ({ cls := "PairedComing$Hopes", name := "bringUp", desc := "()V" } : Jvm.MethodName)) := by decide +kernel
theorem tb_942 : tables_1[942]? = some (Jvm.Cond.selects "PairedComing$Hopes" ({ cls := "PairedComing$Hopes", name := "bringUp", desc := "()V" } : Jvm.MethodName) ({ cls := "PairedComing$Hopes", name := "bringUp", desc := "()V" } : Jvm.MethodName)) := by decide +kernel
theorem tb_943 : tables_1[943]? = some (Jvm.Cond.code ({ cls := "PairedComing$Hopes", name := "bringUp", desc := "()V" } : Jvm.MethodName) prog_3_method_2_code (2 : Nat) (Option.none : Option Jvm.ClassFile.FieldType)) := by decide +kernel
theorem tb_944 : tables_1[944]? = some (Jvm.Cond.methodLink "PairedComing$Hopes" (36 : Nat) ({ cls := "PairedComing$Rooms", name := "shape", desc := "(LPairedComing$Board;I)V" } : Jvm.MethodName)) := by decide +kernel
theorem tb_945 : tables_1[945]? = some (Jvm.Cond.methodLink "PairedComing$Hopes" (50 : Nat) ({ cls := "PairedComing$Hopes", name := "fill", desc := "(I)V" } : Jvm.MethodName)) := by decide +kernel
theorem tb_947 : tables_1[947]? = some (Jvm.Cond.instanceMethod ({ cls := "PairedComing$Hopes", name := "fill", desc := "(I)V" } : Jvm.MethodName)) := by decide +kernel
theorem tb_948 : tables_1[948]? = some (Jvm.Cond.code ({ cls := "PairedComing$Hopes", name := "fill", desc := "(I)V" } : Jvm.MethodName) prog_3_method_3_code (7 : Nat) (Option.none : Option Jvm.ClassFile.FieldType)) := by decide +kernel
theorem tb_949 : tables_1[949]? = some (Jvm.Cond.methodLink "PairedComing$Hopes" (57 : Nat) ({ cls := "PairedComing$Rooms", name := "allFree", desc := "()I" } : Jvm.MethodName)) := by decide +kernel
theorem tb_950 : tables_1[950]? = some (Jvm.Cond.methodLink "PairedComing$Hopes" (64 : Nat) ({ cls := "PairedComing$Hopes", name := "greatestFor", desc := "(III)J" } : Jvm.MethodName)) := by decide +kernel
theorem tb_952 : tables_1[952]? = some (Jvm.Cond.instanceMethod ({ cls := "PairedComing$Hopes", name := "greatestFor", desc := "(III)J" } : Jvm.MethodName)) := by decide +kernel
theorem tb_953 : tables_1[953]? = some (Jvm.Cond.code ({ cls := "PairedComing$Hopes", name := "greatestFor", desc := "(III)J" } : Jvm.MethodName) prog_3_method_4_code (7 : Nat) (Option.some Jvm.ClassFile.FieldType.long)) := by decide +kernel
theorem tb_954 : tables_1[954]? = some (Jvm.Cond.methodLink "PairedComing$Hopes" (71 : Nat) ({ cls := "PairedComing$Board", name := "worthAt", desc := "(II)I" } : Jvm.MethodName)) := by decide +kernel
theorem tb_955 : tables_1[955]? = some (Jvm.Cond.methodLink "PairedComing$Hopes" (75 : Nat) ({ cls := "PairedComing$Rooms", name := "isOpen", desc := "(II)Z" } : Jvm.MethodName)) := by decide +kernel
theorem tb_956 : tables_1[956]? = some (Jvm.Cond.methodLink "PairedComing$Hopes" (79 : Nat) ({ cls := "PairedComing$Hopes", name := "byPost", desc := "(IIII)J" } : Jvm.MethodName)) := by decide +kernel
theorem tb_958 : tables_1[958]? = some (Jvm.Cond.instanceMethod ({ cls := "PairedComing$Hopes", name := "byPost", desc := "(IIII)J" } : Jvm.MethodName)) := by decide +kernel
theorem tb_959 : tables_1[959]? = some (Jvm.Cond.code ({ cls := "PairedComing$Hopes", name := "byPost", desc := "(IIII)J" } : Jvm.MethodName) prog_3_method_5_code (5 : Nat) (Option.some Jvm.ClassFile.FieldType.long)) := by decide +kernel
theorem tb_960 : tables_1[960]? = some (Jvm.Cond.methodLink "PairedComing$Hopes" (83 : Nat) ({ cls := "java/lang/Math", name := "max", desc := "(JJ)J" } : Jvm.MethodName)) := by decide +kernel
theorem tb_961 : tables_1[961]? = some (Jvm.Cond.static ({ cls := "java/lang/Math", name := "max", desc := "(JJ)J" } : Jvm.MethodName)) := by decide +kernel
theorem tb_962 : tables_1[962]? = some (Jvm.Cond.code ({ cls := "java/lang/Math", name := "max", desc := "(JJ)J" } : Jvm.MethodName) prog_15_method_66_code (4 : Nat) (Option.some Jvm.ClassFile.FieldType.long)) := by decide +kernel
theorem tb_963 : tables_1[963]? = some (Jvm.Cond.methodLink "PairedComing" (303 : Nat) ({ cls := "PairedComing$Hopes", name := "atStart", desc := "(I)J" } : Jvm.MethodName)) := by decide +kernel
theorem tb_964 : tables_1[964]? = some (Jvm.Cond.instanceMethod ({ cls := "PairedComing$Hopes", name := "atStart", desc := "(I)J" } : Jvm.MethodName)) := by decide +kernel
theorem tb_965 : tables_1[965]? = some (Jvm.Cond.selects "PairedComing$Hopes" ({ cls := "PairedComing$Hopes", name := "atStart", desc := "(I)J" } : Jvm.MethodName) ({ cls := "PairedComing$Hopes", name := "atStart", desc := "(I)J" } : Jvm.MethodName)) := by decide +kernel
theorem tb_966 : tables_1[966]? = some (Jvm.Cond.code ({ cls := "PairedComing$Hopes", name := "atStart", desc := "(I)J" } : Jvm.MethodName) prog_3_method_6_code (2 : Nat) (Option.some Jvm.ClassFile.FieldType.long)) := by decide +kernel
theorem tb_967 : tables_1[967]? = some (Jvm.Cond.methodLink "PairedComingLaw" (109 : Nat) ({ cls := "PairedComing", name := "hopeFor", desc := "(II)I" } : Jvm.MethodName)) := by decide +kernel
theorem tb_968 : tables_1[968]? = some (Jvm.Cond.instanceMethod ({ cls := "PairedComing", name := "hopeFor", desc := "(II)I" } : Jvm.MethodName)) := by decide +kernel
theorem tb_969 : tables_1[969]? = some (Jvm.Cond.selects "PairedComing" ({ cls := "PairedComing", name := "hopeFor", desc := "(II)I" } : Jvm.MethodName) ({ cls := "PairedComing", name := "hopeFor", desc := "(II)I" } : Jvm.MethodName)) := by decide +kernel
theorem tb_970 : tables_1[970]? = some (Jvm.Cond.code ({ cls := "PairedComing", name := "hopeFor", desc := "(II)I" } : Jvm.MethodName) prog_1_method_24_code (3 : Nat) (Option.some Jvm.ClassFile.FieldType.int)) := by decide +kernel
theorem tb_971 : tables_1[971]? = some (Jvm.Cond.methodLink "PairedComing" (311 : Nat) ({ cls := "PairedComing$Hopes", name := "firstPost", desc := "(II)I" } : Jvm.MethodName)) := by decide +kernel
theorem tb_972 : tables_1[972]? = some (Jvm.Cond.instanceMethod ({ cls := "PairedComing$Hopes", name := "firstPost", desc := "(II)I" } : Jvm.MethodName)) := by decide +kernel
theorem tb_973 : tables_1[973]? = some (Jvm.Cond.selects "PairedComing$Hopes" ({ cls := "PairedComing$Hopes", name := "firstPost", desc := "(II)I" } : Jvm.MethodName) ({ cls := "PairedComing$Hopes", name := "firstPost", desc := "(II)I" } : Jvm.MethodName)) := by decide +kernel
theorem tb_974 : tables_1[974]? = some (Jvm.Cond.code ({ cls := "PairedComing$Hopes", name := "firstPost", desc := "(II)I" } : Jvm.MethodName) prog_3_method_7_code (7 : Nat) (Option.some Jvm.ClassFile.FieldType.int)) := by decide +kernel
theorem tb_975 : tables_1[975]? = some (Jvm.Cond.methodLink "PairedComingLaw" (113 : Nat) ({ cls := "PairedComing", name := "batch", desc := "(II)I" } : Jvm.MethodName)) := by decide +kernel
theorem tb_976 : tables_1[976]? = some (Jvm.Cond.instanceMethod ({ cls := "PairedComing", name := "batch", desc := "(II)I" } : Jvm.MethodName)) := by decide +kernel
theorem tb_977 : tables_1[977]? = some (Jvm.Cond.selects "PairedComing" ({ cls := "PairedComing", name := "batch", desc := "(II)I" } : Jvm.MethodName) ({ cls := "PairedComing", name := "batch", desc := "(II)I" } : Jvm.MethodName)) := by decide +kernel
theorem tb_978 : tables_1[978]? = some (Jvm.Cond.code ({ cls := "PairedComing", name := "batch", desc := "(II)I" } : Jvm.MethodName) prog_1_method_25_code (3 : Nat) (Option.some Jvm.ClassFile.FieldType.int)) := by decide +kernel
theorem tb_979 : tables_1[979]? = some (Jvm.Cond.methodLink "PairedComing" (314 : Nat) ({ cls := "PairedComing$Plan", name := "make", desc := "(LPairedComing$Board;I)V" } : Jvm.MethodName)) := by decide +kernel
theorem tb_980 : tables_1[980]? = some (Jvm.Cond.methodLink "PairedComingLaw" (117 : Nat) ({ cls := "PairedComing", name := "worst", desc := "(III)I" } : Jvm.MethodName)) := by decide +kernel
theorem tb_981 : tables_1[981]? = some (Jvm.Cond.instanceMethod ({ cls := "PairedComing", name := "worst", desc := "(III)I" } : Jvm.MethodName)) := by decide +kernel
theorem tb_982 : tables_1[982]? = some (Jvm.Cond.selects "PairedComing" ({ cls := "PairedComing", name := "worst", desc := "(III)I" } : Jvm.MethodName) ({ cls := "PairedComing", name := "worst", desc := "(III)I" } : Jvm.MethodName)) := by decide +kernel
theorem tb_983 : tables_1[983]? = some (Jvm.Cond.code ({ cls := "PairedComing", name := "worst", desc := "(III)I" } : Jvm.MethodName) prog_1_method_26_code (5 : Nat) (Option.some Jvm.ClassFile.FieldType.int)) := by decide +kernel
theorem tb_984 : tables_1[984]? = some (Jvm.Cond.methodLink "PairedComing" (322 : Nat) ({ cls := "PairedComing$Worst", name := "isKnown", desc := "()Z" } : Jvm.MethodName)) := by decide +kernel
theorem tb_985 : tables_1[985]? = some (Jvm.Cond.instanceMethod ({ cls := "PairedComing$Worst", name := "isKnown", desc := "()Z" } : Jvm.MethodName)) := by decide +kernel
theorem tb_986 : tables_1[986]? = some (Jvm.Cond.selects "PairedComing$Worst" ({ cls := "PairedComing$Worst", name := "isKnown", desc := "()Z" } : Jvm.MethodName) ({ cls := "PairedComing$Worst", name := "isKnown", desc := "()Z" } : Jvm.MethodName)) := by decide +kernel
theorem tb_987 : tables_1[987]? = some (Jvm.Cond.code ({ cls := "PairedComing$Worst", name := "isKnown", desc := "()Z" } : Jvm.MethodName) prog_11_method_2_code (1 : Nat) (Option.some Jvm.ClassFile.FieldType.boolean)) := by decide +kernel
theorem tb_988 : tables_1[988]? = some (Jvm.Cond.methodLink "PairedComing" (327 : Nat) ({ cls := "PairedComing", name := "searchNets", desc := "(LPairedComing$Rule;ILPairedComing$Worst;)V" } : Jvm.MethodName)) := by decide +kernel
theorem tb_990 : tables_1[990]? = some (Jvm.Cond.instanceMethod ({ cls := "PairedComing", name := "searchNets", desc := "(LPairedComing$Rule;ILPairedComing$Worst;)V" } : Jvm.MethodName)) := by decide +kernel
theorem tb_991 : tables_1[991]? = some (Jvm.Cond.code ({ cls := "PairedComing", name := "searchNets", desc := "(LPairedComing$Rule;ILPairedComing$Worst;)V" } : Jvm.MethodName) prog_1_method_48_code (6 : Nat) (Option.none : Option Jvm.ClassFile.FieldType)) := by decide +kernel
theorem tb_992 : tables_1[992]? = some (Jvm.Cond.methodLink "PairedComing" (403 : Nat) ({ cls := "PairedComing$Board", name := "becomeSquare", desc := "(I)V" } : Jvm.MethodName)) := by decide +kernel
theorem tb_993 : tables_1[993]? = some (Jvm.Cond.instanceMethod ({ cls := "PairedComing$Board", name := "becomeSquare", desc := "(I)V" } : Jvm.MethodName)) := by decide +kernel
theorem tb_994 : tables_1[994]? = some (Jvm.Cond.selects "PairedComing$Board" ({ cls := "PairedComing$Board", name := "becomeSquare", desc := "(I)V" } : Jvm.MethodName) ({ cls := "PairedComing$Board", name := "becomeSquare", desc := "(I)V" } : Jvm.MethodName)) := by decide +kernel
theorem tb_995 : tables_1[995]? = some (Jvm.Cond.code ({ cls := "PairedComing$Board", name := "becomeSquare", desc := "(I)V" } : Jvm.MethodName) prog_2_method_14_code (3 : Nat) (Option.none : Option Jvm.ClassFile.FieldType)) := by decide +kernel
theorem tb_996 : tables_1[996]? = some (Jvm.Cond.methodLink "PairedComing" (406 : Nat) ({ cls := "PairedComing$Board", name := "linkByBits", desc := "(I)V" } : Jvm.MethodName)) := by decide +kernel
theorem tb_997 : tables_1[997]? = some (Jvm.Cond.instanceMethod ({ cls := "PairedComing$Board", name := "linkByBits", desc := "(I)V" } : Jvm.MethodName)) := by decide +kernel
theorem tb_998 : tables_1[998]? = some (Jvm.Cond.selects "PairedComing$Board" ({ cls := "PairedComing$Board", name := "linkByBits", desc := "(I)V" } : Jvm.MethodName) ({ cls := "PairedComing$Board", name := "linkByBits", desc := "(I)V" } : Jvm.MethodName)) := by decide +kernel
theorem tb_999 : tables_1[999]? = some (Jvm.Cond.code ({ cls := "PairedComing$Board", name := "linkByBits", desc := "(I)V" } : Jvm.MethodName) prog_2_method_15_code (5 : Nat) (Option.none : Option Jvm.ClassFile.FieldType)) := by decide +kernel
theorem tb_1000 : tables_1[1000]? = some (Jvm.Cond.methodLink "PairedComing" (409 : Nat) ({ cls := "PairedComing$Worst", name := "add", desc := "(III)V" } : Jvm.MethodName)) := by decide +kernel
theorem tb_1001 : tables_1[1001]? = some (Jvm.Cond.instanceMethod ({ cls := "PairedComing$Worst", name := "add", desc := "(III)V" } : Jvm.MethodName)) := by decide +kernel
theorem tb_1002 : tables_1[1002]? = some (Jvm.Cond.selects "PairedComing$Worst" ({ cls := "PairedComing$Worst", name := "add", desc := "(III)V" } : Jvm.MethodName) ({ cls := "PairedComing$Worst", name := "add", desc := "(III)V" } : Jvm.MethodName)) := by decide +kernel
theorem tb_1003 : tables_1[1003]? = some (Jvm.Cond.code ({ cls := "PairedComing$Worst", name := "add", desc := "(III)V" } : Jvm.MethodName) prog_11_method_3_code (4 : Nat) (Option.none : Option Jvm.ClassFile.FieldType)) := by decide +kernel
theorem tb_1004 : tables_1[1004]? = some (Jvm.Cond.methodLink "PairedComingLaw" (121 : Nat) ({ cls := "PairedComing", name := "come", desc := "(II)I" } : Jvm.MethodName)) := by decide +kernel
theorem tb_1005 : tables_1[1005]? = some (Jvm.Cond.instanceMethod ({ cls := "PairedComing", name := "come", desc := "(II)I" } : Jvm.MethodName)) := by decide +kernel
theorem tb_1006 : tables_1[1006]? = some (Jvm.Cond.selects "PairedComing" ({ cls := "PairedComing", name := "come", desc := "(II)I" } : Jvm.MethodName) ({ cls := "PairedComing", name := "come", desc := "(II)I" } : Jvm.MethodName)) := by decide +kernel
theorem tb_1007 : tables_1[1007]? = some (Jvm.Cond.code ({ cls := "PairedComing", name := "come", desc := "(II)I" } : Jvm.MethodName) prog_1_method_27_code (3 : Nat) (Option.some Jvm.ClassFile.FieldType.int)) := by decide +kernel
theorem tb_1008 : tables_1[1008]? = some (Jvm.Cond.methodLink "PairedComingLaw" (125 : Nat) ({ cls := "PairedComing", name := "let", desc := "(II)I" } : Jvm.MethodName)) := by decide +kernel
theorem tb_1009 : tables_1[1009]? = some (Jvm.Cond.instanceMethod ({ cls := "PairedComing", name := "let", desc := "(II)I" } : Jvm.MethodName)) := by decide +kernel
theorem tb_1010 : tables_1[1010]? = some (Jvm.Cond.selects "PairedComing" ({ cls := "PairedComing", name := "let", desc := "(II)I" } : Jvm.MethodName) ({ cls := "PairedComing", name := "let", desc := "(II)I" } : Jvm.MethodName)) := by decide +kernel
theorem tb_1011 : tables_1[1011]? = some (Jvm.Cond.code ({ cls := "PairedComing", name := "let", desc := "(II)I" } : Jvm.MethodName) prog_1_method_28_code (3 : Nat) (Option.some Jvm.ClassFile.FieldType.int)) := by decide +kernel
theorem tb_1012 : tables_1[1012]? = some (Jvm.Cond.methodLink "PairedComing" (342 : Nat) ({ cls := "PairedComing$Standing", name := "canTake", desc := "(II)Z" } : Jvm.MethodName)) := by decide +kernel
theorem tb_1013 : tables_1[1013]? = some (Jvm.Cond.methodLink "PairedComing" (345 : Nat) ({ cls := "PairedComing$Standing", name := "enter", desc := "(II)I" } : Jvm.MethodName)) := by decide +kernel
theorem tb_1014 : tables_1[1014]? = some (Jvm.Cond.methodLink "PairedComingLaw" (129 : Nat) ({ cls := "PairedComing", name := "leave", desc := "(I)I" } : Jvm.MethodName)) := by decide +kernel
theorem tb_1015 : tables_1[1015]? = some (Jvm.Cond.instanceMethod ({ cls := "PairedComing", name := "leave", desc := "(I)I" } : Jvm.MethodName)) := by decide +kernel
theorem tb_1016 : tables_1[1016]? = some (Jvm.Cond.selects "PairedComing" ({ cls := "PairedComing", name := "leave", desc := "(I)I" } : Jvm.MethodName) ({ cls := "PairedComing", name := "leave", desc := "(I)I" } : Jvm.MethodName)) := by decide +kernel
theorem tb_1017 : tables_1[1017]? = some (Jvm.Cond.code ({ cls := "PairedComing", name := "leave", desc := "(I)I" } : Jvm.MethodName) prog_1_method_29_code (2 : Nat) (Option.some Jvm.ClassFile.FieldType.int)) := by decide +kernel
theorem tb_1018 : tables_1[1018]? = some (Jvm.Cond.methodLink "PairedComing" (348 : Nat) ({ cls := "PairedComing$Standing", name := "goAway", desc := "(I)I" } : Jvm.MethodName)) := by decide +kernel
theorem tb_1019 : tables_1[1019]? = some (Jvm.Cond.instanceMethod ({ cls := "PairedComing$Standing", name := "goAway", desc := "(I)I" } : Jvm.MethodName)) := by decide +kernel
theorem tb_1020 : tables_1[1020]? = some (Jvm.Cond.selects "PairedComing$Standing" ({ cls := "PairedComing$Standing", name := "goAway", desc := "(I)I" } : Jvm.MethodName) ({ cls := "PairedComing$Standing", name := "goAway", desc := "(I)I" } : Jvm.MethodName)) := by decide +kernel
theorem tb_1021 : tables_1[1021]? = some (Jvm.Cond.code ({ cls := "PairedComing$Standing", name := "goAway", desc := "(I)I" } : Jvm.MethodName) prog_9_method_20_code (3 : Nat) (Option.some Jvm.ClassFile.FieldType.int)) := by decide +kernel
theorem tb_1022 : tables_1[1022]? = some (Jvm.Cond.methodLink "PairedComingLaw" (133 : Nat) ({ cls := "PairedComing", name := "undo", desc := "()I" } : Jvm.MethodName)) := by decide +kernel
theorem tb_1023 : tables_1[1023]? = some (Jvm.Cond.instanceMethod ({ cls := "PairedComing", name := "undo", desc := "()I" } : Jvm.MethodName)) := by decide +kernel
theorem tb_1024 : tables_1[1024]? = some (Jvm.Cond.selects "PairedComing" ({ cls := "PairedComing", name := "undo", desc := "()I" } : Jvm.MethodName) ({ cls := "PairedComing", name := "undo", desc := "()I" } : Jvm.MethodName)) := by decide +kernel
theorem tb_1025 : tables_1[1025]? = some (Jvm.Cond.code ({ cls := "PairedComing", name := "undo", desc := "()I" } : Jvm.MethodName) prog_1_method_30_code (1 : Nat) (Option.some Jvm.ClassFile.FieldType.int)) := by decide +kernel
theorem tb_1026 : tables_1[1026]? = some (Jvm.Cond.methodLink "PairedComingLaw" (137 : Nat) ({ cls := "PairedComing", name := "market", desc := "(I)I" } : Jvm.MethodName)) := by decide +kernel
theorem tb_1027 : tables_1[1027]? = some (Jvm.Cond.instanceMethod ({ cls := "PairedComing", name := "market", desc := "(I)I" } : Jvm.MethodName)) := by decide +kernel
theorem tb_1028 : tables_1[1028]? = some (Jvm.Cond.selects "PairedComing" ({ cls := "PairedComing", name := "market", desc := "(I)I" } : Jvm.MethodName) ({ cls := "PairedComing", name := "market", desc := "(I)I" } : Jvm.MethodName)) := by decide +kernel
theorem tb_1029 : tables_1[1029]? = some (Jvm.Cond.code ({ cls := "PairedComing", name := "market", desc := "(I)I" } : Jvm.MethodName) prog_1_method_31_code (2 : Nat) (Option.some Jvm.ClassFile.FieldType.int)) := by decide +kernel
theorem tb_1030 : tables_1[1030]? = some (Jvm.Cond.methodLink "PairedComingLaw" (141 : Nat) ({ cls := "PairedComing", name := "sheet", desc := "(III)I" } : Jvm.MethodName)) := by decide +kernel
theorem tb_1031 : tables_1[1031]? = some (Jvm.Cond.instanceMethod ({ cls := "PairedComing", name := "sheet", desc := "(III)I" } : Jvm.MethodName)) := by decide +kernel
theorem tb_1032 : tables_1[1032]? = some (Jvm.Cond.selects "PairedComing" ({ cls := "PairedComing", name := "sheet", desc := "(III)I" } : Jvm.MethodName) ({ cls := "PairedComing", name := "sheet", desc := "(III)I" } : Jvm.MethodName)) := by decide +kernel
theorem tb_1033 : tables_1[1033]? = some (Jvm.Cond.code ({ cls := "PairedComing", name := "sheet", desc := "(III)I" } : Jvm.MethodName) prog_1_method_32_code (4 : Nat) (Option.some Jvm.ClassFile.FieldType.int)) := by decide +kernel
theorem tb_1034 : tables_1[1034]? = some (Jvm.Cond.methodLink "PairedComing" (357 : Nat) ({ cls := "PairedComing", name := "isSheet", desc := "(I)Z" } : Jvm.MethodName)) := by decide +kernel
theorem tb_1035 : tables_1[1035]? = some (Jvm.Cond.static ({ cls := "PairedComing", name := "isSheet", desc := "(I)Z" } : Jvm.MethodName)) := by decide +kernel
theorem tb_1036 : tables_1[1036]? = some (Jvm.Cond.code ({ cls := "PairedComing", name := "isSheet", desc := "(I)Z" } : Jvm.MethodName) prog_1_method_41_code (1 : Nat) (Option.some Jvm.ClassFile.FieldType.boolean)) := by decide +kernel
theorem tb_1037 : tables_1[1037]? = some (Jvm.Cond.methodLink "PairedComing" (360 : Nat) ({ cls := "PairedComing$Sheet", name := "renew", desc := "(II)V" } : Jvm.MethodName)) := by decide +kernel
theorem tb_1038 : tables_1[1038]? = some (Jvm.Cond.instanceMethod ({ cls := "PairedComing$Sheet", name := "renew", desc := "(II)V" } : Jvm.MethodName)) := by decide +kernel
theorem tb_1039 : tables_1[1039]? = some (Jvm.Cond.selects "PairedComing$Sheet" ({ cls := "PairedComing$Sheet", name := "renew", desc := "(II)V" } : Jvm.MethodName) ({ cls := "PairedComing$Sheet", name := "renew", desc := "(II)V" } : Jvm.MethodName)) := by decide +kernel
theorem tb_1040 : tables_1[1040]? = some (Jvm.Cond.code ({ cls := "PairedComing$Sheet", name := "renew", desc := "(II)V" } : Jvm.MethodName) prog_8_method_4_code (3 : Nat) (Option.none : Option Jvm.ClassFile.FieldType)) := by decide +kernel
theorem tb_1041 : tables_1[1041]? = some (Jvm.Cond.methodLink "PairedComing$Sheet" (22 : Nat) ({ cls := "java/util/Arrays", name := "fill", desc := "([II)V" } : Jvm.MethodName)) := by decide +kernel
theorem tb_1042 : tables_1[1042]? = some (Jvm.Cond.methodLink "PairedComingLaw" (145 : Nat) ({ cls := "PairedComing", name := "lay", desc := "(III)I" } : Jvm.MethodName)) := by decide +kernel
theorem tb_1043 : tables_1[1043]? = some (Jvm.Cond.instanceMethod ({ cls := "PairedComing", name := "lay", desc := "(III)I" } : Jvm.MethodName)) := by decide +kernel
theorem tb_1044 : tables_1[1044]? = some (Jvm.Cond.selects "PairedComing" ({ cls := "PairedComing", name := "lay", desc := "(III)I" } : Jvm.MethodName) ({ cls := "PairedComing", name := "lay", desc := "(III)I" } : Jvm.MethodName)) := by decide +kernel
theorem tb_1045 : tables_1[1045]? = some (Jvm.Cond.code ({ cls := "PairedComing", name := "lay", desc := "(III)I" } : Jvm.MethodName) prog_1_method_33_code (5 : Nat) (Option.some Jvm.ClassFile.FieldType.int)) := by decide +kernel
theorem tb_1046 : tables_1[1046]? = some (Jvm.Cond.methodLink "PairedComing" (363 : Nat) ({ cls := "PairedComing$Sheet", name := "isNothing", desc := "()Z" } : Jvm.MethodName)) := by decide +kernel
theorem tb_1047 : tables_1[1047]? = some (Jvm.Cond.instanceMethod ({ cls := "PairedComing$Sheet", name := "isNothing", desc := "()Z" } : Jvm.MethodName)) := by decide +kernel
theorem tb_1048 : tables_1[1048]? = some (Jvm.Cond.selects "PairedComing$Sheet" ({ cls := "PairedComing$Sheet", name := "isNothing", desc := "()Z" } : Jvm.MethodName) ({ cls := "PairedComing$Sheet", name := "isNothing", desc := "()Z" } : Jvm.MethodName)) := by decide +kernel
theorem tb_1049 : tables_1[1049]? = some (Jvm.Cond.code ({ cls := "PairedComing$Sheet", name := "isNothing", desc := "()Z" } : Jvm.MethodName) prog_8_method_2_code (1 : Nat) (Option.some Jvm.ClassFile.FieldType.boolean)) := by decide +kernel
theorem tb_1050 : tables_1[1050]? = some (Jvm.Cond.methodLink "PairedComing" (366 : Nat) ({ cls := "PairedComing$Sheet", name := "hasCell", desc := "(I)Z" } : Jvm.MethodName)) := by decide +kernel
theorem tb_1051 : tables_1[1051]? = some (Jvm.Cond.instanceMethod ({ cls := "PairedComing$Sheet", name := "hasCell", desc := "(I)Z" } : Jvm.MethodName)) := by decide +kernel
theorem tb_1052 : tables_1[1052]? = some (Jvm.Cond.selects "PairedComing$Sheet" ({ cls := "PairedComing$Sheet", name := "hasCell", desc := "(I)Z" } : Jvm.MethodName) ({ cls := "PairedComing$Sheet", name := "hasCell", desc := "(I)Z" } : Jvm.MethodName)) := by decide +kernel
theorem tb_1053 : tables_1[1053]? = some (Jvm.Cond.code ({ cls := "PairedComing$Sheet", name := "hasCell", desc := "(I)Z" } : Jvm.MethodName) prog_8_method_3_code (2 : Nat) (Option.some Jvm.ClassFile.FieldType.boolean)) := by decide +kernel
theorem tb_1054 : tables_1[1054]? = some (Jvm.Cond.methodLink "PairedComing" (369 : Nat) ({ cls := "PairedComing$Sheet", name := "put", desc := "(II)V" } : Jvm.MethodName)) := by decide +kernel
theorem tb_1055 : tables_1[1055]? = some (Jvm.Cond.instanceMethod ({ cls := "PairedComing$Sheet", name := "put", desc := "(II)V" } : Jvm.MethodName)) := by decide +kernel
theorem tb_1056 : tables_1[1056]? = some (Jvm.Cond.selects "PairedComing$Sheet" ({ cls := "PairedComing$Sheet", name := "put", desc := "(II)V" } : Jvm.MethodName) ({ cls := "PairedComing$Sheet", name := "put", desc := "(II)V" } : Jvm.MethodName)) := by decide +kernel
theorem tb_1057 : tables_1[1057]? = some (Jvm.Cond.code ({ cls := "PairedComing$Sheet", name := "put", desc := "(II)V" } : Jvm.MethodName) prog_8_method_5_code (3 : Nat) (Option.none : Option Jvm.ClassFile.FieldType)) := by decide +kernel
theorem tb_1058 : tables_1[1058]? = some (Jvm.Cond.methodLink "PairedComingLaw" (149 : Nat) ({ cls := "PairedComing", name := "net", desc := "(III)I" } : Jvm.MethodName)) := by decide +kernel
theorem tb_1059 : tables_1[1059]? = some (Jvm.Cond.instanceMethod ({ cls := "PairedComing", name := "net", desc := "(III)I" } : Jvm.MethodName)) := by decide +kernel
theorem tb_1060 : tables_1[1060]? = some (Jvm.Cond.selects "PairedComing" ({ cls := "PairedComing", name := "net", desc := "(III)I" } : Jvm.MethodName) ({ cls := "PairedComing", name := "net", desc := "(III)I" } : Jvm.MethodName)) := by decide +kernel
theorem tb_1061 : tables_1[1061]? = some (Jvm.Cond.code ({ cls := "PairedComing", name := "net", desc := "(III)I" } : Jvm.MethodName) prog_1_method_34_code (7 : Nat) (Option.some Jvm.ClassFile.FieldType.int)) := by decide +kernel
theorem tb_1062 : tables_1[1062]? = some (Jvm.Cond.methodLink "PairedComing" (378 : Nat) ({ cls := "PairedComing", name := "readWorths", desc := "(LPairedComing$Sheet;I)I" } : Jvm.MethodName)) := by decide +kernel
theorem tb_1064 : tables_1[1064]? = some (Jvm.Cond.instanceMethod ({ cls := "PairedComing", name := "readWorths", desc := "(LPairedComing$Sheet;I)I" } : Jvm.MethodName)) := by decide +kernel
theorem tb_1065 : tables_1[1065]? = some (Jvm.Cond.code ({ cls := "PairedComing", name := "readWorths", desc := "(LPairedComing$Sheet;I)I" } : Jvm.MethodName) prog_1_method_44_code (7 : Nat) (Option.some Jvm.ClassFile.FieldType.int)) := by decide +kernel
theorem tb_1066 : tables_1[1066]? = some (Jvm.Cond.methodLink "PairedComingLaw" (153 : Nat) ({ cls := "PairedComing", name := "count", desc := "(I)I" } : Jvm.MethodName)) := by decide +kernel
theorem tb_1067 : tables_1[1067]? = some (Jvm.Cond.instanceMethod ({ cls := "PairedComing", name := "count", desc := "(I)I" } : Jvm.MethodName)) := by decide +kernel
theorem tb_1068 : tables_1[1068]? = some (Jvm.Cond.selects "PairedComing" ({ cls := "PairedComing", name := "count", desc := "(I)I" } : Jvm.MethodName) ({ cls := "PairedComing", name := "count", desc := "(I)I" } : Jvm.MethodName)) := by decide +kernel
theorem tb_1069 : tables_1[1069]? = some (Jvm.Cond.code ({ cls := "PairedComing", name := "count", desc := "(I)I" } : Jvm.MethodName) prog_1_method_35_code (2 : Nat) (Option.some Jvm.ClassFile.FieldType.int)) := by decide +kernel
theorem tb_1070 : tables_1[1070]? = some (Jvm.Cond.methodLink "PairedComing" (382 : Nat) ({ cls := "PairedComing$Board", name := "allLinks", desc := "()I" } : Jvm.MethodName)) := by decide +kernel
theorem tb_1071 : tables_1[1071]? = some (Jvm.Cond.instanceMethod ({ cls := "PairedComing$Board", name := "allLinks", desc := "()I" } : Jvm.MethodName)) := by decide +kernel
theorem tb_1072 : tables_1[1072]? = some (Jvm.Cond.selects "PairedComing$Board" ({ cls := "PairedComing$Board", name := "allLinks", desc := "()I" } : Jvm.MethodName) ({ cls := "PairedComing$Board", name := "allLinks", desc := "()I" } : Jvm.MethodName)) := by decide +kernel
theorem tb_1073 : tables_1[1073]? = some (Jvm.Cond.code ({ cls := "PairedComing$Board", name := "allLinks", desc := "()I" } : Jvm.MethodName) prog_2_method_11_code (3 : Nat) (Option.some Jvm.ClassFile.FieldType.int)) := by decide +kernel
theorem tb_1074 : tables_1[1074]? = some (Jvm.Cond.methodLink "PairedComing$Board" (41 : Nat) ({ cls := "PairedComing$Board", name := "linksOf", desc := "(I)I" } : Jvm.MethodName)) := by decide +kernel
theorem tb_1075 : tables_1[1075]? = some (Jvm.Cond.classLink "PairedComingLaw" (10 : Nat) "PairedComingModel") := by decide +kernel
theorem tb_1076 : tables_1[1076]? = some (Jvm.Cond.instantiable "PairedComingModel" (59 : Nat)) := by decide +kernel
theorem tb_1077 : tables_1[1077]? = some (Jvm.Cond.methodLink "PairedComingLaw" (12 : Nat) ({ cls := "PairedComingModel", name := "<init>", desc := "()V" } : Jvm.MethodName)) := by decide +kernel
theorem tb_1078 : tables_1[1078]? = some (Jvm.Cond.instanceMethod ({ cls := "PairedComingModel", name := "<init>", desc := "()V" } : Jvm.MethodName)) := by decide +kernel
theorem tb_1079 : tables_1[1079]? = some (Jvm.Cond.code ({ cls := "PairedComingModel", name := "<init>", desc := "()V" } : Jvm.MethodName) prog_13_method_1_code (1 : Nat) (Option.none : Option Jvm.ClassFile.FieldType)) := by decide +kernel
theorem tb_1080 : tables_1[1080]? = some (Jvm.Cond.methodLink "PairedComingModel" (1 : Nat) ({ cls := "java/lang/Object", name := "<init>", desc := "()V" } : Jvm.MethodName)) := by decide +kernel
theorem tb_1081 : tables_1[1081]? = some (Jvm.Cond.fieldLink "PairedComingModel" (122 : Nat) "PairedComingModel" "posts" "I") := by decide +kernel
theorem tb_1082 : tables_1[1082]? = some (Jvm.Cond.fieldLink "PairedComingModel" (7 : Nat) "PairedComingModel" "rooms" "[I") := by decide +kernel
theorem tb_1083 : tables_1[1083]? = some (Jvm.Cond.fieldLink "PairedComingModel" (13 : Nat) "PairedComingModel" "ranks" "[I") := by decide +kernel
theorem tb_1084 : tables_1[1084]? = some (Jvm.Cond.fieldLink "PairedComingModel" (16 : Nat) "PairedComingModel" "budgets" "[I") := by decide +kernel
theorem tb_1085 : tables_1[1085]? = some (Jvm.Cond.fieldLink "PairedComingModel" (130 : Nat) "PairedComingModel" "guests" "I") := by decide +kernel
theorem tb_1086 : tables_1[1086]? = some (Jvm.Cond.fieldLink "PairedComingModel" (19 : Nat) "PairedComingModel" "chances" "[I") := by decide +kernel
theorem tb_1087 : tables_1[1087]? = some (Jvm.Cond.fieldLink "PairedComingModel" (22 : Nat) "PairedComingModel" "worths" "[I") := by decide +kernel
theorem tb_1088 : tables_1[1088]? = some (Jvm.Cond.fieldLink "PairedComingModel" (25 : Nat) "PairedComingModel" "tape" "[I") := by decide +kernel
theorem tb_1089 : tables_1[1089]? = some (Jvm.Cond.fieldLink "PairedComingModel" (161 : Nat) "PairedComingModel" "taped" "I") := by decide +kernel
theorem tb_1090 : tables_1[1090]? = some (Jvm.Cond.fieldLink "PairedComingModel" (226 : Nat) "PairedComingModel" "fault" "I") := by decide +kernel
theorem tb_1091 : tables_1[1091]? = some (Jvm.Cond.fieldLink "PairedComingModel" (164 : Nat) "PairedComingModel" "wrong" "I") := by decide +kernel
theorem tb_1092 : tables_1[1092]? = some (Jvm.Cond.fieldLink "PairedComingModel" (170 : Nat) "PairedComingModel" "wrongAt" "I") := by decide +kernel
theorem tb_1093 : tables_1[1093]? = some (Jvm.Cond.fieldLink "PairedComingModel" (176 : Nat) "PairedComingModel" "at" "I") := by decide +kernel
theorem tb_1094 : tables_1[1094]? = some (Jvm.Cond.fieldLink "PairedComingModel" (167 : Nat) "PairedComingModel" "place" "I") := by decide +kernel
theorem tb_1095 : tables_1[1095]? = some (Jvm.Cond.fieldLink "PairedComingModel" (182 : Nat) "PairedComingModel" "token" "I") := by decide +kernel
theorem tb_1096 : tables_1[1096]? = some (Jvm.Cond.fieldLink "PairedComingModel" (179 : Nat) "PairedComingModel" "value" "I") := by decide +kernel
theorem tb_1097 : tables_1[1097]? = some (Jvm.Cond.fieldLink "PairedComingModel" (211 : Nat) "PairedComingModel" "rules" "I") := by decide +kernel
theorem tb_1098 : tables_1[1098]? = some (Jvm.Cond.fieldLink "PairedComingModel" (28 : Nat) "PairedComingModel" "keyMany" "[I") := by decide +kernel
theorem tb_1099 : tables_1[1099]? = some (Jvm.Cond.fieldLink "PairedComingModel" (31 : Nat) "PairedComingModel" "keys" "[I") := by decide +kernel
theorem tb_1100 : tables_1[1100]? = some (Jvm.Cond.fieldLink "PairedComingModel" (34 : Nat) "PairedComingModel" "testMany" "[I") := by decide +kernel
theorem tb_1101 : tables_1[1101]? = some (Jvm.Cond.fieldLink "PairedComingModel" (37 : Nat) "PairedComingModel" "testKey" "[I") := by decide +kernel
theorem tb_1102 : tables_1[1102]? = some (Jvm.Cond.fieldLink "PairedComingModel" (40 : Nat) "PairedComingModel" "testSign" "[I") := by decide +kernel
theorem tb_1103 : tables_1[1103]? = some (Jvm.Cond.fieldLink "PairedComingModel" (43 : Nat) "PairedComingModel" "testNumber" "[I") := by decide +kernel
theorem tb_1104 : tables_1[1104]? = some (Jvm.Cond.fieldLink "PairedComingModel" (46 : Nat) "PairedComingModel" "drops" "[I") := by decide +kernel
theorem tb_1105 : tables_1[1105]? = some (Jvm.Cond.fieldLink "PairedComingModel" (49 : Nat) "PairedComingModel" "ends" "[I") := by decide +kernel
theorem tb_1106 : tables_1[1106]? = some (Jvm.Cond.fieldLink "PairedComingModel" (52 : Nat) "PairedComingModel" "letters" "[I") := by decide +kernel
theorem tb_1107 : tables_1[1107]? = some (Jvm.Cond.fieldLink "PairedComingModel" (240 : Nat) "PairedComingModel" "ePosts" "I") := by decide +kernel
theorem tb_1108 : tables_1[1108]? = some (Jvm.Cond.fieldLink "PairedComingModel" (243 : Nat) "PairedComingModel" "eGuests" "I") := by decide +kernel
theorem tb_1109 : tables_1[1109]? = some (Jvm.Cond.fieldLink "PairedComingModel" (55 : Nat) "PairedComingModel" "eRoom" "[I") := by decide +kernel
theorem tb_1110 : tables_1[1110]? = some (Jvm.Cond.fieldLink "PairedComingModel" (58 : Nat) "PairedComingModel" "eRank" "[I") := by decide +kernel
theorem tb_1111 : tables_1[1111]? = some (Jvm.Cond.fieldLink "PairedComingModel" (61 : Nat) "PairedComingModel" "eBudget" "[I") := by decide +kernel
theorem tb_1112 : tables_1[1112]? = some (Jvm.Cond.fieldLink "PairedComingModel" (64 : Nat) "PairedComingModel" "eWorth" "[I") := by decide +kernel
theorem tb_1113 : tables_1[1113]? = some (Jvm.Cond.fieldLink "PairedComingModel" (67 : Nat) "PairedComingModel" "ePaid" "[I") := by decide +kernel
theorem tb_1114 : tables_1[1114]? = some (Jvm.Cond.fieldLink "PairedComingModel" (70 : Nat) "PairedComingModel" "ePair" "[I") := by decide +kernel
theorem tb_1115 : tables_1[1115]? = some (Jvm.Cond.fieldLink "PairedComingModel" (73 : Nat) "PairedComingModel" "eSeq" "[I") := by decide +kernel
theorem tb_1116 : tables_1[1116]? = some (Jvm.Cond.fieldLink "PairedComingModel" (234 : Nat) "PairedComingModel" "eCount" "I") := by decide +kernel
theorem tb_1117 : tables_1[1117]? = some (Jvm.Cond.fieldLink "PairedComingModel" (237 : Nat) "PairedComingModel" "eDropped" "I") := by decide +kernel
theorem tb_1118 : tables_1[1118]? = some (Jvm.Cond.fieldLink "PairedComingModel" (76 : Nat) "PairedComingModel" "order" "[I") := by decide +kernel
theorem tb_1119 : tables_1[1119]? = some (Jvm.Cond.fieldLink "PairedComingModel" (79 : Nat) "PairedComingModel" "caps" "[I") := by decide +kernel
theorem tb_1120 : tables_1[1120]? = some (Jvm.Cond.fieldLink "PairedComingModel" (82 : Nat) "PairedComingModel" "steps" "[I") := by decide +kernel
theorem tb_1121 : tables_1[1121]? = some (Jvm.Cond.fieldLink "PairedComingModel" (288 : Nat) "PairedComingModel" "states" "I") := by decide +kernel
theorem tb_1122 : tables_1[1122]? = some (Jvm.Cond.fieldLink "PairedComingModel" (85 : Nat) "PairedComingModel" "best" "[I") := by decide +kernel
theorem tb_1123 : tables_1[1123]? = some (Jvm.Cond.fieldLink "PairedComingModel" (88 : Nat) "PairedComingModel" "pairs" "[I") := by decide +kernel
theorem tb_1124 : tables_1[1124]? = some (Jvm.Cond.fieldLink "PairedComingModel" (324 : Nat) "PairedComingModel" "sumAll" "J") := by decide +kernel
theorem tb_1125 : tables_1[1125]? = some (Jvm.Cond.fieldLink "PairedComingModel" (328 : Nat) "PairedComingModel" "manyAll" "J") := by decide +kernel
theorem tb_1126 : tables_1[1126]? = some (Jvm.Cond.fieldLink "PairedComingModel" (331 : Nat) "PairedComingModel" "leastAll" "I") := by decide +kernel
theorem tb_1127 : tables_1[1127]? = some (Jvm.Cond.fieldLink "PairedComingModel" (334 : Nat) "PairedComingModel" "mostAll" "I") := by decide +kernel
theorem tb_1128 : tables_1[1128]? = some (Jvm.Cond.fieldLink "PairedComingModel" (91 : Nat) "PairedComingModel" "hopes" "[J") := by decide +kernel
theorem tb_1129 : tables_1[1129]? = some (Jvm.Cond.fieldLink "PairedComingModel" (95 : Nat) "PairedComingModel" "overs" "[J") := by decide +kernel
theorem tb_1130 : tables_1[1130]? = some (Jvm.Cond.fieldLink "PairedComingModel" (98 : Nat) "PairedComingModel" "marketCome" "[I") := by decide +kernel
theorem tb_1131 : tables_1[1131]? = some (Jvm.Cond.fieldLink "PairedComingModel" (101 : Nat) "PairedComingModel" "marketPair" "[I") := by decide +kernel
theorem tb_1132 : tables_1[1132]? = some (Jvm.Cond.fieldLink "PairedComingModel" (104 : Nat) "PairedComingModel" "marketSeq" "[I") := by decide +kernel
theorem tb_1133 : tables_1[1133]? = some (Jvm.Cond.fieldLink "PairedComingModel" (107 : Nat) "PairedComingModel" "marketPaid" "[I") := by decide +kernel
theorem tb_1134 : tables_1[1134]? = some (Jvm.Cond.fieldLink "PairedComingModel" (370 : Nat) "PairedComingModel" "marketCount" "I") := by decide +kernel
theorem tb_1135 : tables_1[1135]? = some (Jvm.Cond.fieldLink "PairedComingModel" (367 : Nat) "PairedComingModel" "acts" "I") := by decide +kernel
theorem tb_1136 : tables_1[1136]? = some (Jvm.Cond.fieldLink "PairedComingModel" (110 : Nat) "PairedComingModel" "kept" "[I") := by decide +kernel
theorem tb_1137 : tables_1[1137]? = some (Jvm.Cond.fieldLink "PairedComingModel" (113 : Nat) "PairedComingModel" "lanes" "[I") := by decide +kernel
theorem tb_1138 : tables_1[1138]? = some (Jvm.Cond.fieldLink "PairedComingModel" (116 : Nat) "PairedComingModel" "lengths" "[I") := by decide +kernel
theorem tb_1139 : tables_1[1139]? = some (Jvm.Cond.fieldLink "PairedComingModel" (119 : Nat) "PairedComingModel" "cells" "[I") := by decide +kernel
theorem tb_1140 : tables_1[1140]? = some (Jvm.Cond.lays "PairedComingModel" "PairedComingModel" "posts" "I") := by decide +kernel
theorem tb_1142 : tables_1[1142]? = some (Jvm.Cond.laysFinal "PairedComingModel" "PairedComingModel" "rooms" "[I") := by decide +kernel
theorem tb_1144 : tables_1[1144]? = some (Jvm.Cond.laysFinal "PairedComingModel" "PairedComingModel" "ranks" "[I") := by decide +kernel
theorem tb_1146 : tables_1[1146]? = some (Jvm.Cond.laysFinal "PairedComingModel" "PairedComingModel" "budgets" "[I") := by decide +kernel
theorem tb_1148 : tables_1[1148]? = some (Jvm.Cond.lays "PairedComingModel" "PairedComingModel" "guests" "I") := by decide +kernel
theorem tb_1150 : tables_1[1150]? = some (Jvm.Cond.laysFinal "PairedComingModel" "PairedComingModel" "chances" "[I") := by decide +kernel
theorem tb_1152 : tables_1[1152]? = some (Jvm.Cond.laysFinal "PairedComingModel" "PairedComingModel" "worths" "[I") := by decide +kernel
theorem tb_1154 : tables_1[1154]? = some (Jvm.Cond.laysFinal "PairedComingModel" "PairedComingModel" "tape" "[I") := by decide +kernel
theorem tb_1156 : tables_1[1156]? = some (Jvm.Cond.lays "PairedComingModel" "PairedComingModel" "taped" "I") := by decide +kernel
theorem tb_1158 : tables_1[1158]? = some (Jvm.Cond.lays "PairedComingModel" "PairedComingModel" "fault" "I") := by decide +kernel
theorem tb_1160 : tables_1[1160]? = some (Jvm.Cond.lays "PairedComingModel" "PairedComingModel" "wrong" "I") := by decide +kernel
theorem tb_1162 : tables_1[1162]? = some (Jvm.Cond.lays "PairedComingModel" "PairedComingModel" "wrongAt" "I") := by decide +kernel
theorem tb_1164 : tables_1[1164]? = some (Jvm.Cond.lays "PairedComingModel" "PairedComingModel" "at" "I") := by decide +kernel
theorem tb_1166 : tables_1[1166]? = some (Jvm.Cond.lays "PairedComingModel" "PairedComingModel" "place" "I") := by decide +kernel
theorem tb_1168 : tables_1[1168]? = some (Jvm.Cond.lays "PairedComingModel" "PairedComingModel" "token" "I") := by decide +kernel
theorem tb_1170 : tables_1[1170]? = some (Jvm.Cond.lays "PairedComingModel" "PairedComingModel" "value" "I") := by decide +kernel
theorem tb_1172 : tables_1[1172]? = some (Jvm.Cond.lays "PairedComingModel" "PairedComingModel" "rules" "I") := by decide +kernel
theorem tb_1174 : tables_1[1174]? = some (Jvm.Cond.laysFinal "PairedComingModel" "PairedComingModel" "keyMany" "[I") := by decide +kernel
theorem tb_1176 : tables_1[1176]? = some (Jvm.Cond.laysFinal "PairedComingModel" "PairedComingModel" "keys" "[I") := by decide +kernel
theorem tb_1178 : tables_1[1178]? = some (Jvm.Cond.laysFinal "PairedComingModel" "PairedComingModel" "testMany" "[I") := by decide +kernel
theorem tb_1180 : tables_1[1180]? = some (Jvm.Cond.laysFinal "PairedComingModel" "PairedComingModel" "testKey" "[I") := by decide +kernel
theorem tb_1182 : tables_1[1182]? = some (Jvm.Cond.laysFinal "PairedComingModel" "PairedComingModel" "testSign" "[I") := by decide +kernel
theorem tb_1184 : tables_1[1184]? = some (Jvm.Cond.laysFinal "PairedComingModel" "PairedComingModel" "testNumber" "[I") := by decide +kernel
theorem tb_1186 : tables_1[1186]? = some (Jvm.Cond.laysFinal "PairedComingModel" "PairedComingModel" "drops" "[I") := by decide +kernel
theorem tb_1188 : tables_1[1188]? = some (Jvm.Cond.laysFinal "PairedComingModel" "PairedComingModel" "ends" "[I") := by decide +kernel
theorem tb_1190 : tables_1[1190]? = some (Jvm.Cond.laysFinal "PairedComingModel" "PairedComingModel" "letters" "[I") := by decide +kernel
theorem tb_1192 : tables_1[1192]? = some (Jvm.Cond.lays "PairedComingModel" "PairedComingModel" "ePosts" "I") := by decide +kernel
theorem tb_1194 : tables_1[1194]? = some (Jvm.Cond.lays "PairedComingModel" "PairedComingModel" "eGuests" "I") := by decide +kernel
theorem tb_1196 : tables_1[1196]? = some (Jvm.Cond.laysFinal "PairedComingModel" "PairedComingModel" "eRoom" "[I") := by decide +kernel
theorem tb_1198 : tables_1[1198]? = some (Jvm.Cond.laysFinal "PairedComingModel" "PairedComingModel" "eRank" "[I") := by decide +kernel
theorem tb_1200 : tables_1[1200]? = some (Jvm.Cond.laysFinal "PairedComingModel" "PairedComingModel" "eBudget" "[I") := by decide +kernel
theorem tb_1202 : tables_1[1202]? = some (Jvm.Cond.laysFinal "PairedComingModel" "PairedComingModel" "eWorth" "[I") := by decide +kernel
theorem tb_1204 : tables_1[1204]? = some (Jvm.Cond.laysFinal "PairedComingModel" "PairedComingModel" "ePaid" "[I") := by decide +kernel
theorem tb_1206 : tables_1[1206]? = some (Jvm.Cond.laysFinal "PairedComingModel" "PairedComingModel" "ePair" "[I") := by decide +kernel
theorem tb_1208 : tables_1[1208]? = some (Jvm.Cond.laysFinal "PairedComingModel" "PairedComingModel" "eSeq" "[I") := by decide +kernel
theorem tb_1210 : tables_1[1210]? = some (Jvm.Cond.lays "PairedComingModel" "PairedComingModel" "eCount" "I") := by decide +kernel
theorem tb_1212 : tables_1[1212]? = some (Jvm.Cond.lays "PairedComingModel" "PairedComingModel" "eDropped" "I") := by decide +kernel
theorem tb_1214 : tables_1[1214]? = some (Jvm.Cond.laysFinal "PairedComingModel" "PairedComingModel" "order" "[I") := by decide +kernel
theorem tb_1216 : tables_1[1216]? = some (Jvm.Cond.laysFinal "PairedComingModel" "PairedComingModel" "caps" "[I") := by decide +kernel
theorem tb_1218 : tables_1[1218]? = some (Jvm.Cond.laysFinal "PairedComingModel" "PairedComingModel" "steps" "[I") := by decide +kernel
theorem tb_1220 : tables_1[1220]? = some (Jvm.Cond.lays "PairedComingModel" "PairedComingModel" "states" "I") := by decide +kernel
theorem tb_1222 : tables_1[1222]? = some (Jvm.Cond.laysFinal "PairedComingModel" "PairedComingModel" "best" "[I") := by decide +kernel
theorem tb_1224 : tables_1[1224]? = some (Jvm.Cond.laysFinal "PairedComingModel" "PairedComingModel" "pairs" "[I") := by decide +kernel
theorem tb_1226 : tables_1[1226]? = some (Jvm.Cond.lays "PairedComingModel" "PairedComingModel" "sumAll" "J") := by decide +kernel
theorem tb_1228 : tables_1[1228]? = some (Jvm.Cond.lays "PairedComingModel" "PairedComingModel" "manyAll" "J") := by decide +kernel
theorem tb_1230 : tables_1[1230]? = some (Jvm.Cond.lays "PairedComingModel" "PairedComingModel" "leastAll" "I") := by decide +kernel
theorem tb_1232 : tables_1[1232]? = some (Jvm.Cond.lays "PairedComingModel" "PairedComingModel" "mostAll" "I") := by decide +kernel
theorem tb_1234 : tables_1[1234]? = some (Jvm.Cond.laysFinal "PairedComingModel" "PairedComingModel" "hopes" "[J") := by decide +kernel
theorem tb_1236 : tables_1[1236]? = some (Jvm.Cond.laysFinal "PairedComingModel" "PairedComingModel" "overs" "[J") := by decide +kernel
theorem tb_1238 : tables_1[1238]? = some (Jvm.Cond.laysFinal "PairedComingModel" "PairedComingModel" "marketCome" "[I") := by decide +kernel
theorem tb_1240 : tables_1[1240]? = some (Jvm.Cond.laysFinal "PairedComingModel" "PairedComingModel" "marketPair" "[I") := by decide +kernel
theorem tb_1242 : tables_1[1242]? = some (Jvm.Cond.laysFinal "PairedComingModel" "PairedComingModel" "marketSeq" "[I") := by decide +kernel
theorem tb_1244 : tables_1[1244]? = some (Jvm.Cond.laysFinal "PairedComingModel" "PairedComingModel" "marketPaid" "[I") := by decide +kernel
theorem tb_1246 : tables_1[1246]? = some (Jvm.Cond.lays "PairedComingModel" "PairedComingModel" "marketCount" "I") := by decide +kernel
theorem tb_1248 : tables_1[1248]? = some (Jvm.Cond.lays "PairedComingModel" "PairedComingModel" "acts" "I") := by decide +kernel
theorem tb_1250 : tables_1[1250]? = some (Jvm.Cond.laysFinal "PairedComingModel" "PairedComingModel" "kept" "[I") := by decide +kernel
theorem tb_1252 : tables_1[1252]? = some (Jvm.Cond.laysFinal "PairedComingModel" "PairedComingModel" "lanes" "[I") := by decide +kernel
theorem tb_1254 : tables_1[1254]? = some (Jvm.Cond.laysFinal "PairedComingModel" "PairedComingModel" "lengths" "[I") := by decide +kernel
theorem tb_1256 : tables_1[1256]? = some (Jvm.Cond.laysFinal "PairedComingModel" "PairedComingModel" "cells" "[I") := by decide +kernel
theorem tb_1259 : tables_1[1259]? = some (Jvm.Cond.methodLink "PairedComingLaw" (17 : Nat) ({ cls := "PairedComingModel", name := "post", desc := "(III)I" } : Jvm.MethodName)) := by decide +kernel
theorem tb_1260 : tables_1[1260]? = some (Jvm.Cond.instanceMethod ({ cls := "PairedComingModel", name := "post", desc := "(III)I" } : Jvm.MethodName)) := by decide +kernel
theorem tb_1261 : tables_1[1261]? = some (Jvm.Cond.selects "PairedComingModel" ({ cls := "PairedComingModel", name := "post", desc := "(III)I" } : Jvm.MethodName) ({ cls := "PairedComingModel", name := "post", desc := "(III)I" } : Jvm.MethodName)) := by decide +kernel
theorem tb_1262 : tables_1[1262]? = some (Jvm.Cond.code ({ cls := "PairedComingModel", name := "post", desc := "(III)I" } : Jvm.MethodName) prog_13_method_7_code (5 : Nat) (Option.some Jvm.ClassFile.FieldType.int)) := by decide +kernel
theorem tb_1263 : tables_1[1263]? = some (Jvm.Cond.constantLong "PairedComingModel" (133 : Nat) (3 : Int64)) := by decide +kernel
theorem tb_1264 : tables_1[1264]? = some (Jvm.Cond.methodLink "PairedComingModel" (126 : Nat) ({ cls := "PairedComingModel", name := "in", desc := "(JJJ)Z" } : Jvm.MethodName)) := by decide +kernel
theorem tb_1265 : tables_1[1265]? = some (Jvm.Cond.static ({ cls := "PairedComingModel", name := "in", desc := "(JJJ)Z" } : Jvm.MethodName)) := by decide +kernel
theorem tb_1266 : tables_1[1266]? = some (Jvm.Cond.code ({ cls := "PairedComingModel", name := "in", desc := "(JJJ)Z" } : Jvm.MethodName) prog_13_method_3_code (6 : Nat) (Option.some Jvm.ClassFile.FieldType.boolean)) := by decide +kernel
theorem tb_1267 : tables_1[1267]? = some (Jvm.Cond.constantLong "PairedComingModel" (135 : Nat) (99 : Int64)) := by decide +kernel
theorem tb_1268 : tables_1[1268]? = some (Jvm.Cond.constantLong "PairedComingModel" (137 : Nat) (999 : Int64)) := by decide +kernel
theorem tb_1269 : tables_1[1269]? = some (Jvm.Cond.methodLink "PairedComingModel" (139 : Nat) ({ cls := "PairedComingModel", name := "came", desc := "()I" } : Jvm.MethodName)) := by decide +kernel
theorem tb_1271 : tables_1[1271]? = some (Jvm.Cond.instanceMethod ({ cls := "PairedComingModel", name := "came", desc := "()I" } : Jvm.MethodName)) := by decide +kernel
theorem tb_1272 : tables_1[1272]? = some (Jvm.Cond.code ({ cls := "PairedComingModel", name := "came", desc := "()I" } : Jvm.MethodName) prog_13_method_74_code (3 : Nat) (Option.some Jvm.ClassFile.FieldType.int)) := by decide +kernel
theorem tb_1273 : tables_1[1273]? = some (Jvm.Cond.methodLink "PairedComingModel" (143 : Nat) ({ cls := "PairedComingModel", name := "roomSum", desc := "()I" } : Jvm.MethodName)) := by decide +kernel
theorem tb_1275 : tables_1[1275]? = some (Jvm.Cond.instanceMethod ({ cls := "PairedComingModel", name := "roomSum", desc := "()I" } : Jvm.MethodName)) := by decide +kernel
theorem tb_1276 : tables_1[1276]? = some (Jvm.Cond.code ({ cls := "PairedComingModel", name := "roomSum", desc := "()I" } : Jvm.MethodName) prog_13_method_6_code (3 : Nat) (Option.some Jvm.ClassFile.FieldType.int)) := by decide +kernel
theorem tb_1277 : tables_1[1277]? = some (Jvm.Cond.methodLink "PairedComingLaw" (22 : Nat) ({ cls := "PairedComingModel", name := "guest", desc := "()I" } : Jvm.MethodName)) := by decide +kernel
theorem tb_1278 : tables_1[1278]? = some (Jvm.Cond.instanceMethod ({ cls := "PairedComingModel", name := "guest", desc := "()I" } : Jvm.MethodName)) := by decide +kernel
theorem tb_1279 : tables_1[1279]? = some (Jvm.Cond.selects "PairedComingModel" ({ cls := "PairedComingModel", name := "guest", desc := "()I" } : Jvm.MethodName) ({ cls := "PairedComingModel", name := "guest", desc := "()I" } : Jvm.MethodName)) := by decide +kernel
theorem tb_1280 : tables_1[1280]? = some (Jvm.Cond.code ({ cls := "PairedComingModel", name := "guest", desc := "()I" } : Jvm.MethodName) prog_13_method_8_code (2 : Nat) (Option.some Jvm.ClassFile.FieldType.int)) := by decide +kernel
theorem tb_1281 : tables_1[1281]? = some (Jvm.Cond.methodLink "PairedComingLaw" (26 : Nat) ({ cls := "PairedComingModel", name := "worth", desc := "(III)I" } : Jvm.MethodName)) := by decide +kernel
theorem tb_1282 : tables_1[1282]? = some (Jvm.Cond.instanceMethod ({ cls := "PairedComingModel", name := "worth", desc := "(III)I" } : Jvm.MethodName)) := by decide +kernel
theorem tb_1283 : tables_1[1283]? = some (Jvm.Cond.selects "PairedComingModel" ({ cls := "PairedComingModel", name := "worth", desc := "(III)I" } : Jvm.MethodName) ({ cls := "PairedComingModel", name := "worth", desc := "(III)I" } : Jvm.MethodName)) := by decide +kernel
theorem tb_1284 : tables_1[1284]? = some (Jvm.Cond.code ({ cls := "PairedComingModel", name := "worth", desc := "(III)I" } : Jvm.MethodName) prog_13_method_9_code (5 : Nat) (Option.some Jvm.ClassFile.FieldType.int)) := by decide +kernel
theorem tb_1285 : tables_1[1285]? = some (Jvm.Cond.methodLink "PairedComingModel" (146 : Nat) ({ cls := "PairedComingModel", name := "isGuest", desc := "(I)Z" } : Jvm.MethodName)) := by decide +kernel
theorem tb_1287 : tables_1[1287]? = some (Jvm.Cond.instanceMethod ({ cls := "PairedComingModel", name := "isGuest", desc := "(I)Z" } : Jvm.MethodName)) := by decide +kernel
theorem tb_1288 : tables_1[1288]? = some (Jvm.Cond.code ({ cls := "PairedComingModel", name := "isGuest", desc := "(I)Z" } : Jvm.MethodName) prog_13_method_5_code (2 : Nat) (Option.some Jvm.ClassFile.FieldType.boolean)) := by decide +kernel
theorem tb_1289 : tables_1[1289]? = some (Jvm.Cond.methodLink "PairedComingModel" (150 : Nat) ({ cls := "PairedComingModel", name := "isPost", desc := "(I)Z" } : Jvm.MethodName)) := by decide +kernel
theorem tb_1291 : tables_1[1291]? = some (Jvm.Cond.instanceMethod ({ cls := "PairedComingModel", name := "isPost", desc := "(I)Z" } : Jvm.MethodName)) := by decide +kernel
theorem tb_1292 : tables_1[1292]? = some (Jvm.Cond.code ({ cls := "PairedComingModel", name := "isPost", desc := "(I)Z" } : Jvm.MethodName) prog_13_method_4_code (2 : Nat) (Option.some Jvm.ClassFile.FieldType.boolean)) := by decide +kernel
theorem tb_1293 : tables_1[1293]? = some (Jvm.Cond.methodLink "PairedComingLaw" (31 : Nat) ({ cls := "PairedComingModel", name := "chance", desc := "(II)I" } : Jvm.MethodName)) := by decide +kernel
theorem tb_1294 : tables_1[1294]? = some (Jvm.Cond.instanceMethod ({ cls := "PairedComingModel", name := "chance", desc := "(II)I" } : Jvm.MethodName)) := by decide +kernel
theorem tb_1295 : tables_1[1295]? = some (Jvm.Cond.selects "PairedComingModel" ({ cls := "PairedComingModel", name := "chance", desc := "(II)I" } : Jvm.MethodName) ({ cls := "PairedComingModel", name := "chance", desc := "(II)I" } : Jvm.MethodName)) := by decide +kernel
theorem tb_1296 : tables_1[1296]? = some (Jvm.Cond.code ({ cls := "PairedComingModel", name := "chance", desc := "(II)I" } : Jvm.MethodName) prog_13_method_10_code (4 : Nat) (Option.some Jvm.ClassFile.FieldType.int)) := by decide +kernel
theorem tb_1297 : tables_1[1297]? = some (Jvm.Cond.constantLong "PairedComingModel" (153 : Nat) (9 : Int64)) := by decide +kernel
theorem tb_1298 : tables_1[1298]? = some (Jvm.Cond.methodLink "PairedComingLaw" (35 : Nat) ({ cls := "PairedComingModel", name := "rank", desc := "(II)I" } : Jvm.MethodName)) := by decide +kernel
theorem tb_1299 : tables_1[1299]? = some (Jvm.Cond.instanceMethod ({ cls := "PairedComingModel", name := "rank", desc := "(II)I" } : Jvm.MethodName)) := by decide +kernel
theorem tb_1300 : tables_1[1300]? = some (Jvm.Cond.selects "PairedComingModel" ({ cls := "PairedComingModel", name := "rank", desc := "(II)I" } : Jvm.MethodName) ({ cls := "PairedComingModel", name := "rank", desc := "(II)I" } : Jvm.MethodName)) := by decide +kernel
theorem tb_1301 : tables_1[1301]? = some (Jvm.Cond.code ({ cls := "PairedComingModel", name := "rank", desc := "(II)I" } : Jvm.MethodName) prog_13_method_11_code (4 : Nat) (Option.some Jvm.ClassFile.FieldType.int)) := by decide +kernel
theorem tb_1302 : tables_1[1302]? = some (Jvm.Cond.methodLink "PairedComingLaw" (39 : Nat) ({ cls := "PairedComingModel", name := "told", desc := "(II)I" } : Jvm.MethodName)) := by decide +kernel
theorem tb_1303 : tables_1[1303]? = some (Jvm.Cond.instanceMethod ({ cls := "PairedComingModel", name := "told", desc := "(II)I" } : Jvm.MethodName)) := by decide +kernel
theorem tb_1304 : tables_1[1304]? = some (Jvm.Cond.selects "PairedComingModel" ({ cls := "PairedComingModel", name := "told", desc := "(II)I" } : Jvm.MethodName) ({ cls := "PairedComingModel", name := "told", desc := "(II)I" } : Jvm.MethodName)) := by decide +kernel
theorem tb_1305 : tables_1[1305]? = some (Jvm.Cond.code ({ cls := "PairedComingModel", name := "told", desc := "(II)I" } : Jvm.MethodName) prog_13_method_13_code (6 : Nat) (Option.some Jvm.ClassFile.FieldType.int)) := by decide +kernel
theorem tb_1306 : tables_1[1306]? = some (Jvm.Cond.constantLong "PairedComingModel" (155 : Nat) (6 : Int64)) := by decide +kernel
theorem tb_1307 : tables_1[1307]? = some (Jvm.Cond.methodLink "PairedComingModel" (157 : Nat) ({ cls := "PairedComingModel", name := "linksOf", desc := "(I)I" } : Jvm.MethodName)) := by decide +kernel
theorem tb_1309 : tables_1[1309]? = some (Jvm.Cond.instanceMethod ({ cls := "PairedComingModel", name := "linksOf", desc := "(I)I" } : Jvm.MethodName)) := by decide +kernel
theorem tb_1310 : tables_1[1310]? = some (Jvm.Cond.code ({ cls := "PairedComingModel", name := "linksOf", desc := "(I)I" } : Jvm.MethodName) prog_13_method_12_code (4 : Nat) (Option.some Jvm.ClassFile.FieldType.int)) := by decide +kernel
theorem tb_1311 : tables_1[1311]? = some (Jvm.Cond.methodLink "PairedComingLaw" (46 : Nat) ({ cls := "PairedComingModel", name := "feed", desc := "(J)I" } : Jvm.MethodName)) := by decide +kernel
theorem tb_1312 : tables_1[1312]? = some (Jvm.Cond.instanceMethod ({ cls := "PairedComingModel", name := "feed", desc := "(J)I" } : Jvm.MethodName)) := by decide +kernel
theorem tb_1313 : tables_1[1313]? = some (Jvm.Cond.selects "PairedComingModel" ({ cls := "PairedComingModel", name := "feed", desc := "(J)I" } : Jvm.MethodName) ({ cls := "PairedComingModel", name := "feed", desc := "(J)I" } : Jvm.MethodName)) := by decide +kernel
theorem tb_1314 : tables_1[1314]? = some (Jvm.Cond.code ({ cls := "PairedComingModel", name := "feed", desc := "(J)I" } : Jvm.MethodName) prog_13_method_14_code (4 : Nat) (Option.some Jvm.ClassFile.FieldType.int)) := by decide +kernel
theorem tb_1315 : tables_1[1315]? = some (Jvm.Cond.methodLink "PairedComingLaw" (51 : Nat) ({ cls := "PairedComingModel", name := "end", desc := "(I)I" } : Jvm.MethodName)) := by decide +kernel
theorem tb_1316 : tables_1[1316]? = some (Jvm.Cond.instanceMethod ({ cls := "PairedComingModel", name := "end", desc := "(I)I" } : Jvm.MethodName)) := by decide +kernel
theorem tb_1317 : tables_1[1317]? = some (Jvm.Cond.selects "PairedComingModel" ({ cls := "PairedComingModel", name := "end", desc := "(I)I" } : Jvm.MethodName) ({ cls := "PairedComingModel", name := "end", desc := "(I)I" } : Jvm.MethodName)) := by decide +kernel
theorem tb_1318 : tables_1[1318]? = some (Jvm.Cond.code ({ cls := "PairedComingModel", name := "end", desc := "(I)I" } : Jvm.MethodName) prog_13_method_15_code (3 : Nat) (Option.some Jvm.ClassFile.FieldType.int)) := by decide +kernel
theorem tb_1319 : tables_1[1319]? = some (Jvm.Cond.methodLink "PairedComingLaw" (55 : Nat) ({ cls := "PairedComingModel", name := "rule", desc := "()I" } : Jvm.MethodName)) := by decide +kernel
theorem tb_1320 : tables_1[1320]? = some (Jvm.Cond.instanceMethod ({ cls := "PairedComingModel", name := "rule", desc := "()I" } : Jvm.MethodName)) := by decide +kernel
theorem tb_1321 : tables_1[1321]? = some (Jvm.Cond.selects "PairedComingModel" ({ cls := "PairedComingModel", name := "rule", desc := "()I" } : Jvm.MethodName) ({ cls := "PairedComingModel", name := "rule", desc := "()I" } : Jvm.MethodName)) := by decide +kernel
theorem tb_1322 : tables_1[1322]? = some (Jvm.Cond.code ({ cls := "PairedComingModel", name := "rule", desc := "()I" } : Jvm.MethodName) prog_13_method_26_code (1 : Nat) (Option.some Jvm.ClassFile.FieldType.int)) := by decide +kernel
theorem tb_1323 : tables_1[1323]? = some (Jvm.Cond.methodLink "PairedComingModel" (223 : Nat) ({ cls := "PairedComingModel", name := "readRule", desc := "()V" } : Jvm.MethodName)) := by decide +kernel
theorem tb_1325 : tables_1[1325]? = some (Jvm.Cond.instanceMethod ({ cls := "PairedComingModel", name := "readRule", desc := "()V" } : Jvm.MethodName)) := by decide +kernel
theorem tb_1326 : tables_1[1326]? = some (Jvm.Cond.code ({ cls := "PairedComingModel", name := "readRule", desc := "()V" } : Jvm.MethodName) prog_13_method_25_code (1 : Nat) (Option.none : Option Jvm.ClassFile.FieldType)) := by decide +kernel
theorem tb_1327 : tables_1[1327]? = some (Jvm.Cond.methodLink "PairedComingModel" (204 : Nat) ({ cls := "PairedComingModel", name := "next", desc := "()V" } : Jvm.MethodName)) := by decide +kernel
theorem tb_1329 : tables_1[1329]? = some (Jvm.Cond.instanceMethod ({ cls := "PairedComingModel", name := "next", desc := "()V" } : Jvm.MethodName)) := by decide +kernel
theorem tb_1330 : tables_1[1330]? = some (Jvm.Cond.code ({ cls := "PairedComingModel", name := "next", desc := "()V" } : Jvm.MethodName) prog_13_method_19_code (2 : Nat) (Option.none : Option Jvm.ClassFile.FieldType)) := by decide +kernel
theorem tb_1331 : tables_1[1331]? = some (Jvm.Cond.methodLink "PairedComingModel" (173 : Nat) ({ cls := "PairedComingModel", name := "byteAt", desc := "(I)I" } : Jvm.MethodName)) := by decide +kernel
theorem tb_1333 : tables_1[1333]? = some (Jvm.Cond.instanceMethod ({ cls := "PairedComingModel", name := "byteAt", desc := "(I)I" } : Jvm.MethodName)) := by decide +kernel
theorem tb_1334 : tables_1[1334]? = some (Jvm.Cond.code ({ cls := "PairedComingModel", name := "byteAt", desc := "(I)I" } : Jvm.MethodName) prog_13_method_16_code (2 : Nat) (Option.some Jvm.ClassFile.FieldType.int)) := by decide +kernel
theorem tb_1335 : tables_1[1335]? = some (Jvm.Cond.constantLong "PairedComingModel" (185 : Nat) (97 : Int64)) := by decide +kernel
theorem tb_1336 : tables_1[1336]? = some (Jvm.Cond.constantLong "PairedComingModel" (187 : Nat) (122 : Int64)) := by decide +kernel
theorem tb_1337 : tables_1[1337]? = some (Jvm.Cond.methodLink "PairedComingModel" (189 : Nat) ({ cls := "PairedComingModel", name := "nameAt", desc := "(II)I" } : Jvm.MethodName)) := by decide +kernel
theorem tb_1339 : tables_1[1339]? = some (Jvm.Cond.instanceMethod ({ cls := "PairedComingModel", name := "nameAt", desc := "(II)I" } : Jvm.MethodName)) := by decide +kernel
theorem tb_1340 : tables_1[1340]? = some (Jvm.Cond.code ({ cls := "PairedComingModel", name := "nameAt", desc := "(II)I" } : Jvm.MethodName) prog_13_method_18_code (6 : Nat) (Option.some Jvm.ClassFile.FieldType.int)) := by decide +kernel
theorem tb_1341 : tables_1[1341]? = some (Jvm.Cond.methodLink "PairedComingModel" (193 : Nat) ({ cls := "PairedComingModel", name := "fails", desc := "(I)V" } : Jvm.MethodName)) := by decide +kernel
theorem tb_1343 : tables_1[1343]? = some (Jvm.Cond.instanceMethod ({ cls := "PairedComingModel", name := "fails", desc := "(I)V" } : Jvm.MethodName)) := by decide +kernel
theorem tb_1344 : tables_1[1344]? = some (Jvm.Cond.code ({ cls := "PairedComingModel", name := "fails", desc := "(I)V" } : Jvm.MethodName) prog_13_method_17_code (2 : Nat) (Option.none : Option Jvm.ClassFile.FieldType)) := by decide +kernel
theorem tb_1345 : tables_1[1345]? = some (Jvm.Cond.constantLong "PairedComingModel" (197 : Nat) (48 : Int64)) := by decide +kernel
theorem tb_1346 : tables_1[1346]? = some (Jvm.Cond.constantLong "PairedComingModel" (199 : Nat) (57 : Int64)) := by decide +kernel
theorem tb_1347 : tables_1[1347]? = some (Jvm.Cond.methodLink "PairedComingModel" (214 : Nat) ({ cls := "PairedComingModel", name := "isName", desc := "(I)Z" } : Jvm.MethodName)) := by decide +kernel
theorem tb_1349 : tables_1[1349]? = some (Jvm.Cond.instanceMethod ({ cls := "PairedComingModel", name := "isName", desc := "(I)Z" } : Jvm.MethodName)) := by decide +kernel
theorem tb_1350 : tables_1[1350]? = some (Jvm.Cond.code ({ cls := "PairedComingModel", name := "isName", desc := "(I)Z" } : Jvm.MethodName) prog_13_method_20_code (2 : Nat) (Option.some Jvm.ClassFile.FieldType.boolean)) := by decide +kernel
theorem tb_1351 : tables_1[1351]? = some (Jvm.Cond.methodLink "PairedComingModel" (217 : Nat) ({ cls := "PairedComingModel", name := "key", desc := "()V" } : Jvm.MethodName)) := by decide +kernel
theorem tb_1353 : tables_1[1353]? = some (Jvm.Cond.instanceMethod ({ cls := "PairedComingModel", name := "key", desc := "()V" } : Jvm.MethodName)) := by decide +kernel
theorem tb_1354 : tables_1[1354]? = some (Jvm.Cond.code ({ cls := "PairedComingModel", name := "key", desc := "()V" } : Jvm.MethodName) prog_13_method_23_code (3 : Nat) (Option.none : Option Jvm.ClassFile.FieldType)) := by decide +kernel
theorem tb_1355 : tables_1[1355]? = some (Jvm.Cond.methodLink "PairedComingModel" (201 : Nat) ({ cls := "PairedComingModel", name := "isSign", desc := "(I)Z" } : Jvm.MethodName)) := by decide +kernel
theorem tb_1357 : tables_1[1357]? = some (Jvm.Cond.instanceMethod ({ cls := "PairedComingModel", name := "isSign", desc := "(I)Z" } : Jvm.MethodName)) := by decide +kernel
theorem tb_1358 : tables_1[1358]? = some (Jvm.Cond.code ({ cls := "PairedComingModel", name := "isSign", desc := "(I)Z" } : Jvm.MethodName) prog_13_method_21_code (2 : Nat) (Option.some Jvm.ClassFile.FieldType.boolean)) := by decide +kernel
theorem tb_1359 : tables_1[1359]? = some (Jvm.Cond.methodLink "PairedComingModel" (207 : Nat) ({ cls := "PairedComingModel", name := "isKey", desc := "()Z" } : Jvm.MethodName)) := by decide +kernel
theorem tb_1361 : tables_1[1361]? = some (Jvm.Cond.instanceMethod ({ cls := "PairedComingModel", name := "isKey", desc := "()Z" } : Jvm.MethodName)) := by decide +kernel
theorem tb_1362 : tables_1[1362]? = some (Jvm.Cond.code ({ cls := "PairedComingModel", name := "isKey", desc := "()Z" } : Jvm.MethodName) prog_13_method_22_code (1 : Nat) (Option.some Jvm.ClassFile.FieldType.boolean)) := by decide +kernel
theorem tb_1363 : tables_1[1363]? = some (Jvm.Cond.methodLink "PairedComingModel" (220 : Nat) ({ cls := "PairedComingModel", name := "test", desc := "()V" } : Jvm.MethodName)) := by decide +kernel
theorem tb_1365 : tables_1[1365]? = some (Jvm.Cond.instanceMethod ({ cls := "PairedComingModel", name := "test", desc := "()V" } : Jvm.MethodName)) := by decide +kernel
theorem tb_1366 : tables_1[1366]? = some (Jvm.Cond.code ({ cls := "PairedComingModel", name := "test", desc := "()V" } : Jvm.MethodName) prog_13_method_24_code (2 : Nat) (Option.none : Option Jvm.ClassFile.FieldType)) := by decide +kernel
theorem tb_1367 : tables_1[1367]? = some (Jvm.Cond.methodLink "PairedComingLaw" (59 : Nat) ({ cls := "PairedComingModel", name := "fault", desc := "()I" } : Jvm.MethodName)) := by decide +kernel
theorem tb_1368 : tables_1[1368]? = some (Jvm.Cond.instanceMethod ({ cls := "PairedComingModel", name := "fault", desc := "()I" } : Jvm.MethodName)) := by decide +kernel
theorem tb_1369 : tables_1[1369]? = some (Jvm.Cond.selects "PairedComingModel" ({ cls := "PairedComingModel", name := "fault", desc := "()I" } : Jvm.MethodName) ({ cls := "PairedComingModel", name := "fault", desc := "()I" } : Jvm.MethodName)) := by decide +kernel
theorem tb_1370 : tables_1[1370]? = some (Jvm.Cond.code ({ cls := "PairedComingModel", name := "fault", desc := "()I" } : Jvm.MethodName) prog_13_method_27_code (1 : Nat) (Option.some Jvm.ClassFile.FieldType.int)) := by decide +kernel
theorem tb_1371 : tables_1[1371]? = some (Jvm.Cond.methodLink "PairedComingLaw" (63 : Nat) ({ cls := "PairedComingModel", name := "ruleOf", desc := "(II)I" } : Jvm.MethodName)) := by decide +kernel
theorem tb_1372 : tables_1[1372]? = some (Jvm.Cond.instanceMethod ({ cls := "PairedComingModel", name := "ruleOf", desc := "(II)I" } : Jvm.MethodName)) := by decide +kernel
theorem tb_1373 : tables_1[1373]? = some (Jvm.Cond.selects "PairedComingModel" ({ cls := "PairedComingModel", name := "ruleOf", desc := "(II)I" } : Jvm.MethodName) ({ cls := "PairedComingModel", name := "ruleOf", desc := "(II)I" } : Jvm.MethodName)) := by decide +kernel
theorem tb_1374 : tables_1[1374]? = some (Jvm.Cond.code ({ cls := "PairedComingModel", name := "ruleOf", desc := "(II)I" } : Jvm.MethodName) prog_13_method_29_code (3 : Nat) (Option.some Jvm.ClassFile.FieldType.int)) := by decide +kernel
theorem tb_1375 : tables_1[1375]? = some (Jvm.Cond.methodLink "PairedComingModel" (229 : Nat) ({ cls := "PairedComingModel", name := "isRule", desc := "(I)Z" } : Jvm.MethodName)) := by decide +kernel
theorem tb_1377 : tables_1[1377]? = some (Jvm.Cond.instanceMethod ({ cls := "PairedComingModel", name := "isRule", desc := "(I)Z" } : Jvm.MethodName)) := by decide +kernel
theorem tb_1378 : tables_1[1378]? = some (Jvm.Cond.code ({ cls := "PairedComingModel", name := "isRule", desc := "(I)Z" } : Jvm.MethodName) prog_13_method_28_code (2 : Nat) (Option.some Jvm.ClassFile.FieldType.boolean)) := by decide +kernel
theorem tb_1379 : tables_1[1379]? = some (Jvm.Cond.constantLong "PairedComingModel" (232 : Nat) (10 : Int64)) := by decide +kernel
theorem tb_1380 : tables_1[1380]? = some (Jvm.Cond.methodLink "PairedComingLaw" (67 : Nat) ({ cls := "PairedComingModel", name := "run", desc := "(II)I" } : Jvm.MethodName)) := by decide +kernel
theorem tb_1381 : tables_1[1381]? = some (Jvm.Cond.instanceMethod ({ cls := "PairedComingModel", name := "run", desc := "(II)I" } : Jvm.MethodName)) := by decide +kernel
theorem tb_1382 : tables_1[1382]? = some (Jvm.Cond.selects "PairedComingModel" ({ cls := "PairedComingModel", name := "run", desc := "(II)I" } : Jvm.MethodName) ({ cls := "PairedComingModel", name := "run", desc := "(II)I" } : Jvm.MethodName)) := by decide +kernel
theorem tb_1383 : tables_1[1383]? = some (Jvm.Cond.code ({ cls := "PairedComingModel", name := "run", desc := "(II)I" } : Jvm.MethodName) prog_13_method_42_code (5 : Nat) (Option.some Jvm.ClassFile.FieldType.int)) := by decide +kernel
theorem tb_1384 : tables_1[1384]? = some (Jvm.Cond.methodLink "PairedComingModel" (273 : Nat) ({ cls := "PairedComingModel", name := "loadMain", desc := "()V" } : Jvm.MethodName)) := by decide +kernel
theorem tb_1386 : tables_1[1386]? = some (Jvm.Cond.instanceMethod ({ cls := "PairedComingModel", name := "loadMain", desc := "()V" } : Jvm.MethodName)) := by decide +kernel
theorem tb_1387 : tables_1[1387]? = some (Jvm.Cond.code ({ cls := "PairedComingModel", name := "loadMain", desc := "()V" } : Jvm.MethodName) prog_13_method_31_code (2 : Nat) (Option.none : Option Jvm.ClassFile.FieldType)) := by decide +kernel
theorem tb_1388 : tables_1[1388]? = some (Jvm.Cond.methodLink "PairedComingModel" (246 : Nat) ({ cls := "PairedComingModel", name := "fresh", desc := "()V" } : Jvm.MethodName)) := by decide +kernel
theorem tb_1390 : tables_1[1390]? = some (Jvm.Cond.instanceMethod ({ cls := "PairedComingModel", name := "fresh", desc := "()V" } : Jvm.MethodName)) := by decide +kernel
theorem tb_1391 : tables_1[1391]? = some (Jvm.Cond.code ({ cls := "PairedComingModel", name := "fresh", desc := "()V" } : Jvm.MethodName) prog_13_method_30_code (2 : Nat) (Option.none : Option Jvm.ClassFile.FieldType)) := by decide +kernel
theorem tb_1392 : tables_1[1392]? = some (Jvm.Cond.methodLink "PairedComingModel" (276 : Nat) ({ cls := "PairedComingModel", name := "runByNumbers", desc := "(I)V" } : Jvm.MethodName)) := by decide +kernel
theorem tb_1394 : tables_1[1394]? = some (Jvm.Cond.instanceMethod ({ cls := "PairedComingModel", name := "runByNumbers", desc := "(I)V" } : Jvm.MethodName)) := by decide +kernel
theorem tb_1395 : tables_1[1395]? = some (Jvm.Cond.code ({ cls := "PairedComingModel", name := "runByNumbers", desc := "(I)V" } : Jvm.MethodName) prog_13_method_41_code (3 : Nat) (Option.none : Option Jvm.ClassFile.FieldType)) := by decide +kernel
theorem tb_1396 : tables_1[1396]? = some (Jvm.Cond.methodLink "PairedComingModel" (270 : Nat) ({ cls := "PairedComingModel", name := "comes", desc := "(II)I" } : Jvm.MethodName)) := by decide +kernel
theorem tb_1398 : tables_1[1398]? = some (Jvm.Cond.instanceMethod ({ cls := "PairedComingModel", name := "comes", desc := "(II)I" } : Jvm.MethodName)) := by decide +kernel
theorem tb_1399 : tables_1[1399]? = some (Jvm.Cond.code ({ cls := "PairedComingModel", name := "comes", desc := "(II)I" } : Jvm.MethodName) prog_13_method_38_code (5 : Nat) (Option.some Jvm.ClassFile.FieldType.int)) := by decide +kernel
theorem tb_1400 : tables_1[1400]? = some (Jvm.Cond.methodLink "PairedComingModel" (259 : Nat) ({ cls := "PairedComingModel", name := "canHave", desc := "(III)Z" } : Jvm.MethodName)) := by decide +kernel
theorem tb_1402 : tables_1[1402]? = some (Jvm.Cond.instanceMethod ({ cls := "PairedComingModel", name := "canHave", desc := "(III)Z" } : Jvm.MethodName)) := by decide +kernel
theorem tb_1403 : tables_1[1403]? = some (Jvm.Cond.code ({ cls := "PairedComingModel", name := "canHave", desc := "(III)Z" } : Jvm.MethodName) prog_13_method_35_code (9 : Nat) (Option.some Jvm.ClassFile.FieldType.boolean)) := by decide +kernel
theorem tb_1404 : tables_1[1404]? = some (Jvm.Cond.methodLink "PairedComingModel" (249 : Nat) ({ cls := "PairedComingModel", name := "heldBy", desc := "(I)I" } : Jvm.MethodName)) := by decide +kernel
theorem tb_1406 : tables_1[1406]? = some (Jvm.Cond.instanceMethod ({ cls := "PairedComingModel", name := "heldBy", desc := "(I)I" } : Jvm.MethodName)) := by decide +kernel
theorem tb_1407 : tables_1[1407]? = some (Jvm.Cond.code ({ cls := "PairedComingModel", name := "heldBy", desc := "(I)I" } : Jvm.MethodName) prog_13_method_32_code (4 : Nat) (Option.some Jvm.ClassFile.FieldType.int)) := by decide +kernel
theorem tb_1408 : tables_1[1408]? = some (Jvm.Cond.methodLink "PairedComingModel" (252 : Nat) ({ cls := "PairedComingModel", name := "lastOf", desc := "(I)I" } : Jvm.MethodName)) := by decide +kernel
theorem tb_1410 : tables_1[1410]? = some (Jvm.Cond.instanceMethod ({ cls := "PairedComingModel", name := "lastOf", desc := "(I)I" } : Jvm.MethodName)) := by decide +kernel
theorem tb_1411 : tables_1[1411]? = some (Jvm.Cond.code ({ cls := "PairedComingModel", name := "lastOf", desc := "(I)I" } : Jvm.MethodName) prog_13_method_33_code (6 : Nat) (Option.some Jvm.ClassFile.FieldType.int)) := by decide +kernel
theorem tb_1412 : tables_1[1412]? = some (Jvm.Cond.methodLink "PairedComingModel" (255 : Nat) ({ cls := "PairedComingModel", name := "keyOf", desc := "(III)I" } : Jvm.MethodName)) := by decide +kernel
theorem tb_1414 : tables_1[1414]? = some (Jvm.Cond.instanceMethod ({ cls := "PairedComingModel", name := "keyOf", desc := "(III)I" } : Jvm.MethodName)) := by decide +kernel
theorem tb_1415 : tables_1[1415]? = some (Jvm.Cond.code ({ cls := "PairedComingModel", name := "keyOf", desc := "(III)I" } : Jvm.MethodName) prog_13_method_34_code (5 : Nat) (Option.some Jvm.ClassFile.FieldType.int)) := by decide +kernel
theorem tb_1416 : tables_1[1416]? = some (Jvm.Cond.methodLink "PairedComingModel" (263 : Nat) ({ cls := "PairedComingModel", name := "isAhead", desc := "(IIII)Z" } : Jvm.MethodName)) := by decide +kernel
theorem tb_1418 : tables_1[1418]? = some (Jvm.Cond.instanceMethod ({ cls := "PairedComingModel", name := "isAhead", desc := "(IIII)Z" } : Jvm.MethodName)) := by decide +kernel
theorem tb_1419 : tables_1[1419]? = some (Jvm.Cond.code ({ cls := "PairedComingModel", name := "isAhead", desc := "(IIII)Z" } : Jvm.MethodName) prog_13_method_36_code (8 : Nat) (Option.some Jvm.ClassFile.FieldType.boolean)) := by decide +kernel
theorem tb_1420 : tables_1[1420]? = some (Jvm.Cond.methodLink "PairedComingModel" (267 : Nat) ({ cls := "PairedComingModel", name := "takes", desc := "(II)I" } : Jvm.MethodName)) := by decide +kernel
theorem tb_1422 : tables_1[1422]? = some (Jvm.Cond.instanceMethod ({ cls := "PairedComingModel", name := "takes", desc := "(II)I" } : Jvm.MethodName)) := by decide +kernel
theorem tb_1423 : tables_1[1423]? = some (Jvm.Cond.code ({ cls := "PairedComingModel", name := "takes", desc := "(II)I" } : Jvm.MethodName) prog_13_method_37_code (6 : Nat) (Option.some Jvm.ClassFile.FieldType.int)) := by decide +kernel
theorem tb_1424 : tables_1[1424]? = some (Jvm.Cond.methodLink "PairedComingModel" (279 : Nat) ({ cls := "PairedComingModel", name := "valueNow", desc := "()I" } : Jvm.MethodName)) := by decide +kernel
theorem tb_1426 : tables_1[1426]? = some (Jvm.Cond.instanceMethod ({ cls := "PairedComingModel", name := "valueNow", desc := "()I" } : Jvm.MethodName)) := by decide +kernel
theorem tb_1427 : tables_1[1427]? = some (Jvm.Cond.code ({ cls := "PairedComingModel", name := "valueNow", desc := "()I" } : Jvm.MethodName) prog_13_method_39_code (3 : Nat) (Option.some Jvm.ClassFile.FieldType.int)) := by decide +kernel
theorem tb_1428 : tables_1[1428]? = some (Jvm.Cond.methodLink "PairedComingModel" (282 : Nat) ({ cls := "PairedComingModel", name := "keptNow", desc := "()I" } : Jvm.MethodName)) := by decide +kernel
theorem tb_1430 : tables_1[1430]? = some (Jvm.Cond.instanceMethod ({ cls := "PairedComingModel", name := "keptNow", desc := "()I" } : Jvm.MethodName)) := by decide +kernel
theorem tb_1431 : tables_1[1431]? = some (Jvm.Cond.code ({ cls := "PairedComingModel", name := "keptNow", desc := "()I" } : Jvm.MethodName) prog_13_method_40_code (3 : Nat) (Option.some Jvm.ClassFile.FieldType.int)) := by decide +kernel
theorem tb_1432 : tables_1[1432]? = some (Jvm.Cond.methodLink "PairedComingLaw" (71 : Nat) ({ cls := "PairedComingModel", name := "runBy", desc := "(II)I" } : Jvm.MethodName)) := by decide +kernel
theorem tb_1433 : tables_1[1433]? = some (Jvm.Cond.instanceMethod ({ cls := "PairedComingModel", name := "runBy", desc := "(II)I" } : Jvm.MethodName)) := by decide +kernel
theorem tb_1434 : tables_1[1434]? = some (Jvm.Cond.selects "PairedComingModel" ({ cls := "PairedComingModel", name := "runBy", desc := "(II)I" } : Jvm.MethodName) ({ cls := "PairedComingModel", name := "runBy", desc := "(II)I" } : Jvm.MethodName)) := by decide +kernel
theorem tb_1435 : tables_1[1435]? = some (Jvm.Cond.code ({ cls := "PairedComingModel", name := "runBy", desc := "(II)I" } : Jvm.MethodName) prog_13_method_44_code (6 : Nat) (Option.some Jvm.ClassFile.FieldType.int)) := by decide +kernel
theorem tb_1436 : tables_1[1436]? = some (Jvm.Cond.methodLink "PairedComingModel" (285 : Nat) ({ cls := "PairedComingModel", name := "runByOrder", desc := "(I)I" } : Jvm.MethodName)) := by decide +kernel
theorem tb_1438 : tables_1[1438]? = some (Jvm.Cond.instanceMethod ({ cls := "PairedComingModel", name := "runByOrder", desc := "(I)I" } : Jvm.MethodName)) := by decide +kernel
theorem tb_1439 : tables_1[1439]? = some (Jvm.Cond.code ({ cls := "PairedComingModel", name := "runByOrder", desc := "(I)I" } : Jvm.MethodName) prog_13_method_43_code (3 : Nat) (Option.some Jvm.ClassFile.FieldType.int)) := by decide +kernel
theorem tb_1440 : tables_1[1440]? = some (Jvm.Cond.methodLink "PairedComingLaw" (75 : Nat) ({ cls := "PairedComingModel", name := "best", desc := "()I" } : Jvm.MethodName)) := by decide +kernel
theorem tb_1441 : tables_1[1441]? = some (Jvm.Cond.instanceMethod ({ cls := "PairedComingModel", name := "best", desc := "()I" } : Jvm.MethodName)) := by decide +kernel
theorem tb_1442 : tables_1[1442]? = some (Jvm.Cond.selects "PairedComingModel" ({ cls := "PairedComingModel", name := "best", desc := "()I" } : Jvm.MethodName) ({ cls := "PairedComingModel", name := "best", desc := "()I" } : Jvm.MethodName)) := by decide +kernel
theorem tb_1443 : tables_1[1443]? = some (Jvm.Cond.code ({ cls := "PairedComingModel", name := "best", desc := "()I" } : Jvm.MethodName) prog_13_method_51_code (1 : Nat) (Option.some Jvm.ClassFile.FieldType.int)) := by decide +kernel
theorem tb_1444 : tables_1[1444]? = some (Jvm.Cond.methodLink "PairedComingModel" (305 : Nat) ({ cls := "PairedComingModel", name := "capsAsRooms", desc := "()V" } : Jvm.MethodName)) := by decide +kernel
theorem tb_1446 : tables_1[1446]? = some (Jvm.Cond.instanceMethod ({ cls := "PairedComingModel", name := "capsAsRooms", desc := "()V" } : Jvm.MethodName)) := by decide +kernel
theorem tb_1447 : tables_1[1447]? = some (Jvm.Cond.code ({ cls := "PairedComingModel", name := "capsAsRooms", desc := "()V" } : Jvm.MethodName) prog_13_method_49_code (2 : Nat) (Option.none : Option Jvm.ClassFile.FieldType)) := by decide +kernel
theorem tb_1448 : tables_1[1448]? = some (Jvm.Cond.methodLink "PairedComingModel" (295 : Nat) ({ cls := "PairedComingModel", name := "layFigures", desc := "()V" } : Jvm.MethodName)) := by decide +kernel
theorem tb_1450 : tables_1[1450]? = some (Jvm.Cond.instanceMethod ({ cls := "PairedComingModel", name := "layFigures", desc := "()V" } : Jvm.MethodName)) := by decide +kernel
theorem tb_1451 : tables_1[1451]? = some (Jvm.Cond.code ({ cls := "PairedComingModel", name := "layFigures", desc := "()V" } : Jvm.MethodName) prog_13_method_45_code (2 : Nat) (Option.none : Option Jvm.ClassFile.FieldType)) := by decide +kernel
theorem tb_1452 : tables_1[1452]? = some (Jvm.Cond.methodLink "PairedComingModel" (308 : Nat) ({ cls := "PairedComingModel", name := "bestSum", desc := "()I" } : Jvm.MethodName)) := by decide +kernel
theorem tb_1454 : tables_1[1454]? = some (Jvm.Cond.instanceMethod ({ cls := "PairedComingModel", name := "bestSum", desc := "()I" } : Jvm.MethodName)) := by decide +kernel
theorem tb_1455 : tables_1[1455]? = some (Jvm.Cond.code ({ cls := "PairedComingModel", name := "bestSum", desc := "()I" } : Jvm.MethodName) prog_13_method_50_code (1 : Nat) (Option.some Jvm.ClassFile.FieldType.int)) := by decide +kernel
theorem tb_1456 : tables_1[1456]? = some (Jvm.Cond.methodLink "PairedComingModel" (298 : Nat) ({ cls := "PairedComingModel", name := "layBest", desc := "(II)V" } : Jvm.MethodName)) := by decide +kernel
theorem tb_1458 : tables_1[1458]? = some (Jvm.Cond.instanceMethod ({ cls := "PairedComingModel", name := "layBest", desc := "(II)V" } : Jvm.MethodName)) := by decide +kernel
theorem tb_1459 : tables_1[1459]? = some (Jvm.Cond.code ({ cls := "PairedComingModel", name := "layBest", desc := "(II)V" } : Jvm.MethodName) prog_13_method_48_code (9 : Nat) (Option.none : Option Jvm.ClassFile.FieldType)) := by decide +kernel
theorem tb_1460 : tables_1[1460]? = some (Jvm.Cond.methodLink "PairedComingModel" (291 : Nat) ({ cls := "PairedComingModel", name := "hasRoom", desc := "(II)Z" } : Jvm.MethodName)) := by decide +kernel
theorem tb_1462 : tables_1[1462]? = some (Jvm.Cond.instanceMethod ({ cls := "PairedComingModel", name := "hasRoom", desc := "(II)Z" } : Jvm.MethodName)) := by decide +kernel
theorem tb_1463 : tables_1[1463]? = some (Jvm.Cond.code ({ cls := "PairedComingModel", name := "hasRoom", desc := "(II)Z" } : Jvm.MethodName) prog_13_method_46_code (3 : Nat) (Option.some Jvm.ClassFile.FieldType.boolean)) := by decide +kernel
theorem tb_1464 : tables_1[1464]? = some (Jvm.Cond.methodLink "PairedComingModel" (302 : Nat) ({ cls := "PairedComingModel", name := "whole", desc := "()I" } : Jvm.MethodName)) := by decide +kernel
theorem tb_1466 : tables_1[1466]? = some (Jvm.Cond.instanceMethod ({ cls := "PairedComingModel", name := "whole", desc := "()I" } : Jvm.MethodName)) := by decide +kernel
theorem tb_1467 : tables_1[1467]? = some (Jvm.Cond.code ({ cls := "PairedComingModel", name := "whole", desc := "()I" } : Jvm.MethodName) prog_13_method_47_code (1 : Nat) (Option.some Jvm.ClassFile.FieldType.int)) := by decide +kernel
theorem tb_1468 : tables_1[1468]? = some (Jvm.Cond.methodLink "PairedComingLaw" (79 : Nat) ({ cls := "PairedComingModel", name := "bestOf", desc := "(I)I" } : Jvm.MethodName)) := by decide +kernel
theorem tb_1469 : tables_1[1469]? = some (Jvm.Cond.instanceMethod ({ cls := "PairedComingModel", name := "bestOf", desc := "(I)I" } : Jvm.MethodName)) := by decide +kernel
theorem tb_1470 : tables_1[1470]? = some (Jvm.Cond.selects "PairedComingModel" ({ cls := "PairedComingModel", name := "bestOf", desc := "(I)I" } : Jvm.MethodName) ({ cls := "PairedComingModel", name := "bestOf", desc := "(I)I" } : Jvm.MethodName)) := by decide +kernel
theorem tb_1471 : tables_1[1471]? = some (Jvm.Cond.code ({ cls := "PairedComingModel", name := "bestOf", desc := "(I)I" } : Jvm.MethodName) prog_13_method_53_code (2 : Nat) (Option.some Jvm.ClassFile.FieldType.int)) := by decide +kernel
theorem tb_1472 : tables_1[1472]? = some (Jvm.Cond.methodLink "PairedComingModel" (311 : Nat) ({ cls := "PairedComingModel", name := "layPairs", desc := "(III)I" } : Jvm.MethodName)) := by decide +kernel
theorem tb_1474 : tables_1[1474]? = some (Jvm.Cond.instanceMethod ({ cls := "PairedComingModel", name := "layPairs", desc := "(III)I" } : Jvm.MethodName)) := by decide +kernel
theorem tb_1475 : tables_1[1475]? = some (Jvm.Cond.code ({ cls := "PairedComingModel", name := "layPairs", desc := "(III)I" } : Jvm.MethodName) prog_13_method_52_code (8 : Nat) (Option.some Jvm.ClassFile.FieldType.int)) := by decide +kernel
theorem tb_1476 : tables_1[1476]? = some (Jvm.Cond.methodLink "PairedComingLaw" (83 : Nat) ({ cls := "PairedComingModel", name := "price", desc := "(I)I" } : Jvm.MethodName)) := by decide +kernel
theorem tb_1477 : tables_1[1477]? = some (Jvm.Cond.instanceMethod ({ cls := "PairedComingModel", name := "price", desc := "(I)I" } : Jvm.MethodName)) := by decide +kernel
theorem tb_1478 : tables_1[1478]? = some (Jvm.Cond.selects "PairedComingModel" ({ cls := "PairedComingModel", name := "price", desc := "(I)I" } : Jvm.MethodName) ({ cls := "PairedComingModel", name := "price", desc := "(I)I" } : Jvm.MethodName)) := by decide +kernel
theorem tb_1479 : tables_1[1479]? = some (Jvm.Cond.code ({ cls := "PairedComingModel", name := "price", desc := "(I)I" } : Jvm.MethodName) prog_13_method_54_code (3 : Nat) (Option.some Jvm.ClassFile.FieldType.int)) := by decide +kernel
theorem tb_1480 : tables_1[1480]? = some (Jvm.Cond.methodLink "PairedComingModel" (314 : Nat) ({ cls := "PairedComingModel", name := "best", desc := "()I" } : Jvm.MethodName)) := by decide +kernel
theorem tb_1481 : tables_1[1481]? = some (Jvm.Cond.methodLink "PairedComingLaw" (87 : Nat) ({ cls := "PairedComingModel", name := "cover", desc := "(J)I" } : Jvm.MethodName)) := by decide +kernel
theorem tb_1482 : tables_1[1482]? = some (Jvm.Cond.instanceMethod ({ cls := "PairedComingModel", name := "cover", desc := "(J)I" } : Jvm.MethodName)) := by decide +kernel
theorem tb_1483 : tables_1[1483]? = some (Jvm.Cond.selects "PairedComingModel" ({ cls := "PairedComingModel", name := "cover", desc := "(J)I" } : Jvm.MethodName) ({ cls := "PairedComingModel", name := "cover", desc := "(J)I" } : Jvm.MethodName)) := by decide +kernel
theorem tb_1484 : tables_1[1484]? = some (Jvm.Cond.code ({ cls := "PairedComingModel", name := "cover", desc := "(J)I" } : Jvm.MethodName) prog_13_method_55_code (12 : Nat) (Option.some Jvm.ClassFile.FieldType.int)) := by decide +kernel
theorem tb_1485 : tables_1[1485]? = some (Jvm.Cond.constantLong "PairedComingModel" (316 : Nat) (100 : Int64)) := by decide +kernel
theorem tb_1486 : tables_1[1486]? = some (Jvm.Cond.methodLink "PairedComingLaw" (91 : Nat) ({ cls := "PairedComingModel", name := "share", desc := "(III)I" } : Jvm.MethodName)) := by decide +kernel
theorem tb_1487 : tables_1[1487]? = some (Jvm.Cond.instanceMethod ({ cls := "PairedComingModel", name := "share", desc := "(III)I" } : Jvm.MethodName)) := by decide +kernel
theorem tb_1488 : tables_1[1488]? = some (Jvm.Cond.selects "PairedComingModel" ({ cls := "PairedComingModel", name := "share", desc := "(III)I" } : Jvm.MethodName) ({ cls := "PairedComingModel", name := "share", desc := "(III)I" } : Jvm.MethodName)) := by decide +kernel
theorem tb_1489 : tables_1[1489]? = some (Jvm.Cond.code ({ cls := "PairedComingModel", name := "share", desc := "(III)I" } : Jvm.MethodName) prog_13_method_56_code (4 : Nat) (Option.some Jvm.ClassFile.FieldType.int)) := by decide +kernel
theorem tb_1490 : tables_1[1490]? = some (Jvm.Cond.methodLink "PairedComingLaw" (96 : Nat) ({ cls := "PairedComingModel", name := "mean", desc := "(II)J" } : Jvm.MethodName)) := by decide +kernel
theorem tb_1491 : tables_1[1491]? = some (Jvm.Cond.instanceMethod ({ cls := "PairedComingModel", name := "mean", desc := "(II)J" } : Jvm.MethodName)) := by decide +kernel
theorem tb_1492 : tables_1[1492]? = some (Jvm.Cond.selects "PairedComingModel" ({ cls := "PairedComingModel", name := "mean", desc := "(II)J" } : Jvm.MethodName) ({ cls := "PairedComingModel", name := "mean", desc := "(II)J" } : Jvm.MethodName)) := by decide +kernel
theorem tb_1493 : tables_1[1493]? = some (Jvm.Cond.code ({ cls := "PairedComingModel", name := "mean", desc := "(II)J" } : Jvm.MethodName) prog_13_method_62_code (3 : Nat) (Option.some Jvm.ClassFile.FieldType.long)) := by decide +kernel
theorem tb_1494 : tables_1[1494]? = some (Jvm.Cond.constantLong "PairedComingModel" (340 : Nat) (-1 : Int64)) := by decide +kernel
theorem tb_1495 : tables_1[1495]? = some (Jvm.Cond.constantLong "PairedComingModel" (342 : Nat) (-2 : Int64)) := by decide +kernel
theorem tb_1496 : tables_1[1496]? = some (Jvm.Cond.methodLink "PairedComingModel" (344 : Nat) ({ cls := "PairedComingModel", name := "layMean", desc := "(I)V" } : Jvm.MethodName)) := by decide +kernel
theorem tb_1498 : tables_1[1498]? = some (Jvm.Cond.instanceMethod ({ cls := "PairedComingModel", name := "layMean", desc := "(I)V" } : Jvm.MethodName)) := by decide +kernel
theorem tb_1499 : tables_1[1499]? = some (Jvm.Cond.code ({ cls := "PairedComingModel", name := "layMean", desc := "(I)V" } : Jvm.MethodName) prog_13_method_61_code (4 : Nat) (Option.none : Option Jvm.ClassFile.FieldType)) := by decide +kernel
theorem tb_1500 : tables_1[1500]? = some (Jvm.Cond.methodLink "PairedComingModel" (321 : Nat) ({ cls := "PairedComingModel", name := "firstOrder", desc := "()V" } : Jvm.MethodName)) := by decide +kernel
theorem tb_1502 : tables_1[1502]? = some (Jvm.Cond.instanceMethod ({ cls := "PairedComingModel", name := "firstOrder", desc := "()V" } : Jvm.MethodName)) := by decide +kernel
theorem tb_1503 : tables_1[1503]? = some (Jvm.Cond.code ({ cls := "PairedComingModel", name := "firstOrder", desc := "()V" } : Jvm.MethodName) prog_13_method_58_code (2 : Nat) (Option.none : Option Jvm.ClassFile.FieldType)) := by decide +kernel
theorem tb_1504 : tables_1[1504]? = some (Jvm.Cond.methodLink "PairedComingModel" (337 : Nat) ({ cls := "PairedComingModel", name := "nextOrder", desc := "(I)Z" } : Jvm.MethodName)) := by decide +kernel
theorem tb_1506 : tables_1[1506]? = some (Jvm.Cond.instanceMethod ({ cls := "PairedComingModel", name := "nextOrder", desc := "(I)Z" } : Jvm.MethodName)) := by decide +kernel
theorem tb_1507 : tables_1[1507]? = some (Jvm.Cond.code ({ cls := "PairedComingModel", name := "nextOrder", desc := "(I)Z" } : Jvm.MethodName) prog_13_method_59_code (6 : Nat) (Option.some Jvm.ClassFile.FieldType.boolean)) := by decide +kernel
theorem tb_1508 : tables_1[1508]? = some (Jvm.Cond.methodLink "PairedComingModel" (318 : Nat) ({ cls := "PairedComingModel", name := "change", desc := "(II)V" } : Jvm.MethodName)) := by decide +kernel
theorem tb_1510 : tables_1[1510]? = some (Jvm.Cond.instanceMethod ({ cls := "PairedComingModel", name := "change", desc := "(II)V" } : Jvm.MethodName)) := by decide +kernel
theorem tb_1511 : tables_1[1511]? = some (Jvm.Cond.code ({ cls := "PairedComingModel", name := "change", desc := "(II)V" } : Jvm.MethodName) prog_13_method_60_code (4 : Nat) (Option.none : Option Jvm.ClassFile.FieldType)) := by decide +kernel
theorem tb_1512 : tables_1[1512]? = some (Jvm.Cond.methodLink "PairedComingModel" (347 : Nat) ({ cls := "PairedComingModel", name := "lowest", desc := "(JJI)J" } : Jvm.MethodName)) := by decide +kernel
theorem tb_1513 : tables_1[1513]? = some (Jvm.Cond.static ({ cls := "PairedComingModel", name := "lowest", desc := "(JJI)J" } : Jvm.MethodName)) := by decide +kernel
theorem tb_1514 : tables_1[1514]? = some (Jvm.Cond.code ({ cls := "PairedComingModel", name := "lowest", desc := "(JJI)J" } : Jvm.MethodName) prog_13_method_57_code (11 : Nat) (Option.some Jvm.ClassFile.FieldType.long)) := by decide +kernel
theorem tb_1515 : tables_1[1515]? = some (Jvm.Cond.methodLink "PairedComingLaw" (100 : Nat) ({ cls := "PairedComingModel", name := "ends", desc := "(II)I" } : Jvm.MethodName)) := by decide +kernel
theorem tb_1516 : tables_1[1516]? = some (Jvm.Cond.instanceMethod ({ cls := "PairedComingModel", name := "ends", desc := "(II)I" } : Jvm.MethodName)) := by decide +kernel
theorem tb_1517 : tables_1[1517]? = some (Jvm.Cond.selects "PairedComingModel" ({ cls := "PairedComingModel", name := "ends", desc := "(II)I" } : Jvm.MethodName) ({ cls := "PairedComingModel", name := "ends", desc := "(II)I" } : Jvm.MethodName)) := by decide +kernel
theorem tb_1518 : tables_1[1518]? = some (Jvm.Cond.code ({ cls := "PairedComingModel", name := "ends", desc := "(II)I" } : Jvm.MethodName) prog_13_method_63_code (3 : Nat) (Option.some Jvm.ClassFile.FieldType.int)) := by decide +kernel
theorem tb_1519 : tables_1[1519]? = some (Jvm.Cond.methodLink "PairedComingLaw" (104 : Nat) ({ cls := "PairedComingModel", name := "meanOfRanks", desc := "(II)J" } : Jvm.MethodName)) := by decide +kernel
theorem tb_1520 : tables_1[1520]? = some (Jvm.Cond.instanceMethod ({ cls := "PairedComingModel", name := "meanOfRanks", desc := "(II)J" } : Jvm.MethodName)) := by decide +kernel
theorem tb_1521 : tables_1[1521]? = some (Jvm.Cond.selects "PairedComingModel" ({ cls := "PairedComingModel", name := "meanOfRanks", desc := "(II)J" } : Jvm.MethodName) ({ cls := "PairedComingModel", name := "meanOfRanks", desc := "(II)J" } : Jvm.MethodName)) := by decide +kernel
theorem tb_1522 : tables_1[1522]? = some (Jvm.Cond.code ({ cls := "PairedComingModel", name := "meanOfRanks", desc := "(II)J" } : Jvm.MethodName) prog_13_method_64_code (9 : Nat) (Option.some Jvm.ClassFile.FieldType.long)) := by decide +kernel
theorem tb_1523 : tables_1[1523]? = some (Jvm.Cond.methodLink "PairedComingLaw" (108 : Nat) ({ cls := "PairedComingModel", name := "hope", desc := "(II)J" } : Jvm.MethodName)) := by decide +kernel
theorem tb_1524 : tables_1[1524]? = some (Jvm.Cond.instanceMethod ({ cls := "PairedComingModel", name := "hope", desc := "(II)J" } : Jvm.MethodName)) := by decide +kernel
theorem tb_1525 : tables_1[1525]? = some (Jvm.Cond.selects "PairedComingModel" ({ cls := "PairedComingModel", name := "hope", desc := "(II)J" } : Jvm.MethodName) ({ cls := "PairedComingModel", name := "hope", desc := "(II)J" } : Jvm.MethodName)) := by decide +kernel
theorem tb_1526 : tables_1[1526]? = some (Jvm.Cond.code ({ cls := "PairedComingModel", name := "hope", desc := "(II)J" } : Jvm.MethodName) prog_13_method_68_code (3 : Nat) (Option.some Jvm.ClassFile.FieldType.long)) := by decide +kernel
theorem tb_1527 : tables_1[1527]? = some (Jvm.Cond.methodLink "PairedComingModel" (351 : Nat) ({ cls := "PairedComingModel", name := "chanceSum", desc := "()I" } : Jvm.MethodName)) := by decide +kernel
theorem tb_1529 : tables_1[1529]? = some (Jvm.Cond.instanceMethod ({ cls := "PairedComingModel", name := "chanceSum", desc := "()I" } : Jvm.MethodName)) := by decide +kernel
theorem tb_1530 : tables_1[1530]? = some (Jvm.Cond.code ({ cls := "PairedComingModel", name := "chanceSum", desc := "()I" } : Jvm.MethodName) prog_13_method_65_code (3 : Nat) (Option.some Jvm.ClassFile.FieldType.int)) := by decide +kernel
theorem tb_1531 : tables_1[1531]? = some (Jvm.Cond.methodLink "PairedComingModel" (358 : Nat) ({ cls := "PairedComingModel", name := "layHopes", desc := "(I)V" } : Jvm.MethodName)) := by decide +kernel
theorem tb_1533 : tables_1[1533]? = some (Jvm.Cond.instanceMethod ({ cls := "PairedComingModel", name := "layHopes", desc := "(I)V" } : Jvm.MethodName)) := by decide +kernel
theorem tb_1534 : tables_1[1534]? = some (Jvm.Cond.code ({ cls := "PairedComingModel", name := "layHopes", desc := "(I)V" } : Jvm.MethodName) prog_13_method_67_code (12 : Nat) (Option.none : Option Jvm.ClassFile.FieldType)) := by decide +kernel
theorem tb_1535 : tables_1[1535]? = some (Jvm.Cond.methodLink "PairedComingModel" (354 : Nat) ({ cls := "PairedComingModel", name := "pairing", desc := "(IIII)J" } : Jvm.MethodName)) := by decide +kernel
theorem tb_1537 : tables_1[1537]? = some (Jvm.Cond.instanceMethod ({ cls := "PairedComingModel", name := "pairing", desc := "(IIII)J" } : Jvm.MethodName)) := by decide +kernel
theorem tb_1538 : tables_1[1538]? = some (Jvm.Cond.code ({ cls := "PairedComingModel", name := "pairing", desc := "(IIII)J" } : Jvm.MethodName) prog_13_method_66_code (6 : Nat) (Option.some Jvm.ClassFile.FieldType.long)) := by decide +kernel
theorem tb_1539 : tables_1[1539]? = some (Jvm.Cond.methodLink "PairedComingLaw" (112 : Nat) ({ cls := "PairedComingModel", name := "hopeFor", desc := "(II)I" } : Jvm.MethodName)) := by decide +kernel
theorem tb_1540 : tables_1[1540]? = some (Jvm.Cond.instanceMethod ({ cls := "PairedComingModel", name := "hopeFor", desc := "(II)I" } : Jvm.MethodName)) := by decide +kernel
theorem tb_1541 : tables_1[1541]? = some (Jvm.Cond.selects "PairedComingModel" ({ cls := "PairedComingModel", name := "hopeFor", desc := "(II)I" } : Jvm.MethodName) ({ cls := "PairedComingModel", name := "hopeFor", desc := "(II)I" } : Jvm.MethodName)) := by decide +kernel
theorem tb_1542 : tables_1[1542]? = some (Jvm.Cond.code ({ cls := "PairedComingModel", name := "hopeFor", desc := "(II)I" } : Jvm.MethodName) prog_13_method_69_code (9 : Nat) (Option.some Jvm.ClassFile.FieldType.int)) := by decide +kernel
theorem tb_1543 : tables_1[1543]? = some (Jvm.Cond.methodLink "PairedComingLaw" (116 : Nat) ({ cls := "PairedComingModel", name := "batch", desc := "(II)I" } : Jvm.MethodName)) := by decide +kernel
theorem tb_1544 : tables_1[1544]? = some (Jvm.Cond.instanceMethod ({ cls := "PairedComingModel", name := "batch", desc := "(II)I" } : Jvm.MethodName)) := by decide +kernel
theorem tb_1545 : tables_1[1545]? = some (Jvm.Cond.selects "PairedComingModel" ({ cls := "PairedComingModel", name := "batch", desc := "(II)I" } : Jvm.MethodName) ({ cls := "PairedComingModel", name := "batch", desc := "(II)I" } : Jvm.MethodName)) := by decide +kernel
theorem tb_1546 : tables_1[1546]? = some (Jvm.Cond.code ({ cls := "PairedComingModel", name := "batch", desc := "(II)I" } : Jvm.MethodName) prog_13_method_70_code (7 : Nat) (Option.some Jvm.ClassFile.FieldType.int)) := by decide +kernel
theorem tb_1547 : tables_1[1547]? = some (Jvm.Cond.methodLink "PairedComingLaw" (120 : Nat) ({ cls := "PairedComingModel", name := "worst", desc := "(III)I" } : Jvm.MethodName)) := by decide +kernel
theorem tb_1548 : tables_1[1548]? = some (Jvm.Cond.instanceMethod ({ cls := "PairedComingModel", name := "worst", desc := "(III)I" } : Jvm.MethodName)) := by decide +kernel
theorem tb_1549 : tables_1[1549]? = some (Jvm.Cond.selects "PairedComingModel" ({ cls := "PairedComingModel", name := "worst", desc := "(III)I" } : Jvm.MethodName) ({ cls := "PairedComingModel", name := "worst", desc := "(III)I" } : Jvm.MethodName)) := by decide +kernel
theorem tb_1550 : tables_1[1550]? = some (Jvm.Cond.code ({ cls := "PairedComingModel", name := "worst", desc := "(III)I" } : Jvm.MethodName) prog_13_method_73_code (11 : Nat) (Option.some Jvm.ClassFile.FieldType.int)) := by decide +kernel
theorem tb_1551 : tables_1[1551]? = some (Jvm.Cond.methodLink "PairedComingModel" (361 : Nat) ({ cls := "PairedComingModel", name := "loadNet", desc := "(II)V" } : Jvm.MethodName)) := by decide +kernel
theorem tb_1553 : tables_1[1553]? = some (Jvm.Cond.instanceMethod ({ cls := "PairedComingModel", name := "loadNet", desc := "(II)V" } : Jvm.MethodName)) := by decide +kernel
theorem tb_1554 : tables_1[1554]? = some (Jvm.Cond.code ({ cls := "PairedComingModel", name := "loadNet", desc := "(II)V" } : Jvm.MethodName) prog_13_method_71_code (5 : Nat) (Option.none : Option Jvm.ClassFile.FieldType)) := by decide +kernel
theorem tb_1555 : tables_1[1555]? = some (Jvm.Cond.methodLink "PairedComingModel" (364 : Nat) ({ cls := "PairedComingModel", name := "mostPairs", desc := "(I)I" } : Jvm.MethodName)) := by decide +kernel
theorem tb_1557 : tables_1[1557]? = some (Jvm.Cond.instanceMethod ({ cls := "PairedComingModel", name := "mostPairs", desc := "(I)I" } : Jvm.MethodName)) := by decide +kernel
theorem tb_1558 : tables_1[1558]? = some (Jvm.Cond.code ({ cls := "PairedComingModel", name := "mostPairs", desc := "(I)I" } : Jvm.MethodName) prog_13_method_72_code (11 : Nat) (Option.some Jvm.ClassFile.FieldType.int)) := by decide +kernel
theorem tb_1559 : tables_1[1559]? = some (Jvm.Cond.methodLink "PairedComingLaw" (124 : Nat) ({ cls := "PairedComingModel", name := "come", desc := "(II)I" } : Jvm.MethodName)) := by decide +kernel
theorem tb_1560 : tables_1[1560]? = some (Jvm.Cond.instanceMethod ({ cls := "PairedComingModel", name := "come", desc := "(II)I" } : Jvm.MethodName)) := by decide +kernel
theorem tb_1561 : tables_1[1561]? = some (Jvm.Cond.selects "PairedComingModel" ({ cls := "PairedComingModel", name := "come", desc := "(II)I" } : Jvm.MethodName) ({ cls := "PairedComingModel", name := "come", desc := "(II)I" } : Jvm.MethodName)) := by decide +kernel
theorem tb_1562 : tables_1[1562]? = some (Jvm.Cond.code ({ cls := "PairedComingModel", name := "come", desc := "(II)I" } : Jvm.MethodName) prog_13_method_78_code (4 : Nat) (Option.some Jvm.ClassFile.FieldType.int)) := by decide +kernel
theorem tb_1563 : tables_1[1563]? = some (Jvm.Cond.methodLink "PairedComingModel" (373 : Nat) ({ cls := "PairedComingModel", name := "record", desc := "()V" } : Jvm.MethodName)) := by decide +kernel
theorem tb_1565 : tables_1[1565]? = some (Jvm.Cond.instanceMethod ({ cls := "PairedComingModel", name := "record", desc := "()V" } : Jvm.MethodName)) := by decide +kernel
theorem tb_1566 : tables_1[1566]? = some (Jvm.Cond.code ({ cls := "PairedComingModel", name := "record", desc := "()V" } : Jvm.MethodName) prog_13_method_75_code (3 : Nat) (Option.none : Option Jvm.ClassFile.FieldType)) := by decide +kernel
theorem tb_1567 : tables_1[1567]? = some (Jvm.Cond.methodLink "PairedComingModel" (376 : Nat) ({ cls := "PairedComingModel", name := "loadMarket", desc := "()V" } : Jvm.MethodName)) := by decide +kernel
theorem tb_1569 : tables_1[1569]? = some (Jvm.Cond.instanceMethod ({ cls := "PairedComingModel", name := "loadMarket", desc := "()V" } : Jvm.MethodName)) := by decide +kernel
theorem tb_1570 : tables_1[1570]? = some (Jvm.Cond.code ({ cls := "PairedComingModel", name := "loadMarket", desc := "()V" } : Jvm.MethodName) prog_13_method_76_code (2 : Nat) (Option.none : Option Jvm.ClassFile.FieldType)) := by decide +kernel
theorem tb_1571 : tables_1[1571]? = some (Jvm.Cond.methodLink "PairedComingModel" (379 : Nat) ({ cls := "PairedComingModel", name := "storeMarket", desc := "()V" } : Jvm.MethodName)) := by decide +kernel
theorem tb_1573 : tables_1[1573]? = some (Jvm.Cond.instanceMethod ({ cls := "PairedComingModel", name := "storeMarket", desc := "()V" } : Jvm.MethodName)) := by decide +kernel
theorem tb_1574 : tables_1[1574]? = some (Jvm.Cond.code ({ cls := "PairedComingModel", name := "storeMarket", desc := "()V" } : Jvm.MethodName) prog_13_method_77_code (2 : Nat) (Option.none : Option Jvm.ClassFile.FieldType)) := by decide +kernel
theorem tb_1575 : tables_1[1575]? = some (Jvm.Cond.methodLink "PairedComingLaw" (128 : Nat) ({ cls := "PairedComingModel", name := "let", desc := "(II)I" } : Jvm.MethodName)) := by decide +kernel
theorem tb_1576 : tables_1[1576]? = some (Jvm.Cond.instanceMethod ({ cls := "PairedComingModel", name := "let", desc := "(II)I" } : Jvm.MethodName)) := by decide +kernel
theorem tb_1577 : tables_1[1577]? = some (Jvm.Cond.selects "PairedComingModel" ({ cls := "PairedComingModel", name := "let", desc := "(II)I" } : Jvm.MethodName) ({ cls := "PairedComingModel", name := "let", desc := "(II)I" } : Jvm.MethodName)) := by decide +kernel
theorem tb_1578 : tables_1[1578]? = some (Jvm.Cond.code ({ cls := "PairedComingModel", name := "let", desc := "(II)I" } : Jvm.MethodName) prog_13_method_79_code (4 : Nat) (Option.some Jvm.ClassFile.FieldType.int)) := by decide +kernel
theorem tb_1579 : tables_1[1579]? = some (Jvm.Cond.methodLink "PairedComingLaw" (132 : Nat) ({ cls := "PairedComingModel", name := "leave", desc := "(I)I" } : Jvm.MethodName)) := by decide +kernel
theorem tb_1580 : tables_1[1580]? = some (Jvm.Cond.instanceMethod ({ cls := "PairedComingModel", name := "leave", desc := "(I)I" } : Jvm.MethodName)) := by decide +kernel
theorem tb_1581 : tables_1[1581]? = some (Jvm.Cond.selects "PairedComingModel" ({ cls := "PairedComingModel", name := "leave", desc := "(I)I" } : Jvm.MethodName) ({ cls := "PairedComingModel", name := "leave", desc := "(I)I" } : Jvm.MethodName)) := by decide +kernel
theorem tb_1582 : tables_1[1582]? = some (Jvm.Cond.code ({ cls := "PairedComingModel", name := "leave", desc := "(I)I" } : Jvm.MethodName) prog_13_method_80_code (3 : Nat) (Option.some Jvm.ClassFile.FieldType.int)) := by decide +kernel
theorem tb_1583 : tables_1[1583]? = some (Jvm.Cond.methodLink "PairedComingLaw" (136 : Nat) ({ cls := "PairedComingModel", name := "undo", desc := "()I" } : Jvm.MethodName)) := by decide +kernel
theorem tb_1584 : tables_1[1584]? = some (Jvm.Cond.instanceMethod ({ cls := "PairedComingModel", name := "undo", desc := "()I" } : Jvm.MethodName)) := by decide +kernel
theorem tb_1585 : tables_1[1585]? = some (Jvm.Cond.selects "PairedComingModel" ({ cls := "PairedComingModel", name := "undo", desc := "()I" } : Jvm.MethodName) ({ cls := "PairedComingModel", name := "undo", desc := "()I" } : Jvm.MethodName)) := by decide +kernel
theorem tb_1586 : tables_1[1586]? = some (Jvm.Cond.code ({ cls := "PairedComingModel", name := "undo", desc := "()I" } : Jvm.MethodName) prog_13_method_81_code (3 : Nat) (Option.some Jvm.ClassFile.FieldType.int)) := by decide +kernel
theorem tb_1587 : tables_1[1587]? = some (Jvm.Cond.methodLink "PairedComingLaw" (140 : Nat) ({ cls := "PairedComingModel", name := "market", desc := "(I)I" } : Jvm.MethodName)) := by decide +kernel
theorem tb_1588 : tables_1[1588]? = some (Jvm.Cond.instanceMethod ({ cls := "PairedComingModel", name := "market", desc := "(I)I" } : Jvm.MethodName)) := by decide +kernel
theorem tb_1589 : tables_1[1589]? = some (Jvm.Cond.selects "PairedComingModel" ({ cls := "PairedComingModel", name := "market", desc := "(I)I" } : Jvm.MethodName) ({ cls := "PairedComingModel", name := "market", desc := "(I)I" } : Jvm.MethodName)) := by decide +kernel
theorem tb_1590 : tables_1[1590]? = some (Jvm.Cond.code ({ cls := "PairedComingModel", name := "market", desc := "(I)I" } : Jvm.MethodName) prog_13_method_82_code (4 : Nat) (Option.some Jvm.ClassFile.FieldType.int)) := by decide +kernel
theorem tb_1591 : tables_1[1591]? = some (Jvm.Cond.constantLong "PairedComingModel" (382 : Nat) (4 : Int64)) := by decide +kernel
theorem tb_1592 : tables_1[1592]? = some (Jvm.Cond.methodLink "PairedComingLaw" (144 : Nat) ({ cls := "PairedComingModel", name := "sheet", desc := "(III)I" } : Jvm.MethodName)) := by decide +kernel
theorem tb_1593 : tables_1[1593]? = some (Jvm.Cond.instanceMethod ({ cls := "PairedComingModel", name := "sheet", desc := "(III)I" } : Jvm.MethodName)) := by decide +kernel
theorem tb_1594 : tables_1[1594]? = some (Jvm.Cond.selects "PairedComingModel" ({ cls := "PairedComingModel", name := "sheet", desc := "(III)I" } : Jvm.MethodName) ({ cls := "PairedComingModel", name := "sheet", desc := "(III)I" } : Jvm.MethodName)) := by decide +kernel
theorem tb_1595 : tables_1[1595]? = some (Jvm.Cond.code ({ cls := "PairedComingModel", name := "sheet", desc := "(III)I" } : Jvm.MethodName) prog_13_method_83_code (5 : Nat) (Option.some Jvm.ClassFile.FieldType.int)) := by decide +kernel
theorem tb_1596 : tables_1[1596]? = some (Jvm.Cond.constantLong "PairedComingModel" (384 : Nat) (2 : Int64)) := by decide +kernel
theorem tb_1597 : tables_1[1597]? = some (Jvm.Cond.methodLink "PairedComingLaw" (148 : Nat) ({ cls := "PairedComingModel", name := "lay", desc := "(III)I" } : Jvm.MethodName)) := by decide +kernel
theorem tb_1598 : tables_1[1598]? = some (Jvm.Cond.instanceMethod ({ cls := "PairedComingModel", name := "lay", desc := "(III)I" } : Jvm.MethodName)) := by decide +kernel
theorem tb_1599 : tables_1[1599]? = some (Jvm.Cond.selects "PairedComingModel" ({ cls := "PairedComingModel", name := "lay", desc := "(III)I" } : Jvm.MethodName) ({ cls := "PairedComingModel", name := "lay", desc := "(III)I" } : Jvm.MethodName)) := by decide +kernel
theorem tb_1600 : tables_1[1600]? = some (Jvm.Cond.code ({ cls := "PairedComingModel", name := "lay", desc := "(III)I" } : Jvm.MethodName) prog_13_method_84_code (4 : Nat) (Option.some Jvm.ClassFile.FieldType.int)) := by decide +kernel
theorem tb_1601 : tables_1[1601]? = some (Jvm.Cond.methodLink "PairedComingLaw" (152 : Nat) ({ cls := "PairedComingModel", name := "net", desc := "(III)I" } : Jvm.MethodName)) := by decide +kernel
theorem tb_1602 : tables_1[1602]? = some (Jvm.Cond.instanceMethod ({ cls := "PairedComingModel", name := "net", desc := "(III)I" } : Jvm.MethodName)) := by decide +kernel
theorem tb_1603 : tables_1[1603]? = some (Jvm.Cond.selects "PairedComingModel" ({ cls := "PairedComingModel", name := "net", desc := "(III)I" } : Jvm.MethodName) ({ cls := "PairedComingModel", name := "net", desc := "(III)I" } : Jvm.MethodName)) := by decide +kernel
theorem tb_1604 : tables_1[1604]? = some (Jvm.Cond.code ({ cls := "PairedComingModel", name := "net", desc := "(III)I" } : Jvm.MethodName) prog_13_method_85_code (8 : Nat) (Option.some Jvm.ClassFile.FieldType.int)) := by decide +kernel
theorem tb_1605 : tables_1[1605]? = some (Jvm.Cond.methodLink "PairedComingLaw" (156 : Nat) ({ cls := "PairedComingModel", name := "count", desc := "(I)I" } : Jvm.MethodName)) := by decide +kernel
theorem tb_1606 : tables_1[1606]? = some (Jvm.Cond.instanceMethod ({ cls := "PairedComingModel", name := "count", desc := "(I)I" } : Jvm.MethodName)) := by decide +kernel
theorem tb_1607 : tables_1[1607]? = some (Jvm.Cond.selects "PairedComingModel" ({ cls := "PairedComingModel", name := "count", desc := "(I)I" } : Jvm.MethodName) ({ cls := "PairedComingModel", name := "count", desc := "(I)I" } : Jvm.MethodName)) := by decide +kernel
theorem tb_1608 : tables_1[1608]? = some (Jvm.Cond.code ({ cls := "PairedComingModel", name := "count", desc := "(I)I" } : Jvm.MethodName) prog_13_method_86_code (4 : Nat) (Option.some Jvm.ClassFile.FieldType.int)) := by decide +kernel
theorem tb_1609 : tables_1[1609]? = some (Jvm.Cond.constantLong "PairedComingLaw" (40 : Nat) (4294967295 : Int64)) := by decide +kernel
theorem tb_1610 : tables_1[1610]? = some (Jvm.Cond.fieldLink "java/lang/String" (15 : Nat) "java/lang/String" "coder" "B") := by decide +kernel
theorem tb_1611 : tables_1[1611]? = some (Jvm.Cond.fieldLink "java/lang/String" (9 : Nat) "java/lang/String" "value" "[B") := by decide +kernel
