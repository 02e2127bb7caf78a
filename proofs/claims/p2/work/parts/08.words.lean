-- words of the tables, by wip/tools/words.py
theorem mw_0 : Cond.initialized "ConeDeskLaw" ∈ lw_tbl := List.mem_append_right _ (List.mem_of_getElem? (i := 0) (by decide +kernel))
theorem mw_1 : Cond.initialized "ConeDesk" ∈ lw_tbl := List.mem_append_right _ (List.mem_of_getElem? (i := 1) (by decide +kernel))
theorem mw_2 : Cond.initialized "java/lang/Math" ∈ lw_tbl := List.mem_append_right _ (List.mem_of_getElem? (i := 2) (by decide +kernel))
theorem mw_3 : Cond.initialized "ConeDesk$PointList" ∈ lw_tbl := List.mem_append_right _ (List.mem_of_getElem? (i := 3) (by decide +kernel))
theorem mw_4 : Cond.initialized "ConeDesk$Minors" ∈ lw_tbl := List.mem_append_right _ (List.mem_of_getElem? (i := 4) (by decide +kernel))
theorem mw_5 : Cond.initialized "ConeDesk$FaceList" ∈ lw_tbl := List.mem_append_right _ (List.mem_of_getElem? (i := 5) (by decide +kernel))
theorem mw_6 : Cond.initialized "ConeDesk$BasisFinder" ∈ lw_tbl := List.mem_append_right _ (List.mem_of_getElem? (i := 6) (by decide +kernel))
theorem mw_7 : Cond.initialized "ConeDesk$Simplices" ∈ lw_tbl := List.mem_append_right _ (List.mem_of_getElem? (i := 7) (by decide +kernel))
theorem mw_8 : Cond.initialized "ConeDesk$InnerPoints" ∈ lw_tbl := List.mem_append_right _ (List.mem_of_getElem? (i := 8) (by decide +kernel))
theorem mw_9 : Cond.initialized "ConeDeskModel" ∈ lw_tbl := List.mem_append_right _ (List.mem_of_getElem? (i := 9) (by decide +kernel))
theorem mw_10 : Cond.initialized "java/lang/Throwable" ∈ lw_tbl := List.mem_append_right _ (List.mem_of_getElem? (i := 10) (by decide +kernel))
theorem mw_11 : Cond.initialized "java/lang/Exception" ∈ lw_tbl := List.mem_append_right _ (List.mem_of_getElem? (i := 11) (by decide +kernel))
theorem mw_12 : Cond.initialized "java/lang/RuntimeException" ∈ lw_tbl := List.mem_append_right _ (List.mem_of_getElem? (i := 12) (by decide +kernel))
theorem mw_13 : Cond.initialized "java/lang/IllegalArgumentException" ∈ lw_tbl := List.mem_append_right _ (List.mem_of_getElem? (i := 13) (by decide +kernel))
theorem mw_14 : Cond.initialized "java/lang/IllegalStateException" ∈ lw_tbl := List.mem_append_right _ (List.mem_of_getElem? (i := 14) (by decide +kernel))
theorem mw_15 : Cond.initialized "java/lang/System" ∈ lw_tbl := List.mem_append_right _ (List.mem_of_getElem? (i := 15) (by decide +kernel))
theorem mw_16 : Cond.initialized "java/lang/IndexOutOfBoundsException" ∈ lw_tbl := List.mem_append_right _ (List.mem_of_getElem? (i := 16) (by decide +kernel))
theorem mw_17 : Cond.initialized "java/lang/Integer" ∈ lw_tbl := List.mem_append_right _ (List.mem_of_getElem? (i := 17) (by decide +kernel))
theorem mw_18 : Cond.initialized "java/util/Arrays" ∈ lw_tbl := List.mem_append_right _ (List.mem_of_getElem? (i := 18) (by decide +kernel))
theorem mw_19 : Cond.classLink "ConeDeskLaw" 8 "ConeDesk" ∈ lw_tbl := List.mem_append_right _ (List.mem_of_getElem? (i := 19) (by decide +kernel))
theorem mw_20 : Cond.instantiable "ConeDesk" 11 ∈ lw_tbl := List.mem_append_right _ (List.mem_of_getElem? (i := 20) (by decide +kernel))
theorem mw_21 : Cond.methodLink "ConeDeskLaw" 63 y_D_init ∈ lw_tbl := List.mem_append_right _ (List.mem_of_getElem? (i := 21) (by decide +kernel))
theorem mw_22 : Cond.instanceMethod y_D_init ∈ lw_tbl := List.mem_append_right _ (List.mem_of_getElem? (i := 22) (by decide +kernel))
theorem mw_23 : Cond.code y_D_init prog_1_method_1_code 2 none ∈ lw_tbl := List.mem_append_right _ (List.mem_of_getElem? (i := 23) (by decide +kernel))
theorem mw_24 : Cond.methodLink "ConeDesk" 3 ⟨"java/lang/Object", "<init>", "()V"⟩ ∈ lw_tbl := List.mem_append_right _ (List.mem_of_getElem? (i := 24) (by decide +kernel))
theorem mw_25 : Cond.instanceMethod ⟨"java/lang/Object", "<init>", "()V"⟩ ∈ lw_tbl := List.mem_append_right _ (List.mem_of_getElem? (i := 25) (by decide +kernel))
theorem mw_26 : Cond.code ⟨"java/lang/Object", "<init>", "()V"⟩ object_method_1_code 1 none ∈ lw_tbl := List.mem_append_right _ (List.mem_of_getElem? (i := 26) (by decide +kernel))
theorem mw_27 : Cond.methodLink "ConeDesk" 9 y_JM_min ∈ lw_tbl := List.mem_append_right _ (List.mem_of_getElem? (i := 27) (by decide +kernel))
theorem mw_28 : Cond.static y_JM_min ∈ lw_tbl := List.mem_append_right _ (List.mem_of_getElem? (i := 28) (by decide +kernel))
theorem mw_29 : Cond.code y_JM_min prog_15_method_69_code 2 (some .int) ∈ lw_tbl := List.mem_append_right _ (List.mem_of_getElem? (i := 29) (by decide +kernel))
theorem mw_30 : Cond.methodLink "ConeDesk" 15 y_JM_max ∈ lw_tbl := List.mem_append_right _ (List.mem_of_getElem? (i := 30) (by decide +kernel))
theorem mw_31 : Cond.static y_JM_max ∈ lw_tbl := List.mem_append_right _ (List.mem_of_getElem? (i := 31) (by decide +kernel))
theorem mw_32 : Cond.code y_JM_max prog_15_method_65_code 2 (some .int) ∈ lw_tbl := List.mem_append_right _ (List.mem_of_getElem? (i := 32) (by decide +kernel))
theorem mw_33 : Cond.classLink "ConeDesk" 29 "ConeDesk$PointList" ∈ lw_tbl := List.mem_append_right _ (List.mem_of_getElem? (i := 33) (by decide +kernel))
theorem mw_34 : Cond.instantiable "ConeDesk$PointList" 3 ∈ lw_tbl := List.mem_append_right _ (List.mem_of_getElem? (i := 34) (by decide +kernel))
theorem mw_35 : Cond.methodLink "ConeDesk" 31 y_PL_init ∈ lw_tbl := List.mem_append_right _ (List.mem_of_getElem? (i := 35) (by decide +kernel))
theorem mw_36 : Cond.instanceMethod y_PL_init ∈ lw_tbl := List.mem_append_right _ (List.mem_of_getElem? (i := 36) (by decide +kernel))
theorem mw_37 : Cond.code y_PL_init prog_6_method_1_code 2 none ∈ lw_tbl := List.mem_append_right _ (List.mem_of_getElem? (i := 37) (by decide +kernel))
theorem mw_38 : Cond.methodLink "ConeDesk$PointList" 3 ⟨"java/lang/Object", "<init>", "()V"⟩ ∈ lw_tbl := List.mem_append_right _ (List.mem_of_getElem? (i := 38) (by decide +kernel))
theorem mw_39 : Cond.fieldLink "ConeDesk$PointList" 15 "ConeDesk$PointList" "cells" "[I" ∈ lw_tbl := List.mem_append_right _ (List.mem_of_getElem? (i := 39) (by decide +kernel))
theorem mw_40 : Cond.fieldLink "ConeDesk$Minors" 73 "ConeDesk$PointList" "cells" "[I" ∈ lw_tbl := List.mem_append_right _ (List.mem_of_getElem? (i := 40) (by decide +kernel))
theorem mw_41 : Cond.fieldLink "ConeDesk$BasisFinder" 51 "ConeDesk$PointList" "count" "I" ∈ lw_tbl := List.mem_append_right _ (List.mem_of_getElem? (i := 41) (by decide +kernel))
theorem mw_42 : Cond.fieldLink "ConeDesk$PointList" 19 "ConeDesk$PointList" "count" "I" ∈ lw_tbl := List.mem_append_right _ (List.mem_of_getElem? (i := 42) (by decide +kernel))
theorem mw_43 : Cond.fieldLink "ConeDesk$FaceList" 28 "ConeDesk$PointList" "count" "I" ∈ lw_tbl := List.mem_append_right _ (List.mem_of_getElem? (i := 43) (by decide +kernel))
theorem mw_44 : Cond.fieldLink "ConeDesk$Minors" 26 "ConeDesk$PointList" "count" "I" ∈ lw_tbl := List.mem_append_right _ (List.mem_of_getElem? (i := 44) (by decide +kernel))
theorem mw_45 : Cond.fieldLink "ConeDesk" 77 "ConeDesk$PointList" "count" "I" ∈ lw_tbl := List.mem_append_right _ (List.mem_of_getElem? (i := 45) (by decide +kernel))
theorem mw_46 : Cond.fieldLink "ConeDesk$InnerPoints" 71 "ConeDesk$PointList" "count" "I" ∈ lw_tbl := List.mem_append_right _ (List.mem_of_getElem? (i := 46) (by decide +kernel))
theorem mw_47 : Cond.fieldLink "ConeDesk$PointList" 9 "ConeDesk$PointList" "most" "I" ∈ lw_tbl := List.mem_append_right _ (List.mem_of_getElem? (i := 47) (by decide +kernel))
theorem mw_55 : Cond.arrayClass .int ∈ lw_tbl := List.mem_append_right _ (List.mem_of_getElem? (i := 55) (by decide +kernel))
theorem mw_56 : Cond.classLink "ConeDesk" 41 "ConeDesk$Minors" ∈ lw_tbl := List.mem_append_right _ (List.mem_of_getElem? (i := 56) (by decide +kernel))
theorem mw_57 : Cond.instantiable "ConeDesk$Minors" 3 ∈ lw_tbl := List.mem_append_right _ (List.mem_of_getElem? (i := 57) (by decide +kernel))
theorem mw_58 : Cond.methodLinkNest "ConeDesk" 43 y_MI_init "ConeDesk" ∈ lw_tbl := List.mem_append_right _ (List.mem_of_getElem? (i := 58) (by decide +kernel))
theorem mw_59 : Cond.instanceMethod y_MI_init ∈ lw_tbl := List.mem_append_right _ (List.mem_of_getElem? (i := 59) (by decide +kernel))
theorem mw_60 : Cond.code y_MI_init prog_5_method_1_code 1 none ∈ lw_tbl := List.mem_append_right _ (List.mem_of_getElem? (i := 60) (by decide +kernel))
theorem mw_61 : Cond.methodLink "ConeDesk$Minors" 3 ⟨"java/lang/Object", "<init>", "()V"⟩ ∈ lw_tbl := List.mem_append_right _ (List.mem_of_getElem? (i := 61) (by decide +kernel))
theorem mw_62 : Cond.fieldLinkNest "ConeDesk$Minors" 9 "ConeDesk" "CHOICES" "[I" "ConeDesk" ∈ lw_tbl := List.mem_append_right _ (List.mem_of_getElem? (i := 62) (by decide +kernel))
theorem mw_63 : Cond.laysStatic "ConeDesk" "CHOICES" "[I" ∈ lw_tbl := List.mem_append_right _ (List.mem_of_getElem? (i := 63) (by decide +kernel))
theorem mw_64 : Cond.fieldLink "ConeDesk$Minors" 13 "ConeDesk$Minors" "current" "[J" ∈ lw_tbl := List.mem_append_right _ (List.mem_of_getElem? (i := 64) (by decide +kernel))
theorem mw_65 : Cond.fieldLink "ConeDesk$Minors" 19 "ConeDesk$Minors" "next" "[J" ∈ lw_tbl := List.mem_append_right _ (List.mem_of_getElem? (i := 65) (by decide +kernel))
theorem mw_66 : Cond.fieldLink "ConeDesk$Minors" 22 "ConeDesk$Minors" "joined" "I" ∈ lw_tbl := List.mem_append_right _ (List.mem_of_getElem? (i := 66) (by decide +kernel))
theorem mw_74 : Cond.arrayClass .long ∈ lw_tbl := List.mem_append_right _ (List.mem_of_getElem? (i := 74) (by decide +kernel))
theorem mw_75 : Cond.classLink "ConeDesk" 48 "ConeDesk$FaceList" ∈ lw_tbl := List.mem_append_right _ (List.mem_of_getElem? (i := 75) (by decide +kernel))
theorem mw_76 : Cond.instantiable "ConeDesk$FaceList" 5 ∈ lw_tbl := List.mem_append_right _ (List.mem_of_getElem? (i := 76) (by decide +kernel))
theorem mw_77 : Cond.methodLinkNest "ConeDesk" 50 y_FL_init "ConeDesk" ∈ lw_tbl := List.mem_append_right _ (List.mem_of_getElem? (i := 77) (by decide +kernel))
theorem mw_78 : Cond.instanceMethod y_FL_init ∈ lw_tbl := List.mem_append_right _ (List.mem_of_getElem? (i := 78) (by decide +kernel))
theorem mw_79 : Cond.code y_FL_init prog_3_method_1_code 1 none ∈ lw_tbl := List.mem_append_right _ (List.mem_of_getElem? (i := 79) (by decide +kernel))
theorem mw_80 : Cond.methodLink "ConeDesk$FaceList" 3 ⟨"java/lang/Object", "<init>", "()V"⟩ ∈ lw_tbl := List.mem_append_right _ (List.mem_of_getElem? (i := 80) (by decide +kernel))
theorem mw_81 : Cond.fieldLink "ConeDesk$FaceList" 9 "ConeDesk$FaceList" "masks" "[I" ∈ lw_tbl := List.mem_append_right _ (List.mem_of_getElem? (i := 81) (by decide +kernel))
theorem mw_82 : Cond.fieldLink "ConeDesk$Simplices" 33 "ConeDesk$FaceList" "masks" "[I" ∈ lw_tbl := List.mem_append_right _ (List.mem_of_getElem? (i := 82) (by decide +kernel))
theorem mw_83 : Cond.fieldLink "ConeDesk$FaceList" 24 "ConeDesk$FaceList" "count" "I" ∈ lw_tbl := List.mem_append_right _ (List.mem_of_getElem? (i := 83) (by decide +kernel))
theorem mw_84 : Cond.fieldLink "ConeDesk$Simplices" 44 "ConeDesk$FaceList" "count" "I" ∈ lw_tbl := List.mem_append_right _ (List.mem_of_getElem? (i := 84) (by decide +kernel))
theorem mw_85 : Cond.fieldLink "ConeDesk$FaceList" 15 "ConeDesk$FaceList" "dimensions" "[I" ∈ lw_tbl := List.mem_append_right _ (List.mem_of_getElem? (i := 85) (by decide +kernel))
theorem mw_86 : Cond.fieldLink "ConeDesk$FaceList" 18 "ConeDesk$FaceList" "tight" "[I" ∈ lw_tbl := List.mem_append_right _ (List.mem_of_getElem? (i := 86) (by decide +kernel))
theorem mw_87 : Cond.fieldLink "ConeDesk$FaceList" 21 "ConeDesk$FaceList" "corner" "[I" ∈ lw_tbl := List.mem_append_right _ (List.mem_of_getElem? (i := 87) (by decide +kernel))
theorem mw_99 : Cond.classLink "ConeDesk" 55 "ConeDesk$BasisFinder" ∈ lw_tbl := List.mem_append_right _ (List.mem_of_getElem? (i := 99) (by decide +kernel))
theorem mw_100 : Cond.instantiable "ConeDesk$BasisFinder" 9 ∈ lw_tbl := List.mem_append_right _ (List.mem_of_getElem? (i := 100) (by decide +kernel))
theorem mw_101 : Cond.methodLinkNest "ConeDesk" 57 y_BF_init "ConeDesk" ∈ lw_tbl := List.mem_append_right _ (List.mem_of_getElem? (i := 101) (by decide +kernel))
theorem mw_102 : Cond.instanceMethod y_BF_init ∈ lw_tbl := List.mem_append_right _ (List.mem_of_getElem? (i := 102) (by decide +kernel))
theorem mw_103 : Cond.code y_BF_init prog_2_method_1_code 1 none ∈ lw_tbl := List.mem_append_right _ (List.mem_of_getElem? (i := 103) (by decide +kernel))
theorem mw_104 : Cond.methodLink "ConeDesk$BasisFinder" 3 ⟨"java/lang/Object", "<init>", "()V"⟩ ∈ lw_tbl := List.mem_append_right _ (List.mem_of_getElem? (i := 104) (by decide +kernel))
theorem mw_105 : Cond.classLink "ConeDesk$BasisFinder" 9 "ConeDesk$PointList" ∈ lw_tbl := List.mem_append_right _ (List.mem_of_getElem? (i := 105) (by decide +kernel))
theorem mw_106 : Cond.methodLink "ConeDesk$BasisFinder" 11 y_PL_init ∈ lw_tbl := List.mem_append_right _ (List.mem_of_getElem? (i := 106) (by decide +kernel))
theorem mw_107 : Cond.classLink "ConeDesk$BasisFinder" 20 "ConeDesk$Minors" ∈ lw_tbl := List.mem_append_right _ (List.mem_of_getElem? (i := 107) (by decide +kernel))
theorem mw_108 : Cond.methodLinkNest "ConeDesk$BasisFinder" 22 y_MI_init "ConeDesk" ∈ lw_tbl := List.mem_append_right _ (List.mem_of_getElem? (i := 108) (by decide +kernel))
theorem mw_109 : Cond.classLink "ConeDesk$BasisFinder" 27 "ConeDesk$Simplices" ∈ lw_tbl := List.mem_append_right _ (List.mem_of_getElem? (i := 109) (by decide +kernel))
theorem mw_110 : Cond.instantiable "ConeDesk$Simplices" 4 ∈ lw_tbl := List.mem_append_right _ (List.mem_of_getElem? (i := 110) (by decide +kernel))
theorem mw_111 : Cond.methodLinkNest "ConeDesk$BasisFinder" 29 y_SI_init "ConeDesk" ∈ lw_tbl := List.mem_append_right _ (List.mem_of_getElem? (i := 111) (by decide +kernel))
theorem mw_112 : Cond.instanceMethod y_SI_init ∈ lw_tbl := List.mem_append_right _ (List.mem_of_getElem? (i := 112) (by decide +kernel))
theorem mw_113 : Cond.code y_SI_init prog_7_method_1_code 1 none ∈ lw_tbl := List.mem_append_right _ (List.mem_of_getElem? (i := 113) (by decide +kernel))
theorem mw_114 : Cond.methodLink "ConeDesk$Simplices" 3 ⟨"java/lang/Object", "<init>", "()V"⟩ ∈ lw_tbl := List.mem_append_right _ (List.mem_of_getElem? (i := 114) (by decide +kernel))
theorem mw_115 : Cond.fieldLink "ConeDesk$Simplices" 9 "ConeDesk$Simplices" "masks" "[I" ∈ lw_tbl := List.mem_append_right _ (List.mem_of_getElem? (i := 115) (by decide +kernel))
theorem mw_116 : Cond.fieldLink "ConeDesk$BasisFinder" 79 "ConeDesk$Simplices" "masks" "[I" ∈ lw_tbl := List.mem_append_right _ (List.mem_of_getElem? (i := 116) (by decide +kernel))
theorem mw_117 : Cond.fieldLink "ConeDesk$Simplices" 18 "ConeDesk$Simplices" "count" "I" ∈ lw_tbl := List.mem_append_right _ (List.mem_of_getElem? (i := 117) (by decide +kernel))
theorem mw_118 : Cond.fieldLink "ConeDesk$BasisFinder" 78 "ConeDesk$Simplices" "count" "I" ∈ lw_tbl := List.mem_append_right _ (List.mem_of_getElem? (i := 118) (by decide +kernel))
theorem mw_119 : Cond.fieldLink "ConeDesk$Simplices" 15 "ConeDesk$Simplices" "cuts" "[I" ∈ lw_tbl := List.mem_append_right _ (List.mem_of_getElem? (i := 119) (by decide +kernel))
theorem mw_120 : Cond.fieldLink "ConeDesk$Simplices" 22 "ConeDesk$Simplices" "cutCount" "I" ∈ lw_tbl := List.mem_append_right _ (List.mem_of_getElem? (i := 120) (by decide +kernel))
theorem mw_130 : Cond.classLink "ConeDesk$BasisFinder" 34 "ConeDesk$InnerPoints" ∈ lw_tbl := List.mem_append_right _ (List.mem_of_getElem? (i := 130) (by decide +kernel))
theorem mw_131 : Cond.instantiable "ConeDesk$InnerPoints" 8 ∈ lw_tbl := List.mem_append_right _ (List.mem_of_getElem? (i := 131) (by decide +kernel))
theorem mw_132 : Cond.methodLinkNest "ConeDesk$BasisFinder" 36 y_IP_init "ConeDesk" ∈ lw_tbl := List.mem_append_right _ (List.mem_of_getElem? (i := 132) (by decide +kernel))
theorem mw_133 : Cond.instanceMethod y_IP_init ∈ lw_tbl := List.mem_append_right _ (List.mem_of_getElem? (i := 133) (by decide +kernel))
theorem mw_134 : Cond.code y_IP_init prog_4_method_1_code 1 none ∈ lw_tbl := List.mem_append_right _ (List.mem_of_getElem? (i := 134) (by decide +kernel))
theorem mw_135 : Cond.methodLink "ConeDesk$InnerPoints" 3 ⟨"java/lang/Object", "<init>", "()V"⟩ ∈ lw_tbl := List.mem_append_right _ (List.mem_of_getElem? (i := 135) (by decide +kernel))
theorem mw_136 : Cond.classLink "ConeDesk$InnerPoints" 9 "ConeDesk$Minors" ∈ lw_tbl := List.mem_append_right _ (List.mem_of_getElem? (i := 136) (by decide +kernel))
theorem mw_137 : Cond.methodLinkNest "ConeDesk$InnerPoints" 11 y_MI_init "ConeDesk" ∈ lw_tbl := List.mem_append_right _ (List.mem_of_getElem? (i := 137) (by decide +kernel))
theorem mw_138 : Cond.fieldLinkNest "ConeDesk$InnerPoints" 22 "ConeDesk" "CHOICES" "[I" "ConeDesk" ∈ lw_tbl := List.mem_append_right _ (List.mem_of_getElem? (i := 138) (by decide +kernel))
theorem mw_139 : Cond.fieldLink "ConeDesk$InnerPoints" 12 "ConeDesk$InnerPoints" "minors" "LConeDesk$Minors;" ∈ lw_tbl := List.mem_append_right _ (List.mem_of_getElem? (i := 139) (by decide +kernel))
theorem mw_140 : Cond.fieldLink "ConeDesk$InnerPoints" 18 "ConeDesk$InnerPoints" "members" "[I" ∈ lw_tbl := List.mem_append_right _ (List.mem_of_getElem? (i := 140) (by decide +kernel))
theorem mw_141 : Cond.fieldLink "ConeDesk$InnerPoints" 25 "ConeDesk$InnerPoints" "steps" "[I" ∈ lw_tbl := List.mem_append_right _ (List.mem_of_getElem? (i := 141) (by decide +kernel))
theorem mw_142 : Cond.fieldLink "ConeDesk$InnerPoints" 28 "ConeDesk$InnerPoints" "mixes" "[I" ∈ lw_tbl := List.mem_append_right _ (List.mem_of_getElem? (i := 142) (by decide +kernel))
theorem mw_143 : Cond.fieldLink "ConeDesk$InnerPoints" 31 "ConeDesk$InnerPoints" "inner" "[I" ∈ lw_tbl := List.mem_append_right _ (List.mem_of_getElem? (i := 143) (by decide +kernel))
theorem mw_144 : Cond.fieldLink "ConeDesk$InnerPoints" 68 "ConeDesk$InnerPoints" "memberCount" "I" ∈ lw_tbl := List.mem_append_right _ (List.mem_of_getElem? (i := 144) (by decide +kernel))
theorem mw_145 : Cond.fieldLink "ConeDesk$InnerPoints" 56 "ConeDesk$InnerPoints" "mixCount" "I" ∈ lw_tbl := List.mem_append_right _ (List.mem_of_getElem? (i := 145) (by decide +kernel))
theorem mw_146 : Cond.fieldLink "ConeDesk$InnerPoints" 42 "ConeDesk$InnerPoints" "index" "I" ∈ lw_tbl := List.mem_append_right _ (List.mem_of_getElem? (i := 146) (by decide +kernel))
theorem mw_164 : Cond.fieldLink "ConeDesk$BasisFinder" 14 "ConeDesk$BasisFinder" "found" "LConeDesk$PointList;" ∈ lw_tbl := List.mem_append_right _ (List.mem_of_getElem? (i := 164) (by decide +kernel))
theorem mw_165 : Cond.fieldLink "ConeDesk" 135 "ConeDesk$BasisFinder" "found" "LConeDesk$PointList;" ∈ lw_tbl := List.mem_append_right _ (List.mem_of_getElem? (i := 165) (by decide +kernel))
theorem mw_166 : Cond.fieldLink "ConeDesk$BasisFinder" 62 "ConeDesk$BasisFinder" "large" "Z" ∈ lw_tbl := List.mem_append_right _ (List.mem_of_getElem? (i := 166) (by decide +kernel))
theorem mw_167 : Cond.fieldLink "ConeDesk" 131 "ConeDesk$BasisFinder" "large" "Z" ∈ lw_tbl := List.mem_append_right _ (List.mem_of_getElem? (i := 167) (by decide +kernel))
theorem mw_168 : Cond.fieldLink "ConeDesk$BasisFinder" 23 "ConeDesk$BasisFinder" "minors" "LConeDesk$Minors;" ∈ lw_tbl := List.mem_append_right _ (List.mem_of_getElem? (i := 168) (by decide +kernel))
theorem mw_169 : Cond.fieldLink "ConeDesk$BasisFinder" 30 "ConeDesk$BasisFinder" "simplices" "LConeDesk$Simplices;" ∈ lw_tbl := List.mem_append_right _ (List.mem_of_getElem? (i := 169) (by decide +kernel))
theorem mw_170 : Cond.fieldLink "ConeDesk$BasisFinder" 37 "ConeDesk$BasisFinder" "innerPoints" "LConeDesk$InnerPoints;" ∈ lw_tbl := List.mem_append_right _ (List.mem_of_getElem? (i := 170) (by decide +kernel))
theorem mw_171 : Cond.fieldLink "ConeDesk$BasisFinder" 41 "ConeDesk$BasisFinder" "candidate" "[I" ∈ lw_tbl := List.mem_append_right _ (List.mem_of_getElem? (i := 171) (by decide +kernel))
theorem mw_172 : Cond.fieldLink "ConeDesk$BasisFinder" 45 "ConeDesk$BasisFinder" "heights" "[I" ∈ lw_tbl := List.mem_append_right _ (List.mem_of_getElem? (i := 172) (by decide +kernel))
theorem mw_173 : Cond.fieldLink "ConeDesk$BasisFinder" 48 "ConeDesk$BasisFinder" "rest" "[I" ∈ lw_tbl := List.mem_append_right _ (List.mem_of_getElem? (i := 173) (by decide +kernel))
theorem mw_174 : Cond.fieldLink "ConeDesk$BasisFinder" 55 "ConeDesk$BasisFinder" "rowCount" "I" ∈ lw_tbl := List.mem_append_right _ (List.mem_of_getElem? (i := 174) (by decide +kernel))
theorem mw_194 : Cond.fieldLink "ConeDesk" 18 "ConeDesk" "dimension" "I" ∈ lw_tbl := List.mem_append_right _ (List.mem_of_getElem? (i := 194) (by decide +kernel))
theorem mw_195 : Cond.fieldLink "ConeDesk" 22 "ConeDesk" "given" "[I" ∈ lw_tbl := List.mem_append_right _ (List.mem_of_getElem? (i := 195) (by decide +kernel))
theorem mw_196 : Cond.fieldLink "ConeDesk" 26 "ConeDesk" "direction" "[I" ∈ lw_tbl := List.mem_append_right _ (List.mem_of_getElem? (i := 196) (by decide +kernel))
theorem mw_197 : Cond.fieldLink "ConeDesk" 34 "ConeDesk" "rowList" "LConeDesk$PointList;" ∈ lw_tbl := List.mem_append_right _ (List.mem_of_getElem? (i := 197) (by decide +kernel))
theorem mw_198 : Cond.fieldLink "ConeDesk" 38 "ConeDesk" "rayList" "LConeDesk$PointList;" ∈ lw_tbl := List.mem_append_right _ (List.mem_of_getElem? (i := 198) (by decide +kernel))
theorem mw_199 : Cond.fieldLink "ConeDesk" 44 "ConeDesk" "minors" "LConeDesk$Minors;" ∈ lw_tbl := List.mem_append_right _ (List.mem_of_getElem? (i := 199) (by decide +kernel))
theorem mw_200 : Cond.fieldLink "ConeDesk" 51 "ConeDesk" "faceList" "LConeDesk$FaceList;" ∈ lw_tbl := List.mem_append_right _ (List.mem_of_getElem? (i := 200) (by decide +kernel))
theorem mw_201 : Cond.fieldLink "ConeDesk" 58 "ConeDesk" "finder" "LConeDesk$BasisFinder;" ∈ lw_tbl := List.mem_append_right _ (List.mem_of_getElem? (i := 201) (by decide +kernel))
theorem mw_202 : Cond.fieldLink "ConeDesk" 98 "ConeDesk" "rank" "I" ∈ lw_tbl := List.mem_append_right _ (List.mem_of_getElem? (i := 202) (by decide +kernel))
theorem mw_203 : Cond.fieldLink "ConeDesk" 118 "ConeDesk" "span" "I" ∈ lw_tbl := List.mem_append_right _ (List.mem_of_getElem? (i := 203) (by decide +kernel))
theorem mw_204 : Cond.fieldLink "ConeDesk" 168 "ConeDesk" "known" "I" ∈ lw_tbl := List.mem_append_right _ (List.mem_of_getElem? (i := 204) (by decide +kernel))
theorem mw_228 : Cond.methodLink "ConeDeskLaw" 79 y_D_look ∈ lw_tbl := List.mem_append_right _ (List.mem_of_getElem? (i := 228) (by decide +kernel))
theorem mw_229 : Cond.instanceMethod y_D_look ∈ lw_tbl := List.mem_append_right _ (List.mem_of_getElem? (i := 229) (by decide +kernel))
theorem mw_230 : Cond.selects "ConeDesk" y_D_look y_D_look ∈ lw_tbl := List.mem_append_right _ (List.mem_of_getElem? (i := 230) (by decide +kernel))
theorem mw_231 : Cond.code y_D_look prog_1_method_4_code 2 (some .int) ∈ lw_tbl := List.mem_append_right _ (List.mem_of_getElem? (i := 231) (by decide +kernel))
theorem mw_232 : Cond.methodLink "ConeDeskLaw" 110 y_D_holds ∈ lw_tbl := List.mem_append_right _ (List.mem_of_getElem? (i := 232) (by decide +kernel))
theorem mw_233 : Cond.instanceMethod y_D_holds ∈ lw_tbl := List.mem_append_right _ (List.mem_of_getElem? (i := 233) (by decide +kernel))
theorem mw_234 : Cond.selects "ConeDesk" y_D_holds y_D_holds ∈ lw_tbl := List.mem_append_right _ (List.mem_of_getElem? (i := 234) (by decide +kernel))
theorem mw_235 : Cond.code y_D_holds prog_1_method_13_code 5 (some .boolean) ∈ lw_tbl := List.mem_append_right _ (List.mem_of_getElem? (i := 235) (by decide +kernel))
theorem mw_236 : Cond.methodLink "ConeDesk" 62 y_D_take ∈ lw_tbl := List.mem_append_right _ (List.mem_of_getElem? (i := 236) (by decide +kernel))
theorem mw_238 : Cond.instanceMethod y_D_take ∈ lw_tbl := List.mem_append_right _ (List.mem_of_getElem? (i := 238) (by decide +kernel))
theorem mw_239 : Cond.code y_D_take prog_1_method_16_code 5 none ∈ lw_tbl := List.mem_append_right _ (List.mem_of_getElem? (i := 239) (by decide +kernel))
theorem mw_240 : Cond.methodLink "ConeDesk" 143 y_D_isInCone ∈ lw_tbl := List.mem_append_right _ (List.mem_of_getElem? (i := 240) (by decide +kernel))
theorem mw_242 : Cond.instanceMethod y_D_isInCone ∈ lw_tbl := List.mem_append_right _ (List.mem_of_getElem? (i := 242) (by decide +kernel))
theorem mw_243 : Cond.code y_D_isInCone prog_1_method_18_code 3 (some .boolean) ∈ lw_tbl := List.mem_append_right _ (List.mem_of_getElem? (i := 243) (by decide +kernel))
theorem mw_244 : Cond.methodLink "ConeDesk" 157 y_PL_product ∈ lw_tbl := List.mem_append_right _ (List.mem_of_getElem? (i := 244) (by decide +kernel))
theorem mw_245 : Cond.instanceMethod y_PL_product ∈ lw_tbl := List.mem_append_right _ (List.mem_of_getElem? (i := 245) (by decide +kernel))
theorem mw_246 : Cond.selects "ConeDesk$PointList" y_PL_product y_PL_product ∈ lw_tbl := List.mem_append_right _ (List.mem_of_getElem? (i := 246) (by decide +kernel))
theorem mw_247 : Cond.code y_PL_product prog_6_method_9_code 6 (some .long) ∈ lw_tbl := List.mem_append_right _ (List.mem_of_getElem? (i := 247) (by decide +kernel))
theorem mw_248 : Cond.methodLink "ConeDesk$PointList" 36 y_PL_at ∈ lw_tbl := List.mem_append_right _ (List.mem_of_getElem? (i := 248) (by decide +kernel))
theorem mw_249 : Cond.instanceMethod y_PL_at ∈ lw_tbl := List.mem_append_right _ (List.mem_of_getElem? (i := 249) (by decide +kernel))
theorem mw_250 : Cond.selects "ConeDesk$PointList" y_PL_at y_PL_at ∈ lw_tbl := List.mem_append_right _ (List.mem_of_getElem? (i := 250) (by decide +kernel))
theorem mw_251 : Cond.code y_PL_at prog_6_method_3_code 3 (some .int) ∈ lw_tbl := List.mem_append_right _ (List.mem_of_getElem? (i := 251) (by decide +kernel))
theorem mw_252 : Cond.methodLink "ConeDeskLaw" 57 y_L_cell ∈ lw_tbl := List.mem_append_right _ (List.mem_of_getElem? (i := 252) (by decide +kernel))
theorem mw_253 : Cond.static y_L_cell ∈ lw_tbl := List.mem_append_right _ (List.mem_of_getElem? (i := 253) (by decide +kernel))
theorem mw_254 : Cond.code y_L_cell method_2_code 2 (some .int) ∈ lw_tbl := List.mem_append_right _ (List.mem_of_getElem? (i := 254) (by decide +kernel))
theorem mw_255 : Cond.methodLink "ConeDeskLaw" 68 y_L_add ∈ lw_tbl := List.mem_append_right _ (List.mem_of_getElem? (i := 255) (by decide +kernel))
theorem mw_256 : Cond.static y_L_add ∈ lw_tbl := List.mem_append_right _ (List.mem_of_getElem? (i := 256) (by decide +kernel))
theorem mw_257 : Cond.codeWith y_L_add method_3_code 7 (some .int) [(0, 14, 17, 13), (0, 14, 21, 15)] ∈ lw_tbl := List.mem_append_right _ (List.mem_of_getElem? (i := 257) (by decide +kernel))
theorem mw_258 : Cond.classLink "ConeDeskLaw" 13 "java/lang/IllegalArgumentException" ∈ lw_tbl := List.mem_append_right _ (List.mem_of_getElem? (i := 258) (by decide +kernel))
theorem mw_259 : Cond.classLink "ConeDeskLaw" 15 "java/lang/IllegalStateException" ∈ lw_tbl := List.mem_append_right _ (List.mem_of_getElem? (i := 259) (by decide +kernel))
theorem mw_260 : Cond.methodLink "ConeDeskLaw" 7 y_D_add ∈ lw_tbl := List.mem_append_right _ (List.mem_of_getElem? (i := 260) (by decide +kernel))
theorem mw_261 : Cond.instanceMethod y_D_add ∈ lw_tbl := List.mem_append_right _ (List.mem_of_getElem? (i := 261) (by decide +kernel))
theorem mw_262 : Cond.selects "ConeDesk" y_D_add y_D_add ∈ lw_tbl := List.mem_append_right _ (List.mem_of_getElem? (i := 262) (by decide +kernel))
theorem mw_263 : Cond.code y_D_add prog_1_method_2_code 5 (some .int) ∈ lw_tbl := List.mem_append_right _ (List.mem_of_getElem? (i := 263) (by decide +kernel))
theorem mw_264 : Cond.methodLink "ConeDesk" 66 y_D_isGivenWithin ∈ lw_tbl := List.mem_append_right _ (List.mem_of_getElem? (i := 264) (by decide +kernel))
theorem mw_266 : Cond.instanceMethod y_D_isGivenWithin ∈ lw_tbl := List.mem_append_right _ (List.mem_of_getElem? (i := 266) (by decide +kernel))
theorem mw_267 : Cond.code y_D_isGivenWithin prog_1_method_17_code 3 (some .boolean) ∈ lw_tbl := List.mem_append_right _ (List.mem_of_getElem? (i := 267) (by decide +kernel))
theorem mw_268 : Cond.classLink "ConeDesk" 70 "java/lang/IllegalArgumentException" ∈ lw_tbl := List.mem_append_right _ (List.mem_of_getElem? (i := 268) (by decide +kernel))
theorem mw_269 : Cond.instantiable "java/lang/IllegalArgumentException" 6 ∈ lw_tbl := List.mem_append_right _ (List.mem_of_getElem? (i := 269) (by decide +kernel))
theorem mw_277 : Cond.selects "java/lang/IllegalArgumentException" ⟨"java/lang/Throwable", "fillInStackTrace", "(I)Ljava/lang/Throwable;"⟩ ⟨"java/lang/Throwable", "fillInStackTrace", "(I)Ljava/lang/Throwable;"⟩ ∈ lw_tbl := List.mem_append_right _ (List.mem_of_getElem? (i := 277) (by decide +kernel))
theorem mw_278 : Cond.selects "java/lang/IllegalArgumentException" ⟨"java/lang/Throwable", "fillInStackTrace", "()Ljava/lang/Throwable;"⟩ ⟨"java/lang/Throwable", "fillInStackTrace", "()Ljava/lang/Throwable;"⟩ ∈ lw_tbl := List.mem_append_right _ (List.mem_of_getElem? (i := 278) (by decide +kernel))
theorem mw_289 : Cond.fieldLink "java/lang/Throwable" 198 "java/lang/Throwable" "backtrace" "Ljava/lang/Object;" ∈ lw_tbl := List.mem_append_right _ (List.mem_of_getElem? (i := 289) (by decide +kernel))
theorem mw_291 : Cond.instanceMethod ⟨"java/lang/Throwable", "<init>", "()V"⟩ ∈ lw_tbl := List.mem_append_right _ (List.mem_of_getElem? (i := 291) (by decide +kernel))
theorem mw_292 : Cond.code ⟨"java/lang/Throwable", "<init>", "()V"⟩ prog_19_method_1_code 1 none ∈ lw_tbl := List.mem_append_right _ (List.mem_of_getElem? (i := 292) (by decide +kernel))
theorem mw_293 : Cond.methodLink "java/lang/Throwable" 1 ⟨"java/lang/Object", "<init>", "()V"⟩ ∈ lw_tbl := List.mem_append_right _ (List.mem_of_getElem? (i := 293) (by decide +kernel))
theorem mw_294 : Cond.fieldLink "java/lang/Throwable" 13 "java/lang/Throwable" "UNASSIGNED_STACK" "[Ljava/lang/StackTraceElement;" ∈ lw_tbl := List.mem_append_right _ (List.mem_of_getElem? (i := 294) (by decide +kernel))
theorem mw_295 : Cond.laysStatic "java/lang/Throwable" "UNASSIGNED_STACK" "[Ljava/lang/StackTraceElement;" ∈ lw_tbl := List.mem_append_right _ (List.mem_of_getElem? (i := 295) (by decide +kernel))
theorem mw_296 : Cond.fieldLink "java/lang/Throwable" 20 "java/lang/Throwable" "SUPPRESSED_SENTINEL" "Ljava/util/List;" ∈ lw_tbl := List.mem_append_right _ (List.mem_of_getElem? (i := 296) (by decide +kernel))
theorem mw_297 : Cond.laysStatic "java/lang/Throwable" "SUPPRESSED_SENTINEL" "Ljava/util/List;" ∈ lw_tbl := List.mem_append_right _ (List.mem_of_getElem? (i := 297) (by decide +kernel))
theorem mw_298 : Cond.methodLink "java/lang/Throwable" 27 ⟨"java/lang/Throwable", "fillInStackTrace", "()Ljava/lang/Throwable;"⟩ ∈ lw_tbl := List.mem_append_right _ (List.mem_of_getElem? (i := 298) (by decide +kernel))
theorem mw_299 : Cond.instanceMethod ⟨"java/lang/Throwable", "fillInStackTrace", "()Ljava/lang/Throwable;"⟩ ∈ lw_tbl := List.mem_append_right _ (List.mem_of_getElem? (i := 299) (by decide +kernel))
theorem mw_301 : Cond.selects "java/lang/IllegalStateException" ⟨"java/lang/Throwable", "fillInStackTrace", "()Ljava/lang/Throwable;"⟩ ⟨"java/lang/Throwable", "fillInStackTrace", "()Ljava/lang/Throwable;"⟩ ∈ lw_tbl := List.mem_append_right _ (List.mem_of_getElem? (i := 301) (by decide +kernel))
theorem mw_302 : Cond.selects "java/lang/IndexOutOfBoundsException" ⟨"java/lang/Throwable", "fillInStackTrace", "()Ljava/lang/Throwable;"⟩ ⟨"java/lang/Throwable", "fillInStackTrace", "()Ljava/lang/Throwable;"⟩ ∈ lw_tbl := List.mem_append_right _ (List.mem_of_getElem? (i := 302) (by decide +kernel))
theorem mw_304 : Cond.methodLink "java/lang/Throwable" 202 ⟨"java/lang/Throwable", "fillInStackTrace", "(I)Ljava/lang/Throwable;"⟩ ∈ lw_tbl := List.mem_append_right _ (List.mem_of_getElem? (i := 304) (by decide +kernel))
theorem mw_306 : Cond.instanceMethod ⟨"java/lang/Throwable", "fillInStackTrace", "(I)Ljava/lang/Throwable;"⟩ ∈ lw_tbl := List.mem_append_right _ (List.mem_of_getElem? (i := 306) (by decide +kernel))
theorem mw_307 : Cond.instantiable "java/lang/Throwable" 6 ∈ lw_tbl := List.mem_append_right _ (List.mem_of_getElem? (i := 307) (by decide +kernel))
theorem mw_308 : Cond.native ⟨"java/lang/Throwable", "fillInStackTrace", "(I)Ljava/lang/Throwable;"⟩ ∈ lw_tbl := List.mem_append_right _ (List.mem_of_getElem? (i := 308) (by decide +kernel))
theorem mw_310 : Cond.methodLink "ConeDesk" 74 ⟨"java/lang/IllegalArgumentException", "<init>", "(Ljava/lang/String;)V"⟩ ∈ lw_tbl := List.mem_append_right _ (List.mem_of_getElem? (i := 310) (by decide +kernel))
theorem mw_311 : Cond.instanceMethod ⟨"java/lang/IllegalArgumentException", "<init>", "(Ljava/lang/String;)V"⟩ ∈ lw_tbl := List.mem_append_right _ (List.mem_of_getElem? (i := 311) (by decide +kernel))
theorem mw_312 : Cond.code ⟨"java/lang/IllegalArgumentException", "<init>", "(Ljava/lang/String;)V"⟩ prog_11_method_2_code 2 none ∈ lw_tbl := List.mem_append_right _ (List.mem_of_getElem? (i := 312) (by decide +kernel))
theorem mw_313 : Cond.methodLink "java/lang/IllegalArgumentException" 7 ⟨"java/lang/RuntimeException", "<init>", "(Ljava/lang/String;)V"⟩ ∈ lw_tbl := List.mem_append_right _ (List.mem_of_getElem? (i := 313) (by decide +kernel))
theorem mw_314 : Cond.instanceMethod ⟨"java/lang/RuntimeException", "<init>", "(Ljava/lang/String;)V"⟩ ∈ lw_tbl := List.mem_append_right _ (List.mem_of_getElem? (i := 314) (by decide +kernel))
theorem mw_315 : Cond.code ⟨"java/lang/RuntimeException", "<init>", "(Ljava/lang/String;)V"⟩ prog_16_method_2_code 2 none ∈ lw_tbl := List.mem_append_right _ (List.mem_of_getElem? (i := 315) (by decide +kernel))
theorem mw_316 : Cond.methodLink "java/lang/RuntimeException" 7 ⟨"java/lang/Exception", "<init>", "(Ljava/lang/String;)V"⟩ ∈ lw_tbl := List.mem_append_right _ (List.mem_of_getElem? (i := 316) (by decide +kernel))
theorem mw_317 : Cond.instanceMethod ⟨"java/lang/Exception", "<init>", "(Ljava/lang/String;)V"⟩ ∈ lw_tbl := List.mem_append_right _ (List.mem_of_getElem? (i := 317) (by decide +kernel))
theorem mw_318 : Cond.code ⟨"java/lang/Exception", "<init>", "(Ljava/lang/String;)V"⟩ prog_10_method_2_code 2 none ∈ lw_tbl := List.mem_append_right _ (List.mem_of_getElem? (i := 318) (by decide +kernel))
theorem mw_319 : Cond.methodLink "java/lang/Exception" 7 ⟨"java/lang/Throwable", "<init>", "(Ljava/lang/String;)V"⟩ ∈ lw_tbl := List.mem_append_right _ (List.mem_of_getElem? (i := 319) (by decide +kernel))
theorem mw_320 : Cond.instanceMethod ⟨"java/lang/Throwable", "<init>", "(Ljava/lang/String;)V"⟩ ∈ lw_tbl := List.mem_append_right _ (List.mem_of_getElem? (i := 320) (by decide +kernel))
theorem mw_321 : Cond.code ⟨"java/lang/Throwable", "<init>", "(Ljava/lang/String;)V"⟩ prog_19_method_2_code 2 none ∈ lw_tbl := List.mem_append_right _ (List.mem_of_getElem? (i := 321) (by decide +kernel))
theorem mw_322 : Cond.fieldLink "java/lang/Throwable" 198 "java/lang/Throwable" "backtrace" "Ljava/lang/Object;" ∈ lw_tbl := List.mem_append_right _ (List.mem_of_getElem? (i := 322) (by decide +kernel))
theorem mw_323 : Cond.fieldLink "java/lang/Throwable" 31 "java/lang/Throwable" "detailMessage" "Ljava/lang/String;" ∈ lw_tbl := List.mem_append_right _ (List.mem_of_getElem? (i := 323) (by decide +kernel))
theorem mw_324 : Cond.fieldLink "java/lang/Throwable" 7 "java/lang/Throwable" "cause" "Ljava/lang/Throwable;" ∈ lw_tbl := List.mem_append_right _ (List.mem_of_getElem? (i := 324) (by decide +kernel))
theorem mw_325 : Cond.fieldLink "java/lang/Throwable" 17 "java/lang/Throwable" "stackTrace" "[Ljava/lang/StackTraceElement;" ∈ lw_tbl := List.mem_append_right _ (List.mem_of_getElem? (i := 325) (by decide +kernel))
theorem mw_326 : Cond.fieldLink "java/lang/Throwable" 24 "java/lang/Throwable" "suppressedExceptions" "Ljava/util/List;" ∈ lw_tbl := List.mem_append_right _ (List.mem_of_getElem? (i := 326) (by decide +kernel))
theorem mw_335 : Cond.arrayClass .byte ∈ lw_tbl := List.mem_append_right _ (List.mem_of_getElem? (i := 335) (by decide +kernel))
theorem mw_336 : Cond.classLink "ConeDesk" 80 "java/lang/IllegalStateException" ∈ lw_tbl := List.mem_append_right _ (List.mem_of_getElem? (i := 336) (by decide +kernel))
theorem mw_337 : Cond.instantiable "java/lang/IllegalStateException" 6 ∈ lw_tbl := List.mem_append_right _ (List.mem_of_getElem? (i := 337) (by decide +kernel))
theorem mw_339 : Cond.selects "java/lang/IllegalStateException" ⟨"java/lang/Throwable", "fillInStackTrace", "(I)Ljava/lang/Throwable;"⟩ ⟨"java/lang/Throwable", "fillInStackTrace", "(I)Ljava/lang/Throwable;"⟩ ∈ lw_tbl := List.mem_append_right _ (List.mem_of_getElem? (i := 339) (by decide +kernel))
theorem mw_346 : Cond.methodLink "ConeDesk" 84 ⟨"java/lang/IllegalStateException", "<init>", "(Ljava/lang/String;)V"⟩ ∈ lw_tbl := List.mem_append_right _ (List.mem_of_getElem? (i := 346) (by decide +kernel))
theorem mw_347 : Cond.instanceMethod ⟨"java/lang/IllegalStateException", "<init>", "(Ljava/lang/String;)V"⟩ ∈ lw_tbl := List.mem_append_right _ (List.mem_of_getElem? (i := 347) (by decide +kernel))
theorem mw_348 : Cond.code ⟨"java/lang/IllegalStateException", "<init>", "(Ljava/lang/String;)V"⟩ prog_12_method_2_code 2 none ∈ lw_tbl := List.mem_append_right _ (List.mem_of_getElem? (i := 348) (by decide +kernel))
theorem mw_349 : Cond.methodLink "java/lang/IllegalStateException" 7 ⟨"java/lang/RuntimeException", "<init>", "(Ljava/lang/String;)V"⟩ ∈ lw_tbl := List.mem_append_right _ (List.mem_of_getElem? (i := 349) (by decide +kernel))
theorem mw_352 : Cond.methodLink "ConeDesk" 85 y_PL_putAt ∈ lw_tbl := List.mem_append_right _ (List.mem_of_getElem? (i := 352) (by decide +kernel))
theorem mw_353 : Cond.instanceMethod y_PL_putAt ∈ lw_tbl := List.mem_append_right _ (List.mem_of_getElem? (i := 353) (by decide +kernel))
theorem mw_354 : Cond.selects "ConeDesk$PointList" y_PL_putAt y_PL_putAt ∈ lw_tbl := List.mem_append_right _ (List.mem_of_getElem? (i := 354) (by decide +kernel))
theorem mw_355 : Cond.code y_PL_putAt prog_6_method_4_code 4 none ∈ lw_tbl := List.mem_append_right _ (List.mem_of_getElem? (i := 355) (by decide +kernel))
theorem mw_356 : Cond.methodLink "ConeDesk$PointList" 22 ⟨"java/lang/System", "arraycopy", "(Ljava/lang/Object;ILjava/lang/Object;II)V"⟩ ∈ lw_tbl := List.mem_append_right _ (List.mem_of_getElem? (i := 356) (by decide +kernel))
theorem mw_357 : Cond.static ⟨"java/lang/System", "arraycopy", "(Ljava/lang/Object;ILjava/lang/Object;II)V"⟩ ∈ lw_tbl := List.mem_append_right _ (List.mem_of_getElem? (i := 357) (by decide +kernel))
theorem mw_358 : Cond.native ⟨"java/lang/System", "arraycopy", "(Ljava/lang/Object;ILjava/lang/Object;II)V"⟩ ∈ lw_tbl := List.mem_append_right _ (List.mem_of_getElem? (i := 358) (by decide +kernel))
theorem mw_359 : Cond.methodLink "ConeDesk" 89 y_D_noteChange ∈ lw_tbl := List.mem_append_right _ (List.mem_of_getElem? (i := 359) (by decide +kernel))
theorem mw_361 : Cond.instanceMethod y_D_noteChange ∈ lw_tbl := List.mem_append_right _ (List.mem_of_getElem? (i := 361) (by decide +kernel))
theorem mw_362 : Cond.code y_D_noteChange prog_1_method_19_code 1 none ∈ lw_tbl := List.mem_append_right _ (List.mem_of_getElem? (i := 362) (by decide +kernel))
theorem mw_363 : Cond.methodLink "ConeDesk" 161 y_D_maskOfAll ∈ lw_tbl := List.mem_append_right _ (List.mem_of_getElem? (i := 363) (by decide +kernel))
theorem mw_364 : Cond.static y_D_maskOfAll ∈ lw_tbl := List.mem_append_right _ (List.mem_of_getElem? (i := 364) (by decide +kernel))
theorem mw_365 : Cond.code y_D_maskOfAll prog_1_method_26_code 1 (some .int) ∈ lw_tbl := List.mem_append_right _ (List.mem_of_getElem? (i := 365) (by decide +kernel))
theorem mw_366 : Cond.methodLink "ConeDesk" 164 y_MI_load ∈ lw_tbl := List.mem_append_right _ (List.mem_of_getElem? (i := 366) (by decide +kernel))
theorem mw_367 : Cond.instanceMethod y_MI_load ∈ lw_tbl := List.mem_append_right _ (List.mem_of_getElem? (i := 367) (by decide +kernel))
theorem mw_368 : Cond.selects "ConeDesk$Minors" y_MI_load y_MI_load ∈ lw_tbl := List.mem_append_right _ (List.mem_of_getElem? (i := 368) (by decide +kernel))
theorem mw_369 : Cond.code y_MI_load prog_5_method_2_code 4 (some .int) ∈ lw_tbl := List.mem_append_right _ (List.mem_of_getElem? (i := 369) (by decide +kernel))
theorem mw_370 : Cond.methodLinkNest "ConeDesk$Minors" 31 y_D_hasBit "ConeDesk" ∈ lw_tbl := List.mem_append_right _ (List.mem_of_getElem? (i := 370) (by decide +kernel))
theorem mw_371 : Cond.static y_D_hasBit ∈ lw_tbl := List.mem_append_right _ (List.mem_of_getElem? (i := 371) (by decide +kernel))
theorem mw_372 : Cond.code y_D_hasBit prog_1_method_27_code 2 (some .boolean) ∈ lw_tbl := List.mem_append_right _ (List.mem_of_getElem? (i := 372) (by decide +kernel))
theorem mw_373 : Cond.methodLink "ConeDesk$Minors" 35 y_MI_join ∈ lw_tbl := List.mem_append_right _ (List.mem_of_getElem? (i := 373) (by decide +kernel))
theorem mw_375 : Cond.instanceMethod y_MI_join ∈ lw_tbl := List.mem_append_right _ (List.mem_of_getElem? (i := 375) (by decide +kernel))
theorem mw_376 : Cond.code y_MI_join prog_5_method_8_code 11 none ∈ lw_tbl := List.mem_append_right _ (List.mem_of_getElem? (i := 376) (by decide +kernel))
theorem mw_377 : Cond.fieldLinkNest "ConeDesk$Minors" 39 "ConeDesk" "CHOICE_STARTS" "[I" "ConeDesk" ∈ lw_tbl := List.mem_append_right _ (List.mem_of_getElem? (i := 377) (by decide +kernel))
theorem mw_378 : Cond.laysStatic "ConeDesk" "CHOICE_STARTS" "[I" ∈ lw_tbl := List.mem_append_right _ (List.mem_of_getElem? (i := 378) (by decide +kernel))
theorem mw_379 : Cond.methodLink "ConeDeskLaw" 75 y_L_drop ∈ lw_tbl := List.mem_append_right _ (List.mem_of_getElem? (i := 379) (by decide +kernel))
theorem mw_380 : Cond.static y_L_drop ∈ lw_tbl := List.mem_append_right _ (List.mem_of_getElem? (i := 380) (by decide +kernel))
theorem mw_381 : Cond.codeWith y_L_drop method_4_code 3 (some .int) [(0, 5, 8, 21)] ∈ lw_tbl := List.mem_append_right _ (List.mem_of_getElem? (i := 381) (by decide +kernel))
theorem mw_382 : Cond.classLink "ConeDeskLaw" 21 "java/lang/IndexOutOfBoundsException" ∈ lw_tbl := List.mem_append_right _ (List.mem_of_getElem? (i := 382) (by decide +kernel))
theorem mw_383 : Cond.methodLink "ConeDeskLaw" 17 y_D_drop ∈ lw_tbl := List.mem_append_right _ (List.mem_of_getElem? (i := 383) (by decide +kernel))
theorem mw_384 : Cond.instanceMethod y_D_drop ∈ lw_tbl := List.mem_append_right _ (List.mem_of_getElem? (i := 384) (by decide +kernel))
theorem mw_385 : Cond.selects "ConeDesk" y_D_drop y_D_drop ∈ lw_tbl := List.mem_append_right _ (List.mem_of_getElem? (i := 385) (by decide +kernel))
theorem mw_386 : Cond.code y_D_drop prog_1_method_3_code 2 none ∈ lw_tbl := List.mem_append_right _ (List.mem_of_getElem? (i := 386) (by decide +kernel))
theorem mw_387 : Cond.methodLink "ConeDesk" 92 y_D_needRow ∈ lw_tbl := List.mem_append_right _ (List.mem_of_getElem? (i := 387) (by decide +kernel))
theorem mw_389 : Cond.instanceMethod y_D_needRow ∈ lw_tbl := List.mem_append_right _ (List.mem_of_getElem? (i := 389) (by decide +kernel))
theorem mw_390 : Cond.code y_D_needRow prog_1_method_20_code 2 none ∈ lw_tbl := List.mem_append_right _ (List.mem_of_getElem? (i := 390) (by decide +kernel))
theorem mw_391 : Cond.methodLink "ConeDesk" 110 y_PL_has ∈ lw_tbl := List.mem_append_right _ (List.mem_of_getElem? (i := 391) (by decide +kernel))
theorem mw_392 : Cond.instanceMethod y_PL_has ∈ lw_tbl := List.mem_append_right _ (List.mem_of_getElem? (i := 392) (by decide +kernel))
theorem mw_393 : Cond.selects "ConeDesk$PointList" y_PL_has y_PL_has ∈ lw_tbl := List.mem_append_right _ (List.mem_of_getElem? (i := 393) (by decide +kernel))
theorem mw_394 : Cond.code y_PL_has prog_6_method_2_code 2 (some .boolean) ∈ lw_tbl := List.mem_append_right _ (List.mem_of_getElem? (i := 394) (by decide +kernel))
theorem mw_395 : Cond.classLink "ConeDesk" 113 "java/lang/IndexOutOfBoundsException" ∈ lw_tbl := List.mem_append_right _ (List.mem_of_getElem? (i := 395) (by decide +kernel))
theorem mw_396 : Cond.instantiable "java/lang/IndexOutOfBoundsException" 6 ∈ lw_tbl := List.mem_append_right _ (List.mem_of_getElem? (i := 396) (by decide +kernel))
theorem mw_398 : Cond.selects "java/lang/IndexOutOfBoundsException" ⟨"java/lang/Throwable", "fillInStackTrace", "(I)Ljava/lang/Throwable;"⟩ ⟨"java/lang/Throwable", "fillInStackTrace", "(I)Ljava/lang/Throwable;"⟩ ∈ lw_tbl := List.mem_append_right _ (List.mem_of_getElem? (i := 398) (by decide +kernel))
theorem mw_405 : Cond.methodLink "ConeDesk" 117 ⟨"java/lang/IndexOutOfBoundsException", "<init>", "(Ljava/lang/String;)V"⟩ ∈ lw_tbl := List.mem_append_right _ (List.mem_of_getElem? (i := 405) (by decide +kernel))
theorem mw_406 : Cond.instanceMethod ⟨"java/lang/IndexOutOfBoundsException", "<init>", "(Ljava/lang/String;)V"⟩ ∈ lw_tbl := List.mem_append_right _ (List.mem_of_getElem? (i := 406) (by decide +kernel))
theorem mw_407 : Cond.code ⟨"java/lang/IndexOutOfBoundsException", "<init>", "(Ljava/lang/String;)V"⟩ prog_13_method_2_code 2 none ∈ lw_tbl := List.mem_append_right _ (List.mem_of_getElem? (i := 407) (by decide +kernel))
theorem mw_408 : Cond.methodLink "java/lang/IndexOutOfBoundsException" 7 ⟨"java/lang/RuntimeException", "<init>", "(Ljava/lang/String;)V"⟩ ∈ lw_tbl := List.mem_append_right _ (List.mem_of_getElem? (i := 408) (by decide +kernel))
theorem mw_411 : Cond.methodLink "ConeDesk" 95 y_PL_removeAt ∈ lw_tbl := List.mem_append_right _ (List.mem_of_getElem? (i := 411) (by decide +kernel))
theorem mw_412 : Cond.instanceMethod y_PL_removeAt ∈ lw_tbl := List.mem_append_right _ (List.mem_of_getElem? (i := 412) (by decide +kernel))
theorem mw_413 : Cond.selects "ConeDesk$PointList" y_PL_removeAt y_PL_removeAt ∈ lw_tbl := List.mem_append_right _ (List.mem_of_getElem? (i := 413) (by decide +kernel))
theorem mw_414 : Cond.code y_PL_removeAt prog_6_method_5_code 3 none ∈ lw_tbl := List.mem_append_right _ (List.mem_of_getElem? (i := 414) (by decide +kernel))
theorem mw_415 : Cond.methodLink "ConeDeskLaw" 83 y_L_row ∈ lw_tbl := List.mem_append_right _ (List.mem_of_getElem? (i := 415) (by decide +kernel))
theorem mw_416 : Cond.static y_L_row ∈ lw_tbl := List.mem_append_right _ (List.mem_of_getElem? (i := 416) (by decide +kernel))
theorem mw_417 : Cond.codeWith y_L_row method_5_code 5 (some .int) [(0, 10, 13, 21)] ∈ lw_tbl := List.mem_append_right _ (List.mem_of_getElem? (i := 417) (by decide +kernel))
theorem mw_418 : Cond.methodLink "ConeDeskLaw" 23 y_D_row ∈ lw_tbl := List.mem_append_right _ (List.mem_of_getElem? (i := 418) (by decide +kernel))
theorem mw_419 : Cond.instanceMethod y_D_row ∈ lw_tbl := List.mem_append_right _ (List.mem_of_getElem? (i := 419) (by decide +kernel))
theorem mw_420 : Cond.selects "ConeDesk" y_D_row y_D_row ∈ lw_tbl := List.mem_append_right _ (List.mem_of_getElem? (i := 420) (by decide +kernel))
theorem mw_421 : Cond.code y_D_row prog_1_method_5_code 3 (some .int) ∈ lw_tbl := List.mem_append_right _ (List.mem_of_getElem? (i := 421) (by decide +kernel))
theorem mw_422 : Cond.methodLink "ConeDesk" 101 y_D_needCoordinate ∈ lw_tbl := List.mem_append_right _ (List.mem_of_getElem? (i := 422) (by decide +kernel))
theorem mw_424 : Cond.instanceMethod y_D_needCoordinate ∈ lw_tbl := List.mem_append_right _ (List.mem_of_getElem? (i := 424) (by decide +kernel))
theorem mw_425 : Cond.code y_D_needCoordinate prog_1_method_21_code 2 none ∈ lw_tbl := List.mem_append_right _ (List.mem_of_getElem? (i := 425) (by decide +kernel))
theorem mw_427 : Cond.methodLink "ConeDesk" 104 y_PL_at ∈ lw_tbl := List.mem_append_right _ (List.mem_of_getElem? (i := 427) (by decide +kernel))
theorem mw_428 : Cond.methodLink "ConeDeskLaw" 87 y_L_rays ∈ lw_tbl := List.mem_append_right _ (List.mem_of_getElem? (i := 428) (by decide +kernel))
theorem mw_429 : Cond.static y_L_rays ∈ lw_tbl := List.mem_append_right _ (List.mem_of_getElem? (i := 429) (by decide +kernel))
theorem mw_430 : Cond.codeWith y_L_rays method_6_code 3 (some .int) [(0, 8, 11, 15)] ∈ lw_tbl := List.mem_append_right _ (List.mem_of_getElem? (i := 430) (by decide +kernel))
theorem mw_431 : Cond.methodLink "ConeDeskLaw" 27 y_D_rays ∈ lw_tbl := List.mem_append_right _ (List.mem_of_getElem? (i := 431) (by decide +kernel))
theorem mw_432 : Cond.instanceMethod y_D_rays ∈ lw_tbl := List.mem_append_right _ (List.mem_of_getElem? (i := 432) (by decide +kernel))
theorem mw_433 : Cond.selects "ConeDesk" y_D_rays y_D_rays ∈ lw_tbl := List.mem_append_right _ (List.mem_of_getElem? (i := 433) (by decide +kernel))
theorem mw_434 : Cond.code y_D_rays prog_1_method_6_code 1 (some .int) ∈ lw_tbl := List.mem_append_right _ (List.mem_of_getElem? (i := 434) (by decide +kernel))
theorem mw_435 : Cond.methodLink "ConeDesk" 107 y_D_know ∈ lw_tbl := List.mem_append_right _ (List.mem_of_getElem? (i := 435) (by decide +kernel))
theorem mw_437 : Cond.instanceMethod y_D_know ∈ lw_tbl := List.mem_append_right _ (List.mem_of_getElem? (i := 437) (by decide +kernel))
theorem mw_438 : Cond.code y_D_know prog_1_method_23_code 2 none ∈ lw_tbl := List.mem_append_right _ (List.mem_of_getElem? (i := 438) (by decide +kernel))
theorem mw_440 : Cond.methodLink "ConeDesk" 179 y_D_findRays ∈ lw_tbl := List.mem_append_right _ (List.mem_of_getElem? (i := 440) (by decide +kernel))
theorem mw_442 : Cond.instanceMethod y_D_findRays ∈ lw_tbl := List.mem_append_right _ (List.mem_of_getElem? (i := 442) (by decide +kernel))
theorem mw_443 : Cond.code y_D_findRays prog_1_method_24_code 3 none ∈ lw_tbl := List.mem_append_right _ (List.mem_of_getElem? (i := 443) (by decide +kernel))
theorem mw_444 : Cond.methodLink "ConeDesk" 189 y_JI_bitCount ∈ lw_tbl := List.mem_append_right _ (List.mem_of_getElem? (i := 444) (by decide +kernel))
theorem mw_445 : Cond.static y_JI_bitCount ∈ lw_tbl := List.mem_append_right _ (List.mem_of_getElem? (i := 445) (by decide +kernel))
theorem mw_446 : Cond.code y_JI_bitCount prog_14_method_49_code 1 (some .int) ∈ lw_tbl := List.mem_append_right _ (List.mem_of_getElem? (i := 446) (by decide +kernel))
theorem mw_447 : Cond.constant "java/lang/Integer" 265 (1431655765 : Int32) ∈ lw_tbl := List.mem_append_right _ (List.mem_of_getElem? (i := 447) (by decide +kernel))
theorem mw_448 : Cond.constant "java/lang/Integer" 266 (858993459 : Int32) ∈ lw_tbl := List.mem_append_right _ (List.mem_of_getElem? (i := 448) (by decide +kernel))
theorem mw_449 : Cond.constant "java/lang/Integer" 267 (252645135 : Int32) ∈ lw_tbl := List.mem_append_right _ (List.mem_of_getElem? (i := 449) (by decide +kernel))
theorem mw_450 : Cond.methodLink "ConeDesk" 194 y_D_tryRay ∈ lw_tbl := List.mem_append_right _ (List.mem_of_getElem? (i := 450) (by decide +kernel))
theorem mw_452 : Cond.instanceMethod y_D_tryRay ∈ lw_tbl := List.mem_append_right _ (List.mem_of_getElem? (i := 452) (by decide +kernel))
theorem mw_453 : Cond.code y_D_tryRay prog_1_method_25_code 2 none ∈ lw_tbl := List.mem_append_right _ (List.mem_of_getElem? (i := 453) (by decide +kernel))
theorem mw_454 : Cond.methodLink "ConeDesk" 197 y_MI_fillDirection ∈ lw_tbl := List.mem_append_right _ (List.mem_of_getElem? (i := 454) (by decide +kernel))
theorem mw_455 : Cond.instanceMethod y_MI_fillDirection ∈ lw_tbl := List.mem_append_right _ (List.mem_of_getElem? (i := 455) (by decide +kernel))
theorem mw_456 : Cond.selects "ConeDesk$Minors" y_MI_fillDirection y_MI_fillDirection ∈ lw_tbl := List.mem_append_right _ (List.mem_of_getElem? (i := 456) (by decide +kernel))
theorem mw_457 : Cond.code y_MI_fillDirection prog_5_method_7_code 9 none ∈ lw_tbl := List.mem_append_right _ (List.mem_of_getElem? (i := 457) (by decide +kernel))
theorem mw_458 : Cond.methodLink "ConeDesk$Minors" 59 y_MI_commonDivisor ∈ lw_tbl := List.mem_append_right _ (List.mem_of_getElem? (i := 458) (by decide +kernel))
theorem mw_459 : Cond.instanceMethod y_MI_commonDivisor ∈ lw_tbl := List.mem_append_right _ (List.mem_of_getElem? (i := 459) (by decide +kernel))
theorem mw_460 : Cond.selects "ConeDesk$Minors" y_MI_commonDivisor y_MI_commonDivisor ∈ lw_tbl := List.mem_append_right _ (List.mem_of_getElem? (i := 460) (by decide +kernel))
theorem mw_461 : Cond.code y_MI_commonDivisor prog_5_method_6_code 5 (some .long) ∈ lw_tbl := List.mem_append_right _ (List.mem_of_getElem? (i := 461) (by decide +kernel))
theorem mw_462 : Cond.methodLink "ConeDesk$Minors" 42 y_MI_endOfChoices ∈ lw_tbl := List.mem_append_right _ (List.mem_of_getElem? (i := 462) (by decide +kernel))
theorem mw_463 : Cond.instanceMethod y_MI_endOfChoices ∈ lw_tbl := List.mem_append_right _ (List.mem_of_getElem? (i := 463) (by decide +kernel))
theorem mw_464 : Cond.selects "ConeDesk$Minors" y_MI_endOfChoices y_MI_endOfChoices ∈ lw_tbl := List.mem_append_right _ (List.mem_of_getElem? (i := 464) (by decide +kernel))
theorem mw_465 : Cond.code y_MI_endOfChoices prog_5_method_4_code 1 (some .int) ∈ lw_tbl := List.mem_append_right _ (List.mem_of_getElem? (i := 465) (by decide +kernel))
theorem mw_466 : Cond.methodLink "ConeDesk$Minors" 46 y_MI_firstChoice ∈ lw_tbl := List.mem_append_right _ (List.mem_of_getElem? (i := 466) (by decide +kernel))
theorem mw_467 : Cond.instanceMethod y_MI_firstChoice ∈ lw_tbl := List.mem_append_right _ (List.mem_of_getElem? (i := 467) (by decide +kernel))
theorem mw_468 : Cond.selects "ConeDesk$Minors" y_MI_firstChoice y_MI_firstChoice ∈ lw_tbl := List.mem_append_right _ (List.mem_of_getElem? (i := 468) (by decide +kernel))
theorem mw_469 : Cond.code y_MI_firstChoice prog_5_method_3_code 1 (some .int) ∈ lw_tbl := List.mem_append_right _ (List.mem_of_getElem? (i := 469) (by decide +kernel))
theorem mw_470 : Cond.methodLink "ConeDesk$Minors" 49 y_JM_abs ∈ lw_tbl := List.mem_append_right _ (List.mem_of_getElem? (i := 470) (by decide +kernel))
theorem mw_471 : Cond.static y_JM_abs ∈ lw_tbl := List.mem_append_right _ (List.mem_of_getElem? (i := 471) (by decide +kernel))
theorem mw_472 : Cond.code y_JM_abs prog_15_method_61_code 2 (some .long) ∈ lw_tbl := List.mem_append_right _ (List.mem_of_getElem? (i := 472) (by decide +kernel))
theorem mw_473 : Cond.methodLink "ConeDesk$Minors" 55 y_MI_commonDivisorOf ∈ lw_tbl := List.mem_append_right _ (List.mem_of_getElem? (i := 473) (by decide +kernel))
theorem mw_474 : Cond.static y_MI_commonDivisorOf ∈ lw_tbl := List.mem_append_right _ (List.mem_of_getElem? (i := 474) (by decide +kernel))
theorem mw_475 : Cond.code y_MI_commonDivisorOf prog_5_method_9_code 11 (some .long) ∈ lw_tbl := List.mem_append_right _ (List.mem_of_getElem? (i := 475) (by decide +kernel))
theorem mw_476 : Cond.methodLink "ConeDesk$Minors" 63 y_JA_fill ∈ lw_tbl := List.mem_append_right _ (List.mem_of_getElem? (i := 476) (by decide +kernel))
theorem mw_477 : Cond.static y_JA_fill ∈ lw_tbl := List.mem_append_right _ (List.mem_of_getElem? (i := 477) (by decide +kernel))
theorem mw_478 : Cond.code y_JA_fill prog_20_method_103_code 4 none ∈ lw_tbl := List.mem_append_right _ (List.mem_of_getElem? (i := 478) (by decide +kernel))
theorem mw_479 : Cond.methodLinkNest "ConeDesk$Minors" 69 y_D_maskOfAll "ConeDesk" ∈ lw_tbl := List.mem_append_right _ (List.mem_of_getElem? (i := 479) (by decide +kernel))
theorem mw_480 : Cond.methodLink "ConeDesk" 201 y_PL_insertInOrder ∈ lw_tbl := List.mem_append_right _ (List.mem_of_getElem? (i := 480) (by decide +kernel))
theorem mw_481 : Cond.instanceMethod y_PL_insertInOrder ∈ lw_tbl := List.mem_append_right _ (List.mem_of_getElem? (i := 481) (by decide +kernel))
theorem mw_482 : Cond.selects "ConeDesk$PointList" y_PL_insertInOrder y_PL_insertInOrder ∈ lw_tbl := List.mem_append_right _ (List.mem_of_getElem? (i := 482) (by decide +kernel))
theorem mw_483 : Cond.code y_PL_insertInOrder prog_6_method_8_code 3 none ∈ lw_tbl := List.mem_append_right _ (List.mem_of_getElem? (i := 483) (by decide +kernel))
theorem mw_484 : Cond.methodLink "ConeDesk$PointList" 28 y_PL_order ∈ lw_tbl := List.mem_append_right _ (List.mem_of_getElem? (i := 484) (by decide +kernel))
theorem mw_486 : Cond.instanceMethod y_PL_order ∈ lw_tbl := List.mem_append_right _ (List.mem_of_getElem? (i := 486) (by decide +kernel))
theorem mw_487 : Cond.code y_PL_order prog_6_method_10_code 5 (some .int) ∈ lw_tbl := List.mem_append_right _ (List.mem_of_getElem? (i := 487) (by decide +kernel))
theorem mw_488 : Cond.methodLink "ConeDesk$PointList" 32 y_PL_putAt ∈ lw_tbl := List.mem_append_right _ (List.mem_of_getElem? (i := 488) (by decide +kernel))
theorem mw_489 : Cond.methodLink "ConeDesk" 182 y_FL_find ∈ lw_tbl := List.mem_append_right _ (List.mem_of_getElem? (i := 489) (by decide +kernel))
theorem mw_490 : Cond.instanceMethod y_FL_find ∈ lw_tbl := List.mem_append_right _ (List.mem_of_getElem? (i := 490) (by decide +kernel))
theorem mw_491 : Cond.selects "ConeDesk$FaceList" y_FL_find y_FL_find ∈ lw_tbl := List.mem_append_right _ (List.mem_of_getElem? (i := 491) (by decide +kernel))
theorem mw_492 : Cond.code y_FL_find prog_3_method_2_code 7 none ∈ lw_tbl := List.mem_append_right _ (List.mem_of_getElem? (i := 492) (by decide +kernel))
theorem mw_493 : Cond.methodLinkNest "ConeDesk$FaceList" 31 y_D_maskOfAll "ConeDesk" ∈ lw_tbl := List.mem_append_right _ (List.mem_of_getElem? (i := 493) (by decide +kernel))
theorem mw_494 : Cond.methodLink "ConeDesk$FaceList" 35 y_FL_include ∈ lw_tbl := List.mem_append_right _ (List.mem_of_getElem? (i := 494) (by decide +kernel))
theorem mw_496 : Cond.instanceMethod y_FL_include ∈ lw_tbl := List.mem_append_right _ (List.mem_of_getElem? (i := 496) (by decide +kernel))
theorem mw_497 : Cond.code y_FL_include prog_3_method_8_code 2 none ∈ lw_tbl := List.mem_append_right _ (List.mem_of_getElem? (i := 497) (by decide +kernel))
theorem mw_498 : Cond.methodLink "ConeDesk$FaceList" 49 y_FL_indexOf ∈ lw_tbl := List.mem_append_right _ (List.mem_of_getElem? (i := 498) (by decide +kernel))
theorem mw_500 : Cond.instanceMethod y_FL_indexOf ∈ lw_tbl := List.mem_append_right _ (List.mem_of_getElem? (i := 500) (by decide +kernel))
theorem mw_501 : Cond.code y_FL_indexOf prog_3_method_9_code 3 (some .int) ∈ lw_tbl := List.mem_append_right _ (List.mem_of_getElem? (i := 501) (by decide +kernel))
theorem mw_502 : Cond.methodLink "ConeDesk$FaceList" 39 y_FL_findTight ∈ lw_tbl := List.mem_append_right _ (List.mem_of_getElem? (i := 502) (by decide +kernel))
theorem mw_504 : Cond.instanceMethod y_FL_findTight ∈ lw_tbl := List.mem_append_right _ (List.mem_of_getElem? (i := 504) (by decide +kernel))
theorem mw_505 : Cond.code y_FL_findTight prog_3_method_7_code 5 none ∈ lw_tbl := List.mem_append_right _ (List.mem_of_getElem? (i := 505) (by decide +kernel))
theorem mw_506 : Cond.methodLink "ConeDesk$FaceList" 52 y_JA_fill ∈ lw_tbl := List.mem_append_right _ (List.mem_of_getElem? (i := 506) (by decide +kernel))
theorem mw_507 : Cond.methodLink "ConeDesk$FaceList" 58 y_PL_copyOut ∈ lw_tbl := List.mem_append_right _ (List.mem_of_getElem? (i := 507) (by decide +kernel))
theorem mw_508 : Cond.instanceMethod y_PL_copyOut ∈ lw_tbl := List.mem_append_right _ (List.mem_of_getElem? (i := 508) (by decide +kernel))
theorem mw_509 : Cond.selects "ConeDesk$PointList" y_PL_copyOut y_PL_copyOut ∈ lw_tbl := List.mem_append_right _ (List.mem_of_getElem? (i := 509) (by decide +kernel))
theorem mw_510 : Cond.code y_PL_copyOut prog_6_method_7_code 3 none ∈ lw_tbl := List.mem_append_right _ (List.mem_of_getElem? (i := 510) (by decide +kernel))
theorem mw_511 : Cond.methodLink "ConeDesk$FaceList" 62 y_PL_product ∈ lw_tbl := List.mem_append_right _ (List.mem_of_getElem? (i := 511) (by decide +kernel))
theorem mw_512 : Cond.methodLink "ConeDesk$FaceList" 43 y_MI_load ∈ lw_tbl := List.mem_append_right _ (List.mem_of_getElem? (i := 512) (by decide +kernel))
theorem mw_513 : Cond.methodLink "ConeDesk" 186 y_BF_find ∈ lw_tbl := List.mem_append_right _ (List.mem_of_getElem? (i := 513) (by decide +kernel))
theorem mw_514 : Cond.instanceMethod y_BF_find ∈ lw_tbl := List.mem_append_right _ (List.mem_of_getElem? (i := 514) (by decide +kernel))
theorem mw_515 : Cond.selects "ConeDesk$BasisFinder" y_BF_find y_BF_find ∈ lw_tbl := List.mem_append_right _ (List.mem_of_getElem? (i := 515) (by decide +kernel))
theorem mw_516 : Cond.code y_BF_find prog_2_method_2_code 6 none ∈ lw_tbl := List.mem_append_right _ (List.mem_of_getElem? (i := 516) (by decide +kernel))
theorem mw_517 : Cond.methodLink "ConeDesk$BasisFinder" 58 y_BF_isLarge ∈ lw_tbl := List.mem_append_right _ (List.mem_of_getElem? (i := 517) (by decide +kernel))
theorem mw_519 : Cond.instanceMethod y_BF_isLarge ∈ lw_tbl := List.mem_append_right _ (List.mem_of_getElem? (i := 519) (by decide +kernel))
theorem mw_520 : Cond.code y_BF_isLarge prog_2_method_6_code 5 (some .boolean) ∈ lw_tbl := List.mem_append_right _ (List.mem_of_getElem? (i := 520) (by decide +kernel))
theorem mw_521 : Cond.methodLink "ConeDesk$BasisFinder" 113 y_JI_bitCount ∈ lw_tbl := List.mem_append_right _ (List.mem_of_getElem? (i := 521) (by decide +kernel))
theorem mw_522 : Cond.methodLink "ConeDesk$BasisFinder" 118 y_MI_load ∈ lw_tbl := List.mem_append_right _ (List.mem_of_getElem? (i := 522) (by decide +kernel))
theorem mw_523 : Cond.methodLink "ConeDesk$BasisFinder" 122 y_MI_commonDivisor ∈ lw_tbl := List.mem_append_right _ (List.mem_of_getElem? (i := 523) (by decide +kernel))
theorem mw_524 : Cond.constantLong "ConeDesk$BasisFinder" 126 (12 : Int64) ∈ lw_tbl := List.mem_append_right _ (List.mem_of_getElem? (i := 524) (by decide +kernel))
theorem mw_525 : Cond.methodLink "ConeDesk$BasisFinder" 66 y_SI_find ∈ lw_tbl := List.mem_append_right _ (List.mem_of_getElem? (i := 525) (by decide +kernel))
theorem mw_526 : Cond.instanceMethod y_SI_find ∈ lw_tbl := List.mem_append_right _ (List.mem_of_getElem? (i := 526) (by decide +kernel))
theorem mw_527 : Cond.selects "ConeDesk$Simplices" y_SI_find y_SI_find ∈ lw_tbl := List.mem_append_right _ (List.mem_of_getElem? (i := 527) (by decide +kernel))
theorem mw_528 : Cond.code y_SI_find prog_7_method_2_code 5 none ∈ lw_tbl := List.mem_append_right _ (List.mem_of_getElem? (i := 528) (by decide +kernel))
theorem mw_529 : Cond.methodLink "ConeDesk$Simplices" 25 y_SI_pushCut ∈ lw_tbl := List.mem_append_right _ (List.mem_of_getElem? (i := 529) (by decide +kernel))
theorem mw_531 : Cond.instanceMethod y_SI_pushCut ∈ lw_tbl := List.mem_append_right _ (List.mem_of_getElem? (i := 531) (by decide +kernel))
theorem mw_532 : Cond.code y_SI_pushCut prog_7_method_4_code 3 none ∈ lw_tbl := List.mem_append_right _ (List.mem_of_getElem? (i := 532) (by decide +kernel))
theorem mw_533 : Cond.methodLinkNest "ConeDesk$Simplices" 29 y_D_maskOfAll "ConeDesk" ∈ lw_tbl := List.mem_append_right _ (List.mem_of_getElem? (i := 533) (by decide +kernel))
theorem mw_534 : Cond.methodLink "ConeDesk$Simplices" 36 y_SI_addSimplex ∈ lw_tbl := List.mem_append_right _ (List.mem_of_getElem? (i := 534) (by decide +kernel))
theorem mw_536 : Cond.instanceMethod y_SI_addSimplex ∈ lw_tbl := List.mem_append_right _ (List.mem_of_getElem? (i := 536) (by decide +kernel))
theorem mw_537 : Cond.code y_SI_addSimplex prog_7_method_5_code 2 none ∈ lw_tbl := List.mem_append_right _ (List.mem_of_getElem? (i := 537) (by decide +kernel))
theorem mw_538 : Cond.methodLink "ConeDesk$Simplices" 40 y_SI_pushSides ∈ lw_tbl := List.mem_append_right _ (List.mem_of_getElem? (i := 538) (by decide +kernel))
theorem mw_540 : Cond.instanceMethod y_SI_pushSides ∈ lw_tbl := List.mem_append_right _ (List.mem_of_getElem? (i := 540) (by decide +kernel))
theorem mw_541 : Cond.code y_SI_pushSides prog_7_method_3_code 6 none ∈ lw_tbl := List.mem_append_right _ (List.mem_of_getElem? (i := 541) (by decide +kernel))
theorem mw_542 : Cond.methodLink "ConeDesk$Simplices" 45 y_FL_isSideWithout ∈ lw_tbl := List.mem_append_right _ (List.mem_of_getElem? (i := 542) (by decide +kernel))
theorem mw_543 : Cond.instanceMethod y_FL_isSideWithout ∈ lw_tbl := List.mem_append_right _ (List.mem_of_getElem? (i := 543) (by decide +kernel))
theorem mw_544 : Cond.selects "ConeDesk$FaceList" y_FL_isSideWithout y_FL_isSideWithout ∈ lw_tbl := List.mem_append_right _ (List.mem_of_getElem? (i := 544) (by decide +kernel))
theorem mw_545 : Cond.code y_FL_isSideWithout prog_3_method_6_code 4 (some .boolean) ∈ lw_tbl := List.mem_append_right _ (List.mem_of_getElem? (i := 545) (by decide +kernel))
theorem mw_546 : Cond.methodLink "ConeDesk$BasisFinder" 70 y_PL_copyOut ∈ lw_tbl := List.mem_append_right _ (List.mem_of_getElem? (i := 546) (by decide +kernel))
theorem mw_547 : Cond.methodLink "ConeDesk$BasisFinder" 74 y_PL_insertInOrder ∈ lw_tbl := List.mem_append_right _ (List.mem_of_getElem? (i := 547) (by decide +kernel))
theorem mw_548 : Cond.methodLink "ConeDesk$BasisFinder" 82 y_IP_addTo ∈ lw_tbl := List.mem_append_right _ (List.mem_of_getElem? (i := 548) (by decide +kernel))
theorem mw_549 : Cond.instanceMethod y_IP_addTo ∈ lw_tbl := List.mem_append_right _ (List.mem_of_getElem? (i := 549) (by decide +kernel))
theorem mw_550 : Cond.selects "ConeDesk$InnerPoints" y_IP_addTo y_IP_addTo ∈ lw_tbl := List.mem_append_right _ (List.mem_of_getElem? (i := 550) (by decide +kernel))
theorem mw_551 : Cond.code y_IP_addTo prog_4_method_2_code 5 none ∈ lw_tbl := List.mem_append_right _ (List.mem_of_getElem? (i := 551) (by decide +kernel))
theorem mw_552 : Cond.methodLink "ConeDesk$InnerPoints" 34 y_MI_load ∈ lw_tbl := List.mem_append_right _ (List.mem_of_getElem? (i := 552) (by decide +kernel))
theorem mw_553 : Cond.methodLink "ConeDesk$InnerPoints" 38 y_MI_commonDivisor ∈ lw_tbl := List.mem_append_right _ (List.mem_of_getElem? (i := 553) (by decide +kernel))
theorem mw_554 : Cond.methodLink "ConeDesk$InnerPoints" 46 y_IP_findMembers ∈ lw_tbl := List.mem_append_right _ (List.mem_of_getElem? (i := 554) (by decide +kernel))
theorem mw_556 : Cond.instanceMethod y_IP_findMembers ∈ lw_tbl := List.mem_append_right _ (List.mem_of_getElem? (i := 556) (by decide +kernel))
theorem mw_557 : Cond.code y_IP_findMembers prog_4_method_3_code 4 none ∈ lw_tbl := List.mem_append_right _ (List.mem_of_getElem? (i := 557) (by decide +kernel))
theorem mw_558 : Cond.methodLinkNest "ConeDesk$InnerPoints" 74 y_D_hasBit "ConeDesk" ∈ lw_tbl := List.mem_append_right _ (List.mem_of_getElem? (i := 558) (by decide +kernel))
theorem mw_559 : Cond.methodLink "ConeDesk$InnerPoints" 50 y_IP_findSteps ∈ lw_tbl := List.mem_append_right _ (List.mem_of_getElem? (i := 559) (by decide +kernel))
theorem mw_561 : Cond.instanceMethod y_IP_findSteps ∈ lw_tbl := List.mem_append_right _ (List.mem_of_getElem? (i := 561) (by decide +kernel))
theorem mw_562 : Cond.code y_IP_findSteps prog_4_method_4_code 8 none ∈ lw_tbl := List.mem_append_right _ (List.mem_of_getElem? (i := 562) (by decide +kernel))
theorem mw_563 : Cond.methodLink "ConeDesk$InnerPoints" 78 y_JA_fill ∈ lw_tbl := List.mem_append_right _ (List.mem_of_getElem? (i := 563) (by decide +kernel))
theorem mw_564 : Cond.methodLink "ConeDesk$InnerPoints" 84 y_MI_endOfChoices ∈ lw_tbl := List.mem_append_right _ (List.mem_of_getElem? (i := 564) (by decide +kernel))
theorem mw_565 : Cond.methodLink "ConeDesk$InnerPoints" 88 y_MI_firstChoice ∈ lw_tbl := List.mem_append_right _ (List.mem_of_getElem? (i := 565) (by decide +kernel))
theorem mw_566 : Cond.methodLink "ConeDesk$InnerPoints" 91 y_MI_minor ∈ lw_tbl := List.mem_append_right _ (List.mem_of_getElem? (i := 566) (by decide +kernel))
theorem mw_567 : Cond.instanceMethod y_MI_minor ∈ lw_tbl := List.mem_append_right _ (List.mem_of_getElem? (i := 567) (by decide +kernel))
theorem mw_568 : Cond.selects "ConeDesk$Minors" y_MI_minor y_MI_minor ∈ lw_tbl := List.mem_append_right _ (List.mem_of_getElem? (i := 568) (by decide +kernel))
theorem mw_569 : Cond.code y_MI_minor prog_5_method_5_code 2 (some .long) ∈ lw_tbl := List.mem_append_right _ (List.mem_of_getElem? (i := 569) (by decide +kernel))
theorem mw_570 : Cond.methodLink "ConeDesk$InnerPoints" 95 y_IP_restOf ∈ lw_tbl := List.mem_append_right _ (List.mem_of_getElem? (i := 570) (by decide +kernel))
theorem mw_572 : Cond.instanceMethod y_IP_restOf ∈ lw_tbl := List.mem_append_right _ (List.mem_of_getElem? (i := 572) (by decide +kernel))
theorem mw_573 : Cond.code y_IP_restOf prog_4_method_5_code 4 (some .int) ∈ lw_tbl := List.mem_append_right _ (List.mem_of_getElem? (i := 573) (by decide +kernel))
theorem mw_574 : Cond.methodLink "ConeDesk$InnerPoints" 53 y_IP_findMixes ∈ lw_tbl := List.mem_append_right _ (List.mem_of_getElem? (i := 574) (by decide +kernel))
theorem mw_576 : Cond.instanceMethod y_IP_findMixes ∈ lw_tbl := List.mem_append_right _ (List.mem_of_getElem? (i := 576) (by decide +kernel))
theorem mw_577 : Cond.code y_IP_findMixes prog_4_method_6_code 3 none ∈ lw_tbl := List.mem_append_right _ (List.mem_of_getElem? (i := 577) (by decide +kernel))
theorem mw_578 : Cond.methodLink "ConeDesk$InnerPoints" 99 y_IP_sumOf ∈ lw_tbl := List.mem_append_right _ (List.mem_of_getElem? (i := 578) (by decide +kernel))
theorem mw_580 : Cond.instanceMethod y_IP_sumOf ∈ lw_tbl := List.mem_append_right _ (List.mem_of_getElem? (i := 580) (by decide +kernel))
theorem mw_581 : Cond.code y_IP_sumOf prog_4_method_7_code 6 (some .int) ∈ lw_tbl := List.mem_append_right _ (List.mem_of_getElem? (i := 581) (by decide +kernel))
theorem mw_582 : Cond.methodLink "ConeDesk$InnerPoints" 103 y_IP_includeMix ∈ lw_tbl := List.mem_append_right _ (List.mem_of_getElem? (i := 582) (by decide +kernel))
theorem mw_584 : Cond.instanceMethod y_IP_includeMix ∈ lw_tbl := List.mem_append_right _ (List.mem_of_getElem? (i := 584) (by decide +kernel))
theorem mw_585 : Cond.code y_IP_includeMix prog_4_method_8_code 3 none ∈ lw_tbl := List.mem_append_right _ (List.mem_of_getElem? (i := 585) (by decide +kernel))
theorem mw_586 : Cond.methodLink "ConeDesk$InnerPoints" 59 y_IP_fillInner ∈ lw_tbl := List.mem_append_right _ (List.mem_of_getElem? (i := 586) (by decide +kernel))
theorem mw_588 : Cond.instanceMethod y_IP_fillInner ∈ lw_tbl := List.mem_append_right _ (List.mem_of_getElem? (i := 588) (by decide +kernel))
theorem mw_589 : Cond.code y_IP_fillInner prog_4_method_9_code 6 none ∈ lw_tbl := List.mem_append_right _ (List.mem_of_getElem? (i := 589) (by decide +kernel))
theorem mw_590 : Cond.methodLink "ConeDesk$InnerPoints" 107 y_PL_at ∈ lw_tbl := List.mem_append_right _ (List.mem_of_getElem? (i := 590) (by decide +kernel))
theorem mw_591 : Cond.methodLink "ConeDesk$InnerPoints" 62 y_PL_insertInOrder ∈ lw_tbl := List.mem_append_right _ (List.mem_of_getElem? (i := 591) (by decide +kernel))
theorem mw_592 : Cond.methodLink "ConeDesk$BasisFinder" 86 y_BF_measure ∈ lw_tbl := List.mem_append_right _ (List.mem_of_getElem? (i := 592) (by decide +kernel))
theorem mw_594 : Cond.instanceMethod y_BF_measure ∈ lw_tbl := List.mem_append_right _ (List.mem_of_getElem? (i := 594) (by decide +kernel))
theorem mw_595 : Cond.code y_BF_measure prog_2_method_7_code 4 none ∈ lw_tbl := List.mem_append_right _ (List.mem_of_getElem? (i := 595) (by decide +kernel))
theorem mw_596 : Cond.methodLink "ConeDesk$BasisFinder" 93 y_PL_product ∈ lw_tbl := List.mem_append_right _ (List.mem_of_getElem? (i := 596) (by decide +kernel))
theorem mw_597 : Cond.methodLink "ConeDesk$BasisFinder" 90 y_BF_siftOutSums ∈ lw_tbl := List.mem_append_right _ (List.mem_of_getElem? (i := 597) (by decide +kernel))
theorem mw_599 : Cond.instanceMethod y_BF_siftOutSums ∈ lw_tbl := List.mem_append_right _ (List.mem_of_getElem? (i := 599) (by decide +kernel))
theorem mw_600 : Cond.code y_BF_siftOutSums prog_2_method_8_code 3 none ∈ lw_tbl := List.mem_append_right _ (List.mem_of_getElem? (i := 600) (by decide +kernel))
theorem mw_601 : Cond.methodLink "ConeDesk$BasisFinder" 128 y_BF_isSum ∈ lw_tbl := List.mem_append_right _ (List.mem_of_getElem? (i := 601) (by decide +kernel))
theorem mw_603 : Cond.instanceMethod y_BF_isSum ∈ lw_tbl := List.mem_append_right _ (List.mem_of_getElem? (i := 603) (by decide +kernel))
theorem mw_604 : Cond.code y_BF_isSum prog_2_method_9_code 4 (some .boolean) ∈ lw_tbl := List.mem_append_right _ (List.mem_of_getElem? (i := 604) (by decide +kernel))
theorem mw_605 : Cond.methodLink "ConeDesk$BasisFinder" 142 y_BF_isBelow ∈ lw_tbl := List.mem_append_right _ (List.mem_of_getElem? (i := 605) (by decide +kernel))
theorem mw_607 : Cond.instanceMethod y_BF_isBelow ∈ lw_tbl := List.mem_append_right _ (List.mem_of_getElem? (i := 607) (by decide +kernel))
theorem mw_608 : Cond.code y_BF_isBelow prog_2_method_10_code 4 (some .boolean) ∈ lw_tbl := List.mem_append_right _ (List.mem_of_getElem? (i := 608) (by decide +kernel))
theorem mw_609 : Cond.methodLink "ConeDesk$BasisFinder" 132 y_PL_copyWithin ∈ lw_tbl := List.mem_append_right _ (List.mem_of_getElem? (i := 609) (by decide +kernel))
theorem mw_610 : Cond.instanceMethod y_PL_copyWithin ∈ lw_tbl := List.mem_append_right _ (List.mem_of_getElem? (i := 610) (by decide +kernel))
theorem mw_611 : Cond.selects "ConeDesk$PointList" y_PL_copyWithin y_PL_copyWithin ∈ lw_tbl := List.mem_append_right _ (List.mem_of_getElem? (i := 611) (by decide +kernel))
theorem mw_612 : Cond.code y_PL_copyWithin prog_6_method_6_code 3 none ∈ lw_tbl := List.mem_append_right _ (List.mem_of_getElem? (i := 612) (by decide +kernel))
theorem mw_613 : Cond.methodLink "ConeDesk$BasisFinder" 136 ⟨"java/lang/System", "arraycopy", "(Ljava/lang/Object;ILjava/lang/Object;II)V"⟩ ∈ lw_tbl := List.mem_append_right _ (List.mem_of_getElem? (i := 613) (by decide +kernel))
theorem mw_614 : Cond.methodLink "ConeDeskLaw" 91 y_L_ray ∈ lw_tbl := List.mem_append_right _ (List.mem_of_getElem? (i := 614) (by decide +kernel))
theorem mw_615 : Cond.static y_L_ray ∈ lw_tbl := List.mem_append_right _ (List.mem_of_getElem? (i := 615) (by decide +kernel))
theorem mw_616 : Cond.codeWith y_L_ray method_7_code 5 (some .int) [(0, 10, 13, 15), (0, 10, 17, 21)] ∈ lw_tbl := List.mem_append_right _ (List.mem_of_getElem? (i := 616) (by decide +kernel))
theorem mw_617 : Cond.methodLink "ConeDeskLaw" 31 y_D_ray ∈ lw_tbl := List.mem_append_right _ (List.mem_of_getElem? (i := 617) (by decide +kernel))
theorem mw_618 : Cond.instanceMethod y_D_ray ∈ lw_tbl := List.mem_append_right _ (List.mem_of_getElem? (i := 618) (by decide +kernel))
theorem mw_619 : Cond.selects "ConeDesk" y_D_ray y_D_ray ∈ lw_tbl := List.mem_append_right _ (List.mem_of_getElem? (i := 619) (by decide +kernel))
theorem mw_620 : Cond.code y_D_ray prog_1_method_7_code 3 (some .int) ∈ lw_tbl := List.mem_append_right _ (List.mem_of_getElem? (i := 620) (by decide +kernel))
theorem mw_622 : Cond.methodLink "ConeDeskLaw" 94 y_L_size ∈ lw_tbl := List.mem_append_right _ (List.mem_of_getElem? (i := 622) (by decide +kernel))
theorem mw_623 : Cond.static y_L_size ∈ lw_tbl := List.mem_append_right _ (List.mem_of_getElem? (i := 623) (by decide +kernel))
theorem mw_624 : Cond.codeWith y_L_size method_8_code 3 (some .int) [(0, 8, 11, 15)] ∈ lw_tbl := List.mem_append_right _ (List.mem_of_getElem? (i := 624) (by decide +kernel))
theorem mw_625 : Cond.methodLink "ConeDeskLaw" 34 y_D_size ∈ lw_tbl := List.mem_append_right _ (List.mem_of_getElem? (i := 625) (by decide +kernel))
theorem mw_626 : Cond.instanceMethod y_D_size ∈ lw_tbl := List.mem_append_right _ (List.mem_of_getElem? (i := 626) (by decide +kernel))
theorem mw_627 : Cond.selects "ConeDesk" y_D_size y_D_size ∈ lw_tbl := List.mem_append_right _ (List.mem_of_getElem? (i := 627) (by decide +kernel))
theorem mw_628 : Cond.code y_D_size prog_1_method_8_code 1 (some .int) ∈ lw_tbl := List.mem_append_right _ (List.mem_of_getElem? (i := 628) (by decide +kernel))
theorem mw_629 : Cond.methodLink "ConeDeskLaw" 97 y_L_bounds ∈ lw_tbl := List.mem_append_right _ (List.mem_of_getElem? (i := 629) (by decide +kernel))
theorem mw_630 : Cond.static y_L_bounds ∈ lw_tbl := List.mem_append_right _ (List.mem_of_getElem? (i := 630) (by decide +kernel))
theorem mw_631 : Cond.codeWith y_L_bounds method_9_code 4 (some .int) [(0, 16, 19, 15), (0, 16, 22, 21)] ∈ lw_tbl := List.mem_append_right _ (List.mem_of_getElem? (i := 631) (by decide +kernel))
theorem mw_632 : Cond.methodLink "ConeDeskLaw" 37 y_D_bounds ∈ lw_tbl := List.mem_append_right _ (List.mem_of_getElem? (i := 632) (by decide +kernel))
theorem mw_633 : Cond.instanceMethod y_D_bounds ∈ lw_tbl := List.mem_append_right _ (List.mem_of_getElem? (i := 633) (by decide +kernel))
theorem mw_634 : Cond.selects "ConeDesk" y_D_bounds y_D_bounds ∈ lw_tbl := List.mem_append_right _ (List.mem_of_getElem? (i := 634) (by decide +kernel))
theorem mw_635 : Cond.code y_D_bounds prog_1_method_9_code 2 (some .boolean) ∈ lw_tbl := List.mem_append_right _ (List.mem_of_getElem? (i := 635) (by decide +kernel))
theorem mw_636 : Cond.methodLink "ConeDesk" 121 y_FL_isFirstAtItsFace ∈ lw_tbl := List.mem_append_right _ (List.mem_of_getElem? (i := 636) (by decide +kernel))
theorem mw_637 : Cond.instanceMethod y_FL_isFirstAtItsFace ∈ lw_tbl := List.mem_append_right _ (List.mem_of_getElem? (i := 637) (by decide +kernel))
theorem mw_638 : Cond.selects "ConeDesk$FaceList" y_FL_isFirstAtItsFace y_FL_isFirstAtItsFace ∈ lw_tbl := List.mem_append_right _ (List.mem_of_getElem? (i := 638) (by decide +kernel))
theorem mw_639 : Cond.code y_FL_isFirstAtItsFace prog_3_method_4_code 3 (some .boolean) ∈ lw_tbl := List.mem_append_right _ (List.mem_of_getElem? (i := 639) (by decide +kernel))
theorem mw_640 : Cond.methodLink "ConeDesk" 124 y_FL_dimensionAt ∈ lw_tbl := List.mem_append_right _ (List.mem_of_getElem? (i := 640) (by decide +kernel))
theorem mw_641 : Cond.instanceMethod y_FL_dimensionAt ∈ lw_tbl := List.mem_append_right _ (List.mem_of_getElem? (i := 641) (by decide +kernel))
theorem mw_642 : Cond.selects "ConeDesk$FaceList" y_FL_dimensionAt y_FL_dimensionAt ∈ lw_tbl := List.mem_append_right _ (List.mem_of_getElem? (i := 642) (by decide +kernel))
theorem mw_643 : Cond.code y_FL_dimensionAt prog_3_method_5_code 3 (some .int) ∈ lw_tbl := List.mem_append_right _ (List.mem_of_getElem? (i := 643) (by decide +kernel))
theorem mw_644 : Cond.methodLink "ConeDeskLaw" 101 y_L_faces ∈ lw_tbl := List.mem_append_right _ (List.mem_of_getElem? (i := 644) (by decide +kernel))
theorem mw_645 : Cond.static y_L_faces ∈ lw_tbl := List.mem_append_right _ (List.mem_of_getElem? (i := 645) (by decide +kernel))
theorem mw_646 : Cond.codeWith y_L_faces method_10_code 4 (some .int) [(0, 9, 12, 15)] ∈ lw_tbl := List.mem_append_right _ (List.mem_of_getElem? (i := 646) (by decide +kernel))
theorem mw_647 : Cond.methodLink "ConeDeskLaw" 41 y_D_faces ∈ lw_tbl := List.mem_append_right _ (List.mem_of_getElem? (i := 647) (by decide +kernel))
theorem mw_648 : Cond.instanceMethod y_D_faces ∈ lw_tbl := List.mem_append_right _ (List.mem_of_getElem? (i := 648) (by decide +kernel))
theorem mw_649 : Cond.selects "ConeDesk" y_D_faces y_D_faces ∈ lw_tbl := List.mem_append_right _ (List.mem_of_getElem? (i := 649) (by decide +kernel))
theorem mw_650 : Cond.code y_D_faces prog_1_method_10_code 2 (some .int) ∈ lw_tbl := List.mem_append_right _ (List.mem_of_getElem? (i := 650) (by decide +kernel))
theorem mw_651 : Cond.methodLink "ConeDesk" 128 y_FL_countOf ∈ lw_tbl := List.mem_append_right _ (List.mem_of_getElem? (i := 651) (by decide +kernel))
theorem mw_652 : Cond.instanceMethod y_FL_countOf ∈ lw_tbl := List.mem_append_right _ (List.mem_of_getElem? (i := 652) (by decide +kernel))
theorem mw_653 : Cond.selects "ConeDesk$FaceList" y_FL_countOf y_FL_countOf ∈ lw_tbl := List.mem_append_right _ (List.mem_of_getElem? (i := 653) (by decide +kernel))
theorem mw_654 : Cond.code y_FL_countOf prog_3_method_3_code 4 (some .int) ∈ lw_tbl := List.mem_append_right _ (List.mem_of_getElem? (i := 654) (by decide +kernel))
theorem mw_655 : Cond.methodLink "ConeDeskLaw" 104 y_L_basis ∈ lw_tbl := List.mem_append_right _ (List.mem_of_getElem? (i := 655) (by decide +kernel))
theorem mw_656 : Cond.static y_L_basis ∈ lw_tbl := List.mem_append_right _ (List.mem_of_getElem? (i := 656) (by decide +kernel))
theorem mw_657 : Cond.codeWith y_L_basis method_11_code 3 (some .int) [(0, 8, 11, 15)] ∈ lw_tbl := List.mem_append_right _ (List.mem_of_getElem? (i := 657) (by decide +kernel))
theorem mw_658 : Cond.methodLink "ConeDeskLaw" 45 y_D_basis ∈ lw_tbl := List.mem_append_right _ (List.mem_of_getElem? (i := 658) (by decide +kernel))
theorem mw_659 : Cond.instanceMethod y_D_basis ∈ lw_tbl := List.mem_append_right _ (List.mem_of_getElem? (i := 659) (by decide +kernel))
theorem mw_660 : Cond.selects "ConeDesk" y_D_basis y_D_basis ∈ lw_tbl := List.mem_append_right _ (List.mem_of_getElem? (i := 660) (by decide +kernel))
theorem mw_661 : Cond.code y_D_basis prog_1_method_11_code 1 (some .int) ∈ lw_tbl := List.mem_append_right _ (List.mem_of_getElem? (i := 661) (by decide +kernel))
theorem mw_662 : Cond.methodLink "ConeDeskLaw" 107 y_L_point ∈ lw_tbl := List.mem_append_right _ (List.mem_of_getElem? (i := 662) (by decide +kernel))
theorem mw_663 : Cond.static y_L_point ∈ lw_tbl := List.mem_append_right _ (List.mem_of_getElem? (i := 663) (by decide +kernel))
theorem mw_664 : Cond.codeWith y_L_point method_12_code 5 (some .int) [(0, 10, 13, 15), (0, 10, 17, 21)] ∈ lw_tbl := List.mem_append_right _ (List.mem_of_getElem? (i := 664) (by decide +kernel))
theorem mw_665 : Cond.methodLink "ConeDeskLaw" 48 y_D_point ∈ lw_tbl := List.mem_append_right _ (List.mem_of_getElem? (i := 665) (by decide +kernel))
theorem mw_666 : Cond.instanceMethod y_D_point ∈ lw_tbl := List.mem_append_right _ (List.mem_of_getElem? (i := 666) (by decide +kernel))
theorem mw_667 : Cond.selects "ConeDesk" y_D_point y_D_point ∈ lw_tbl := List.mem_append_right _ (List.mem_of_getElem? (i := 667) (by decide +kernel))
theorem mw_668 : Cond.code y_D_point prog_1_method_12_code 3 (some .int) ∈ lw_tbl := List.mem_append_right _ (List.mem_of_getElem? (i := 668) (by decide +kernel))
theorem mw_669 : Cond.methodLink "ConeDesk" 138 y_D_needSmall ∈ lw_tbl := List.mem_append_right _ (List.mem_of_getElem? (i := 669) (by decide +kernel))
theorem mw_671 : Cond.instanceMethod y_D_needSmall ∈ lw_tbl := List.mem_append_right _ (List.mem_of_getElem? (i := 671) (by decide +kernel))
theorem mw_672 : Cond.code y_D_needSmall prog_1_method_22_code 1 none ∈ lw_tbl := List.mem_append_right _ (List.mem_of_getElem? (i := 672) (by decide +kernel))
theorem mw_675 : Cond.methodLink "ConeDeskLaw" 115 y_L_parts ∈ lw_tbl := List.mem_append_right _ (List.mem_of_getElem? (i := 675) (by decide +kernel))
theorem mw_676 : Cond.static y_L_parts ∈ lw_tbl := List.mem_append_right _ (List.mem_of_getElem? (i := 676) (by decide +kernel))
theorem mw_677 : Cond.codeWith y_L_parts method_13_code 7 (some .int) [(0, 14, 17, 15)] ∈ lw_tbl := List.mem_append_right _ (List.mem_of_getElem? (i := 677) (by decide +kernel))
theorem mw_678 : Cond.methodLink "ConeDeskLaw" 51 y_D_parts ∈ lw_tbl := List.mem_append_right _ (List.mem_of_getElem? (i := 678) (by decide +kernel))
theorem mw_679 : Cond.instanceMethod y_D_parts ∈ lw_tbl := List.mem_append_right _ (List.mem_of_getElem? (i := 679) (by decide +kernel))
theorem mw_680 : Cond.selects "ConeDesk" y_D_parts y_D_parts ∈ lw_tbl := List.mem_append_right _ (List.mem_of_getElem? (i := 680) (by decide +kernel))
theorem mw_681 : Cond.code y_D_parts prog_1_method_14_code 5 (some .int) ∈ lw_tbl := List.mem_append_right _ (List.mem_of_getElem? (i := 681) (by decide +kernel))
theorem mw_682 : Cond.methodLink "ConeDesk" 147 y_BF_countParts ∈ lw_tbl := List.mem_append_right _ (List.mem_of_getElem? (i := 682) (by decide +kernel))
theorem mw_683 : Cond.instanceMethod y_BF_countParts ∈ lw_tbl := List.mem_append_right _ (List.mem_of_getElem? (i := 683) (by decide +kernel))
theorem mw_684 : Cond.selects "ConeDesk$BasisFinder" y_BF_countParts y_BF_countParts ∈ lw_tbl := List.mem_append_right _ (List.mem_of_getElem? (i := 684) (by decide +kernel))
theorem mw_685 : Cond.code y_BF_countParts prog_2_method_4_code 7 (some .int) ∈ lw_tbl := List.mem_append_right _ (List.mem_of_getElem? (i := 685) (by decide +kernel))
theorem mw_686 : Cond.methodLink "ConeDesk$BasisFinder" 103 y_BF_timesInRest ∈ lw_tbl := List.mem_append_right _ (List.mem_of_getElem? (i := 686) (by decide +kernel))
theorem mw_688 : Cond.instanceMethod y_BF_timesInRest ∈ lw_tbl := List.mem_append_right _ (List.mem_of_getElem? (i := 688) (by decide +kernel))
theorem mw_689 : Cond.code y_BF_timesInRest prog_2_method_5_code 6 (some .int) ∈ lw_tbl := List.mem_append_right _ (List.mem_of_getElem? (i := 689) (by decide +kernel))
theorem mw_690 : Cond.methodLink "ConeDesk$BasisFinder" 107 y_JM_min ∈ lw_tbl := List.mem_append_right _ (List.mem_of_getElem? (i := 690) (by decide +kernel))
theorem mw_691 : Cond.methodLink "ConeDesk$BasisFinder" 110 y_JM_max ∈ lw_tbl := List.mem_append_right _ (List.mem_of_getElem? (i := 691) (by decide +kernel))
theorem mw_692 : Cond.methodLink "ConeDeskLaw" 118 y_L_least ∈ lw_tbl := List.mem_append_right _ (List.mem_of_getElem? (i := 692) (by decide +kernel))
theorem mw_693 : Cond.static y_L_least ∈ lw_tbl := List.mem_append_right _ (List.mem_of_getElem? (i := 693) (by decide +kernel))
theorem mw_694 : Cond.codeWith y_L_least method_14_code 7 (some .int) [(0, 14, 17, 13), (0, 14, 21, 15)] ∈ lw_tbl := List.mem_append_right _ (List.mem_of_getElem? (i := 694) (by decide +kernel))
theorem mw_695 : Cond.methodLink "ConeDeskLaw" 54 y_D_least ∈ lw_tbl := List.mem_append_right _ (List.mem_of_getElem? (i := 695) (by decide +kernel))
theorem mw_696 : Cond.instanceMethod y_D_least ∈ lw_tbl := List.mem_append_right _ (List.mem_of_getElem? (i := 696) (by decide +kernel))
theorem mw_697 : Cond.selects "ConeDesk" y_D_least y_D_least ∈ lw_tbl := List.mem_append_right _ (List.mem_of_getElem? (i := 697) (by decide +kernel))
theorem mw_698 : Cond.code y_D_least prog_1_method_15_code 5 (some .int) ∈ lw_tbl := List.mem_append_right _ (List.mem_of_getElem? (i := 698) (by decide +kernel))
theorem mw_700 : Cond.methodLink "ConeDesk" 153 y_BF_leastProduct ∈ lw_tbl := List.mem_append_right _ (List.mem_of_getElem? (i := 700) (by decide +kernel))
theorem mw_701 : Cond.instanceMethod y_BF_leastProduct ∈ lw_tbl := List.mem_append_right _ (List.mem_of_getElem? (i := 701) (by decide +kernel))
theorem mw_702 : Cond.selects "ConeDesk$BasisFinder" y_BF_leastProduct y_BF_leastProduct ∈ lw_tbl := List.mem_append_right _ (List.mem_of_getElem? (i := 702) (by decide +kernel))
theorem mw_703 : Cond.code y_BF_leastProduct prog_2_method_3_code 7 (some .int) ∈ lw_tbl := List.mem_append_right _ (List.mem_of_getElem? (i := 703) (by decide +kernel))
theorem mw_704 : Cond.methodLink "ConeDesk$BasisFinder" 97 y_JM_minl ∈ lw_tbl := List.mem_append_right _ (List.mem_of_getElem? (i := 704) (by decide +kernel))
theorem mw_705 : Cond.static y_JM_minl ∈ lw_tbl := List.mem_append_right _ (List.mem_of_getElem? (i := 705) (by decide +kernel))
theorem mw_706 : Cond.code y_JM_minl prog_15_method_70_code 4 (some .long) ∈ lw_tbl := List.mem_append_right _ (List.mem_of_getElem? (i := 706) (by decide +kernel))
theorem mw_707 : Cond.classLink "ConeDeskLaw" 65 "ConeDeskModel" ∈ lw_tbl := List.mem_append_right _ (List.mem_of_getElem? (i := 707) (by decide +kernel))
theorem mw_708 : Cond.instantiable "ConeDeskModel" 19 ∈ lw_tbl := List.mem_append_right _ (List.mem_of_getElem? (i := 708) (by decide +kernel))
theorem mw_709 : Cond.methodLink "ConeDeskLaw" 67 y_M_init ∈ lw_tbl := List.mem_append_right _ (List.mem_of_getElem? (i := 709) (by decide +kernel))
theorem mw_710 : Cond.instanceMethod y_M_init ∈ lw_tbl := List.mem_append_right _ (List.mem_of_getElem? (i := 710) (by decide +kernel))
theorem mw_711 : Cond.code y_M_init prog_9_method_1_code 2 none ∈ lw_tbl := List.mem_append_right _ (List.mem_of_getElem? (i := 711) (by decide +kernel))
theorem mw_712 : Cond.methodLink "ConeDeskModel" 1 ⟨"java/lang/Object", "<init>", "()V"⟩ ∈ lw_tbl := List.mem_append_right _ (List.mem_of_getElem? (i := 712) (by decide +kernel))
theorem mw_713 : Cond.fieldLink "ConeDeskModel" 43 "ConeDeskModel" "thrown" "I" ∈ lw_tbl := List.mem_append_right _ (List.mem_of_getElem? (i := 713) (by decide +kernel))
theorem mw_714 : Cond.fieldLink "ConeDeskModel" 39 "ConeDeskModel" "size" "I" ∈ lw_tbl := List.mem_append_right _ (List.mem_of_getElem? (i := 714) (by decide +kernel))
theorem mw_715 : Cond.fieldLink "ConeDeskModel" 62 "ConeDeskModel" "rows" "I" ∈ lw_tbl := List.mem_append_right _ (List.mem_of_getElem? (i := 715) (by decide +kernel))
theorem mw_716 : Cond.fieldLink "ConeDeskModel" 7 "ConeDeskModel" "row" "[I" ∈ lw_tbl := List.mem_append_right _ (List.mem_of_getElem? (i := 716) (by decide +kernel))
theorem mw_717 : Cond.fieldLink "ConeDeskModel" 65 "ConeDeskModel" "known" "Z" ∈ lw_tbl := List.mem_append_right _ (List.mem_of_getElem? (i := 717) (by decide +kernel))
theorem mw_718 : Cond.fieldLink "ConeDeskModel" 92 "ConeDeskModel" "rank" "I" ∈ lw_tbl := List.mem_append_right _ (List.mem_of_getElem? (i := 718) (by decide +kernel))
theorem mw_719 : Cond.fieldLink "ConeDeskModel" 95 "ConeDeskModel" "rays" "I" ∈ lw_tbl := List.mem_append_right _ (List.mem_of_getElem? (i := 719) (by decide +kernel))
theorem mw_720 : Cond.fieldLink "ConeDeskModel" 13 "ConeDeskModel" "ray" "[I" ∈ lw_tbl := List.mem_append_right _ (List.mem_of_getElem? (i := 720) (by decide +kernel))
theorem mw_721 : Cond.fieldLink "ConeDeskModel" 101 "ConeDeskModel" "span" "I" ∈ lw_tbl := List.mem_append_right _ (List.mem_of_getElem? (i := 721) (by decide +kernel))
theorem mw_722 : Cond.fieldLink "ConeDeskModel" 98 "ConeDeskModel" "large" "Z" ∈ lw_tbl := List.mem_append_right _ (List.mem_of_getElem? (i := 722) (by decide +kernel))
theorem mw_723 : Cond.fieldLink "ConeDeskModel" 16 "ConeDeskModel" "tight" "[I" ∈ lw_tbl := List.mem_append_right _ (List.mem_of_getElem? (i := 723) (by decide +kernel))
theorem mw_724 : Cond.fieldLink "ConeDeskModel" 85 "ConeDeskModel" "found" "Z" ∈ lw_tbl := List.mem_append_right _ (List.mem_of_getElem? (i := 724) (by decide +kernel))
theorem mw_725 : Cond.fieldLink "ConeDeskModel" 147 "ConeDeskModel" "points" "I" ∈ lw_tbl := List.mem_append_right _ (List.mem_of_getElem? (i := 725) (by decide +kernel))
theorem mw_726 : Cond.fieldLink "ConeDeskModel" 19 "ConeDeskModel" "point" "[I" ∈ lw_tbl := List.mem_append_right _ (List.mem_of_getElem? (i := 726) (by decide +kernel))
theorem mw_727 : Cond.fieldLink "ConeDeskModel" 22 "ConeDeskModel" "sum" "[Z" ∈ lw_tbl := List.mem_append_right _ (List.mem_of_getElem? (i := 727) (by decide +kernel))
theorem mw_728 : Cond.fieldLink "ConeDeskModel" 26 "ConeDeskModel" "square" "[J" ∈ lw_tbl := List.mem_append_right _ (List.mem_of_getElem? (i := 728) (by decide +kernel))
theorem mw_729 : Cond.fieldLink "ConeDeskModel" 30 "ConeDeskModel" "chosen" "[I" ∈ lw_tbl := List.mem_append_right _ (List.mem_of_getElem? (i := 729) (by decide +kernel))
theorem mw_730 : Cond.fieldLink "ConeDeskModel" 33 "ConeDeskModel" "vector" "[I" ∈ lw_tbl := List.mem_append_right _ (List.mem_of_getElem? (i := 730) (by decide +kernel))
theorem mw_731 : Cond.fieldLink "ConeDeskModel" 36 "ConeDeskModel" "share" "[I" ∈ lw_tbl := List.mem_append_right _ (List.mem_of_getElem? (i := 731) (by decide +kernel))
theorem mw_771 : Cond.arrayClass .boolean ∈ lw_tbl := List.mem_append_right _ (List.mem_of_getElem? (i := 771) (by decide +kernel))
theorem mw_772 : Cond.methodLink "ConeDeskLaw" 72 y_M_thrown ∈ lw_tbl := List.mem_append_right _ (List.mem_of_getElem? (i := 772) (by decide +kernel))
theorem mw_773 : Cond.instanceMethod y_M_thrown ∈ lw_tbl := List.mem_append_right _ (List.mem_of_getElem? (i := 773) (by decide +kernel))
theorem mw_774 : Cond.selects "ConeDeskModel" y_M_thrown y_M_thrown ∈ lw_tbl := List.mem_append_right _ (List.mem_of_getElem? (i := 774) (by decide +kernel))
theorem mw_775 : Cond.code y_M_thrown prog_9_method_2_code 1 (some .int) ∈ lw_tbl := List.mem_append_right _ (List.mem_of_getElem? (i := 775) (by decide +kernel))
theorem mw_776 : Cond.methodLink "ConeDeskLaw" 71 y_M_add ∈ lw_tbl := List.mem_append_right _ (List.mem_of_getElem? (i := 776) (by decide +kernel))
theorem mw_777 : Cond.instanceMethod y_M_add ∈ lw_tbl := List.mem_append_right _ (List.mem_of_getElem? (i := 777) (by decide +kernel))
theorem mw_778 : Cond.selects "ConeDeskModel" y_M_add y_M_add ∈ lw_tbl := List.mem_append_right _ (List.mem_of_getElem? (i := 778) (by decide +kernel))
theorem mw_779 : Cond.code y_M_add prog_9_method_7_code 6 (some .int) ∈ lw_tbl := List.mem_append_right _ (List.mem_of_getElem? (i := 779) (by decide +kernel))
theorem mw_780 : Cond.methodLink "ConeDeskModel" 50 y_M_set ∈ lw_tbl := List.mem_append_right _ (List.mem_of_getElem? (i := 780) (by decide +kernel))
theorem mw_782 : Cond.instanceMethod y_M_set ∈ lw_tbl := List.mem_append_right _ (List.mem_of_getElem? (i := 782) (by decide +kernel))
theorem mw_783 : Cond.code y_M_set prog_9_method_5_code 5 none ∈ lw_tbl := List.mem_append_right _ (List.mem_of_getElem? (i := 783) (by decide +kernel))
theorem mw_784 : Cond.methodLink "ConeDeskModel" 54 y_M_within ∈ lw_tbl := List.mem_append_right _ (List.mem_of_getElem? (i := 784) (by decide +kernel))
theorem mw_786 : Cond.instanceMethod y_M_within ∈ lw_tbl := List.mem_append_right _ (List.mem_of_getElem? (i := 786) (by decide +kernel))
theorem mw_787 : Cond.code y_M_within prog_9_method_4_code 4 (some .boolean) ∈ lw_tbl := List.mem_append_right _ (List.mem_of_getElem? (i := 787) (by decide +kernel))
theorem mw_788 : Cond.methodLink "ConeDeskModel" 46 y_M_in ∈ lw_tbl := List.mem_append_right _ (List.mem_of_getElem? (i := 788) (by decide +kernel))
theorem mw_789 : Cond.static y_M_in ∈ lw_tbl := List.mem_append_right _ (List.mem_of_getElem? (i := 789) (by decide +kernel))
theorem mw_790 : Cond.code y_M_in prog_9_method_3_code 2 (some .boolean) ∈ lw_tbl := List.mem_append_right _ (List.mem_of_getElem? (i := 790) (by decide +kernel))
theorem mw_791 : Cond.methodLink "ConeDeskModel" 58 y_M_nothing ∈ lw_tbl := List.mem_append_right _ (List.mem_of_getElem? (i := 791) (by decide +kernel))
theorem mw_793 : Cond.instanceMethod y_M_nothing ∈ lw_tbl := List.mem_append_right _ (List.mem_of_getElem? (i := 793) (by decide +kernel))
theorem mw_794 : Cond.code y_M_nothing prog_9_method_6_code 1 (some .boolean) ∈ lw_tbl := List.mem_append_right _ (List.mem_of_getElem? (i := 794) (by decide +kernel))
theorem mw_795 : Cond.methodLink "ConeDeskLaw" 78 y_M_drop ∈ lw_tbl := List.mem_append_right _ (List.mem_of_getElem? (i := 795) (by decide +kernel))
theorem mw_796 : Cond.instanceMethod y_M_drop ∈ lw_tbl := List.mem_append_right _ (List.mem_of_getElem? (i := 796) (by decide +kernel))
theorem mw_797 : Cond.selects "ConeDeskModel" y_M_drop y_M_drop ∈ lw_tbl := List.mem_append_right _ (List.mem_of_getElem? (i := 797) (by decide +kernel))
theorem mw_798 : Cond.code y_M_drop prog_9_method_8_code 3 none ∈ lw_tbl := List.mem_append_right _ (List.mem_of_getElem? (i := 798) (by decide +kernel))
theorem mw_799 : Cond.methodLink "ConeDeskLaw" 82 y_M_look ∈ lw_tbl := List.mem_append_right _ (List.mem_of_getElem? (i := 799) (by decide +kernel))
theorem mw_800 : Cond.instanceMethod y_M_look ∈ lw_tbl := List.mem_append_right _ (List.mem_of_getElem? (i := 800) (by decide +kernel))
theorem mw_801 : Cond.selects "ConeDeskModel" y_M_look y_M_look ∈ lw_tbl := List.mem_append_right _ (List.mem_of_getElem? (i := 801) (by decide +kernel))
theorem mw_802 : Cond.code y_M_look prog_9_method_32_code 2 (some .int) ∈ lw_tbl := List.mem_append_right _ (List.mem_of_getElem? (i := 802) (by decide +kernel))
theorem mw_803 : Cond.methodLink "ConeDeskModel" 144 y_M_know ∈ lw_tbl := List.mem_append_right _ (List.mem_of_getElem? (i := 803) (by decide +kernel))
theorem mw_805 : Cond.instanceMethod y_M_know ∈ lw_tbl := List.mem_append_right _ (List.mem_of_getElem? (i := 805) (by decide +kernel))
theorem mw_806 : Cond.code y_M_know prog_9_method_16_code 3 none ∈ lw_tbl := List.mem_append_right _ (List.mem_of_getElem? (i := 806) (by decide +kernel))
theorem mw_807 : Cond.methodLink "ConeDeskModel" 88 y_M_rankOf ∈ lw_tbl := List.mem_append_right _ (List.mem_of_getElem? (i := 807) (by decide +kernel))
theorem mw_809 : Cond.instanceMethod y_M_rankOf ∈ lw_tbl := List.mem_append_right _ (List.mem_of_getElem? (i := 809) (by decide +kernel))
theorem mw_810 : Cond.code y_M_rankOf prog_9_method_9_code 8 (some .int) ∈ lw_tbl := List.mem_append_right _ (List.mem_of_getElem? (i := 810) (by decide +kernel))
theorem mw_811 : Cond.methodLink "ConeDeskModel" 69 y_M_lessen ∈ lw_tbl := List.mem_append_right _ (List.mem_of_getElem? (i := 811) (by decide +kernel))
theorem mw_813 : Cond.instanceMethod y_M_lessen ∈ lw_tbl := List.mem_append_right _ (List.mem_of_getElem? (i := 813) (by decide +kernel))
theorem mw_814 : Cond.code y_M_lessen prog_9_method_10_code 11 none ∈ lw_tbl := List.mem_append_right _ (List.mem_of_getElem? (i := 814) (by decide +kernel))
theorem mw_815 : Cond.methodLink "ConeDeskModel" 73 y_M_gcd ∈ lw_tbl := List.mem_append_right _ (List.mem_of_getElem? (i := 815) (by decide +kernel))
theorem mw_816 : Cond.static y_M_gcd ∈ lw_tbl := List.mem_append_right _ (List.mem_of_getElem? (i := 816) (by decide +kernel))
theorem mw_817 : Cond.code y_M_gcd prog_9_method_11_code 10 (some .long) ∈ lw_tbl := List.mem_append_right _ (List.mem_of_getElem? (i := 817) (by decide +kernel))
theorem mw_818 : Cond.methodLink "ConeDeskModel" 104 y_M_many ∈ lw_tbl := List.mem_append_right _ (List.mem_of_getElem? (i := 818) (by decide +kernel))
theorem mw_819 : Cond.static y_M_many ∈ lw_tbl := List.mem_append_right _ (List.mem_of_getElem? (i := 819) (by decide +kernel))
theorem mw_820 : Cond.code y_M_many prog_9_method_17_code 3 (some .int) ∈ lw_tbl := List.mem_append_right _ (List.mem_of_getElem? (i := 820) (by decide +kernel))
theorem mw_821 : Cond.methodLink "ConeDeskModel" 107 y_M_across ∈ lw_tbl := List.mem_append_right _ (List.mem_of_getElem? (i := 821) (by decide +kernel))
theorem mw_823 : Cond.instanceMethod y_M_across ∈ lw_tbl := List.mem_append_right _ (List.mem_of_getElem? (i := 823) (by decide +kernel))
theorem mw_824 : Cond.code y_M_across prog_9_method_18_code 13 none ∈ lw_tbl := List.mem_append_right _ (List.mem_of_getElem? (i := 824) (by decide +kernel))
theorem mw_825 : Cond.methodLink "ConeDeskModel" 120 y_M_minor ∈ lw_tbl := List.mem_append_right _ (List.mem_of_getElem? (i := 825) (by decide +kernel))
theorem mw_827 : Cond.instanceMethod y_M_minor ∈ lw_tbl := List.mem_append_right _ (List.mem_of_getElem? (i := 827) (by decide +kernel))
theorem mw_828 : Cond.code y_M_minor prog_9_method_19_code 6 (some .long) ∈ lw_tbl := List.mem_append_right _ (List.mem_of_getElem? (i := 828) (by decide +kernel))
theorem mw_829 : Cond.methodLink "ConeDeskModel" 77 y_M_worth ∈ lw_tbl := List.mem_append_right _ (List.mem_of_getElem? (i := 829) (by decide +kernel))
theorem mw_831 : Cond.instanceMethod y_M_worth ∈ lw_tbl := List.mem_append_right _ (List.mem_of_getElem? (i := 831) (by decide +kernel))
theorem mw_832 : Cond.code y_M_worth prog_9_method_13_code 10 (some .long) ∈ lw_tbl := List.mem_append_right _ (List.mem_of_getElem? (i := 832) (by decide +kernel))
theorem mw_833 : Cond.methodLink "ConeDeskModel" 124 y_M_holdsAt ∈ lw_tbl := List.mem_append_right _ (List.mem_of_getElem? (i := 833) (by decide +kernel))
theorem mw_835 : Cond.instanceMethod y_M_holdsAt ∈ lw_tbl := List.mem_append_right _ (List.mem_of_getElem? (i := 835) (by decide +kernel))
theorem mw_836 : Cond.code y_M_holdsAt prog_9_method_15_code 5 (some .boolean) ∈ lw_tbl := List.mem_append_right _ (List.mem_of_getElem? (i := 836) (by decide +kernel))
theorem mw_837 : Cond.methodLink "ConeDeskModel" 81 y_M_product ∈ lw_tbl := List.mem_append_right _ (List.mem_of_getElem? (i := 837) (by decide +kernel))
theorem mw_839 : Cond.instanceMethod y_M_product ∈ lw_tbl := List.mem_append_right _ (List.mem_of_getElem? (i := 839) (by decide +kernel))
theorem mw_840 : Cond.code y_M_product prog_9_method_14_code 7 (some .long) ∈ lw_tbl := List.mem_append_right _ (List.mem_of_getElem? (i := 840) (by decide +kernel))
theorem mw_841 : Cond.methodLink "ConeDeskModel" 128 y_M_keepRay ∈ lw_tbl := List.mem_append_right _ (List.mem_of_getElem? (i := 841) (by decide +kernel))
theorem mw_843 : Cond.instanceMethod y_M_keepRay ∈ lw_tbl := List.mem_append_right _ (List.mem_of_getElem? (i := 843) (by decide +kernel))
theorem mw_844 : Cond.code y_M_keepRay prog_9_method_20_code 3 none ∈ lw_tbl := List.mem_append_right _ (List.mem_of_getElem? (i := 844) (by decide +kernel))
theorem mw_845 : Cond.methodLink "ConeDeskModel" 131 y_M_compare ∈ lw_tbl := List.mem_append_right _ (List.mem_of_getElem? (i := 845) (by decide +kernel))
theorem mw_847 : Cond.instanceMethod y_M_compare ∈ lw_tbl := List.mem_append_right _ (List.mem_of_getElem? (i := 847) (by decide +kernel))
theorem mw_848 : Cond.code y_M_compare prog_9_method_21_code 4 (some .int) ∈ lw_tbl := List.mem_append_right _ (List.mem_of_getElem? (i := 848) (by decide +kernel))
theorem mw_849 : Cond.methodLink "ConeDeskModel" 111 y_M_dimensionOf ∈ lw_tbl := List.mem_append_right _ (List.mem_of_getElem? (i := 849) (by decide +kernel))
theorem mw_851 : Cond.instanceMethod y_M_dimensionOf ∈ lw_tbl := List.mem_append_right _ (List.mem_of_getElem? (i := 851) (by decide +kernel))
theorem mw_852 : Cond.code y_M_dimensionOf prog_9_method_22_code 5 (some .int) ∈ lw_tbl := List.mem_append_right _ (List.mem_of_getElem? (i := 852) (by decide +kernel))
theorem mw_853 : Cond.methodLink "ConeDeskModel" 114 y_M_indexed ∈ lw_tbl := List.mem_append_right _ (List.mem_of_getElem? (i := 853) (by decide +kernel))
theorem mw_855 : Cond.instanceMethod y_M_indexed ∈ lw_tbl := List.mem_append_right _ (List.mem_of_getElem? (i := 855) (by decide +kernel))
theorem mw_856 : Cond.code y_M_indexed prog_9_method_25_code 6 (some .long) ∈ lw_tbl := List.mem_append_right _ (List.mem_of_getElem? (i := 856) (by decide +kernel))
theorem mw_857 : Cond.methodLink "ConeDeskModel" 138 y_M_choose ∈ lw_tbl := List.mem_append_right _ (List.mem_of_getElem? (i := 857) (by decide +kernel))
theorem mw_859 : Cond.instanceMethod y_M_choose ∈ lw_tbl := List.mem_append_right _ (List.mem_of_getElem? (i := 859) (by decide +kernel))
theorem mw_860 : Cond.code y_M_choose prog_9_method_23_code 4 none ∈ lw_tbl := List.mem_append_right _ (List.mem_of_getElem? (i := 860) (by decide +kernel))
theorem mw_861 : Cond.methodLink "ConeDeskModel" 141 y_M_index ∈ lw_tbl := List.mem_append_right _ (List.mem_of_getElem? (i := 861) (by decide +kernel))
theorem mw_863 : Cond.instanceMethod y_M_index ∈ lw_tbl := List.mem_append_right _ (List.mem_of_getElem? (i := 863) (by decide +kernel))
theorem mw_864 : Cond.code y_M_index prog_9_method_24_code 4 (some .long) ∈ lw_tbl := List.mem_append_right _ (List.mem_of_getElem? (i := 864) (by decide +kernel))
theorem mw_865 : Cond.methodLink "ConeDeskModel" 135 y_M_determinant ∈ lw_tbl := List.mem_append_right _ (List.mem_of_getElem? (i := 865) (by decide +kernel))
theorem mw_867 : Cond.instanceMethod y_M_determinant ∈ lw_tbl := List.mem_append_right _ (List.mem_of_getElem? (i := 867) (by decide +kernel))
theorem mw_868 : Cond.code y_M_determinant prog_9_method_12_code 6 (some .long) ∈ lw_tbl := List.mem_append_right _ (List.mem_of_getElem? (i := 868) (by decide +kernel))
theorem mw_869 : Cond.constantLong "ConeDeskModel" 118 (12 : Int64) ∈ lw_tbl := List.mem_append_right _ (List.mem_of_getElem? (i := 869) (by decide +kernel))
theorem mw_870 : Cond.methodLink "ConeDeskLaw" 86 y_M_row ∈ lw_tbl := List.mem_append_right _ (List.mem_of_getElem? (i := 870) (by decide +kernel))
theorem mw_871 : Cond.instanceMethod y_M_row ∈ lw_tbl := List.mem_append_right _ (List.mem_of_getElem? (i := 871) (by decide +kernel))
theorem mw_872 : Cond.selects "ConeDeskModel" y_M_row y_M_row ∈ lw_tbl := List.mem_append_right _ (List.mem_of_getElem? (i := 872) (by decide +kernel))
theorem mw_873 : Cond.code y_M_row prog_9_method_33_code 3 (some .int) ∈ lw_tbl := List.mem_append_right _ (List.mem_of_getElem? (i := 873) (by decide +kernel))
theorem mw_874 : Cond.methodLink "ConeDeskLaw" 90 y_M_rays ∈ lw_tbl := List.mem_append_right _ (List.mem_of_getElem? (i := 874) (by decide +kernel))
theorem mw_875 : Cond.instanceMethod y_M_rays ∈ lw_tbl := List.mem_append_right _ (List.mem_of_getElem? (i := 875) (by decide +kernel))
theorem mw_876 : Cond.selects "ConeDeskModel" y_M_rays y_M_rays ∈ lw_tbl := List.mem_append_right _ (List.mem_of_getElem? (i := 876) (by decide +kernel))
theorem mw_877 : Cond.code y_M_rays prog_9_method_34_code 1 (some .int) ∈ lw_tbl := List.mem_append_right _ (List.mem_of_getElem? (i := 877) (by decide +kernel))
theorem mw_878 : Cond.methodLink "ConeDeskModel" 160 y_M_pointed ∈ lw_tbl := List.mem_append_right _ (List.mem_of_getElem? (i := 878) (by decide +kernel))
theorem mw_880 : Cond.instanceMethod y_M_pointed ∈ lw_tbl := List.mem_append_right _ (List.mem_of_getElem? (i := 880) (by decide +kernel))
theorem mw_881 : Cond.code y_M_pointed prog_9_method_30_code 2 (some .boolean) ∈ lw_tbl := List.mem_append_right _ (List.mem_of_getElem? (i := 881) (by decide +kernel))
theorem mw_882 : Cond.methodLink "ConeDeskLaw" 93 y_M_ray ∈ lw_tbl := List.mem_append_right _ (List.mem_of_getElem? (i := 882) (by decide +kernel))
theorem mw_883 : Cond.instanceMethod y_M_ray ∈ lw_tbl := List.mem_append_right _ (List.mem_of_getElem? (i := 883) (by decide +kernel))
theorem mw_884 : Cond.selects "ConeDeskModel" y_M_ray y_M_ray ∈ lw_tbl := List.mem_append_right _ (List.mem_of_getElem? (i := 884) (by decide +kernel))
theorem mw_885 : Cond.code y_M_ray prog_9_method_35_code 3 (some .int) ∈ lw_tbl := List.mem_append_right _ (List.mem_of_getElem? (i := 885) (by decide +kernel))
theorem mw_886 : Cond.methodLink "ConeDeskLaw" 96 y_M_size ∈ lw_tbl := List.mem_append_right _ (List.mem_of_getElem? (i := 886) (by decide +kernel))
theorem mw_887 : Cond.instanceMethod y_M_size ∈ lw_tbl := List.mem_append_right _ (List.mem_of_getElem? (i := 887) (by decide +kernel))
theorem mw_888 : Cond.selects "ConeDeskModel" y_M_size y_M_size ∈ lw_tbl := List.mem_append_right _ (List.mem_of_getElem? (i := 888) (by decide +kernel))
theorem mw_889 : Cond.code y_M_size prog_9_method_36_code 1 (some .int) ∈ lw_tbl := List.mem_append_right _ (List.mem_of_getElem? (i := 889) (by decide +kernel))
theorem mw_890 : Cond.methodLink "ConeDeskLaw" 100 y_M_bounds ∈ lw_tbl := List.mem_append_right _ (List.mem_of_getElem? (i := 890) (by decide +kernel))
theorem mw_891 : Cond.instanceMethod y_M_bounds ∈ lw_tbl := List.mem_append_right _ (List.mem_of_getElem? (i := 891) (by decide +kernel))
theorem mw_892 : Cond.selects "ConeDeskModel" y_M_bounds y_M_bounds ∈ lw_tbl := List.mem_append_right _ (List.mem_of_getElem? (i := 892) (by decide +kernel))
theorem mw_893 : Cond.code y_M_bounds prog_9_method_37_code 4 (some .boolean) ∈ lw_tbl := List.mem_append_right _ (List.mem_of_getElem? (i := 893) (by decide +kernel))
theorem mw_894 : Cond.methodLink "ConeDeskLaw" 103 y_M_faces ∈ lw_tbl := List.mem_append_right _ (List.mem_of_getElem? (i := 894) (by decide +kernel))
theorem mw_895 : Cond.instanceMethod y_M_faces ∈ lw_tbl := List.mem_append_right _ (List.mem_of_getElem? (i := 895) (by decide +kernel))
theorem mw_896 : Cond.selects "ConeDeskModel" y_M_faces y_M_faces ∈ lw_tbl := List.mem_append_right _ (List.mem_of_getElem? (i := 896) (by decide +kernel))
theorem mw_897 : Cond.code y_M_faces prog_9_method_38_code 4 (some .int) ∈ lw_tbl := List.mem_append_right _ (List.mem_of_getElem? (i := 897) (by decide +kernel))
theorem mw_898 : Cond.methodLink "ConeDeskModel" 166 y_M_isFace ∈ lw_tbl := List.mem_append_right _ (List.mem_of_getElem? (i := 898) (by decide +kernel))
theorem mw_900 : Cond.instanceMethod y_M_isFace ∈ lw_tbl := List.mem_append_right _ (List.mem_of_getElem? (i := 900) (by decide +kernel))
theorem mw_901 : Cond.code y_M_isFace prog_9_method_39_code 4 (some .boolean) ∈ lw_tbl := List.mem_append_right _ (List.mem_of_getElem? (i := 901) (by decide +kernel))
theorem mw_902 : Cond.methodLink "ConeDeskLaw" 106 y_M_basis ∈ lw_tbl := List.mem_append_right _ (List.mem_of_getElem? (i := 902) (by decide +kernel))
theorem mw_903 : Cond.instanceMethod y_M_basis ∈ lw_tbl := List.mem_append_right _ (List.mem_of_getElem? (i := 903) (by decide +kernel))
theorem mw_904 : Cond.selects "ConeDeskModel" y_M_basis y_M_basis ∈ lw_tbl := List.mem_append_right _ (List.mem_of_getElem? (i := 904) (by decide +kernel))
theorem mw_905 : Cond.code y_M_basis prog_9_method_40_code 1 (some .int) ∈ lw_tbl := List.mem_append_right _ (List.mem_of_getElem? (i := 905) (by decide +kernel))
theorem mw_906 : Cond.methodLink "ConeDeskModel" 163 y_M_find ∈ lw_tbl := List.mem_append_right _ (List.mem_of_getElem? (i := 906) (by decide +kernel))
theorem mw_908 : Cond.instanceMethod y_M_find ∈ lw_tbl := List.mem_append_right _ (List.mem_of_getElem? (i := 908) (by decide +kernel))
theorem mw_909 : Cond.code y_M_find prog_9_method_26_code 4 none ∈ lw_tbl := List.mem_append_right _ (List.mem_of_getElem? (i := 909) (by decide +kernel))
theorem mw_910 : Cond.methodLink "ConeDeskModel" 150 y_M_keepPoint ∈ lw_tbl := List.mem_append_right _ (List.mem_of_getElem? (i := 910) (by decide +kernel))
theorem mw_912 : Cond.instanceMethod y_M_keepPoint ∈ lw_tbl := List.mem_append_right _ (List.mem_of_getElem? (i := 912) (by decide +kernel))
theorem mw_913 : Cond.code y_M_keepPoint prog_9_method_29_code 3 none ∈ lw_tbl := List.mem_append_right _ (List.mem_of_getElem? (i := 913) (by decide +kernel))
theorem mw_914 : Cond.methodLink "ConeDeskModel" 153 y_M_box ∈ lw_tbl := List.mem_append_right _ (List.mem_of_getElem? (i := 914) (by decide +kernel))
theorem mw_916 : Cond.instanceMethod y_M_box ∈ lw_tbl := List.mem_append_right _ (List.mem_of_getElem? (i := 916) (by decide +kernel))
theorem mw_917 : Cond.code y_M_box prog_9_method_28_code 11 none ∈ lw_tbl := List.mem_append_right _ (List.mem_of_getElem? (i := 917) (by decide +kernel))
theorem mw_918 : Cond.methodLink "ConeDeskModel" 157 y_M_less ∈ lw_tbl := List.mem_append_right _ (List.mem_of_getElem? (i := 918) (by decide +kernel))
theorem mw_920 : Cond.instanceMethod y_M_less ∈ lw_tbl := List.mem_append_right _ (List.mem_of_getElem? (i := 920) (by decide +kernel))
theorem mw_921 : Cond.code y_M_less prog_9_method_27_code 5 (some .boolean) ∈ lw_tbl := List.mem_append_right _ (List.mem_of_getElem? (i := 921) (by decide +kernel))
theorem mw_922 : Cond.methodLink "ConeDeskLaw" 109 y_M_point ∈ lw_tbl := List.mem_append_right _ (List.mem_of_getElem? (i := 922) (by decide +kernel))
theorem mw_923 : Cond.instanceMethod y_M_point ∈ lw_tbl := List.mem_append_right _ (List.mem_of_getElem? (i := 923) (by decide +kernel))
theorem mw_924 : Cond.selects "ConeDeskModel" y_M_point y_M_point ∈ lw_tbl := List.mem_append_right _ (List.mem_of_getElem? (i := 924) (by decide +kernel))
theorem mw_925 : Cond.code y_M_point prog_9_method_41_code 3 (some .int) ∈ lw_tbl := List.mem_append_right _ (List.mem_of_getElem? (i := 925) (by decide +kernel))
theorem mw_926 : Cond.methodLink "ConeDeskModel" 169 y_M_based ∈ lw_tbl := List.mem_append_right _ (List.mem_of_getElem? (i := 926) (by decide +kernel))
theorem mw_928 : Cond.instanceMethod y_M_based ∈ lw_tbl := List.mem_append_right _ (List.mem_of_getElem? (i := 928) (by decide +kernel))
theorem mw_929 : Cond.code y_M_based prog_9_method_31_code 2 (some .boolean) ∈ lw_tbl := List.mem_append_right _ (List.mem_of_getElem? (i := 929) (by decide +kernel))
theorem mw_930 : Cond.methodLink "ConeDeskLaw" 114 y_M_holds ∈ lw_tbl := List.mem_append_right _ (List.mem_of_getElem? (i := 930) (by decide +kernel))
theorem mw_931 : Cond.instanceMethod y_M_holds ∈ lw_tbl := List.mem_append_right _ (List.mem_of_getElem? (i := 931) (by decide +kernel))
theorem mw_932 : Cond.selects "ConeDeskModel" y_M_holds y_M_holds ∈ lw_tbl := List.mem_append_right _ (List.mem_of_getElem? (i := 932) (by decide +kernel))
theorem mw_933 : Cond.code y_M_holds prog_9_method_42_code 5 (some .boolean) ∈ lw_tbl := List.mem_append_right _ (List.mem_of_getElem? (i := 933) (by decide +kernel))
theorem mw_934 : Cond.methodLink "ConeDeskLaw" 117 y_M_parts ∈ lw_tbl := List.mem_append_right _ (List.mem_of_getElem? (i := 934) (by decide +kernel))
theorem mw_935 : Cond.instanceMethod y_M_parts ∈ lw_tbl := List.mem_append_right _ (List.mem_of_getElem? (i := 935) (by decide +kernel))
theorem mw_936 : Cond.selects "ConeDeskModel" y_M_parts y_M_parts ∈ lw_tbl := List.mem_append_right _ (List.mem_of_getElem? (i := 936) (by decide +kernel))
theorem mw_937 : Cond.code y_M_parts prog_9_method_44_code 8 (some .int) ∈ lw_tbl := List.mem_append_right _ (List.mem_of_getElem? (i := 937) (by decide +kernel))
theorem mw_938 : Cond.methodLink "ConeDeskModel" 172 y_M_may ∈ lw_tbl := List.mem_append_right _ (List.mem_of_getElem? (i := 938) (by decide +kernel))
theorem mw_940 : Cond.instanceMethod y_M_may ∈ lw_tbl := List.mem_append_right _ (List.mem_of_getElem? (i := 940) (by decide +kernel))
theorem mw_941 : Cond.code y_M_may prog_9_method_43_code 4 (some .boolean) ∈ lw_tbl := List.mem_append_right _ (List.mem_of_getElem? (i := 941) (by decide +kernel))
theorem mw_942 : Cond.methodLink "ConeDeskLaw" 120 y_M_least ∈ lw_tbl := List.mem_append_right _ (List.mem_of_getElem? (i := 942) (by decide +kernel))
theorem mw_943 : Cond.instanceMethod y_M_least ∈ lw_tbl := List.mem_append_right _ (List.mem_of_getElem? (i := 943) (by decide +kernel))
theorem mw_944 : Cond.selects "ConeDeskModel" y_M_least y_M_least ∈ lw_tbl := List.mem_append_right _ (List.mem_of_getElem? (i := 944) (by decide +kernel))
theorem mw_945 : Cond.code y_M_least prog_9_method_45_code 9 (some .int) ∈ lw_tbl := List.mem_append_right _ (List.mem_of_getElem? (i := 945) (by decide +kernel))
theorem ms_D_take : Cond.selects cn_D y_D_take y_D_take ∈ lw_tbl := by decide +kernel
theorem ms_D_isInCone : Cond.selects cn_D y_D_isInCone y_D_isInCone ∈ lw_tbl := by decide +kernel
theorem ms_D_isGivenWithin : Cond.selects cn_D y_D_isGivenWithin y_D_isGivenWithin ∈ lw_tbl := by decide +kernel
theorem ms_D_noteChange : Cond.selects cn_D y_D_noteChange y_D_noteChange ∈ lw_tbl := by decide +kernel
theorem ms_MI_join : Cond.selects cn_MI y_MI_join y_MI_join ∈ lw_tbl := by decide +kernel
theorem ms_D_needRow : Cond.selects cn_D y_D_needRow y_D_needRow ∈ lw_tbl := by decide +kernel
theorem ms_D_needCoordinate : Cond.selects cn_D y_D_needCoordinate y_D_needCoordinate ∈ lw_tbl := by decide +kernel
theorem ms_D_know : Cond.selects cn_D y_D_know y_D_know ∈ lw_tbl := by decide +kernel
theorem ms_D_findRays : Cond.selects cn_D y_D_findRays y_D_findRays ∈ lw_tbl := by decide +kernel
theorem ms_D_tryRay : Cond.selects cn_D y_D_tryRay y_D_tryRay ∈ lw_tbl := by decide +kernel
theorem ms_PL_order : Cond.selects cn_PL y_PL_order y_PL_order ∈ lw_tbl := by decide +kernel
theorem ms_FL_include : Cond.selects cn_FL y_FL_include y_FL_include ∈ lw_tbl := by decide +kernel
theorem ms_FL_indexOf : Cond.selects cn_FL y_FL_indexOf y_FL_indexOf ∈ lw_tbl := by decide +kernel
theorem ms_FL_findTight : Cond.selects cn_FL y_FL_findTight y_FL_findTight ∈ lw_tbl := by decide +kernel
theorem ms_BF_isLarge : Cond.selects cn_BF y_BF_isLarge y_BF_isLarge ∈ lw_tbl := by decide +kernel
theorem ms_SI_pushCut : Cond.selects cn_SI y_SI_pushCut y_SI_pushCut ∈ lw_tbl := by decide +kernel
theorem ms_SI_addSimplex : Cond.selects cn_SI y_SI_addSimplex y_SI_addSimplex ∈ lw_tbl := by decide +kernel
theorem ms_SI_pushSides : Cond.selects cn_SI y_SI_pushSides y_SI_pushSides ∈ lw_tbl := by decide +kernel
theorem ms_IP_findMembers : Cond.selects cn_IP y_IP_findMembers y_IP_findMembers ∈ lw_tbl := by decide +kernel
theorem ms_IP_findSteps : Cond.selects cn_IP y_IP_findSteps y_IP_findSteps ∈ lw_tbl := by decide +kernel
theorem ms_IP_restOf : Cond.selects cn_IP y_IP_restOf y_IP_restOf ∈ lw_tbl := by decide +kernel
theorem ms_IP_findMixes : Cond.selects cn_IP y_IP_findMixes y_IP_findMixes ∈ lw_tbl := by decide +kernel
theorem ms_IP_sumOf : Cond.selects cn_IP y_IP_sumOf y_IP_sumOf ∈ lw_tbl := by decide +kernel
theorem ms_IP_includeMix : Cond.selects cn_IP y_IP_includeMix y_IP_includeMix ∈ lw_tbl := by decide +kernel
theorem ms_IP_fillInner : Cond.selects cn_IP y_IP_fillInner y_IP_fillInner ∈ lw_tbl := by decide +kernel
theorem ms_BF_measure : Cond.selects cn_BF y_BF_measure y_BF_measure ∈ lw_tbl := by decide +kernel
theorem ms_BF_siftOutSums : Cond.selects cn_BF y_BF_siftOutSums y_BF_siftOutSums ∈ lw_tbl := by decide +kernel
theorem ms_BF_isSum : Cond.selects cn_BF y_BF_isSum y_BF_isSum ∈ lw_tbl := by decide +kernel
theorem ms_BF_isBelow : Cond.selects cn_BF y_BF_isBelow y_BF_isBelow ∈ lw_tbl := by decide +kernel
theorem ms_D_needSmall : Cond.selects cn_D y_D_needSmall y_D_needSmall ∈ lw_tbl := by decide +kernel
theorem ms_BF_timesInRest : Cond.selects cn_BF y_BF_timesInRest y_BF_timesInRest ∈ lw_tbl := by decide +kernel
theorem ms_M_set : Cond.selects cn_M y_M_set y_M_set ∈ lw_tbl := by decide +kernel
theorem ms_M_within : Cond.selects cn_M y_M_within y_M_within ∈ lw_tbl := by decide +kernel
theorem ms_M_nothing : Cond.selects cn_M y_M_nothing y_M_nothing ∈ lw_tbl := by decide +kernel
theorem ms_M_know : Cond.selects cn_M y_M_know y_M_know ∈ lw_tbl := by decide +kernel
theorem ms_M_rankOf : Cond.selects cn_M y_M_rankOf y_M_rankOf ∈ lw_tbl := by decide +kernel
theorem ms_M_lessen : Cond.selects cn_M y_M_lessen y_M_lessen ∈ lw_tbl := by decide +kernel
theorem ms_M_across : Cond.selects cn_M y_M_across y_M_across ∈ lw_tbl := by decide +kernel
theorem ms_M_minor : Cond.selects cn_M y_M_minor y_M_minor ∈ lw_tbl := by decide +kernel
theorem ms_M_worth : Cond.selects cn_M y_M_worth y_M_worth ∈ lw_tbl := by decide +kernel
theorem ms_M_holdsAt : Cond.selects cn_M y_M_holdsAt y_M_holdsAt ∈ lw_tbl := by decide +kernel
theorem ms_M_product : Cond.selects cn_M y_M_product y_M_product ∈ lw_tbl := by decide +kernel
theorem ms_M_keepRay : Cond.selects cn_M y_M_keepRay y_M_keepRay ∈ lw_tbl := by decide +kernel
theorem ms_M_compare : Cond.selects cn_M y_M_compare y_M_compare ∈ lw_tbl := by decide +kernel
theorem ms_M_dimensionOf : Cond.selects cn_M y_M_dimensionOf y_M_dimensionOf ∈ lw_tbl := by decide +kernel
theorem ms_M_indexed : Cond.selects cn_M y_M_indexed y_M_indexed ∈ lw_tbl := by decide +kernel
theorem ms_M_choose : Cond.selects cn_M y_M_choose y_M_choose ∈ lw_tbl := by decide +kernel
theorem ms_M_index : Cond.selects cn_M y_M_index y_M_index ∈ lw_tbl := by decide +kernel
theorem ms_M_determinant : Cond.selects cn_M y_M_determinant y_M_determinant ∈ lw_tbl := by decide +kernel
theorem ms_M_pointed : Cond.selects cn_M y_M_pointed y_M_pointed ∈ lw_tbl := by decide +kernel
theorem ms_M_isFace : Cond.selects cn_M y_M_isFace y_M_isFace ∈ lw_tbl := by decide +kernel
theorem ms_M_find : Cond.selects cn_M y_M_find y_M_find ∈ lw_tbl := by decide +kernel
theorem ms_M_keepPoint : Cond.selects cn_M y_M_keepPoint y_M_keepPoint ∈ lw_tbl := by decide +kernel
theorem ms_M_box : Cond.selects cn_M y_M_box y_M_box ∈ lw_tbl := by decide +kernel
theorem ms_M_less : Cond.selects cn_M y_M_less y_M_less ∈ lw_tbl := by decide +kernel
theorem ms_M_based : Cond.selects cn_M y_M_based y_M_based ∈ lw_tbl := by decide +kernel
theorem ms_M_may : Cond.selects cn_M y_M_may y_M_may ∈ lw_tbl := by decide +kernel
theorem ny_D_init : y_D_init.cls ≠ "java/lang/invoke/MethodHandle" ∧ y_D_init.cls ≠ "java/lang/invoke/VarHandle" ∧ (parseMethodDescriptor y_D_init.desc).map (fun d => d.parameters.length) = some 1 := by decide +kernel
theorem ny_JM_min : y_JM_min.cls ≠ "java/lang/invoke/MethodHandle" ∧ y_JM_min.cls ≠ "java/lang/invoke/VarHandle" ∧ (parseMethodDescriptor y_JM_min.desc).map (fun d => d.parameters.length) = some 2 := by decide +kernel
theorem ny_JM_max : y_JM_max.cls ≠ "java/lang/invoke/MethodHandle" ∧ y_JM_max.cls ≠ "java/lang/invoke/VarHandle" ∧ (parseMethodDescriptor y_JM_max.desc).map (fun d => d.parameters.length) = some 2 := by decide +kernel
theorem ny_PL_init : y_PL_init.cls ≠ "java/lang/invoke/MethodHandle" ∧ y_PL_init.cls ≠ "java/lang/invoke/VarHandle" ∧ (parseMethodDescriptor y_PL_init.desc).map (fun d => d.parameters.length) = some 1 := by decide +kernel
theorem ny_MI_init : y_MI_init.cls ≠ "java/lang/invoke/MethodHandle" ∧ y_MI_init.cls ≠ "java/lang/invoke/VarHandle" ∧ (parseMethodDescriptor y_MI_init.desc).map (fun d => d.parameters.length) = some 0 := by decide +kernel
theorem ny_FL_init : y_FL_init.cls ≠ "java/lang/invoke/MethodHandle" ∧ y_FL_init.cls ≠ "java/lang/invoke/VarHandle" ∧ (parseMethodDescriptor y_FL_init.desc).map (fun d => d.parameters.length) = some 0 := by decide +kernel
theorem ny_BF_init : y_BF_init.cls ≠ "java/lang/invoke/MethodHandle" ∧ y_BF_init.cls ≠ "java/lang/invoke/VarHandle" ∧ (parseMethodDescriptor y_BF_init.desc).map (fun d => d.parameters.length) = some 0 := by decide +kernel
theorem ny_SI_init : y_SI_init.cls ≠ "java/lang/invoke/MethodHandle" ∧ y_SI_init.cls ≠ "java/lang/invoke/VarHandle" ∧ (parseMethodDescriptor y_SI_init.desc).map (fun d => d.parameters.length) = some 0 := by decide +kernel
theorem ny_IP_init : y_IP_init.cls ≠ "java/lang/invoke/MethodHandle" ∧ y_IP_init.cls ≠ "java/lang/invoke/VarHandle" ∧ (parseMethodDescriptor y_IP_init.desc).map (fun d => d.parameters.length) = some 0 := by decide +kernel
theorem ny_D_look : y_D_look.cls ≠ "java/lang/invoke/MethodHandle" ∧ y_D_look.cls ≠ "java/lang/invoke/VarHandle" ∧ (parseMethodDescriptor y_D_look.desc).map (fun d => d.parameters.length) = some 1 := by decide +kernel
theorem ny_D_holds : y_D_holds.cls ≠ "java/lang/invoke/MethodHandle" ∧ y_D_holds.cls ≠ "java/lang/invoke/VarHandle" ∧ (parseMethodDescriptor y_D_holds.desc).map (fun d => d.parameters.length) = some 4 := by decide +kernel
theorem ny_D_take : y_D_take.cls ≠ "java/lang/invoke/MethodHandle" ∧ y_D_take.cls ≠ "java/lang/invoke/VarHandle" ∧ (parseMethodDescriptor y_D_take.desc).map (fun d => d.parameters.length) = some 4 := by decide +kernel
theorem ny_D_isInCone : y_D_isInCone.cls ≠ "java/lang/invoke/MethodHandle" ∧ y_D_isInCone.cls ≠ "java/lang/invoke/VarHandle" ∧ (parseMethodDescriptor y_D_isInCone.desc).map (fun d => d.parameters.length) = some 1 := by decide +kernel
theorem ny_PL_product : y_PL_product.cls ≠ "java/lang/invoke/MethodHandle" ∧ y_PL_product.cls ≠ "java/lang/invoke/VarHandle" ∧ (parseMethodDescriptor y_PL_product.desc).map (fun d => d.parameters.length) = some 2 := by decide +kernel
theorem ny_PL_at : y_PL_at.cls ≠ "java/lang/invoke/MethodHandle" ∧ y_PL_at.cls ≠ "java/lang/invoke/VarHandle" ∧ (parseMethodDescriptor y_PL_at.desc).map (fun d => d.parameters.length) = some 2 := by decide +kernel
theorem ny_L_cell : y_L_cell.cls ≠ "java/lang/invoke/MethodHandle" ∧ y_L_cell.cls ≠ "java/lang/invoke/VarHandle" ∧ (parseMethodDescriptor y_L_cell.desc).map (fun d => d.parameters.length) = some 2 := by decide +kernel
theorem ny_L_add : y_L_add.cls ≠ "java/lang/invoke/MethodHandle" ∧ y_L_add.cls ≠ "java/lang/invoke/VarHandle" ∧ (parseMethodDescriptor y_L_add.desc).map (fun d => d.parameters.length) = some 6 := by decide +kernel
theorem ny_D_add : y_D_add.cls ≠ "java/lang/invoke/MethodHandle" ∧ y_D_add.cls ≠ "java/lang/invoke/VarHandle" ∧ (parseMethodDescriptor y_D_add.desc).map (fun d => d.parameters.length) = some 4 := by decide +kernel
theorem ny_D_isGivenWithin : y_D_isGivenWithin.cls ≠ "java/lang/invoke/MethodHandle" ∧ y_D_isGivenWithin.cls ≠ "java/lang/invoke/VarHandle" ∧ (parseMethodDescriptor y_D_isGivenWithin.desc).map (fun d => d.parameters.length) = some 1 := by decide +kernel
theorem ny_PL_putAt : y_PL_putAt.cls ≠ "java/lang/invoke/MethodHandle" ∧ y_PL_putAt.cls ≠ "java/lang/invoke/VarHandle" ∧ (parseMethodDescriptor y_PL_putAt.desc).map (fun d => d.parameters.length) = some 2 := by decide +kernel
theorem ny_D_noteChange : y_D_noteChange.cls ≠ "java/lang/invoke/MethodHandle" ∧ y_D_noteChange.cls ≠ "java/lang/invoke/VarHandle" ∧ (parseMethodDescriptor y_D_noteChange.desc).map (fun d => d.parameters.length) = some 0 := by decide +kernel
theorem ny_D_maskOfAll : y_D_maskOfAll.cls ≠ "java/lang/invoke/MethodHandle" ∧ y_D_maskOfAll.cls ≠ "java/lang/invoke/VarHandle" ∧ (parseMethodDescriptor y_D_maskOfAll.desc).map (fun d => d.parameters.length) = some 1 := by decide +kernel
theorem ny_MI_load : y_MI_load.cls ≠ "java/lang/invoke/MethodHandle" ∧ y_MI_load.cls ≠ "java/lang/invoke/VarHandle" ∧ (parseMethodDescriptor y_MI_load.desc).map (fun d => d.parameters.length) = some 2 := by decide +kernel
theorem ny_D_hasBit : y_D_hasBit.cls ≠ "java/lang/invoke/MethodHandle" ∧ y_D_hasBit.cls ≠ "java/lang/invoke/VarHandle" ∧ (parseMethodDescriptor y_D_hasBit.desc).map (fun d => d.parameters.length) = some 2 := by decide +kernel
theorem ny_MI_join : y_MI_join.cls ≠ "java/lang/invoke/MethodHandle" ∧ y_MI_join.cls ≠ "java/lang/invoke/VarHandle" ∧ (parseMethodDescriptor y_MI_join.desc).map (fun d => d.parameters.length) = some 2 := by decide +kernel
theorem ny_L_drop : y_L_drop.cls ≠ "java/lang/invoke/MethodHandle" ∧ y_L_drop.cls ≠ "java/lang/invoke/VarHandle" ∧ (parseMethodDescriptor y_L_drop.desc).map (fun d => d.parameters.length) = some 2 := by decide +kernel
theorem ny_D_drop : y_D_drop.cls ≠ "java/lang/invoke/MethodHandle" ∧ y_D_drop.cls ≠ "java/lang/invoke/VarHandle" ∧ (parseMethodDescriptor y_D_drop.desc).map (fun d => d.parameters.length) = some 1 := by decide +kernel
theorem ny_D_needRow : y_D_needRow.cls ≠ "java/lang/invoke/MethodHandle" ∧ y_D_needRow.cls ≠ "java/lang/invoke/VarHandle" ∧ (parseMethodDescriptor y_D_needRow.desc).map (fun d => d.parameters.length) = some 1 := by decide +kernel
theorem ny_PL_has : y_PL_has.cls ≠ "java/lang/invoke/MethodHandle" ∧ y_PL_has.cls ≠ "java/lang/invoke/VarHandle" ∧ (parseMethodDescriptor y_PL_has.desc).map (fun d => d.parameters.length) = some 1 := by decide +kernel
theorem ny_PL_removeAt : y_PL_removeAt.cls ≠ "java/lang/invoke/MethodHandle" ∧ y_PL_removeAt.cls ≠ "java/lang/invoke/VarHandle" ∧ (parseMethodDescriptor y_PL_removeAt.desc).map (fun d => d.parameters.length) = some 1 := by decide +kernel
theorem ny_L_row : y_L_row.cls ≠ "java/lang/invoke/MethodHandle" ∧ y_L_row.cls ≠ "java/lang/invoke/VarHandle" ∧ (parseMethodDescriptor y_L_row.desc).map (fun d => d.parameters.length) = some 4 := by decide +kernel
theorem ny_D_row : y_D_row.cls ≠ "java/lang/invoke/MethodHandle" ∧ y_D_row.cls ≠ "java/lang/invoke/VarHandle" ∧ (parseMethodDescriptor y_D_row.desc).map (fun d => d.parameters.length) = some 2 := by decide +kernel
theorem ny_D_needCoordinate : y_D_needCoordinate.cls ≠ "java/lang/invoke/MethodHandle" ∧ y_D_needCoordinate.cls ≠ "java/lang/invoke/VarHandle" ∧ (parseMethodDescriptor y_D_needCoordinate.desc).map (fun d => d.parameters.length) = some 1 := by decide +kernel
theorem ny_L_rays : y_L_rays.cls ≠ "java/lang/invoke/MethodHandle" ∧ y_L_rays.cls ≠ "java/lang/invoke/VarHandle" ∧ (parseMethodDescriptor y_L_rays.desc).map (fun d => d.parameters.length) = some 2 := by decide +kernel
theorem ny_D_rays : y_D_rays.cls ≠ "java/lang/invoke/MethodHandle" ∧ y_D_rays.cls ≠ "java/lang/invoke/VarHandle" ∧ (parseMethodDescriptor y_D_rays.desc).map (fun d => d.parameters.length) = some 0 := by decide +kernel
theorem ny_D_know : y_D_know.cls ≠ "java/lang/invoke/MethodHandle" ∧ y_D_know.cls ≠ "java/lang/invoke/VarHandle" ∧ (parseMethodDescriptor y_D_know.desc).map (fun d => d.parameters.length) = some 1 := by decide +kernel
theorem ny_D_findRays : y_D_findRays.cls ≠ "java/lang/invoke/MethodHandle" ∧ y_D_findRays.cls ≠ "java/lang/invoke/VarHandle" ∧ (parseMethodDescriptor y_D_findRays.desc).map (fun d => d.parameters.length) = some 0 := by decide +kernel
theorem ny_JI_bitCount : y_JI_bitCount.cls ≠ "java/lang/invoke/MethodHandle" ∧ y_JI_bitCount.cls ≠ "java/lang/invoke/VarHandle" ∧ (parseMethodDescriptor y_JI_bitCount.desc).map (fun d => d.parameters.length) = some 1 := by decide +kernel
theorem ny_D_tryRay : y_D_tryRay.cls ≠ "java/lang/invoke/MethodHandle" ∧ y_D_tryRay.cls ≠ "java/lang/invoke/VarHandle" ∧ (parseMethodDescriptor y_D_tryRay.desc).map (fun d => d.parameters.length) = some 1 := by decide +kernel
theorem ny_MI_fillDirection : y_MI_fillDirection.cls ≠ "java/lang/invoke/MethodHandle" ∧ y_MI_fillDirection.cls ≠ "java/lang/invoke/VarHandle" ∧ (parseMethodDescriptor y_MI_fillDirection.desc).map (fun d => d.parameters.length) = some 3 := by decide +kernel
theorem ny_MI_commonDivisor : y_MI_commonDivisor.cls ≠ "java/lang/invoke/MethodHandle" ∧ y_MI_commonDivisor.cls ≠ "java/lang/invoke/VarHandle" ∧ (parseMethodDescriptor y_MI_commonDivisor.desc).map (fun d => d.parameters.length) = some 0 := by decide +kernel
theorem ny_MI_endOfChoices : y_MI_endOfChoices.cls ≠ "java/lang/invoke/MethodHandle" ∧ y_MI_endOfChoices.cls ≠ "java/lang/invoke/VarHandle" ∧ (parseMethodDescriptor y_MI_endOfChoices.desc).map (fun d => d.parameters.length) = some 0 := by decide +kernel
theorem ny_MI_firstChoice : y_MI_firstChoice.cls ≠ "java/lang/invoke/MethodHandle" ∧ y_MI_firstChoice.cls ≠ "java/lang/invoke/VarHandle" ∧ (parseMethodDescriptor y_MI_firstChoice.desc).map (fun d => d.parameters.length) = some 0 := by decide +kernel
theorem ny_JM_abs : y_JM_abs.cls ≠ "java/lang/invoke/MethodHandle" ∧ y_JM_abs.cls ≠ "java/lang/invoke/VarHandle" ∧ (parseMethodDescriptor y_JM_abs.desc).map (fun d => d.parameters.length) = some 1 := by decide +kernel
theorem ny_MI_commonDivisorOf : y_MI_commonDivisorOf.cls ≠ "java/lang/invoke/MethodHandle" ∧ y_MI_commonDivisorOf.cls ≠ "java/lang/invoke/VarHandle" ∧ (parseMethodDescriptor y_MI_commonDivisorOf.desc).map (fun d => d.parameters.length) = some 2 := by decide +kernel
theorem ny_JA_fill : y_JA_fill.cls ≠ "java/lang/invoke/MethodHandle" ∧ y_JA_fill.cls ≠ "java/lang/invoke/VarHandle" ∧ (parseMethodDescriptor y_JA_fill.desc).map (fun d => d.parameters.length) = some 2 := by decide +kernel
theorem ny_PL_insertInOrder : y_PL_insertInOrder.cls ≠ "java/lang/invoke/MethodHandle" ∧ y_PL_insertInOrder.cls ≠ "java/lang/invoke/VarHandle" ∧ (parseMethodDescriptor y_PL_insertInOrder.desc).map (fun d => d.parameters.length) = some 1 := by decide +kernel
theorem ny_PL_order : y_PL_order.cls ≠ "java/lang/invoke/MethodHandle" ∧ y_PL_order.cls ≠ "java/lang/invoke/VarHandle" ∧ (parseMethodDescriptor y_PL_order.desc).map (fun d => d.parameters.length) = some 2 := by decide +kernel
theorem ny_FL_find : y_FL_find.cls ≠ "java/lang/invoke/MethodHandle" ∧ y_FL_find.cls ≠ "java/lang/invoke/VarHandle" ∧ (parseMethodDescriptor y_FL_find.desc).map (fun d => d.parameters.length) = some 3 := by decide +kernel
theorem ny_FL_include : y_FL_include.cls ≠ "java/lang/invoke/MethodHandle" ∧ y_FL_include.cls ≠ "java/lang/invoke/VarHandle" ∧ (parseMethodDescriptor y_FL_include.desc).map (fun d => d.parameters.length) = some 1 := by decide +kernel
theorem ny_FL_indexOf : y_FL_indexOf.cls ≠ "java/lang/invoke/MethodHandle" ∧ y_FL_indexOf.cls ≠ "java/lang/invoke/VarHandle" ∧ (parseMethodDescriptor y_FL_indexOf.desc).map (fun d => d.parameters.length) = some 1 := by decide +kernel
theorem ny_FL_findTight : y_FL_findTight.cls ≠ "java/lang/invoke/MethodHandle" ∧ y_FL_findTight.cls ≠ "java/lang/invoke/VarHandle" ∧ (parseMethodDescriptor y_FL_findTight.desc).map (fun d => d.parameters.length) = some 2 := by decide +kernel
theorem ny_PL_copyOut : y_PL_copyOut.cls ≠ "java/lang/invoke/MethodHandle" ∧ y_PL_copyOut.cls ≠ "java/lang/invoke/VarHandle" ∧ (parseMethodDescriptor y_PL_copyOut.desc).map (fun d => d.parameters.length) = some 2 := by decide +kernel
theorem ny_BF_find : y_BF_find.cls ≠ "java/lang/invoke/MethodHandle" ∧ y_BF_find.cls ≠ "java/lang/invoke/VarHandle" ∧ (parseMethodDescriptor y_BF_find.desc).map (fun d => d.parameters.length) = some 4 := by decide +kernel
theorem ny_BF_isLarge : y_BF_isLarge.cls ≠ "java/lang/invoke/MethodHandle" ∧ y_BF_isLarge.cls ≠ "java/lang/invoke/VarHandle" ∧ (parseMethodDescriptor y_BF_isLarge.desc).map (fun d => d.parameters.length) = some 2 := by decide +kernel
theorem ny_SI_find : y_SI_find.cls ≠ "java/lang/invoke/MethodHandle" ∧ y_SI_find.cls ≠ "java/lang/invoke/VarHandle" ∧ (parseMethodDescriptor y_SI_find.desc).map (fun d => d.parameters.length) = some 1 := by decide +kernel
theorem ny_SI_pushCut : y_SI_pushCut.cls ≠ "java/lang/invoke/MethodHandle" ∧ y_SI_pushCut.cls ≠ "java/lang/invoke/VarHandle" ∧ (parseMethodDescriptor y_SI_pushCut.desc).map (fun d => d.parameters.length) = some 2 := by decide +kernel
theorem ny_SI_addSimplex : y_SI_addSimplex.cls ≠ "java/lang/invoke/MethodHandle" ∧ y_SI_addSimplex.cls ≠ "java/lang/invoke/VarHandle" ∧ (parseMethodDescriptor y_SI_addSimplex.desc).map (fun d => d.parameters.length) = some 1 := by decide +kernel
theorem ny_SI_pushSides : y_SI_pushSides.cls ≠ "java/lang/invoke/MethodHandle" ∧ y_SI_pushSides.cls ≠ "java/lang/invoke/VarHandle" ∧ (parseMethodDescriptor y_SI_pushSides.desc).map (fun d => d.parameters.length) = some 3 := by decide +kernel
theorem ny_FL_isSideWithout : y_FL_isSideWithout.cls ≠ "java/lang/invoke/MethodHandle" ∧ y_FL_isSideWithout.cls ≠ "java/lang/invoke/VarHandle" ∧ (parseMethodDescriptor y_FL_isSideWithout.desc).map (fun d => d.parameters.length) = some 3 := by decide +kernel
theorem ny_IP_addTo : y_IP_addTo.cls ≠ "java/lang/invoke/MethodHandle" ∧ y_IP_addTo.cls ≠ "java/lang/invoke/VarHandle" ∧ (parseMethodDescriptor y_IP_addTo.desc).map (fun d => d.parameters.length) = some 3 := by decide +kernel
theorem ny_IP_findMembers : y_IP_findMembers.cls ≠ "java/lang/invoke/MethodHandle" ∧ y_IP_findMembers.cls ≠ "java/lang/invoke/VarHandle" ∧ (parseMethodDescriptor y_IP_findMembers.desc).map (fun d => d.parameters.length) = some 2 := by decide +kernel
theorem ny_IP_findSteps : y_IP_findSteps.cls ≠ "java/lang/invoke/MethodHandle" ∧ y_IP_findSteps.cls ≠ "java/lang/invoke/VarHandle" ∧ (parseMethodDescriptor y_IP_findSteps.desc).map (fun d => d.parameters.length) = some 2 := by decide +kernel
theorem ny_MI_minor : y_MI_minor.cls ≠ "java/lang/invoke/MethodHandle" ∧ y_MI_minor.cls ≠ "java/lang/invoke/VarHandle" ∧ (parseMethodDescriptor y_MI_minor.desc).map (fun d => d.parameters.length) = some 1 := by decide +kernel
theorem ny_IP_restOf : y_IP_restOf.cls ≠ "java/lang/invoke/MethodHandle" ∧ y_IP_restOf.cls ≠ "java/lang/invoke/VarHandle" ∧ (parseMethodDescriptor y_IP_restOf.desc).map (fun d => d.parameters.length) = some 1 := by decide +kernel
theorem ny_IP_findMixes : y_IP_findMixes.cls ≠ "java/lang/invoke/MethodHandle" ∧ y_IP_findMixes.cls ≠ "java/lang/invoke/VarHandle" ∧ (parseMethodDescriptor y_IP_findMixes.desc).map (fun d => d.parameters.length) = some 0 := by decide +kernel
theorem ny_IP_sumOf : y_IP_sumOf.cls ≠ "java/lang/invoke/MethodHandle" ∧ y_IP_sumOf.cls ≠ "java/lang/invoke/VarHandle" ∧ (parseMethodDescriptor y_IP_sumOf.desc).map (fun d => d.parameters.length) = some 2 := by decide +kernel
theorem ny_IP_includeMix : y_IP_includeMix.cls ≠ "java/lang/invoke/MethodHandle" ∧ y_IP_includeMix.cls ≠ "java/lang/invoke/VarHandle" ∧ (parseMethodDescriptor y_IP_includeMix.desc).map (fun d => d.parameters.length) = some 1 := by decide +kernel
theorem ny_IP_fillInner : y_IP_fillInner.cls ≠ "java/lang/invoke/MethodHandle" ∧ y_IP_fillInner.cls ≠ "java/lang/invoke/VarHandle" ∧ (parseMethodDescriptor y_IP_fillInner.desc).map (fun d => d.parameters.length) = some 2 := by decide +kernel
theorem ny_BF_measure : y_BF_measure.cls ≠ "java/lang/invoke/MethodHandle" ∧ y_BF_measure.cls ≠ "java/lang/invoke/VarHandle" ∧ (parseMethodDescriptor y_BF_measure.desc).map (fun d => d.parameters.length) = some 1 := by decide +kernel
theorem ny_BF_siftOutSums : y_BF_siftOutSums.cls ≠ "java/lang/invoke/MethodHandle" ∧ y_BF_siftOutSums.cls ≠ "java/lang/invoke/VarHandle" ∧ (parseMethodDescriptor y_BF_siftOutSums.desc).map (fun d => d.parameters.length) = some 0 := by decide +kernel
theorem ny_BF_isSum : y_BF_isSum.cls ≠ "java/lang/invoke/MethodHandle" ∧ y_BF_isSum.cls ≠ "java/lang/invoke/VarHandle" ∧ (parseMethodDescriptor y_BF_isSum.desc).map (fun d => d.parameters.length) = some 2 := by decide +kernel
theorem ny_BF_isBelow : y_BF_isBelow.cls ≠ "java/lang/invoke/MethodHandle" ∧ y_BF_isBelow.cls ≠ "java/lang/invoke/VarHandle" ∧ (parseMethodDescriptor y_BF_isBelow.desc).map (fun d => d.parameters.length) = some 2 := by decide +kernel
theorem ny_PL_copyWithin : y_PL_copyWithin.cls ≠ "java/lang/invoke/MethodHandle" ∧ y_PL_copyWithin.cls ≠ "java/lang/invoke/VarHandle" ∧ (parseMethodDescriptor y_PL_copyWithin.desc).map (fun d => d.parameters.length) = some 2 := by decide +kernel
theorem ny_L_ray : y_L_ray.cls ≠ "java/lang/invoke/MethodHandle" ∧ y_L_ray.cls ≠ "java/lang/invoke/VarHandle" ∧ (parseMethodDescriptor y_L_ray.desc).map (fun d => d.parameters.length) = some 4 := by decide +kernel
theorem ny_D_ray : y_D_ray.cls ≠ "java/lang/invoke/MethodHandle" ∧ y_D_ray.cls ≠ "java/lang/invoke/VarHandle" ∧ (parseMethodDescriptor y_D_ray.desc).map (fun d => d.parameters.length) = some 2 := by decide +kernel
theorem ny_L_size : y_L_size.cls ≠ "java/lang/invoke/MethodHandle" ∧ y_L_size.cls ≠ "java/lang/invoke/VarHandle" ∧ (parseMethodDescriptor y_L_size.desc).map (fun d => d.parameters.length) = some 2 := by decide +kernel
theorem ny_D_size : y_D_size.cls ≠ "java/lang/invoke/MethodHandle" ∧ y_D_size.cls ≠ "java/lang/invoke/VarHandle" ∧ (parseMethodDescriptor y_D_size.desc).map (fun d => d.parameters.length) = some 0 := by decide +kernel
theorem ny_L_bounds : y_L_bounds.cls ≠ "java/lang/invoke/MethodHandle" ∧ y_L_bounds.cls ≠ "java/lang/invoke/VarHandle" ∧ (parseMethodDescriptor y_L_bounds.desc).map (fun d => d.parameters.length) = some 3 := by decide +kernel
theorem ny_D_bounds : y_D_bounds.cls ≠ "java/lang/invoke/MethodHandle" ∧ y_D_bounds.cls ≠ "java/lang/invoke/VarHandle" ∧ (parseMethodDescriptor y_D_bounds.desc).map (fun d => d.parameters.length) = some 1 := by decide +kernel
theorem ny_FL_isFirstAtItsFace : y_FL_isFirstAtItsFace.cls ≠ "java/lang/invoke/MethodHandle" ∧ y_FL_isFirstAtItsFace.cls ≠ "java/lang/invoke/VarHandle" ∧ (parseMethodDescriptor y_FL_isFirstAtItsFace.desc).map (fun d => d.parameters.length) = some 1 := by decide +kernel
theorem ny_FL_dimensionAt : y_FL_dimensionAt.cls ≠ "java/lang/invoke/MethodHandle" ∧ y_FL_dimensionAt.cls ≠ "java/lang/invoke/VarHandle" ∧ (parseMethodDescriptor y_FL_dimensionAt.desc).map (fun d => d.parameters.length) = some 1 := by decide +kernel
theorem ny_L_faces : y_L_faces.cls ≠ "java/lang/invoke/MethodHandle" ∧ y_L_faces.cls ≠ "java/lang/invoke/VarHandle" ∧ (parseMethodDescriptor y_L_faces.desc).map (fun d => d.parameters.length) = some 3 := by decide +kernel
theorem ny_D_faces : y_D_faces.cls ≠ "java/lang/invoke/MethodHandle" ∧ y_D_faces.cls ≠ "java/lang/invoke/VarHandle" ∧ (parseMethodDescriptor y_D_faces.desc).map (fun d => d.parameters.length) = some 1 := by decide +kernel
theorem ny_FL_countOf : y_FL_countOf.cls ≠ "java/lang/invoke/MethodHandle" ∧ y_FL_countOf.cls ≠ "java/lang/invoke/VarHandle" ∧ (parseMethodDescriptor y_FL_countOf.desc).map (fun d => d.parameters.length) = some 1 := by decide +kernel
theorem ny_L_basis : y_L_basis.cls ≠ "java/lang/invoke/MethodHandle" ∧ y_L_basis.cls ≠ "java/lang/invoke/VarHandle" ∧ (parseMethodDescriptor y_L_basis.desc).map (fun d => d.parameters.length) = some 2 := by decide +kernel
theorem ny_D_basis : y_D_basis.cls ≠ "java/lang/invoke/MethodHandle" ∧ y_D_basis.cls ≠ "java/lang/invoke/VarHandle" ∧ (parseMethodDescriptor y_D_basis.desc).map (fun d => d.parameters.length) = some 0 := by decide +kernel
theorem ny_L_point : y_L_point.cls ≠ "java/lang/invoke/MethodHandle" ∧ y_L_point.cls ≠ "java/lang/invoke/VarHandle" ∧ (parseMethodDescriptor y_L_point.desc).map (fun d => d.parameters.length) = some 4 := by decide +kernel
theorem ny_D_point : y_D_point.cls ≠ "java/lang/invoke/MethodHandle" ∧ y_D_point.cls ≠ "java/lang/invoke/VarHandle" ∧ (parseMethodDescriptor y_D_point.desc).map (fun d => d.parameters.length) = some 2 := by decide +kernel
theorem ny_D_needSmall : y_D_needSmall.cls ≠ "java/lang/invoke/MethodHandle" ∧ y_D_needSmall.cls ≠ "java/lang/invoke/VarHandle" ∧ (parseMethodDescriptor y_D_needSmall.desc).map (fun d => d.parameters.length) = some 0 := by decide +kernel
theorem ny_L_parts : y_L_parts.cls ≠ "java/lang/invoke/MethodHandle" ∧ y_L_parts.cls ≠ "java/lang/invoke/VarHandle" ∧ (parseMethodDescriptor y_L_parts.desc).map (fun d => d.parameters.length) = some 6 := by decide +kernel
theorem ny_D_parts : y_D_parts.cls ≠ "java/lang/invoke/MethodHandle" ∧ y_D_parts.cls ≠ "java/lang/invoke/VarHandle" ∧ (parseMethodDescriptor y_D_parts.desc).map (fun d => d.parameters.length) = some 4 := by decide +kernel
theorem ny_BF_countParts : y_BF_countParts.cls ≠ "java/lang/invoke/MethodHandle" ∧ y_BF_countParts.cls ≠ "java/lang/invoke/VarHandle" ∧ (parseMethodDescriptor y_BF_countParts.desc).map (fun d => d.parameters.length) = some 2 := by decide +kernel
theorem ny_BF_timesInRest : y_BF_timesInRest.cls ≠ "java/lang/invoke/MethodHandle" ∧ y_BF_timesInRest.cls ≠ "java/lang/invoke/VarHandle" ∧ (parseMethodDescriptor y_BF_timesInRest.desc).map (fun d => d.parameters.length) = some 1 := by decide +kernel
theorem ny_L_least : y_L_least.cls ≠ "java/lang/invoke/MethodHandle" ∧ y_L_least.cls ≠ "java/lang/invoke/VarHandle" ∧ (parseMethodDescriptor y_L_least.desc).map (fun d => d.parameters.length) = some 6 := by decide +kernel
theorem ny_D_least : y_D_least.cls ≠ "java/lang/invoke/MethodHandle" ∧ y_D_least.cls ≠ "java/lang/invoke/VarHandle" ∧ (parseMethodDescriptor y_D_least.desc).map (fun d => d.parameters.length) = some 4 := by decide +kernel
theorem ny_BF_leastProduct : y_BF_leastProduct.cls ≠ "java/lang/invoke/MethodHandle" ∧ y_BF_leastProduct.cls ≠ "java/lang/invoke/VarHandle" ∧ (parseMethodDescriptor y_BF_leastProduct.desc).map (fun d => d.parameters.length) = some 1 := by decide +kernel
theorem ny_JM_minl : y_JM_minl.cls ≠ "java/lang/invoke/MethodHandle" ∧ y_JM_minl.cls ≠ "java/lang/invoke/VarHandle" ∧ (parseMethodDescriptor y_JM_minl.desc).map (fun d => d.parameters.length) = some 2 := by decide +kernel
theorem ny_M_init : y_M_init.cls ≠ "java/lang/invoke/MethodHandle" ∧ y_M_init.cls ≠ "java/lang/invoke/VarHandle" ∧ (parseMethodDescriptor y_M_init.desc).map (fun d => d.parameters.length) = some 1 := by decide +kernel
theorem ny_M_thrown : y_M_thrown.cls ≠ "java/lang/invoke/MethodHandle" ∧ y_M_thrown.cls ≠ "java/lang/invoke/VarHandle" ∧ (parseMethodDescriptor y_M_thrown.desc).map (fun d => d.parameters.length) = some 0 := by decide +kernel
theorem ny_M_add : y_M_add.cls ≠ "java/lang/invoke/MethodHandle" ∧ y_M_add.cls ≠ "java/lang/invoke/VarHandle" ∧ (parseMethodDescriptor y_M_add.desc).map (fun d => d.parameters.length) = some 4 := by decide +kernel
theorem ny_M_set : y_M_set.cls ≠ "java/lang/invoke/MethodHandle" ∧ y_M_set.cls ≠ "java/lang/invoke/VarHandle" ∧ (parseMethodDescriptor y_M_set.desc).map (fun d => d.parameters.length) = some 4 := by decide +kernel
theorem ny_M_within : y_M_within.cls ≠ "java/lang/invoke/MethodHandle" ∧ y_M_within.cls ≠ "java/lang/invoke/VarHandle" ∧ (parseMethodDescriptor y_M_within.desc).map (fun d => d.parameters.length) = some 1 := by decide +kernel
theorem ny_M_in : y_M_in.cls ≠ "java/lang/invoke/MethodHandle" ∧ y_M_in.cls ≠ "java/lang/invoke/VarHandle" ∧ (parseMethodDescriptor y_M_in.desc).map (fun d => d.parameters.length) = some 2 := by decide +kernel
theorem ny_M_nothing : y_M_nothing.cls ≠ "java/lang/invoke/MethodHandle" ∧ y_M_nothing.cls ≠ "java/lang/invoke/VarHandle" ∧ (parseMethodDescriptor y_M_nothing.desc).map (fun d => d.parameters.length) = some 0 := by decide +kernel
theorem ny_M_drop : y_M_drop.cls ≠ "java/lang/invoke/MethodHandle" ∧ y_M_drop.cls ≠ "java/lang/invoke/VarHandle" ∧ (parseMethodDescriptor y_M_drop.desc).map (fun d => d.parameters.length) = some 1 := by decide +kernel
theorem ny_M_look : y_M_look.cls ≠ "java/lang/invoke/MethodHandle" ∧ y_M_look.cls ≠ "java/lang/invoke/VarHandle" ∧ (parseMethodDescriptor y_M_look.desc).map (fun d => d.parameters.length) = some 1 := by decide +kernel
theorem ny_M_know : y_M_know.cls ≠ "java/lang/invoke/MethodHandle" ∧ y_M_know.cls ≠ "java/lang/invoke/VarHandle" ∧ (parseMethodDescriptor y_M_know.desc).map (fun d => d.parameters.length) = some 0 := by decide +kernel
theorem ny_M_rankOf : y_M_rankOf.cls ≠ "java/lang/invoke/MethodHandle" ∧ y_M_rankOf.cls ≠ "java/lang/invoke/VarHandle" ∧ (parseMethodDescriptor y_M_rankOf.desc).map (fun d => d.parameters.length) = some 1 := by decide +kernel
theorem ny_M_lessen : y_M_lessen.cls ≠ "java/lang/invoke/MethodHandle" ∧ y_M_lessen.cls ≠ "java/lang/invoke/VarHandle" ∧ (parseMethodDescriptor y_M_lessen.desc).map (fun d => d.parameters.length) = some 3 := by decide +kernel
theorem ny_M_gcd : y_M_gcd.cls ≠ "java/lang/invoke/MethodHandle" ∧ y_M_gcd.cls ≠ "java/lang/invoke/VarHandle" ∧ (parseMethodDescriptor y_M_gcd.desc).map (fun d => d.parameters.length) = some 2 := by decide +kernel
theorem ny_M_many : y_M_many.cls ≠ "java/lang/invoke/MethodHandle" ∧ y_M_many.cls ≠ "java/lang/invoke/VarHandle" ∧ (parseMethodDescriptor y_M_many.desc).map (fun d => d.parameters.length) = some 1 := by decide +kernel
theorem ny_M_across : y_M_across.cls ≠ "java/lang/invoke/MethodHandle" ∧ y_M_across.cls ≠ "java/lang/invoke/VarHandle" ∧ (parseMethodDescriptor y_M_across.desc).map (fun d => d.parameters.length) = some 1 := by decide +kernel
theorem ny_M_minor : y_M_minor.cls ≠ "java/lang/invoke/MethodHandle" ∧ y_M_minor.cls ≠ "java/lang/invoke/VarHandle" ∧ (parseMethodDescriptor y_M_minor.desc).map (fun d => d.parameters.length) = some 2 := by decide +kernel
theorem ny_M_worth : y_M_worth.cls ≠ "java/lang/invoke/MethodHandle" ∧ y_M_worth.cls ≠ "java/lang/invoke/VarHandle" ∧ (parseMethodDescriptor y_M_worth.desc).map (fun d => d.parameters.length) = some 1 := by decide +kernel
theorem ny_M_holdsAt : y_M_holdsAt.cls ≠ "java/lang/invoke/MethodHandle" ∧ y_M_holdsAt.cls ≠ "java/lang/invoke/VarHandle" ∧ (parseMethodDescriptor y_M_holdsAt.desc).map (fun d => d.parameters.length) = some 2 := by decide +kernel
theorem ny_M_product : y_M_product.cls ≠ "java/lang/invoke/MethodHandle" ∧ y_M_product.cls ≠ "java/lang/invoke/VarHandle" ∧ (parseMethodDescriptor y_M_product.desc).map (fun d => d.parameters.length) = some 3 := by decide +kernel
theorem ny_M_keepRay : y_M_keepRay.cls ≠ "java/lang/invoke/MethodHandle" ∧ y_M_keepRay.cls ≠ "java/lang/invoke/VarHandle" ∧ (parseMethodDescriptor y_M_keepRay.desc).map (fun d => d.parameters.length) = some 0 := by decide +kernel
theorem ny_M_compare : y_M_compare.cls ≠ "java/lang/invoke/MethodHandle" ∧ y_M_compare.cls ≠ "java/lang/invoke/VarHandle" ∧ (parseMethodDescriptor y_M_compare.desc).map (fun d => d.parameters.length) = some 2 := by decide +kernel
theorem ny_M_dimensionOf : y_M_dimensionOf.cls ≠ "java/lang/invoke/MethodHandle" ∧ y_M_dimensionOf.cls ≠ "java/lang/invoke/VarHandle" ∧ (parseMethodDescriptor y_M_dimensionOf.desc).map (fun d => d.parameters.length) = some 1 := by decide +kernel
theorem ny_M_indexed : y_M_indexed.cls ≠ "java/lang/invoke/MethodHandle" ∧ y_M_indexed.cls ≠ "java/lang/invoke/VarHandle" ∧ (parseMethodDescriptor y_M_indexed.desc).map (fun d => d.parameters.length) = some 0 := by decide +kernel
theorem ny_M_choose : y_M_choose.cls ≠ "java/lang/invoke/MethodHandle" ∧ y_M_choose.cls ≠ "java/lang/invoke/VarHandle" ∧ (parseMethodDescriptor y_M_choose.desc).map (fun d => d.parameters.length) = some 1 := by decide +kernel
theorem ny_M_index : y_M_index.cls ≠ "java/lang/invoke/MethodHandle" ∧ y_M_index.cls ≠ "java/lang/invoke/VarHandle" ∧ (parseMethodDescriptor y_M_index.desc).map (fun d => d.parameters.length) = some 0 := by decide +kernel
theorem ny_M_determinant : y_M_determinant.cls ≠ "java/lang/invoke/MethodHandle" ∧ y_M_determinant.cls ≠ "java/lang/invoke/VarHandle" ∧ (parseMethodDescriptor y_M_determinant.desc).map (fun d => d.parameters.length) = some 2 := by decide +kernel
theorem ny_M_row : y_M_row.cls ≠ "java/lang/invoke/MethodHandle" ∧ y_M_row.cls ≠ "java/lang/invoke/VarHandle" ∧ (parseMethodDescriptor y_M_row.desc).map (fun d => d.parameters.length) = some 2 := by decide +kernel
theorem ny_M_rays : y_M_rays.cls ≠ "java/lang/invoke/MethodHandle" ∧ y_M_rays.cls ≠ "java/lang/invoke/VarHandle" ∧ (parseMethodDescriptor y_M_rays.desc).map (fun d => d.parameters.length) = some 0 := by decide +kernel
theorem ny_M_pointed : y_M_pointed.cls ≠ "java/lang/invoke/MethodHandle" ∧ y_M_pointed.cls ≠ "java/lang/invoke/VarHandle" ∧ (parseMethodDescriptor y_M_pointed.desc).map (fun d => d.parameters.length) = some 1 := by decide +kernel
theorem ny_M_ray : y_M_ray.cls ≠ "java/lang/invoke/MethodHandle" ∧ y_M_ray.cls ≠ "java/lang/invoke/VarHandle" ∧ (parseMethodDescriptor y_M_ray.desc).map (fun d => d.parameters.length) = some 2 := by decide +kernel
theorem ny_M_size : y_M_size.cls ≠ "java/lang/invoke/MethodHandle" ∧ y_M_size.cls ≠ "java/lang/invoke/VarHandle" ∧ (parseMethodDescriptor y_M_size.desc).map (fun d => d.parameters.length) = some 0 := by decide +kernel
theorem ny_M_bounds : y_M_bounds.cls ≠ "java/lang/invoke/MethodHandle" ∧ y_M_bounds.cls ≠ "java/lang/invoke/VarHandle" ∧ (parseMethodDescriptor y_M_bounds.desc).map (fun d => d.parameters.length) = some 1 := by decide +kernel
theorem ny_M_faces : y_M_faces.cls ≠ "java/lang/invoke/MethodHandle" ∧ y_M_faces.cls ≠ "java/lang/invoke/VarHandle" ∧ (parseMethodDescriptor y_M_faces.desc).map (fun d => d.parameters.length) = some 1 := by decide +kernel
theorem ny_M_isFace : y_M_isFace.cls ≠ "java/lang/invoke/MethodHandle" ∧ y_M_isFace.cls ≠ "java/lang/invoke/VarHandle" ∧ (parseMethodDescriptor y_M_isFace.desc).map (fun d => d.parameters.length) = some 1 := by decide +kernel
theorem ny_M_basis : y_M_basis.cls ≠ "java/lang/invoke/MethodHandle" ∧ y_M_basis.cls ≠ "java/lang/invoke/VarHandle" ∧ (parseMethodDescriptor y_M_basis.desc).map (fun d => d.parameters.length) = some 0 := by decide +kernel
theorem ny_M_find : y_M_find.cls ≠ "java/lang/invoke/MethodHandle" ∧ y_M_find.cls ≠ "java/lang/invoke/VarHandle" ∧ (parseMethodDescriptor y_M_find.desc).map (fun d => d.parameters.length) = some 0 := by decide +kernel
theorem ny_M_keepPoint : y_M_keepPoint.cls ≠ "java/lang/invoke/MethodHandle" ∧ y_M_keepPoint.cls ≠ "java/lang/invoke/VarHandle" ∧ (parseMethodDescriptor y_M_keepPoint.desc).map (fun d => d.parameters.length) = some 0 := by decide +kernel
theorem ny_M_box : y_M_box.cls ≠ "java/lang/invoke/MethodHandle" ∧ y_M_box.cls ≠ "java/lang/invoke/VarHandle" ∧ (parseMethodDescriptor y_M_box.desc).map (fun d => d.parameters.length) = some 1 := by decide +kernel
theorem ny_M_less : y_M_less.cls ≠ "java/lang/invoke/MethodHandle" ∧ y_M_less.cls ≠ "java/lang/invoke/VarHandle" ∧ (parseMethodDescriptor y_M_less.desc).map (fun d => d.parameters.length) = some 2 := by decide +kernel
theorem ny_M_point : y_M_point.cls ≠ "java/lang/invoke/MethodHandle" ∧ y_M_point.cls ≠ "java/lang/invoke/VarHandle" ∧ (parseMethodDescriptor y_M_point.desc).map (fun d => d.parameters.length) = some 2 := by decide +kernel
theorem ny_M_based : y_M_based.cls ≠ "java/lang/invoke/MethodHandle" ∧ y_M_based.cls ≠ "java/lang/invoke/VarHandle" ∧ (parseMethodDescriptor y_M_based.desc).map (fun d => d.parameters.length) = some 1 := by decide +kernel
theorem ny_M_holds : y_M_holds.cls ≠ "java/lang/invoke/MethodHandle" ∧ y_M_holds.cls ≠ "java/lang/invoke/VarHandle" ∧ (parseMethodDescriptor y_M_holds.desc).map (fun d => d.parameters.length) = some 4 := by decide +kernel
theorem ny_M_parts : y_M_parts.cls ≠ "java/lang/invoke/MethodHandle" ∧ y_M_parts.cls ≠ "java/lang/invoke/VarHandle" ∧ (parseMethodDescriptor y_M_parts.desc).map (fun d => d.parameters.length) = some 4 := by decide +kernel
theorem ny_M_may : y_M_may.cls ≠ "java/lang/invoke/MethodHandle" ∧ y_M_may.cls ≠ "java/lang/invoke/VarHandle" ∧ (parseMethodDescriptor y_M_may.desc).map (fun d => d.parameters.length) = some 1 := by decide +kernel
theorem ny_M_least : y_M_least.cls ≠ "java/lang/invoke/MethodHandle" ∧ y_M_least.cls ≠ "java/lang/invoke/VarHandle" ∧ (parseMethodDescriptor y_M_least.desc).map (fun d => d.parameters.length) = some 4 := by decide +kernel
