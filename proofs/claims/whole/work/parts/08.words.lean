theorem vm_in1 {w : Cond} (h : w ∈ tables_1_1) : w ∈ lw_tbl := List.mem_append_right _ (List.mem_append_left _ h)
theorem vm_in2 {w : Cond} (h : w ∈ tables_1_2) : w ∈ lw_tbl := List.mem_append_right _ (List.mem_append_right _ (List.mem_append_left _ h))
theorem vm_in3 {w : Cond} (h : w ∈ tables_1_3) : w ∈ lw_tbl := List.mem_append_right _ (List.mem_append_right _ (List.mem_append_right _ (List.mem_append_left _ h)))
theorem vm_in4 {w : Cond} (h : w ∈ tables_1_4) : w ∈ lw_tbl := List.mem_append_right _ (List.mem_append_right _ (List.mem_append_right _ (List.mem_append_right _ (List.mem_append_left _ h))))
theorem vm_in5 {w : Cond} (h : w ∈ tables_1_5) : w ∈ lw_tbl := List.mem_append_right _ (List.mem_append_right _ (List.mem_append_right _ (List.mem_append_right _ (List.mem_append_right _ (h)))))
theorem vm_pin1 {q : MethodName × Nat} (h : q ∈ lw_privs_1) : Cond.selects q.1.cls q.1 q.1 ∈ lw_tbl := List.mem_append_left _ (List.mem_map.mpr ⟨q, List.mem_append_left _ h, rfl⟩)
theorem vm_pin2 {q : MethodName × Nat} (h : q ∈ lw_privs_2) : Cond.selects q.1.cls q.1 q.1 ∈ lw_tbl := List.mem_append_left _ (List.mem_map.mpr ⟨q, List.mem_append_right _ (List.mem_append_left _ h), rfl⟩)
theorem vm_pin3 {q : MethodName × Nat} (h : q ∈ lw_privs_3) : Cond.selects q.1.cls q.1 q.1 ∈ lw_tbl := List.mem_append_left _ (List.mem_map.mpr ⟨q, List.mem_append_right _ (List.mem_append_right _ (List.mem_append_left _ h)), rfl⟩)
theorem vm_pin4 {q : MethodName × Nat} (h : q ∈ lw_privs_4) : Cond.selects q.1.cls q.1 q.1 ∈ lw_tbl := List.mem_append_left _ (List.mem_map.mpr ⟨q, List.mem_append_right _ (List.mem_append_right _ (List.mem_append_right _ (List.mem_append_left _ h))), rfl⟩)
theorem vm_pin5 {q : MethodName × Nat} (h : q ∈ lw_privs_5) : Cond.selects q.1.cls q.1 q.1 ∈ lw_tbl := List.mem_append_left _ (List.mem_map.mpr ⟨q, List.mem_append_right _ (List.mem_append_right _ (List.mem_append_right _ (List.mem_append_right _ (List.mem_append_left _ h)))), rfl⟩)
theorem vm_pin6 {q : MethodName × Nat} (h : q ∈ lw_privs_6) : Cond.selects q.1.cls q.1 q.1 ∈ lw_tbl := List.mem_append_left _ (List.mem_map.mpr ⟨q, List.mem_append_right _ (List.mem_append_right _ (List.mem_append_right _ (List.mem_append_right _ (List.mem_append_right _ (h))))), rfl⟩)
theorem vm_w1 {w : Cond} (i : Nat) (h : vm_nth tables_1_1 i = some w) (hg : goodWord w = true) : w ∈ vm_WS := List.mem_filter.mpr ⟨vm_in1 (vm_nth_mem h), hg⟩
theorem vm_n1 {w : Cond} (i : Nat) (h : vm_nth tables_1_1 i = some w) (hg : vm_isN w = true) : w ∈ vm_WN := List.mem_filter.mpr ⟨vm_in1 (vm_nth_mem h), hg⟩
theorem vm_w2 {w : Cond} (i : Nat) (h : vm_nth tables_1_2 i = some w) (hg : goodWord w = true) : w ∈ vm_WS := List.mem_filter.mpr ⟨vm_in2 (vm_nth_mem h), hg⟩
theorem vm_n2 {w : Cond} (i : Nat) (h : vm_nth tables_1_2 i = some w) (hg : vm_isN w = true) : w ∈ vm_WN := List.mem_filter.mpr ⟨vm_in2 (vm_nth_mem h), hg⟩
theorem vm_w3 {w : Cond} (i : Nat) (h : vm_nth tables_1_3 i = some w) (hg : goodWord w = true) : w ∈ vm_WS := List.mem_filter.mpr ⟨vm_in3 (vm_nth_mem h), hg⟩
theorem vm_n3 {w : Cond} (i : Nat) (h : vm_nth tables_1_3 i = some w) (hg : vm_isN w = true) : w ∈ vm_WN := List.mem_filter.mpr ⟨vm_in3 (vm_nth_mem h), hg⟩
theorem vm_w4 {w : Cond} (i : Nat) (h : vm_nth tables_1_4 i = some w) (hg : goodWord w = true) : w ∈ vm_WS := List.mem_filter.mpr ⟨vm_in4 (vm_nth_mem h), hg⟩
theorem vm_n4 {w : Cond} (i : Nat) (h : vm_nth tables_1_4 i = some w) (hg : vm_isN w = true) : w ∈ vm_WN := List.mem_filter.mpr ⟨vm_in4 (vm_nth_mem h), hg⟩
theorem vm_w5 {w : Cond} (i : Nat) (h : vm_nth tables_1_5 i = some w) (hg : goodWord w = true) : w ∈ vm_WS := List.mem_filter.mpr ⟨vm_in5 (vm_nth_mem h), hg⟩
theorem vm_n5 {w : Cond} (i : Nat) (h : vm_nth tables_1_5 i = some w) (hg : vm_isN w = true) : w ∈ vm_WN := List.mem_filter.mpr ⟨vm_in5 (vm_nth_mem h), hg⟩
theorem vm_s1 {q : MethodName × Nat} (i : Nat) (h : vm_nth lw_privs_1 i = some q) (hg : goodWord (Cond.selects q.1.cls q.1 q.1) = true) : Cond.selects q.1.cls q.1 q.1 ∈ vm_WS := List.mem_filter.mpr ⟨vm_pin1 (vm_nth_mem h), hg⟩
theorem vm_s2 {q : MethodName × Nat} (i : Nat) (h : vm_nth lw_privs_2 i = some q) (hg : goodWord (Cond.selects q.1.cls q.1 q.1) = true) : Cond.selects q.1.cls q.1 q.1 ∈ vm_WS := List.mem_filter.mpr ⟨vm_pin2 (vm_nth_mem h), hg⟩
theorem vm_s3 {q : MethodName × Nat} (i : Nat) (h : vm_nth lw_privs_3 i = some q) (hg : goodWord (Cond.selects q.1.cls q.1 q.1) = true) : Cond.selects q.1.cls q.1 q.1 ∈ vm_WS := List.mem_filter.mpr ⟨vm_pin3 (vm_nth_mem h), hg⟩
theorem vm_s4 {q : MethodName × Nat} (i : Nat) (h : vm_nth lw_privs_4 i = some q) (hg : goodWord (Cond.selects q.1.cls q.1 q.1) = true) : Cond.selects q.1.cls q.1 q.1 ∈ vm_WS := List.mem_filter.mpr ⟨vm_pin4 (vm_nth_mem h), hg⟩
theorem vm_s5 {q : MethodName × Nat} (i : Nat) (h : vm_nth lw_privs_5 i = some q) (hg : goodWord (Cond.selects q.1.cls q.1 q.1) = true) : Cond.selects q.1.cls q.1 q.1 ∈ vm_WS := List.mem_filter.mpr ⟨vm_pin5 (vm_nth_mem h), hg⟩
theorem vm_s6 {q : MethodName × Nat} (i : Nat) (h : vm_nth lw_privs_6 i = some q) (hg : goodWord (Cond.selects q.1.cls q.1 q.1) = true) : Cond.selects q.1.cls q.1 q.1 ∈ vm_WS := List.mem_filter.mpr ⟨vm_pin6 (vm_nth_mem h), hg⟩
theorem ww_88 : (Cond.initialized "BagCountsLaw") ∈ vm_WS := vm_w1 0 rfl rfl
theorem ww_89 : (Cond.initialized "BagCounts") ∈ vm_WS := vm_w1 1 rfl rfl
theorem ww_90 : (Cond.initialized "BagCounts$Facts") ∈ vm_WS := vm_w1 2 rfl rfl
theorem ww_91 : (Cond.initialized "BagCounts$Logic") ∈ vm_WS := vm_w1 3 rfl rfl
theorem ww_92 : (Cond.initialized "BagCounts$Search") ∈ vm_WS := vm_w1 4 rfl rfl
theorem ww_93 : (Cond.initialized "BagCounts$Rules") ∈ vm_WS := vm_w1 5 rfl rfl
theorem ww_94 : (Cond.initialized "BagCounts$Gaps") ∈ vm_WS := vm_w1 6 rfl rfl
theorem ww_95 : (Cond.initialized "BagCounts$Pad") ∈ vm_WS := vm_w1 7 rfl rfl
theorem ww_96 : (Cond.initialized "BagCounts$States") ∈ vm_WS := vm_w1 8 rfl rfl
theorem ww_97 : (Cond.initialized "BagCountsModel") ∈ vm_WS := vm_w1 9 rfl rfl
theorem ww_98 : (Cond.initialized "java/lang/System") ∈ vm_WS := vm_w1 10 rfl rfl
theorem ww_99 : (Cond.initialized "java/lang/Math") ∈ vm_WS := vm_w1 11 rfl rfl
theorem ww_102 : (Cond.methodLink "BagCountsLaw" (9 : Nat) ({ cls := "BagCounts", name := "<init>", desc := "()V" } : Jvm.MethodName)) ∈ vm_WS := vm_w1 14 rfl rfl
theorem ww_103 : (Cond.instanceMethod ({ cls := "BagCounts", name := "<init>", desc := "()V" } : Jvm.MethodName)) ∈ vm_WS := vm_w1 15 rfl rfl
theorem ww_104 : (Cond.code ({ cls := "BagCounts", name := "<init>", desc := "()V" } : Jvm.MethodName) prog_1_method_1_code (1 : Nat) (Option.none : Option Jvm.ClassFile.FieldType)) ∈ vm_WS := vm_w1 16 rfl rfl
theorem ww_105 : (Cond.methodLink "BagCounts" (1 : Nat) ({ cls := "java/lang/Object", name := "<init>", desc := "()V" } : Jvm.MethodName)) ∈ vm_WS := vm_w1 17 rfl rfl
theorem ww_106 : (Cond.instanceMethod ({ cls := "java/lang/Object", name := "<init>", desc := "()V" } : Jvm.MethodName)) ∈ vm_WS := vm_w1 18 rfl rfl
theorem ww_107 : (Cond.code ({ cls := "java/lang/Object", name := "<init>", desc := "()V" } : Jvm.MethodName) object_method_1_code (1 : Nat) (Option.none : Option Jvm.ClassFile.FieldType)) ∈ vm_WS := vm_w1 19 rfl rfl
theorem ww_110 : (Cond.methodLinkNest "BagCounts" (9 : Nat) ({ cls := "BagCounts$Facts", name := "<init>", desc := "()V" } : Jvm.MethodName) "BagCounts") ∈ vm_WN := vm_n1 22 rfl rfl
theorem ww_111 : (Cond.instanceMethod ({ cls := "BagCounts$Facts", name := "<init>", desc := "()V" } : Jvm.MethodName)) ∈ vm_WS := vm_w1 23 rfl rfl
theorem ww_112 : (Cond.code ({ cls := "BagCounts$Facts", name := "<init>", desc := "()V" } : Jvm.MethodName) prog_2_method_1_code (1 : Nat) (Option.none : Option Jvm.ClassFile.FieldType)) ∈ vm_WS := vm_w1 24 rfl rfl
theorem ww_113 : (Cond.methodLink "BagCounts$Facts" (5 : Nat) ({ cls := "java/lang/Object", name := "<init>", desc := "()V" } : Jvm.MethodName)) ∈ vm_WS := vm_w1 25 rfl rfl
theorem ww_114 : (Cond.fieldLink "BagCounts$Facts" (11 : Nat) "BagCounts$Facts" "numbers" "[I") ∈ vm_WS := vm_w1 26 rfl rfl
theorem ww_115 : (Cond.fieldLink "BagCounts$Facts" (19 : Nat) "BagCounts$Facts" "known" "I") ∈ vm_WS := vm_w1 27 rfl rfl
theorem ww_116 : (Cond.fieldLinkNest "BagCounts" (72 : Nat) "BagCounts$Facts" "known" "I" "BagCounts") ∈ vm_WN := vm_n1 28 rfl rfl
theorem ww_117 : (Cond.fieldLink "BagCounts$Facts" (15 : Nat) "BagCounts$Facts" "most" "I") ∈ vm_WS := vm_w1 29 rfl rfl
theorem ww_118 : (Cond.fieldLinkNest "BagCounts$Gaps" (15 : Nat) "BagCounts$Facts" "most" "I" "BagCounts") ∈ vm_WN := vm_n1 30 rfl rfl
theorem ww_119 : (Cond.fieldLinkNest "BagCounts" (49 : Nat) "BagCounts$Facts" "most" "I" "BagCounts") ∈ vm_WN := vm_n1 31 rfl rfl
theorem ww_120 : (Cond.fieldLinkNest "BagCounts$Logic" (77 : Nat) "BagCounts$Facts" "most" "I" "BagCounts") ∈ vm_WN := vm_n1 32 rfl rfl
theorem ww_121 : (Cond.laysFinal "BagCounts$Facts" "BagCounts$Facts" "numbers" "[I") ∈ vm_WS := vm_w1 33 rfl rfl
theorem ww_123 : (Cond.lays "BagCounts$Facts" "BagCounts$Facts" "known" "I") ∈ vm_WS := vm_w1 35 rfl rfl
theorem ww_125 : (Cond.lays "BagCounts$Facts" "BagCounts$Facts" "most" "I") ∈ vm_WS := vm_w1 37 rfl rfl
theorem ww_128 : (Cond.arrayClass Jvm.ClassFile.FieldType.int) ∈ vm_WS := vm_w1 40 rfl rfl
theorem ww_131 : (Cond.methodLinkNest "BagCounts" (18 : Nat) ({ cls := "BagCounts$Logic", name := "<init>", desc := "()V" } : Jvm.MethodName) "BagCounts") ∈ vm_WN := vm_n1 43 rfl rfl
theorem ww_132 : (Cond.instanceMethod ({ cls := "BagCounts$Logic", name := "<init>", desc := "()V" } : Jvm.MethodName)) ∈ vm_WS := vm_w1 44 rfl rfl
theorem ww_133 : (Cond.code ({ cls := "BagCounts$Logic", name := "<init>", desc := "()V" } : Jvm.MethodName) prog_4_method_1_code (1 : Nat) (Option.none : Option Jvm.ClassFile.FieldType)) ∈ vm_WS := vm_w1 45 rfl rfl
theorem ww_134 : (Cond.methodLink "BagCounts$Logic" (3 : Nat) ({ cls := "java/lang/Object", name := "<init>", desc := "()V" } : Jvm.MethodName)) ∈ vm_WS := vm_w1 46 rfl rfl
theorem ww_137 : (Cond.methodLinkNest "BagCounts$Logic" (11 : Nat) ({ cls := "BagCounts$Search", name := "<init>", desc := "()V" } : Jvm.MethodName) "BagCounts") ∈ vm_WN := vm_n1 49 rfl rfl
theorem ww_138 : (Cond.instanceMethod ({ cls := "BagCounts$Search", name := "<init>", desc := "()V" } : Jvm.MethodName)) ∈ vm_WS := vm_w1 50 rfl rfl
theorem ww_139 : (Cond.code ({ cls := "BagCounts$Search", name := "<init>", desc := "()V" } : Jvm.MethodName) prog_7_method_1_code (1 : Nat) (Option.none : Option Jvm.ClassFile.FieldType)) ∈ vm_WS := vm_w1 51 rfl rfl
theorem ww_140 : (Cond.methodLink "BagCounts$Search" (5 : Nat) ({ cls := "java/lang/Object", name := "<init>", desc := "()V" } : Jvm.MethodName)) ∈ vm_WS := vm_w1 52 rfl rfl
theorem ww_143 : (Cond.methodLinkNest "BagCounts$Search" (13 : Nat) ({ cls := "BagCounts$Rules", name := "<init>", desc := "()V" } : Jvm.MethodName) "BagCounts") ∈ vm_WN := vm_n1 55 rfl rfl
theorem ww_144 : (Cond.instanceMethod ({ cls := "BagCounts$Rules", name := "<init>", desc := "()V" } : Jvm.MethodName)) ∈ vm_WS := vm_w1 56 rfl rfl
theorem ww_145 : (Cond.code ({ cls := "BagCounts$Rules", name := "<init>", desc := "()V" } : Jvm.MethodName) prog_6_method_1_code (1 : Nat) (Option.none : Option Jvm.ClassFile.FieldType)) ∈ vm_WS := vm_w1 57 rfl rfl
theorem ww_146 : (Cond.methodLink "BagCounts$Rules" (3 : Nat) ({ cls := "java/lang/Object", name := "<init>", desc := "()V" } : Jvm.MethodName)) ∈ vm_WS := vm_w1 58 rfl rfl
theorem ww_147 : (Cond.fieldLink "BagCounts$Rules" (11 : Nat) "BagCounts$Rules" "type" "[I") ∈ vm_WS := vm_w1 59 rfl rfl
theorem ww_148 : (Cond.fieldLinkNest "BagCounts$Search" (103 : Nat) "BagCounts$Rules" "type" "[I" "BagCounts") ∈ vm_WN := vm_n1 60 rfl rfl
theorem ww_149 : (Cond.fieldLink "BagCounts$Rules" (15 : Nat) "BagCounts$Rules" "low" "[I") ∈ vm_WS := vm_w1 61 rfl rfl
theorem ww_150 : (Cond.fieldLinkNest "BagCounts$Search" (127 : Nat) "BagCounts$Rules" "low" "[I" "BagCounts") ∈ vm_WN := vm_n1 62 rfl rfl
theorem ww_151 : (Cond.fieldLink "BagCounts$Rules" (18 : Nat) "BagCounts$Rules" "high" "[I") ∈ vm_WS := vm_w1 63 rfl rfl
theorem ww_152 : (Cond.fieldLinkNest "BagCounts$Search" (128 : Nat) "BagCounts$Rules" "high" "[I" "BagCounts") ∈ vm_WN := vm_n1 64 rfl rfl
theorem ww_153 : (Cond.fieldLink "BagCounts$Rules" (21 : Nat) "BagCounts$Rules" "mask" "[I") ∈ vm_WS := vm_w1 65 rfl rfl
theorem ww_154 : (Cond.fieldLinkNest "BagCounts$Search" (85 : Nat) "BagCounts$Rules" "mask" "[I" "BagCounts") ∈ vm_WN := vm_n1 66 rfl rfl
theorem ww_155 : (Cond.fieldLink "BagCounts$Rules" (24 : Nat) "BagCounts$Rules" "terms" "[I") ∈ vm_WS := vm_w1 67 rfl rfl
theorem ww_156 : (Cond.fieldLinkNest "BagCounts$Search" (112 : Nat) "BagCounts$Rules" "terms" "[I" "BagCounts") ∈ vm_WN := vm_n1 68 rfl rfl
theorem ww_157 : (Cond.fieldLink "BagCounts$Rules" (27 : Nat) "BagCounts$Rules" "variable" "[I") ∈ vm_WS := vm_w1 69 rfl rfl
theorem ww_158 : (Cond.fieldLinkNest "BagCounts$Search" (121 : Nat) "BagCounts$Rules" "variable" "[I" "BagCounts") ∈ vm_WN := vm_n1 70 rfl rfl
theorem ww_159 : (Cond.fieldLink "BagCounts$Rules" (30 : Nat) "BagCounts$Rules" "factor" "[I") ∈ vm_WS := vm_w1 71 rfl rfl
theorem ww_160 : (Cond.fieldLinkNest "BagCounts$Search" (124 : Nat) "BagCounts$Rules" "factor" "[I" "BagCounts") ∈ vm_WN := vm_n1 72 rfl rfl
theorem ww_161 : (Cond.fieldLink "BagCounts$Rules" (35 : Nat) "BagCounts$Rules" "weight" "[I") ∈ vm_WS := vm_w1 73 rfl rfl
theorem ww_162 : (Cond.fieldLinkNest "BagCounts$Search" (91 : Nat) "BagCounts$Rules" "weight" "[I" "BagCounts") ∈ vm_WN := vm_n1 74 rfl rfl
theorem ww_163 : (Cond.fieldLink "BagCounts$Rules" (38 : Nat) "BagCounts$Rules" "size" "I") ∈ vm_WS := vm_w1 75 rfl rfl
theorem ww_164 : (Cond.fieldLinkNest "BagCounts$Search" (81 : Nat) "BagCounts$Rules" "size" "I" "BagCounts") ∈ vm_WN := vm_n1 76 rfl rfl
theorem ww_165 : (Cond.laysFinal "BagCounts$Rules" "BagCounts$Rules" "type" "[I") ∈ vm_WS := vm_w1 77 rfl rfl
theorem ww_167 : (Cond.laysFinal "BagCounts$Rules" "BagCounts$Rules" "low" "[I") ∈ vm_WS := vm_w1 79 rfl rfl
theorem ww_169 : (Cond.laysFinal "BagCounts$Rules" "BagCounts$Rules" "high" "[I") ∈ vm_WS := vm_w1 81 rfl rfl
theorem ww_171 : (Cond.laysFinal "BagCounts$Rules" "BagCounts$Rules" "mask" "[I") ∈ vm_WS := vm_w1 83 rfl rfl
theorem ww_173 : (Cond.laysFinal "BagCounts$Rules" "BagCounts$Rules" "terms" "[I") ∈ vm_WS := vm_w1 85 rfl rfl
theorem ww_175 : (Cond.laysFinal "BagCounts$Rules" "BagCounts$Rules" "variable" "[I") ∈ vm_WS := vm_w1 87 rfl rfl
theorem ww_177 : (Cond.laysFinal "BagCounts$Rules" "BagCounts$Rules" "factor" "[I") ∈ vm_WS := vm_w1 89 rfl rfl
theorem ww_179 : (Cond.laysFinal "BagCounts$Rules" "BagCounts$Rules" "weight" "[I") ∈ vm_WS := vm_w1 91 rfl rfl
theorem ww_181 : (Cond.lays "BagCounts$Rules" "BagCounts$Rules" "size" "I") ∈ vm_WS := vm_w1 93 rfl rfl
theorem ww_184 : (Cond.fieldLink "BagCounts$Search" (14 : Nat) "BagCounts$Search" "rules" "LBagCounts$Rules;") ∈ vm_WS := vm_w1 96 rfl rfl
theorem ww_185 : (Cond.fieldLinkNest "BagCounts$Logic" (89 : Nat) "BagCounts$Search" "rules" "LBagCounts$Rules;" "BagCounts") ∈ vm_WN := vm_n1 97 rfl rfl
theorem ww_186 : (Cond.fieldLink "BagCounts$Search" (18 : Nat) "BagCounts$Search" "low" "[I") ∈ vm_WS := vm_w1 98 rfl rfl
theorem ww_187 : (Cond.fieldLinkNest "BagCounts$Logic" (59 : Nat) "BagCounts$Search" "low" "[I" "BagCounts") ∈ vm_WN := vm_n1 99 rfl rfl
theorem ww_188 : (Cond.fieldLink "BagCounts$Search" (22 : Nat) "BagCounts$Search" "high" "[I") ∈ vm_WS := vm_w1 100 rfl rfl
theorem ww_189 : (Cond.fieldLinkNest "BagCounts$Logic" (62 : Nat) "BagCounts$Search" "high" "[I" "BagCounts") ∈ vm_WN := vm_n1 101 rfl rfl
theorem ww_190 : (Cond.fieldLink "BagCounts$Search" (28 : Nat) "BagCounts$Search" "withSizes" "Z") ∈ vm_WS := vm_w1 102 rfl rfl
theorem ww_191 : (Cond.fieldLink "BagCounts$Search" (100 : Nat) "BagCounts$Search" "narrowed" "I") ∈ vm_WS := vm_w1 103 rfl rfl
theorem ww_192 : (Cond.laysFinal "BagCounts$Search" "BagCounts$Search" "rules" "LBagCounts$Rules;") ∈ vm_WS := vm_w1 104 rfl rfl
theorem ww_194 : (Cond.laysFinal "BagCounts$Search" "BagCounts$Search" "low" "[I") ∈ vm_WS := vm_w1 106 rfl rfl
theorem ww_196 : (Cond.laysFinal "BagCounts$Search" "BagCounts$Search" "high" "[I") ∈ vm_WS := vm_w1 108 rfl rfl
theorem ww_198 : (Cond.lays "BagCounts$Search" "BagCounts$Search" "withSizes" "Z") ∈ vm_WS := vm_w1 110 rfl rfl
theorem ww_200 : (Cond.lays "BagCounts$Search" "BagCounts$Search" "narrowed" "I") ∈ vm_WS := vm_w1 112 rfl rfl
theorem ww_205 : (Cond.methodLinkNest "BagCounts$Logic" (20 : Nat) ({ cls := "BagCounts$Gaps", name := "<init>", desc := "()V" } : Jvm.MethodName) "BagCounts") ∈ vm_WN := vm_n1 117 rfl rfl
theorem ww_206 : (Cond.instanceMethod ({ cls := "BagCounts$Gaps", name := "<init>", desc := "()V" } : Jvm.MethodName)) ∈ vm_WS := vm_w1 118 rfl rfl
theorem ww_207 : (Cond.code ({ cls := "BagCounts$Gaps", name := "<init>", desc := "()V" } : Jvm.MethodName) prog_3_method_1_code (1 : Nat) (Option.none : Option Jvm.ClassFile.FieldType)) ∈ vm_WS := vm_w1 119 rfl rfl
theorem ww_208 : (Cond.methodLink "BagCounts$Gaps" (3 : Nat) ({ cls := "java/lang/Object", name := "<init>", desc := "()V" } : Jvm.MethodName)) ∈ vm_WS := vm_w1 120 rfl rfl
theorem ww_209 : (Cond.fieldLink "BagCounts$Gaps" (9 : Nat) "BagCounts$Gaps" "gaps" "[I") ∈ vm_WS := vm_w1 121 rfl rfl
theorem ww_210 : (Cond.fieldLink "BagCounts$Gaps" (21 : Nat) "BagCounts$Gaps" "most" "I") ∈ vm_WS := vm_w1 122 rfl rfl
theorem ww_211 : (Cond.fieldLink "BagCounts$Gaps" (22 : Nat) "BagCounts$Gaps" "isNarrowed" "Z") ∈ vm_WS := vm_w1 123 rfl rfl
theorem ww_212 : (Cond.laysFinal "BagCounts$Gaps" "BagCounts$Gaps" "gaps" "[I") ∈ vm_WS := vm_w1 124 rfl rfl
theorem ww_214 : (Cond.lays "BagCounts$Gaps" "BagCounts$Gaps" "most" "I") ∈ vm_WS := vm_w1 126 rfl rfl
theorem ww_216 : (Cond.lays "BagCounts$Gaps" "BagCounts$Gaps" "isNarrowed" "Z") ∈ vm_WS := vm_w1 128 rfl rfl
theorem ww_219 : (Cond.fieldLink "BagCounts$Logic" (12 : Nat) "BagCounts$Logic" "search" "LBagCounts$Search;") ∈ vm_WS := vm_w1 131 rfl rfl
theorem ww_220 : (Cond.fieldLink "BagCounts$Logic" (21 : Nat) "BagCounts$Logic" "gaps" "LBagCounts$Gaps;") ∈ vm_WS := vm_w1 132 rfl rfl
theorem ww_221 : (Cond.laysFinal "BagCounts$Logic" "BagCounts$Logic" "search" "LBagCounts$Search;") ∈ vm_WS := vm_w1 133 rfl rfl
theorem ww_223 : (Cond.laysFinal "BagCounts$Logic" "BagCounts$Logic" "gaps" "LBagCounts$Gaps;") ∈ vm_WS := vm_w1 135 rfl rfl
theorem ww_228 : (Cond.methodLinkNest "BagCounts" (25 : Nat) ({ cls := "BagCounts$Pad", name := "<init>", desc := "()V" } : Jvm.MethodName) "BagCounts") ∈ vm_WN := vm_n1 140 rfl rfl
theorem ww_229 : (Cond.instanceMethod ({ cls := "BagCounts$Pad", name := "<init>", desc := "()V" } : Jvm.MethodName)) ∈ vm_WS := vm_w1 141 rfl rfl
theorem ww_230 : (Cond.code ({ cls := "BagCounts$Pad", name := "<init>", desc := "()V" } : Jvm.MethodName) prog_5_method_1_code (1 : Nat) (Option.none : Option Jvm.ClassFile.FieldType)) ∈ vm_WS := vm_w1 142 rfl rfl
theorem ww_231 : (Cond.methodLink "BagCounts$Pad" (3 : Nat) ({ cls := "java/lang/Object", name := "<init>", desc := "()V" } : Jvm.MethodName)) ∈ vm_WS := vm_w1 143 rfl rfl
theorem ww_232 : (Cond.fieldLink "BagCounts$Pad" (11 : Nat) "BagCounts$Pad" "text" "[C") ∈ vm_WS := vm_w1 144 rfl rfl
theorem ww_233 : (Cond.fieldLink "BagCounts$Pad" (21 : Nat) "BagCounts$Pad" "length" "I") ∈ vm_WS := vm_w1 145 rfl rfl
theorem ww_234 : (Cond.fieldLinkNest "BagCounts" (79 : Nat) "BagCounts$Pad" "length" "I" "BagCounts") ∈ vm_WN := vm_n1 146 rfl rfl
theorem ww_235 : (Cond.fieldLink "BagCounts$Pad" (29 : Nat) "BagCounts$Pad" "at" "I") ∈ vm_WS := vm_w1 147 rfl rfl
theorem ww_236 : (Cond.fieldLink "BagCounts$Pad" (40 : Nat) "BagCounts$Pad" "form" "I") ∈ vm_WS := vm_w1 148 rfl rfl
theorem ww_237 : (Cond.fieldLink "BagCounts$Pad" (43 : Nat) "BagCounts$Pad" "a" "I") ∈ vm_WS := vm_w1 149 rfl rfl
theorem ww_238 : (Cond.fieldLink "BagCounts$Pad" (46 : Nat) "BagCounts$Pad" "b" "I") ∈ vm_WS := vm_w1 150 rfl rfl
theorem ww_239 : (Cond.fieldLink "BagCounts$Pad" (49 : Nat) "BagCounts$Pad" "c" "I") ∈ vm_WS := vm_w1 151 rfl rfl
theorem ww_240 : (Cond.fieldLink "BagCounts$Pad" (52 : Nat) "BagCounts$Pad" "d" "I") ∈ vm_WS := vm_w1 152 rfl rfl
theorem ww_241 : (Cond.fieldLink "BagCounts$Pad" (55 : Nat) "BagCounts$Pad" "e" "I") ∈ vm_WS := vm_w1 153 rfl rfl
theorem ww_242 : (Cond.laysFinal "BagCounts$Pad" "BagCounts$Pad" "text" "[C") ∈ vm_WS := vm_w1 154 rfl rfl
theorem ww_244 : (Cond.lays "BagCounts$Pad" "BagCounts$Pad" "length" "I") ∈ vm_WS := vm_w1 156 rfl rfl
theorem ww_246 : (Cond.lays "BagCounts$Pad" "BagCounts$Pad" "at" "I") ∈ vm_WS := vm_w1 158 rfl rfl
theorem ww_248 : (Cond.lays "BagCounts$Pad" "BagCounts$Pad" "form" "I") ∈ vm_WS := vm_w1 160 rfl rfl
theorem ww_250 : (Cond.lays "BagCounts$Pad" "BagCounts$Pad" "a" "I") ∈ vm_WS := vm_w1 162 rfl rfl
theorem ww_252 : (Cond.lays "BagCounts$Pad" "BagCounts$Pad" "b" "I") ∈ vm_WS := vm_w1 164 rfl rfl
theorem ww_254 : (Cond.lays "BagCounts$Pad" "BagCounts$Pad" "c" "I") ∈ vm_WS := vm_w1 166 rfl rfl
theorem ww_256 : (Cond.lays "BagCounts$Pad" "BagCounts$Pad" "d" "I") ∈ vm_WS := vm_w1 168 rfl rfl
theorem ww_258 : (Cond.lays "BagCounts$Pad" "BagCounts$Pad" "e" "I") ∈ vm_WS := vm_w1 170 rfl rfl
theorem ww_261 : (Cond.arrayClass Jvm.ClassFile.FieldType.char) ∈ vm_WS := vm_w1 173 rfl rfl
theorem ww_264 : (Cond.methodLink "BagCounts" (32 : Nat) ({ cls := "BagCounts$States", name := "<init>", desc := "(I)V" } : Jvm.MethodName)) ∈ vm_WS := vm_w1 176 rfl rfl
theorem ww_265 : (Cond.instanceMethod ({ cls := "BagCounts$States", name := "<init>", desc := "(I)V" } : Jvm.MethodName)) ∈ vm_WS := vm_w1 177 rfl rfl
theorem ww_266 : (Cond.code ({ cls := "BagCounts$States", name := "<init>", desc := "(I)V" } : Jvm.MethodName) prog_8_method_1_code (2 : Nat) (Option.none : Option Jvm.ClassFile.FieldType)) ∈ vm_WS := vm_w1 178 rfl rfl
theorem ww_267 : (Cond.methodLink "BagCounts$States" (1 : Nat) ({ cls := "java/lang/Object", name := "<init>", desc := "()V" } : Jvm.MethodName)) ∈ vm_WS := vm_w1 179 rfl rfl
theorem ww_268 : (Cond.fieldLink "BagCounts$States" (7 : Nat) "BagCounts$States" "rows" "I") ∈ vm_WS := vm_w1 180 rfl rfl
theorem ww_269 : (Cond.fieldLink "BagCounts$States" (15 : Nat) "BagCounts$States" "cells" "[I") ∈ vm_WS := vm_w1 181 rfl rfl
theorem ww_270 : (Cond.laysFinal "BagCounts$States" "BagCounts$States" "rows" "I") ∈ vm_WS := vm_w1 182 rfl rfl
theorem ww_272 : (Cond.laysFinal "BagCounts$States" "BagCounts$States" "cells" "[I") ∈ vm_WS := vm_w1 184 rfl rfl
theorem ww_275 : (Cond.fieldLink "BagCounts" (10 : Nat) "BagCounts" "facts" "LBagCounts$Facts;") ∈ vm_WS := vm_w1 187 rfl rfl
theorem ww_276 : (Cond.fieldLink "BagCounts" (19 : Nat) "BagCounts" "logic" "LBagCounts$Logic;") ∈ vm_WS := vm_w1 188 rfl rfl
theorem ww_277 : (Cond.fieldLink "BagCounts" (26 : Nat) "BagCounts" "pad" "LBagCounts$Pad;") ∈ vm_WS := vm_w1 189 rfl rfl
theorem ww_278 : (Cond.fieldLink "BagCounts" (35 : Nat) "BagCounts" "history" "LBagCounts$States;") ∈ vm_WS := vm_w1 190 rfl rfl
theorem ww_279 : (Cond.fieldLink "BagCounts" (39 : Nat) "BagCounts" "slots" "LBagCounts$States;") ∈ vm_WS := vm_w1 191 rfl rfl
theorem ww_280 : (Cond.fieldLink "BagCounts" (82 : Nat) "BagCounts" "historySize" "I") ∈ vm_WS := vm_w1 192 rfl rfl
theorem ww_281 : (Cond.fieldLink "BagCounts" (150 : Nat) "BagCounts" "filledSlots" "I") ∈ vm_WS := vm_w1 193 rfl rfl
theorem ww_282 : (Cond.laysFinal "BagCounts" "BagCounts" "facts" "LBagCounts$Facts;") ∈ vm_WS := vm_w1 194 rfl rfl
theorem ww_284 : (Cond.laysFinal "BagCounts" "BagCounts" "logic" "LBagCounts$Logic;") ∈ vm_WS := vm_w1 196 rfl rfl
theorem ww_286 : (Cond.laysFinal "BagCounts" "BagCounts" "pad" "LBagCounts$Pad;") ∈ vm_WS := vm_w1 198 rfl rfl
theorem ww_288 : (Cond.laysFinal "BagCounts" "BagCounts" "history" "LBagCounts$States;") ∈ vm_WS := vm_w1 200 rfl rfl
theorem ww_290 : (Cond.laysFinal "BagCounts" "BagCounts" "slots" "LBagCounts$States;") ∈ vm_WS := vm_w1 202 rfl rfl
theorem ww_292 : (Cond.lays "BagCounts" "BagCounts" "historySize" "I") ∈ vm_WS := vm_w1 204 rfl rfl
theorem ww_294 : (Cond.lays "BagCounts" "BagCounts" "filledSlots" "I") ∈ vm_WS := vm_w1 206 rfl rfl
theorem ww_297 : (Cond.methodLink "BagCountsLaw" (13 : Nat) ({ cls := "BagCounts", name := "most", desc := "(I)I" } : Jvm.MethodName)) ∈ vm_WS := vm_w1 209 rfl rfl
theorem ww_298 : (Cond.instanceMethod ({ cls := "BagCounts", name := "most", desc := "(I)I" } : Jvm.MethodName)) ∈ vm_WS := vm_w1 210 rfl rfl
theorem ww_299 : (Cond.selects "BagCounts" ({ cls := "BagCounts", name := "most", desc := "(I)I" } : Jvm.MethodName) ({ cls := "BagCounts", name := "most", desc := "(I)I" } : Jvm.MethodName)) ∈ vm_WS := vm_w1 211 rfl rfl
theorem ww_300 : (Cond.code ({ cls := "BagCounts", name := "most", desc := "(I)I" } : Jvm.MethodName) prog_1_method_2_code (3 : Nat) (Option.some Jvm.ClassFile.FieldType.int)) ∈ vm_WS := vm_w1 212 rfl rfl
theorem ww_301 : (Cond.methodLink "BagCounts" (42 : Nat) ({ cls := "BagCounts", name := "isWithin", desc := "(III)Z" } : Jvm.MethodName)) ∈ vm_WS := vm_w1 213 rfl rfl
theorem ww_302 : (Cond.static ({ cls := "BagCounts", name := "isWithin", desc := "(III)Z" } : Jvm.MethodName)) ∈ vm_WS := vm_w1 214 rfl rfl
theorem ww_303 : (Cond.code ({ cls := "BagCounts", name := "isWithin", desc := "(III)Z" } : Jvm.MethodName) prog_1_method_27_code (3 : Nat) (Option.some Jvm.ClassFile.FieldType.boolean)) ∈ vm_WS := vm_w1 215 rfl rfl
theorem ww_304 : (Cond.methodLink "BagCounts" (46 : Nat) ({ cls := "BagCounts", name := "recordState", desc := "()V" } : Jvm.MethodName)) ∈ vm_WS := vm_w1 216 rfl rfl
theorem ww_306 : (Cond.instanceMethod ({ cls := "BagCounts", name := "recordState", desc := "()V" } : Jvm.MethodName)) ∈ vm_WS := vm_w1 218 rfl rfl
theorem ww_307 : (Cond.code ({ cls := "BagCounts", name := "recordState", desc := "()V" } : Jvm.MethodName) prog_1_method_23_code (1 : Nat) (Option.none : Option Jvm.ClassFile.FieldType)) ∈ vm_WS := vm_w1 219 rfl rfl
theorem ww_308 : (Cond.methodLink "BagCounts" (153 : Nat) ({ cls := "BagCounts$States", name := "dropFirst", desc := "()V" } : Jvm.MethodName)) ∈ vm_WS := vm_w1 220 rfl rfl
theorem ww_309 : (Cond.instanceMethod ({ cls := "BagCounts$States", name := "dropFirst", desc := "()V" } : Jvm.MethodName)) ∈ vm_WS := vm_w1 221 rfl rfl
theorem ww_310 : (Cond.selects "BagCounts$States" ({ cls := "BagCounts$States", name := "dropFirst", desc := "()V" } : Jvm.MethodName) ({ cls := "BagCounts$States", name := "dropFirst", desc := "()V" } : Jvm.MethodName)) ∈ vm_WS := vm_w1 222 rfl rfl
theorem ww_311 : (Cond.code ({ cls := "BagCounts$States", name := "dropFirst", desc := "()V" } : Jvm.MethodName) prog_8_method_4_code (1 : Nat) (Option.none : Option Jvm.ClassFile.FieldType)) ∈ vm_WS := vm_w1 223 rfl rfl
theorem ww_312 : (Cond.methodLink "BagCounts$States" (32 : Nat) ({ cls := "java/lang/System", name := "arraycopy", desc := "(Ljava/lang/Object;ILjava/lang/Object;II)V" } : Jvm.MethodName)) ∈ vm_WS := vm_w1 224 rfl rfl
theorem ww_313 : (Cond.static ({ cls := "java/lang/System", name := "arraycopy", desc := "(Ljava/lang/Object;ILjava/lang/Object;II)V" } : Jvm.MethodName)) ∈ vm_WS := vm_w1 225 rfl rfl
theorem ww_314 : (Cond.native ({ cls := "java/lang/System", name := "arraycopy", desc := "(Ljava/lang/Object;ILjava/lang/Object;II)V" } : Jvm.MethodName)) ∈ vm_WS := vm_w1 226 rfl rfl
theorem ww_315 : (Cond.methodLink "BagCounts" (147 : Nat) ({ cls := "BagCounts$States", name := "store", desc := "(ILBagCounts$Facts;)V" } : Jvm.MethodName)) ∈ vm_WS := vm_w1 227 rfl rfl
theorem ww_316 : (Cond.instanceMethod ({ cls := "BagCounts$States", name := "store", desc := "(ILBagCounts$Facts;)V" } : Jvm.MethodName)) ∈ vm_WS := vm_w1 228 rfl rfl
theorem ww_317 : (Cond.selects "BagCounts$States" ({ cls := "BagCounts$States", name := "store", desc := "(ILBagCounts$Facts;)V" } : Jvm.MethodName) ({ cls := "BagCounts$States", name := "store", desc := "(ILBagCounts$Facts;)V" } : Jvm.MethodName)) ∈ vm_WS := vm_w1 229 rfl rfl
theorem ww_318 : (Cond.code ({ cls := "BagCounts$States", name := "store", desc := "(ILBagCounts$Facts;)V" } : Jvm.MethodName) prog_8_method_2_code (3 : Nat) (Option.none : Option Jvm.ClassFile.FieldType)) ∈ vm_WS := vm_w1 230 rfl rfl
theorem ww_319 : (Cond.methodLinkNest "BagCounts$States" (19 : Nat) ({ cls := "BagCounts", name := "isWithin", desc := "(III)Z" } : Jvm.MethodName) "BagCounts") ∈ vm_WN := vm_n1 231 rfl rfl
theorem ww_320 : (Cond.methodLink "BagCounts$States" (25 : Nat) ({ cls := "BagCounts$Facts", name := "writeTo", desc := "([II)V" } : Jvm.MethodName)) ∈ vm_WS := vm_w1 232 rfl rfl
theorem ww_321 : (Cond.instanceMethod ({ cls := "BagCounts$Facts", name := "writeTo", desc := "([II)V" } : Jvm.MethodName)) ∈ vm_WS := vm_w1 233 rfl rfl
theorem ww_322 : (Cond.selects "BagCounts$Facts" ({ cls := "BagCounts$Facts", name := "writeTo", desc := "([II)V" } : Jvm.MethodName) ({ cls := "BagCounts$Facts", name := "writeTo", desc := "([II)V" } : Jvm.MethodName)) ∈ vm_WS := vm_w1 234 rfl rfl
theorem ww_323 : (Cond.code ({ cls := "BagCounts$Facts", name := "writeTo", desc := "([II)V" } : Jvm.MethodName) prog_2_method_9_code (3 : Nat) (Option.none : Option Jvm.ClassFile.FieldType)) ∈ vm_WS := vm_w1 235 rfl rfl
theorem ww_324 : (Cond.methodLink "BagCounts$Facts" (34 : Nat) ({ cls := "java/lang/System", name := "arraycopy", desc := "(Ljava/lang/Object;ILjava/lang/Object;II)V" } : Jvm.MethodName)) ∈ vm_WS := vm_w1 236 rfl rfl
theorem ww_325 : (Cond.methodLink "BagCountsLaw" (18 : Nat) ({ cls := "BagCounts", name := "fact", desc := "(IIIIII)I" } : Jvm.MethodName)) ∈ vm_WS := vm_w1 237 rfl rfl
theorem ww_326 : (Cond.instanceMethod ({ cls := "BagCounts", name := "fact", desc := "(IIIIII)I" } : Jvm.MethodName)) ∈ vm_WS := vm_w1 238 rfl rfl
theorem ww_327 : (Cond.selects "BagCounts" ({ cls := "BagCounts", name := "fact", desc := "(IIIIII)I" } : Jvm.MethodName) ({ cls := "BagCounts", name := "fact", desc := "(IIIIII)I" } : Jvm.MethodName)) ∈ vm_WS := vm_w1 239 rfl rfl
theorem ww_328 : (Cond.code ({ cls := "BagCounts", name := "fact", desc := "(IIIIII)I" } : Jvm.MethodName) prog_1_method_3_code (7 : Nat) (Option.some Jvm.ClassFile.FieldType.int)) ∈ vm_WS := vm_w2 0 rfl rfl
theorem ww_329 : (Cond.methodLink "BagCounts" (53 : Nat) ({ cls := "BagCounts$Facts", name := "ask", desc := "(IIIIII)Z" } : Jvm.MethodName)) ∈ vm_WS := vm_w2 1 rfl rfl
theorem ww_330 : (Cond.instanceMethod ({ cls := "BagCounts$Facts", name := "ask", desc := "(IIIIII)Z" } : Jvm.MethodName)) ∈ vm_WS := vm_w2 2 rfl rfl
theorem ww_331 : (Cond.selects "BagCounts$Facts" ({ cls := "BagCounts$Facts", name := "ask", desc := "(IIIIII)Z" } : Jvm.MethodName) ({ cls := "BagCounts$Facts", name := "ask", desc := "(IIIIII)Z" } : Jvm.MethodName)) ∈ vm_WS := vm_w2 3 rfl rfl
theorem ww_332 : (Cond.code ({ cls := "BagCounts$Facts", name := "ask", desc := "(IIIIII)Z" } : Jvm.MethodName) prog_2_method_6_code (8 : Nat) (Option.some Jvm.ClassFile.FieldType.boolean)) ∈ vm_WS := vm_w2 4 rfl rfl
theorem ww_333 : (Cond.methodLink "BagCounts$Facts" (26 : Nat) ({ cls := "BagCounts$Facts", name := "isFact", desc := "(IIIIII)Z" } : Jvm.MethodName)) ∈ vm_WS := vm_w2 5 rfl rfl
theorem ww_334 : (Cond.static ({ cls := "BagCounts$Facts", name := "isFact", desc := "(IIIIII)Z" } : Jvm.MethodName)) ∈ vm_WS := vm_w2 6 rfl rfl
theorem ww_335 : (Cond.code ({ cls := "BagCounts$Facts", name := "isFact", desc := "(IIIIII)Z" } : Jvm.MethodName) prog_2_method_11_code (6 : Nat) (Option.some Jvm.ClassFile.FieldType.boolean)) ∈ vm_WS := vm_w2 7 rfl rfl
theorem ww_336 : (Cond.methodLinkNest "BagCounts$Facts" (44 : Nat) ({ cls := "BagCounts", name := "isBag", desc := "(I)Z" } : Jvm.MethodName) "BagCounts") ∈ vm_WN := vm_n2 8 rfl rfl
theorem ww_337 : (Cond.static ({ cls := "BagCounts", name := "isBag", desc := "(I)Z" } : Jvm.MethodName)) ∈ vm_WS := vm_w2 9 rfl rfl
theorem ww_338 : (Cond.code ({ cls := "BagCounts", name := "isBag", desc := "(I)Z" } : Jvm.MethodName) prog_1_method_25_code (1 : Nat) (Option.some Jvm.ClassFile.FieldType.boolean)) ∈ vm_WS := vm_w2 10 rfl rfl
theorem ww_339 : (Cond.methodLinkNest "BagCounts$Facts" (47 : Nat) ({ cls := "BagCounts", name := "isKind", desc := "(I)Z" } : Jvm.MethodName) "BagCounts") ∈ vm_WN := vm_n2 11 rfl rfl
theorem ww_340 : (Cond.static ({ cls := "BagCounts", name := "isKind", desc := "(I)Z" } : Jvm.MethodName)) ∈ vm_WS := vm_w2 12 rfl rfl
theorem ww_341 : (Cond.code ({ cls := "BagCounts", name := "isKind", desc := "(I)Z" } : Jvm.MethodName) prog_1_method_26_code (1 : Nat) (Option.some Jvm.ClassFile.FieldType.boolean)) ∈ vm_WS := vm_w2 13 rfl rfl
theorem ww_342 : (Cond.methodLink "BagCounts$Facts" (50 : Nat) ({ cls := "BagCounts$Facts", name := "isRange", desc := "(III)Z" } : Jvm.MethodName)) ∈ vm_WS := vm_w2 14 rfl rfl
theorem ww_343 : (Cond.static ({ cls := "BagCounts$Facts", name := "isRange", desc := "(III)Z" } : Jvm.MethodName)) ∈ vm_WS := vm_w2 15 rfl rfl
theorem ww_344 : (Cond.code ({ cls := "BagCounts$Facts", name := "isRange", desc := "(III)Z" } : Jvm.MethodName) prog_2_method_12_code (3 : Nat) (Option.some Jvm.ClassFile.FieldType.boolean)) ∈ vm_WS := vm_w2 16 rfl rfl
theorem ww_345 : (Cond.methodLinkNest "BagCounts$Facts" (22 : Nat) ({ cls := "BagCounts", name := "isWithin", desc := "(III)Z" } : Jvm.MethodName) "BagCounts") ∈ vm_WN := vm_n2 17 rfl rfl
theorem ww_346 : (Cond.methodLink "BagCounts" (57 : Nat) ({ cls := "BagCounts$Facts", name := "isFull", desc := "()Z" } : Jvm.MethodName)) ∈ vm_WS := vm_w2 18 rfl rfl
theorem ww_347 : (Cond.instanceMethod ({ cls := "BagCounts$Facts", name := "isFull", desc := "()Z" } : Jvm.MethodName)) ∈ vm_WS := vm_w2 19 rfl rfl
theorem ww_348 : (Cond.selects "BagCounts$Facts" ({ cls := "BagCounts$Facts", name := "isFull", desc := "()Z" } : Jvm.MethodName) ({ cls := "BagCounts$Facts", name := "isFull", desc := "()Z" } : Jvm.MethodName)) ∈ vm_WS := vm_w2 20 rfl rfl
theorem ww_349 : (Cond.code ({ cls := "BagCounts$Facts", name := "isFull", desc := "()Z" } : Jvm.MethodName) prog_2_method_3_code (1 : Nat) (Option.some Jvm.ClassFile.FieldType.boolean)) ∈ vm_WS := vm_w2 21 rfl rfl
theorem ww_350 : (Cond.methodLink "BagCounts" (61 : Nat) ({ cls := "BagCounts$Facts", name := "keepAsked", desc := "()I" } : Jvm.MethodName)) ∈ vm_WS := vm_w2 22 rfl rfl
theorem ww_351 : (Cond.instanceMethod ({ cls := "BagCounts$Facts", name := "keepAsked", desc := "()I" } : Jvm.MethodName)) ∈ vm_WS := vm_w2 23 rfl rfl
theorem ww_352 : (Cond.selects "BagCounts$Facts" ({ cls := "BagCounts$Facts", name := "keepAsked", desc := "()I" } : Jvm.MethodName) ({ cls := "BagCounts$Facts", name := "keepAsked", desc := "()I" } : Jvm.MethodName)) ∈ vm_WS := vm_w2 24 rfl rfl
theorem ww_353 : (Cond.code ({ cls := "BagCounts$Facts", name := "keepAsked", desc := "()I" } : Jvm.MethodName) prog_2_method_7_code (1 : Nat) (Option.some Jvm.ClassFile.FieldType.int)) ∈ vm_WS := vm_w2 25 rfl rfl
theorem ww_354 : (Cond.methodLink "BagCounts$Facts" (30 : Nat) ({ cls := "BagCounts$Facts", name := "isFull", desc := "()Z" } : Jvm.MethodName)) ∈ vm_WS := vm_w2 26 rfl rfl
theorem ww_355 : (Cond.methodLink "BagCountsLaw" (23 : Nat) ({ cls := "BagCounts", name := "drop", desc := "(I)I" } : Jvm.MethodName)) ∈ vm_WS := vm_w2 27 rfl rfl
theorem ww_356 : (Cond.instanceMethod ({ cls := "BagCounts", name := "drop", desc := "(I)I" } : Jvm.MethodName)) ∈ vm_WS := vm_w2 28 rfl rfl
theorem ww_357 : (Cond.selects "BagCounts" ({ cls := "BagCounts", name := "drop", desc := "(I)I" } : Jvm.MethodName) ({ cls := "BagCounts", name := "drop", desc := "(I)I" } : Jvm.MethodName)) ∈ vm_WS := vm_w2 29 rfl rfl
theorem ww_358 : (Cond.code ({ cls := "BagCounts", name := "drop", desc := "(I)I" } : Jvm.MethodName) prog_1_method_4_code (2 : Nat) (Option.some Jvm.ClassFile.FieldType.int)) ∈ vm_WS := vm_w2 30 rfl rfl
theorem ww_359 : (Cond.methodLink "BagCounts" (65 : Nat) ({ cls := "BagCounts$Facts", name := "has", desc := "(I)Z" } : Jvm.MethodName)) ∈ vm_WS := vm_w2 31 rfl rfl
theorem ww_360 : (Cond.instanceMethod ({ cls := "BagCounts$Facts", name := "has", desc := "(I)Z" } : Jvm.MethodName)) ∈ vm_WS := vm_w2 32 rfl rfl
theorem ww_361 : (Cond.selects "BagCounts$Facts" ({ cls := "BagCounts$Facts", name := "has", desc := "(I)Z" } : Jvm.MethodName) ({ cls := "BagCounts$Facts", name := "has", desc := "(I)Z" } : Jvm.MethodName)) ∈ vm_WS := vm_w2 33 rfl rfl
theorem ww_362 : (Cond.code ({ cls := "BagCounts$Facts", name := "has", desc := "(I)Z" } : Jvm.MethodName) prog_2_method_2_code (2 : Nat) (Option.some Jvm.ClassFile.FieldType.boolean)) ∈ vm_WS := vm_w2 34 rfl rfl
theorem ww_363 : (Cond.methodLink "BagCounts" (69 : Nat) ({ cls := "BagCounts$Facts", name := "remove", desc := "(I)V" } : Jvm.MethodName)) ∈ vm_WS := vm_w2 35 rfl rfl
theorem ww_364 : (Cond.instanceMethod ({ cls := "BagCounts$Facts", name := "remove", desc := "(I)V" } : Jvm.MethodName)) ∈ vm_WS := vm_w2 36 rfl rfl
theorem ww_365 : (Cond.selects "BagCounts$Facts" ({ cls := "BagCounts$Facts", name := "remove", desc := "(I)V" } : Jvm.MethodName) ({ cls := "BagCounts$Facts", name := "remove", desc := "(I)V" } : Jvm.MethodName)) ∈ vm_WS := vm_w2 37 rfl rfl
theorem ww_366 : (Cond.code ({ cls := "BagCounts$Facts", name := "remove", desc := "(I)V" } : Jvm.MethodName) prog_2_method_8_code (3 : Nat) (Option.none : Option Jvm.ClassFile.FieldType)) ∈ vm_WS := vm_w2 38 rfl rfl
theorem ww_367 : (Cond.methodLink "BagCounts$Facts" (40 : Nat) ({ cls := "BagCounts$Facts", name := "has", desc := "(I)Z" } : Jvm.MethodName)) ∈ vm_WS := vm_w2 39 rfl rfl
theorem ww_368 : (Cond.methodLink "BagCountsLaw" (27 : Nat) ({ cls := "BagCounts", name := "ofFact", desc := "(II)I" } : Jvm.MethodName)) ∈ vm_WS := vm_w2 40 rfl rfl
theorem ww_369 : (Cond.instanceMethod ({ cls := "BagCounts", name := "ofFact", desc := "(II)I" } : Jvm.MethodName)) ∈ vm_WS := vm_w2 41 rfl rfl
theorem ww_370 : (Cond.selects "BagCounts" ({ cls := "BagCounts", name := "ofFact", desc := "(II)I" } : Jvm.MethodName) ({ cls := "BagCounts", name := "ofFact", desc := "(II)I" } : Jvm.MethodName)) ∈ vm_WS := vm_w2 42 rfl rfl
theorem ww_371 : (Cond.code ({ cls := "BagCounts", name := "ofFact", desc := "(II)I" } : Jvm.MethodName) prog_1_method_5_code (4 : Nat) (Option.some Jvm.ClassFile.FieldType.int)) ∈ vm_WS := vm_w2 43 rfl rfl
theorem ww_372 : (Cond.methodLink "BagCounts" (75 : Nat) ({ cls := "BagCounts$Facts", name := "number", desc := "(II)I" } : Jvm.MethodName)) ∈ vm_WS := vm_w2 44 rfl rfl
theorem ww_373 : (Cond.instanceMethod ({ cls := "BagCounts$Facts", name := "number", desc := "(II)I" } : Jvm.MethodName)) ∈ vm_WS := vm_w2 45 rfl rfl
theorem ww_374 : (Cond.selects "BagCounts$Facts" ({ cls := "BagCounts$Facts", name := "number", desc := "(II)I" } : Jvm.MethodName) ({ cls := "BagCounts$Facts", name := "number", desc := "(II)I" } : Jvm.MethodName)) ∈ vm_WS := vm_w2 46 rfl rfl
theorem ww_375 : (Cond.code ({ cls := "BagCounts$Facts", name := "number", desc := "(II)I" } : Jvm.MethodName) prog_2_method_5_code (3 : Nat) (Option.some Jvm.ClassFile.FieldType.int)) ∈ vm_WS := vm_w2 47 rfl rfl
theorem ww_376 : (Cond.methodLink "BagCountsLaw" (32 : Nat) ({ cls := "BagCounts", name := "count", desc := "(I)I" } : Jvm.MethodName)) ∈ vm_WS := vm_w2 48 rfl rfl
theorem ww_377 : (Cond.instanceMethod ({ cls := "BagCounts", name := "count", desc := "(I)I" } : Jvm.MethodName)) ∈ vm_WS := vm_w2 49 rfl rfl
theorem ww_378 : (Cond.selects "BagCounts" ({ cls := "BagCounts", name := "count", desc := "(I)I" } : Jvm.MethodName) ({ cls := "BagCounts", name := "count", desc := "(I)I" } : Jvm.MethodName)) ∈ vm_WS := vm_w2 50 rfl rfl
theorem ww_379 : (Cond.code ({ cls := "BagCounts", name := "count", desc := "(I)I" } : Jvm.MethodName) prog_1_method_6_code (2 : Nat) (Option.some Jvm.ClassFile.FieldType.int)) ∈ vm_WS := vm_w2 51 rfl rfl
theorem ww_380 : (Cond.methodLink "BagCountsLaw" (36 : Nat) ({ cls := "BagCounts", name := "isPossible", desc := "()I" } : Jvm.MethodName)) ∈ vm_WS := vm_w2 52 rfl rfl
theorem ww_381 : (Cond.instanceMethod ({ cls := "BagCounts", name := "isPossible", desc := "()I" } : Jvm.MethodName)) ∈ vm_WS := vm_w2 53 rfl rfl
theorem ww_382 : (Cond.selects "BagCounts" ({ cls := "BagCounts", name := "isPossible", desc := "()I" } : Jvm.MethodName) ({ cls := "BagCounts", name := "isPossible", desc := "()I" } : Jvm.MethodName)) ∈ vm_WS := vm_w2 54 rfl rfl
theorem ww_383 : (Cond.code ({ cls := "BagCounts", name := "isPossible", desc := "()I" } : Jvm.MethodName) prog_1_method_7_code (1 : Nat) (Option.some Jvm.ClassFile.FieldType.int)) ∈ vm_WS := vm_w2 55 rfl rfl
theorem ww_384 : (Cond.methodLink "BagCounts" (85 : Nat) ({ cls := "BagCounts$Facts", name := "all", desc := "()I" } : Jvm.MethodName)) ∈ vm_WS := vm_w2 56 rfl rfl
theorem ww_385 : (Cond.instanceMethod ({ cls := "BagCounts$Facts", name := "all", desc := "()I" } : Jvm.MethodName)) ∈ vm_WS := vm_w2 57 rfl rfl
theorem ww_386 : (Cond.selects "BagCounts$Facts" ({ cls := "BagCounts$Facts", name := "all", desc := "()I" } : Jvm.MethodName) ({ cls := "BagCounts$Facts", name := "all", desc := "()I" } : Jvm.MethodName)) ∈ vm_WS := vm_w2 58 rfl rfl
theorem ww_387 : (Cond.code ({ cls := "BagCounts$Facts", name := "all", desc := "()I" } : Jvm.MethodName) prog_2_method_4_code (1 : Nat) (Option.some Jvm.ClassFile.FieldType.int)) ∈ vm_WS := vm_w2 59 rfl rfl
theorem ww_388 : (Cond.methodLink "BagCounts" (88 : Nat) ({ cls := "BagCounts$Logic", name := "canHold", desc := "(LBagCounts$Facts;I)Z" } : Jvm.MethodName)) ∈ vm_WS := vm_w2 60 rfl rfl
theorem ww_389 : (Cond.instanceMethod ({ cls := "BagCounts$Logic", name := "canHold", desc := "(LBagCounts$Facts;I)Z" } : Jvm.MethodName)) ∈ vm_WS := vm_w2 61 rfl rfl
theorem ww_390 : (Cond.selects "BagCounts$Logic" ({ cls := "BagCounts$Logic", name := "canHold", desc := "(LBagCounts$Facts;I)Z" } : Jvm.MethodName) ({ cls := "BagCounts$Logic", name := "canHold", desc := "(LBagCounts$Facts;I)Z" } : Jvm.MethodName)) ∈ vm_WS := vm_w2 62 rfl rfl
theorem ww_391 : (Cond.code ({ cls := "BagCounts$Logic", name := "canHold", desc := "(LBagCounts$Facts;I)Z" } : Jvm.MethodName) prog_4_method_2_code (3 : Nat) (Option.some Jvm.ClassFile.FieldType.boolean)) ∈ vm_WS := vm_w2 63 rfl rfl
theorem ww_392 : (Cond.methodLink "BagCounts$Logic" (25 : Nat) ({ cls := "BagCounts$Logic", name := "load", desc := "(LBagCounts$Facts;IZ)V" } : Jvm.MethodName)) ∈ vm_WS := vm_w2 64 rfl rfl
theorem ww_394 : (Cond.instanceMethod ({ cls := "BagCounts$Logic", name := "load", desc := "(LBagCounts$Facts;IZ)V" } : Jvm.MethodName)) ∈ vm_WS := vm_w2 66 rfl rfl
theorem ww_395 : (Cond.code ({ cls := "BagCounts$Logic", name := "load", desc := "(LBagCounts$Facts;IZ)V" } : Jvm.MethodName) prog_4_method_7_code (6 : Nat) (Option.none : Option Jvm.ClassFile.FieldType)) ∈ vm_WS := vm_w2 67 rfl rfl
theorem ww_396 : (Cond.methodLink "BagCounts$Logic" (73 : Nat) ({ cls := "BagCounts$Logic", name := "hasSizeFact", desc := "(LBagCounts$Facts;I)Z" } : Jvm.MethodName)) ∈ vm_WS := vm_w2 68 rfl rfl
theorem ww_398 : (Cond.instanceMethod ({ cls := "BagCounts$Logic", name := "hasSizeFact", desc := "(LBagCounts$Facts;I)Z" } : Jvm.MethodName)) ∈ vm_WS := vm_w2 70 rfl rfl
theorem ww_399 : (Cond.code ({ cls := "BagCounts$Logic", name := "hasSizeFact", desc := "(LBagCounts$Facts;I)Z" } : Jvm.MethodName) prog_4_method_8_code (4 : Nat) (Option.some Jvm.ClassFile.FieldType.boolean)) ∈ vm_WS := vm_w2 71 rfl rfl
theorem ww_400 : (Cond.methodLink "BagCounts$Logic" (35 : Nat) ({ cls := "BagCounts$Facts", name := "number", desc := "(II)I" } : Jvm.MethodName)) ∈ vm_WS := vm_w2 72 rfl rfl
theorem ww_401 : (Cond.methodLink "BagCounts$Logic" (81 : Nat) ({ cls := "BagCounts$Search", name := "begin", desc := "(IZ)V" } : Jvm.MethodName)) ∈ vm_WS := vm_w2 73 rfl rfl
theorem ww_402 : (Cond.instanceMethod ({ cls := "BagCounts$Search", name := "begin", desc := "(IZ)V" } : Jvm.MethodName)) ∈ vm_WS := vm_w2 74 rfl rfl
theorem ww_403 : (Cond.selects "BagCounts$Search" ({ cls := "BagCounts$Search", name := "begin", desc := "(IZ)V" } : Jvm.MethodName) ({ cls := "BagCounts$Search", name := "begin", desc := "(IZ)V" } : Jvm.MethodName)) ∈ vm_WS := vm_w2 75 rfl rfl
theorem ww_404 : (Cond.code ({ cls := "BagCounts$Search", name := "begin", desc := "(IZ)V" } : Jvm.MethodName) prog_7_method_3_code (4 : Nat) (Option.none : Option Jvm.ClassFile.FieldType)) ∈ vm_WS := vm_w2 76 rfl rfl
theorem ww_405 : (Cond.methodLink "BagCounts$Search" (25 : Nat) ({ cls := "BagCounts$Rules", name := "clear", desc := "()V" } : Jvm.MethodName)) ∈ vm_WS := vm_w2 77 rfl rfl
theorem ww_406 : (Cond.instanceMethod ({ cls := "BagCounts$Rules", name := "clear", desc := "()V" } : Jvm.MethodName)) ∈ vm_WS := vm_w2 78 rfl rfl
theorem ww_407 : (Cond.selects "BagCounts$Rules" ({ cls := "BagCounts$Rules", name := "clear", desc := "()V" } : Jvm.MethodName) ({ cls := "BagCounts$Rules", name := "clear", desc := "()V" } : Jvm.MethodName)) ∈ vm_WS := vm_w2 79 rfl rfl
theorem ww_408 : (Cond.code ({ cls := "BagCounts$Rules", name := "clear", desc := "()V" } : Jvm.MethodName) prog_6_method_2_code (2 : Nat) (Option.none : Option Jvm.ClassFile.FieldType)) ∈ vm_WS := vm_w2 80 rfl rfl
theorem ww_409 : (Cond.methodLink "BagCounts$Search" (32 : Nat) ({ cls := "BagCounts$Rules", name := "total", desc := "(I)V" } : Jvm.MethodName)) ∈ vm_WS := vm_w2 81 rfl rfl
theorem ww_410 : (Cond.instanceMethod ({ cls := "BagCounts$Rules", name := "total", desc := "(I)V" } : Jvm.MethodName)) ∈ vm_WS := vm_w2 82 rfl rfl
theorem ww_411 : (Cond.selects "BagCounts$Rules" ({ cls := "BagCounts$Rules", name := "total", desc := "(I)V" } : Jvm.MethodName) ({ cls := "BagCounts$Rules", name := "total", desc := "(I)V" } : Jvm.MethodName)) ∈ vm_WS := vm_w2 83 rfl rfl
theorem ww_412 : (Cond.code ({ cls := "BagCounts$Rules", name := "total", desc := "(I)V" } : Jvm.MethodName) prog_6_method_3_code (3 : Nat) (Option.none : Option Jvm.ClassFile.FieldType)) ∈ vm_WS := vm_w2 84 rfl rfl
theorem ww_413 : (Cond.methodLink "BagCounts$Rules" (42 : Nat) ({ cls := "BagCounts$Rules", name := "open", desc := "(III)V" } : Jvm.MethodName)) ∈ vm_WS := vm_w2 85 rfl rfl
theorem ww_415 : (Cond.instanceMethod ({ cls := "BagCounts$Rules", name := "open", desc := "(III)V" } : Jvm.MethodName)) ∈ vm_WS := vm_w2 87 rfl rfl
theorem ww_416 : (Cond.code ({ cls := "BagCounts$Rules", name := "open", desc := "(III)V" } : Jvm.MethodName) prog_6_method_7_code (4 : Nat) (Option.none : Option Jvm.ClassFile.FieldType)) ∈ vm_WS := vm_w2 88 rfl rfl
theorem ww_417 : (Cond.methodLink "BagCounts$Rules" (46 : Nat) ({ cls := "BagCounts$Search", name := "variable", desc := "(II)I" } : Jvm.MethodName)) ∈ vm_WS := vm_w2 89 rfl rfl
theorem ww_418 : (Cond.static ({ cls := "BagCounts$Search", name := "variable", desc := "(II)I" } : Jvm.MethodName)) ∈ vm_WS := vm_w2 90 rfl rfl
theorem ww_419 : (Cond.code ({ cls := "BagCounts$Search", name := "variable", desc := "(II)I" } : Jvm.MethodName) prog_7_method_2_code (2 : Nat) (Option.some Jvm.ClassFile.FieldType.int)) ∈ vm_WS := vm_w2 91 rfl rfl
theorem ww_420 : (Cond.methodLink "BagCounts$Rules" (49 : Nat) ({ cls := "BagCounts$Rules", name := "plus", desc := "(II)V" } : Jvm.MethodName)) ∈ vm_WS := vm_w2 92 rfl rfl
theorem ww_422 : (Cond.instanceMethod ({ cls := "BagCounts$Rules", name := "plus", desc := "(II)V" } : Jvm.MethodName)) ∈ vm_WS := vm_w2 94 rfl rfl
theorem ww_423 : (Cond.code ({ cls := "BagCounts$Rules", name := "plus", desc := "(II)V" } : Jvm.MethodName) prog_6_method_8_code (5 : Nat) (Option.none : Option Jvm.ClassFile.FieldType)) ∈ vm_WS := vm_w2 95 rfl rfl
theorem ww_424 : (Cond.methodLink "BagCounts$Rules" (53 : Nat) ({ cls := "BagCounts$Rules", name := "addTerm", desc := "(II)V" } : Jvm.MethodName)) ∈ vm_WS := vm_w2 96 rfl rfl
theorem ww_426 : (Cond.instanceMethod ({ cls := "BagCounts$Rules", name := "addTerm", desc := "(II)V" } : Jvm.MethodName)) ∈ vm_WS := vm_w2 98 rfl rfl
theorem ww_427 : (Cond.code ({ cls := "BagCounts$Rules", name := "addTerm", desc := "(II)V" } : Jvm.MethodName) prog_6_method_9_code (5 : Nat) (Option.none : Option Jvm.ClassFile.FieldType)) ∈ vm_WS := vm_w2 99 rfl rfl
theorem ww_428 : (Cond.methodLink "BagCounts$Logic" (85 : Nat) ({ cls := "BagCounts$Gaps", name := "close", desc := "(LBagCounts$Facts;I)V" } : Jvm.MethodName)) ∈ vm_WS := vm_w2 100 rfl rfl
theorem ww_429 : (Cond.instanceMethod ({ cls := "BagCounts$Gaps", name := "close", desc := "(LBagCounts$Facts;I)V" } : Jvm.MethodName)) ∈ vm_WS := vm_w2 101 rfl rfl
theorem ww_430 : (Cond.selects "BagCounts$Gaps" ({ cls := "BagCounts$Gaps", name := "close", desc := "(LBagCounts$Facts;I)V" } : Jvm.MethodName) ({ cls := "BagCounts$Gaps", name := "close", desc := "(LBagCounts$Facts;I)V" } : Jvm.MethodName)) ∈ vm_WS := vm_w2 102 rfl rfl
theorem ww_431 : (Cond.code ({ cls := "BagCounts$Gaps", name := "close", desc := "(LBagCounts$Facts;I)V" } : Jvm.MethodName) prog_3_method_2_code (5 : Nat) (Option.none : Option Jvm.ClassFile.FieldType)) ∈ vm_WS := vm_w2 103 rfl rfl
theorem ww_432 : (Cond.methodLink "BagCounts$Gaps" (26 : Nat) ({ cls := "BagCounts$Gaps", name := "apply", desc := "(LBagCounts$Facts;I)V" } : Jvm.MethodName)) ∈ vm_WS := vm_w2 104 rfl rfl
theorem ww_434 : (Cond.instanceMethod ({ cls := "BagCounts$Gaps", name := "apply", desc := "(LBagCounts$Facts;I)V" } : Jvm.MethodName)) ∈ vm_WS := vm_w2 106 rfl rfl
theorem ww_435 : (Cond.code ({ cls := "BagCounts$Gaps", name := "apply", desc := "(LBagCounts$Facts;I)V" } : Jvm.MethodName) prog_3_method_7_code (9 : Nat) (Option.none : Option Jvm.ClassFile.FieldType)) ∈ vm_WS := vm_w2 107 rfl rfl
theorem ww_436 : (Cond.methodLink "BagCounts$Gaps" (54 : Nat) ({ cls := "BagCounts$Facts", name := "number", desc := "(II)I" } : Jvm.MethodName)) ∈ vm_WS := vm_w2 108 rfl rfl
theorem ww_437 : (Cond.methodLink "BagCounts$Gaps" (50 : Nat) ({ cls := "BagCounts$Gaps", name := "narrow", desc := "(IIII)V" } : Jvm.MethodName)) ∈ vm_WS := vm_w2 109 rfl rfl
theorem ww_439 : (Cond.instanceMethod ({ cls := "BagCounts$Gaps", name := "narrow", desc := "(IIII)V" } : Jvm.MethodName)) ∈ vm_WS := vm_w2 111 rfl rfl
theorem ww_440 : (Cond.code ({ cls := "BagCounts$Gaps", name := "narrow", desc := "(IIII)V" } : Jvm.MethodName) prog_3_method_5_code (6 : Nat) (Option.none : Option Jvm.ClassFile.FieldType)) ∈ vm_WS := vm_w2 112 rfl rfl
theorem ww_441 : (Cond.methodLink "BagCounts$Gaps" (34 : Nat) ({ cls := "BagCounts$Gaps", name := "of", desc := "(III)I" } : Jvm.MethodName)) ∈ vm_WS := vm_w2 113 rfl rfl
theorem ww_443 : (Cond.instanceMethod ({ cls := "BagCounts$Gaps", name := "of", desc := "(III)I" } : Jvm.MethodName)) ∈ vm_WS := vm_w2 115 rfl rfl
theorem ww_444 : (Cond.code ({ cls := "BagCounts$Gaps", name := "of", desc := "(III)I" } : Jvm.MethodName) prog_3_method_4_code (4 : Nat) (Option.some Jvm.ClassFile.FieldType.int)) ∈ vm_WS := vm_w2 116 rfl rfl
theorem ww_445 : (Cond.methodLink "BagCounts$Gaps" (57 : Nat) ({ cls := "java/lang/Math", name := "max", desc := "(II)I" } : Jvm.MethodName)) ∈ vm_WS := vm_w2 117 rfl rfl
theorem ww_446 : (Cond.static ({ cls := "java/lang/Math", name := "max", desc := "(II)I" } : Jvm.MethodName)) ∈ vm_WS := vm_w2 118 rfl rfl
theorem ww_447 : (Cond.code ({ cls := "java/lang/Math", name := "max", desc := "(II)I" } : Jvm.MethodName) prog_11_method_65_code (2 : Nat) (Option.some Jvm.ClassFile.FieldType.int)) ∈ vm_WS := vm_w2 119 rfl rfl
theorem ww_448 : (Cond.methodLink "BagCounts$Gaps" (30 : Nat) ({ cls := "BagCounts$Gaps", name := "chain", desc := "(I)V" } : Jvm.MethodName)) ∈ vm_WS := vm_w2 120 rfl rfl
theorem ww_450 : (Cond.instanceMethod ({ cls := "BagCounts$Gaps", name := "chain", desc := "(I)V" } : Jvm.MethodName)) ∈ vm_WS := vm_w2 122 rfl rfl
theorem ww_451 : (Cond.code ({ cls := "BagCounts$Gaps", name := "chain", desc := "(I)V" } : Jvm.MethodName) prog_3_method_6_code (5 : Nat) (Option.none : Option Jvm.ClassFile.FieldType)) ∈ vm_WS := vm_w2 123 rfl rfl
theorem ww_452 : (Cond.methodLink "BagCounts$Logic" (93 : Nat) ({ cls := "BagCounts$Gaps", name := "addTo", desc := "(LBagCounts$Rules;Z)V" } : Jvm.MethodName)) ∈ vm_WS := vm_w2 124 rfl rfl
theorem ww_453 : (Cond.instanceMethod ({ cls := "BagCounts$Gaps", name := "addTo", desc := "(LBagCounts$Rules;Z)V" } : Jvm.MethodName)) ∈ vm_WS := vm_w2 125 rfl rfl
theorem ww_454 : (Cond.selects "BagCounts$Gaps" ({ cls := "BagCounts$Gaps", name := "addTo", desc := "(LBagCounts$Rules;Z)V" } : Jvm.MethodName) ({ cls := "BagCounts$Gaps", name := "addTo", desc := "(LBagCounts$Rules;Z)V" } : Jvm.MethodName)) ∈ vm_WS := vm_w2 126 rfl rfl
theorem ww_455 : (Cond.code ({ cls := "BagCounts$Gaps", name := "addTo", desc := "(LBagCounts$Rules;Z)V" } : Jvm.MethodName) prog_3_method_3_code (8 : Nat) (Option.none : Option Jvm.ClassFile.FieldType)) ∈ vm_WS := vm_w2 127 rfl rfl
theorem ww_456 : (Cond.methodLink "BagCounts$Gaps" (38 : Nat) ({ cls := "BagCounts$Search", name := "variable", desc := "(II)I" } : Jvm.MethodName)) ∈ vm_WS := vm_w2 128 rfl rfl
theorem ww_457 : (Cond.methodLink "BagCounts$Gaps" (44 : Nat) ({ cls := "BagCounts$Rules", name := "difference", desc := "(III)V" } : Jvm.MethodName)) ∈ vm_WS := vm_w2 129 rfl rfl
theorem ww_458 : (Cond.instanceMethod ({ cls := "BagCounts$Rules", name := "difference", desc := "(III)V" } : Jvm.MethodName)) ∈ vm_WS := vm_w2 130 rfl rfl
theorem ww_459 : (Cond.selects "BagCounts$Rules" ({ cls := "BagCounts$Rules", name := "difference", desc := "(III)V" } : Jvm.MethodName) ({ cls := "BagCounts$Rules", name := "difference", desc := "(III)V" } : Jvm.MethodName)) ∈ vm_WS := vm_w2 131 rfl rfl
theorem ww_460 : (Cond.code ({ cls := "BagCounts$Rules", name := "difference", desc := "(III)V" } : Jvm.MethodName) prog_6_method_4_code (4 : Nat) (Option.none : Option Jvm.ClassFile.FieldType)) ∈ vm_WS := vm_w2 132 rfl rfl
theorem ww_461 : (Cond.methodLink "BagCounts$Logic" (97 : Nat) ({ cls := "BagCounts$Logic", name := "addFact", desc := "(LBagCounts$Facts;IZ)V" } : Jvm.MethodName)) ∈ vm_WS := vm_w2 133 rfl rfl
theorem ww_463 : (Cond.instanceMethod ({ cls := "BagCounts$Logic", name := "addFact", desc := "(LBagCounts$Facts;IZ)V" } : Jvm.MethodName)) ∈ vm_WS := vm_w2 135 rfl rfl
theorem ww_464 : (Cond.code ({ cls := "BagCounts$Logic", name := "addFact", desc := "(LBagCounts$Facts;IZ)V" } : Jvm.MethodName) prog_4_method_9_code (10 : Nat) (Option.none : Option Jvm.ClassFile.FieldType)) ∈ vm_WS := vm_w2 136 rfl rfl
theorem ww_465 : (Cond.methodLink "BagCounts$Logic" (100 : Nat) ({ cls := "BagCounts$Search", name := "variable", desc := "(II)I" } : Jvm.MethodName)) ∈ vm_WS := vm_w2 137 rfl rfl
theorem ww_466 : (Cond.methodLink "BagCounts$Logic" (103 : Nat) ({ cls := "BagCounts$Search", name := "restrict", desc := "(III)V" } : Jvm.MethodName)) ∈ vm_WS := vm_w2 138 rfl rfl
theorem ww_467 : (Cond.instanceMethod ({ cls := "BagCounts$Search", name := "restrict", desc := "(III)V" } : Jvm.MethodName)) ∈ vm_WS := vm_w2 139 rfl rfl
theorem ww_468 : (Cond.selects "BagCounts$Search" ({ cls := "BagCounts$Search", name := "restrict", desc := "(III)V" } : Jvm.MethodName) ({ cls := "BagCounts$Search", name := "restrict", desc := "(III)V" } : Jvm.MethodName)) ∈ vm_WS := vm_w2 140 rfl rfl
theorem ww_469 : (Cond.code ({ cls := "BagCounts$Search", name := "restrict", desc := "(III)V" } : Jvm.MethodName) prog_7_method_4_code (4 : Nat) (Option.none : Option Jvm.ClassFile.FieldType)) ∈ vm_WS := vm_w2 141 rfl rfl
theorem ww_470 : (Cond.methodLinkNest "BagCounts$Search" (36 : Nat) ({ cls := "BagCounts", name := "isWithin", desc := "(III)Z" } : Jvm.MethodName) "BagCounts") ∈ vm_WN := vm_n2 142 rfl rfl
theorem ww_471 : (Cond.methodLink "BagCounts$Search" (40 : Nat) ({ cls := "java/lang/Math", name := "max", desc := "(II)I" } : Jvm.MethodName)) ∈ vm_WS := vm_w2 143 rfl rfl
theorem ww_472 : (Cond.methodLink "BagCounts$Search" (46 : Nat) ({ cls := "java/lang/Math", name := "min", desc := "(II)I" } : Jvm.MethodName)) ∈ vm_WS := vm_w2 144 rfl rfl
theorem ww_473 : (Cond.static ({ cls := "java/lang/Math", name := "min", desc := "(II)I" } : Jvm.MethodName)) ∈ vm_WS := vm_w2 145 rfl rfl
theorem ww_474 : (Cond.code ({ cls := "java/lang/Math", name := "min", desc := "(II)I" } : Jvm.MethodName) prog_11_method_69_code (2 : Nat) (Option.some Jvm.ClassFile.FieldType.int)) ∈ vm_WS := vm_w2 146 rfl rfl
theorem ww_475 : (Cond.methodLink "BagCounts$Logic" (107 : Nat) ({ cls := "BagCounts$Rules", name := "difference", desc := "(III)V" } : Jvm.MethodName)) ∈ vm_WS := vm_w2 147 rfl rfl
theorem ww_476 : (Cond.methodLink "BagCounts$Logic" (112 : Nat) ({ cls := "BagCounts$Logic", name := "addColumn", desc := "(IIIII)V" } : Jvm.MethodName)) ∈ vm_WS := vm_w2 148 rfl rfl
theorem ww_478 : (Cond.instanceMethod ({ cls := "BagCounts$Logic", name := "addColumn", desc := "(IIIII)V" } : Jvm.MethodName)) ∈ vm_WS := vm_w2 150 rfl rfl
theorem ww_479 : (Cond.code ({ cls := "BagCounts$Logic", name := "addColumn", desc := "(IIIII)V" } : Jvm.MethodName) prog_4_method_10_code (9 : Nat) (Option.none : Option Jvm.ClassFile.FieldType)) ∈ vm_WS := vm_w2 151 rfl rfl
theorem ww_480 : (Cond.methodLink "BagCounts$Logic" (116 : Nat) ({ cls := "BagCounts$Rules", name := "sum", desc := "(IIIII)V" } : Jvm.MethodName)) ∈ vm_WS := vm_w2 152 rfl rfl
theorem ww_481 : (Cond.instanceMethod ({ cls := "BagCounts$Rules", name := "sum", desc := "(IIIII)V" } : Jvm.MethodName)) ∈ vm_WS := vm_w2 153 rfl rfl
theorem ww_482 : (Cond.selects "BagCounts$Rules" ({ cls := "BagCounts$Rules", name := "sum", desc := "(IIIII)V" } : Jvm.MethodName) ({ cls := "BagCounts$Rules", name := "sum", desc := "(IIIII)V" } : Jvm.MethodName)) ∈ vm_WS := vm_w2 154 rfl rfl
theorem ww_483 : (Cond.code ({ cls := "BagCounts$Rules", name := "sum", desc := "(IIIII)V" } : Jvm.MethodName) prog_6_method_5_code (6 : Nat) (Option.none : Option Jvm.ClassFile.FieldType)) ∈ vm_WS := vm_w2 155 rfl rfl
theorem ww_484 : (Cond.methodLink "BagCounts$Logic" (119 : Nat) ({ cls := "BagCounts$Rules", name := "choice", desc := "(IIII)V" } : Jvm.MethodName)) ∈ vm_WS := vm_w2 156 rfl rfl
theorem ww_485 : (Cond.instanceMethod ({ cls := "BagCounts$Rules", name := "choice", desc := "(IIII)V" } : Jvm.MethodName)) ∈ vm_WS := vm_w2 157 rfl rfl
theorem ww_486 : (Cond.selects "BagCounts$Rules" ({ cls := "BagCounts$Rules", name := "choice", desc := "(IIII)V" } : Jvm.MethodName) ({ cls := "BagCounts$Rules", name := "choice", desc := "(IIII)V" } : Jvm.MethodName)) ∈ vm_WS := vm_w2 158 rfl rfl
theorem ww_487 : (Cond.code ({ cls := "BagCounts$Rules", name := "choice", desc := "(IIII)V" } : Jvm.MethodName) prog_6_method_6_code (5 : Nat) (Option.none : Option Jvm.ClassFile.FieldType)) ∈ vm_WS := vm_w2 159 rfl rfl
theorem ww_488 : (Cond.methodLink "BagCounts$Logic" (29 : Nat) ({ cls := "BagCounts$Search", name := "howMany", desc := "(I)I" } : Jvm.MethodName)) ∈ vm_WS := vm_w2 160 rfl rfl
theorem ww_489 : (Cond.instanceMethod ({ cls := "BagCounts$Search", name := "howMany", desc := "(I)I" } : Jvm.MethodName)) ∈ vm_WS := vm_w2 161 rfl rfl
theorem ww_490 : (Cond.selects "BagCounts$Search" ({ cls := "BagCounts$Search", name := "howMany", desc := "(I)I" } : Jvm.MethodName) ({ cls := "BagCounts$Search", name := "howMany", desc := "(I)I" } : Jvm.MethodName)) ∈ vm_WS := vm_w2 162 rfl rfl
theorem ww_491 : (Cond.code ({ cls := "BagCounts$Search", name := "howMany", desc := "(I)I" } : Jvm.MethodName) prog_7_method_7_code (2 : Nat) (Option.some Jvm.ClassFile.FieldType.int)) ∈ vm_WS := vm_w2 163 rfl rfl
theorem ww_492 : (Cond.methodLink "BagCounts$Search" (58 : Nat) ({ cls := "BagCounts$Search", name := "settleAll", desc := "()Z" } : Jvm.MethodName)) ∈ vm_WS := vm_w2 164 rfl rfl
theorem ww_493 : (Cond.instanceMethod ({ cls := "BagCounts$Search", name := "settleAll", desc := "()Z" } : Jvm.MethodName)) ∈ vm_WS := vm_w2 165 rfl rfl
theorem ww_494 : (Cond.selects "BagCounts$Search" ({ cls := "BagCounts$Search", name := "settleAll", desc := "()Z" } : Jvm.MethodName) ({ cls := "BagCounts$Search", name := "settleAll", desc := "()Z" } : Jvm.MethodName)) ∈ vm_WS := vm_w2 166 rfl rfl
theorem ww_495 : (Cond.code ({ cls := "BagCounts$Search", name := "settleAll", desc := "()Z" } : Jvm.MethodName) prog_7_method_5_code (2 : Nat) (Option.some Jvm.ClassFile.FieldType.boolean)) ∈ vm_WS := vm_w2 167 rfl rfl
theorem ww_496 : (Cond.constant "BagCounts$Search" (49 : Nat) (65535 : Int32)) ∈ vm_WS := vm_w2 168 rfl rfl
theorem ww_497 : (Cond.methodLink "BagCounts$Search" (50 : Nat) ({ cls := "BagCounts$Search", name := "settle", desc := "(II)Z" } : Jvm.MethodName)) ∈ vm_WS := vm_w2 169 rfl rfl
theorem ww_499 : (Cond.instanceMethod ({ cls := "BagCounts$Search", name := "settle", desc := "(II)Z" } : Jvm.MethodName)) ∈ vm_WS := vm_w2 171 rfl rfl
theorem ww_500 : (Cond.code ({ cls := "BagCounts$Search", name := "settle", desc := "(II)Z" } : Jvm.MethodName) prog_7_method_15_code (7 : Nat) (Option.some Jvm.ClassFile.FieldType.boolean)) ∈ vm_WS := vm_w2 172 rfl rfl
theorem ww_501 : (Cond.methodLink "BagCounts$Search" (106 : Nat) ({ cls := "BagCounts$Search", name := "tightenLinear", desc := "(II)Z" } : Jvm.MethodName)) ∈ vm_WS := vm_w2 173 rfl rfl
theorem ww_503 : (Cond.instanceMethod ({ cls := "BagCounts$Search", name := "tightenLinear", desc := "(II)Z" } : Jvm.MethodName)) ∈ vm_WS := vm_w2 175 rfl rfl
theorem ww_504 : (Cond.code ({ cls := "BagCounts$Search", name := "tightenLinear", desc := "(II)Z" } : Jvm.MethodName) prog_7_method_16_code (11 : Nat) (Option.some Jvm.ClassFile.FieldType.boolean)) ∈ vm_WS := vm_w2 176 rfl rfl
theorem ww_505 : (Cond.methodLink "BagCounts$Search" (115 : Nat) ({ cls := "BagCounts$Search", name := "leastTerm", desc := "(II)I" } : Jvm.MethodName)) ∈ vm_WS := vm_w2 177 rfl rfl
theorem ww_507 : (Cond.instanceMethod ({ cls := "BagCounts$Search", name := "leastTerm", desc := "(II)I" } : Jvm.MethodName)) ∈ vm_WS := vm_w2 179 rfl rfl
theorem ww_508 : (Cond.code ({ cls := "BagCounts$Search", name := "leastTerm", desc := "(II)I" } : Jvm.MethodName) prog_7_method_19_code (4 : Nat) (Option.some Jvm.ClassFile.FieldType.int)) ∈ vm_WS := vm_w2 180 rfl rfl
theorem ww_509 : (Cond.methodLink "BagCounts$Search" (118 : Nat) ({ cls := "BagCounts$Search", name := "greatestTerm", desc := "(II)I" } : Jvm.MethodName)) ∈ vm_WS := vm_w2 181 rfl rfl
theorem ww_511 : (Cond.instanceMethod ({ cls := "BagCounts$Search", name := "greatestTerm", desc := "(II)I" } : Jvm.MethodName)) ∈ vm_WS := vm_w2 183 rfl rfl
theorem ww_512 : (Cond.code ({ cls := "BagCounts$Search", name := "greatestTerm", desc := "(II)I" } : Jvm.MethodName) prog_7_method_20_code (4 : Nat) (Option.some Jvm.ClassFile.FieldType.int)) ∈ vm_WS := vm_w2 184 rfl rfl
theorem ww_513 : (Cond.methodLink "BagCounts$Search" (129 : Nat) ({ cls := "BagCounts$Search", name := "keep", desc := "(IIII)Z" } : Jvm.MethodName)) ∈ vm_WS := vm_w2 185 rfl rfl
theorem ww_515 : (Cond.instanceMethod ({ cls := "BagCounts$Search", name := "keep", desc := "(IIII)Z" } : Jvm.MethodName)) ∈ vm_WS := vm_w2 187 rfl rfl
theorem ww_516 : (Cond.code ({ cls := "BagCounts$Search", name := "keep", desc := "(IIII)Z" } : Jvm.MethodName) prog_7_method_21_code (7 : Nat) (Option.some Jvm.ClassFile.FieldType.boolean)) ∈ vm_WS := vm_w2 188 rfl rfl
theorem ww_517 : (Cond.methodLink "BagCounts$Search" (109 : Nat) ({ cls := "BagCounts$Search", name := "tightenChoice", desc := "(II)Z" } : Jvm.MethodName)) ∈ vm_WS := vm_w2 189 rfl rfl
theorem ww_519 : (Cond.instanceMethod ({ cls := "BagCounts$Search", name := "tightenChoice", desc := "(II)Z" } : Jvm.MethodName)) ∈ vm_WS := vm_w2 191 rfl rfl
theorem ww_520 : (Cond.code ({ cls := "BagCounts$Search", name := "tightenChoice", desc := "(II)Z" } : Jvm.MethodName) prog_7_method_17_code (7 : Nat) (Option.some Jvm.ClassFile.FieldType.boolean)) ∈ vm_WS := vm_w2 192 rfl rfl
theorem ww_521 : (Cond.methodLink "BagCounts$Search" (62 : Nat) ({ cls := "BagCounts$Search", name := "waysFrom", desc := "(II)I" } : Jvm.MethodName)) ∈ vm_WS := vm_w2 193 rfl rfl
theorem ww_523 : (Cond.instanceMethod ({ cls := "BagCounts$Search", name := "waysFrom", desc := "(II)I" } : Jvm.MethodName)) ∈ vm_WS := vm_w2 195 rfl rfl
theorem ww_524 : (Cond.code ({ cls := "BagCounts$Search", name := "waysFrom", desc := "(II)I" } : Jvm.MethodName) prog_7_method_9_code (4 : Nat) (Option.some Jvm.ClassFile.FieldType.int)) ∈ vm_WS := vm_w2 196 rfl rfl
theorem ww_525 : (Cond.methodLink "BagCounts$Search" (68 : Nat) ({ cls := "BagCounts$Search", name := "ways", desc := "(LBagCounts$Search;III)I" } : Jvm.MethodName)) ∈ vm_WS := vm_w2 197 rfl rfl
theorem ww_526 : (Cond.static ({ cls := "BagCounts$Search", name := "ways", desc := "(LBagCounts$Search;III)I" } : Jvm.MethodName)) ∈ vm_WS := vm_w2 198 rfl rfl
theorem ww_527 : (Cond.code ({ cls := "BagCounts$Search", name := "ways", desc := "(LBagCounts$Search;III)I" } : Jvm.MethodName) prog_7_method_10_code (13 : Nat) (Option.some Jvm.ClassFile.FieldType.int)) ∈ vm_WS := vm_w2 199 rfl rfl
theorem ww_528 : (Cond.methodLink "BagCounts$Search" (72 : Nat) ({ cls := "BagCounts$Search", name := "unfixed", desc := "(II)I" } : Jvm.MethodName)) ∈ vm_WS := vm_w2 200 rfl rfl
theorem ww_530 : (Cond.instanceMethod ({ cls := "BagCounts$Search", name := "unfixed", desc := "(II)I" } : Jvm.MethodName)) ∈ vm_WS := vm_w2 202 rfl rfl
theorem ww_531 : (Cond.code ({ cls := "BagCounts$Search", name := "unfixed", desc := "(II)I" } : Jvm.MethodName) prog_7_method_11_code (6 : Nat) (Option.some Jvm.ClassFile.FieldType.int)) ∈ vm_WS := vm_w2 203 rfl rfl
theorem ww_532 : (Cond.methodLink "BagCounts$Search" (75 : Nat) ({ cls := "BagCounts$Search", name := "partOf", desc := "(II)I" } : Jvm.MethodName)) ∈ vm_WS := vm_w2 204 rfl rfl
theorem ww_534 : (Cond.instanceMethod ({ cls := "BagCounts$Search", name := "partOf", desc := "(II)I" } : Jvm.MethodName)) ∈ vm_WS := vm_w2 206 rfl rfl
theorem ww_535 : (Cond.code ({ cls := "BagCounts$Search", name := "partOf", desc := "(II)I" } : Jvm.MethodName) prog_7_method_12_code (8 : Nat) (Option.some Jvm.ClassFile.FieldType.int)) ∈ vm_WS := vm_w2 207 rfl rfl
theorem ww_536 : (Cond.methodLink "BagCounts$Search" (88 : Nat) ({ cls := "BagCounts$Search", name := "isSure", desc := "(II)Z" } : Jvm.MethodName)) ∈ vm_WS := vm_w2 208 rfl rfl
theorem ww_538 : (Cond.instanceMethod ({ cls := "BagCounts$Search", name := "isSure", desc := "(II)Z" } : Jvm.MethodName)) ∈ vm_WS := vm_w2 210 rfl rfl
theorem ww_539 : (Cond.code ({ cls := "BagCounts$Search", name := "isSure", desc := "(II)Z" } : Jvm.MethodName) prog_7_method_18_code (7 : Nat) (Option.some Jvm.ClassFile.FieldType.boolean)) ∈ vm_WS := vm_w2 211 rfl rfl
theorem ww_540 : (Cond.methodLink "BagCounts$Search" (78 : Nat) ({ cls := "BagCounts$Search", name := "choose", desc := "(II)I" } : Jvm.MethodName)) ∈ vm_WS := vm_w2 212 rfl rfl
theorem ww_542 : (Cond.instanceMethod ({ cls := "BagCounts$Search", name := "choose", desc := "(II)I" } : Jvm.MethodName)) ∈ vm_WS := vm_w2 214 rfl rfl
theorem ww_543 : (Cond.code ({ cls := "BagCounts$Search", name := "choose", desc := "(II)I" } : Jvm.MethodName) prog_7_method_13_code (7 : Nat) (Option.some Jvm.ClassFile.FieldType.int)) ∈ vm_WS := vm_w2 215 rfl rfl
theorem ww_544 : (Cond.methodLink "BagCounts$Search" (65 : Nat) ({ cls := "BagCounts$Search", name := "fix", desc := "(III)V" } : Jvm.MethodName)) ∈ vm_WS := vm_w2 216 rfl rfl
theorem ww_546 : (Cond.instanceMethod ({ cls := "BagCounts$Search", name := "fix", desc := "(III)V" } : Jvm.MethodName)) ∈ vm_WS := vm_w2 218 rfl rfl
theorem ww_547 : (Cond.code ({ cls := "BagCounts$Search", name := "fix", desc := "(III)V" } : Jvm.MethodName) prog_7_method_14_code (6 : Nat) (Option.none : Option Jvm.ClassFile.FieldType)) ∈ vm_WS := vm_w2 219 rfl rfl
theorem ww_548 : (Cond.methodLink "BagCounts$Search" (94 : Nat) ({ cls := "java/lang/System", name := "arraycopy", desc := "(Ljava/lang/Object;ILjava/lang/Object;II)V" } : Jvm.MethodName)) ∈ vm_WS := vm_w2 220 rfl rfl
theorem ww_549 : (Cond.methodLink "BagCountsLaw" (41 : Nat) ({ cls := "BagCounts", name := "bound", desc := "(III)I" } : Jvm.MethodName)) ∈ vm_WS := vm_w2 221 rfl rfl
theorem ww_550 : (Cond.instanceMethod ({ cls := "BagCounts", name := "bound", desc := "(III)I" } : Jvm.MethodName)) ∈ vm_WS := vm_w2 222 rfl rfl
theorem ww_551 : (Cond.selects "BagCounts" ({ cls := "BagCounts", name := "bound", desc := "(III)I" } : Jvm.MethodName) ({ cls := "BagCounts", name := "bound", desc := "(III)I" } : Jvm.MethodName)) ∈ vm_WS := vm_w2 223 rfl rfl
theorem ww_552 : (Cond.code ({ cls := "BagCounts", name := "bound", desc := "(III)I" } : Jvm.MethodName) prog_1_method_8_code (5 : Nat) (Option.some Jvm.ClassFile.FieldType.int)) ∈ vm_WS := vm_w2 224 rfl rfl
theorem ww_553 : (Cond.methodLink "BagCounts" (92 : Nat) ({ cls := "BagCounts", name := "refusalOfBound", desc := "(III)I" } : Jvm.MethodName)) ∈ vm_WS := vm_w2 225 rfl rfl
theorem ww_554 : (Cond.static ({ cls := "BagCounts", name := "refusalOfBound", desc := "(III)I" } : Jvm.MethodName)) ∈ vm_WS := vm_w2 226 rfl rfl
theorem ww_555 : (Cond.code ({ cls := "BagCounts", name := "refusalOfBound", desc := "(III)I" } : Jvm.MethodName) prog_1_method_24_code (3 : Nat) (Option.some Jvm.ClassFile.FieldType.int)) ∈ vm_WS := vm_w2 227 rfl rfl
theorem ww_556 : (Cond.methodLink "BagCounts" (105 : Nat) ({ cls := "BagCounts", name := "isBag", desc := "(I)Z" } : Jvm.MethodName)) ∈ vm_WS := vm_w2 228 rfl rfl
theorem ww_557 : (Cond.methodLink "BagCounts" (108 : Nat) ({ cls := "BagCounts", name := "isKind", desc := "(I)Z" } : Jvm.MethodName)) ∈ vm_WS := vm_w2 229 rfl rfl
theorem ww_558 : (Cond.methodLink "BagCounts" (96 : Nat) ({ cls := "BagCounts$Search", name := "variable", desc := "(II)I" } : Jvm.MethodName)) ∈ vm_WS := vm_w2 230 rfl rfl
theorem ww_559 : (Cond.methodLink "BagCounts" (101 : Nat) ({ cls := "BagCounts$Logic", name := "extreme", desc := "(LBagCounts$Facts;IIZ)I" } : Jvm.MethodName)) ∈ vm_WS := vm_w2 231 rfl rfl
theorem ww_560 : (Cond.instanceMethod ({ cls := "BagCounts$Logic", name := "extreme", desc := "(LBagCounts$Facts;IIZ)I" } : Jvm.MethodName)) ∈ vm_WS := vm_w2 232 rfl rfl
theorem ww_561 : (Cond.selects "BagCounts$Logic" ({ cls := "BagCounts$Logic", name := "extreme", desc := "(LBagCounts$Facts;IIZ)I" } : Jvm.MethodName) ({ cls := "BagCounts$Logic", name := "extreme", desc := "(LBagCounts$Facts;IIZ)I" } : Jvm.MethodName)) ∈ vm_WS := vm_w2 233 rfl rfl
theorem ww_562 : (Cond.code ({ cls := "BagCounts$Logic", name := "extreme", desc := "(LBagCounts$Facts;IIZ)I" } : Jvm.MethodName) prog_4_method_5_code (9 : Nat) (Option.some Jvm.ClassFile.FieldType.int)) ∈ vm_WS := vm_w2 234 rfl rfl
theorem ww_563 : (Cond.methodLink "BagCounts$Logic" (55 : Nat) ({ cls := "BagCounts$Search", name := "settleAll", desc := "()Z" } : Jvm.MethodName)) ∈ vm_WS := vm_w2 235 rfl rfl
theorem ww_564 : (Cond.methodLink "BagCounts$Logic" (65 : Nat) ({ cls := "BagCounts$Search", name := "canBe", desc := "(II)Z" } : Jvm.MethodName)) ∈ vm_WS := vm_w2 236 rfl rfl
theorem ww_565 : (Cond.instanceMethod ({ cls := "BagCounts$Search", name := "canBe", desc := "(II)Z" } : Jvm.MethodName)) ∈ vm_WS := vm_w2 237 rfl rfl
theorem ww_566 : (Cond.selects "BagCounts$Search" ({ cls := "BagCounts$Search", name := "canBe", desc := "(II)Z" } : Jvm.MethodName) ({ cls := "BagCounts$Search", name := "canBe", desc := "(II)Z" } : Jvm.MethodName)) ∈ vm_WS := vm_w2 238 rfl rfl
theorem ww_567 : (Cond.code ({ cls := "BagCounts$Search", name := "canBe", desc := "(II)Z" } : Jvm.MethodName) prog_7_method_8_code (3 : Nat) (Option.some Jvm.ClassFile.FieldType.boolean)) ∈ vm_WS := vm_w2 239 rfl rfl
theorem ww_568 : (Cond.methodLink "BagCountsLaw" (46 : Nat) ({ cls := "BagCounts", name := "sizeOf", desc := "(II)I" } : Jvm.MethodName)) ∈ vm_WS := vm_w3 0 rfl rfl
theorem ww_569 : (Cond.instanceMethod ({ cls := "BagCounts", name := "sizeOf", desc := "(II)I" } : Jvm.MethodName)) ∈ vm_WS := vm_w3 1 rfl rfl
theorem ww_570 : (Cond.selects "BagCounts" ({ cls := "BagCounts", name := "sizeOf", desc := "(II)I" } : Jvm.MethodName) ({ cls := "BagCounts", name := "sizeOf", desc := "(II)I" } : Jvm.MethodName)) ∈ vm_WS := vm_w3 2 rfl rfl
theorem ww_571 : (Cond.code ({ cls := "BagCounts", name := "sizeOf", desc := "(II)I" } : Jvm.MethodName) prog_1_method_9_code (4 : Nat) (Option.some Jvm.ClassFile.FieldType.int)) ∈ vm_WS := vm_w3 3 rfl rfl
theorem ww_572 : (Cond.methodLink "BagCountsLaw" (50 : Nat) ({ cls := "BagCounts", name := "least", desc := "(II)I" } : Jvm.MethodName)) ∈ vm_WS := vm_w3 4 rfl rfl
theorem ww_573 : (Cond.instanceMethod ({ cls := "BagCounts", name := "least", desc := "(II)I" } : Jvm.MethodName)) ∈ vm_WS := vm_w3 5 rfl rfl
theorem ww_574 : (Cond.selects "BagCounts" ({ cls := "BagCounts", name := "least", desc := "(II)I" } : Jvm.MethodName) ({ cls := "BagCounts", name := "least", desc := "(II)I" } : Jvm.MethodName)) ∈ vm_WS := vm_w3 6 rfl rfl
theorem ww_575 : (Cond.code ({ cls := "BagCounts", name := "least", desc := "(II)I" } : Jvm.MethodName) prog_1_method_10_code (3 : Nat) (Option.some Jvm.ClassFile.FieldType.int)) ∈ vm_WS := vm_w3 7 rfl rfl
theorem ww_576 : (Cond.methodLink "BagCounts" (111 : Nat) ({ cls := "BagCounts$Logic", name := "inLeastSolution", desc := "(LBagCounts$Facts;I)I" } : Jvm.MethodName)) ∈ vm_WS := vm_w3 8 rfl rfl
theorem ww_577 : (Cond.instanceMethod ({ cls := "BagCounts$Logic", name := "inLeastSolution", desc := "(LBagCounts$Facts;I)I" } : Jvm.MethodName)) ∈ vm_WS := vm_w3 9 rfl rfl
theorem ww_578 : (Cond.selects "BagCounts$Logic" ({ cls := "BagCounts$Logic", name := "inLeastSolution", desc := "(LBagCounts$Facts;I)I" } : Jvm.MethodName) ({ cls := "BagCounts$Logic", name := "inLeastSolution", desc := "(LBagCounts$Facts;I)I" } : Jvm.MethodName)) ∈ vm_WS := vm_w3 10 rfl rfl
theorem ww_579 : (Cond.code ({ cls := "BagCounts$Logic", name := "inLeastSolution", desc := "(LBagCounts$Facts;I)I" } : Jvm.MethodName) prog_4_method_6_code (6 : Nat) (Option.some Jvm.ClassFile.FieldType.int)) ∈ vm_WS := vm_w3 11 rfl rfl
theorem ww_580 : (Cond.methodLink "BagCounts$Logic" (51 : Nat) ({ cls := "BagCounts$Facts", name := "all", desc := "()I" } : Jvm.MethodName)) ∈ vm_WS := vm_w3 12 rfl rfl
theorem ww_581 : (Cond.methodLink "BagCounts$Logic" (69 : Nat) ({ cls := "BagCounts$Search", name := "settleOn", desc := "(II)V" } : Jvm.MethodName)) ∈ vm_WS := vm_w3 13 rfl rfl
theorem ww_582 : (Cond.instanceMethod ({ cls := "BagCounts$Search", name := "settleOn", desc := "(II)V" } : Jvm.MethodName)) ∈ vm_WS := vm_w3 14 rfl rfl
theorem ww_583 : (Cond.selects "BagCounts$Search" ({ cls := "BagCounts$Search", name := "settleOn", desc := "(II)V" } : Jvm.MethodName) ({ cls := "BagCounts$Search", name := "settleOn", desc := "(II)V" } : Jvm.MethodName)) ∈ vm_WS := vm_w3 15 rfl rfl
theorem ww_584 : (Cond.code ({ cls := "BagCounts$Search", name := "settleOn", desc := "(II)V" } : Jvm.MethodName) prog_7_method_6_code (3 : Nat) (Option.none : Option Jvm.ClassFile.FieldType)) ∈ vm_WS := vm_w3 16 rfl rfl
theorem ww_585 : (Cond.methodLink "BagCounts$Search" (54 : Nat) ({ cls := "BagCounts$Search", name := "restrict", desc := "(III)V" } : Jvm.MethodName)) ∈ vm_WS := vm_w3 17 rfl rfl
theorem ww_586 : (Cond.methodLink "BagCountsLaw" (54 : Nat) ({ cls := "BagCounts", name := "solutions", desc := "(I)I" } : Jvm.MethodName)) ∈ vm_WS := vm_w3 18 rfl rfl
theorem ww_587 : (Cond.instanceMethod ({ cls := "BagCounts", name := "solutions", desc := "(I)I" } : Jvm.MethodName)) ∈ vm_WS := vm_w3 19 rfl rfl
theorem ww_588 : (Cond.selects "BagCounts" ({ cls := "BagCounts", name := "solutions", desc := "(I)I" } : Jvm.MethodName) ({ cls := "BagCounts", name := "solutions", desc := "(I)I" } : Jvm.MethodName)) ∈ vm_WS := vm_w3 20 rfl rfl
theorem ww_589 : (Cond.code ({ cls := "BagCounts", name := "solutions", desc := "(I)I" } : Jvm.MethodName) prog_1_method_11_code (2 : Nat) (Option.some Jvm.ClassFile.FieldType.int)) ∈ vm_WS := vm_w3 21 rfl rfl
theorem ww_590 : (Cond.methodLink "BagCounts" (115 : Nat) ({ cls := "BagCounts$Logic", name := "howMany", desc := "(LBagCounts$Facts;I)I" } : Jvm.MethodName)) ∈ vm_WS := vm_w3 22 rfl rfl
theorem ww_591 : (Cond.instanceMethod ({ cls := "BagCounts$Logic", name := "howMany", desc := "(LBagCounts$Facts;I)I" } : Jvm.MethodName)) ∈ vm_WS := vm_w3 23 rfl rfl
theorem ww_592 : (Cond.selects "BagCounts$Logic" ({ cls := "BagCounts$Logic", name := "howMany", desc := "(LBagCounts$Facts;I)I" } : Jvm.MethodName) ({ cls := "BagCounts$Logic", name := "howMany", desc := "(LBagCounts$Facts;I)I" } : Jvm.MethodName)) ∈ vm_WS := vm_w3 24 rfl rfl
theorem ww_593 : (Cond.code ({ cls := "BagCounts$Logic", name := "howMany", desc := "(LBagCounts$Facts;I)I" } : Jvm.MethodName) prog_4_method_4_code (3 : Nat) (Option.some Jvm.ClassFile.FieldType.int)) ∈ vm_WS := vm_w3 25 rfl rfl
theorem ww_594 : (Cond.methodLink "BagCountsLaw" (58 : Nat) ({ cls := "BagCounts", name := "follows", desc := "(IIIIII)I" } : Jvm.MethodName)) ∈ vm_WS := vm_w3 26 rfl rfl
theorem ww_595 : (Cond.instanceMethod ({ cls := "BagCounts", name := "follows", desc := "(IIIIII)I" } : Jvm.MethodName)) ∈ vm_WS := vm_w3 27 rfl rfl
theorem ww_596 : (Cond.selects "BagCounts" ({ cls := "BagCounts", name := "follows", desc := "(IIIIII)I" } : Jvm.MethodName) ({ cls := "BagCounts", name := "follows", desc := "(IIIIII)I" } : Jvm.MethodName)) ∈ vm_WS := vm_w3 28 rfl rfl
theorem ww_597 : (Cond.code ({ cls := "BagCounts", name := "follows", desc := "(IIIIII)I" } : Jvm.MethodName) prog_1_method_12_code (7 : Nat) (Option.some Jvm.ClassFile.FieldType.int)) ∈ vm_WS := vm_w3 29 rfl rfl
theorem ww_598 : (Cond.methodLink "BagCounts" (118 : Nat) ({ cls := "BagCounts$Logic", name := "canFail", desc := "(LBagCounts$Facts;II)Z" } : Jvm.MethodName)) ∈ vm_WS := vm_w3 30 rfl rfl
theorem ww_599 : (Cond.instanceMethod ({ cls := "BagCounts$Logic", name := "canFail", desc := "(LBagCounts$Facts;II)Z" } : Jvm.MethodName)) ∈ vm_WS := vm_w3 31 rfl rfl
theorem ww_600 : (Cond.selects "BagCounts$Logic" ({ cls := "BagCounts$Logic", name := "canFail", desc := "(LBagCounts$Facts;II)Z" } : Jvm.MethodName) ({ cls := "BagCounts$Logic", name := "canFail", desc := "(LBagCounts$Facts;II)Z" } : Jvm.MethodName)) ∈ vm_WS := vm_w3 32 rfl rfl
theorem ww_601 : (Cond.code ({ cls := "BagCounts$Logic", name := "canFail", desc := "(LBagCounts$Facts;II)Z" } : Jvm.MethodName) prog_4_method_3_code (7 : Nat) (Option.some Jvm.ClassFile.FieldType.boolean)) ∈ vm_WS := vm_w3 33 rfl rfl
theorem ww_602 : (Cond.methodLinkNest "BagCounts$Logic" (39 : Nat) ({ cls := "BagCounts", name := "isWithin", desc := "(III)Z" } : Jvm.MethodName) "BagCounts") ∈ vm_WN := vm_n3 34 rfl rfl
theorem ww_603 : (Cond.fieldLink "BagCounts$Logic" (43 : Nat) "BagCounts$Logic" "OPPOSITES" "[I") ∈ vm_WS := vm_w3 35 rfl rfl
theorem ww_605 : (Cond.methodLink "BagCounts$Logic" (47 : Nat) ({ cls := "BagCounts$Logic", name := "addOpposite", desc := "(LBagCounts$Facts;II)V" } : Jvm.MethodName)) ∈ vm_WS := vm_w3 37 rfl rfl
theorem ww_607 : (Cond.instanceMethod ({ cls := "BagCounts$Logic", name := "addOpposite", desc := "(LBagCounts$Facts;II)V" } : Jvm.MethodName)) ∈ vm_WS := vm_w3 39 rfl rfl
theorem ww_608 : (Cond.code ({ cls := "BagCounts$Logic", name := "addOpposite", desc := "(LBagCounts$Facts;II)V" } : Jvm.MethodName) prog_4_method_11_code (10 : Nat) (Option.none : Option Jvm.ClassFile.FieldType)) ∈ vm_WS := vm_w3 40 rfl rfl
theorem ww_609 : (Cond.methodLink "BagCounts$Logic" (123 : Nat) ({ cls := "BagCounts$Logic", name := "restrictOutside", desc := "(IIII)V" } : Jvm.MethodName)) ∈ vm_WS := vm_w3 41 rfl rfl
theorem ww_611 : (Cond.instanceMethod ({ cls := "BagCounts$Logic", name := "restrictOutside", desc := "(IIII)V" } : Jvm.MethodName)) ∈ vm_WS := vm_w3 43 rfl rfl
theorem ww_612 : (Cond.code ({ cls := "BagCounts$Logic", name := "restrictOutside", desc := "(IIII)V" } : Jvm.MethodName) prog_4_method_12_code (5 : Nat) (Option.none : Option Jvm.ClassFile.FieldType)) ∈ vm_WS := vm_w3 44 rfl rfl
theorem ww_613 : (Cond.methodLink "BagCounts$Logic" (126 : Nat) ({ cls := "BagCounts$Logic", name := "addOppositeOfKind", desc := "(IIIII)V" } : Jvm.MethodName)) ∈ vm_WS := vm_w3 45 rfl rfl
theorem ww_615 : (Cond.instanceMethod ({ cls := "BagCounts$Logic", name := "addOppositeOfKind", desc := "(IIIII)V" } : Jvm.MethodName)) ∈ vm_WS := vm_w3 47 rfl rfl
theorem ww_616 : (Cond.code ({ cls := "BagCounts$Logic", name := "addOppositeOfKind", desc := "(IIIII)V" } : Jvm.MethodName) prog_4_method_13_code (8 : Nat) (Option.none : Option Jvm.ClassFile.FieldType)) ∈ vm_WS := vm_w3 48 rfl rfl
theorem ww_617 : (Cond.methodLink "BagCountsLaw" (62 : Nat) ({ cls := "BagCounts", name := "contradiction", desc := "()I" } : Jvm.MethodName)) ∈ vm_WS := vm_w3 49 rfl rfl
theorem ww_618 : (Cond.instanceMethod ({ cls := "BagCounts", name := "contradiction", desc := "()I" } : Jvm.MethodName)) ∈ vm_WS := vm_w3 50 rfl rfl
theorem ww_619 : (Cond.selects "BagCounts" ({ cls := "BagCounts", name := "contradiction", desc := "()I" } : Jvm.MethodName) ({ cls := "BagCounts", name := "contradiction", desc := "()I" } : Jvm.MethodName)) ∈ vm_WS := vm_w3 51 rfl rfl
theorem ww_620 : (Cond.code ({ cls := "BagCounts", name := "contradiction", desc := "()I" } : Jvm.MethodName) prog_1_method_13_code (4 : Nat) (Option.some Jvm.ClassFile.FieldType.int)) ∈ vm_WS := vm_w3 52 rfl rfl
theorem ww_621 : (Cond.methodLink "BagCountsLaw" (66 : Nat) ({ cls := "BagCounts", name := "reason", desc := "(III)I" } : Jvm.MethodName)) ∈ vm_WS := vm_w3 53 rfl rfl
theorem ww_622 : (Cond.instanceMethod ({ cls := "BagCounts", name := "reason", desc := "(III)I" } : Jvm.MethodName)) ∈ vm_WS := vm_w3 54 rfl rfl
theorem ww_623 : (Cond.selects "BagCounts" ({ cls := "BagCounts", name := "reason", desc := "(III)I" } : Jvm.MethodName) ({ cls := "BagCounts", name := "reason", desc := "(III)I" } : Jvm.MethodName)) ∈ vm_WS := vm_w3 55 rfl rfl
theorem ww_624 : (Cond.code ({ cls := "BagCounts", name := "reason", desc := "(III)I" } : Jvm.MethodName) prog_1_method_14_code (10 : Nat) (Option.some Jvm.ClassFile.FieldType.int)) ∈ vm_WS := vm_w3 56 rfl rfl
theorem ww_625 : (Cond.methodLink "BagCountsLaw" (70 : Nat) ({ cls := "BagCounts", name := "needless", desc := "()I" } : Jvm.MethodName)) ∈ vm_WS := vm_w3 57 rfl rfl
theorem ww_626 : (Cond.instanceMethod ({ cls := "BagCounts", name := "needless", desc := "()I" } : Jvm.MethodName)) ∈ vm_WS := vm_w3 58 rfl rfl
theorem ww_627 : (Cond.selects "BagCounts" ({ cls := "BagCounts", name := "needless", desc := "()I" } : Jvm.MethodName) ({ cls := "BagCounts", name := "needless", desc := "()I" } : Jvm.MethodName)) ∈ vm_WS := vm_w3 59 rfl rfl
theorem ww_628 : (Cond.code ({ cls := "BagCounts", name := "needless", desc := "()I" } : Jvm.MethodName) prog_1_method_15_code (4 : Nat) (Option.some Jvm.ClassFile.FieldType.int)) ∈ vm_WS := vm_w3 60 rfl rfl
theorem ww_629 : (Cond.methodLink "BagCountsLaw" (76 : Nat) ({ cls := "BagCounts", name := "put", desc := "(J)I" } : Jvm.MethodName)) ∈ vm_WS := vm_w3 61 rfl rfl
theorem ww_630 : (Cond.instanceMethod ({ cls := "BagCounts", name := "put", desc := "(J)I" } : Jvm.MethodName)) ∈ vm_WS := vm_w3 62 rfl rfl
theorem ww_631 : (Cond.selects "BagCounts" ({ cls := "BagCounts", name := "put", desc := "(J)I" } : Jvm.MethodName) ({ cls := "BagCounts", name := "put", desc := "(J)I" } : Jvm.MethodName)) ∈ vm_WS := vm_w3 63 rfl rfl
theorem ww_632 : (Cond.code ({ cls := "BagCounts", name := "put", desc := "(J)I" } : Jvm.MethodName) prog_1_method_16_code (4 : Nat) (Option.some Jvm.ClassFile.FieldType.int)) ∈ vm_WS := vm_w3 64 rfl rfl
theorem ww_633 : (Cond.methodLink "BagCounts" (122 : Nat) ({ cls := "BagCounts$Pad", name := "lengthOf", desc := "(J)I" } : Jvm.MethodName)) ∈ vm_WS := vm_w3 65 rfl rfl
theorem ww_634 : (Cond.static ({ cls := "BagCounts$Pad", name := "lengthOf", desc := "(J)I" } : Jvm.MethodName)) ∈ vm_WS := vm_w3 66 rfl rfl
theorem ww_635 : (Cond.code ({ cls := "BagCounts$Pad", name := "lengthOf", desc := "(J)I" } : Jvm.MethodName) prog_5_method_2_code (7 : Nat) (Option.some Jvm.ClassFile.FieldType.int)) ∈ vm_WS := vm_w3 67 rfl rfl
theorem ww_636 : (Cond.constantLong "BagCounts$Pad" (15 : Nat) (255 : Int64)) ∈ vm_WS := vm_w3 68 rfl rfl
theorem ww_637 : (Cond.methodLinkNest "BagCounts$Pad" (17 : Nat) ({ cls := "BagCounts", name := "isWithin", desc := "(III)Z" } : Jvm.MethodName) "BagCounts") ∈ vm_WN := vm_n3 69 rfl rfl
theorem ww_638 : (Cond.methodLink "BagCounts" (126 : Nat) ({ cls := "BagCounts$Pad", name := "hasRoomFor", desc := "(I)Z" } : Jvm.MethodName)) ∈ vm_WS := vm_w3 70 rfl rfl
theorem ww_639 : (Cond.instanceMethod ({ cls := "BagCounts$Pad", name := "hasRoomFor", desc := "(I)Z" } : Jvm.MethodName)) ∈ vm_WS := vm_w3 71 rfl rfl
theorem ww_640 : (Cond.selects "BagCounts$Pad" ({ cls := "BagCounts$Pad", name := "hasRoomFor", desc := "(I)Z" } : Jvm.MethodName) ({ cls := "BagCounts$Pad", name := "hasRoomFor", desc := "(I)Z" } : Jvm.MethodName)) ∈ vm_WS := vm_w3 72 rfl rfl
theorem ww_641 : (Cond.code ({ cls := "BagCounts$Pad", name := "hasRoomFor", desc := "(I)Z" } : Jvm.MethodName) prog_5_method_3_code (2 : Nat) (Option.some Jvm.ClassFile.FieldType.boolean)) ∈ vm_WS := vm_w3 73 rfl rfl
theorem ww_642 : (Cond.methodLink "BagCounts" (129 : Nat) ({ cls := "BagCounts$Pad", name := "append", desc := "(JI)V" } : Jvm.MethodName)) ∈ vm_WS := vm_w3 74 rfl rfl
theorem ww_643 : (Cond.instanceMethod ({ cls := "BagCounts$Pad", name := "append", desc := "(JI)V" } : Jvm.MethodName)) ∈ vm_WS := vm_w3 75 rfl rfl
theorem ww_644 : (Cond.selects "BagCounts$Pad" ({ cls := "BagCounts$Pad", name := "append", desc := "(JI)V" } : Jvm.MethodName) ({ cls := "BagCounts$Pad", name := "append", desc := "(JI)V" } : Jvm.MethodName)) ∈ vm_WS := vm_w3 76 rfl rfl
theorem ww_645 : (Cond.code ({ cls := "BagCounts$Pad", name := "append", desc := "(JI)V" } : Jvm.MethodName) prog_5_method_4_code (7 : Nat) (Option.none : Option Jvm.ClassFile.FieldType)) ∈ vm_WS := vm_w3 77 rfl rfl
theorem ww_646 : (Cond.methodLink "BagCounts$Pad" (25 : Nat) ({ cls := "BagCounts$Pad", name := "hasRoomFor", desc := "(I)Z" } : Jvm.MethodName)) ∈ vm_WS := vm_w3 78 rfl rfl
theorem ww_647 : (Cond.methodLink "BagCountsLaw" (81 : Nat) ({ cls := "BagCounts", name := "wipe", desc := "()I" } : Jvm.MethodName)) ∈ vm_WS := vm_w3 79 rfl rfl
theorem ww_648 : (Cond.instanceMethod ({ cls := "BagCounts", name := "wipe", desc := "()I" } : Jvm.MethodName)) ∈ vm_WS := vm_w3 80 rfl rfl
theorem ww_649 : (Cond.selects "BagCounts" ({ cls := "BagCounts", name := "wipe", desc := "()I" } : Jvm.MethodName) ({ cls := "BagCounts", name := "wipe", desc := "()I" } : Jvm.MethodName)) ∈ vm_WS := vm_w3 81 rfl rfl
theorem ww_650 : (Cond.code ({ cls := "BagCounts", name := "wipe", desc := "()I" } : Jvm.MethodName) prog_1_method_17_code (1 : Nat) (Option.some Jvm.ClassFile.FieldType.int)) ∈ vm_WS := vm_w3 82 rfl rfl
theorem ww_651 : (Cond.methodLink "BagCounts" (133 : Nat) ({ cls := "BagCounts$Pad", name := "clear", desc := "()I" } : Jvm.MethodName)) ∈ vm_WS := vm_w3 83 rfl rfl
theorem ww_652 : (Cond.instanceMethod ({ cls := "BagCounts$Pad", name := "clear", desc := "()I" } : Jvm.MethodName)) ∈ vm_WS := vm_w3 84 rfl rfl
theorem ww_653 : (Cond.selects "BagCounts$Pad" ({ cls := "BagCounts$Pad", name := "clear", desc := "()I" } : Jvm.MethodName) ({ cls := "BagCounts$Pad", name := "clear", desc := "()I" } : Jvm.MethodName)) ∈ vm_WS := vm_w3 85 rfl rfl
theorem ww_654 : (Cond.code ({ cls := "BagCounts$Pad", name := "clear", desc := "()I" } : Jvm.MethodName) prog_5_method_5_code (2 : Nat) (Option.some Jvm.ClassFile.FieldType.int)) ∈ vm_WS := vm_w3 86 rfl rfl
theorem ww_655 : (Cond.methodLink "BagCountsLaw" (85 : Nat) ({ cls := "BagCounts", name := "fault", desc := "()I" } : Jvm.MethodName)) ∈ vm_WS := vm_w3 87 rfl rfl
theorem ww_656 : (Cond.instanceMethod ({ cls := "BagCounts", name := "fault", desc := "()I" } : Jvm.MethodName)) ∈ vm_WS := vm_w3 88 rfl rfl
theorem ww_657 : (Cond.selects "BagCounts" ({ cls := "BagCounts", name := "fault", desc := "()I" } : Jvm.MethodName) ({ cls := "BagCounts", name := "fault", desc := "()I" } : Jvm.MethodName)) ∈ vm_WS := vm_w3 89 rfl rfl
theorem ww_658 : (Cond.code ({ cls := "BagCounts", name := "fault", desc := "()I" } : Jvm.MethodName) prog_1_method_18_code (1 : Nat) (Option.some Jvm.ClassFile.FieldType.int)) ∈ vm_WS := vm_w3 90 rfl rfl
theorem ww_659 : (Cond.methodLink "BagCounts" (136 : Nat) ({ cls := "BagCounts$Pad", name := "firstFault", desc := "()I" } : Jvm.MethodName)) ∈ vm_WS := vm_w3 91 rfl rfl
theorem ww_660 : (Cond.instanceMethod ({ cls := "BagCounts$Pad", name := "firstFault", desc := "()I" } : Jvm.MethodName)) ∈ vm_WS := vm_w3 92 rfl rfl
theorem ww_661 : (Cond.selects "BagCounts$Pad" ({ cls := "BagCounts$Pad", name := "firstFault", desc := "()I" } : Jvm.MethodName) ({ cls := "BagCounts$Pad", name := "firstFault", desc := "()I" } : Jvm.MethodName)) ∈ vm_WS := vm_w3 93 rfl rfl
theorem ww_662 : (Cond.code ({ cls := "BagCounts$Pad", name := "firstFault", desc := "()I" } : Jvm.MethodName) prog_5_method_6_code (2 : Nat) (Option.some Jvm.ClassFile.FieldType.int)) ∈ vm_WS := vm_w3 94 rfl rfl
theorem ww_663 : (Cond.methodLink "BagCounts$Pad" (32 : Nat) ({ cls := "BagCounts$Pad", name := "readFact", desc := "()Z" } : Jvm.MethodName)) ∈ vm_WS := vm_w3 95 rfl rfl
theorem ww_665 : (Cond.instanceMethod ({ cls := "BagCounts$Pad", name := "readFact", desc := "()Z" } : Jvm.MethodName)) ∈ vm_WS := vm_w3 97 rfl rfl
theorem ww_666 : (Cond.code ({ cls := "BagCounts$Pad", name := "readFact", desc := "()Z" } : Jvm.MethodName) prog_5_method_8_code (1 : Nat) (Option.some Jvm.ClassFile.FieldType.boolean)) ∈ vm_WS := vm_w3 98 rfl rfl
theorem ww_667 : (Cond.methodLink "BagCounts$Pad" (36 : Nat) ({ cls := "BagCounts$Pad", name := "skip", desc := "(C)Z" } : Jvm.MethodName)) ∈ vm_WS := vm_w3 99 rfl rfl
theorem ww_669 : (Cond.instanceMethod ({ cls := "BagCounts$Pad", name := "skip", desc := "(C)Z" } : Jvm.MethodName)) ∈ vm_WS := vm_w3 101 rfl rfl
theorem ww_670 : (Cond.code ({ cls := "BagCounts$Pad", name := "skip", desc := "(C)Z" } : Jvm.MethodName) prog_5_method_16_code (2 : Nat) (Option.some Jvm.ClassFile.FieldType.boolean)) ∈ vm_WS := vm_w3 102 rfl rfl
theorem ww_671 : (Cond.methodLink "BagCounts$Pad" (74 : Nat) ({ cls := "BagCounts$Pad", name := "take", desc := "(CC)I" } : Jvm.MethodName)) ∈ vm_WS := vm_w3 103 rfl rfl
theorem ww_673 : (Cond.instanceMethod ({ cls := "BagCounts$Pad", name := "take", desc := "(CC)I" } : Jvm.MethodName)) ∈ vm_WS := vm_w3 105 rfl rfl
theorem ww_674 : (Cond.code ({ cls := "BagCounts$Pad", name := "take", desc := "(CC)I" } : Jvm.MethodName) prog_5_method_17_code (4 : Nat) (Option.some Jvm.ClassFile.FieldType.int)) ∈ vm_WS := vm_w3 106 rfl rfl
theorem ww_675 : (Cond.methodLink "BagCounts$Pad" (71 : Nat) ({ cls := "BagCounts$Pad", name := "readSize", desc := "()Z" } : Jvm.MethodName)) ∈ vm_WS := vm_w3 107 rfl rfl
theorem ww_677 : (Cond.instanceMethod ({ cls := "BagCounts$Pad", name := "readSize", desc := "()Z" } : Jvm.MethodName)) ∈ vm_WS := vm_w3 109 rfl rfl
theorem ww_678 : (Cond.code ({ cls := "BagCounts$Pad", name := "readSize", desc := "()Z" } : Jvm.MethodName) prog_5_method_9_code (1 : Nat) (Option.some Jvm.ClassFile.FieldType.boolean)) ∈ vm_WS := vm_w3 110 rfl rfl
theorem ww_679 : (Cond.methodLink "BagCounts$Pad" (84 : Nat) ({ cls := "BagCounts$Pad", name := "takeNumber", desc := "()I" } : Jvm.MethodName)) ∈ vm_WS := vm_w3 111 rfl rfl
theorem ww_681 : (Cond.instanceMethod ({ cls := "BagCounts$Pad", name := "takeNumber", desc := "()I" } : Jvm.MethodName)) ∈ vm_WS := vm_w3 113 rfl rfl
theorem ww_682 : (Cond.code ({ cls := "BagCounts$Pad", name := "takeNumber", desc := "()I" } : Jvm.MethodName) prog_5_method_15_code (3 : Nat) (Option.some Jvm.ClassFile.FieldType.int)) ∈ vm_WS := vm_w3 114 rfl rfl
theorem ww_683 : (Cond.methodLink "BagCounts$Pad" (87 : Nat) ({ cls := "BagCounts$Pad", name := "takeRangeEnd", desc := "(I)I" } : Jvm.MethodName)) ∈ vm_WS := vm_w3 115 rfl rfl
theorem ww_685 : (Cond.instanceMethod ({ cls := "BagCounts$Pad", name := "takeRangeEnd", desc := "(I)I" } : Jvm.MethodName)) ∈ vm_WS := vm_w3 117 rfl rfl
theorem ww_686 : (Cond.code ({ cls := "BagCounts$Pad", name := "takeRangeEnd", desc := "(I)I" } : Jvm.MethodName) prog_5_method_14_code (2 : Nat) (Option.some Jvm.ClassFile.FieldType.int)) ∈ vm_WS := vm_w3 118 rfl rfl
theorem ww_687 : (Cond.methodLink "BagCounts$Pad" (78 : Nat) ({ cls := "BagCounts$Pad", name := "readOfKind", desc := "()Z" } : Jvm.MethodName)) ∈ vm_WS := vm_w3 119 rfl rfl
theorem ww_689 : (Cond.instanceMethod ({ cls := "BagCounts$Pad", name := "readOfKind", desc := "()Z" } : Jvm.MethodName)) ∈ vm_WS := vm_w3 121 rfl rfl
theorem ww_690 : (Cond.code ({ cls := "BagCounts$Pad", name := "readOfKind", desc := "()Z" } : Jvm.MethodName) prog_5_method_11_code (1 : Nat) (Option.some Jvm.ClassFile.FieldType.boolean)) ∈ vm_WS := vm_w3 122 rfl rfl
theorem ww_691 : (Cond.methodLink "BagCounts$Pad" (94 : Nat) ({ cls := "BagCounts$Pad", name := "readDifference", desc := "()Z" } : Jvm.MethodName)) ∈ vm_WS := vm_w3 123 rfl rfl
theorem ww_693 : (Cond.instanceMethod ({ cls := "BagCounts$Pad", name := "readDifference", desc := "()Z" } : Jvm.MethodName)) ∈ vm_WS := vm_w3 125 rfl rfl
theorem ww_694 : (Cond.code ({ cls := "BagCounts$Pad", name := "readDifference", desc := "()Z" } : Jvm.MethodName) prog_5_method_12_code (2 : Nat) (Option.some Jvm.ClassFile.FieldType.boolean)) ∈ vm_WS := vm_w3 126 rfl rfl
theorem ww_695 : (Cond.methodLink "BagCounts$Pad" (81 : Nat) ({ cls := "BagCounts$Pad", name := "readOfThreeBags", desc := "()Z" } : Jvm.MethodName)) ∈ vm_WS := vm_w3 127 rfl rfl
theorem ww_697 : (Cond.instanceMethod ({ cls := "BagCounts$Pad", name := "readOfThreeBags", desc := "()Z" } : Jvm.MethodName)) ∈ vm_WS := vm_w3 129 rfl rfl
theorem ww_698 : (Cond.code ({ cls := "BagCounts$Pad", name := "readOfThreeBags", desc := "()Z" } : Jvm.MethodName) prog_5_method_10_code (1 : Nat) (Option.some Jvm.ClassFile.FieldType.boolean)) ∈ vm_WS := vm_w3 130 rfl rfl
theorem ww_699 : (Cond.methodLink "BagCounts$Pad" (91 : Nat) ({ cls := "BagCounts$Pad", name := "takeSign", desc := "()I" } : Jvm.MethodName)) ∈ vm_WS := vm_w3 131 rfl rfl
theorem ww_701 : (Cond.instanceMethod ({ cls := "BagCounts$Pad", name := "takeSign", desc := "()I" } : Jvm.MethodName)) ∈ vm_WS := vm_w3 133 rfl rfl
theorem ww_702 : (Cond.code ({ cls := "BagCounts$Pad", name := "takeSign", desc := "()I" } : Jvm.MethodName) prog_5_method_13_code (1 : Nat) (Option.some Jvm.ClassFile.FieldType.int)) ∈ vm_WS := vm_w3 134 rfl rfl
theorem ww_703 : (Cond.methodLink "BagCountsLaw" (89 : Nat) ({ cls := "BagCounts", name := "tell", desc := "()I" } : Jvm.MethodName)) ∈ vm_WS := vm_w3 135 rfl rfl
theorem ww_704 : (Cond.instanceMethod ({ cls := "BagCounts", name := "tell", desc := "()I" } : Jvm.MethodName)) ∈ vm_WS := vm_w3 136 rfl rfl
theorem ww_705 : (Cond.selects "BagCounts" ({ cls := "BagCounts", name := "tell", desc := "()I" } : Jvm.MethodName) ({ cls := "BagCounts", name := "tell", desc := "()I" } : Jvm.MethodName)) ∈ vm_WS := vm_w3 137 rfl rfl
theorem ww_706 : (Cond.code ({ cls := "BagCounts", name := "tell", desc := "()I" } : Jvm.MethodName) prog_1_method_19_code (2 : Nat) (Option.some Jvm.ClassFile.FieldType.int)) ∈ vm_WS := vm_w3 138 rfl rfl
theorem ww_707 : (Cond.methodLink "BagCounts" (139 : Nat) ({ cls := "BagCounts$Pad", name := "tellAll", desc := "(LBagCounts$Facts;)I" } : Jvm.MethodName)) ∈ vm_WS := vm_w3 139 rfl rfl
theorem ww_708 : (Cond.instanceMethod ({ cls := "BagCounts$Pad", name := "tellAll", desc := "(LBagCounts$Facts;)I" } : Jvm.MethodName)) ∈ vm_WS := vm_w3 140 rfl rfl
theorem ww_709 : (Cond.selects "BagCounts$Pad" ({ cls := "BagCounts$Pad", name := "tellAll", desc := "(LBagCounts$Facts;)I" } : Jvm.MethodName) ({ cls := "BagCounts$Pad", name := "tellAll", desc := "(LBagCounts$Facts;)I" } : Jvm.MethodName)) ∈ vm_WS := vm_w3 141 rfl rfl
theorem ww_710 : (Cond.code ({ cls := "BagCounts$Pad", name := "tellAll", desc := "(LBagCounts$Facts;)I" } : Jvm.MethodName) prog_5_method_7_code (4 : Nat) (Option.some Jvm.ClassFile.FieldType.int)) ∈ vm_WS := vm_w3 142 rfl rfl
theorem ww_711 : (Cond.methodLink "BagCounts$Pad" (58 : Nat) ({ cls := "BagCounts$Facts", name := "ask", desc := "(IIIIII)Z" } : Jvm.MethodName)) ∈ vm_WS := vm_w3 143 rfl rfl
theorem ww_712 : (Cond.methodLink "BagCounts$Pad" (64 : Nat) ({ cls := "BagCounts$Facts", name := "isFull", desc := "()Z" } : Jvm.MethodName)) ∈ vm_WS := vm_w3 144 rfl rfl
theorem ww_713 : (Cond.methodLink "BagCounts$Pad" (67 : Nat) ({ cls := "BagCounts$Facts", name := "keepAsked", desc := "()I" } : Jvm.MethodName)) ∈ vm_WS := vm_w3 145 rfl rfl
theorem ww_714 : (Cond.methodLink "BagCountsLaw" (93 : Nat) ({ cls := "BagCounts", name := "undo", desc := "()I" } : Jvm.MethodName)) ∈ vm_WS := vm_w3 146 rfl rfl
theorem ww_715 : (Cond.instanceMethod ({ cls := "BagCounts", name := "undo", desc := "()I" } : Jvm.MethodName)) ∈ vm_WS := vm_w3 147 rfl rfl
theorem ww_716 : (Cond.selects "BagCounts" ({ cls := "BagCounts", name := "undo", desc := "()I" } : Jvm.MethodName) ({ cls := "BagCounts", name := "undo", desc := "()I" } : Jvm.MethodName)) ∈ vm_WS := vm_w3 148 rfl rfl
theorem ww_717 : (Cond.code ({ cls := "BagCounts", name := "undo", desc := "()I" } : Jvm.MethodName) prog_1_method_20_code (1 : Nat) (Option.some Jvm.ClassFile.FieldType.int)) ∈ vm_WS := vm_w3 149 rfl rfl
theorem ww_718 : (Cond.methodLink "BagCounts" (143 : Nat) ({ cls := "BagCounts$States", name := "load", desc := "(ILBagCounts$Facts;)V" } : Jvm.MethodName)) ∈ vm_WS := vm_w3 150 rfl rfl
theorem ww_719 : (Cond.instanceMethod ({ cls := "BagCounts$States", name := "load", desc := "(ILBagCounts$Facts;)V" } : Jvm.MethodName)) ∈ vm_WS := vm_w3 151 rfl rfl
theorem ww_720 : (Cond.selects "BagCounts$States" ({ cls := "BagCounts$States", name := "load", desc := "(ILBagCounts$Facts;)V" } : Jvm.MethodName) ({ cls := "BagCounts$States", name := "load", desc := "(ILBagCounts$Facts;)V" } : Jvm.MethodName)) ∈ vm_WS := vm_w3 152 rfl rfl
theorem ww_721 : (Cond.code ({ cls := "BagCounts$States", name := "load", desc := "(ILBagCounts$Facts;)V" } : Jvm.MethodName) prog_8_method_3_code (3 : Nat) (Option.none : Option Jvm.ClassFile.FieldType)) ∈ vm_WS := vm_w3 153 rfl rfl
theorem ww_722 : (Cond.methodLink "BagCounts$States" (29 : Nat) ({ cls := "BagCounts$Facts", name := "readFrom", desc := "([II)V" } : Jvm.MethodName)) ∈ vm_WS := vm_w3 154 rfl rfl
theorem ww_723 : (Cond.instanceMethod ({ cls := "BagCounts$Facts", name := "readFrom", desc := "([II)V" } : Jvm.MethodName)) ∈ vm_WS := vm_w3 155 rfl rfl
theorem ww_724 : (Cond.selects "BagCounts$Facts" ({ cls := "BagCounts$Facts", name := "readFrom", desc := "([II)V" } : Jvm.MethodName) ({ cls := "BagCounts$Facts", name := "readFrom", desc := "([II)V" } : Jvm.MethodName)) ∈ vm_WS := vm_w3 156 rfl rfl
theorem ww_725 : (Cond.code ({ cls := "BagCounts$Facts", name := "readFrom", desc := "([II)V" } : Jvm.MethodName) prog_2_method_10_code (3 : Nat) (Option.none : Option Jvm.ClassFile.FieldType)) ∈ vm_WS := vm_w3 157 rfl rfl
theorem ww_726 : (Cond.methodLink "BagCountsLaw" (97 : Nat) ({ cls := "BagCounts", name := "save", desc := "(I)I" } : Jvm.MethodName)) ∈ vm_WS := vm_w3 158 rfl rfl
theorem ww_727 : (Cond.instanceMethod ({ cls := "BagCounts", name := "save", desc := "(I)I" } : Jvm.MethodName)) ∈ vm_WS := vm_w3 159 rfl rfl
theorem ww_728 : (Cond.selects "BagCounts" ({ cls := "BagCounts", name := "save", desc := "(I)I" } : Jvm.MethodName) ({ cls := "BagCounts", name := "save", desc := "(I)I" } : Jvm.MethodName)) ∈ vm_WS := vm_w3 160 rfl rfl
theorem ww_729 : (Cond.code ({ cls := "BagCounts", name := "save", desc := "(I)I" } : Jvm.MethodName) prog_1_method_21_code (2 : Nat) (Option.some Jvm.ClassFile.FieldType.int)) ∈ vm_WS := vm_w3 161 rfl rfl
theorem ww_730 : (Cond.methodLink "BagCountsLaw" (101 : Nat) ({ cls := "BagCounts", name := "restore", desc := "(I)I" } : Jvm.MethodName)) ∈ vm_WS := vm_w3 162 rfl rfl
theorem ww_731 : (Cond.instanceMethod ({ cls := "BagCounts", name := "restore", desc := "(I)I" } : Jvm.MethodName)) ∈ vm_WS := vm_w3 163 rfl rfl
theorem ww_732 : (Cond.selects "BagCounts" ({ cls := "BagCounts", name := "restore", desc := "(I)I" } : Jvm.MethodName) ({ cls := "BagCounts", name := "restore", desc := "(I)I" } : Jvm.MethodName)) ∈ vm_WS := vm_w3 164 rfl rfl
theorem ww_733 : (Cond.code ({ cls := "BagCounts", name := "restore", desc := "(I)I" } : Jvm.MethodName) prog_1_method_22_code (2 : Nat) (Option.some Jvm.ClassFile.FieldType.int)) ∈ vm_WS := vm_w3 165 rfl rfl
theorem ww_736 : (Cond.methodLink "BagCountsLaw" (12 : Nat) ({ cls := "BagCountsModel", name := "<init>", desc := "()V" } : Jvm.MethodName)) ∈ vm_WS := vm_w3 168 rfl rfl
theorem ww_737 : (Cond.instanceMethod ({ cls := "BagCountsModel", name := "<init>", desc := "()V" } : Jvm.MethodName)) ∈ vm_WS := vm_w3 169 rfl rfl
theorem ww_738 : (Cond.code ({ cls := "BagCountsModel", name := "<init>", desc := "()V" } : Jvm.MethodName) prog_10_method_1_code (1 : Nat) (Option.none : Option Jvm.ClassFile.FieldType)) ∈ vm_WS := vm_w3 170 rfl rfl
theorem ww_739 : (Cond.methodLink "BagCountsModel" (1 : Nat) ({ cls := "java/lang/Object", name := "<init>", desc := "()V" } : Jvm.MethodName)) ∈ vm_WS := vm_w3 171 rfl rfl
theorem ww_740 : (Cond.fieldLink "BagCountsModel" (7 : Nat) "BagCountsModel" "at" "[I") ∈ vm_WS := vm_w3 172 rfl rfl
theorem ww_741 : (Cond.fieldLink "BagCountsModel" (13 : Nat) "BagCountsModel" "past" "[I") ∈ vm_WS := vm_w3 173 rfl rfl
theorem ww_742 : (Cond.fieldLink "BagCountsModel" (58 : Nat) "BagCountsModel" "pastFirst" "I") ∈ vm_WS := vm_w3 174 rfl rfl
theorem ww_743 : (Cond.fieldLink "BagCountsModel" (54 : Nat) "BagCountsModel" "pastMany" "I") ∈ vm_WS := vm_w3 175 rfl rfl
theorem ww_744 : (Cond.fieldLink "BagCountsModel" (16 : Nat) "BagCountsModel" "slots" "[I") ∈ vm_WS := vm_w3 176 rfl rfl
theorem ww_745 : (Cond.fieldLink "BagCountsModel" (19 : Nat) "BagCountsModel" "isSaved" "[Z") ∈ vm_WS := vm_w3 177 rfl rfl
theorem ww_746 : (Cond.fieldLink "BagCountsModel" (23 : Nat) "BagCountsModel" "lo" "[I") ∈ vm_WS := vm_w3 178 rfl rfl
theorem ww_747 : (Cond.fieldLink "BagCountsModel" (26 : Nat) "BagCountsModel" "hi" "[I") ∈ vm_WS := vm_w3 179 rfl rfl
theorem ww_748 : (Cond.fieldLink "BagCountsModel" (29 : Nat) "BagCountsModel" "extra" "[I") ∈ vm_WS := vm_w3 180 rfl rfl
theorem ww_749 : (Cond.fieldLink "BagCountsModel" (125 : Nat) "BagCountsModel" "extras" "I") ∈ vm_WS := vm_w3 181 rfl rfl
theorem ww_750 : (Cond.fieldLink "BagCountsModel" (115 : Nat) "BagCountsModel" "used" "I") ∈ vm_WS := vm_w3 182 rfl rfl
theorem ww_751 : (Cond.fieldLink "BagCountsModel" (64 : Nat) "BagCountsModel" "changed" "Z") ∈ vm_WS := vm_w3 183 rfl rfl
theorem ww_752 : (Cond.fieldLink "BagCountsModel" (139 : Nat) "BagCountsModel" "failed" "I") ∈ vm_WS := vm_w3 184 rfl rfl
theorem ww_753 : (Cond.fieldLink "BagCountsModel" (32 : Nat) "BagCountsModel" "wasLo" "[I") ∈ vm_WS := vm_w3 185 rfl rfl
theorem ww_754 : (Cond.fieldLink "BagCountsModel" (35 : Nat) "BagCountsModel" "wasHi" "[I") ∈ vm_WS := vm_w3 186 rfl rfl
theorem ww_755 : (Cond.fieldLink "BagCountsModel" (38 : Nat) "BagCountsModel" "tried" "[I") ∈ vm_WS := vm_w3 187 rfl rfl
theorem ww_756 : (Cond.fieldLink "BagCountsModel" (41 : Nat) "BagCountsModel" "first" "[I") ∈ vm_WS := vm_w3 188 rfl rfl
theorem ww_757 : (Cond.fieldLink "BagCountsModel" (44 : Nat) "BagCountsModel" "pad" "[I") ∈ vm_WS := vm_w3 189 rfl rfl
theorem ww_758 : (Cond.fieldLink "BagCountsModel" (210 : Nat) "BagCountsModel" "padMany" "I") ∈ vm_WS := vm_w3 190 rfl rfl
theorem ww_759 : (Cond.fieldLink "BagCountsModel" (238 : Nat) "BagCountsModel" "spot" "I") ∈ vm_WS := vm_w3 191 rfl rfl
theorem ww_760 : (Cond.fieldLink "BagCountsModel" (244 : Nat) "BagCountsModel" "isWrong" "Z") ∈ vm_WS := vm_w3 192 rfl rfl
theorem ww_761 : (Cond.fieldLink "BagCountsModel" (241 : Nat) "BagCountsModel" "read" "I") ∈ vm_WS := vm_w3 193 rfl rfl
theorem ww_762 : (Cond.fieldLink "BagCountsModel" (47 : Nat) "BagCountsModel" "numbers" "[I") ∈ vm_WS := vm_w3 194 rfl rfl
theorem ww_763 : (Cond.laysFinal "BagCountsModel" "BagCountsModel" "at" "[I") ∈ vm_WS := vm_w3 195 rfl rfl
theorem ww_765 : (Cond.laysFinal "BagCountsModel" "BagCountsModel" "past" "[I") ∈ vm_WS := vm_w3 197 rfl rfl
theorem ww_767 : (Cond.lays "BagCountsModel" "BagCountsModel" "pastFirst" "I") ∈ vm_WS := vm_w3 199 rfl rfl
theorem ww_769 : (Cond.lays "BagCountsModel" "BagCountsModel" "pastMany" "I") ∈ vm_WS := vm_w3 201 rfl rfl
theorem ww_771 : (Cond.laysFinal "BagCountsModel" "BagCountsModel" "slots" "[I") ∈ vm_WS := vm_w3 203 rfl rfl
theorem ww_773 : (Cond.laysFinal "BagCountsModel" "BagCountsModel" "isSaved" "[Z") ∈ vm_WS := vm_w3 205 rfl rfl
theorem ww_775 : (Cond.laysFinal "BagCountsModel" "BagCountsModel" "lo" "[I") ∈ vm_WS := vm_w3 207 rfl rfl
theorem ww_777 : (Cond.laysFinal "BagCountsModel" "BagCountsModel" "hi" "[I") ∈ vm_WS := vm_w3 209 rfl rfl
theorem ww_779 : (Cond.laysFinal "BagCountsModel" "BagCountsModel" "extra" "[I") ∈ vm_WS := vm_w3 211 rfl rfl
theorem ww_781 : (Cond.lays "BagCountsModel" "BagCountsModel" "extras" "I") ∈ vm_WS := vm_w3 213 rfl rfl
theorem ww_783 : (Cond.lays "BagCountsModel" "BagCountsModel" "used" "I") ∈ vm_WS := vm_w3 215 rfl rfl
theorem ww_785 : (Cond.lays "BagCountsModel" "BagCountsModel" "changed" "Z") ∈ vm_WS := vm_w3 217 rfl rfl
theorem ww_787 : (Cond.lays "BagCountsModel" "BagCountsModel" "failed" "I") ∈ vm_WS := vm_w3 219 rfl rfl
theorem ww_789 : (Cond.laysFinal "BagCountsModel" "BagCountsModel" "wasLo" "[I") ∈ vm_WS := vm_w3 221 rfl rfl
theorem ww_791 : (Cond.laysFinal "BagCountsModel" "BagCountsModel" "wasHi" "[I") ∈ vm_WS := vm_w3 223 rfl rfl
theorem ww_793 : (Cond.laysFinal "BagCountsModel" "BagCountsModel" "tried" "[I") ∈ vm_WS := vm_w3 225 rfl rfl
theorem ww_795 : (Cond.laysFinal "BagCountsModel" "BagCountsModel" "first" "[I") ∈ vm_WS := vm_w3 227 rfl rfl
theorem ww_797 : (Cond.laysFinal "BagCountsModel" "BagCountsModel" "pad" "[I") ∈ vm_WS := vm_w3 229 rfl rfl
theorem ww_799 : (Cond.lays "BagCountsModel" "BagCountsModel" "padMany" "I") ∈ vm_WS := vm_w3 231 rfl rfl
theorem ww_801 : (Cond.lays "BagCountsModel" "BagCountsModel" "spot" "I") ∈ vm_WS := vm_w3 233 rfl rfl
theorem ww_803 : (Cond.lays "BagCountsModel" "BagCountsModel" "isWrong" "Z") ∈ vm_WS := vm_w3 235 rfl rfl
theorem ww_805 : (Cond.lays "BagCountsModel" "BagCountsModel" "read" "I") ∈ vm_WS := vm_w3 237 rfl rfl
theorem ww_807 : (Cond.laysFinal "BagCountsModel" "BagCountsModel" "numbers" "[I") ∈ vm_WS := vm_w3 239 rfl rfl
theorem ww_810 : (Cond.arrayClass Jvm.ClassFile.FieldType.boolean) ∈ vm_WS := vm_w4 2 rfl rfl
theorem ww_811 : (Cond.methodLink "BagCountsLaw" (17 : Nat) ({ cls := "BagCountsModel", name := "most", desc := "(I)I" } : Jvm.MethodName)) ∈ vm_WS := vm_w4 3 rfl rfl
theorem ww_812 : (Cond.instanceMethod ({ cls := "BagCountsModel", name := "most", desc := "(I)I" } : Jvm.MethodName)) ∈ vm_WS := vm_w4 4 rfl rfl
theorem ww_813 : (Cond.selects "BagCountsModel" ({ cls := "BagCountsModel", name := "most", desc := "(I)I" } : Jvm.MethodName) ({ cls := "BagCountsModel", name := "most", desc := "(I)I" } : Jvm.MethodName)) ∈ vm_WS := vm_w4 5 rfl rfl
theorem ww_814 : (Cond.code ({ cls := "BagCountsModel", name := "most", desc := "(I)I" } : Jvm.MethodName) prog_10_method_44_code (3 : Nat) (Option.some Jvm.ClassFile.FieldType.int)) ∈ vm_WS := vm_w4 6 rfl rfl
theorem ww_815 : (Cond.methodLink "BagCountsModel" (50 : Nat) ({ cls := "BagCountsModel", name := "in", desc := "(III)Z" } : Jvm.MethodName)) ∈ vm_WS := vm_w4 7 rfl rfl
theorem ww_816 : (Cond.static ({ cls := "BagCountsModel", name := "in", desc := "(III)Z" } : Jvm.MethodName)) ∈ vm_WS := vm_w4 8 rfl rfl
theorem ww_817 : (Cond.code ({ cls := "BagCountsModel", name := "in", desc := "(III)Z" } : Jvm.MethodName) prog_10_method_3_code (3 : Nat) (Option.some Jvm.ClassFile.FieldType.boolean)) ∈ vm_WS := vm_w4 9 rfl rfl
theorem ww_818 : (Cond.methodLink "BagCountsModel" (61 : Nat) ({ cls := "BagCountsModel", name := "keep", desc := "()V" } : Jvm.MethodName)) ∈ vm_WS := vm_w4 10 rfl rfl
theorem ww_820 : (Cond.instanceMethod ({ cls := "BagCountsModel", name := "keep", desc := "()V" } : Jvm.MethodName)) ∈ vm_WS := vm_w4 12 rfl rfl
theorem ww_821 : (Cond.code ({ cls := "BagCountsModel", name := "keep", desc := "()V" } : Jvm.MethodName) prog_10_method_8_code (3 : Nat) (Option.none : Option Jvm.ClassFile.FieldType)) ∈ vm_WS := vm_w4 13 rfl rfl
theorem ww_822 : (Cond.methodLink "BagCountsLaw" (22 : Nat) ({ cls := "BagCountsModel", name := "fact", desc := "(IIIIII)I" } : Jvm.MethodName)) ∈ vm_WS := vm_w4 14 rfl rfl
theorem ww_823 : (Cond.instanceMethod ({ cls := "BagCountsModel", name := "fact", desc := "(IIIIII)I" } : Jvm.MethodName)) ∈ vm_WS := vm_w4 15 rfl rfl
theorem ww_824 : (Cond.selects "BagCountsModel" ({ cls := "BagCountsModel", name := "fact", desc := "(IIIIII)I" } : Jvm.MethodName) ({ cls := "BagCountsModel", name := "fact", desc := "(IIIIII)I" } : Jvm.MethodName)) ∈ vm_WS := vm_w4 16 rfl rfl
theorem ww_825 : (Cond.code ({ cls := "BagCountsModel", name := "fact", desc := "(IIIIII)I" } : Jvm.MethodName) prog_10_method_46_code (7 : Nat) (Option.some Jvm.ClassFile.FieldType.int)) ∈ vm_WS := vm_w4 17 rfl rfl
theorem ww_826 : (Cond.methodLink "BagCountsModel" (203 : Nat) ({ cls := "BagCountsModel", name := "tryFact", desc := "(IIIIIIZ)I" } : Jvm.MethodName)) ∈ vm_WS := vm_w4 18 rfl rfl
theorem ww_828 : (Cond.instanceMethod ({ cls := "BagCountsModel", name := "tryFact", desc := "(IIIIIIZ)I" } : Jvm.MethodName)) ∈ vm_WS := vm_w4 20 rfl rfl
theorem ww_829 : (Cond.code ({ cls := "BagCountsModel", name := "tryFact", desc := "(IIIIIIZ)I" } : Jvm.MethodName) prog_10_method_45_code (9 : Nat) (Option.some Jvm.ClassFile.FieldType.int)) ∈ vm_WS := vm_w4 21 rfl rfl
theorem ww_830 : (Cond.methodLink "BagCountsModel" (196 : Nat) ({ cls := "BagCountsModel", name := "isFact", desc := "(IIIIII)Z" } : Jvm.MethodName)) ∈ vm_WS := vm_w4 22 rfl rfl
theorem ww_831 : (Cond.static ({ cls := "BagCountsModel", name := "isFact", desc := "(IIIIII)Z" } : Jvm.MethodName)) ∈ vm_WS := vm_w4 23 rfl rfl
theorem ww_832 : (Cond.code ({ cls := "BagCountsModel", name := "isFact", desc := "(IIIIII)Z" } : Jvm.MethodName) prog_10_method_43_code (6 : Nat) (Option.some Jvm.ClassFile.FieldType.boolean)) ∈ vm_WS := vm_w4 24 rfl rfl
theorem ww_833 : (Cond.methodLink "BagCountsModel" (190 : Nat) ({ cls := "BagCountsModel", name := "isBag", desc := "(I)Z" } : Jvm.MethodName)) ∈ vm_WS := vm_w4 25 rfl rfl
theorem ww_834 : (Cond.static ({ cls := "BagCountsModel", name := "isBag", desc := "(I)Z" } : Jvm.MethodName)) ∈ vm_WS := vm_w4 26 rfl rfl
theorem ww_835 : (Cond.code ({ cls := "BagCountsModel", name := "isBag", desc := "(I)Z" } : Jvm.MethodName) prog_10_method_4_code (1 : Nat) (Option.some Jvm.ClassFile.FieldType.boolean)) ∈ vm_WS := vm_w4 27 rfl rfl
theorem ww_836 : (Cond.methodLink "BagCountsModel" (193 : Nat) ({ cls := "BagCountsModel", name := "isKind", desc := "(I)Z" } : Jvm.MethodName)) ∈ vm_WS := vm_w4 28 rfl rfl
theorem ww_837 : (Cond.static ({ cls := "BagCountsModel", name := "isKind", desc := "(I)Z" } : Jvm.MethodName)) ∈ vm_WS := vm_w4 29 rfl rfl
theorem ww_838 : (Cond.code ({ cls := "BagCountsModel", name := "isKind", desc := "(I)Z" } : Jvm.MethodName) prog_10_method_5_code (1 : Nat) (Option.some Jvm.ClassFile.FieldType.boolean)) ∈ vm_WS := vm_w4 30 rfl rfl
theorem ww_839 : (Cond.methodLink "BagCountsModel" (199 : Nat) ({ cls := "BagCountsModel", name := "keepIf", desc := "(Z)V" } : Jvm.MethodName)) ∈ vm_WS := vm_w4 31 rfl rfl
theorem ww_841 : (Cond.instanceMethod ({ cls := "BagCountsModel", name := "keepIf", desc := "(Z)V" } : Jvm.MethodName)) ∈ vm_WS := vm_w4 33 rfl rfl
theorem ww_842 : (Cond.code ({ cls := "BagCountsModel", name := "keepIf", desc := "(Z)V" } : Jvm.MethodName) prog_10_method_9_code (2 : Nat) (Option.none : Option Jvm.ClassFile.FieldType)) ∈ vm_WS := vm_w4 34 rfl rfl
theorem ww_843 : (Cond.methodLink "BagCountsLaw" (26 : Nat) ({ cls := "BagCountsModel", name := "drop", desc := "(I)I" } : Jvm.MethodName)) ∈ vm_WS := vm_w4 35 rfl rfl
theorem ww_844 : (Cond.instanceMethod ({ cls := "BagCountsModel", name := "drop", desc := "(I)I" } : Jvm.MethodName)) ∈ vm_WS := vm_w4 36 rfl rfl
theorem ww_845 : (Cond.selects "BagCountsModel" ({ cls := "BagCountsModel", name := "drop", desc := "(I)I" } : Jvm.MethodName) ({ cls := "BagCountsModel", name := "drop", desc := "(I)I" } : Jvm.MethodName)) ∈ vm_WS := vm_w4 37 rfl rfl
theorem ww_846 : (Cond.code ({ cls := "BagCountsModel", name := "drop", desc := "(I)I" } : Jvm.MethodName) prog_10_method_48_code (3 : Nat) (Option.some Jvm.ClassFile.FieldType.int)) ∈ vm_WS := vm_w4 38 rfl rfl
theorem ww_847 : (Cond.methodLink "BagCountsModel" (207 : Nat) ({ cls := "BagCountsModel", name := "isToldFact", desc := "(I)Z" } : Jvm.MethodName)) ∈ vm_WS := vm_w4 39 rfl rfl
theorem ww_849 : (Cond.instanceMethod ({ cls := "BagCountsModel", name := "isToldFact", desc := "(I)Z" } : Jvm.MethodName)) ∈ vm_WS := vm_w4 41 rfl rfl
theorem ww_850 : (Cond.code ({ cls := "BagCountsModel", name := "isToldFact", desc := "(I)Z" } : Jvm.MethodName) prog_10_method_47_code (2 : Nat) (Option.some Jvm.ClassFile.FieldType.boolean)) ∈ vm_WS := vm_w4 42 rfl rfl
theorem ww_851 : (Cond.methodLink "BagCountsLaw" (31 : Nat) ({ cls := "BagCountsModel", name := "ofFact", desc := "(II)I" } : Jvm.MethodName)) ∈ vm_WS := vm_w4 43 rfl rfl
theorem ww_852 : (Cond.instanceMethod ({ cls := "BagCountsModel", name := "ofFact", desc := "(II)I" } : Jvm.MethodName)) ∈ vm_WS := vm_w4 44 rfl rfl
theorem ww_853 : (Cond.selects "BagCountsModel" ({ cls := "BagCountsModel", name := "ofFact", desc := "(II)I" } : Jvm.MethodName) ({ cls := "BagCountsModel", name := "ofFact", desc := "(II)I" } : Jvm.MethodName)) ∈ vm_WS := vm_w4 45 rfl rfl
theorem ww_854 : (Cond.code ({ cls := "BagCountsModel", name := "ofFact", desc := "(II)I" } : Jvm.MethodName) prog_10_method_49_code (3 : Nat) (Option.some Jvm.ClassFile.FieldType.int)) ∈ vm_WS := vm_w4 46 rfl rfl
theorem ww_855 : (Cond.methodLink "BagCountsModel" (118 : Nat) ({ cls := "BagCountsModel", name := "of", desc := "(II)I" } : Jvm.MethodName)) ∈ vm_WS := vm_w4 47 rfl rfl
theorem ww_857 : (Cond.instanceMethod ({ cls := "BagCountsModel", name := "of", desc := "(II)I" } : Jvm.MethodName)) ∈ vm_WS := vm_w4 49 rfl rfl
theorem ww_858 : (Cond.code ({ cls := "BagCountsModel", name := "of", desc := "(II)I" } : Jvm.MethodName) prog_10_method_6_code (3 : Nat) (Option.some Jvm.ClassFile.FieldType.int)) ∈ vm_WS := vm_w4 50 rfl rfl
theorem ww_859 : (Cond.methodLink "BagCountsLaw" (35 : Nat) ({ cls := "BagCountsModel", name := "count", desc := "(I)I" } : Jvm.MethodName)) ∈ vm_WS := vm_w4 51 rfl rfl
theorem ww_860 : (Cond.instanceMethod ({ cls := "BagCountsModel", name := "count", desc := "(I)I" } : Jvm.MethodName)) ∈ vm_WS := vm_w4 52 rfl rfl
theorem ww_861 : (Cond.selects "BagCountsModel" ({ cls := "BagCountsModel", name := "count", desc := "(I)I" } : Jvm.MethodName) ({ cls := "BagCountsModel", name := "count", desc := "(I)I" } : Jvm.MethodName)) ∈ vm_WS := vm_w4 53 rfl rfl
theorem ww_862 : (Cond.code ({ cls := "BagCountsModel", name := "count", desc := "(I)I" } : Jvm.MethodName) prog_10_method_50_code (2 : Nat) (Option.some Jvm.ClassFile.FieldType.int)) ∈ vm_WS := vm_w4 54 rfl rfl
theorem ww_863 : (Cond.methodLink "BagCountsLaw" (40 : Nat) ({ cls := "BagCountsModel", name := "isPossible", desc := "()I" } : Jvm.MethodName)) ∈ vm_WS := vm_w4 55 rfl rfl
theorem ww_864 : (Cond.instanceMethod ({ cls := "BagCountsModel", name := "isPossible", desc := "()I" } : Jvm.MethodName)) ∈ vm_WS := vm_w4 56 rfl rfl
theorem ww_865 : (Cond.selects "BagCountsModel" ({ cls := "BagCountsModel", name := "isPossible", desc := "()I" } : Jvm.MethodName) ({ cls := "BagCountsModel", name := "isPossible", desc := "()I" } : Jvm.MethodName)) ∈ vm_WS := vm_w4 57 rfl rfl
theorem ww_866 : (Cond.code ({ cls := "BagCountsModel", name := "isPossible", desc := "()I" } : Jvm.MethodName) prog_10_method_51_code (1 : Nat) (Option.some Jvm.ClassFile.FieldType.int)) ∈ vm_WS := vm_w4 58 rfl rfl
theorem ww_867 : (Cond.methodLink "BagCountsModel" (213 : Nat) ({ cls := "BagCountsModel", name := "isSolvedNow", desc := "()Z" } : Jvm.MethodName)) ∈ vm_WS := vm_w4 59 rfl rfl
theorem ww_869 : (Cond.instanceMethod ({ cls := "BagCountsModel", name := "isSolvedNow", desc := "()Z" } : Jvm.MethodName)) ∈ vm_WS := vm_w4 61 rfl rfl
theorem ww_870 : (Cond.code ({ cls := "BagCountsModel", name := "isSolvedNow", desc := "()Z" } : Jvm.MethodName) prog_10_method_37_code (1 : Nat) (Option.some Jvm.ClassFile.FieldType.boolean)) ∈ vm_WS := vm_w4 62 rfl rfl
theorem ww_871 : (Cond.methodLink "BagCountsModel" (167 : Nat) ({ cls := "BagCountsModel", name := "allFacts", desc := "()I" } : Jvm.MethodName)) ∈ vm_WS := vm_w4 63 rfl rfl
theorem ww_873 : (Cond.instanceMethod ({ cls := "BagCountsModel", name := "allFacts", desc := "()I" } : Jvm.MethodName)) ∈ vm_WS := vm_w4 65 rfl rfl
theorem ww_874 : (Cond.code ({ cls := "BagCountsModel", name := "allFacts", desc := "()I" } : Jvm.MethodName) prog_10_method_7_code (1 : Nat) (Option.some Jvm.ClassFile.FieldType.int)) ∈ vm_WS := vm_w4 66 rfl rfl
theorem ww_875 : (Cond.methodLink "BagCountsModel" (171 : Nat) ({ cls := "BagCountsModel", name := "isSolved", desc := "(I)Z" } : Jvm.MethodName)) ∈ vm_WS := vm_w4 67 rfl rfl
theorem ww_877 : (Cond.instanceMethod ({ cls := "BagCountsModel", name := "isSolved", desc := "(I)Z" } : Jvm.MethodName)) ∈ vm_WS := vm_w4 69 rfl rfl
theorem ww_878 : (Cond.code ({ cls := "BagCountsModel", name := "isSolved", desc := "(I)Z" } : Jvm.MethodName) prog_10_method_36_code (2 : Nat) (Option.some Jvm.ClassFile.FieldType.boolean)) ∈ vm_WS := vm_w4 70 rfl rfl
theorem ww_879 : (Cond.methodLink "BagCountsModel" (161 : Nat) ({ cls := "BagCountsModel", name := "layAll", desc := "()V" } : Jvm.MethodName)) ∈ vm_WS := vm_w4 71 rfl rfl
theorem ww_881 : (Cond.instanceMethod ({ cls := "BagCountsModel", name := "layAll", desc := "()V" } : Jvm.MethodName)) ∈ vm_WS := vm_w4 73 rfl rfl
theorem ww_882 : (Cond.code ({ cls := "BagCountsModel", name := "layAll", desc := "()V" } : Jvm.MethodName) prog_10_method_34_code (2 : Nat) (Option.none : Option Jvm.ClassFile.FieldType)) ∈ vm_WS := vm_w4 74 rfl rfl
theorem ww_883 : (Cond.methodLink "BagCountsModel" (164 : Nat) ({ cls := "BagCountsModel", name := "isSolvedByParts", desc := "()Z" } : Jvm.MethodName)) ∈ vm_WS := vm_w4 75 rfl rfl
theorem ww_885 : (Cond.instanceMethod ({ cls := "BagCountsModel", name := "isSolvedByParts", desc := "()Z" } : Jvm.MethodName)) ∈ vm_WS := vm_w4 77 rfl rfl
theorem ww_886 : (Cond.code ({ cls := "BagCountsModel", name := "isSolvedByParts", desc := "()Z" } : Jvm.MethodName) prog_10_method_35_code (5 : Nat) (Option.some Jvm.ClassFile.FieldType.boolean)) ∈ vm_WS := vm_w4 78 rfl rfl
theorem ww_887 : (Cond.methodLink "BagCountsModel" (142 : Nat) ({ cls := "BagCountsModel", name := "narrow", desc := "()Z" } : Jvm.MethodName)) ∈ vm_WS := vm_w4 79 rfl rfl
theorem ww_889 : (Cond.instanceMethod ({ cls := "BagCountsModel", name := "narrow", desc := "()Z" } : Jvm.MethodName)) ∈ vm_WS := vm_w4 81 rfl rfl
theorem ww_890 : (Cond.code ({ cls := "BagCountsModel", name := "narrow", desc := "()Z" } : Jvm.MethodName) prog_10_method_25_code (3 : Nat) (Option.some Jvm.ClassFile.FieldType.boolean)) ∈ vm_WS := vm_w4 82 rfl rfl
theorem ww_891 : (Cond.methodLink "BagCountsModel" (111 : Nat) ({ cls := "BagCountsModel", name := "isEmpty", desc := "()Z" } : Jvm.MethodName)) ∈ vm_WS := vm_w4 83 rfl rfl
theorem ww_893 : (Cond.instanceMethod ({ cls := "BagCountsModel", name := "isEmpty", desc := "()Z" } : Jvm.MethodName)) ∈ vm_WS := vm_w4 85 rfl rfl
theorem ww_894 : (Cond.code ({ cls := "BagCountsModel", name := "isEmpty", desc := "()Z" } : Jvm.MethodName) prog_10_method_24_code (3 : Nat) (Option.some Jvm.ClassFile.FieldType.boolean)) ∈ vm_WS := vm_w4 86 rfl rfl
theorem ww_895 : (Cond.methodLink "BagCountsModel" (121 : Nat) ({ cls := "BagCountsModel", name := "narrowBy", desc := "(IIIIII)V" } : Jvm.MethodName)) ∈ vm_WS := vm_w4 87 rfl rfl
theorem ww_897 : (Cond.instanceMethod ({ cls := "BagCountsModel", name := "narrowBy", desc := "(IIIIII)V" } : Jvm.MethodName)) ∈ vm_WS := vm_w4 89 rfl rfl
theorem ww_898 : (Cond.code ({ cls := "BagCountsModel", name := "narrowBy", desc := "(IIIIII)V" } : Jvm.MethodName) prog_10_method_23_code (8 : Nat) (Option.none : Option Jvm.ClassFile.FieldType)) ∈ vm_WS := vm_w4 90 rfl rfl
theorem ww_899 : (Cond.methodLink "BagCountsModel" (68 : Nat) ({ cls := "BagCountsModel", name := "raise", desc := "(II)V" } : Jvm.MethodName)) ∈ vm_WS := vm_w4 91 rfl rfl
theorem ww_901 : (Cond.instanceMethod ({ cls := "BagCountsModel", name := "raise", desc := "(II)V" } : Jvm.MethodName)) ∈ vm_WS := vm_w4 93 rfl rfl
theorem ww_902 : (Cond.code ({ cls := "BagCountsModel", name := "raise", desc := "(II)V" } : Jvm.MethodName) prog_10_method_10_code (3 : Nat) (Option.none : Option Jvm.ClassFile.FieldType)) ∈ vm_WS := vm_w4 94 rfl rfl
theorem ww_903 : (Cond.methodLink "BagCountsModel" (72 : Nat) ({ cls := "BagCountsModel", name := "lower", desc := "(II)V" } : Jvm.MethodName)) ∈ vm_WS := vm_w4 95 rfl rfl
theorem ww_905 : (Cond.instanceMethod ({ cls := "BagCountsModel", name := "lower", desc := "(II)V" } : Jvm.MethodName)) ∈ vm_WS := vm_w4 97 rfl rfl
theorem ww_906 : (Cond.code ({ cls := "BagCountsModel", name := "lower", desc := "(II)V" } : Jvm.MethodName) prog_10_method_11_code (3 : Nat) (Option.none : Option Jvm.ClassFile.FieldType)) ∈ vm_WS := vm_w4 98 rfl rfl
theorem ww_907 : (Cond.methodLink "BagCountsModel" (98 : Nat) ({ cls := "BagCountsModel", name := "narrowSize", desc := "(III)V" } : Jvm.MethodName)) ∈ vm_WS := vm_w4 99 rfl rfl
theorem ww_909 : (Cond.instanceMethod ({ cls := "BagCountsModel", name := "narrowSize", desc := "(III)V" } : Jvm.MethodName)) ∈ vm_WS := vm_w4 101 rfl rfl
theorem ww_910 : (Cond.code ({ cls := "BagCountsModel", name := "narrowSize", desc := "(III)V" } : Jvm.MethodName) prog_10_method_14_code (10 : Nat) (Option.none : Option Jvm.ClassFile.FieldType)) ∈ vm_WS := vm_w4 102 rfl rfl
theorem ww_911 : (Cond.methodLink "BagCountsModel" (78 : Nat) ({ cls := "BagCountsModel", name := "narrowMore", desc := "(III)V" } : Jvm.MethodName)) ∈ vm_WS := vm_w4 103 rfl rfl
theorem ww_913 : (Cond.instanceMethod ({ cls := "BagCountsModel", name := "narrowMore", desc := "(III)V" } : Jvm.MethodName)) ∈ vm_WS := vm_w4 105 rfl rfl
theorem ww_914 : (Cond.code ({ cls := "BagCountsModel", name := "narrowMore", desc := "(III)V" } : Jvm.MethodName) prog_10_method_19_code (4 : Nat) (Option.none : Option Jvm.ClassFile.FieldType)) ∈ vm_WS := vm_w4 106 rfl rfl
theorem ww_915 : (Cond.methodLink "BagCountsModel" (101 : Nat) ({ cls := "BagCountsModel", name := "narrowBelow", desc := "(III)V" } : Jvm.MethodName)) ∈ vm_WS := vm_w4 107 rfl rfl
theorem ww_917 : (Cond.instanceMethod ({ cls := "BagCountsModel", name := "narrowBelow", desc := "(III)V" } : Jvm.MethodName)) ∈ vm_WS := vm_w4 109 rfl rfl
theorem ww_918 : (Cond.code ({ cls := "BagCountsModel", name := "narrowBelow", desc := "(III)V" } : Jvm.MethodName) prog_10_method_20_code (4 : Nat) (Option.none : Option Jvm.ClassFile.FieldType)) ∈ vm_WS := vm_w4 110 rfl rfl
theorem ww_919 : (Cond.methodLink "BagCountsModel" (104 : Nat) ({ cls := "BagCountsModel", name := "narrowAbove", desc := "(III)V" } : Jvm.MethodName)) ∈ vm_WS := vm_w4 111 rfl rfl
theorem ww_921 : (Cond.instanceMethod ({ cls := "BagCountsModel", name := "narrowAbove", desc := "(III)V" } : Jvm.MethodName)) ∈ vm_WS := vm_w4 113 rfl rfl
theorem ww_922 : (Cond.code ({ cls := "BagCountsModel", name := "narrowAbove", desc := "(III)V" } : Jvm.MethodName) prog_10_method_21_code (4 : Nat) (Option.none : Option Jvm.ClassFile.FieldType)) ∈ vm_WS := vm_w4 114 rfl rfl
theorem ww_923 : (Cond.methodLink "BagCountsModel" (107 : Nat) ({ cls := "BagCountsModel", name := "narrowKind", desc := "(IIII)V" } : Jvm.MethodName)) ∈ vm_WS := vm_w4 115 rfl rfl
theorem ww_925 : (Cond.instanceMethod ({ cls := "BagCountsModel", name := "narrowKind", desc := "(IIII)V" } : Jvm.MethodName)) ∈ vm_WS := vm_w4 117 rfl rfl
theorem ww_926 : (Cond.code ({ cls := "BagCountsModel", name := "narrowKind", desc := "(IIII)V" } : Jvm.MethodName) prog_10_method_22_code (5 : Nat) (Option.none : Option Jvm.ClassFile.FieldType)) ∈ vm_WS := vm_w4 118 rfl rfl
theorem ww_927 : (Cond.methodLink "BagCountsModel" (89 : Nat) ({ cls := "BagCountsModel", name := "narrowSum", desc := "(III)V" } : Jvm.MethodName)) ∈ vm_WS := vm_w4 119 rfl rfl
theorem ww_929 : (Cond.instanceMethod ({ cls := "BagCountsModel", name := "narrowSum", desc := "(III)V" } : Jvm.MethodName)) ∈ vm_WS := vm_w4 121 rfl rfl
theorem ww_930 : (Cond.code ({ cls := "BagCountsModel", name := "narrowSum", desc := "(III)V" } : Jvm.MethodName) prog_10_method_16_code (4 : Nat) (Option.none : Option Jvm.ClassFile.FieldType)) ∈ vm_WS := vm_w4 122 rfl rfl
theorem ww_931 : (Cond.methodLink "BagCountsModel" (75 : Nat) ({ cls := "BagCountsModel", name := "narrowTwice", desc := "(II)V" } : Jvm.MethodName)) ∈ vm_WS := vm_w4 123 rfl rfl
theorem ww_933 : (Cond.instanceMethod ({ cls := "BagCountsModel", name := "narrowTwice", desc := "(II)V" } : Jvm.MethodName)) ∈ vm_WS := vm_w4 125 rfl rfl
theorem ww_934 : (Cond.code ({ cls := "BagCountsModel", name := "narrowTwice", desc := "(II)V" } : Jvm.MethodName) prog_10_method_15_code (3 : Nat) (Option.none : Option Jvm.ClassFile.FieldType)) ∈ vm_WS := vm_w4 126 rfl rfl
theorem ww_935 : (Cond.methodLink "BagCountsModel" (92 : Nat) ({ cls := "BagCountsModel", name := "narrowGreatest", desc := "(III)V" } : Jvm.MethodName)) ∈ vm_WS := vm_w4 127 rfl rfl
theorem ww_937 : (Cond.instanceMethod ({ cls := "BagCountsModel", name := "narrowGreatest", desc := "(III)V" } : Jvm.MethodName)) ∈ vm_WS := vm_w4 129 rfl rfl
theorem ww_938 : (Cond.code ({ cls := "BagCountsModel", name := "narrowGreatest", desc := "(III)V" } : Jvm.MethodName) prog_10_method_17_code (4 : Nat) (Option.none : Option Jvm.ClassFile.FieldType)) ∈ vm_WS := vm_w4 130 rfl rfl
theorem ww_939 : (Cond.methodLink "BagCountsModel" (82 : Nat) ({ cls := "BagCountsModel", name := "greater", desc := "(II)I" } : Jvm.MethodName)) ∈ vm_WS := vm_w4 131 rfl rfl
theorem ww_940 : (Cond.static ({ cls := "BagCountsModel", name := "greater", desc := "(II)I" } : Jvm.MethodName)) ∈ vm_WS := vm_w4 132 rfl rfl
theorem ww_941 : (Cond.code ({ cls := "BagCountsModel", name := "greater", desc := "(II)I" } : Jvm.MethodName) prog_10_method_13_code (2 : Nat) (Option.some Jvm.ClassFile.FieldType.int)) ∈ vm_WS := vm_w4 133 rfl rfl
theorem ww_942 : (Cond.methodLink "BagCountsModel" (95 : Nat) ({ cls := "BagCountsModel", name := "narrowLeast", desc := "(III)V" } : Jvm.MethodName)) ∈ vm_WS := vm_w4 134 rfl rfl
theorem ww_944 : (Cond.instanceMethod ({ cls := "BagCountsModel", name := "narrowLeast", desc := "(III)V" } : Jvm.MethodName)) ∈ vm_WS := vm_w4 136 rfl rfl
theorem ww_945 : (Cond.code ({ cls := "BagCountsModel", name := "narrowLeast", desc := "(III)V" } : Jvm.MethodName) prog_10_method_18_code (4 : Nat) (Option.none : Option Jvm.ClassFile.FieldType)) ∈ vm_WS := vm_w4 137 rfl rfl
theorem ww_946 : (Cond.methodLink "BagCountsModel" (86 : Nat) ({ cls := "BagCountsModel", name := "lesser", desc := "(II)I" } : Jvm.MethodName)) ∈ vm_WS := vm_w4 138 rfl rfl
theorem ww_947 : (Cond.static ({ cls := "BagCountsModel", name := "lesser", desc := "(II)I" } : Jvm.MethodName)) ∈ vm_WS := vm_w4 139 rfl rfl
theorem ww_948 : (Cond.code ({ cls := "BagCountsModel", name := "lesser", desc := "(II)I" } : Jvm.MethodName) prog_10_method_12_code (2 : Nat) (Option.some Jvm.ClassFile.FieldType.int)) ∈ vm_WS := vm_w4 140 rfl rfl
theorem ww_949 : (Cond.methodLink "BagCountsModel" (155 : Nat) ({ cls := "BagCountsModel", name := "part", desc := "(I)I" } : Jvm.MethodName)) ∈ vm_WS := vm_w4 141 rfl rfl
theorem ww_951 : (Cond.instanceMethod ({ cls := "BagCountsModel", name := "part", desc := "(I)I" } : Jvm.MethodName)) ∈ vm_WS := vm_w4 143 rfl rfl
theorem ww_952 : (Cond.code ({ cls := "BagCountsModel", name := "part", desc := "(I)I" } : Jvm.MethodName) prog_10_method_29_code (5 : Nat) (Option.some Jvm.ClassFile.FieldType.int)) ∈ vm_WS := vm_w4 144 rfl rfl
theorem ww_953 : (Cond.methodLink "BagCountsModel" (136 : Nat) ({ cls := "BagCountsModel", name := "joinedTo", desc := "(I)I" } : Jvm.MethodName)) ∈ vm_WS := vm_w4 145 rfl rfl
theorem ww_955 : (Cond.instanceMethod ({ cls := "BagCountsModel", name := "joinedTo", desc := "(I)I" } : Jvm.MethodName)) ∈ vm_WS := vm_w4 147 rfl rfl
theorem ww_956 : (Cond.code ({ cls := "BagCountsModel", name := "joinedTo", desc := "(I)I" } : Jvm.MethodName) prog_10_method_28_code (5 : Nat) (Option.some Jvm.ClassFile.FieldType.int)) ∈ vm_WS := vm_w4 148 rfl rfl
theorem ww_957 : (Cond.methodLink "BagCountsModel" (132 : Nat) ({ cls := "BagCountsModel", name := "joined", desc := "(IIIIII)I" } : Jvm.MethodName)) ∈ vm_WS := vm_w4 149 rfl rfl
theorem ww_958 : (Cond.static ({ cls := "BagCountsModel", name := "joined", desc := "(IIIIII)I" } : Jvm.MethodName)) ∈ vm_WS := vm_w4 150 rfl rfl
theorem ww_959 : (Cond.code ({ cls := "BagCountsModel", name := "joined", desc := "(IIIIII)I" } : Jvm.MethodName) prog_10_method_27_code (8 : Nat) (Option.some Jvm.ClassFile.FieldType.int)) ∈ vm_WS := vm_w4 151 rfl rfl
theorem ww_960 : (Cond.methodLink "BagCountsModel" (128 : Nat) ({ cls := "BagCountsModel", name := "bagBit", desc := "(I)I" } : Jvm.MethodName)) ∈ vm_WS := vm_w4 152 rfl rfl
theorem ww_961 : (Cond.static ({ cls := "BagCountsModel", name := "bagBit", desc := "(I)I" } : Jvm.MethodName)) ∈ vm_WS := vm_w4 153 rfl rfl
theorem ww_962 : (Cond.code ({ cls := "BagCountsModel", name := "bagBit", desc := "(I)I" } : Jvm.MethodName) prog_10_method_26_code (1 : Nat) (Option.some Jvm.ClassFile.FieldType.int)) ∈ vm_WS := vm_w4 154 rfl rfl
theorem ww_963 : (Cond.methodLink "BagCountsModel" (158 : Nat) ({ cls := "BagCountsModel", name := "search", desc := "(II)I" } : Jvm.MethodName)) ∈ vm_WS := vm_w4 155 rfl rfl
theorem ww_965 : (Cond.instanceMethod ({ cls := "BagCountsModel", name := "search", desc := "(II)I" } : Jvm.MethodName)) ∈ vm_WS := vm_w4 157 rfl rfl
theorem ww_966 : (Cond.code ({ cls := "BagCountsModel", name := "search", desc := "(II)I" } : Jvm.MethodName) prog_10_method_33_code (9 : Nat) (Option.some Jvm.ClassFile.FieldType.int)) ∈ vm_WS := vm_w4 158 rfl rfl
theorem ww_967 : (Cond.methodLink "BagCountsModel" (145 : Nat) ({ cls := "BagCountsModel", name := "narrowest", desc := "(I)I" } : Jvm.MethodName)) ∈ vm_WS := vm_w4 159 rfl rfl
theorem ww_969 : (Cond.instanceMethod ({ cls := "BagCountsModel", name := "narrowest", desc := "(I)I" } : Jvm.MethodName)) ∈ vm_WS := vm_w4 161 rfl rfl
theorem ww_970 : (Cond.code ({ cls := "BagCountsModel", name := "narrowest", desc := "(I)I" } : Jvm.MethodName) prog_10_method_30_code (4 : Nat) (Option.some Jvm.ClassFile.FieldType.int)) ∈ vm_WS := vm_w4 162 rfl rfl
theorem ww_971 : (Cond.methodLink "BagCountsModel" (148 : Nat) ({ cls := "BagCountsModel", name := "push", desc := "(I)V" } : Jvm.MethodName)) ∈ vm_WS := vm_w4 163 rfl rfl
theorem ww_973 : (Cond.instanceMethod ({ cls := "BagCountsModel", name := "push", desc := "(I)V" } : Jvm.MethodName)) ∈ vm_WS := vm_w4 165 rfl rfl
theorem ww_974 : (Cond.code ({ cls := "BagCountsModel", name := "push", desc := "(I)V" } : Jvm.MethodName) prog_10_method_31_code (3 : Nat) (Option.none : Option Jvm.ClassFile.FieldType)) ∈ vm_WS := vm_w4 166 rfl rfl
theorem ww_975 : (Cond.methodLink "BagCountsModel" (152 : Nat) ({ cls := "BagCountsModel", name := "pull", desc := "(I)V" } : Jvm.MethodName)) ∈ vm_WS := vm_w4 167 rfl rfl
theorem ww_977 : (Cond.instanceMethod ({ cls := "BagCountsModel", name := "pull", desc := "(I)V" } : Jvm.MethodName)) ∈ vm_WS := vm_w4 169 rfl rfl
theorem ww_978 : (Cond.code ({ cls := "BagCountsModel", name := "pull", desc := "(I)V" } : Jvm.MethodName) prog_10_method_32_code (3 : Nat) (Option.none : Option Jvm.ClassFile.FieldType)) ∈ vm_WS := vm_w4 170 rfl rfl
theorem ww_979 : (Cond.methodLink "BagCountsLaw" (45 : Nat) ({ cls := "BagCountsModel", name := "bound", desc := "(III)I" } : Jvm.MethodName)) ∈ vm_WS := vm_w4 171 rfl rfl
theorem ww_980 : (Cond.instanceMethod ({ cls := "BagCountsModel", name := "bound", desc := "(III)I" } : Jvm.MethodName)) ∈ vm_WS := vm_w4 172 rfl rfl
theorem ww_981 : (Cond.selects "BagCountsModel" ({ cls := "BagCountsModel", name := "bound", desc := "(III)I" } : Jvm.MethodName) ({ cls := "BagCountsModel", name := "bound", desc := "(III)I" } : Jvm.MethodName)) ∈ vm_WS := vm_w4 173 rfl rfl
theorem ww_982 : (Cond.code ({ cls := "BagCountsModel", name := "bound", desc := "(III)I" } : Jvm.MethodName) prog_10_method_54_code (5 : Nat) (Option.some Jvm.ClassFile.FieldType.int)) ∈ vm_WS := vm_w4 174 rfl rfl
theorem ww_983 : (Cond.methodLink "BagCountsModel" (216 : Nat) ({ cls := "BagCountsModel", name := "whyNotBound", desc := "(III)I" } : Jvm.MethodName)) ∈ vm_WS := vm_w4 175 rfl rfl
theorem ww_984 : (Cond.static ({ cls := "BagCountsModel", name := "whyNotBound", desc := "(III)I" } : Jvm.MethodName)) ∈ vm_WS := vm_w4 176 rfl rfl
theorem ww_985 : (Cond.code ({ cls := "BagCountsModel", name := "whyNotBound", desc := "(III)I" } : Jvm.MethodName) prog_10_method_53_code (3 : Nat) (Option.some Jvm.ClassFile.FieldType.int)) ∈ vm_WS := vm_w4 177 rfl rfl
theorem ww_986 : (Cond.methodLink "BagCountsModel" (220 : Nat) ({ cls := "BagCountsModel", name := "boundBy", desc := "(IIII)I" } : Jvm.MethodName)) ∈ vm_WS := vm_w4 178 rfl rfl
theorem ww_988 : (Cond.instanceMethod ({ cls := "BagCountsModel", name := "boundBy", desc := "(IIII)I" } : Jvm.MethodName)) ∈ vm_WS := vm_w4 180 rfl rfl
theorem ww_989 : (Cond.code ({ cls := "BagCountsModel", name := "boundBy", desc := "(IIII)I" } : Jvm.MethodName) prog_10_method_52_code (7 : Nat) (Option.some Jvm.ClassFile.FieldType.int)) ∈ vm_WS := vm_w4 181 rfl rfl
theorem ww_990 : (Cond.methodLink "BagCountsModel" (178 : Nat) ({ cls := "BagCountsModel", name := "isSolvedWith", desc := "(IIIIIII)Z" } : Jvm.MethodName)) ∈ vm_WS := vm_w4 182 rfl rfl
theorem ww_992 : (Cond.instanceMethod ({ cls := "BagCountsModel", name := "isSolvedWith", desc := "(IIIIIII)Z" } : Jvm.MethodName)) ∈ vm_WS := vm_w4 184 rfl rfl
theorem ww_993 : (Cond.code ({ cls := "BagCountsModel", name := "isSolvedWith", desc := "(IIIIIII)Z" } : Jvm.MethodName) prog_10_method_39_code (8 : Nat) (Option.some Jvm.ClassFile.FieldType.boolean)) ∈ vm_WS := vm_w4 185 rfl rfl
theorem ww_994 : (Cond.methodLink "BagCountsModel" (175 : Nat) ({ cls := "BagCountsModel", name := "add", desc := "(IIIIII)V" } : Jvm.MethodName)) ∈ vm_WS := vm_w4 186 rfl rfl
theorem ww_996 : (Cond.instanceMethod ({ cls := "BagCountsModel", name := "add", desc := "(IIIIII)V" } : Jvm.MethodName)) ∈ vm_WS := vm_w4 188 rfl rfl
theorem ww_997 : (Cond.code ({ cls := "BagCountsModel", name := "add", desc := "(IIIIII)V" } : Jvm.MethodName) prog_10_method_38_code (8 : Nat) (Option.none : Option Jvm.ClassFile.FieldType)) ∈ vm_WS := vm_w4 189 rfl rfl
theorem ww_998 : (Cond.methodLink "BagCountsLaw" (49 : Nat) ({ cls := "BagCountsModel", name := "sizeOf", desc := "(II)I" } : Jvm.MethodName)) ∈ vm_WS := vm_w4 190 rfl rfl
theorem ww_999 : (Cond.instanceMethod ({ cls := "BagCountsModel", name := "sizeOf", desc := "(II)I" } : Jvm.MethodName)) ∈ vm_WS := vm_w4 191 rfl rfl
theorem ww_1000 : (Cond.selects "BagCountsModel" ({ cls := "BagCountsModel", name := "sizeOf", desc := "(II)I" } : Jvm.MethodName) ({ cls := "BagCountsModel", name := "sizeOf", desc := "(II)I" } : Jvm.MethodName)) ∈ vm_WS := vm_w4 192 rfl rfl
theorem ww_1001 : (Cond.code ({ cls := "BagCountsModel", name := "sizeOf", desc := "(II)I" } : Jvm.MethodName) prog_10_method_55_code (6 : Nat) (Option.some Jvm.ClassFile.FieldType.int)) ∈ vm_WS := vm_w4 193 rfl rfl
theorem ww_1002 : (Cond.methodLink "BagCountsLaw" (53 : Nat) ({ cls := "BagCountsModel", name := "least", desc := "(II)I" } : Jvm.MethodName)) ∈ vm_WS := vm_w4 194 rfl rfl
theorem ww_1003 : (Cond.instanceMethod ({ cls := "BagCountsModel", name := "least", desc := "(II)I" } : Jvm.MethodName)) ∈ vm_WS := vm_w4 195 rfl rfl
theorem ww_1004 : (Cond.selects "BagCountsModel" ({ cls := "BagCountsModel", name := "least", desc := "(II)I" } : Jvm.MethodName) ({ cls := "BagCountsModel", name := "least", desc := "(II)I" } : Jvm.MethodName)) ∈ vm_WS := vm_w4 196 rfl rfl
theorem ww_1005 : (Cond.code ({ cls := "BagCountsModel", name := "least", desc := "(II)I" } : Jvm.MethodName) prog_10_method_58_code (3 : Nat) (Option.some Jvm.ClassFile.FieldType.int)) ∈ vm_WS := vm_w4 197 rfl rfl
theorem ww_1006 : (Cond.methodLink "BagCountsModel" (227 : Nat) ({ cls := "BagCountsModel", name := "findFirst", desc := "()V" } : Jvm.MethodName)) ∈ vm_WS := vm_w4 198 rfl rfl
theorem ww_1008 : (Cond.instanceMethod ({ cls := "BagCountsModel", name := "findFirst", desc := "()V" } : Jvm.MethodName)) ∈ vm_WS := vm_w4 200 rfl rfl
theorem ww_1009 : (Cond.code ({ cls := "BagCountsModel", name := "findFirst", desc := "()V" } : Jvm.MethodName) prog_10_method_57_code (2 : Nat) (Option.none : Option Jvm.ClassFile.FieldType)) ∈ vm_WS := vm_w4 201 rfl rfl
theorem ww_1010 : (Cond.methodLink "BagCountsModel" (224 : Nat) ({ cls := "BagCountsModel", name := "isSolvedFrom", desc := "(I)Z" } : Jvm.MethodName)) ∈ vm_WS := vm_w4 202 rfl rfl
theorem ww_1012 : (Cond.instanceMethod ({ cls := "BagCountsModel", name := "isSolvedFrom", desc := "(I)Z" } : Jvm.MethodName)) ∈ vm_WS := vm_w4 204 rfl rfl
theorem ww_1013 : (Cond.code ({ cls := "BagCountsModel", name := "isSolvedFrom", desc := "(I)Z" } : Jvm.MethodName) prog_10_method_56_code (3 : Nat) (Option.some Jvm.ClassFile.FieldType.boolean)) ∈ vm_WS := vm_w4 205 rfl rfl
theorem ww_1014 : (Cond.methodLink "BagCountsLaw" (57 : Nat) ({ cls := "BagCountsModel", name := "solutions", desc := "(I)I" } : Jvm.MethodName)) ∈ vm_WS := vm_w4 206 rfl rfl
theorem ww_1015 : (Cond.instanceMethod ({ cls := "BagCountsModel", name := "solutions", desc := "(I)I" } : Jvm.MethodName)) ∈ vm_WS := vm_w4 207 rfl rfl
theorem ww_1016 : (Cond.selects "BagCountsModel" ({ cls := "BagCountsModel", name := "solutions", desc := "(I)I" } : Jvm.MethodName) ({ cls := "BagCountsModel", name := "solutions", desc := "(I)I" } : Jvm.MethodName)) ∈ vm_WS := vm_w4 208 rfl rfl
theorem ww_1017 : (Cond.code ({ cls := "BagCountsModel", name := "solutions", desc := "(I)I" } : Jvm.MethodName) prog_10_method_59_code (2 : Nat) (Option.some Jvm.ClassFile.FieldType.int)) ∈ vm_WS := vm_w4 209 rfl rfl
theorem ww_1018 : (Cond.methodLink "BagCountsModel" (230 : Nat) ({ cls := "BagCountsModel", name := "countAll", desc := "(I)I" } : Jvm.MethodName)) ∈ vm_WS := vm_w4 210 rfl rfl
theorem ww_1020 : (Cond.instanceMethod ({ cls := "BagCountsModel", name := "countAll", desc := "(I)I" } : Jvm.MethodName)) ∈ vm_WS := vm_w4 212 rfl rfl
theorem ww_1021 : (Cond.code ({ cls := "BagCountsModel", name := "countAll", desc := "(I)I" } : Jvm.MethodName) prog_10_method_60_code (6 : Nat) (Option.some Jvm.ClassFile.FieldType.int)) ∈ vm_WS := vm_w4 213 rfl rfl
theorem ww_1022 : (Cond.methodLink "BagCountsLaw" (61 : Nat) ({ cls := "BagCountsModel", name := "follows", desc := "(IIIIII)I" } : Jvm.MethodName)) ∈ vm_WS := vm_w4 214 rfl rfl
theorem ww_1023 : (Cond.instanceMethod ({ cls := "BagCountsModel", name := "follows", desc := "(IIIIII)I" } : Jvm.MethodName)) ∈ vm_WS := vm_w4 215 rfl rfl
theorem ww_1024 : (Cond.selects "BagCountsModel" ({ cls := "BagCountsModel", name := "follows", desc := "(IIIIII)I" } : Jvm.MethodName) ({ cls := "BagCountsModel", name := "follows", desc := "(IIIIII)I" } : Jvm.MethodName)) ∈ vm_WS := vm_w4 216 rfl rfl
theorem ww_1025 : (Cond.code ({ cls := "BagCountsModel", name := "follows", desc := "(IIIIII)I" } : Jvm.MethodName) prog_10_method_61_code (8 : Nat) (Option.some Jvm.ClassFile.FieldType.int)) ∈ vm_WS := vm_w4 217 rfl rfl
theorem ww_1026 : (Cond.methodLink "BagCountsModel" (233 : Nat) ({ cls := "BagCountsModel", name := "canFail", desc := "(IIIIIII)Z" } : Jvm.MethodName)) ∈ vm_WS := vm_w4 218 rfl rfl
theorem ww_1028 : (Cond.instanceMethod ({ cls := "BagCountsModel", name := "canFail", desc := "(IIIIIII)Z" } : Jvm.MethodName)) ∈ vm_WS := vm_w4 220 rfl rfl
theorem ww_1029 : (Cond.code ({ cls := "BagCountsModel", name := "canFail", desc := "(IIIIIII)Z" } : Jvm.MethodName) prog_10_method_42_code (10 : Nat) (Option.some Jvm.ClassFile.FieldType.boolean)) ∈ vm_WS := vm_w4 221 rfl rfl
theorem ww_1030 : (Cond.methodLink "BagCountsModel" (186 : Nat) ({ cls := "BagCountsModel", name := "failsAt", desc := "(IIIIII)Z" } : Jvm.MethodName)) ∈ vm_WS := vm_w4 222 rfl rfl
theorem ww_1032 : (Cond.instanceMethod ({ cls := "BagCountsModel", name := "failsAt", desc := "(IIIIII)Z" } : Jvm.MethodName)) ∈ vm_WS := vm_w4 224 rfl rfl
theorem ww_1033 : (Cond.code ({ cls := "BagCountsModel", name := "failsAt", desc := "(IIIIII)Z" } : Jvm.MethodName) prog_10_method_41_code (7 : Nat) (Option.some Jvm.ClassFile.FieldType.boolean)) ∈ vm_WS := vm_w4 225 rfl rfl
theorem ww_1034 : (Cond.methodLink "BagCountsModel" (182 : Nat) ({ cls := "BagCountsModel", name := "isSolvedWithBoth", desc := "(IIIIIZ)Z" } : Jvm.MethodName)) ∈ vm_WS := vm_w4 226 rfl rfl
theorem ww_1036 : (Cond.instanceMethod ({ cls := "BagCountsModel", name := "isSolvedWithBoth", desc := "(IIIIIZ)Z" } : Jvm.MethodName)) ∈ vm_WS := vm_w4 228 rfl rfl
theorem ww_1037 : (Cond.code ({ cls := "BagCountsModel", name := "isSolvedWithBoth", desc := "(IIIIIZ)Z" } : Jvm.MethodName) prog_10_method_40_code (7 : Nat) (Option.some Jvm.ClassFile.FieldType.boolean)) ∈ vm_WS := vm_w4 229 rfl rfl
theorem ww_1038 : (Cond.methodLink "BagCountsLaw" (65 : Nat) ({ cls := "BagCountsModel", name := "contradiction", desc := "()I" } : Jvm.MethodName)) ∈ vm_WS := vm_w4 230 rfl rfl
theorem ww_1039 : (Cond.instanceMethod ({ cls := "BagCountsModel", name := "contradiction", desc := "()I" } : Jvm.MethodName)) ∈ vm_WS := vm_w4 231 rfl rfl
theorem ww_1040 : (Cond.selects "BagCountsModel" ({ cls := "BagCountsModel", name := "contradiction", desc := "()I" } : Jvm.MethodName) ({ cls := "BagCountsModel", name := "contradiction", desc := "()I" } : Jvm.MethodName)) ∈ vm_WS := vm_w4 232 rfl rfl
theorem ww_1041 : (Cond.code ({ cls := "BagCountsModel", name := "contradiction", desc := "()I" } : Jvm.MethodName) prog_10_method_62_code (3 : Nat) (Option.some Jvm.ClassFile.FieldType.int)) ∈ vm_WS := vm_w4 233 rfl rfl
theorem ww_1042 : (Cond.methodLink "BagCountsLaw" (69 : Nat) ({ cls := "BagCountsModel", name := "reason", desc := "(III)I" } : Jvm.MethodName)) ∈ vm_WS := vm_w4 234 rfl rfl
theorem ww_1043 : (Cond.instanceMethod ({ cls := "BagCountsModel", name := "reason", desc := "(III)I" } : Jvm.MethodName)) ∈ vm_WS := vm_w4 235 rfl rfl
theorem ww_1044 : (Cond.selects "BagCountsModel" ({ cls := "BagCountsModel", name := "reason", desc := "(III)I" } : Jvm.MethodName) ({ cls := "BagCountsModel", name := "reason", desc := "(III)I" } : Jvm.MethodName)) ∈ vm_WS := vm_w4 236 rfl rfl
theorem ww_1045 : (Cond.code ({ cls := "BagCountsModel", name := "reason", desc := "(III)I" } : Jvm.MethodName) prog_10_method_63_code (8 : Nat) (Option.some Jvm.ClassFile.FieldType.int)) ∈ vm_WS := vm_w4 237 rfl rfl
theorem ww_1046 : (Cond.methodLink "BagCountsLaw" (73 : Nat) ({ cls := "BagCountsModel", name := "needless", desc := "()I" } : Jvm.MethodName)) ∈ vm_WS := vm_w4 238 rfl rfl
theorem ww_1047 : (Cond.instanceMethod ({ cls := "BagCountsModel", name := "needless", desc := "()I" } : Jvm.MethodName)) ∈ vm_WS := vm_w4 239 rfl rfl
theorem ww_1048 : (Cond.selects "BagCountsModel" ({ cls := "BagCountsModel", name := "needless", desc := "()I" } : Jvm.MethodName) ({ cls := "BagCountsModel", name := "needless", desc := "()I" } : Jvm.MethodName)) ∈ vm_WS := vm_w5 0 rfl rfl
theorem ww_1049 : (Cond.code ({ cls := "BagCountsModel", name := "needless", desc := "()I" } : Jvm.MethodName) prog_10_method_64_code (4 : Nat) (Option.some Jvm.ClassFile.FieldType.int)) ∈ vm_WS := vm_w5 1 rfl rfl
theorem ww_1050 : (Cond.methodLink "BagCountsLaw" (80 : Nat) ({ cls := "BagCountsModel", name := "put", desc := "(J)I" } : Jvm.MethodName)) ∈ vm_WS := vm_w5 2 rfl rfl
theorem ww_1051 : (Cond.instanceMethod ({ cls := "BagCountsModel", name := "put", desc := "(J)I" } : Jvm.MethodName)) ∈ vm_WS := vm_w5 3 rfl rfl
theorem ww_1052 : (Cond.selects "BagCountsModel" ({ cls := "BagCountsModel", name := "put", desc := "(J)I" } : Jvm.MethodName) ({ cls := "BagCountsModel", name := "put", desc := "(J)I" } : Jvm.MethodName)) ∈ vm_WS := vm_w5 4 rfl rfl
theorem ww_1053 : (Cond.code ({ cls := "BagCountsModel", name := "put", desc := "(J)I" } : Jvm.MethodName) prog_10_method_65_code (7 : Nat) (Option.some Jvm.ClassFile.FieldType.int)) ∈ vm_WS := vm_w5 5 rfl rfl
theorem ww_1054 : (Cond.constantLong "BagCountsModel" (236 : Nat) (255 : Int64)) ∈ vm_WS := vm_w5 6 rfl rfl
theorem ww_1055 : (Cond.methodLink "BagCountsLaw" (84 : Nat) ({ cls := "BagCountsModel", name := "wipe", desc := "()I" } : Jvm.MethodName)) ∈ vm_WS := vm_w5 7 rfl rfl
theorem ww_1056 : (Cond.instanceMethod ({ cls := "BagCountsModel", name := "wipe", desc := "()I" } : Jvm.MethodName)) ∈ vm_WS := vm_w5 8 rfl rfl
theorem ww_1057 : (Cond.selects "BagCountsModel" ({ cls := "BagCountsModel", name := "wipe", desc := "()I" } : Jvm.MethodName) ({ cls := "BagCountsModel", name := "wipe", desc := "()I" } : Jvm.MethodName)) ∈ vm_WS := vm_w5 9 rfl rfl
theorem ww_1058 : (Cond.code ({ cls := "BagCountsModel", name := "wipe", desc := "()I" } : Jvm.MethodName) prog_10_method_66_code (2 : Nat) (Option.some Jvm.ClassFile.FieldType.int)) ∈ vm_WS := vm_w5 10 rfl rfl
theorem ww_1059 : (Cond.methodLink "BagCountsLaw" (88 : Nat) ({ cls := "BagCountsModel", name := "fault", desc := "()I" } : Jvm.MethodName)) ∈ vm_WS := vm_w5 11 rfl rfl
theorem ww_1060 : (Cond.instanceMethod ({ cls := "BagCountsModel", name := "fault", desc := "()I" } : Jvm.MethodName)) ∈ vm_WS := vm_w5 12 rfl rfl
theorem ww_1061 : (Cond.selects "BagCountsModel" ({ cls := "BagCountsModel", name := "fault", desc := "()I" } : Jvm.MethodName) ({ cls := "BagCountsModel", name := "fault", desc := "()I" } : Jvm.MethodName)) ∈ vm_WS := vm_w5 13 rfl rfl
theorem ww_1062 : (Cond.code ({ cls := "BagCountsModel", name := "fault", desc := "()I" } : Jvm.MethodName) prog_10_method_78_code (1 : Nat) (Option.some Jvm.ClassFile.FieldType.int)) ∈ vm_WS := vm_w5 14 rfl rfl
theorem ww_1063 : (Cond.methodLink "BagCountsModel" (277 : Nat) ({ cls := "BagCountsModel", name := "takeFact", desc := "()V" } : Jvm.MethodName)) ∈ vm_WS := vm_w5 15 rfl rfl
theorem ww_1065 : (Cond.instanceMethod ({ cls := "BagCountsModel", name := "takeFact", desc := "()V" } : Jvm.MethodName)) ∈ vm_WS := vm_w5 17 rfl rfl
theorem ww_1066 : (Cond.code ({ cls := "BagCountsModel", name := "takeFact", desc := "()V" } : Jvm.MethodName) prog_10_method_77_code (2 : Nat) (Option.none : Option Jvm.ClassFile.FieldType)) ∈ vm_WS := vm_w5 18 rfl rfl
theorem ww_1067 : (Cond.methodLink "BagCountsModel" (250 : Nat) ({ cls := "BagCountsModel", name := "enter", desc := "(II)V" } : Jvm.MethodName)) ∈ vm_WS := vm_w5 19 rfl rfl
theorem ww_1069 : (Cond.instanceMethod ({ cls := "BagCountsModel", name := "enter", desc := "(II)V" } : Jvm.MethodName)) ∈ vm_WS := vm_w5 21 rfl rfl
theorem ww_1070 : (Cond.code ({ cls := "BagCountsModel", name := "enter", desc := "(II)V" } : Jvm.MethodName) prog_10_method_68_code (3 : Nat) (Option.none : Option Jvm.ClassFile.FieldType)) ∈ vm_WS := vm_w5 22 rfl rfl
theorem ww_1071 : (Cond.methodLink "BagCountsModel" (247 : Nat) ({ cls := "BagCountsModel", name := "next", desc := "()I" } : Jvm.MethodName)) ∈ vm_WS := vm_w5 23 rfl rfl
theorem ww_1073 : (Cond.instanceMethod ({ cls := "BagCountsModel", name := "next", desc := "()I" } : Jvm.MethodName)) ∈ vm_WS := vm_w5 25 rfl rfl
theorem ww_1074 : (Cond.code ({ cls := "BagCountsModel", name := "next", desc := "()I" } : Jvm.MethodName) prog_10_method_67_code (1 : Nat) (Option.some Jvm.ClassFile.FieldType.int)) ∈ vm_WS := vm_w5 26 rfl rfl
theorem ww_1075 : (Cond.methodLink "BagCountsModel" (253 : Nat) ({ cls := "BagCountsModel", name := "takeOne", desc := "(III)V" } : Jvm.MethodName)) ∈ vm_WS := vm_w5 27 rfl rfl
theorem ww_1077 : (Cond.instanceMethod ({ cls := "BagCountsModel", name := "takeOne", desc := "(III)V" } : Jvm.MethodName)) ∈ vm_WS := vm_w5 29 rfl rfl
theorem ww_1078 : (Cond.code ({ cls := "BagCountsModel", name := "takeOne", desc := "(III)V" } : Jvm.MethodName) prog_10_method_70_code (4 : Nat) (Option.none : Option Jvm.ClassFile.FieldType)) ∈ vm_WS := vm_w5 30 rfl rfl
theorem ww_1079 : (Cond.methodLink "BagCountsModel" (262 : Nat) ({ cls := "BagCountsModel", name := "takeSign", desc := "(I)V" } : Jvm.MethodName)) ∈ vm_WS := vm_w5 31 rfl rfl
theorem ww_1081 : (Cond.instanceMethod ({ cls := "BagCountsModel", name := "takeSign", desc := "(I)V" } : Jvm.MethodName)) ∈ vm_WS := vm_w5 33 rfl rfl
theorem ww_1082 : (Cond.code ({ cls := "BagCountsModel", name := "takeSign", desc := "(I)V" } : Jvm.MethodName) prog_10_method_69_code (2 : Nat) (Option.none : Option Jvm.ClassFile.FieldType)) ∈ vm_WS := vm_w5 34 rfl rfl
theorem ww_1083 : (Cond.methodLink "BagCountsModel" (265 : Nat) ({ cls := "BagCountsModel", name := "takeRange", desc := "(I)V" } : Jvm.MethodName)) ∈ vm_WS := vm_w5 35 rfl rfl
theorem ww_1085 : (Cond.instanceMethod ({ cls := "BagCountsModel", name := "takeRange", desc := "(I)V" } : Jvm.MethodName)) ∈ vm_WS := vm_w5 37 rfl rfl
theorem ww_1086 : (Cond.code ({ cls := "BagCountsModel", name := "takeRange", desc := "(I)V" } : Jvm.MethodName) prog_10_method_72_code (2 : Nat) (Option.none : Option Jvm.ClassFile.FieldType)) ∈ vm_WS := vm_w5 38 rfl rfl
theorem ww_1087 : (Cond.methodLink "BagCountsModel" (256 : Nat) ({ cls := "BagCountsModel", name := "takeNumber", desc := "(I)V" } : Jvm.MethodName)) ∈ vm_WS := vm_w5 39 rfl rfl
theorem ww_1089 : (Cond.instanceMethod ({ cls := "BagCountsModel", name := "takeNumber", desc := "(I)V" } : Jvm.MethodName)) ∈ vm_WS := vm_w5 41 rfl rfl
theorem ww_1090 : (Cond.code ({ cls := "BagCountsModel", name := "takeNumber", desc := "(I)V" } : Jvm.MethodName) prog_10_method_71_code (4 : Nat) (Option.none : Option Jvm.ClassFile.FieldType)) ∈ vm_WS := vm_w5 42 rfl rfl
theorem ww_1091 : (Cond.methodLink "BagCountsModel" (274 : Nat) ({ cls := "BagCountsModel", name := "takeBag", desc := "()V" } : Jvm.MethodName)) ∈ vm_WS := vm_w5 43 rfl rfl
theorem ww_1093 : (Cond.instanceMethod ({ cls := "BagCountsModel", name := "takeBag", desc := "()V" } : Jvm.MethodName)) ∈ vm_WS := vm_w5 45 rfl rfl
theorem ww_1094 : (Cond.code ({ cls := "BagCountsModel", name := "takeBag", desc := "()V" } : Jvm.MethodName) prog_10_method_76_code (1 : Nat) (Option.none : Option Jvm.ClassFile.FieldType)) ∈ vm_WS := vm_w5 46 rfl rfl
theorem ww_1095 : (Cond.methodLink "BagCountsModel" (268 : Nat) ({ cls := "BagCountsModel", name := "takeBags", desc := "(I)V" } : Jvm.MethodName)) ∈ vm_WS := vm_w5 47 rfl rfl
theorem ww_1097 : (Cond.instanceMethod ({ cls := "BagCountsModel", name := "takeBags", desc := "(I)V" } : Jvm.MethodName)) ∈ vm_WS := vm_w5 49 rfl rfl
theorem ww_1098 : (Cond.code ({ cls := "BagCountsModel", name := "takeBags", desc := "(I)V" } : Jvm.MethodName) prog_10_method_75_code (3 : Nat) (Option.none : Option Jvm.ClassFile.FieldType)) ∈ vm_WS := vm_w5 50 rfl rfl
theorem ww_1099 : (Cond.methodLink "BagCountsModel" (271 : Nat) ({ cls := "BagCountsModel", name := "takeKind", desc := "()V" } : Jvm.MethodName)) ∈ vm_WS := vm_w5 51 rfl rfl
theorem ww_1101 : (Cond.instanceMethod ({ cls := "BagCountsModel", name := "takeKind", desc := "()V" } : Jvm.MethodName)) ∈ vm_WS := vm_w5 53 rfl rfl
theorem ww_1102 : (Cond.code ({ cls := "BagCountsModel", name := "takeKind", desc := "()V" } : Jvm.MethodName) prog_10_method_74_code (1 : Nat) (Option.none : Option Jvm.ClassFile.FieldType)) ∈ vm_WS := vm_w5 54 rfl rfl
theorem ww_1103 : (Cond.methodLink "BagCountsModel" (259 : Nat) ({ cls := "BagCountsModel", name := "takeMore", desc := "()V" } : Jvm.MethodName)) ∈ vm_WS := vm_w5 55 rfl rfl
theorem ww_1105 : (Cond.instanceMethod ({ cls := "BagCountsModel", name := "takeMore", desc := "()V" } : Jvm.MethodName)) ∈ vm_WS := vm_w5 57 rfl rfl
theorem ww_1106 : (Cond.code ({ cls := "BagCountsModel", name := "takeMore", desc := "()V" } : Jvm.MethodName) prog_10_method_73_code (2 : Nat) (Option.none : Option Jvm.ClassFile.FieldType)) ∈ vm_WS := vm_w5 58 rfl rfl
theorem ww_1107 : (Cond.methodLink "BagCountsLaw" (92 : Nat) ({ cls := "BagCountsModel", name := "tell", desc := "()I" } : Jvm.MethodName)) ∈ vm_WS := vm_w5 59 rfl rfl
theorem ww_1108 : (Cond.instanceMethod ({ cls := "BagCountsModel", name := "tell", desc := "()I" } : Jvm.MethodName)) ∈ vm_WS := vm_w5 60 rfl rfl
theorem ww_1109 : (Cond.selects "BagCountsModel" ({ cls := "BagCountsModel", name := "tell", desc := "()I" } : Jvm.MethodName) ({ cls := "BagCountsModel", name := "tell", desc := "()I" } : Jvm.MethodName)) ∈ vm_WS := vm_w5 61 rfl rfl
theorem ww_1110 : (Cond.code ({ cls := "BagCountsModel", name := "tell", desc := "()I" } : Jvm.MethodName) prog_10_method_80_code (2 : Nat) (Option.some Jvm.ClassFile.FieldType.int)) ∈ vm_WS := vm_w5 62 rfl rfl
theorem ww_1111 : (Cond.methodLink "BagCountsModel" (280 : Nat) ({ cls := "BagCountsModel", name := "fault", desc := "()I" } : Jvm.MethodName)) ∈ vm_WS := vm_w5 63 rfl rfl
theorem ww_1112 : (Cond.methodLink "BagCountsModel" (283 : Nat) ({ cls := "BagCountsModel", name := "tellOne", desc := "(I)I" } : Jvm.MethodName)) ∈ vm_WS := vm_w5 64 rfl rfl
theorem ww_1114 : (Cond.instanceMethod ({ cls := "BagCountsModel", name := "tellOne", desc := "(I)I" } : Jvm.MethodName)) ∈ vm_WS := vm_w5 66 rfl rfl
theorem ww_1115 : (Cond.code ({ cls := "BagCountsModel", name := "tellOne", desc := "(I)I" } : Jvm.MethodName) prog_10_method_79_code (3 : Nat) (Option.some Jvm.ClassFile.FieldType.int)) ∈ vm_WS := vm_w5 67 rfl rfl
theorem ww_1116 : (Cond.methodLink "BagCountsLaw" (96 : Nat) ({ cls := "BagCountsModel", name := "undo", desc := "()I" } : Jvm.MethodName)) ∈ vm_WS := vm_w5 68 rfl rfl
theorem ww_1117 : (Cond.instanceMethod ({ cls := "BagCountsModel", name := "undo", desc := "()I" } : Jvm.MethodName)) ∈ vm_WS := vm_w5 69 rfl rfl
theorem ww_1118 : (Cond.selects "BagCountsModel" ({ cls := "BagCountsModel", name := "undo", desc := "()I" } : Jvm.MethodName) ({ cls := "BagCountsModel", name := "undo", desc := "()I" } : Jvm.MethodName)) ∈ vm_WS := vm_w5 70 rfl rfl
theorem ww_1119 : (Cond.code ({ cls := "BagCountsModel", name := "undo", desc := "()I" } : Jvm.MethodName) prog_10_method_81_code (3 : Nat) (Option.some Jvm.ClassFile.FieldType.int)) ∈ vm_WS := vm_w5 71 rfl rfl
theorem ww_1120 : (Cond.methodLink "BagCountsLaw" (100 : Nat) ({ cls := "BagCountsModel", name := "save", desc := "(I)I" } : Jvm.MethodName)) ∈ vm_WS := vm_w5 72 rfl rfl
theorem ww_1121 : (Cond.instanceMethod ({ cls := "BagCountsModel", name := "save", desc := "(I)I" } : Jvm.MethodName)) ∈ vm_WS := vm_w5 73 rfl rfl
theorem ww_1122 : (Cond.selects "BagCountsModel" ({ cls := "BagCountsModel", name := "save", desc := "(I)I" } : Jvm.MethodName) ({ cls := "BagCountsModel", name := "save", desc := "(I)I" } : Jvm.MethodName)) ∈ vm_WS := vm_w5 74 rfl rfl
theorem ww_1123 : (Cond.code ({ cls := "BagCountsModel", name := "save", desc := "(I)I" } : Jvm.MethodName) prog_10_method_82_code (3 : Nat) (Option.some Jvm.ClassFile.FieldType.int)) ∈ vm_WS := vm_w5 75 rfl rfl
theorem ww_1124 : (Cond.methodLink "BagCountsLaw" (104 : Nat) ({ cls := "BagCountsModel", name := "restore", desc := "(I)I" } : Jvm.MethodName)) ∈ vm_WS := vm_w5 76 rfl rfl
theorem ww_1125 : (Cond.instanceMethod ({ cls := "BagCountsModel", name := "restore", desc := "(I)I" } : Jvm.MethodName)) ∈ vm_WS := vm_w5 77 rfl rfl
theorem ww_1126 : (Cond.selects "BagCountsModel" ({ cls := "BagCountsModel", name := "restore", desc := "(I)I" } : Jvm.MethodName) ({ cls := "BagCountsModel", name := "restore", desc := "(I)I" } : Jvm.MethodName)) ∈ vm_WS := vm_w5 78 rfl rfl
theorem ww_1127 : (Cond.code ({ cls := "BagCountsModel", name := "restore", desc := "(I)I" } : Jvm.MethodName) prog_10_method_83_code (3 : Nat) (Option.some Jvm.ClassFile.FieldType.int)) ∈ vm_WS := vm_w5 79 rfl rfl
theorem ww_1128 : (Cond.constantLong "BagCountsLaw" (74 : Nat) (4294967295 : Int64)) ∈ vm_WS := vm_w5 80 rfl rfl
theorem ww_0 : Cond.selects yX7_recordState.cls yX7_recordState yX7_recordState ∈ vm_WS := vm_s1 (q := (yX7_recordState, _)) 0 rfl rfl
theorem ww_1 : Cond.selects yX2_load.cls yX2_load yX2_load ∈ vm_WS := vm_s1 (q := (yX2_load, _)) 1 rfl rfl
theorem ww_2 : Cond.selects yX2_hasSizeFact.cls yX2_hasSizeFact yX2_hasSizeFact ∈ vm_WS := vm_s1 (q := (yX2_hasSizeFact, _)) 2 rfl rfl
theorem ww_3 : Cond.selects yX4_open.cls yX4_open yX4_open ∈ vm_WS := vm_s1 (q := (yX4_open, _)) 3 rfl rfl
theorem ww_4 : Cond.selects yX4_plus.cls yX4_plus yX4_plus ∈ vm_WS := vm_s1 (q := (yX4_plus, _)) 4 rfl rfl
theorem ww_5 : Cond.selects yX4_addTerm.cls yX4_addTerm yX4_addTerm ∈ vm_WS := vm_s1 (q := (yX4_addTerm, _)) 5 rfl rfl
theorem ww_6 : Cond.selects yX1_apply.cls yX1_apply yX1_apply ∈ vm_WS := vm_s1 (q := (yX1_apply, _)) 6 rfl rfl
theorem ww_7 : Cond.selects yX1_narrow.cls yX1_narrow yX1_narrow ∈ vm_WS := vm_s1 (q := (yX1_narrow, _)) 7 rfl rfl
theorem ww_8 : Cond.selects yX1_of.cls yX1_of yX1_of ∈ vm_WS := vm_s1 (q := (yX1_of, _)) 8 rfl rfl
theorem ww_9 : Cond.selects yX1_chain.cls yX1_chain yX1_chain ∈ vm_WS := vm_s1 (q := (yX1_chain, _)) 9 rfl rfl
theorem ww_10 : Cond.selects yX2_addFact.cls yX2_addFact yX2_addFact ∈ vm_WS := vm_s1 (q := (yX2_addFact, _)) 10 rfl rfl
theorem ww_11 : Cond.selects yX2_addColumn.cls yX2_addColumn yX2_addColumn ∈ vm_WS := vm_s1 (q := (yX2_addColumn, _)) 11 rfl rfl
theorem ww_12 : Cond.selects yX5_settle.cls yX5_settle yX5_settle ∈ vm_WS := vm_s1 (q := (yX5_settle, _)) 12 rfl rfl
theorem ww_13 : Cond.selects yX5_tightenLinear.cls yX5_tightenLinear yX5_tightenLinear ∈ vm_WS := vm_s1 (q := (yX5_tightenLinear, _)) 13 rfl rfl
theorem ww_14 : Cond.selects yX5_leastTerm.cls yX5_leastTerm yX5_leastTerm ∈ vm_WS := vm_s1 (q := (yX5_leastTerm, _)) 14 rfl rfl
theorem ww_15 : Cond.selects yX5_greatestTerm.cls yX5_greatestTerm yX5_greatestTerm ∈ vm_WS := vm_s1 (q := (yX5_greatestTerm, _)) 15 rfl rfl
theorem ww_16 : Cond.selects yX5_keep.cls yX5_keep yX5_keep ∈ vm_WS := vm_s2 (q := (yX5_keep, _)) 0 rfl rfl
theorem ww_17 : Cond.selects yX5_tightenChoice.cls yX5_tightenChoice yX5_tightenChoice ∈ vm_WS := vm_s2 (q := (yX5_tightenChoice, _)) 1 rfl rfl
theorem ww_18 : Cond.selects yX5_waysFrom.cls yX5_waysFrom yX5_waysFrom ∈ vm_WS := vm_s2 (q := (yX5_waysFrom, _)) 2 rfl rfl
theorem ww_19 : Cond.selects yX5_unfixed.cls yX5_unfixed yX5_unfixed ∈ vm_WS := vm_s2 (q := (yX5_unfixed, _)) 3 rfl rfl
theorem ww_20 : Cond.selects yX5_partOf.cls yX5_partOf yX5_partOf ∈ vm_WS := vm_s2 (q := (yX5_partOf, _)) 4 rfl rfl
theorem ww_21 : Cond.selects yX5_isSure.cls yX5_isSure yX5_isSure ∈ vm_WS := vm_s2 (q := (yX5_isSure, _)) 5 rfl rfl
theorem ww_22 : Cond.selects yX5_choose.cls yX5_choose yX5_choose ∈ vm_WS := vm_s2 (q := (yX5_choose, _)) 6 rfl rfl
theorem ww_23 : Cond.selects yX5_fix.cls yX5_fix yX5_fix ∈ vm_WS := vm_s2 (q := (yX5_fix, _)) 7 rfl rfl
theorem ww_24 : Cond.selects yX2_addOpposite.cls yX2_addOpposite yX2_addOpposite ∈ vm_WS := vm_s2 (q := (yX2_addOpposite, _)) 8 rfl rfl
theorem ww_25 : Cond.selects yX2_restrictOutside.cls yX2_restrictOutside yX2_restrictOutside ∈ vm_WS := vm_s2 (q := (yX2_restrictOutside, _)) 9 rfl rfl
theorem ww_26 : Cond.selects yX2_addOppositeOfKind.cls yX2_addOppositeOfKind yX2_addOppositeOfKind ∈ vm_WS := vm_s2 (q := (yX2_addOppositeOfKind, _)) 10 rfl rfl
theorem ww_27 : Cond.selects yX3_readFact.cls yX3_readFact yX3_readFact ∈ vm_WS := vm_s2 (q := (yX3_readFact, _)) 11 rfl rfl
theorem ww_28 : Cond.selects yX3_skip.cls yX3_skip yX3_skip ∈ vm_WS := vm_s2 (q := (yX3_skip, _)) 12 rfl rfl
theorem ww_29 : Cond.selects yX3_take.cls yX3_take yX3_take ∈ vm_WS := vm_s2 (q := (yX3_take, _)) 13 rfl rfl
theorem ww_30 : Cond.selects yX3_readSize.cls yX3_readSize yX3_readSize ∈ vm_WS := vm_s2 (q := (yX3_readSize, _)) 14 rfl rfl
theorem ww_31 : Cond.selects yX3_takeNumber.cls yX3_takeNumber yX3_takeNumber ∈ vm_WS := vm_s2 (q := (yX3_takeNumber, _)) 15 rfl rfl
theorem ww_32 : Cond.selects yX3_takeRangeEnd.cls yX3_takeRangeEnd yX3_takeRangeEnd ∈ vm_WS := vm_s3 (q := (yX3_takeRangeEnd, _)) 0 rfl rfl
theorem ww_33 : Cond.selects yX3_readOfKind.cls yX3_readOfKind yX3_readOfKind ∈ vm_WS := vm_s3 (q := (yX3_readOfKind, _)) 1 rfl rfl
theorem ww_34 : Cond.selects yX3_readDifference.cls yX3_readDifference yX3_readDifference ∈ vm_WS := vm_s3 (q := (yX3_readDifference, _)) 2 rfl rfl
theorem ww_35 : Cond.selects yX3_readOfThreeBags.cls yX3_readOfThreeBags yX3_readOfThreeBags ∈ vm_WS := vm_s3 (q := (yX3_readOfThreeBags, _)) 3 rfl rfl
theorem ww_36 : Cond.selects yX3_takeSign.cls yX3_takeSign yX3_takeSign ∈ vm_WS := vm_s3 (q := (yX3_takeSign, _)) 4 rfl rfl
theorem ww_37 : Cond.selects yX8_keep.cls yX8_keep yX8_keep ∈ vm_WS := vm_s3 (q := (yX8_keep, _)) 5 rfl rfl
theorem ww_38 : Cond.selects yX8_tryFact.cls yX8_tryFact yX8_tryFact ∈ vm_WS := vm_s3 (q := (yX8_tryFact, _)) 6 rfl rfl
theorem ww_39 : Cond.selects yX8_keepIf.cls yX8_keepIf yX8_keepIf ∈ vm_WS := vm_s3 (q := (yX8_keepIf, _)) 7 rfl rfl
theorem ww_40 : Cond.selects yX8_isToldFact.cls yX8_isToldFact yX8_isToldFact ∈ vm_WS := vm_s3 (q := (yX8_isToldFact, _)) 8 rfl rfl
theorem ww_41 : Cond.selects yX8_of.cls yX8_of yX8_of ∈ vm_WS := vm_s3 (q := (yX8_of, _)) 9 rfl rfl
theorem ww_42 : Cond.selects yX8_isSolvedNow.cls yX8_isSolvedNow yX8_isSolvedNow ∈ vm_WS := vm_s3 (q := (yX8_isSolvedNow, _)) 10 rfl rfl
theorem ww_43 : Cond.selects yX8_allFacts.cls yX8_allFacts yX8_allFacts ∈ vm_WS := vm_s3 (q := (yX8_allFacts, _)) 11 rfl rfl
theorem ww_44 : Cond.selects yX8_isSolved.cls yX8_isSolved yX8_isSolved ∈ vm_WS := vm_s3 (q := (yX8_isSolved, _)) 12 rfl rfl
theorem ww_45 : Cond.selects yX8_layAll.cls yX8_layAll yX8_layAll ∈ vm_WS := vm_s3 (q := (yX8_layAll, _)) 13 rfl rfl
theorem ww_46 : Cond.selects yX8_isSolvedByParts.cls yX8_isSolvedByParts yX8_isSolvedByParts ∈ vm_WS := vm_s3 (q := (yX8_isSolvedByParts, _)) 14 rfl rfl
theorem ww_47 : Cond.selects yX8_narrow.cls yX8_narrow yX8_narrow ∈ vm_WS := vm_s3 (q := (yX8_narrow, _)) 15 rfl rfl
theorem ww_48 : Cond.selects yX8_isEmpty.cls yX8_isEmpty yX8_isEmpty ∈ vm_WS := vm_s4 (q := (yX8_isEmpty, _)) 0 rfl rfl
theorem ww_49 : Cond.selects yX8_narrowBy.cls yX8_narrowBy yX8_narrowBy ∈ vm_WS := vm_s4 (q := (yX8_narrowBy, _)) 1 rfl rfl
theorem ww_50 : Cond.selects yX8_raise.cls yX8_raise yX8_raise ∈ vm_WS := vm_s4 (q := (yX8_raise, _)) 2 rfl rfl
theorem ww_51 : Cond.selects yX8_lower.cls yX8_lower yX8_lower ∈ vm_WS := vm_s4 (q := (yX8_lower, _)) 3 rfl rfl
theorem ww_52 : Cond.selects yX8_narrowSize.cls yX8_narrowSize yX8_narrowSize ∈ vm_WS := vm_s4 (q := (yX8_narrowSize, _)) 4 rfl rfl
theorem ww_53 : Cond.selects yX8_narrowMore.cls yX8_narrowMore yX8_narrowMore ∈ vm_WS := vm_s4 (q := (yX8_narrowMore, _)) 5 rfl rfl
theorem ww_54 : Cond.selects yX8_narrowBelow.cls yX8_narrowBelow yX8_narrowBelow ∈ vm_WS := vm_s4 (q := (yX8_narrowBelow, _)) 6 rfl rfl
theorem ww_55 : Cond.selects yX8_narrowAbove.cls yX8_narrowAbove yX8_narrowAbove ∈ vm_WS := vm_s4 (q := (yX8_narrowAbove, _)) 7 rfl rfl
theorem ww_56 : Cond.selects yX8_narrowKind.cls yX8_narrowKind yX8_narrowKind ∈ vm_WS := vm_s4 (q := (yX8_narrowKind, _)) 8 rfl rfl
theorem ww_57 : Cond.selects yX8_narrowSum.cls yX8_narrowSum yX8_narrowSum ∈ vm_WS := vm_s4 (q := (yX8_narrowSum, _)) 9 rfl rfl
theorem ww_58 : Cond.selects yX8_narrowTwice.cls yX8_narrowTwice yX8_narrowTwice ∈ vm_WS := vm_s4 (q := (yX8_narrowTwice, _)) 10 rfl rfl
theorem ww_59 : Cond.selects yX8_narrowGreatest.cls yX8_narrowGreatest yX8_narrowGreatest ∈ vm_WS := vm_s4 (q := (yX8_narrowGreatest, _)) 11 rfl rfl
theorem ww_60 : Cond.selects yX8_narrowLeast.cls yX8_narrowLeast yX8_narrowLeast ∈ vm_WS := vm_s4 (q := (yX8_narrowLeast, _)) 12 rfl rfl
theorem ww_61 : Cond.selects yX8_part.cls yX8_part yX8_part ∈ vm_WS := vm_s4 (q := (yX8_part, _)) 13 rfl rfl
theorem ww_62 : Cond.selects yX8_joinedTo.cls yX8_joinedTo yX8_joinedTo ∈ vm_WS := vm_s4 (q := (yX8_joinedTo, _)) 14 rfl rfl
theorem ww_63 : Cond.selects yX8_search.cls yX8_search yX8_search ∈ vm_WS := vm_s4 (q := (yX8_search, _)) 15 rfl rfl
theorem ww_64 : Cond.selects yX8_narrowest.cls yX8_narrowest yX8_narrowest ∈ vm_WS := vm_s5 (q := (yX8_narrowest, _)) 0 rfl rfl
theorem ww_65 : Cond.selects yX8_push.cls yX8_push yX8_push ∈ vm_WS := vm_s5 (q := (yX8_push, _)) 1 rfl rfl
theorem ww_66 : Cond.selects yX8_pull.cls yX8_pull yX8_pull ∈ vm_WS := vm_s5 (q := (yX8_pull, _)) 2 rfl rfl
theorem ww_67 : Cond.selects yX8_boundBy.cls yX8_boundBy yX8_boundBy ∈ vm_WS := vm_s5 (q := (yX8_boundBy, _)) 3 rfl rfl
theorem ww_68 : Cond.selects yX8_isSolvedWith.cls yX8_isSolvedWith yX8_isSolvedWith ∈ vm_WS := vm_s5 (q := (yX8_isSolvedWith, _)) 4 rfl rfl
theorem ww_69 : Cond.selects yX8_add.cls yX8_add yX8_add ∈ vm_WS := vm_s5 (q := (yX8_add, _)) 5 rfl rfl
theorem ww_70 : Cond.selects yX8_findFirst.cls yX8_findFirst yX8_findFirst ∈ vm_WS := vm_s5 (q := (yX8_findFirst, _)) 6 rfl rfl
theorem ww_71 : Cond.selects yX8_isSolvedFrom.cls yX8_isSolvedFrom yX8_isSolvedFrom ∈ vm_WS := vm_s5 (q := (yX8_isSolvedFrom, _)) 7 rfl rfl
theorem ww_72 : Cond.selects yX8_countAll.cls yX8_countAll yX8_countAll ∈ vm_WS := vm_s5 (q := (yX8_countAll, _)) 8 rfl rfl
theorem ww_73 : Cond.selects yX8_canFail.cls yX8_canFail yX8_canFail ∈ vm_WS := vm_s5 (q := (yX8_canFail, _)) 9 rfl rfl
theorem ww_74 : Cond.selects yX8_failsAt.cls yX8_failsAt yX8_failsAt ∈ vm_WS := vm_s5 (q := (yX8_failsAt, _)) 10 rfl rfl
theorem ww_75 : Cond.selects yX8_isSolvedWithBoth.cls yX8_isSolvedWithBoth yX8_isSolvedWithBoth ∈ vm_WS := vm_s5 (q := (yX8_isSolvedWithBoth, _)) 11 rfl rfl
theorem ww_76 : Cond.selects yX8_takeFact.cls yX8_takeFact yX8_takeFact ∈ vm_WS := vm_s5 (q := (yX8_takeFact, _)) 12 rfl rfl
theorem ww_77 : Cond.selects yX8_enter.cls yX8_enter yX8_enter ∈ vm_WS := vm_s5 (q := (yX8_enter, _)) 13 rfl rfl
theorem ww_78 : Cond.selects yX8_next.cls yX8_next yX8_next ∈ vm_WS := vm_s5 (q := (yX8_next, _)) 14 rfl rfl
theorem ww_79 : Cond.selects yX8_takeOne.cls yX8_takeOne yX8_takeOne ∈ vm_WS := vm_s5 (q := (yX8_takeOne, _)) 15 rfl rfl
theorem ww_80 : Cond.selects yX8_takeSign.cls yX8_takeSign yX8_takeSign ∈ vm_WS := vm_s6 (q := (yX8_takeSign, _)) 0 rfl rfl
theorem ww_81 : Cond.selects yX8_takeRange.cls yX8_takeRange yX8_takeRange ∈ vm_WS := vm_s6 (q := (yX8_takeRange, _)) 1 rfl rfl
theorem ww_82 : Cond.selects yX8_takeNumber.cls yX8_takeNumber yX8_takeNumber ∈ vm_WS := vm_s6 (q := (yX8_takeNumber, _)) 2 rfl rfl
theorem ww_83 : Cond.selects yX8_takeBag.cls yX8_takeBag yX8_takeBag ∈ vm_WS := vm_s6 (q := (yX8_takeBag, _)) 3 rfl rfl
theorem ww_84 : Cond.selects yX8_takeBags.cls yX8_takeBags yX8_takeBags ∈ vm_WS := vm_s6 (q := (yX8_takeBags, _)) 4 rfl rfl
theorem ww_85 : Cond.selects yX8_takeKind.cls yX8_takeKind yX8_takeKind ∈ vm_WS := vm_s6 (q := (yX8_takeKind, _)) 5 rfl rfl
theorem ww_86 : Cond.selects yX8_takeMore.cls yX8_takeMore yX8_takeMore ∈ vm_WS := vm_s6 (q := (yX8_takeMore, _)) 6 rfl rfl
theorem ww_87 : Cond.selects yX8_tellOne.cls yX8_tellOne yX8_tellOne ∈ vm_WS := vm_s6 (q := (yX8_tellOne, _)) 7 rfl rfl
theorem inw0 : ∀ w ∈ u_ws RX0 TX0 3, w ∈ vm_WS := List.forall_mem_cons.mpr ⟨ww_121, List.forall_mem_cons.mpr ⟨ww_123, List.forall_mem_cons.mpr ⟨ww_125, fun _ h => absurd h List.not_mem_nil⟩⟩⟩
theorem clk0 : vm_clk 0 RX0 TX0 3 tyX0 := ⟨rfl, inw0, tyX0_ok, nmX0, rfl⟩
theorem inw1 : ∀ w ∈ u_ws RX1 TX1 3, w ∈ vm_WS := List.forall_mem_cons.mpr ⟨ww_212, List.forall_mem_cons.mpr ⟨ww_214, List.forall_mem_cons.mpr ⟨ww_216, fun _ h => absurd h List.not_mem_nil⟩⟩⟩
theorem clk1 : vm_clk 1 RX1 TX1 3 tyX1 := ⟨rfl, inw1, tyX1_ok, nmX1, rfl⟩
theorem inw2 : ∀ w ∈ u_ws RX2 TX2 2, w ∈ vm_WS := List.forall_mem_cons.mpr ⟨ww_221, List.forall_mem_cons.mpr ⟨ww_223, fun _ h => absurd h List.not_mem_nil⟩⟩
theorem clk2 : vm_clk 2 RX2 TX2 2 tyX2 := ⟨rfl, inw2, tyX2_ok, nmX2, rfl⟩
theorem inw3 : ∀ w ∈ u_ws RX3 TX3 9, w ∈ vm_WS := List.forall_mem_cons.mpr ⟨ww_242, List.forall_mem_cons.mpr ⟨ww_244, List.forall_mem_cons.mpr ⟨ww_246, List.forall_mem_cons.mpr ⟨ww_248, List.forall_mem_cons.mpr ⟨ww_250, List.forall_mem_cons.mpr ⟨ww_252, List.forall_mem_cons.mpr ⟨ww_254, List.forall_mem_cons.mpr ⟨ww_256, List.forall_mem_cons.mpr ⟨ww_258, fun _ h => absurd h List.not_mem_nil⟩⟩⟩⟩⟩⟩⟩⟩⟩
theorem clk3 : vm_clk 3 RX3 TX3 9 tyX3 := ⟨rfl, inw3, tyX3_ok, nmX3, rfl⟩
theorem inw4 : ∀ w ∈ u_ws RX4 TX4 9, w ∈ vm_WS := List.forall_mem_cons.mpr ⟨ww_165, List.forall_mem_cons.mpr ⟨ww_167, List.forall_mem_cons.mpr ⟨ww_169, List.forall_mem_cons.mpr ⟨ww_171, List.forall_mem_cons.mpr ⟨ww_173, List.forall_mem_cons.mpr ⟨ww_175, List.forall_mem_cons.mpr ⟨ww_177, List.forall_mem_cons.mpr ⟨ww_179, List.forall_mem_cons.mpr ⟨ww_181, fun _ h => absurd h List.not_mem_nil⟩⟩⟩⟩⟩⟩⟩⟩⟩
theorem clk4 : vm_clk 4 RX4 TX4 9 tyX4 := ⟨rfl, inw4, tyX4_ok, nmX4, rfl⟩
theorem inw5 : ∀ w ∈ u_ws RX5 TX5 5, w ∈ vm_WS := List.forall_mem_cons.mpr ⟨ww_192, List.forall_mem_cons.mpr ⟨ww_194, List.forall_mem_cons.mpr ⟨ww_196, List.forall_mem_cons.mpr ⟨ww_198, List.forall_mem_cons.mpr ⟨ww_200, fun _ h => absurd h List.not_mem_nil⟩⟩⟩⟩⟩
theorem clk5 : vm_clk 5 RX5 TX5 5 tyX5 := ⟨rfl, inw5, tyX5_ok, nmX5, rfl⟩
theorem inw6 : ∀ w ∈ u_ws RX6 TX6 2, w ∈ vm_WS := List.forall_mem_cons.mpr ⟨ww_270, List.forall_mem_cons.mpr ⟨ww_272, fun _ h => absurd h List.not_mem_nil⟩⟩
theorem clk6 : vm_clk 6 RX6 TX6 2 tyX6 := ⟨rfl, inw6, tyX6_ok, nmX6, rfl⟩
theorem inw7 : ∀ w ∈ u_ws RX7 TX7 7, w ∈ vm_WS := List.forall_mem_cons.mpr ⟨ww_282, List.forall_mem_cons.mpr ⟨ww_284, List.forall_mem_cons.mpr ⟨ww_286, List.forall_mem_cons.mpr ⟨ww_288, List.forall_mem_cons.mpr ⟨ww_290, List.forall_mem_cons.mpr ⟨ww_292, List.forall_mem_cons.mpr ⟨ww_294, fun _ h => absurd h List.not_mem_nil⟩⟩⟩⟩⟩⟩⟩
theorem clk7 : vm_clk 7 RX7 TX7 7 tyX7 := ⟨rfl, inw7, tyX7_ok, nmX7, rfl⟩
theorem inw8 : ∀ w ∈ u_ws RX8 TX8 23, w ∈ vm_WS := List.forall_mem_cons.mpr ⟨ww_763, List.forall_mem_cons.mpr ⟨ww_765, List.forall_mem_cons.mpr ⟨ww_767, List.forall_mem_cons.mpr ⟨ww_769, List.forall_mem_cons.mpr ⟨ww_771, List.forall_mem_cons.mpr ⟨ww_773, List.forall_mem_cons.mpr ⟨ww_775, List.forall_mem_cons.mpr ⟨ww_777, List.forall_mem_cons.mpr ⟨ww_779, List.forall_mem_cons.mpr ⟨ww_781, List.forall_mem_cons.mpr ⟨ww_783, List.forall_mem_cons.mpr ⟨ww_785, List.forall_mem_cons.mpr ⟨ww_787, List.forall_mem_cons.mpr ⟨ww_789, List.forall_mem_cons.mpr ⟨ww_791, List.forall_mem_cons.mpr ⟨ww_793, List.forall_mem_cons.mpr ⟨ww_795, List.forall_mem_cons.mpr ⟨ww_797, List.forall_mem_cons.mpr ⟨ww_799, List.forall_mem_cons.mpr ⟨ww_801, List.forall_mem_cons.mpr ⟨ww_803, List.forall_mem_cons.mpr ⟨ww_805, List.forall_mem_cons.mpr ⟨ww_807, fun _ h => absurd h List.not_mem_nil⟩⟩⟩⟩⟩⟩⟩⟩⟩⟩⟩⟩⟩⟩⟩⟩⟩⟩⟩⟩⟩⟩⟩
theorem clk8 : vm_clk 8 RX8 TX8 23 tyX8 := ⟨rfl, inw8, tyX8_ok, nmX8, rfl⟩
