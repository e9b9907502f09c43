/-! the good words of the tables, by their places -/
def zU : List Cond := lw_tbl.filter goodWord
theorem zt1 {i : Nat} {w : Cond} (h0 : tables_1_1[i]? = some w) (hg : goodWord w = true) : w ∈ zU := List.mem_filter.mpr ⟨by
  have h := List.mem_of_getElem? h0
  exact List.mem_append_right _ (List.mem_append_left _ h), hg⟩
theorem zt2 {i : Nat} {w : Cond} (h0 : tables_1_2[i]? = some w) (hg : goodWord w = true) : w ∈ zU := List.mem_filter.mpr ⟨by
  have h := List.mem_of_getElem? h0
  exact List.mem_append_right _ (List.mem_append_right _ (List.mem_append_left _ h)), hg⟩
theorem zt3 {i : Nat} {w : Cond} (h0 : tables_1_3[i]? = some w) (hg : goodWord w = true) : w ∈ zU := List.mem_filter.mpr ⟨by
  have h := List.mem_of_getElem? h0
  exact List.mem_append_right _ (List.mem_append_right _ (List.mem_append_right _ (List.mem_append_left _ h))), hg⟩
theorem zt4 {i : Nat} {w : Cond} (h0 : tables_1_4[i]? = some w) (hg : goodWord w = true) : w ∈ zU := List.mem_filter.mpr ⟨by
  have h := List.mem_of_getElem? h0
  exact List.mem_append_right _ (List.mem_append_right _ (List.mem_append_right _ (List.mem_append_right _ (List.mem_append_left _ h)))), hg⟩
theorem zt5 {i : Nat} {w : Cond} (h0 : tables_1_5[i]? = some w) (hg : goodWord w = true) : w ∈ zU := List.mem_filter.mpr ⟨by
  have h := List.mem_of_getElem? h0
  exact List.mem_append_right _ (List.mem_append_right _ (List.mem_append_right _ (List.mem_append_right _ (List.mem_append_right _ (List.mem_append_left _ h))))), hg⟩
theorem zt6 {i : Nat} {w : Cond} (h0 : tables_1_6[i]? = some w) (hg : goodWord w = true) : w ∈ zU := List.mem_filter.mpr ⟨by
  have h := List.mem_of_getElem? h0
  exact List.mem_append_right _ (List.mem_append_right _ (List.mem_append_right _ (List.mem_append_right _ (List.mem_append_right _ (List.mem_append_right _ h))))), hg⟩
theorem zsel {i : Nat} {q : MethodName × Nat} (h0 : lw_privs[i]? = some q) : Cond.selects q.1.cls q.1 q.1 ∈ zU := List.mem_filter.mpr ⟨List.mem_append_left _ (List.mem_map.mpr ⟨q, List.mem_of_getElem? h0, rfl⟩), rfl⟩
theorem q1_0 : Cond.initialized "SnowCitizensLaw" ∈ zU := zt1 (i := 0) rfl rfl
theorem q1_1 : Cond.initialized "SnowCitizens" ∈ zU := zt1 (i := 1) rfl rfl
theorem q1_2 : Cond.initialized "SnowCitizens$North" ∈ zU := zt1 (i := 2) rfl rfl
theorem q1_3 : Cond.initialized "SnowCitizens$Reading" ∈ zU := zt1 (i := 3) rfl rfl
theorem q1_4 : Cond.initialized "SnowCitizens$Game" ∈ zU := zt1 (i := 4) rfl rfl
theorem q1_5 : Cond.initialized "SnowCitizens$Clouds" ∈ zU := zt1 (i := 5) rfl rfl
theorem q1_6 : Cond.initialized "SnowCitizens$Row" ∈ zU := zt1 (i := 6) rfl rfl
theorem q1_7 : Cond.initialized "SnowCitizens$Text" ∈ zU := zt1 (i := 7) rfl rfl
theorem q1_8 : Cond.initialized "SnowCitizensModel" ∈ zU := zt1 (i := 8) rfl rfl
theorem q1_9 : Cond.initialized "java/lang/System" ∈ zU := zt1 (i := 9) rfl rfl
theorem q1_10 : Cond.initialized "java/lang/Math" ∈ zU := zt1 (i := 10) rfl rfl
theorem q1_11 : Cond.initialized "java/lang/Integer" ∈ zU := zt1 (i := 11) rfl rfl
theorem q1_12 : Cond.classLink RL 7 "SnowCitizens" ∈ zU := zt1 (i := 12) rfl rfl
theorem q1_13 : Cond.instantiable "SnowCitizens" 17 ∈ zU := zt1 (i := 13) rfl rfl
theorem q1_14 : Cond.methodLink RL 9 yX6_init ∈ zU := zt1 (i := 14) rfl rfl
theorem q1_15 : Cond.instanceMethod yX6_init ∈ zU := zt1 (i := 15) rfl rfl
theorem q1_16 : Cond.code yX6_init cX6_init 2 none ∈ zU := zt1 (i := 16) rfl rfl
theorem q1_17 : Cond.methodLink RX6 1 objectInit ∈ zU := zt1 (i := 17) rfl rfl
theorem q1_18 : Cond.instanceMethod objectInit ∈ zU := zt1 (i := 18) rfl rfl
theorem q1_19 : Cond.code objectInit object_method_1_code 1 none ∈ zU := zt1 (i := 19) rfl rfl
theorem q1_20 : Cond.classLink RX6 9 "SnowCitizens$Row" ∈ zU := zt1 (i := 20) rfl rfl
theorem q1_22 : Cond.classLink RX6 15 "SnowCitizens$Text" ∈ zU := zt1 (i := 22) rfl rfl
theorem q1_24 : Cond.classLink RX6 21 "SnowCitizens$North" ∈ zU := zt1 (i := 24) rfl rfl
theorem q1_25 : Cond.instantiable "SnowCitizens$North" 14 ∈ zU := zt1 (i := 25) rfl rfl
theorem q1_27 : Cond.instanceMethod yX2_init ∈ zU := zt1 (i := 27) rfl rfl
theorem q1_28 : Cond.code yX2_init cX2_init 1 none ∈ zU := zt1 (i := 28) rfl rfl
theorem q1_29 : Cond.methodLink RX2 3 objectInit ∈ zU := zt1 (i := 29) rfl rfl
theorem q1_30 : Cond.fieldLink RX1 18 "SnowCitizens$North" "men" "I" ∈ zU := zt1 (i := 30) rfl rfl
theorem q1_31 : Cond.fieldLink RX2 48 "SnowCitizens$North" "men" "I" ∈ zU := zt1 (i := 31) rfl rfl
theorem q1_32 : Cond.fieldLink RX6 152 "SnowCitizens$North" "men" "I" ∈ zU := zt1 (i := 32) rfl rfl
theorem q1_33 : Cond.fieldLink RX2 52 "SnowCitizens$North" "rightNow" "I" ∈ zU := zt1 (i := 33) rfl rfl
theorem q1_34 : Cond.fieldLink RX6 195 "SnowCitizens$North" "rightNow" "I" ∈ zU := zt1 (i := 34) rfl rfl
theorem q1_35 : Cond.fieldLink RX2 70 "SnowCitizens$North" "today" "I" ∈ zU := zt1 (i := 35) rfl rfl
theorem q1_36 : Cond.fieldLink RX6 223 "SnowCitizens$North" "today" "I" ∈ zU := zt1 (i := 36) rfl rfl
theorem q1_37 : Cond.fieldLink RX2 64 "SnowCitizens$North" "deeds" "I" ∈ zU := zt1 (i := 37) rfl rfl
theorem q1_38 : Cond.fieldLink RX6 198 "SnowCitizens$North" "deeds" "I" ∈ zU := zt1 (i := 38) rfl rfl
theorem q1_39 : Cond.fieldLink RX2 9 "SnowCitizens$North" "suns" "[I" ∈ zU := zt1 (i := 39) rfl rfl
theorem q1_40 : Cond.fieldLink RX2 15 "SnowCitizens$North" "kindOf" "[I" ∈ zU := zt1 (i := 40) rfl rfl
theorem q1_41 : Cond.fieldLink RX6 163 "SnowCitizens$North" "kindOf" "[I" ∈ zU := zt1 (i := 41) rfl rfl
theorem q1_42 : Cond.fieldLink RX2 18 "SnowCitizens$North" "voteOf" "[I" ∈ zU := zt1 (i := 42) rfl rfl
theorem q1_43 : Cond.fieldLink RX2 21 "SnowCitizens$North" "bulkOf" "[I" ∈ zU := zt1 (i := 43) rfl rfl
theorem q1_44 : Cond.fieldLink RX0 22 "SnowCitizens$North" "bulkOf" "[I" ∈ zU := zt1 (i := 44) rfl rfl
theorem q1_45 : Cond.fieldLink RX6 169 "SnowCitizens$North" "bulkOf" "[I" ∈ zU := zt1 (i := 45) rfl rfl
theorem q1_46 : Cond.fieldLink RX2 24 "SnowCitizens$North" "shadeOf" "[I" ∈ zU := zt1 (i := 46) rfl rfl
theorem q1_47 : Cond.fieldLink RX1 36 "SnowCitizens$North" "shadeOf" "[I" ∈ zU := zt1 (i := 47) rfl rfl
theorem q1_48 : Cond.fieldLink RX6 214 "SnowCitizens$North" "shadeOf" "[I" ∈ zU := zt1 (i := 48) rfl rfl
theorem q1_49 : Cond.fieldLink RX2 27 "SnowCitizens$North" "firstBulkOf" "[I" ∈ zU := zt1 (i := 49) rfl rfl
theorem q1_50 : Cond.fieldLink RX2 30 "SnowCitizens$North" "firstShadeOf" "[I" ∈ zU := zt1 (i := 50) rfl rfl
theorem q1_51 : Cond.fieldLink RX2 33 "SnowCitizens$North" "deedSorts" "[I" ∈ zU := zt1 (i := 51) rfl rfl
theorem q1_52 : Cond.fieldLink RX2 36 "SnowCitizens$North" "deedMen" "[I" ∈ zU := zt1 (i := 52) rfl rfl
theorem q1_53 : Cond.fieldLink RX2 39 "SnowCitizens$North" "deedValues" "[I" ∈ zU := zt1 (i := 53) rfl rfl
theorem q1_54 : Cond.lays "SnowCitizens$North" "SnowCitizens$North" "men" "I" ∈ zU := zt1 (i := 54) rfl rfl
theorem q1_56 : Cond.lays "SnowCitizens$North" "SnowCitizens$North" "rightNow" "I" ∈ zU := zt1 (i := 56) rfl rfl
theorem q1_58 : Cond.lays "SnowCitizens$North" "SnowCitizens$North" "today" "I" ∈ zU := zt1 (i := 58) rfl rfl
theorem q1_60 : Cond.lays "SnowCitizens$North" "SnowCitizens$North" "deeds" "I" ∈ zU := zt1 (i := 60) rfl rfl
theorem q1_62 : Cond.laysFinal "SnowCitizens$North" "SnowCitizens$North" "suns" "[I" ∈ zU := zt1 (i := 62) rfl rfl
theorem q1_64 : Cond.laysFinal "SnowCitizens$North" "SnowCitizens$North" "kindOf" "[I" ∈ zU := zt1 (i := 64) rfl rfl
theorem q1_66 : Cond.laysFinal "SnowCitizens$North" "SnowCitizens$North" "voteOf" "[I" ∈ zU := zt1 (i := 66) rfl rfl
theorem q1_68 : Cond.laysFinal "SnowCitizens$North" "SnowCitizens$North" "bulkOf" "[I" ∈ zU := zt1 (i := 68) rfl rfl
theorem q1_70 : Cond.laysFinal "SnowCitizens$North" "SnowCitizens$North" "shadeOf" "[I" ∈ zU := zt1 (i := 70) rfl rfl
theorem q1_72 : Cond.laysFinal "SnowCitizens$North" "SnowCitizens$North" "firstBulkOf" "[I" ∈ zU := zt1 (i := 72) rfl rfl
theorem q1_74 : Cond.laysFinal "SnowCitizens$North" "SnowCitizens$North" "firstShadeOf" "[I" ∈ zU := zt1 (i := 74) rfl rfl
theorem q1_76 : Cond.laysFinal "SnowCitizens$North" "SnowCitizens$North" "deedSorts" "[I" ∈ zU := zt1 (i := 76) rfl rfl
theorem q1_78 : Cond.laysFinal "SnowCitizens$North" "SnowCitizens$North" "deedMen" "[I" ∈ zU := zt1 (i := 78) rfl rfl
theorem q1_80 : Cond.laysFinal "SnowCitizens$North" "SnowCitizens$North" "deedValues" "[I" ∈ zU := zt1 (i := 80) rfl rfl
theorem q1_83 : Cond.arrayClass .int ∈ zU := zt1 (i := 83) rfl rfl
theorem q1_85 : Cond.classLink RX6 32 "SnowCitizens$Reading" ∈ zU := zt1 (i := 85) rfl rfl
theorem q1_86 : Cond.instantiable "SnowCitizens$Reading" 8 ∈ zU := zt1 (i := 86) rfl rfl
theorem q1_88 : Cond.instanceMethod yX3_init ∈ zU := zt1 (i := 88) rfl rfl
theorem q1_89 : Cond.code yX3_init cX3_init 1 none ∈ zU := zt1 (i := 89) rfl rfl
theorem q1_90 : Cond.methodLink RX3 3 objectInit ∈ zU := zt1 (i := 90) rfl rfl
theorem q1_91 : Cond.fieldLink RX3 27 "SnowCitizens$Reading" "stage" "I" ∈ zU := zt1 (i := 91) rfl rfl
theorem q1_92 : Cond.fieldLink RX2 42 "SnowCitizens$Reading" "men" "I" ∈ zU := zt1 (i := 92) rfl rfl
theorem q1_93 : Cond.fieldLink RX3 31 "SnowCitizens$Reading" "men" "I" ∈ zU := zt1 (i := 93) rfl rfl
theorem q1_94 : Cond.fieldLink RX2 49 "SnowCitizens$Reading" "right" "I" ∈ zU := zt1 (i := 94) rfl rfl
theorem q1_95 : Cond.fieldLink RX3 63 "SnowCitizens$Reading" "right" "I" ∈ zU := zt1 (i := 95) rfl rfl
theorem q1_96 : Cond.fieldLink RX3 9 "SnowCitizens$Reading" "suns" "[I" ∈ zU := zt1 (i := 96) rfl rfl
theorem q1_97 : Cond.fieldLink RX2 55 "SnowCitizens$Reading" "suns" "[I" ∈ zU := zt1 (i := 97) rfl rfl
theorem q1_98 : Cond.fieldLink RX3 15 "SnowCitizens$Reading" "kindOf" "[I" ∈ zU := zt1 (i := 98) rfl rfl
theorem q1_99 : Cond.fieldLink RX2 60 "SnowCitizens$Reading" "kindOf" "[I" ∈ zU := zt1 (i := 99) rfl rfl
theorem q1_100 : Cond.fieldLink RX3 18 "SnowCitizens$Reading" "bulkOf" "[I" ∈ zU := zt1 (i := 100) rfl rfl
theorem q1_101 : Cond.fieldLink RX2 62 "SnowCitizens$Reading" "bulkOf" "[I" ∈ zU := zt1 (i := 101) rfl rfl
theorem q1_102 : Cond.fieldLink RX3 21 "SnowCitizens$Reading" "shadeOf" "[I" ∈ zU := zt1 (i := 102) rfl rfl
theorem q1_103 : Cond.fieldLink RX2 63 "SnowCitizens$Reading" "shadeOf" "[I" ∈ zU := zt1 (i := 103) rfl rfl
theorem q1_104 : Cond.fieldLink RX3 24 "SnowCitizens$Reading" "voteOf" "[I" ∈ zU := zt1 (i := 104) rfl rfl
theorem q1_105 : Cond.fieldLink RX2 61 "SnowCitizens$Reading" "voteOf" "[I" ∈ zU := zt1 (i := 105) rfl rfl
theorem q1_106 : Cond.lays "SnowCitizens$Reading" "SnowCitizens$Reading" "stage" "I" ∈ zU := zt1 (i := 106) rfl rfl
theorem q1_108 : Cond.lays "SnowCitizens$Reading" "SnowCitizens$Reading" "men" "I" ∈ zU := zt1 (i := 108) rfl rfl
theorem q1_110 : Cond.lays "SnowCitizens$Reading" "SnowCitizens$Reading" "right" "I" ∈ zU := zt1 (i := 110) rfl rfl
theorem q1_112 : Cond.laysFinal "SnowCitizens$Reading" "SnowCitizens$Reading" "suns" "[I" ∈ zU := zt1 (i := 112) rfl rfl
theorem q1_114 : Cond.laysFinal "SnowCitizens$Reading" "SnowCitizens$Reading" "kindOf" "[I" ∈ zU := zt1 (i := 114) rfl rfl
theorem q1_116 : Cond.laysFinal "SnowCitizens$Reading" "SnowCitizens$Reading" "bulkOf" "[I" ∈ zU := zt1 (i := 116) rfl rfl
theorem q1_118 : Cond.laysFinal "SnowCitizens$Reading" "SnowCitizens$Reading" "shadeOf" "[I" ∈ zU := zt1 (i := 118) rfl rfl
theorem q1_120 : Cond.laysFinal "SnowCitizens$Reading" "SnowCitizens$Reading" "voteOf" "[I" ∈ zU := zt1 (i := 120) rfl rfl
theorem q1_123 : Cond.classLink RX6 39 "SnowCitizens$Game" ∈ zU := zt1 (i := 123) rfl rfl
theorem q1_124 : Cond.instantiable "SnowCitizens$Game" 5 ∈ zU := zt1 (i := 124) rfl rfl
theorem q1_126 : Cond.instanceMethod yX1_init ∈ zU := zt1 (i := 126) rfl rfl
theorem q1_127 : Cond.code yX1_init cX1_init 1 none ∈ zU := zt1 (i := 127) rfl rfl
theorem q1_128 : Cond.methodLink RX1 3 objectInit ∈ zU := zt1 (i := 128) rfl rfl
theorem q1_129 : Cond.fieldLink RX1 24 "SnowCitizens$Game" "men" "I" ∈ zU := zt1 (i := 129) rfl rfl
theorem q1_130 : Cond.fieldLink RX1 25 "SnowCitizens$Game" "voters" "I" ∈ zU := zt1 (i := 130) rfl rfl
theorem q1_131 : Cond.fieldLink RX1 45 "SnowCitizens$Game" "carriedBy" "J" ∈ zU := zt1 (i := 131) rfl rfl
theorem q1_132 : Cond.fieldLink RX1 9 "SnowCitizens$Game" "shadeOf" "[I" ∈ zU := zt1 (i := 132) rfl rfl
theorem q1_133 : Cond.fieldLink RX1 15 "SnowCitizens$Game" "rightBy" "[I" ∈ zU := zt1 (i := 133) rfl rfl
theorem q1_134 : Cond.lays "SnowCitizens$Game" "SnowCitizens$Game" "men" "I" ∈ zU := zt1 (i := 134) rfl rfl
theorem q1_136 : Cond.lays "SnowCitizens$Game" "SnowCitizens$Game" "voters" "I" ∈ zU := zt1 (i := 136) rfl rfl
theorem q1_138 : Cond.lays "SnowCitizens$Game" "SnowCitizens$Game" "carriedBy" "J" ∈ zU := zt1 (i := 138) rfl rfl
theorem q1_140 : Cond.laysFinal "SnowCitizens$Game" "SnowCitizens$Game" "shadeOf" "[I" ∈ zU := zt1 (i := 140) rfl rfl
theorem q1_142 : Cond.laysFinal "SnowCitizens$Game" "SnowCitizens$Game" "rightBy" "[I" ∈ zU := zt1 (i := 142) rfl rfl
theorem q1_145 : Cond.classLink RX6 46 "SnowCitizens$Clouds" ∈ zU := zt1 (i := 145) rfl rfl
theorem q1_146 : Cond.instantiable "SnowCitizens$Clouds" 3 ∈ zU := zt1 (i := 146) rfl rfl
theorem q1_148 : Cond.instanceMethod yX0_init ∈ zU := zt1 (i := 148) rfl rfl
theorem q1_149 : Cond.code yX0_init cX0_init 1 none ∈ zU := zt1 (i := 149) rfl rfl
theorem q1_150 : Cond.methodLink RX0 3 objectInit ∈ zU := zt1 (i := 150) rfl rfl
theorem q1_151 : Cond.fieldLink RX0 9 "SnowCitizens$Clouds" "ways" "[J" ∈ zU := zt1 (i := 151) rfl rfl
theorem q1_152 : Cond.fieldLink RX0 15 "SnowCitizens$Clouds" "next" "[J" ∈ zU := zt1 (i := 152) rfl rfl
theorem q1_153 : Cond.fieldLink RX0 36 "SnowCitizens$Clouds" "allWays" "J" ∈ zU := zt1 (i := 153) rfl rfl
theorem q1_154 : Cond.fieldLink RX6 324 "SnowCitizens$Clouds" "allWays" "J" ∈ zU := zt1 (i := 154) rfl rfl
theorem q1_155 : Cond.laysFinal "SnowCitizens$Clouds" "SnowCitizens$Clouds" "ways" "[J" ∈ zU := zt1 (i := 155) rfl rfl
theorem q1_157 : Cond.laysFinal "SnowCitizens$Clouds" "SnowCitizens$Clouds" "next" "[J" ∈ zU := zt1 (i := 157) rfl rfl
theorem q1_159 : Cond.lays "SnowCitizens$Clouds" "SnowCitizens$Clouds" "allWays" "J" ∈ zU := zt1 (i := 159) rfl rfl
theorem q1_162 : Cond.arrayClass .long ∈ zU := zt1 (i := 162) rfl rfl
theorem q1_163 : Cond.instantiable "SnowCitizens$Row" 3 ∈ zU := zt1 (i := 163) rfl rfl
theorem q1_165 : Cond.instanceMethod yX4_init ∈ zU := zt1 (i := 165) rfl rfl
theorem q1_166 : Cond.code yX4_init cX4_init 1 none ∈ zU := zt1 (i := 166) rfl rfl
theorem q1_167 : Cond.methodLink RX4 3 objectInit ∈ zU := zt1 (i := 167) rfl rfl
theorem q1_168 : Cond.fieldLink RX4 15 "SnowCitizens$Row" "there" "Z" ∈ zU := zt1 (i := 168) rfl rfl
theorem q1_169 : Cond.fieldLink RX6 90 "SnowCitizens$Row" "there" "Z" ∈ zU := zt1 (i := 169) rfl rfl
theorem q1_170 : Cond.fieldLink RX4 19 "SnowCitizens$Row" "size" "I" ∈ zU := zt1 (i := 170) rfl rfl
theorem q1_171 : Cond.fieldLink RX6 94 "SnowCitizens$Row" "size" "I" ∈ zU := zt1 (i := 171) rfl rfl
theorem q1_172 : Cond.fieldLink RX4 9 "SnowCitizens$Row" "cells" "[I" ∈ zU := zt1 (i := 172) rfl rfl
theorem q1_173 : Cond.fieldLink RX6 98 "SnowCitizens$Row" "cells" "[I" ∈ zU := zt1 (i := 173) rfl rfl
theorem q1_174 : Cond.lays "SnowCitizens$Row" "SnowCitizens$Row" "there" "Z" ∈ zU := zt1 (i := 174) rfl rfl
theorem q1_176 : Cond.lays "SnowCitizens$Row" "SnowCitizens$Row" "size" "I" ∈ zU := zt1 (i := 176) rfl rfl
theorem q1_178 : Cond.laysFinal "SnowCitizens$Row" "SnowCitizens$Row" "cells" "[I" ∈ zU := zt1 (i := 178) rfl rfl
theorem q1_181 : Cond.instantiable "SnowCitizens$Text" 3 ∈ zU := zt1 (i := 181) rfl rfl
theorem q1_183 : Cond.instanceMethod yX5_init ∈ zU := zt1 (i := 183) rfl rfl
theorem q1_184 : Cond.code yX5_init cX5_init 1 none ∈ zU := zt1 (i := 184) rfl rfl
theorem q1_185 : Cond.methodLink RX5 3 objectInit ∈ zU := zt1 (i := 185) rfl rfl
theorem q1_186 : Cond.fieldLink RX5 15 "SnowCitizens$Text" "there" "Z" ∈ zU := zt1 (i := 186) rfl rfl
theorem q1_187 : Cond.fieldLink RX6 131 "SnowCitizens$Text" "there" "Z" ∈ zU := zt1 (i := 187) rfl rfl
theorem q1_188 : Cond.fieldLink RX5 19 "SnowCitizens$Text" "size" "I" ∈ zU := zt1 (i := 188) rfl rfl
theorem q1_189 : Cond.fieldLink RX3 34 "SnowCitizens$Text" "size" "I" ∈ zU := zt1 (i := 189) rfl rfl
theorem q1_190 : Cond.fieldLink RX6 132 "SnowCitizens$Text" "size" "I" ∈ zU := zt1 (i := 190) rfl rfl
theorem q1_191 : Cond.fieldLink RX5 9 "SnowCitizens$Text" "signs" "[B" ∈ zU := zt1 (i := 191) rfl rfl
theorem q1_192 : Cond.lays "SnowCitizens$Text" "SnowCitizens$Text" "there" "Z" ∈ zU := zt1 (i := 192) rfl rfl
theorem q1_194 : Cond.lays "SnowCitizens$Text" "SnowCitizens$Text" "size" "I" ∈ zU := zt1 (i := 194) rfl rfl
theorem q1_196 : Cond.laysFinal "SnowCitizens$Text" "SnowCitizens$Text" "signs" "[B" ∈ zU := zt1 (i := 196) rfl rfl
theorem q1_199 : Cond.arrayClass .byte ∈ zU := zt1 (i := 199) rfl rfl
theorem q1_200 : Cond.fieldLink RX6 11 "SnowCitizens" "rows" "[LSnowCitizens$Row;" ∈ zU := zt1 (i := 200) rfl rfl
theorem q1_201 : Cond.fieldLink RX6 17 "SnowCitizens" "texts" "[LSnowCitizens$Text;" ∈ zU := zt1 (i := 201) rfl rfl
theorem q1_202 : Cond.fieldLink RX6 24 "SnowCitizens" "north" "LSnowCitizens$North;" ∈ zU := zt1 (i := 202) rfl rfl
theorem q1_203 : Cond.fieldLink RX6 28 "SnowCitizens" "kept" "[LSnowCitizens$North;" ∈ zU := zt1 (i := 203) rfl rfl
theorem q1_204 : Cond.fieldLink RX6 35 "SnowCitizens" "reading" "LSnowCitizens$Reading;" ∈ zU := zt1 (i := 204) rfl rfl
theorem q1_205 : Cond.fieldLink RX6 42 "SnowCitizens" "game" "LSnowCitizens$Game;" ∈ zU := zt1 (i := 205) rfl rfl
theorem q1_206 : Cond.fieldLink RX6 49 "SnowCitizens" "clouds" "LSnowCitizens$Clouds;" ∈ zU := zt1 (i := 206) rfl rfl
theorem q1_207 : Cond.fieldLink RX6 53 "SnowCitizens" "findingCounts" "[I" ∈ zU := zt1 (i := 207) rfl rfl
theorem q1_208 : Cond.fieldLink RX6 347 "SnowCitizens" "latestFinding" "I" ∈ zU := zt1 (i := 208) rfl rfl
theorem q1_209 : Cond.fieldLink RX6 220 "SnowCitizens" "told" "I" ∈ zU := zt1 (i := 209) rfl rfl
theorem q1_210 : Cond.fieldLink RX6 341 "SnowCitizens" "upperNumber" "J" ∈ zU := zt1 (i := 210) rfl rfl
theorem q1_211 : Cond.fieldLink RX6 57 "SnowCitizens" "lowerNumber" "J" ∈ zU := zt1 (i := 211) rfl rfl
theorem q1_212 : Cond.fieldLink RX6 61 "SnowCitizens" "ahead" "[I" ∈ zU := zt1 (i := 212) rfl rfl
theorem q1_213 : Cond.fieldLink RX6 64 "SnowCitizens" "plan" "[I" ∈ zU := zt1 (i := 213) rfl rfl
theorem q1_214 : Cond.fieldLink RX6 67 "SnowCitizens" "shadesWith" "[I" ∈ zU := zt1 (i := 214) rfl rfl
theorem q1_215 : Cond.fieldLink RX6 70 "SnowCitizens" "shadesWithout" "[I" ∈ zU := zt1 (i := 215) rfl rfl
theorem q1_216 : Cond.fieldLink RX6 73 "SnowCitizens" "mostCounted" "[I" ∈ zU := zt1 (i := 216) rfl rfl
theorem q1_217 : Cond.laysFinal "SnowCitizens" "SnowCitizens" "rows" "[LSnowCitizens$Row;" ∈ zU := zt1 (i := 217) rfl rfl
theorem q1_219 : Cond.laysFinal "SnowCitizens" "SnowCitizens" "texts" "[LSnowCitizens$Text;" ∈ zU := zt1 (i := 219) rfl rfl
theorem q1_221 : Cond.laysFinal "SnowCitizens" "SnowCitizens" "north" "LSnowCitizens$North;" ∈ zU := zt1 (i := 221) rfl rfl
theorem q1_223 : Cond.laysFinal "SnowCitizens" "SnowCitizens" "kept" "[LSnowCitizens$North;" ∈ zU := zt1 (i := 223) rfl rfl
theorem q1_225 : Cond.laysFinal "SnowCitizens" "SnowCitizens" "reading" "LSnowCitizens$Reading;" ∈ zU := zt1 (i := 225) rfl rfl
theorem q1_227 : Cond.laysFinal "SnowCitizens" "SnowCitizens" "game" "LSnowCitizens$Game;" ∈ zU := zt1 (i := 227) rfl rfl
theorem q1_229 : Cond.laysFinal "SnowCitizens" "SnowCitizens" "clouds" "LSnowCitizens$Clouds;" ∈ zU := zt1 (i := 229) rfl rfl
theorem q1_231 : Cond.laysFinal "SnowCitizens" "SnowCitizens" "findingCounts" "[I" ∈ zU := zt1 (i := 231) rfl rfl
theorem q1_233 : Cond.lays "SnowCitizens" "SnowCitizens" "latestFinding" "I" ∈ zU := zt1 (i := 233) rfl rfl
theorem q1_235 : Cond.lays "SnowCitizens" "SnowCitizens" "told" "I" ∈ zU := zt1 (i := 235) rfl rfl
theorem q1_237 : Cond.lays "SnowCitizens" "SnowCitizens" "upperNumber" "J" ∈ zU := zt1 (i := 237) rfl rfl
theorem q1_239 : Cond.lays "SnowCitizens" "SnowCitizens" "lowerNumber" "J" ∈ zU := zt1 (i := 239) rfl rfl
theorem q2_1 : Cond.laysFinal "SnowCitizens" "SnowCitizens" "ahead" "[I" ∈ zU := zt2 (i := 1) rfl rfl
theorem q2_3 : Cond.laysFinal "SnowCitizens" "SnowCitizens" "plan" "[I" ∈ zU := zt2 (i := 3) rfl rfl
theorem q2_5 : Cond.laysFinal "SnowCitizens" "SnowCitizens" "shadesWith" "[I" ∈ zU := zt2 (i := 5) rfl rfl
theorem q2_7 : Cond.laysFinal "SnowCitizens" "SnowCitizens" "shadesWithout" "[I" ∈ zU := zt2 (i := 7) rfl rfl
theorem q2_9 : Cond.laysFinal "SnowCitizens" "SnowCitizens" "mostCounted" "[I" ∈ zU := zt2 (i := 9) rfl rfl
theorem q2_12 : Cond.methodLink RL 13 yX6_row ∈ zU := zt2 (i := 12) rfl rfl
theorem q2_13 : Cond.instanceMethod yX6_row ∈ zU := zt2 (i := 13) rfl rfl
theorem q2_14 : Cond.selects "SnowCitizens" yX6_row yX6_row ∈ zU := zt2 (i := 14) rfl rfl
theorem q2_15 : Cond.code yX6_row cX6_row 4 (some .int) ∈ zU := zt2 (i := 15) rfl rfl
theorem q2_16 : Cond.methodLink RX6 78 yX6_rowOf ∈ zU := zt2 (i := 16) rfl rfl
theorem q2_18 : Cond.instanceMethod yX6_rowOf ∈ zU := zt2 (i := 18) rfl rfl
theorem q2_19 : Cond.code yX6_rowOf cX6_rowOf 2 (Option.some (.object "SnowCitizens$Row")) ∈ zU := zt2 (i := 19) rfl rfl
theorem q2_20 : Cond.methodLink RX6 82 yX6_found ∈ zU := zt2 (i := 20) rfl rfl
theorem q2_22 : Cond.instanceMethod yX6_found ∈ zU := zt2 (i := 22) rfl rfl
theorem q2_23 : Cond.code yX6_found cX6_found 2 (some .int) ∈ zU := zt2 (i := 23) rfl rfl
theorem q2_24 : Cond.methodLink RX6 101 yX6_read ∈ zU := zt2 (i := 24) rfl rfl
theorem q2_25 : Cond.static yX6_read ∈ zU := zt2 (i := 25) rfl rfl
theorem q2_26 : Cond.code yX6_read cX6_read 2 (some .int) ∈ zU := zt2 (i := 26) rfl rfl
theorem q2_27 : Cond.methodLink RX6 105 yX6_write ∈ zU := zt2 (i := 27) rfl rfl
theorem q2_28 : Cond.static yX6_write ∈ zU := zt2 (i := 28) rfl rfl
theorem q2_29 : Cond.code yX6_write cX6_write 3 none ∈ zU := zt2 (i := 29) rfl rfl
theorem q2_30 : Cond.methodLink RX6 86 yX4_renew ∈ zU := zt2 (i := 30) rfl rfl
theorem q2_31 : Cond.instanceMethod yX4_renew ∈ zU := zt2 (i := 31) rfl rfl
theorem q2_32 : Cond.selects "SnowCitizens$Row" yX4_renew yX4_renew ∈ zU := zt2 (i := 32) rfl rfl
theorem q2_33 : Cond.code yX4_renew cX4_renew 3 none ∈ zU := zt2 (i := 33) rfl rfl
theorem q2_34 : Cond.methodLink RL 18 yX6_lay ∈ zU := zt2 (i := 34) rfl rfl
theorem q2_35 : Cond.instanceMethod yX6_lay ∈ zU := zt2 (i := 35) rfl rfl
theorem q2_36 : Cond.selects "SnowCitizens" yX6_lay yX6_lay ∈ zU := zt2 (i := 36) rfl rfl
theorem q2_37 : Cond.code yX6_lay cX6_lay 6 (some .int) ∈ zU := zt2 (i := 37) rfl rfl
theorem q2_38 : Cond.methodLink RX6 109 yX6_tell ∈ zU := zt2 (i := 38) rfl rfl
theorem q2_40 : Cond.instanceMethod yX6_tell ∈ zU := zt2 (i := 40) rfl rfl
theorem q2_41 : Cond.code yX6_tell cX6_tell 2 (some .int) ∈ zU := zt2 (i := 41) rfl rfl
theorem q2_42 : Cond.methodLink RL 23 yX6_at ∈ zU := zt2 (i := 42) rfl rfl
theorem q2_43 : Cond.instanceMethod yX6_at ∈ zU := zt2 (i := 43) rfl rfl
theorem q2_44 : Cond.selects "SnowCitizens" yX6_at yX6_at ∈ zU := zt2 (i := 44) rfl rfl
theorem q2_45 : Cond.code yX6_at cX6_at 4 (some .int) ∈ zU := zt2 (i := 45) rfl rfl
theorem q2_46 : Cond.methodLink RL 27 yX6_tear ∈ zU := zt2 (i := 46) rfl rfl
theorem q2_47 : Cond.instanceMethod yX6_tear ∈ zU := zt2 (i := 47) rfl rfl
theorem q2_48 : Cond.selects "SnowCitizens" yX6_tear yX6_tear ∈ zU := zt2 (i := 48) rfl rfl
theorem q2_49 : Cond.code yX6_tear cX6_tear 3 (some .int) ∈ zU := zt2 (i := 49) rfl rfl
theorem q2_50 : Cond.methodLink RL 32 yX6_copy ∈ zU := zt2 (i := 50) rfl rfl
theorem q2_51 : Cond.instanceMethod yX6_copy ∈ zU := zt2 (i := 51) rfl rfl
theorem q2_52 : Cond.selects "SnowCitizens" yX6_copy yX6_copy ∈ zU := zt2 (i := 52) rfl rfl
theorem q2_53 : Cond.code yX6_copy cX6_copy 8 (some .int) ∈ zU := zt2 (i := 53) rfl rfl
theorem q2_54 : Cond.methodLink RX6 112 yX4_reaches ∈ zU := zt2 (i := 54) rfl rfl
theorem q2_55 : Cond.instanceMethod yX4_reaches ∈ zU := zt2 (i := 55) rfl rfl
theorem q2_56 : Cond.selects "SnowCitizens$Row" yX4_reaches yX4_reaches ∈ zU := zt2 (i := 56) rfl rfl
theorem q2_57 : Cond.code yX4_reaches cX4_reaches 3 (some .boolean) ∈ zU := zt2 (i := 57) rfl rfl
theorem q2_58 : Cond.methodLink RX6 116 arraycopyName ∈ zU := zt2 (i := 58) rfl rfl
theorem q2_59 : Cond.static arraycopyName ∈ zU := zt2 (i := 59) rfl rfl
theorem q2_60 : Cond.native arraycopyName ∈ zU := zt2 (i := 60) rfl rfl
theorem q2_61 : Cond.methodLink RL 37 yX6_mean ∈ zU := zt2 (i := 61) rfl rfl
theorem q2_62 : Cond.instanceMethod yX6_mean ∈ zU := zt2 (i := 62) rfl rfl
theorem q2_63 : Cond.selects "SnowCitizens" yX6_mean yX6_mean ∈ zU := zt2 (i := 63) rfl rfl
theorem q2_64 : Cond.code yX6_mean cX6_mean 3 (some .int) ∈ zU := zt2 (i := 64) rfl rfl
theorem q2_65 : Cond.methodLink RX6 122 yX4_sum ∈ zU := zt2 (i := 65) rfl rfl
theorem q2_66 : Cond.instanceMethod yX4_sum ∈ zU := zt2 (i := 66) rfl rfl
theorem q2_67 : Cond.selects "SnowCitizens$Row" yX4_sum yX4_sum ∈ zU := zt2 (i := 67) rfl rfl
theorem q2_68 : Cond.code yX4_sum cX4_sum 4 (some .long) ∈ zU := zt2 (i := 68) rfl rfl
theorem q2_70 : Cond.methodLink RL 41 yX6_text ∈ zU := zt2 (i := 70) rfl rfl
theorem q2_71 : Cond.instanceMethod yX6_text ∈ zU := zt2 (i := 71) rfl rfl
theorem q2_72 : Cond.selects "SnowCitizens" yX6_text yX6_text ∈ zU := zt2 (i := 72) rfl rfl
theorem q2_73 : Cond.code yX6_text cX6_text 4 (some .int) ∈ zU := zt2 (i := 73) rfl rfl
theorem q2_74 : Cond.methodLink RX6 126 yX6_textOf ∈ zU := zt2 (i := 74) rfl rfl
theorem q2_76 : Cond.instanceMethod yX6_textOf ∈ zU := zt2 (i := 76) rfl rfl
theorem q2_77 : Cond.code yX6_textOf cX6_textOf 2 (Option.some (.object "SnowCitizens$Text")) ∈ zU := zt2 (i := 77) rfl rfl
theorem q2_78 : Cond.methodLink RX6 130 yX5_renew ∈ zU := zt2 (i := 78) rfl rfl
theorem q2_79 : Cond.instanceMethod yX5_renew ∈ zU := zt2 (i := 79) rfl rfl
theorem q2_80 : Cond.selects "SnowCitizens$Text" yX5_renew yX5_renew ∈ zU := zt2 (i := 80) rfl rfl
theorem q2_81 : Cond.code yX5_renew cX5_renew 3 none ∈ zU := zt2 (i := 81) rfl rfl
theorem q2_82 : Cond.methodLink RL 45 yX6_put ∈ zU := zt2 (i := 82) rfl rfl
theorem q2_83 : Cond.instanceMethod yX6_put ∈ zU := zt2 (i := 83) rfl rfl
theorem q2_84 : Cond.selects "SnowCitizens" yX6_put yX6_put ∈ zU := zt2 (i := 84) rfl rfl
theorem q2_85 : Cond.code yX6_put cX6_put 6 (some .int) ∈ zU := zt2 (i := 85) rfl rfl
theorem q2_86 : Cond.methodLink RX6 133 yX5_sign ∈ zU := zt2 (i := 86) rfl rfl
theorem q2_87 : Cond.instanceMethod yX5_sign ∈ zU := zt2 (i := 87) rfl rfl
theorem q2_88 : Cond.selects "SnowCitizens$Text" yX5_sign yX5_sign ∈ zU := zt2 (i := 88) rfl rfl
theorem q2_89 : Cond.code yX5_sign cX5_sign 2 (some .int) ∈ zU := zt2 (i := 89) rfl rfl
theorem q2_90 : Cond.methodLink RX6 136 yX5_change ∈ zU := zt2 (i := 90) rfl rfl
theorem q2_91 : Cond.instanceMethod yX5_change ∈ zU := zt2 (i := 91) rfl rfl
theorem q2_92 : Cond.selects "SnowCitizens$Text" yX5_change yX5_change ∈ zU := zt2 (i := 92) rfl rfl
theorem q2_93 : Cond.code yX5_change cX5_change 3 none ∈ zU := zt2 (i := 93) rfl rfl
theorem q2_94 : Cond.methodLink RL 49 yX6_fault ∈ zU := zt2 (i := 94) rfl rfl
theorem q2_95 : Cond.instanceMethod yX6_fault ∈ zU := zt2 (i := 95) rfl rfl
theorem q2_96 : Cond.selects "SnowCitizens" yX6_fault yX6_fault ∈ zU := zt2 (i := 96) rfl rfl
theorem q2_97 : Cond.code yX6_fault cX6_fault 3 (some .int) ∈ zU := zt2 (i := 97) rfl rfl
theorem q2_98 : Cond.methodLink RX6 140 yX3_faultIn ∈ zU := zt2 (i := 98) rfl rfl
theorem q2_99 : Cond.instanceMethod yX3_faultIn ∈ zU := zt2 (i := 99) rfl rfl
theorem q2_100 : Cond.selects "SnowCitizens$Reading" yX3_faultIn yX3_faultIn ∈ zU := zt2 (i := 100) rfl rfl
theorem q2_101 : Cond.code yX3_faultIn cX3_faultIn 3 (some .int) ∈ zU := zt2 (i := 101) rfl rfl
theorem q2_102 : Cond.methodLink RX3 39 yX5_sign ∈ zU := zt2 (i := 102) rfl rfl
theorem q2_103 : Cond.methodLink RX3 43 yX3_takes ∈ zU := zt2 (i := 103) rfl rfl
theorem q2_105 : Cond.instanceMethod yX3_takes ∈ zU := zt2 (i := 105) rfl rfl
theorem q2_106 : Cond.code yX3_takes cX3_takes 3 (some .boolean) ∈ zU := zt2 (i := 106) rfl rfl
theorem q2_107 : Cond.methodLink RX3 47 yX3_takesSun ∈ zU := zt2 (i := 107) rfl rfl
theorem q2_109 : Cond.instanceMethod yX3_takesSun ∈ zU := zt2 (i := 109) rfl rfl
theorem q2_110 : Cond.code yX3_takesSun cX3_takesSun 2 (some .boolean) ∈ zU := zt2 (i := 110) rfl rfl
theorem q2_111 : Cond.methodLink RX3 50 yX3_takesLetter ∈ zU := zt2 (i := 111) rfl rfl
theorem q2_113 : Cond.instanceMethod yX3_takesLetter ∈ zU := zt2 (i := 113) rfl rfl
theorem q2_114 : Cond.code yX3_takesLetter cX3_takesLetter 3 (some .boolean) ∈ zU := zt2 (i := 114) rfl rfl
theorem q2_115 : Cond.methodLink RX3 56 yX3_kindBy ∈ zU := zt2 (i := 115) rfl rfl
theorem q2_116 : Cond.static yX3_kindBy ∈ zU := zt2 (i := 116) rfl rfl
theorem q2_117 : Cond.code yX3_kindBy cX3_kindBy 1 (some .int) ∈ zU := zt2 (i := 117) rfl rfl
theorem q2_119 : Cond.methodLink RX3 53 yX3_takesFigure ∈ zU := zt2 (i := 119) rfl rfl
theorem q2_121 : Cond.instanceMethod yX3_takesFigure ∈ zU := zt2 (i := 121) rfl rfl
theorem q2_122 : Cond.code yX3_takesFigure cX3_takesFigure 3 (some .boolean) ∈ zU := zt2 (i := 122) rfl rfl
theorem q2_124 : Cond.methodLink RL 53 yX6_north ∈ zU := zt2 (i := 124) rfl rfl
theorem q2_125 : Cond.instanceMethod yX6_north ∈ zU := zt2 (i := 125) rfl rfl
theorem q2_126 : Cond.selects "SnowCitizens" yX6_north yX6_north ∈ zU := zt2 (i := 126) rfl rfl
theorem q2_127 : Cond.code yX6_north cX6_north 5 (some .int) ∈ zU := zt2 (i := 127) rfl rfl
theorem q2_128 : Cond.methodLink RX6 144 yX2_settle ∈ zU := zt2 (i := 128) rfl rfl
theorem q2_129 : Cond.instanceMethod yX2_settle ∈ zU := zt2 (i := 129) rfl rfl
theorem q2_130 : Cond.selects "SnowCitizens$North" yX2_settle yX2_settle ∈ zU := zt2 (i := 130) rfl rfl
theorem q2_131 : Cond.code yX2_settle cX2_settle 2 none ∈ zU := zt2 (i := 131) rfl rfl
theorem q2_133 : Cond.static yX6_writeAll ∈ zU := zt2 (i := 133) rfl rfl
theorem q2_134 : Cond.code yX6_writeAll cX6_writeAll 3 none ∈ zU := zt2 (i := 134) rfl rfl
theorem q2_135 : Cond.methodLink RX2 67 yX2_restart ∈ zU := zt2 (i := 135) rfl rfl
theorem q2_137 : Cond.instanceMethod yX2_restart ∈ zU := zt2 (i := 137) rfl rfl
theorem q2_138 : Cond.code yX2_restart cX2_restart 1 none ∈ zU := zt2 (i := 138) rfl rfl
theorem q2_139 : Cond.methodLink RX6 148 yX6_keptOf ∈ zU := zt2 (i := 139) rfl rfl
theorem q2_141 : Cond.instanceMethod yX6_keptOf ∈ zU := zt2 (i := 141) rfl rfl
theorem q2_142 : Cond.code yX6_keptOf cX6_keptOf 2 (Option.some (.object "SnowCitizens$North")) ∈ zU := zt2 (i := 142) rfl rfl
theorem q2_143 : Cond.methodLink RL 57 yX6_man ∈ zU := zt2 (i := 143) rfl rfl
theorem q2_144 : Cond.instanceMethod yX6_man ∈ zU := zt2 (i := 144) rfl rfl
theorem q2_145 : Cond.selects "SnowCitizens" yX6_man yX6_man ∈ zU := zt2 (i := 145) rfl rfl
theorem q2_146 : Cond.code yX6_man cX6_man 3 (some .int) ∈ zU := zt2 (i := 146) rfl rfl
theorem q2_147 : Cond.methodLink RX6 155 yX2_isMan ∈ zU := zt2 (i := 147) rfl rfl
theorem q2_148 : Cond.instanceMethod yX2_isMan ∈ zU := zt2 (i := 148) rfl rfl
theorem q2_149 : Cond.selects "SnowCitizens$North" yX2_isMan yX2_isMan ∈ zU := zt2 (i := 149) rfl rfl
theorem q2_150 : Cond.code yX2_isMan cX2_isMan 2 (some .boolean) ∈ zU := zt2 (i := 150) rfl rfl
theorem q2_151 : Cond.methodLink RX6 159 yX2_tellsOf ∈ zU := zt2 (i := 151) rfl rfl
theorem q2_152 : Cond.instanceMethod yX2_tellsOf ∈ zU := zt2 (i := 152) rfl rfl
theorem q2_153 : Cond.selects "SnowCitizens$North" yX2_tellsOf yX2_tellsOf ∈ zU := zt2 (i := 153) rfl rfl
theorem q2_154 : Cond.code yX2_tellsOf cX2_tellsOf 3 (some .int) ∈ zU := zt2 (i := 154) rfl rfl
theorem q2_156 : Cond.methodLink RX2 110 yX2_votersBy ∈ zU := zt2 (i := 156) rfl rfl
theorem q2_157 : Cond.instanceMethod yX2_votersBy ∈ zU := zt2 (i := 157) rfl rfl
theorem q2_158 : Cond.selects "SnowCitizens$North" yX2_votersBy yX2_votersBy ∈ zU := zt2 (i := 158) rfl rfl
theorem q2_159 : Cond.code yX2_votersBy cX2_votersBy 4 (some .int) ∈ zU := zt2 (i := 159) rfl rfl
theorem q2_160 : Cond.methodLink RX2 114 yX2_hasRight ∈ zU := zt2 (i := 160) rfl rfl
theorem q2_161 : Cond.instanceMethod yX2_hasRight ∈ zU := zt2 (i := 161) rfl rfl
theorem q2_162 : Cond.selects "SnowCitizens$North" yX2_hasRight yX2_hasRight ∈ zU := zt2 (i := 162) rfl rfl
theorem q2_163 : Cond.code yX2_hasRight cX2_hasRight 4 (some .boolean) ∈ zU := zt2 (i := 163) rfl rfl
theorem q2_165 : Cond.static yX6_isIn ∈ zU := zt2 (i := 165) rfl rfl
theorem q2_166 : Cond.code yX6_isIn cX6_isIn 2 (some .boolean) ∈ zU := zt2 (i := 166) rfl rfl
theorem q2_167 : Cond.methodLink RX2 140 yX2_voteNow ∈ zU := zt2 (i := 167) rfl rfl
theorem q2_169 : Cond.instanceMethod yX2_voteNow ∈ zU := zt2 (i := 169) rfl rfl
theorem q2_170 : Cond.code yX2_voteNow cX2_voteNow 3 (some .int) ∈ zU := zt2 (i := 170) rfl rfl
theorem q2_171 : Cond.methodLink RX2 132 yX2_onesAmong ∈ zU := zt2 (i := 171) rfl rfl
theorem q2_172 : Cond.instanceMethod yX2_onesAmong ∈ zU := zt2 (i := 172) rfl rfl
theorem q2_173 : Cond.selects "SnowCitizens$North" yX2_onesAmong yX2_onesAmong ∈ zU := zt2 (i := 173) rfl rfl
theorem q2_174 : Cond.code yX2_onesAmong cX2_onesAmong 4 (some .int) ∈ zU := zt2 (i := 174) rfl rfl
theorem q2_175 : Cond.methodLink RX2 129 yX2_votesOne ∈ zU := zt2 (i := 175) rfl rfl
theorem q2_177 : Cond.instanceMethod yX2_votesOne ∈ zU := zt2 (i := 177) rfl rfl
theorem q2_178 : Cond.code yX2_votesOne cX2_votesOne 5 (some .boolean) ∈ zU := zt2 (i := 178) rfl rfl
theorem q2_179 : Cond.methodLink RL 61 yX6_mark ∈ zU := zt2 (i := 179) rfl rfl
theorem q2_180 : Cond.instanceMethod yX6_mark ∈ zU := zt2 (i := 180) rfl rfl
theorem q2_181 : Cond.selects "SnowCitizens" yX6_mark yX6_mark ∈ zU := zt2 (i := 181) rfl rfl
theorem q2_182 : Cond.code yX6_mark cX6_mark 3 (some .int) ∈ zU := zt2 (i := 182) rfl rfl
theorem q2_183 : Cond.methodLink RX6 166 yX6_isOfKind ∈ zU := zt2 (i := 183) rfl rfl
theorem q2_184 : Cond.static yX6_isOfKind ∈ zU := zt2 (i := 184) rfl rfl
theorem q2_185 : Cond.code yX6_isOfKind cX6_isOfKind 2 (some .boolean) ∈ zU := zt2 (i := 185) rfl rfl
theorem q2_186 : Cond.methodLink RX6 172 yX2_meltingIn ∈ zU := zt2 (i := 186) rfl rfl
theorem q2_187 : Cond.instanceMethod yX2_meltingIn ∈ zU := zt2 (i := 187) rfl rfl
theorem q2_188 : Cond.selects "SnowCitizens$North" yX2_meltingIn yX2_meltingIn ∈ zU := zt2 (i := 188) rfl rfl
theorem q2_189 : Cond.code yX2_meltingIn cX2_meltingIn 3 (some .int) ∈ zU := zt2 (i := 189) rfl rfl
theorem q2_190 : Cond.methodLink RX2 100 yX2_melting ∈ zU := zt2 (i := 190) rfl rfl
theorem q2_192 : Cond.instanceMethod yX2_melting ∈ zU := zt2 (i := 192) rfl rfl
theorem q2_193 : Cond.code yX2_melting cX2_melting 5 (some .int) ∈ zU := zt2 (i := 193) rfl rfl
theorem q2_194 : Cond.methodLink RX2 97 Lib.Math.max.name ∈ zU := zt2 (i := 194) rfl rfl
theorem q2_195 : Cond.static Lib.Math.max.name ∈ zU := zt2 (i := 195) rfl rfl
theorem q2_196 : Cond.code Lib.Math.max.name cJ9_max_7cf53 2 (some .int) ∈ zU := zt2 (i := 196) rfl rfl
theorem q2_197 : Cond.methodLink RX6 175 Lib.Math.min.name ∈ zU := zt2 (i := 197) rfl rfl
theorem q2_198 : Cond.static Lib.Math.min.name ∈ zU := zt2 (i := 198) rfl rfl
theorem q2_199 : Cond.code Lib.Math.min.name cJ9_min_7cf53 2 (some .int) ∈ zU := zt2 (i := 199) rfl rfl
theorem q2_200 : Cond.methodLink RX6 180 yX2_votesAs ∈ zU := zt2 (i := 200) rfl rfl
theorem q2_201 : Cond.instanceMethod yX2_votesAs ∈ zU := zt2 (i := 201) rfl rfl
theorem q2_202 : Cond.selects "SnowCitizens$North" yX2_votesAs yX2_votesAs ∈ zU := zt2 (i := 202) rfl rfl
theorem q2_203 : Cond.code yX2_votesAs cX2_votesAs 3 (some .int) ∈ zU := zt2 (i := 203) rfl rfl
theorem q2_204 : Cond.methodLink RX6 183 yX2_goneIn ∈ zU := zt2 (i := 204) rfl rfl
theorem q2_205 : Cond.instanceMethod yX2_goneIn ∈ zU := zt2 (i := 205) rfl rfl
theorem q2_206 : Cond.selects "SnowCitizens$North" yX2_goneIn yX2_goneIn ∈ zU := zt2 (i := 206) rfl rfl
theorem q2_207 : Cond.code yX2_goneIn cX2_goneIn 4 (some .int) ∈ zU := zt2 (i := 207) rfl rfl
theorem q2_208 : Cond.methodLink RX2 94 yX2_meltingIn ∈ zU := zt2 (i := 208) rfl rfl
theorem q2_209 : Cond.methodLink RX6 186 yX2_daysByLaw ∈ zU := zt2 (i := 209) rfl rfl
theorem q2_210 : Cond.instanceMethod yX2_daysByLaw ∈ zU := zt2 (i := 210) rfl rfl
theorem q2_211 : Cond.selects "SnowCitizens$North" yX2_daysByLaw yX2_daysByLaw ∈ zU := zt2 (i := 211) rfl rfl
theorem q2_212 : Cond.code yX2_daysByLaw cX2_daysByLaw 5 (some .int) ∈ zU := zt2 (i := 212) rfl rfl
theorem q2_213 : Cond.methodLink RX6 189 yX2_meltingDays ∈ zU := zt2 (i := 213) rfl rfl
theorem q2_214 : Cond.instanceMethod yX2_meltingDays ∈ zU := zt2 (i := 214) rfl rfl
theorem q2_215 : Cond.selects "SnowCitizens$North" yX2_meltingDays yX2_meltingDays ∈ zU := zt2 (i := 215) rfl rfl
theorem q2_216 : Cond.code yX2_meltingDays cX2_meltingDays 4 (some .int) ∈ zU := zt2 (i := 216) rfl rfl
theorem q2_217 : Cond.methodLink RL 65 yX6_sun ∈ zU := zt2 (i := 217) rfl rfl
theorem q2_218 : Cond.instanceMethod yX6_sun ∈ zU := zt2 (i := 218) rfl rfl
theorem q2_219 : Cond.selects "SnowCitizens" yX6_sun yX6_sun ∈ zU := zt2 (i := 219) rfl rfl
theorem q2_220 : Cond.code yX6_sun cX6_sun 2 (some .int) ∈ zU := zt2 (i := 220) rfl rfl
theorem q2_221 : Cond.methodLink RX6 192 yX2_sunOn ∈ zU := zt2 (i := 221) rfl rfl
theorem q2_222 : Cond.instanceMethod yX2_sunOn ∈ zU := zt2 (i := 222) rfl rfl
theorem q2_223 : Cond.selects "SnowCitizens$North" yX2_sunOn yX2_sunOn ∈ zU := zt2 (i := 223) rfl rfl
theorem q2_224 : Cond.code yX2_sunOn cX2_sunOn 2 (some .int) ∈ zU := zt2 (i := 224) rfl rfl
theorem q2_225 : Cond.methodLink RL 69 yX6_right ∈ zU := zt2 (i := 225) rfl rfl
theorem q2_226 : Cond.instanceMethod yX6_right ∈ zU := zt2 (i := 226) rfl rfl
theorem q2_227 : Cond.selects "SnowCitizens" yX6_right yX6_right ∈ zU := zt2 (i := 227) rfl rfl
theorem q2_228 : Cond.code yX6_right cX6_right 3 (some .int) ∈ zU := zt2 (i := 228) rfl rfl
theorem q2_229 : Cond.methodLink RL 73 yX6_day ∈ zU := zt2 (i := 229) rfl rfl
theorem q2_230 : Cond.instanceMethod yX6_day ∈ zU := zt2 (i := 230) rfl rfl
theorem q2_231 : Cond.selects "SnowCitizens" yX6_day yX6_day ∈ zU := zt2 (i := 231) rfl rfl
theorem q2_232 : Cond.code yX6_day cX6_day 1 (some .int) ∈ zU := zt2 (i := 232) rfl rfl
theorem q2_233 : Cond.methodLink RX6 201 yX2_act ∈ zU := zt2 (i := 233) rfl rfl
theorem q2_234 : Cond.instanceMethod yX2_act ∈ zU := zt2 (i := 234) rfl rfl
theorem q2_235 : Cond.selects "SnowCitizens$North" yX2_act yX2_act ∈ zU := zt2 (i := 235) rfl rfl
theorem q2_236 : Cond.code yX2_act cX2_act 4 none ∈ zU := zt2 (i := 236) rfl rfl
theorem q2_238 : Cond.methodLink RX2 77 yX2_perform ∈ zU := zt2 (i := 238) rfl rfl
theorem q3_0 : Cond.instanceMethod yX2_perform ∈ zU := zt3 (i := 0) rfl rfl
theorem q3_1 : Cond.code yX2_perform cX2_perform 4 none ∈ zU := zt3 (i := 1) rfl rfl
theorem q3_2 : Cond.methodLink RX2 85 Lib.Math.min.name ∈ zU := zt3 (i := 2) rfl rfl
theorem q3_3 : Cond.methodLink RX2 91 yX2_meltAll ∈ zU := zt3 (i := 3) rfl rfl
theorem q3_5 : Cond.instanceMethod yX2_meltAll ∈ zU := zt3 (i := 5) rfl rfl
theorem q3_6 : Cond.code yX2_meltAll cX2_meltAll 2 none ∈ zU := zt3 (i := 6) rfl rfl
theorem q3_7 : Cond.methodLink RX6 205 yX2_living ∈ zU := zt3 (i := 7) rfl rfl
theorem q3_8 : Cond.instanceMethod yX2_living ∈ zU := zt3 (i := 8) rfl rfl
theorem q3_9 : Cond.selects "SnowCitizens$North" yX2_living yX2_living ∈ zU := zt3 (i := 9) rfl rfl
theorem q3_10 : Cond.code yX2_living cX2_living 1 (some .int) ∈ zU := zt3 (i := 10) rfl rfl
theorem q3_11 : Cond.methodLink RX6 209 yJ6_bitCount_0f7a4 ∈ zU := zt3 (i := 11) rfl rfl
theorem q3_12 : Cond.static yJ6_bitCount_0f7a4 ∈ zU := zt3 (i := 12) rfl rfl
theorem q3_13 : Cond.code yJ6_bitCount_0f7a4 cJ6_bitCount_0f7a4 1 (some .int) ∈ zU := zt3 (i := 13) rfl rfl
theorem q3_14 : Cond.constant RJ6 265 1431655765 ∈ zU := zt3 (i := 14) rfl rfl
theorem q3_15 : Cond.constant RJ6 266 858993459 ∈ zU := zt3 (i := 15) rfl rfl
theorem q3_16 : Cond.constant RJ6 267 252645135 ∈ zU := zt3 (i := 16) rfl rfl
theorem q3_17 : Cond.methodLink RL 78 yX6_shade ∈ zU := zt3 (i := 17) rfl rfl
theorem q3_18 : Cond.instanceMethod yX6_shade ∈ zU := zt3 (i := 18) rfl rfl
theorem q3_19 : Cond.selects "SnowCitizens" yX6_shade yX6_shade ∈ zU := zt3 (i := 19) rfl rfl
theorem q3_20 : Cond.code yX6_shade cX6_shade 4 (some .int) ∈ zU := zt3 (i := 20) rfl rfl
theorem q3_21 : Cond.methodLink RL 82 yX6_snow ∈ zU := zt3 (i := 21) rfl rfl
theorem q3_22 : Cond.instanceMethod yX6_snow ∈ zU := zt3 (i := 22) rfl rfl
theorem q3_23 : Cond.selects "SnowCitizens" yX6_snow yX6_snow ∈ zU := zt3 (i := 23) rfl rfl
theorem q3_24 : Cond.code yX6_snow cX6_snow 3 (some .int) ∈ zU := zt3 (i := 24) rfl rfl
theorem q3_25 : Cond.methodLink RL 86 yX6_undo ∈ zU := zt3 (i := 25) rfl rfl
theorem q3_26 : Cond.instanceMethod yX6_undo ∈ zU := zt3 (i := 26) rfl rfl
theorem q3_27 : Cond.selects "SnowCitizens" yX6_undo yX6_undo ∈ zU := zt3 (i := 27) rfl rfl
theorem q3_28 : Cond.code yX6_undo cX6_undo 3 (some .int) ∈ zU := zt3 (i := 28) rfl rfl
theorem q3_29 : Cond.methodLink RX6 217 yX2_undoFrom ∈ zU := zt3 (i := 29) rfl rfl
theorem q3_30 : Cond.instanceMethod yX2_undoFrom ∈ zU := zt3 (i := 30) rfl rfl
theorem q3_31 : Cond.selects "SnowCitizens$North" yX2_undoFrom yX2_undoFrom ∈ zU := zt3 (i := 31) rfl rfl
theorem q3_32 : Cond.code yX2_undoFrom cX2_undoFrom 3 none ∈ zU := zt3 (i := 32) rfl rfl
theorem q3_33 : Cond.methodLink RL 90 yX6_now ∈ zU := zt3 (i := 33) rfl rfl
theorem q3_34 : Cond.instanceMethod yX6_now ∈ zU := zt3 (i := 34) rfl rfl
theorem q3_35 : Cond.selects "SnowCitizens" yX6_now yX6_now ∈ zU := zt3 (i := 35) rfl rfl
theorem q3_36 : Cond.code yX6_now cX6_now 1 (some .int) ∈ zU := zt3 (i := 36) rfl rfl
theorem q3_37 : Cond.methodLink RL 94 yX6_keep ∈ zU := zt3 (i := 37) rfl rfl
theorem q3_38 : Cond.instanceMethod yX6_keep ∈ zU := zt3 (i := 38) rfl rfl
theorem q3_39 : Cond.selects "SnowCitizens" yX6_keep yX6_keep ∈ zU := zt3 (i := 39) rfl rfl
theorem q3_40 : Cond.code yX6_keep cX6_keep 3 (some .int) ∈ zU := zt3 (i := 40) rfl rfl
theorem q3_41 : Cond.methodLink RX6 226 yX2_become ∈ zU := zt3 (i := 41) rfl rfl
theorem q3_42 : Cond.instanceMethod yX2_become ∈ zU := zt3 (i := 42) rfl rfl
theorem q3_43 : Cond.selects "SnowCitizens$North" yX2_become yX2_become ∈ zU := zt3 (i := 43) rfl rfl
theorem q3_44 : Cond.code yX2_become cX2_become 2 none ∈ zU := zt3 (i := 44) rfl rfl
theorem q3_45 : Cond.methodLink RL 98 yX6_on ∈ zU := zt3 (i := 45) rfl rfl
theorem q3_46 : Cond.instanceMethod yX6_on ∈ zU := zt3 (i := 46) rfl rfl
theorem q3_47 : Cond.selects "SnowCitizens" yX6_on yX6_on ∈ zU := zt3 (i := 47) rfl rfl
theorem q3_48 : Cond.code yX6_on cX6_on 3 (some .int) ∈ zU := zt3 (i := 48) rfl rfl
theorem q3_49 : Cond.methodLink RL 102 yX6_bulk ∈ zU := zt3 (i := 49) rfl rfl
theorem q3_50 : Cond.instanceMethod yX6_bulk ∈ zU := zt3 (i := 50) rfl rfl
theorem q3_51 : Cond.selects "SnowCitizens" yX6_bulk yX6_bulk ∈ zU := zt3 (i := 51) rfl rfl
theorem q3_52 : Cond.code yX6_bulk cX6_bulk 3 (some .int) ∈ zU := zt3 (i := 52) rfl rfl
theorem q3_53 : Cond.methodLink RX6 230 yX6_isAhead ∈ zU := zt3 (i := 53) rfl rfl
theorem q3_54 : Cond.static yX6_isAhead ∈ zU := zt3 (i := 54) rfl rfl
theorem q3_55 : Cond.code yX6_isAhead cX6_isAhead 1 (some .boolean) ∈ zU := zt3 (i := 55) rfl rfl
theorem q3_56 : Cond.methodLink RX6 233 yX2_bulkIn ∈ zU := zt3 (i := 56) rfl rfl
theorem q3_57 : Cond.instanceMethod yX2_bulkIn ∈ zU := zt3 (i := 57) rfl rfl
theorem q3_58 : Cond.selects "SnowCitizens$North" yX2_bulkIn yX2_bulkIn ∈ zU := zt3 (i := 58) rfl rfl
theorem q3_59 : Cond.code yX2_bulkIn cX2_bulkIn 3 (some .int) ∈ zU := zt3 (i := 59) rfl rfl
theorem q3_60 : Cond.methodLink RX2 104 yX2_bulkBy ∈ zU := zt3 (i := 60) rfl rfl
theorem q3_62 : Cond.instanceMethod yX2_bulkBy ∈ zU := zt3 (i := 62) rfl rfl
theorem q3_63 : Cond.code yX2_bulkBy cX2_bulkBy 4 (some .int) ∈ zU := zt3 (i := 63) rfl rfl
theorem q3_64 : Cond.methodLink RX2 107 yX2_meltedIn ∈ zU := zt3 (i := 64) rfl rfl
theorem q3_65 : Cond.instanceMethod yX2_meltedIn ∈ zU := zt3 (i := 65) rfl rfl
theorem q3_66 : Cond.selects "SnowCitizens$North" yX2_meltedIn yX2_meltedIn ∈ zU := zt3 (i := 66) rfl rfl
theorem q3_67 : Cond.code yX2_meltedIn cX2_meltedIn 6 (some .int) ∈ zU := zt3 (i := 67) rfl rfl
theorem q3_68 : Cond.methodLink RL 106 yX6_gone ∈ zU := zt3 (i := 68) rfl rfl
theorem q3_69 : Cond.instanceMethod yX6_gone ∈ zU := zt3 (i := 69) rfl rfl
theorem q3_70 : Cond.selects "SnowCitizens" yX6_gone yX6_gone ∈ zU := zt3 (i := 70) rfl rfl
theorem q3_71 : Cond.code yX6_gone cX6_gone 2 (some .int) ∈ zU := zt3 (i := 71) rfl rfl
theorem q3_72 : Cond.methodLink RL 110 yX6_votes ∈ zU := zt3 (i := 72) rfl rfl
theorem q3_73 : Cond.instanceMethod yX6_votes ∈ zU := zt3 (i := 73) rfl rfl
theorem q3_74 : Cond.selects "SnowCitizens" yX6_votes yX6_votes ∈ zU := zt3 (i := 74) rfl rfl
theorem q3_75 : Cond.code yX6_votes cX6_votes 4 (some .int) ∈ zU := zt3 (i := 75) rfl rfl
theorem q3_76 : Cond.methodLink RX6 236 yX2_votersIn ∈ zU := zt3 (i := 76) rfl rfl
theorem q3_77 : Cond.instanceMethod yX2_votersIn ∈ zU := zt3 (i := 77) rfl rfl
theorem q3_78 : Cond.selects "SnowCitizens$North" yX2_votersIn yX2_votersIn ∈ zU := zt3 (i := 78) rfl rfl
theorem q3_79 : Cond.code yX2_votersIn cX2_votersIn 4 (some .int) ∈ zU := zt3 (i := 79) rfl rfl
theorem q3_80 : Cond.methodLink RX2 118 yX2_hasRightBy ∈ zU := zt3 (i := 80) rfl rfl
theorem q3_81 : Cond.instanceMethod yX2_hasRightBy ∈ zU := zt3 (i := 81) rfl rfl
theorem q3_82 : Cond.selects "SnowCitizens$North" yX2_hasRightBy yX2_hasRightBy ∈ zU := zt3 (i := 82) rfl rfl
theorem q3_83 : Cond.code yX2_hasRightBy cX2_hasRightBy 4 (some .boolean) ∈ zU := zt3 (i := 83) rfl rfl
theorem q3_84 : Cond.methodLink RX6 239 yX2_onesAmong ∈ zU := zt3 (i := 84) rfl rfl
theorem q3_85 : Cond.methodLink RL 114 yX6_carried ∈ zU := zt3 (i := 85) rfl rfl
theorem q3_86 : Cond.instanceMethod yX6_carried ∈ zU := zt3 (i := 86) rfl rfl
theorem q3_87 : Cond.selects "SnowCitizens" yX6_carried yX6_carried ∈ zU := zt3 (i := 87) rfl rfl
theorem q3_88 : Cond.code yX6_carried cX6_carried 3 (some .int) ∈ zU := zt3 (i := 88) rfl rfl
theorem q3_89 : Cond.methodLink RX6 242 yX2_foreseeVoters ∈ zU := zt3 (i := 89) rfl rfl
theorem q3_90 : Cond.instanceMethod yX2_foreseeVoters ∈ zU := zt3 (i := 90) rfl rfl
theorem q3_91 : Cond.selects "SnowCitizens$North" yX2_foreseeVoters yX2_foreseeVoters ∈ zU := zt3 (i := 91) rfl rfl
theorem q3_92 : Cond.code yX2_foreseeVoters cX2_foreseeVoters 6 none ∈ zU := zt3 (i := 92) rfl rfl
theorem q3_93 : Cond.methodLink RX6 246 yX2_isCarriedBy ∈ zU := zt3 (i := 93) rfl rfl
theorem q3_94 : Cond.instanceMethod yX2_isCarriedBy ∈ zU := zt3 (i := 94) rfl rfl
theorem q3_95 : Cond.selects "SnowCitizens$North" yX2_isCarriedBy yX2_isCarriedBy ∈ zU := zt3 (i := 95) rfl rfl
theorem q3_96 : Cond.code yX2_isCarriedBy cX2_isCarriedBy 2 (some .boolean) ∈ zU := zt3 (i := 96) rfl rfl
theorem q3_97 : Cond.methodLink RX2 135 yJ6_bitCount_0f7a4 ∈ zU := zt3 (i := 97) rfl rfl
theorem q3_98 : Cond.methodLink RL 118 yX6_days ∈ zU := zt3 (i := 98) rfl rfl
theorem q3_99 : Cond.instanceMethod yX6_days ∈ zU := zt3 (i := 99) rfl rfl
theorem q3_100 : Cond.selects "SnowCitizens" yX6_days yX6_days ∈ zU := zt3 (i := 100) rfl rfl
theorem q3_101 : Cond.code yX6_days cX6_days 4 (some .int) ∈ zU := zt3 (i := 101) rfl rfl
theorem q3_102 : Cond.methodLink RL 122 yX6_widow ∈ zU := zt3 (i := 102) rfl rfl
theorem q3_103 : Cond.instanceMethod yX6_widow ∈ zU := zt3 (i := 103) rfl rfl
theorem q3_104 : Cond.selects "SnowCitizens" yX6_widow yX6_widow ∈ zU := zt3 (i := 104) rfl rfl
theorem q3_105 : Cond.code yX6_widow cX6_widow 5 (some .int) ∈ zU := zt3 (i := 105) rfl rfl
theorem q3_106 : Cond.methodLink RL 126 yX6_heir ∈ zU := zt3 (i := 106) rfl rfl
theorem q3_107 : Cond.instanceMethod yX6_heir ∈ zU := zt3 (i := 107) rfl rfl
theorem q3_108 : Cond.selects "SnowCitizens" yX6_heir yX6_heir ∈ zU := zt3 (i := 108) rfl rfl
theorem q3_109 : Cond.code yX6_heir cX6_heir 4 (some .int) ∈ zU := zt3 (i := 109) rfl rfl
theorem q3_110 : Cond.methodLink RL 130 yX6_guard ∈ zU := zt3 (i := 110) rfl rfl
theorem q3_111 : Cond.instanceMethod yX6_guard ∈ zU := zt3 (i := 111) rfl rfl
theorem q3_112 : Cond.selects "SnowCitizens" yX6_guard yX6_guard ∈ zU := zt3 (i := 112) rfl rfl
theorem q3_113 : Cond.code yX6_guard cX6_guard 9 (some .int) ∈ zU := zt3 (i := 113) rfl rfl
theorem q3_114 : Cond.methodLink RX6 249 yX2_isSet ∈ zU := zt3 (i := 114) rfl rfl
theorem q3_115 : Cond.instanceMethod yX2_isSet ∈ zU := zt3 (i := 115) rfl rfl
theorem q3_116 : Cond.selects "SnowCitizens$North" yX2_isSet yX2_isSet ∈ zU := zt3 (i := 116) rfl rfl
theorem q3_117 : Cond.code yX2_isSet cX2_isSet 2 (some .boolean) ∈ zU := zt3 (i := 117) rfl rfl
theorem q3_118 : Cond.methodLink RX6 252 yX6_isIn ∈ zU := zt3 (i := 118) rfl rfl
theorem q3_119 : Cond.methodLink RX6 255 yX2_leastGuard ∈ zU := zt3 (i := 119) rfl rfl
theorem q3_120 : Cond.instanceMethod yX2_leastGuard ∈ zU := zt3 (i := 120) rfl rfl
theorem q3_121 : Cond.selects "SnowCitizens$North" yX2_leastGuard yX2_leastGuard ∈ zU := zt3 (i := 121) rfl rfl
theorem q3_122 : Cond.code yX2_leastGuard cX2_leastGuard 4 (some .int) ∈ zU := zt3 (i := 122) rfl rfl
theorem q3_123 : Cond.methodLink RX6 258 yX4_take ∈ zU := zt3 (i := 123) rfl rfl
theorem q3_124 : Cond.instanceMethod yX4_take ∈ zU := zt3 (i := 124) rfl rfl
theorem q3_125 : Cond.selects "SnowCitizens$Row" yX4_take yX4_take ∈ zU := zt3 (i := 125) rfl rfl
theorem q3_126 : Cond.code yX4_take cX4_take 3 none ∈ zU := zt3 (i := 126) rfl rfl
theorem q3_128 : Cond.methodLink RL 134 yX6_bribe ∈ zU := zt3 (i := 128) rfl rfl
theorem q3_129 : Cond.instanceMethod yX6_bribe ∈ zU := zt3 (i := 129) rfl rfl
theorem q3_130 : Cond.selects "SnowCitizens" yX6_bribe yX6_bribe ∈ zU := zt3 (i := 130) rfl rfl
theorem q3_131 : Cond.code yX6_bribe cX6_bribe 9 (some .int) ∈ zU := zt3 (i := 131) rfl rfl
theorem q3_132 : Cond.methodLink RX6 262 yX2_nearestShade ∈ zU := zt3 (i := 132) rfl rfl
theorem q3_133 : Cond.instanceMethod yX2_nearestShade ∈ zU := zt3 (i := 133) rfl rfl
theorem q3_134 : Cond.selects "SnowCitizens$North" yX2_nearestShade yX2_nearestShade ∈ zU := zt3 (i := 134) rfl rfl
theorem q3_135 : Cond.code yX2_nearestShade cX2_nearestShade 6 (some .int) ∈ zU := zt3 (i := 135) rfl rfl
theorem q3_136 : Cond.methodLink RX6 266 yX6_costOfVoters ∈ zU := zt3 (i := 136) rfl rfl
theorem q3_138 : Cond.instanceMethod yX6_costOfVoters ∈ zU := zt3 (i := 138) rfl rfl
theorem q3_139 : Cond.code yX6_costOfVoters cX6_costOfVoters 5 (some .int) ∈ zU := zt3 (i := 139) rfl rfl
theorem q3_140 : Cond.methodLink RX6 269 yX6_shadeByVoters ∈ zU := zt3 (i := 140) rfl rfl
theorem q3_142 : Cond.instanceMethod yX6_shadeByVoters ∈ zU := zt3 (i := 142) rfl rfl
theorem q3_143 : Cond.code yX6_shadeByVoters cX6_shadeByVoters 3 (some .int) ∈ zU := zt3 (i := 143) rfl rfl
theorem q3_144 : Cond.methodLink RX6 378 Lib.Math.abs.name ∈ zU := zt3 (i := 144) rfl rfl
theorem q3_145 : Cond.static Lib.Math.abs.name ∈ zU := zt3 (i := 145) rfl rfl
theorem q3_146 : Cond.code Lib.Math.abs.name cJ9_abs_0f7a4 1 (some .int) ∈ zU := zt3 (i := 146) rfl rfl
theorem q3_147 : Cond.methodLink RL 138 yX6_carry ∈ zU := zt3 (i := 147) rfl rfl
theorem q3_148 : Cond.instanceMethod yX6_carry ∈ zU := zt3 (i := 148) rfl rfl
theorem q3_149 : Cond.selects "SnowCitizens" yX6_carry yX6_carry ∈ zU := zt3 (i := 149) rfl rfl
theorem q3_150 : Cond.code yX6_carry cX6_carry 6 (some .int) ∈ zU := zt3 (i := 150) rfl rfl
theorem q3_151 : Cond.methodLink RX6 272 yX2_meltedIn ∈ zU := zt3 (i := 151) rfl rfl
theorem q3_152 : Cond.methodLink RX6 276 yX2_hasRight ∈ zU := zt3 (i := 152) rfl rfl
theorem q3_153 : Cond.methodLink RL 142 yX6_census ∈ zU := zt3 (i := 153) rfl rfl
theorem q3_154 : Cond.instanceMethod yX6_census ∈ zU := zt3 (i := 154) rfl rfl
theorem q3_155 : Cond.selects "SnowCitizens" yX6_census yX6_census ∈ zU := zt3 (i := 155) rfl rfl
theorem q3_156 : Cond.code yX6_census cX6_census 6 (some .int) ∈ zU := zt3 (i := 156) rfl rfl
theorem q3_157 : Cond.methodLink RX6 280 yX2_foreseeLiving ∈ zU := zt3 (i := 157) rfl rfl
theorem q3_158 : Cond.instanceMethod yX2_foreseeLiving ∈ zU := zt3 (i := 158) rfl rfl
theorem q3_159 : Cond.selects "SnowCitizens$North" yX2_foreseeLiving yX2_foreseeLiving ∈ zU := zt3 (i := 159) rfl rfl
theorem q3_160 : Cond.code yX2_foreseeLiving cX2_foreseeLiving 2 none ∈ zU := zt3 (i := 160) rfl rfl
theorem q3_161 : Cond.methodLink RX2 121 yX2_foreseeVoters ∈ zU := zt3 (i := 161) rfl rfl
theorem q3_162 : Cond.methodLink RX6 284 yX6_fillMostCounted ∈ zU := zt3 (i := 162) rfl rfl
theorem q3_164 : Cond.instanceMethod yX6_fillMostCounted ∈ zU := zt3 (i := 164) rfl rfl
theorem q3_165 : Cond.code yX6_fillMostCounted cX6_fillMostCounted 4 none ∈ zU := zt3 (i := 165) rfl rfl
theorem q3_166 : Cond.methodLink RX6 381 yX6_countedFrom ∈ zU := zt3 (i := 166) rfl rfl
theorem q3_168 : Cond.instanceMethod yX6_countedFrom ∈ zU := zt3 (i := 168) rfl rfl
theorem q3_169 : Cond.code yX6_countedFrom cX6_countedFrom 3 (some .int) ∈ zU := zt3 (i := 169) rfl rfl
theorem q3_170 : Cond.methodLink RX6 290 yX6_countedOn ∈ zU := zt3 (i := 170) rfl rfl
theorem q3_172 : Cond.instanceMethod yX6_countedOn ∈ zU := zt3 (i := 172) rfl rfl
theorem q3_173 : Cond.code yX6_countedOn cX6_countedOn 3 (some .int) ∈ zU := zt3 (i := 173) rfl rfl
theorem q3_174 : Cond.methodLink RX6 384 Lib.Math.max.name ∈ zU := zt3 (i := 174) rfl rfl
theorem q3_175 : Cond.methodLink RX6 287 yX6_nextCounted ∈ zU := zt3 (i := 175) rfl rfl
theorem q3_177 : Cond.instanceMethod yX6_nextCounted ∈ zU := zt3 (i := 177) rfl rfl
theorem q3_178 : Cond.code yX6_nextCounted cX6_nextCounted 4 (some .int) ∈ zU := zt3 (i := 178) rfl rfl
theorem q3_179 : Cond.methodLink RL 146 yX6_counted ∈ zU := zt3 (i := 179) rfl rfl
theorem q3_180 : Cond.instanceMethod yX6_counted ∈ zU := zt3 (i := 180) rfl rfl
theorem q3_181 : Cond.selects "SnowCitizens" yX6_counted yX6_counted ∈ zU := zt3 (i := 181) rfl rfl
theorem q3_182 : Cond.code yX6_counted cX6_counted 7 (some .int) ∈ zU := zt3 (i := 182) rfl rfl
theorem q3_183 : Cond.methodLink RL 150 yX6_fits ∈ zU := zt3 (i := 183) rfl rfl
theorem q3_184 : Cond.instanceMethod yX6_fits ∈ zU := zt3 (i := 184) rfl rfl
theorem q3_185 : Cond.selects "SnowCitizens" yX6_fits yX6_fits ∈ zU := zt3 (i := 185) rfl rfl
theorem q3_186 : Cond.code yX6_fits cX6_fits 8 (some .int) ∈ zU := zt3 (i := 186) rfl rfl
theorem q3_187 : Cond.methodLink RX6 293 yX6_refusalOfSeen ∈ zU := zt3 (i := 187) rfl rfl
theorem q3_189 : Cond.instanceMethod yX6_refusalOfSeen ∈ zU := zt3 (i := 189) rfl rfl
theorem q3_190 : Cond.code yX6_refusalOfSeen cX6_refusalOfSeen 6 (some .int) ∈ zU := zt3 (i := 190) rfl rfl
theorem q3_191 : Cond.methodLink RX6 296 yX2_foreseeMelted ∈ zU := zt3 (i := 191) rfl rfl
theorem q3_192 : Cond.instanceMethod yX2_foreseeMelted ∈ zU := zt3 (i := 192) rfl rfl
theorem q3_193 : Cond.selects "SnowCitizens$North" yX2_foreseeMelted yX2_foreseeMelted ∈ zU := zt3 (i := 193) rfl rfl
theorem q3_194 : Cond.code yX2_foreseeMelted cX2_foreseeMelted 6 none ∈ zU := zt3 (i := 194) rfl rfl
theorem q3_195 : Cond.methodLink RX6 300 yX6_isAsSeen ∈ zU := zt3 (i := 195) rfl rfl
theorem q3_197 : Cond.instanceMethod yX6_isAsSeen ∈ zU := zt3 (i := 197) rfl rfl
theorem q3_198 : Cond.code yX6_isAsSeen cX6_isAsSeen 5 (some .boolean) ∈ zU := zt3 (i := 198) rfl rfl
theorem q3_199 : Cond.methodLink RL 154 yX6_kinds ∈ zU := zt3 (i := 199) rfl rfl
theorem q3_200 : Cond.instanceMethod yX6_kinds ∈ zU := zt3 (i := 200) rfl rfl
theorem q3_201 : Cond.selects "SnowCitizens" yX6_kinds yX6_kinds ∈ zU := zt3 (i := 201) rfl rfl
theorem q3_202 : Cond.code yX6_kinds cX6_kinds 7 (some .int) ∈ zU := zt3 (i := 202) rfl rfl
theorem q3_203 : Cond.methodLink RL 158 yX6_rights ∈ zU := zt3 (i := 203) rfl rfl
theorem q3_204 : Cond.instanceMethod yX6_rights ∈ zU := zt3 (i := 204) rfl rfl
theorem q3_205 : Cond.selects "SnowCitizens" yX6_rights yX6_rights ∈ zU := zt3 (i := 205) rfl rfl
theorem q3_206 : Cond.code yX6_rights cX6_rights 4 (some .int) ∈ zU := zt3 (i := 206) rfl rfl
theorem q3_207 : Cond.methodLink RX6 304 yX2_votersBy ∈ zU := zt3 (i := 207) rfl rfl
theorem q3_208 : Cond.methodLink RL 162 yX6_game ∈ zU := zt3 (i := 208) rfl rfl
theorem q3_209 : Cond.instanceMethod yX6_game ∈ zU := zt3 (i := 209) rfl rfl
theorem q3_210 : Cond.selects "SnowCitizens" yX6_game yX6_game ∈ zU := zt3 (i := 210) rfl rfl
theorem q3_211 : Cond.code yX6_game cX6_game 2 (some .int) ∈ zU := zt3 (i := 211) rfl rfl
theorem q3_212 : Cond.methodLink RX6 307 yX1_prepare ∈ zU := zt3 (i := 212) rfl rfl
theorem q3_213 : Cond.instanceMethod yX1_prepare ∈ zU := zt3 (i := 213) rfl rfl
theorem q3_214 : Cond.selects "SnowCitizens$Game" yX1_prepare yX1_prepare ∈ zU := zt3 (i := 214) rfl rfl
theorem q3_215 : Cond.code yX1_prepare cX1_prepare 5 none ∈ zU := zt3 (i := 215) rfl rfl
theorem q3_216 : Cond.methodLink RX1 28 yX2_hasRightBy ∈ zU := zt3 (i := 216) rfl rfl
theorem q3_219 : Cond.methodLink RX1 41 yX1_place ∈ zU := zt3 (i := 219) rfl rfl
theorem q3_221 : Cond.instanceMethod yX1_place ∈ zU := zt3 (i := 221) rfl rfl
theorem q3_222 : Cond.code yX1_place cX1_place 3 none ∈ zU := zt3 (i := 222) rfl rfl
theorem q3_224 : Cond.methodLink RX1 49 yX2_isCarriedBy ∈ zU := zt3 (i := 224) rfl rfl
theorem q3_226 : Cond.static yX1_endsCarried ∈ zU := zt3 (i := 226) rfl rfl
theorem q3_227 : Cond.code yX1_endsCarried cX1_endsCarried 5 (some .boolean) ∈ zU := zt3 (i := 227) rfl rfl
theorem q3_228 : Cond.methodLink RX1 57 yX1_makes ∈ zU := zt3 (i := 228) rfl rfl
theorem q3_230 : Cond.instanceMethod yX1_makes ∈ zU := zt3 (i := 230) rfl rfl
theorem q3_231 : Cond.code yX1_makes cX1_makes 4 (some .boolean) ∈ zU := zt3 (i := 231) rfl rfl
theorem q3_232 : Cond.methodLink RX1 60 yX1_endsCarried ∈ zU := zt3 (i := 232) rfl rfl
theorem q3_233 : Cond.methodLink RL 166 yX6_first ∈ zU := zt3 (i := 233) rfl rfl
theorem q3_234 : Cond.instanceMethod yX6_first ∈ zU := zt3 (i := 234) rfl rfl
theorem q3_235 : Cond.selects "SnowCitizens" yX6_first yX6_first ∈ zU := zt3 (i := 235) rfl rfl
theorem q3_236 : Cond.code yX6_first cX6_first 2 (some .int) ∈ zU := zt3 (i := 236) rfl rfl
theorem q3_237 : Cond.methodLink RX6 314 yX1_winningMove ∈ zU := zt3 (i := 237) rfl rfl
theorem q3_238 : Cond.instanceMethod yX1_winningMove ∈ zU := zt3 (i := 238) rfl rfl
theorem q3_239 : Cond.selects "SnowCitizens$Game" yX1_winningMove yX1_winningMove ∈ zU := zt3 (i := 239) rfl rfl
theorem q4_0 : Cond.code yX1_winningMove cX1_winningMove 4 (some .int) ∈ zU := zt4 (i := 0) rfl rfl
theorem q4_1 : Cond.methodLink RL 170 yX6_odds ∈ zU := zt4 (i := 1) rfl rfl
theorem q4_2 : Cond.instanceMethod yX6_odds ∈ zU := zt4 (i := 2) rfl rfl
theorem q4_3 : Cond.selects "SnowCitizens" yX6_odds yX6_odds ∈ zU := zt4 (i := 3) rfl rfl
theorem q4_4 : Cond.code yX6_odds cX6_odds 4 (some .int) ∈ zU := zt4 (i := 4) rfl rfl
theorem q4_5 : Cond.methodLink RX6 317 yX0_weigh ∈ zU := zt4 (i := 5) rfl rfl
theorem q4_6 : Cond.instanceMethod yX0_weigh ∈ zU := zt4 (i := 6) rfl rfl
theorem q4_7 : Cond.selects "SnowCitizens$Clouds" yX0_weigh yX0_weigh ∈ zU := zt4 (i := 7) rfl rfl
theorem q4_8 : Cond.code yX0_weigh cX0_weigh 6 none ∈ zU := zt4 (i := 8) rfl rfl
theorem q4_9 : Cond.methodLink RX0 18 yX0_clear ∈ zU := zt4 (i := 9) rfl rfl
theorem q4_10 : Cond.static yX0_clear ∈ zU := zt4 (i := 10) rfl rfl
theorem q4_11 : Cond.code yX0_clear cX0_clear 2 none ∈ zU := zt4 (i := 11) rfl rfl
theorem q4_13 : Cond.methodLink RX0 32 yX0_add ∈ zU := zt4 (i := 13) rfl rfl
theorem q4_14 : Cond.static yX0_add ∈ zU := zt4 (i := 14) rfl rfl
theorem q4_15 : Cond.code yX0_add cX0_add 4 none ∈ zU := zt4 (i := 15) rfl rfl
theorem q4_16 : Cond.methodLink RX0 40 yX2_meltingIn ∈ zU := zt4 (i := 16) rfl rfl
theorem q4_17 : Cond.methodLink RX0 44 yX0_pass ∈ zU := zt4 (i := 17) rfl rfl
theorem q4_19 : Cond.instanceMethod yX0_pass ∈ zU := zt4 (i := 19) rfl rfl
theorem q4_20 : Cond.code yX0_pass cX0_pass 4 none ∈ zU := zt4 (i := 20) rfl rfl
theorem q4_21 : Cond.methodLink RX0 50 Lib.Math.max.name ∈ zU := zt4 (i := 21) rfl rfl
theorem q4_22 : Cond.constantLong RX0 48 12 ∈ zU := zt4 (i := 22) rfl rfl
theorem q4_23 : Cond.methodLink RX6 321 yX0_waysToLast ∈ zU := zt4 (i := 23) rfl rfl
theorem q4_24 : Cond.instanceMethod yX0_waysToLast ∈ zU := zt4 (i := 24) rfl rfl
theorem q4_25 : Cond.selects "SnowCitizens$Clouds" yX0_waysToLast yX0_waysToLast ∈ zU := zt4 (i := 25) rfl rfl
theorem q4_26 : Cond.code yX0_waysToLast cX0_waysToLast 4 (some .long) ∈ zU := zt4 (i := 26) rfl rfl
theorem q4_27 : Cond.methodLink RX6 327 yX6_tellChance ∈ zU := zt4 (i := 27) rfl rfl
theorem q4_29 : Cond.instanceMethod yX6_tellChance ∈ zU := zt4 (i := 29) rfl rfl
theorem q4_30 : Cond.code yX6_tellChance cX6_tellChance 7 none ∈ zU := zt4 (i := 30) rfl rfl
theorem q4_31 : Cond.methodLink RX6 359 yX6_commonDivisor ∈ zU := zt4 (i := 31) rfl rfl
theorem q4_32 : Cond.static yX6_commonDivisor ∈ zU := zt4 (i := 32) rfl rfl
theorem q4_33 : Cond.code yX6_commonDivisor cX6_commonDivisor 7 (some .long) ∈ zU := zt4 (i := 33) rfl rfl
theorem q4_34 : Cond.methodLink RL 174 yX6_mid ∈ zU := zt4 (i := 34) rfl rfl
theorem q4_35 : Cond.instanceMethod yX6_mid ∈ zU := zt4 (i := 35) rfl rfl
theorem q4_36 : Cond.selects "SnowCitizens" yX6_mid yX6_mid ∈ zU := zt4 (i := 36) rfl rfl
theorem q4_37 : Cond.code yX6_mid cX6_mid 4 (some .int) ∈ zU := zt4 (i := 37) rfl rfl
theorem q4_38 : Cond.methodLink RX6 331 yX0_bulkOfWays ∈ zU := zt4 (i := 38) rfl rfl
theorem q4_39 : Cond.instanceMethod yX0_bulkOfWays ∈ zU := zt4 (i := 39) rfl rfl
theorem q4_40 : Cond.selects "SnowCitizens$Clouds" yX0_bulkOfWays yX0_bulkOfWays ∈ zU := zt4 (i := 40) rfl rfl
theorem q4_41 : Cond.code yX0_bulkOfWays cX0_bulkOfWays 4 (some .long) ∈ zU := zt4 (i := 41) rfl rfl
theorem q4_42 : Cond.methodLink RL 178 yX6_lots ∈ zU := zt4 (i := 42) rfl rfl
theorem q4_43 : Cond.instanceMethod yX6_lots ∈ zU := zt4 (i := 43) rfl rfl
theorem q4_44 : Cond.selects "SnowCitizens" yX6_lots yX6_lots ∈ zU := zt4 (i := 44) rfl rfl
theorem q4_45 : Cond.code yX6_lots cX6_lots 7 (some .int) ∈ zU := zt4 (i := 45) rfl rfl
theorem q4_46 : Cond.constant RX6 334 2147483646 ∈ zU := zt4 (i := 46) rfl rfl
theorem q4_47 : Cond.constantLong RX6 335 48271 ∈ zU := zt4 (i := 47) rfl rfl
theorem q4_48 : Cond.constantLong RX6 337 2147483647 ∈ zU := zt4 (i := 48) rfl rfl
theorem q4_49 : Cond.constantLong RX6 339 12 ∈ zU := zt4 (i := 49) rfl rfl
theorem q4_50 : Cond.methodLink RL 182 yX6_asked ∈ zU := zt4 (i := 50) rfl rfl
theorem q4_51 : Cond.instanceMethod yX6_asked ∈ zU := zt4 (i := 51) rfl rfl
theorem q4_52 : Cond.selects "SnowCitizens" yX6_asked yX6_asked ∈ zU := zt4 (i := 52) rfl rfl
theorem q4_53 : Cond.code yX6_asked cX6_asked 1 (some .int) ∈ zU := zt4 (i := 53) rfl rfl
theorem q4_54 : Cond.methodLink RL 186 yX6_upper ∈ zU := zt4 (i := 54) rfl rfl
theorem q4_55 : Cond.instanceMethod yX6_upper ∈ zU := zt4 (i := 55) rfl rfl
theorem q4_56 : Cond.selects "SnowCitizens" yX6_upper yX6_upper ∈ zU := zt4 (i := 56) rfl rfl
theorem q4_57 : Cond.code yX6_upper cX6_upper 1 (some .long) ∈ zU := zt4 (i := 57) rfl rfl
theorem q4_58 : Cond.methodLink RL 191 yX6_lower ∈ zU := zt4 (i := 58) rfl rfl
theorem q4_59 : Cond.instanceMethod yX6_lower ∈ zU := zt4 (i := 59) rfl rfl
theorem q4_60 : Cond.selects "SnowCitizens" yX6_lower yX6_lower ∈ zU := zt4 (i := 60) rfl rfl
theorem q4_61 : Cond.code yX6_lower cX6_lower 1 (some .long) ∈ zU := zt4 (i := 61) rfl rfl
theorem q4_62 : Cond.methodLink RL 195 yX6_count ∈ zU := zt4 (i := 62) rfl rfl
theorem q4_63 : Cond.instanceMethod yX6_count ∈ zU := zt4 (i := 63) rfl rfl
theorem q4_64 : Cond.selects "SnowCitizens" yX6_count yX6_count ∈ zU := zt4 (i := 64) rfl rfl
theorem q4_65 : Cond.code yX6_count cX6_count 2 (some .int) ∈ zU := zt4 (i := 65) rfl rfl
theorem q4_66 : Cond.methodLink RX6 344 yX6_countOf ∈ zU := zt4 (i := 66) rfl rfl
theorem q4_68 : Cond.instanceMethod yX6_countOf ∈ zU := zt4 (i := 68) rfl rfl
theorem q4_69 : Cond.code yX6_countOf cX6_countOf 2 (some .int) ∈ zU := zt4 (i := 69) rfl rfl
theorem q4_70 : Cond.methodLink RX6 363 yX2_bulkOfAll ∈ zU := zt4 (i := 70) rfl rfl
theorem q4_71 : Cond.instanceMethod yX2_bulkOfAll ∈ zU := zt4 (i := 71) rfl rfl
theorem q4_72 : Cond.selects "SnowCitizens$North" yX2_bulkOfAll yX2_bulkOfAll ∈ zU := zt4 (i := 72) rfl rfl
theorem q4_73 : Cond.code yX2_bulkOfAll cX2_bulkOfAll 3 (some .int) ∈ zU := zt4 (i := 73) rfl rfl
theorem q4_74 : Cond.methodLink RX6 366 yX2_hattedOnes ∈ zU := zt4 (i := 74) rfl rfl
theorem q4_75 : Cond.instanceMethod yX2_hattedOnes ∈ zU := zt4 (i := 75) rfl rfl
theorem q4_76 : Cond.selects "SnowCitizens$North" yX2_hattedOnes yX2_hattedOnes ∈ zU := zt4 (i := 76) rfl rfl
theorem q4_77 : Cond.code yX2_hattedOnes cX2_hattedOnes 3 (some .int) ∈ zU := zt4 (i := 77) rfl rfl
theorem q4_79 : Cond.methodLink RX6 369 yX6_rowsThere ∈ zU := zt4 (i := 79) rfl rfl
theorem q4_81 : Cond.instanceMethod yX6_rowsThere ∈ zU := zt4 (i := 81) rfl rfl
theorem q4_82 : Cond.code yX6_rowsThere cX6_rowsThere 4 (some .int) ∈ zU := zt4 (i := 82) rfl rfl
theorem q4_83 : Cond.methodLink RX6 372 yX6_textsThere ∈ zU := zt4 (i := 83) rfl rfl
theorem q4_85 : Cond.instanceMethod yX6_textsThere ∈ zU := zt4 (i := 85) rfl rfl
theorem q4_86 : Cond.code yX6_textsThere cX6_textsThere 4 (some .int) ∈ zU := zt4 (i := 86) rfl rfl
theorem q4_87 : Cond.methodLink RX6 375 yX6_keptThere ∈ zU := zt4 (i := 87) rfl rfl
theorem q4_89 : Cond.instanceMethod yX6_keptThere ∈ zU := zt4 (i := 89) rfl rfl
theorem q4_90 : Cond.code yX6_keptThere cX6_keptThere 4 (some .int) ∈ zU := zt4 (i := 90) rfl rfl
theorem q4_91 : Cond.methodLink RL 199 yX6_finding ∈ zU := zt4 (i := 91) rfl rfl
theorem q4_92 : Cond.instanceMethod yX6_finding ∈ zU := zt4 (i := 92) rfl rfl
theorem q4_93 : Cond.selects "SnowCitizens" yX6_finding yX6_finding ∈ zU := zt4 (i := 93) rfl rfl
theorem q4_94 : Cond.code yX6_finding cX6_finding 1 (some .int) ∈ zU := zt4 (i := 94) rfl rfl
theorem q4_95 : Cond.methodLink RL 203 yX6_findings ∈ zU := zt4 (i := 95) rfl rfl
theorem q4_96 : Cond.instanceMethod yX6_findings ∈ zU := zt4 (i := 96) rfl rfl
theorem q4_97 : Cond.selects "SnowCitizens" yX6_findings yX6_findings ∈ zU := zt4 (i := 97) rfl rfl
theorem q4_98 : Cond.code yX6_findings cX6_findings 2 (some .int) ∈ zU := zt4 (i := 98) rfl rfl
theorem q4_99 : Cond.methodLink RL 207 yX6_digest ∈ zU := zt4 (i := 99) rfl rfl
theorem q4_100 : Cond.instanceMethod yX6_digest ∈ zU := zt4 (i := 100) rfl rfl
theorem q4_101 : Cond.selects "SnowCitizens" yX6_digest yX6_digest ∈ zU := zt4 (i := 101) rfl rfl
theorem q4_102 : Cond.code yX6_digest cX6_digest 5 (some .long) ∈ zU := zt4 (i := 102) rfl rfl
theorem q4_103 : Cond.constantLong RX6 350 17 ∈ zU := zt4 (i := 103) rfl rfl
theorem q4_104 : Cond.constantLong RX6 352 31 ∈ zU := zt4 (i := 104) rfl rfl
theorem q4_105 : Cond.methodLink RX6 354 yX4_digestedOnto ∈ zU := zt4 (i := 105) rfl rfl
theorem q4_106 : Cond.instanceMethod yX4_digestedOnto ∈ zU := zt4 (i := 106) rfl rfl
theorem q4_107 : Cond.selects "SnowCitizens$Row" yX4_digestedOnto yX4_digestedOnto ∈ zU := zt4 (i := 107) rfl rfl
theorem q4_108 : Cond.code yX4_digestedOnto cX4_digestedOnto 6 (some .long) ∈ zU := zt4 (i := 108) rfl rfl
theorem q4_109 : Cond.constantLong RX4 31 31 ∈ zU := zt4 (i := 109) rfl rfl
theorem q4_110 : Cond.methodLink RX6 358 yX5_digestedOnto ∈ zU := zt4 (i := 110) rfl rfl
theorem q4_111 : Cond.instanceMethod yX5_digestedOnto ∈ zU := zt4 (i := 111) rfl rfl
theorem q4_112 : Cond.selects "SnowCitizens$Text" yX5_digestedOnto yX5_digestedOnto ∈ zU := zt4 (i := 112) rfl rfl
theorem q4_113 : Cond.code yX5_digestedOnto cX5_digestedOnto 6 (some .long) ∈ zU := zt4 (i := 113) rfl rfl
theorem q4_114 : Cond.constantLong RX5 23 31 ∈ zU := zt4 (i := 114) rfl rfl
theorem q4_115 : Cond.methodLink RX5 25 yX5_sign ∈ zU := zt4 (i := 115) rfl rfl
theorem q4_116 : Cond.classLink RL 10 "SnowCitizensModel" ∈ zU := zt4 (i := 116) rfl rfl
theorem q4_117 : Cond.instantiable "SnowCitizensModel" 37 ∈ zU := zt4 (i := 117) rfl rfl
theorem q4_118 : Cond.methodLink RL 12 yX7_init ∈ zU := zt4 (i := 118) rfl rfl
theorem q4_119 : Cond.instanceMethod yX7_init ∈ zU := zt4 (i := 119) rfl rfl
theorem q4_120 : Cond.code yX7_init cX7_init 2 none ∈ zU := zt4 (i := 120) rfl rfl
theorem q4_121 : Cond.methodLink RX7 1 objectInit ∈ zU := zt4 (i := 121) rfl rfl
theorem q4_122 : Cond.fieldLink RX7 7 "SnowCitizensModel" "rows" "[I" ∈ zU := zt4 (i := 122) rfl rfl
theorem q4_123 : Cond.fieldLink RX7 13 "SnowCitizensModel" "rowLong" "[I" ∈ zU := zt4 (i := 123) rfl rfl
theorem q4_124 : Cond.fieldLink RX7 16 "SnowCitizensModel" "texts" "[I" ∈ zU := zt4 (i := 124) rfl rfl
theorem q4_125 : Cond.fieldLink RX7 19 "SnowCitizensModel" "textLong" "[I" ∈ zU := zt4 (i := 125) rfl rfl
theorem q4_126 : Cond.fieldLink RX7 101 "SnowCitizensModel" "men" "I" ∈ zU := zt4 (i := 126) rfl rfl
theorem q4_127 : Cond.fieldLink RX7 22 "SnowCitizensModel" "kindIs" "[I" ∈ zU := zt4 (i := 127) rfl rfl
theorem q4_128 : Cond.fieldLink RX7 25 "SnowCitizensModel" "own" "[I" ∈ zU := zt4 (i := 128) rfl rfl
theorem q4_129 : Cond.fieldLink RX7 28 "SnowCitizensModel" "suns" "[I" ∈ zU := zt4 (i := 129) rfl rfl
theorem q4_130 : Cond.fieldLink RX7 31 "SnowCitizensModel" "bulks" "[I" ∈ zU := zt4 (i := 130) rfl rfl
theorem q4_131 : Cond.fieldLink RX7 34 "SnowCitizensModel" "shades" "[I" ∈ zU := zt4 (i := 131) rfl rfl
theorem q4_132 : Cond.fieldLink RX7 164 "SnowCitizensModel" "rightIs" "I" ∈ zU := zt4 (i := 132) rfl rfl
theorem q4_133 : Cond.fieldLink RX7 167 "SnowCitizensModel" "dayIs" "I" ∈ zU := zt4 (i := 133) rfl rfl
theorem q4_134 : Cond.fieldLink RX7 170 "SnowCitizensModel" "deeds" "I" ∈ zU := zt4 (i := 134) rfl rfl
theorem q4_135 : Cond.fieldLink RX7 37 "SnowCitizensModel" "past" "[I" ∈ zU := zt4 (i := 135) rfl rfl
theorem q4_136 : Cond.fieldLink RX7 40 "SnowCitizensModel" "kept" "[I" ∈ zU := zt4 (i := 136) rfl rfl
theorem q4_137 : Cond.fieldLink RX7 43 "SnowCitizensModel" "isKept" "[Z" ∈ zU := zt4 (i := 137) rfl rfl
theorem q4_138 : Cond.fieldLink RX7 98 "SnowCitizensModel" "asks" "I" ∈ zU := zt4 (i := 138) rfl rfl
theorem q4_139 : Cond.fieldLink RX7 300 "SnowCitizensModel" "above" "J" ∈ zU := zt4 (i := 139) rfl rfl
theorem q4_140 : Cond.fieldLink RX7 47 "SnowCitizensModel" "below" "J" ∈ zU := zt4 (i := 140) rfl rfl
theorem q4_141 : Cond.fieldLink RX7 94 "SnowCitizensModel" "found" "I" ∈ zU := zt4 (i := 141) rfl rfl
theorem q4_142 : Cond.fieldLink RX7 51 "SnowCitizensModel" "manyFound" "[I" ∈ zU := zt4 (i := 142) rfl rfl
theorem q4_143 : Cond.fieldLink RX7 54 "SnowCitizensModel" "moved" "[I" ∈ zU := zt4 (i := 143) rfl rfl
theorem q4_144 : Cond.fieldLink RX7 148 "SnowCitizensModel" "readMen" "I" ∈ zU := zt4 (i := 144) rfl rfl
theorem q4_145 : Cond.fieldLink RX7 57 "SnowCitizensModel" "readKinds" "[I" ∈ zU := zt4 (i := 145) rfl rfl
theorem q4_146 : Cond.fieldLink RX7 60 "SnowCitizensModel" "readBulks" "[I" ∈ zU := zt4 (i := 146) rfl rfl
theorem q4_147 : Cond.fieldLink RX7 63 "SnowCitizensModel" "readShades" "[I" ∈ zU := zt4 (i := 147) rfl rfl
theorem q4_148 : Cond.fieldLink RX7 66 "SnowCitizensModel" "readOwn" "[I" ∈ zU := zt4 (i := 148) rfl rfl
theorem q4_149 : Cond.fieldLink RX7 69 "SnowCitizensModel" "readSuns" "[I" ∈ zU := zt4 (i := 149) rfl rfl
theorem q4_150 : Cond.fieldLink RX7 142 "SnowCitizensModel" "readRight" "I" ∈ zU := zt4 (i := 150) rfl rfl
theorem q4_151 : Cond.fieldLink RX7 132 "SnowCitizensModel" "place" "I" ∈ zU := zt4 (i := 151) rfl rfl
theorem q4_152 : Cond.fieldLink RX7 72 "SnowCitizensModel" "shadesThen" "[I" ∈ zU := zt4 (i := 152) rfl rfl
theorem q4_153 : Cond.fieldLink RX7 75 "SnowCitizensModel" "shadeFor" "[I" ∈ zU := zt4 (i := 153) rfl rfl
theorem q4_154 : Cond.fieldLink RX7 78 "SnowCitizensModel" "goneBy" "[I" ∈ zU := zt4 (i := 154) rfl rfl
theorem q4_155 : Cond.fieldLink RX7 81 "SnowCitizensModel" "order" "[I" ∈ zU := zt4 (i := 155) rfl rfl
theorem q4_156 : Cond.fieldLink RX7 84 "SnowCitizensModel" "bestOrder" "[I" ∈ zU := zt4 (i := 156) rfl rfl
theorem q4_157 : Cond.fieldLink RX7 87 "SnowCitizensModel" "cases" "[J" ∈ zU := zt4 (i := 157) rfl rfl
theorem q4_158 : Cond.fieldLink RX7 91 "SnowCitizensModel" "casesThen" "[J" ∈ zU := zt4 (i := 158) rfl rfl
theorem q4_159 : Cond.laysFinal "SnowCitizensModel" "SnowCitizensModel" "rows" "[I" ∈ zU := zt4 (i := 159) rfl rfl
theorem q4_161 : Cond.laysFinal "SnowCitizensModel" "SnowCitizensModel" "rowLong" "[I" ∈ zU := zt4 (i := 161) rfl rfl
theorem q4_163 : Cond.laysFinal "SnowCitizensModel" "SnowCitizensModel" "texts" "[I" ∈ zU := zt4 (i := 163) rfl rfl
theorem q4_165 : Cond.laysFinal "SnowCitizensModel" "SnowCitizensModel" "textLong" "[I" ∈ zU := zt4 (i := 165) rfl rfl
theorem q4_167 : Cond.lays "SnowCitizensModel" "SnowCitizensModel" "men" "I" ∈ zU := zt4 (i := 167) rfl rfl
theorem q4_169 : Cond.laysFinal "SnowCitizensModel" "SnowCitizensModel" "kindIs" "[I" ∈ zU := zt4 (i := 169) rfl rfl
theorem q4_171 : Cond.laysFinal "SnowCitizensModel" "SnowCitizensModel" "own" "[I" ∈ zU := zt4 (i := 171) rfl rfl
theorem q4_173 : Cond.laysFinal "SnowCitizensModel" "SnowCitizensModel" "suns" "[I" ∈ zU := zt4 (i := 173) rfl rfl
theorem q4_175 : Cond.laysFinal "SnowCitizensModel" "SnowCitizensModel" "bulks" "[I" ∈ zU := zt4 (i := 175) rfl rfl
theorem q4_177 : Cond.laysFinal "SnowCitizensModel" "SnowCitizensModel" "shades" "[I" ∈ zU := zt4 (i := 177) rfl rfl
theorem q4_179 : Cond.lays "SnowCitizensModel" "SnowCitizensModel" "rightIs" "I" ∈ zU := zt4 (i := 179) rfl rfl
theorem q4_181 : Cond.lays "SnowCitizensModel" "SnowCitizensModel" "dayIs" "I" ∈ zU := zt4 (i := 181) rfl rfl
theorem q4_183 : Cond.lays "SnowCitizensModel" "SnowCitizensModel" "deeds" "I" ∈ zU := zt4 (i := 183) rfl rfl
theorem q4_185 : Cond.laysFinal "SnowCitizensModel" "SnowCitizensModel" "past" "[I" ∈ zU := zt4 (i := 185) rfl rfl
theorem q4_187 : Cond.laysFinal "SnowCitizensModel" "SnowCitizensModel" "kept" "[I" ∈ zU := zt4 (i := 187) rfl rfl
theorem q4_189 : Cond.laysFinal "SnowCitizensModel" "SnowCitizensModel" "isKept" "[Z" ∈ zU := zt4 (i := 189) rfl rfl
theorem q4_191 : Cond.lays "SnowCitizensModel" "SnowCitizensModel" "asks" "I" ∈ zU := zt4 (i := 191) rfl rfl
theorem q4_193 : Cond.lays "SnowCitizensModel" "SnowCitizensModel" "above" "J" ∈ zU := zt4 (i := 193) rfl rfl
theorem q4_195 : Cond.lays "SnowCitizensModel" "SnowCitizensModel" "below" "J" ∈ zU := zt4 (i := 195) rfl rfl
theorem q4_197 : Cond.lays "SnowCitizensModel" "SnowCitizensModel" "found" "I" ∈ zU := zt4 (i := 197) rfl rfl
theorem q4_199 : Cond.laysFinal "SnowCitizensModel" "SnowCitizensModel" "manyFound" "[I" ∈ zU := zt4 (i := 199) rfl rfl
theorem q4_201 : Cond.laysFinal "SnowCitizensModel" "SnowCitizensModel" "moved" "[I" ∈ zU := zt4 (i := 201) rfl rfl
theorem q4_203 : Cond.lays "SnowCitizensModel" "SnowCitizensModel" "readMen" "I" ∈ zU := zt4 (i := 203) rfl rfl
theorem q4_205 : Cond.laysFinal "SnowCitizensModel" "SnowCitizensModel" "readKinds" "[I" ∈ zU := zt4 (i := 205) rfl rfl
theorem q4_207 : Cond.laysFinal "SnowCitizensModel" "SnowCitizensModel" "readBulks" "[I" ∈ zU := zt4 (i := 207) rfl rfl
theorem q4_209 : Cond.laysFinal "SnowCitizensModel" "SnowCitizensModel" "readShades" "[I" ∈ zU := zt4 (i := 209) rfl rfl
theorem q4_211 : Cond.laysFinal "SnowCitizensModel" "SnowCitizensModel" "readOwn" "[I" ∈ zU := zt4 (i := 211) rfl rfl
theorem q4_213 : Cond.laysFinal "SnowCitizensModel" "SnowCitizensModel" "readSuns" "[I" ∈ zU := zt4 (i := 213) rfl rfl
theorem q4_215 : Cond.lays "SnowCitizensModel" "SnowCitizensModel" "readRight" "I" ∈ zU := zt4 (i := 215) rfl rfl
theorem q4_217 : Cond.lays "SnowCitizensModel" "SnowCitizensModel" "place" "I" ∈ zU := zt4 (i := 217) rfl rfl
theorem q4_219 : Cond.laysFinal "SnowCitizensModel" "SnowCitizensModel" "shadesThen" "[I" ∈ zU := zt4 (i := 219) rfl rfl
theorem q4_221 : Cond.laysFinal "SnowCitizensModel" "SnowCitizensModel" "shadeFor" "[I" ∈ zU := zt4 (i := 221) rfl rfl
theorem q4_223 : Cond.laysFinal "SnowCitizensModel" "SnowCitizensModel" "goneBy" "[I" ∈ zU := zt4 (i := 223) rfl rfl
theorem q4_225 : Cond.laysFinal "SnowCitizensModel" "SnowCitizensModel" "order" "[I" ∈ zU := zt4 (i := 225) rfl rfl
theorem q4_227 : Cond.laysFinal "SnowCitizensModel" "SnowCitizensModel" "bestOrder" "[I" ∈ zU := zt4 (i := 227) rfl rfl
theorem q4_229 : Cond.laysFinal "SnowCitizensModel" "SnowCitizensModel" "cases" "[J" ∈ zU := zt4 (i := 229) rfl rfl
theorem q4_231 : Cond.laysFinal "SnowCitizensModel" "SnowCitizensModel" "casesThen" "[J" ∈ zU := zt4 (i := 231) rfl rfl
theorem q4_234 : Cond.arrayClass .boolean ∈ zU := zt4 (i := 234) rfl rfl
theorem q4_235 : Cond.methodLink RL 17 yX7_row ∈ zU := zt4 (i := 235) rfl rfl
theorem q4_236 : Cond.instanceMethod yX7_row ∈ zU := zt4 (i := 236) rfl rfl
theorem q4_237 : Cond.selects "SnowCitizensModel" yX7_row yX7_row ∈ zU := zt4 (i := 237) rfl rfl
theorem q4_238 : Cond.code yX7_row cX7_row 3 (some .int) ∈ zU := zt4 (i := 238) rfl rfl
theorem q4_239 : Cond.methodLink RX7 114 yX7_isRow ∈ zU := zt4 (i := 239) rfl rfl
theorem q5_0 : Cond.static yX7_isRow ∈ zU := zt5 (i := 0) rfl rfl
theorem q5_1 : Cond.code yX7_isRow cX7_isRow 1 (some .boolean) ∈ zU := zt5 (i := 1) rfl rfl
theorem q5_2 : Cond.constantLong RX7 108 5 ∈ zU := zt5 (i := 2) rfl rfl
theorem q5_3 : Cond.methodLink RX7 104 yX7_in ∈ zU := zt5 (i := 3) rfl rfl
theorem q5_4 : Cond.static yX7_in ∈ zU := zt5 (i := 4) rfl rfl
theorem q5_5 : Cond.code yX7_in cX7_in 6 (some .boolean) ∈ zU := zt5 (i := 5) rfl rfl
theorem q5_6 : Cond.methodLink RX7 118 yX7_finds ∈ zU := zt5 (i := 6) rfl rfl
theorem q5_8 : Cond.instanceMethod yX7_finds ∈ zU := zt5 (i := 8) rfl rfl
theorem q5_9 : Cond.code yX7_finds cX7_finds 2 (some .int) ∈ zU := zt5 (i := 9) rfl rfl
theorem q5_10 : Cond.methodLink RX7 122 yX7_layRow ∈ zU := zt5 (i := 10) rfl rfl
theorem q5_12 : Cond.instanceMethod yX7_layRow ∈ zU := zt5 (i := 12) rfl rfl
theorem q5_13 : Cond.code yX7_layRow cX7_layRow 4 none ∈ zU := zt5 (i := 13) rfl rfl
theorem q5_14 : Cond.methodLink RL 22 yX7_lay ∈ zU := zt5 (i := 14) rfl rfl
theorem q5_15 : Cond.instanceMethod yX7_lay ∈ zU := zt5 (i := 15) rfl rfl
theorem q5_16 : Cond.selects "SnowCitizensModel" yX7_lay yX7_lay ∈ zU := zt5 (i := 16) rfl rfl
theorem q5_17 : Cond.code yX7_lay cX7_lay 5 (some .int) ∈ zU := zt5 (i := 17) rfl rfl
theorem q5_18 : Cond.methodLink RX7 126 yX7_tells ∈ zU := zt5 (i := 18) rfl rfl
theorem q5_20 : Cond.instanceMethod yX7_tells ∈ zU := zt5 (i := 20) rfl rfl
theorem q5_21 : Cond.code yX7_tells cX7_tells 2 (some .int) ∈ zU := zt5 (i := 21) rfl rfl
theorem q5_22 : Cond.methodLink RL 26 yX7_at ∈ zU := zt5 (i := 22) rfl rfl
theorem q5_23 : Cond.instanceMethod yX7_at ∈ zU := zt5 (i := 23) rfl rfl
theorem q5_24 : Cond.selects "SnowCitizensModel" yX7_at yX7_at ∈ zU := zt5 (i := 24) rfl rfl
theorem q5_25 : Cond.code yX7_at cX7_at 3 (some .int) ∈ zU := zt5 (i := 25) rfl rfl
theorem q5_26 : Cond.methodLink RL 31 yX7_tear ∈ zU := zt5 (i := 26) rfl rfl
theorem q5_27 : Cond.instanceMethod yX7_tear ∈ zU := zt5 (i := 27) rfl rfl
theorem q5_28 : Cond.selects "SnowCitizensModel" yX7_tear yX7_tear ∈ zU := zt5 (i := 28) rfl rfl
theorem q5_29 : Cond.code yX7_tear cX7_tear 2 (some .int) ∈ zU := zt5 (i := 29) rfl rfl
theorem q5_30 : Cond.methodLink RL 36 yX7_copy ∈ zU := zt5 (i := 30) rfl rfl
theorem q5_31 : Cond.instanceMethod yX7_copy ∈ zU := zt5 (i := 31) rfl rfl
theorem q5_32 : Cond.selects "SnowCitizensModel" yX7_copy yX7_copy ∈ zU := zt5 (i := 32) rfl rfl
theorem q5_33 : Cond.code yX7_copy cX7_copy 7 (some .int) ∈ zU := zt5 (i := 33) rfl rfl
theorem q5_34 : Cond.methodLink RL 40 yX7_mean ∈ zU := zt5 (i := 34) rfl rfl
theorem q5_35 : Cond.instanceMethod yX7_mean ∈ zU := zt5 (i := 35) rfl rfl
theorem q5_36 : Cond.selects "SnowCitizensModel" yX7_mean yX7_mean ∈ zU := zt5 (i := 36) rfl rfl
theorem q5_37 : Cond.code yX7_mean cX7_mean 5 (some .int) ∈ zU := zt5 (i := 37) rfl rfl
theorem q5_38 : Cond.methodLink RL 44 yX7_text ∈ zU := zt5 (i := 38) rfl rfl
theorem q5_39 : Cond.instanceMethod yX7_text ∈ zU := zt5 (i := 39) rfl rfl
theorem q5_40 : Cond.selects "SnowCitizensModel" yX7_text yX7_text ∈ zU := zt5 (i := 40) rfl rfl
theorem q5_41 : Cond.code yX7_text cX7_text 4 (some .int) ∈ zU := zt5 (i := 41) rfl rfl
theorem q5_42 : Cond.methodLink RX7 129 yX7_isText ∈ zU := zt5 (i := 42) rfl rfl
theorem q5_43 : Cond.static yX7_isText ∈ zU := zt5 (i := 43) rfl rfl
theorem q5_44 : Cond.code yX7_isText cX7_isText 1 (some .boolean) ∈ zU := zt5 (i := 44) rfl rfl
theorem q5_45 : Cond.constantLong RX7 110 3 ∈ zU := zt5 (i := 45) rfl rfl
theorem q5_46 : Cond.methodLink RL 48 yX7_put ∈ zU := zt5 (i := 46) rfl rfl
theorem q5_47 : Cond.instanceMethod yX7_put ∈ zU := zt5 (i := 47) rfl rfl
theorem q5_48 : Cond.selects "SnowCitizensModel" yX7_put yX7_put ∈ zU := zt5 (i := 48) rfl rfl
theorem q5_49 : Cond.code yX7_put cX7_put 5 (some .int) ∈ zU := zt5 (i := 49) rfl rfl
theorem q5_50 : Cond.methodLink RL 52 yX7_fault ∈ zU := zt5 (i := 50) rfl rfl
theorem q5_51 : Cond.instanceMethod yX7_fault ∈ zU := zt5 (i := 51) rfl rfl
theorem q5_52 : Cond.selects "SnowCitizensModel" yX7_fault yX7_fault ∈ zU := zt5 (i := 52) rfl rfl
theorem q5_53 : Cond.code yX7_fault cX7_fault 2 (some .int) ∈ zU := zt5 (i := 53) rfl rfl
theorem q5_54 : Cond.methodLink RX7 161 yX7_reads ∈ zU := zt5 (i := 54) rfl rfl
theorem q5_56 : Cond.instanceMethod yX7_reads ∈ zU := zt5 (i := 56) rfl rfl
theorem q5_57 : Cond.code yX7_reads cX7_reads 2 (some .int) ∈ zU := zt5 (i := 57) rfl rfl
theorem q5_58 : Cond.methodLink RX7 151 yX7_skip ∈ zU := zt5 (i := 58) rfl rfl
theorem q5_60 : Cond.instanceMethod yX7_skip ∈ zU := zt5 (i := 60) rfl rfl
theorem q5_61 : Cond.code yX7_skip cX7_skip 2 none ∈ zU := zt5 (i := 61) rfl rfl
theorem q5_62 : Cond.methodLink RX7 135 yX7_charAt ∈ zU := zt5 (i := 62) rfl rfl
theorem q5_64 : Cond.instanceMethod yX7_charAt ∈ zU := zt5 (i := 64) rfl rfl
theorem q5_65 : Cond.code yX7_charAt cX7_charAt 2 (some .int) ∈ zU := zt5 (i := 65) rfl rfl
theorem q5_66 : Cond.methodLink RX7 155 yX7_readsSun ∈ zU := zt5 (i := 66) rfl rfl
theorem q5_68 : Cond.instanceMethod yX7_readsSun ∈ zU := zt5 (i := 68) rfl rfl
theorem q5_69 : Cond.code yX7_readsSun cX7_readsSun 3 (some .boolean) ∈ zU := zt5 (i := 69) rfl rfl
theorem q5_70 : Cond.methodLink RX7 138 yX7_figure ∈ zU := zt5 (i := 70) rfl rfl
theorem q5_72 : Cond.instanceMethod yX7_figure ∈ zU := zt5 (i := 72) rfl rfl
theorem q5_73 : Cond.code yX7_figure cX7_figure 5 (some .int) ∈ zU := zt5 (i := 73) rfl rfl
theorem q5_74 : Cond.methodLink RX7 158 yX7_readsMan ∈ zU := zt5 (i := 74) rfl rfl
theorem q5_76 : Cond.instanceMethod yX7_readsMan ∈ zU := zt5 (i := 76) rfl rfl
theorem q5_77 : Cond.code yX7_readsMan cX7_readsMan 7 (some .boolean) ∈ zU := zt5 (i := 77) rfl rfl
theorem q5_78 : Cond.methodLink RX7 145 yX7_kindOf ∈ zU := zt5 (i := 78) rfl rfl
theorem q5_79 : Cond.static yX7_kindOf ∈ zU := zt5 (i := 79) rfl rfl
theorem q5_80 : Cond.code yX7_kindOf cX7_kindOf 1 (some .int) ∈ zU := zt5 (i := 80) rfl rfl
theorem q5_81 : Cond.methodLink RL 56 yX7_north ∈ zU := zt5 (i := 81) rfl rfl
theorem q5_82 : Cond.instanceMethod yX7_north ∈ zU := zt5 (i := 82) rfl rfl
theorem q5_83 : Cond.selects "SnowCitizensModel" yX7_north yX7_north ∈ zU := zt5 (i := 83) rfl rfl
theorem q5_84 : Cond.code yX7_north cX7_north 3 (some .int) ∈ zU := zt5 (i := 84) rfl rfl
theorem q5_85 : Cond.methodLink RL 60 yX7_man ∈ zU := zt5 (i := 85) rfl rfl
theorem q5_86 : Cond.instanceMethod yX7_man ∈ zU := zt5 (i := 86) rfl rfl
theorem q5_87 : Cond.selects "SnowCitizensModel" yX7_man yX7_man ∈ zU := zt5 (i := 87) rfl rfl
theorem q5_88 : Cond.code yX7_man cX7_man 3 (some .int) ∈ zU := zt5 (i := 88) rfl rfl
theorem q5_89 : Cond.methodLink RX7 197 yX7_isMan ∈ zU := zt5 (i := 89) rfl rfl
theorem q5_91 : Cond.instanceMethod yX7_isMan ∈ zU := zt5 (i := 91) rfl rfl
theorem q5_92 : Cond.code yX7_isMan cX7_isMan 2 (some .boolean) ∈ zU := zt5 (i := 92) rfl rfl
theorem q5_93 : Cond.methodLink RX7 187 yX7_mayVote ∈ zU := zt5 (i := 93) rfl rfl
theorem q5_95 : Cond.instanceMethod yX7_mayVote ∈ zU := zt5 (i := 95) rfl rfl
theorem q5_96 : Cond.code yX7_mayVote cX7_mayVote 3 (some .boolean) ∈ zU := zt5 (i := 96) rfl rfl
theorem q5_97 : Cond.methodLink RX7 200 yX7_whoThen ∈ zU := zt5 (i := 97) rfl rfl
theorem q5_99 : Cond.instanceMethod yX7_whoThen ∈ zU := zt5 (i := 99) rfl rfl
theorem q5_100 : Cond.code yX7_whoThen cX7_whoThen 4 (some .int) ∈ zU := zt5 (i := 100) rfl rfl
theorem q5_101 : Cond.methodLink RX7 184 yX7_bulkThen ∈ zU := zt5 (i := 101) rfl rfl
theorem q5_103 : Cond.instanceMethod yX7_bulkThen ∈ zU := zt5 (i := 103) rfl rfl
theorem q5_104 : Cond.code yX7_bulkThen cX7_bulkThen 3 (some .int) ∈ zU := zt5 (i := 104) rfl rfl
theorem q5_105 : Cond.methodLink RX7 180 yX7_bulkAfter ∈ zU := zt5 (i := 105) rfl rfl
theorem q5_107 : Cond.instanceMethod yX7_bulkAfter ∈ zU := zt5 (i := 107) rfl rfl
theorem q5_108 : Cond.code yX7_bulkAfter cX7_bulkAfter 7 (some .int) ∈ zU := zt5 (i := 108) rfl rfl
theorem q5_109 : Cond.methodLink RX7 177 yX7_melts ∈ zU := zt5 (i := 109) rfl rfl
theorem q5_111 : Cond.instanceMethod yX7_melts ∈ zU := zt5 (i := 111) rfl rfl
theorem q5_112 : Cond.code yX7_melts cX7_melts 5 (some .int) ∈ zU := zt5 (i := 112) rfl rfl
theorem q5_113 : Cond.methodLink RX7 173 yX7_most ∈ zU := zt5 (i := 113) rfl rfl
theorem q5_114 : Cond.static yX7_most ∈ zU := zt5 (i := 114) rfl rfl
theorem q5_115 : Cond.code yX7_most cX7_most 2 (some .int) ∈ zU := zt5 (i := 115) rfl rfl
theorem q5_116 : Cond.methodLink RX7 191 yX7_votesBy ∈ zU := zt5 (i := 116) rfl rfl
theorem q5_118 : Cond.instanceMethod yX7_votesBy ∈ zU := zt5 (i := 118) rfl rfl
theorem q5_119 : Cond.code yX7_votesBy cX7_votesBy 4 (some .int) ∈ zU := zt5 (i := 119) rfl rfl
theorem q5_120 : Cond.methodLink RL 64 yX7_mark ∈ zU := zt5 (i := 120) rfl rfl
theorem q5_121 : Cond.instanceMethod yX7_mark ∈ zU := zt5 (i := 121) rfl rfl
theorem q5_122 : Cond.selects "SnowCitizensModel" yX7_mark yX7_mark ∈ zU := zt5 (i := 122) rfl rfl
theorem q5_123 : Cond.code yX7_mark cX7_mark 3 (some .int) ∈ zU := zt5 (i := 123) rfl rfl
theorem q5_124 : Cond.methodLink RX7 203 yX7_isHatted ∈ zU := zt5 (i := 124) rfl rfl
theorem q5_125 : Cond.static yX7_isHatted ∈ zU := zt5 (i := 125) rfl rfl
theorem q5_126 : Cond.code yX7_isHatted cX7_isHatted 1 (some .boolean) ∈ zU := zt5 (i := 126) rfl rfl
theorem q5_127 : Cond.methodLink RX7 206 yX7_votesAs ∈ zU := zt5 (i := 127) rfl rfl
theorem q5_129 : Cond.instanceMethod yX7_votesAs ∈ zU := zt5 (i := 129) rfl rfl
theorem q5_130 : Cond.code yX7_votesAs cX7_votesAs 3 (some .int) ∈ zU := zt5 (i := 130) rfl rfl
theorem q5_131 : Cond.methodLink RX7 209 yX7_goneIn ∈ zU := zt5 (i := 131) rfl rfl
theorem q5_133 : Cond.instanceMethod yX7_goneIn ∈ zU := zt5 (i := 133) rfl rfl
theorem q5_134 : Cond.code yX7_goneIn cX7_goneIn 4 (some .int) ∈ zU := zt5 (i := 134) rfl rfl
theorem q5_135 : Cond.methodLink RX7 212 yX7_smallDays ∈ zU := zt5 (i := 135) rfl rfl
theorem q5_137 : Cond.instanceMethod yX7_smallDays ∈ zU := zt5 (i := 137) rfl rfl
theorem q5_138 : Cond.code yX7_smallDays cX7_smallDays 5 (some .int) ∈ zU := zt5 (i := 138) rfl rfl
theorem q5_139 : Cond.methodLink RX7 215 yX7_meltDays ∈ zU := zt5 (i := 139) rfl rfl
theorem q5_141 : Cond.instanceMethod yX7_meltDays ∈ zU := zt5 (i := 141) rfl rfl
theorem q5_142 : Cond.code yX7_meltDays cX7_meltDays 4 (some .int) ∈ zU := zt5 (i := 142) rfl rfl
theorem q5_143 : Cond.methodLink RL 68 yX7_sun ∈ zU := zt5 (i := 143) rfl rfl
theorem q5_144 : Cond.instanceMethod yX7_sun ∈ zU := zt5 (i := 144) rfl rfl
theorem q5_145 : Cond.selects "SnowCitizensModel" yX7_sun yX7_sun ∈ zU := zt5 (i := 145) rfl rfl
theorem q5_146 : Cond.code yX7_sun cX7_sun 2 (some .int) ∈ zU := zt5 (i := 146) rfl rfl
theorem q5_147 : Cond.constantLong RX7 218 99 ∈ zU := zt5 (i := 147) rfl rfl
theorem q5_148 : Cond.methodLink RL 72 yX7_right ∈ zU := zt5 (i := 148) rfl rfl
theorem q5_149 : Cond.instanceMethod yX7_right ∈ zU := zt5 (i := 149) rfl rfl
theorem q5_150 : Cond.selects "SnowCitizensModel" yX7_right yX7_right ∈ zU := zt5 (i := 150) rfl rfl
theorem q5_151 : Cond.code yX7_right cX7_right 3 (some .int) ∈ zU := zt5 (i := 151) rfl rfl
theorem q5_152 : Cond.constantLong RX7 220 9 ∈ zU := zt5 (i := 152) rfl rfl
theorem q5_153 : Cond.methodLink RL 77 yX7_day ∈ zU := zt5 (i := 153) rfl rfl
theorem q5_154 : Cond.instanceMethod yX7_day ∈ zU := zt5 (i := 154) rfl rfl
theorem q5_155 : Cond.selects "SnowCitizensModel" yX7_day yX7_day ∈ zU := zt5 (i := 155) rfl rfl
theorem q5_156 : Cond.code yX7_day cX7_day 1 (some .int) ∈ zU := zt5 (i := 156) rfl rfl
theorem q5_157 : Cond.methodLink RX7 225 yX7_pass ∈ zU := zt5 (i := 157) rfl rfl
theorem q5_159 : Cond.instanceMethod yX7_pass ∈ zU := zt5 (i := 159) rfl rfl
theorem q5_160 : Cond.code yX7_pass cX7_pass 3 none ∈ zU := zt5 (i := 160) rfl rfl
theorem q5_161 : Cond.methodLink RX7 222 yX7_remember ∈ zU := zt5 (i := 161) rfl rfl
theorem q5_163 : Cond.instanceMethod yX7_remember ∈ zU := zt5 (i := 163) rfl rfl
theorem q5_164 : Cond.code yX7_remember cX7_remember 3 none ∈ zU := zt5 (i := 164) rfl rfl
theorem q5_165 : Cond.methodLink RX7 229 yX7_here ∈ zU := zt5 (i := 165) rfl rfl
theorem q5_167 : Cond.instanceMethod yX7_here ∈ zU := zt5 (i := 167) rfl rfl
theorem q5_168 : Cond.code yX7_here cX7_here 3 (some .int) ∈ zU := zt5 (i := 168) rfl rfl
theorem q5_169 : Cond.methodLink RX7 233 yX7_bits ∈ zU := zt5 (i := 169) rfl rfl
theorem q5_170 : Cond.static yX7_bits ∈ zU := zt5 (i := 170) rfl rfl
theorem q5_171 : Cond.code yX7_bits cX7_bits 3 (some .int) ∈ zU := zt5 (i := 171) rfl rfl
theorem q5_172 : Cond.methodLink RL 81 yX7_shade ∈ zU := zt5 (i := 172) rfl rfl
theorem q5_173 : Cond.instanceMethod yX7_shade ∈ zU := zt5 (i := 173) rfl rfl
theorem q5_174 : Cond.selects "SnowCitizensModel" yX7_shade yX7_shade ∈ zU := zt5 (i := 174) rfl rfl
theorem q5_175 : Cond.code yX7_shade cX7_shade 4 (some .int) ∈ zU := zt5 (i := 175) rfl rfl
theorem q5_176 : Cond.methodLink RL 85 yX7_snow ∈ zU := zt5 (i := 176) rfl rfl
theorem q5_177 : Cond.instanceMethod yX7_snow ∈ zU := zt5 (i := 177) rfl rfl
theorem q5_178 : Cond.selects "SnowCitizensModel" yX7_snow yX7_snow ∈ zU := zt5 (i := 178) rfl rfl
theorem q5_179 : Cond.code yX7_snow cX7_snow 3 (some .int) ∈ zU := zt5 (i := 179) rfl rfl
theorem q5_180 : Cond.methodLink RX7 236 yX7_least ∈ zU := zt5 (i := 180) rfl rfl
theorem q5_181 : Cond.static yX7_least ∈ zU := zt5 (i := 181) rfl rfl
theorem q5_182 : Cond.code yX7_least cX7_least 2 (some .int) ∈ zU := zt5 (i := 182) rfl rfl
theorem q5_183 : Cond.methodLink RL 89 yX7_undo ∈ zU := zt5 (i := 183) rfl rfl
theorem q5_184 : Cond.instanceMethod yX7_undo ∈ zU := zt5 (i := 184) rfl rfl
theorem q5_185 : Cond.selects "SnowCitizensModel" yX7_undo yX7_undo ∈ zU := zt5 (i := 185) rfl rfl
theorem q5_186 : Cond.code yX7_undo cX7_undo 5 (some .int) ∈ zU := zt5 (i := 186) rfl rfl
theorem q5_187 : Cond.methodLink RL 93 yX7_now ∈ zU := zt5 (i := 187) rfl rfl
theorem q5_188 : Cond.instanceMethod yX7_now ∈ zU := zt5 (i := 188) rfl rfl
theorem q5_189 : Cond.selects "SnowCitizensModel" yX7_now yX7_now ∈ zU := zt5 (i := 189) rfl rfl
theorem q5_190 : Cond.code yX7_now cX7_now 1 (some .int) ∈ zU := zt5 (i := 190) rfl rfl
theorem q5_191 : Cond.methodLink RL 97 yX7_keep ∈ zU := zt5 (i := 191) rfl rfl
theorem q5_192 : Cond.instanceMethod yX7_keep ∈ zU := zt5 (i := 192) rfl rfl
theorem q5_193 : Cond.selects "SnowCitizensModel" yX7_keep yX7_keep ∈ zU := zt5 (i := 193) rfl rfl
theorem q5_194 : Cond.code yX7_keep cX7_keep 4 (some .int) ∈ zU := zt5 (i := 194) rfl rfl
theorem q5_195 : Cond.constantLong RX7 239 2 ∈ zU := zt5 (i := 195) rfl rfl
theorem q5_196 : Cond.methodLink RL 101 yX7_on ∈ zU := zt5 (i := 196) rfl rfl
theorem q5_197 : Cond.instanceMethod yX7_on ∈ zU := zt5 (i := 197) rfl rfl
theorem q5_198 : Cond.selects "SnowCitizensModel" yX7_on yX7_on ∈ zU := zt5 (i := 198) rfl rfl
theorem q5_199 : Cond.code yX7_on cX7_on 4 (some .int) ∈ zU := zt5 (i := 199) rfl rfl
theorem q5_200 : Cond.methodLink RL 105 yX7_bulk ∈ zU := zt5 (i := 200) rfl rfl
theorem q5_201 : Cond.instanceMethod yX7_bulk ∈ zU := zt5 (i := 201) rfl rfl
theorem q5_202 : Cond.selects "SnowCitizensModel" yX7_bulk yX7_bulk ∈ zU := zt5 (i := 202) rfl rfl
theorem q5_203 : Cond.code yX7_bulk cX7_bulk 3 (some .int) ∈ zU := zt5 (i := 203) rfl rfl
theorem q5_204 : Cond.methodLink RX7 241 yX7_isAhead ∈ zU := zt5 (i := 204) rfl rfl
theorem q5_205 : Cond.static yX7_isAhead ∈ zU := zt5 (i := 205) rfl rfl
theorem q5_206 : Cond.code yX7_isAhead cX7_isAhead 1 (some .boolean) ∈ zU := zt5 (i := 206) rfl rfl
theorem q5_207 : Cond.constantLong RX7 112 60 ∈ zU := zt5 (i := 207) rfl rfl
theorem q5_208 : Cond.methodLink RL 109 yX7_gone ∈ zU := zt5 (i := 208) rfl rfl
theorem q5_209 : Cond.instanceMethod yX7_gone ∈ zU := zt5 (i := 209) rfl rfl
theorem q5_210 : Cond.selects "SnowCitizensModel" yX7_gone yX7_gone ∈ zU := zt5 (i := 210) rfl rfl
theorem q5_211 : Cond.code yX7_gone cX7_gone 2 (some .int) ∈ zU := zt5 (i := 211) rfl rfl
theorem q5_212 : Cond.methodLink RL 113 yX7_votes ∈ zU := zt5 (i := 212) rfl rfl
theorem q5_213 : Cond.instanceMethod yX7_votes ∈ zU := zt5 (i := 213) rfl rfl
theorem q5_214 : Cond.selects "SnowCitizensModel" yX7_votes yX7_votes ∈ zU := zt5 (i := 214) rfl rfl
theorem q5_215 : Cond.code yX7_votes cX7_votes 3 (some .int) ∈ zU := zt5 (i := 215) rfl rfl
theorem q5_216 : Cond.methodLink RX7 194 yX7_manyFor ∈ zU := zt5 (i := 216) rfl rfl
theorem q5_218 : Cond.instanceMethod yX7_manyFor ∈ zU := zt5 (i := 218) rfl rfl
theorem q5_219 : Cond.code yX7_manyFor cX7_manyFor 5 (some .int) ∈ zU := zt5 (i := 219) rfl rfl
theorem q5_220 : Cond.methodLink RL 117 yX7_carried ∈ zU := zt5 (i := 220) rfl rfl
theorem q5_221 : Cond.instanceMethod yX7_carried ∈ zU := zt5 (i := 221) rfl rfl
theorem q5_222 : Cond.selects "SnowCitizensModel" yX7_carried yX7_carried ∈ zU := zt5 (i := 222) rfl rfl
theorem q5_223 : Cond.code yX7_carried cX7_carried 3 (some .int) ∈ zU := zt5 (i := 223) rfl rfl
theorem q5_224 : Cond.methodLink RX7 244 yX7_isCarried ∈ zU := zt5 (i := 224) rfl rfl
theorem q5_226 : Cond.instanceMethod yX7_isCarried ∈ zU := zt5 (i := 226) rfl rfl
theorem q5_227 : Cond.code yX7_isCarried cX7_isCarried 2 (some .boolean) ∈ zU := zt5 (i := 227) rfl rfl
theorem q5_228 : Cond.methodLink RL 121 yX7_days ∈ zU := zt5 (i := 228) rfl rfl
theorem q5_229 : Cond.instanceMethod yX7_days ∈ zU := zt5 (i := 229) rfl rfl
theorem q5_230 : Cond.selects "SnowCitizensModel" yX7_days yX7_days ∈ zU := zt5 (i := 230) rfl rfl
theorem q5_231 : Cond.code yX7_days cX7_days 4 (some .int) ∈ zU := zt5 (i := 231) rfl rfl
theorem q5_232 : Cond.methodLink RL 125 yX7_widow ∈ zU := zt5 (i := 232) rfl rfl
theorem q5_233 : Cond.instanceMethod yX7_widow ∈ zU := zt5 (i := 233) rfl rfl
theorem q5_234 : Cond.selects "SnowCitizensModel" yX7_widow yX7_widow ∈ zU := zt5 (i := 234) rfl rfl
theorem q5_235 : Cond.code yX7_widow cX7_widow 6 (some .int) ∈ zU := zt5 (i := 235) rfl rfl
theorem q5_236 : Cond.constant RX7 247 1000000 ∈ zU := zt5 (i := 236) rfl rfl
theorem q5_237 : Cond.methodLink RL 129 yX7_heir ∈ zU := zt5 (i := 237) rfl rfl
theorem q5_238 : Cond.instanceMethod yX7_heir ∈ zU := zt5 (i := 238) rfl rfl
theorem q5_239 : Cond.selects "SnowCitizensModel" yX7_heir yX7_heir ∈ zU := zt5 (i := 239) rfl rfl
theorem q6_0 : Cond.code yX7_heir cX7_heir 4 (some .int) ∈ zU := zt6 (i := 0) rfl rfl
theorem q6_1 : Cond.methodLink RL 133 yX7_guard ∈ zU := zt6 (i := 1) rfl rfl
theorem q6_2 : Cond.instanceMethod yX7_guard ∈ zU := zt6 (i := 2) rfl rfl
theorem q6_3 : Cond.selects "SnowCitizensModel" yX7_guard yX7_guard ∈ zU := zt6 (i := 3) rfl rfl
theorem q6_4 : Cond.code yX7_guard cX7_guard 7 (some .int) ∈ zU := zt6 (i := 4) rfl rfl
theorem q6_5 : Cond.methodLink RX7 248 yX7_areMen ∈ zU := zt6 (i := 5) rfl rfl
theorem q6_7 : Cond.instanceMethod yX7_areMen ∈ zU := zt6 (i := 7) rfl rfl
theorem q6_8 : Cond.code yX7_areMen cX7_areMen 2 (some .boolean) ∈ zU := zt6 (i := 8) rfl rfl
theorem q6_9 : Cond.methodLink RX7 251 yX7_tellShades ∈ zU := zt6 (i := 9) rfl rfl
theorem q6_11 : Cond.instanceMethod yX7_tellShades ∈ zU := zt6 (i := 11) rfl rfl
theorem q6_12 : Cond.code yX7_tellShades cX7_tellShades 3 none ∈ zU := zt6 (i := 12) rfl rfl
theorem q6_13 : Cond.methodLink RL 137 yX7_bribe ∈ zU := zt6 (i := 13) rfl rfl
theorem q6_14 : Cond.instanceMethod yX7_bribe ∈ zU := zt6 (i := 14) rfl rfl
theorem q6_15 : Cond.selects "SnowCitizensModel" yX7_bribe yX7_bribe ∈ zU := zt6 (i := 15) rfl rfl
theorem q6_16 : Cond.code yX7_bribe cX7_bribe 9 (some .int) ∈ zU := zt6 (i := 16) rfl rfl
theorem q6_17 : Cond.methodLink RX7 257 yX7_layShades ∈ zU := zt6 (i := 17) rfl rfl
theorem q6_19 : Cond.instanceMethod yX7_layShades ∈ zU := zt6 (i := 19) rfl rfl
theorem q6_20 : Cond.code yX7_layShades cX7_layShades 6 none ∈ zU := zt6 (i := 20) rfl rfl
theorem q6_21 : Cond.methodLink RX7 254 yX7_apart ∈ zU := zt6 (i := 21) rfl rfl
theorem q6_22 : Cond.static yX7_apart ∈ zU := zt6 (i := 22) rfl rfl
theorem q6_23 : Cond.code yX7_apart cX7_apart 2 (some .int) ∈ zU := zt6 (i := 23) rfl rfl
theorem q6_24 : Cond.methodLink RX7 260 yX7_costs ∈ zU := zt6 (i := 24) rfl rfl
theorem q6_26 : Cond.instanceMethod yX7_costs ∈ zU := zt6 (i := 26) rfl rfl
theorem q6_27 : Cond.code yX7_costs cX7_costs 5 (some .int) ∈ zU := zt6 (i := 27) rfl rfl
theorem q6_28 : Cond.methodLink RL 141 yX7_carry ∈ zU := zt6 (i := 28) rfl rfl
theorem q6_29 : Cond.instanceMethod yX7_carry ∈ zU := zt6 (i := 29) rfl rfl
theorem q6_30 : Cond.selects "SnowCitizensModel" yX7_carry yX7_carry ∈ zU := zt6 (i := 30) rfl rfl
theorem q6_31 : Cond.code yX7_carry cX7_carry 4 (some .int) ∈ zU := zt6 (i := 31) rfl rfl
theorem q6_32 : Cond.methodLink RL 145 yX7_census ∈ zU := zt6 (i := 32) rfl rfl
theorem q6_33 : Cond.instanceMethod yX7_census ∈ zU := zt6 (i := 33) rfl rfl
theorem q6_34 : Cond.selects "SnowCitizensModel" yX7_census yX7_census ∈ zU := zt6 (i := 34) rfl rfl
theorem q6_35 : Cond.code yX7_census cX7_census 6 (some .int) ∈ zU := zt6 (i := 35) rfl rfl
theorem q6_36 : Cond.methodLink RX7 263 yX7_layGone ∈ zU := zt6 (i := 36) rfl rfl
theorem q6_38 : Cond.instanceMethod yX7_layGone ∈ zU := zt6 (i := 38) rfl rfl
theorem q6_39 : Cond.code yX7_layGone cX7_layGone 3 none ∈ zU := zt6 (i := 39) rfl rfl
theorem q6_40 : Cond.methodLink RX7 266 yX7_countedBy ∈ zU := zt6 (i := 40) rfl rfl
theorem q6_42 : Cond.instanceMethod yX7_countedBy ∈ zU := zt6 (i := 42) rfl rfl
theorem q6_43 : Cond.code yX7_countedBy cX7_countedBy 3 (some .int) ∈ zU := zt6 (i := 43) rfl rfl
theorem q6_44 : Cond.methodLink RX7 269 yX7_nextOrder ∈ zU := zt6 (i := 44) rfl rfl
theorem q6_46 : Cond.instanceMethod yX7_nextOrder ∈ zU := zt6 (i := 46) rfl rfl
theorem q6_47 : Cond.code yX7_nextOrder cX7_nextOrder 7 (some .boolean) ∈ zU := zt6 (i := 47) rfl rfl
theorem q6_48 : Cond.methodLink RL 149 yX7_counted ∈ zU := zt6 (i := 48) rfl rfl
theorem q6_49 : Cond.instanceMethod yX7_counted ∈ zU := zt6 (i := 49) rfl rfl
theorem q6_50 : Cond.selects "SnowCitizensModel" yX7_counted yX7_counted ∈ zU := zt6 (i := 50) rfl rfl
theorem q6_51 : Cond.code yX7_counted cX7_counted 5 (some .int) ∈ zU := zt6 (i := 51) rfl rfl
theorem q6_52 : Cond.methodLink RL 153 yX7_fits ∈ zU := zt6 (i := 52) rfl rfl
theorem q6_53 : Cond.instanceMethod yX7_fits ∈ zU := zt6 (i := 53) rfl rfl
theorem q6_54 : Cond.selects "SnowCitizensModel" yX7_fits yX7_fits ∈ zU := zt6 (i := 54) rfl rfl
theorem q6_55 : Cond.code yX7_fits cX7_fits 7 (some .int) ∈ zU := zt6 (i := 55) rfl rfl
theorem q6_56 : Cond.methodLink RX7 273 yX7_wrongPairs ∈ zU := zt6 (i := 56) rfl rfl
theorem q6_58 : Cond.instanceMethod yX7_wrongPairs ∈ zU := zt6 (i := 58) rfl rfl
theorem q6_59 : Cond.code yX7_wrongPairs cX7_wrongPairs 3 (some .int) ∈ zU := zt6 (i := 59) rfl rfl
theorem q6_60 : Cond.methodLink RX7 276 yX7_isSeen ∈ zU := zt6 (i := 60) rfl rfl
theorem q6_62 : Cond.instanceMethod yX7_isSeen ∈ zU := zt6 (i := 62) rfl rfl
theorem q6_63 : Cond.code yX7_isSeen cX7_isSeen 7 (some .boolean) ∈ zU := zt6 (i := 63) rfl rfl
theorem q6_64 : Cond.methodLink RL 157 yX7_kinds ∈ zU := zt6 (i := 64) rfl rfl
theorem q6_65 : Cond.instanceMethod yX7_kinds ∈ zU := zt6 (i := 65) rfl rfl
theorem q6_66 : Cond.selects "SnowCitizensModel" yX7_kinds yX7_kinds ∈ zU := zt6 (i := 66) rfl rfl
theorem q6_67 : Cond.code yX7_kinds cX7_kinds 6 (some .int) ∈ zU := zt6 (i := 67) rfl rfl
theorem q6_68 : Cond.methodLink RL 161 yX7_rights ∈ zU := zt6 (i := 68) rfl rfl
theorem q6_69 : Cond.instanceMethod yX7_rights ∈ zU := zt6 (i := 69) rfl rfl
theorem q6_70 : Cond.selects "SnowCitizensModel" yX7_rights yX7_rights ∈ zU := zt6 (i := 70) rfl rfl
theorem q6_71 : Cond.code yX7_rights cX7_rights 5 (some .int) ∈ zU := zt6 (i := 71) rfl rfl
theorem q6_72 : Cond.methodLink RL 165 yX7_game ∈ zU := zt6 (i := 72) rfl rfl
theorem q6_73 : Cond.instanceMethod yX7_game ∈ zU := zt6 (i := 73) rfl rfl
theorem q6_74 : Cond.selects "SnowCitizensModel" yX7_game yX7_game ∈ zU := zt6 (i := 74) rfl rfl
theorem q6_75 : Cond.code yX7_game cX7_game 3 (some .int) ∈ zU := zt6 (i := 75) rfl rfl
theorem q6_76 : Cond.methodLink RX7 289 yX7_isCarriedThen ∈ zU := zt6 (i := 76) rfl rfl
theorem q6_78 : Cond.instanceMethod yX7_isCarriedThen ∈ zU := zt6 (i := 78) rfl rfl
theorem q6_79 : Cond.code yX7_isCarriedThen cX7_isCarriedThen 1 (some .boolean) ∈ zU := zt6 (i := 79) rfl rfl
theorem q6_80 : Cond.methodLink RX7 295 yX7_winsOne ∈ zU := zt6 (i := 80) rfl rfl
theorem q6_82 : Cond.instanceMethod yX7_winsOne ∈ zU := zt6 (i := 82) rfl rfl
theorem q6_83 : Cond.code yX7_winsOne cX7_winsOne 5 (some .boolean) ∈ zU := zt6 (i := 83) rfl rfl
theorem q6_84 : Cond.methodLink RX7 280 yX7_lastOther ∈ zU := zt6 (i := 84) rfl rfl
theorem q6_86 : Cond.instanceMethod yX7_lastOther ∈ zU := zt6 (i := 86) rfl rfl
theorem q6_87 : Cond.code yX7_lastOther cX7_lastOther 2 (some .boolean) ∈ zU := zt6 (i := 87) rfl rfl
theorem q6_88 : Cond.methodLink RX7 283 yX7_otherLast ∈ zU := zt6 (i := 88) rfl rfl
theorem q6_90 : Cond.instanceMethod yX7_otherLast ∈ zU := zt6 (i := 90) rfl rfl
theorem q6_91 : Cond.code yX7_otherLast cX7_otherLast 4 (some .boolean) ∈ zU := zt6 (i := 91) rfl rfl
theorem q6_92 : Cond.methodLink RX7 286 yX7_otherFirst ∈ zU := zt6 (i := 92) rfl rfl
theorem q6_94 : Cond.instanceMethod yX7_otherFirst ∈ zU := zt6 (i := 94) rfl rfl
theorem q6_95 : Cond.code yX7_otherFirst cX7_otherFirst 4 (some .boolean) ∈ zU := zt6 (i := 95) rfl rfl
theorem q6_96 : Cond.methodLink RX7 292 yX7_oneLast ∈ zU := zt6 (i := 96) rfl rfl
theorem q6_98 : Cond.instanceMethod yX7_oneLast ∈ zU := zt6 (i := 98) rfl rfl
theorem q6_99 : Cond.code yX7_oneLast cX7_oneLast 4 (some .boolean) ∈ zU := zt6 (i := 99) rfl rfl
theorem q6_100 : Cond.methodLink RL 169 yX7_first ∈ zU := zt6 (i := 100) rfl rfl
theorem q6_101 : Cond.instanceMethod yX7_first ∈ zU := zt6 (i := 101) rfl rfl
theorem q6_102 : Cond.selects "SnowCitizensModel" yX7_first yX7_first ∈ zU := zt6 (i := 102) rfl rfl
theorem q6_103 : Cond.code yX7_first cX7_first 5 (some .int) ∈ zU := zt6 (i := 103) rfl rfl
theorem q6_104 : Cond.methodLink RL 173 yX7_odds ∈ zU := zt6 (i := 104) rfl rfl
theorem q6_105 : Cond.instanceMethod yX7_odds ∈ zU := zt6 (i := 105) rfl rfl
theorem q6_106 : Cond.selects "SnowCitizensModel" yX7_odds yX7_odds ∈ zU := zt6 (i := 106) rfl rfl
theorem q6_107 : Cond.code yX7_odds cX7_odds 7 (some .int) ∈ zU := zt6 (i := 107) rfl rfl
theorem q6_108 : Cond.methodLink RX7 305 yX7_isCloud ∈ zU := zt6 (i := 108) rfl rfl
theorem q6_110 : Cond.instanceMethod yX7_isCloud ∈ zU := zt6 (i := 110) rfl rfl
theorem q6_111 : Cond.code yX7_isCloud cX7_isCloud 4 (some .boolean) ∈ zU := zt6 (i := 111) rfl rfl
theorem q6_112 : Cond.constantLong RX7 303 8 ∈ zU := zt6 (i := 112) rfl rfl
theorem q6_113 : Cond.constantLong RX7 298 12 ∈ zU := zt6 (i := 113) rfl rfl
theorem q6_114 : Cond.methodLink RX7 309 yX7_layCases ∈ zU := zt6 (i := 114) rfl rfl
theorem q6_116 : Cond.instanceMethod yX7_layCases ∈ zU := zt6 (i := 116) rfl rfl
theorem q6_117 : Cond.code yX7_layCases cX7_layCases 7 none ∈ zU := zt6 (i := 117) rfl rfl
theorem q6_118 : Cond.methodLink RX7 313 yX7_fraction ∈ zU := zt6 (i := 118) rfl rfl
theorem q6_120 : Cond.instanceMethod yX7_fraction ∈ zU := zt6 (i := 120) rfl rfl
theorem q6_121 : Cond.code yX7_fraction cX7_fraction 12 (some .int) ∈ zU := zt6 (i := 121) rfl rfl
theorem q6_122 : Cond.methodLink RL 177 yX7_mid ∈ zU := zt6 (i := 122) rfl rfl
theorem q6_123 : Cond.instanceMethod yX7_mid ∈ zU := zt6 (i := 123) rfl rfl
theorem q6_124 : Cond.selects "SnowCitizensModel" yX7_mid yX7_mid ∈ zU := zt6 (i := 124) rfl rfl
theorem q6_125 : Cond.code yX7_mid cX7_mid 7 (some .int) ∈ zU := zt6 (i := 125) rfl rfl
theorem q6_126 : Cond.methodLink RL 181 yX7_lots ∈ zU := zt6 (i := 126) rfl rfl
theorem q6_127 : Cond.instanceMethod yX7_lots ∈ zU := zt6 (i := 127) rfl rfl
theorem q6_128 : Cond.selects "SnowCitizensModel" yX7_lots yX7_lots ∈ zU := zt6 (i := 128) rfl rfl
theorem q6_129 : Cond.code yX7_lots cX7_lots 7 (some .int) ∈ zU := zt6 (i := 129) rfl rfl
theorem q6_130 : Cond.constantLong RX7 317 20 ∈ zU := zt6 (i := 130) rfl rfl
theorem q6_131 : Cond.constantLong RX7 319 2147483646 ∈ zU := zt6 (i := 131) rfl rfl
theorem q6_132 : Cond.constantLong RX7 321 48271 ∈ zU := zt6 (i := 132) rfl rfl
theorem q6_133 : Cond.constantLong RX7 323 2147483647 ∈ zU := zt6 (i := 133) rfl rfl
theorem q6_134 : Cond.methodLink RL 185 yX7_asked ∈ zU := zt6 (i := 134) rfl rfl
theorem q6_135 : Cond.instanceMethod yX7_asked ∈ zU := zt6 (i := 135) rfl rfl
theorem q6_136 : Cond.selects "SnowCitizensModel" yX7_asked yX7_asked ∈ zU := zt6 (i := 136) rfl rfl
theorem q6_137 : Cond.code yX7_asked cX7_asked 1 (some .int) ∈ zU := zt6 (i := 137) rfl rfl
theorem q6_138 : Cond.methodLink RL 190 yX7_upper ∈ zU := zt6 (i := 138) rfl rfl
theorem q6_139 : Cond.instanceMethod yX7_upper ∈ zU := zt6 (i := 139) rfl rfl
theorem q6_140 : Cond.selects "SnowCitizensModel" yX7_upper yX7_upper ∈ zU := zt6 (i := 140) rfl rfl
theorem q6_141 : Cond.code yX7_upper cX7_upper 1 (some .long) ∈ zU := zt6 (i := 141) rfl rfl
theorem q6_142 : Cond.methodLink RL 194 yX7_lower ∈ zU := zt6 (i := 142) rfl rfl
theorem q6_143 : Cond.instanceMethod yX7_lower ∈ zU := zt6 (i := 143) rfl rfl
theorem q6_144 : Cond.selects "SnowCitizensModel" yX7_lower yX7_lower ∈ zU := zt6 (i := 144) rfl rfl
theorem q6_145 : Cond.code yX7_lower cX7_lower 1 (some .long) ∈ zU := zt6 (i := 145) rfl rfl
theorem q6_146 : Cond.methodLink RL 198 yX7_count ∈ zU := zt6 (i := 146) rfl rfl
theorem q6_147 : Cond.instanceMethod yX7_count ∈ zU := zt6 (i := 147) rfl rfl
theorem q6_148 : Cond.selects "SnowCitizensModel" yX7_count yX7_count ∈ zU := zt6 (i := 148) rfl rfl
theorem q6_149 : Cond.code yX7_count cX7_count 2 (some .int) ∈ zU := zt6 (i := 149) rfl rfl
theorem q6_150 : Cond.methodLink RX7 325 yX7_allBulks ∈ zU := zt6 (i := 150) rfl rfl
theorem q6_152 : Cond.instanceMethod yX7_allBulks ∈ zU := zt6 (i := 152) rfl rfl
theorem q6_153 : Cond.code yX7_allBulks cX7_allBulks 3 (some .int) ∈ zU := zt6 (i := 153) rfl rfl
theorem q6_154 : Cond.methodLink RX7 328 yX7_hatted ∈ zU := zt6 (i := 154) rfl rfl
theorem q6_156 : Cond.instanceMethod yX7_hatted ∈ zU := zt6 (i := 156) rfl rfl
theorem q6_157 : Cond.code yX7_hatted cX7_hatted 3 (some .int) ∈ zU := zt6 (i := 157) rfl rfl
theorem q6_158 : Cond.methodLink RX7 331 yX7_there ∈ zU := zt6 (i := 158) rfl rfl
theorem q6_159 : Cond.static yX7_there ∈ zU := zt6 (i := 159) rfl rfl
theorem q6_160 : Cond.code yX7_there cX7_there 4 (some .int) ∈ zU := zt6 (i := 160) rfl rfl
theorem q6_161 : Cond.methodLink RX7 335 yX7_norths ∈ zU := zt6 (i := 161) rfl rfl
theorem q6_163 : Cond.instanceMethod yX7_norths ∈ zU := zt6 (i := 163) rfl rfl
theorem q6_164 : Cond.code yX7_norths cX7_norths 3 (some .int) ∈ zU := zt6 (i := 164) rfl rfl
theorem q6_165 : Cond.methodLink RL 202 yX7_finding ∈ zU := zt6 (i := 165) rfl rfl
theorem q6_166 : Cond.instanceMethod yX7_finding ∈ zU := zt6 (i := 166) rfl rfl
theorem q6_167 : Cond.selects "SnowCitizensModel" yX7_finding yX7_finding ∈ zU := zt6 (i := 167) rfl rfl
theorem q6_168 : Cond.code yX7_finding cX7_finding 1 (some .int) ∈ zU := zt6 (i := 168) rfl rfl
theorem q6_169 : Cond.methodLink RL 206 yX7_findings ∈ zU := zt6 (i := 169) rfl rfl
theorem q6_170 : Cond.instanceMethod yX7_findings ∈ zU := zt6 (i := 170) rfl rfl
theorem q6_171 : Cond.selects "SnowCitizensModel" yX7_findings yX7_findings ∈ zU := zt6 (i := 171) rfl rfl
theorem q6_172 : Cond.code yX7_findings cX7_findings 2 (some .int) ∈ zU := zt6 (i := 172) rfl rfl
theorem q6_173 : Cond.methodLink RL 210 yX7_digest ∈ zU := zt6 (i := 173) rfl rfl
theorem q6_174 : Cond.instanceMethod yX7_digest ∈ zU := zt6 (i := 174) rfl rfl
theorem q6_175 : Cond.selects "SnowCitizensModel" yX7_digest yX7_digest ∈ zU := zt6 (i := 175) rfl rfl
theorem q6_176 : Cond.code yX7_digest cX7_digest 5 (some .long) ∈ zU := zt6 (i := 176) rfl rfl
theorem q6_177 : Cond.constantLong RX7 340 17 ∈ zU := zt6 (i := 177) rfl rfl
theorem q6_178 : Cond.constantLong RX7 338 31 ∈ zU := zt6 (i := 178) rfl rfl
theorem q6_179 : Cond.methodLink RX7 342 yX7_count ∈ zU := zt6 (i := 179) rfl rfl
theorem q6_180 : Cond.methodLink RX7 345 yX7_sums ∈ zU := zt6 (i := 180) rfl rfl
theorem q6_181 : Cond.static yX7_sums ∈ zU := zt6 (i := 181) rfl rfl
theorem q6_182 : Cond.code yX7_sums cX7_sums 8 (some .long) ∈ zU := zt6 (i := 182) rfl rfl
theorem qs_0 : Cond.selects RX6 yX6_rowOf yX6_rowOf ∈ zU := zsel (i := 0) rfl
theorem qs_1 : Cond.selects RX6 yX6_found yX6_found ∈ zU := zsel (i := 1) rfl
theorem qs_2 : Cond.selects RX6 yX6_tell yX6_tell ∈ zU := zsel (i := 2) rfl
theorem qs_3 : Cond.selects RX6 yX6_textOf yX6_textOf ∈ zU := zsel (i := 3) rfl
theorem qs_4 : Cond.selects RX3 yX3_takes yX3_takes ∈ zU := zsel (i := 4) rfl
theorem qs_5 : Cond.selects RX3 yX3_takesSun yX3_takesSun ∈ zU := zsel (i := 5) rfl
theorem qs_6 : Cond.selects RX3 yX3_takesLetter yX3_takesLetter ∈ zU := zsel (i := 6) rfl
theorem qs_7 : Cond.selects RX3 yX3_takesFigure yX3_takesFigure ∈ zU := zsel (i := 7) rfl
theorem qs_8 : Cond.selects RX2 yX2_restart yX2_restart ∈ zU := zsel (i := 8) rfl
theorem qs_9 : Cond.selects RX6 yX6_keptOf yX6_keptOf ∈ zU := zsel (i := 9) rfl
theorem qs_10 : Cond.selects RX2 yX2_voteNow yX2_voteNow ∈ zU := zsel (i := 10) rfl
theorem qs_11 : Cond.selects RX2 yX2_votesOne yX2_votesOne ∈ zU := zsel (i := 11) rfl
theorem qs_12 : Cond.selects RX2 yX2_melting yX2_melting ∈ zU := zsel (i := 12) rfl
theorem qs_13 : Cond.selects RX2 yX2_perform yX2_perform ∈ zU := zsel (i := 13) rfl
theorem qs_14 : Cond.selects RX2 yX2_meltAll yX2_meltAll ∈ zU := zsel (i := 14) rfl
theorem qs_15 : Cond.selects RX2 yX2_bulkBy yX2_bulkBy ∈ zU := zsel (i := 15) rfl
theorem qs_16 : Cond.selects RX6 yX6_costOfVoters yX6_costOfVoters ∈ zU := zsel (i := 16) rfl
theorem qs_17 : Cond.selects RX6 yX6_shadeByVoters yX6_shadeByVoters ∈ zU := zsel (i := 17) rfl
theorem qs_18 : Cond.selects RX6 yX6_fillMostCounted yX6_fillMostCounted ∈ zU := zsel (i := 18) rfl
theorem qs_19 : Cond.selects RX6 yX6_countedFrom yX6_countedFrom ∈ zU := zsel (i := 19) rfl
theorem qs_20 : Cond.selects RX6 yX6_countedOn yX6_countedOn ∈ zU := zsel (i := 20) rfl
theorem qs_21 : Cond.selects RX6 yX6_nextCounted yX6_nextCounted ∈ zU := zsel (i := 21) rfl
theorem qs_22 : Cond.selects RX6 yX6_refusalOfSeen yX6_refusalOfSeen ∈ zU := zsel (i := 22) rfl
theorem qs_23 : Cond.selects RX6 yX6_isAsSeen yX6_isAsSeen ∈ zU := zsel (i := 23) rfl
theorem qs_24 : Cond.selects RX1 yX1_place yX1_place ∈ zU := zsel (i := 24) rfl
theorem qs_25 : Cond.selects RX1 yX1_makes yX1_makes ∈ zU := zsel (i := 25) rfl
theorem qs_26 : Cond.selects RX0 yX0_pass yX0_pass ∈ zU := zsel (i := 26) rfl
theorem qs_27 : Cond.selects RX6 yX6_tellChance yX6_tellChance ∈ zU := zsel (i := 27) rfl
theorem qs_28 : Cond.selects RX6 yX6_countOf yX6_countOf ∈ zU := zsel (i := 28) rfl
theorem qs_29 : Cond.selects RX6 yX6_rowsThere yX6_rowsThere ∈ zU := zsel (i := 29) rfl
theorem qs_30 : Cond.selects RX6 yX6_textsThere yX6_textsThere ∈ zU := zsel (i := 30) rfl
theorem qs_31 : Cond.selects RX6 yX6_keptThere yX6_keptThere ∈ zU := zsel (i := 31) rfl
theorem qs_32 : Cond.selects RX7 yX7_finds yX7_finds ∈ zU := zsel (i := 32) rfl
theorem qs_33 : Cond.selects RX7 yX7_layRow yX7_layRow ∈ zU := zsel (i := 33) rfl
theorem qs_34 : Cond.selects RX7 yX7_tells yX7_tells ∈ zU := zsel (i := 34) rfl
theorem qs_35 : Cond.selects RX7 yX7_reads yX7_reads ∈ zU := zsel (i := 35) rfl
theorem qs_36 : Cond.selects RX7 yX7_skip yX7_skip ∈ zU := zsel (i := 36) rfl
theorem qs_37 : Cond.selects RX7 yX7_charAt yX7_charAt ∈ zU := zsel (i := 37) rfl
theorem qs_38 : Cond.selects RX7 yX7_readsSun yX7_readsSun ∈ zU := zsel (i := 38) rfl
theorem qs_39 : Cond.selects RX7 yX7_figure yX7_figure ∈ zU := zsel (i := 39) rfl
theorem qs_40 : Cond.selects RX7 yX7_readsMan yX7_readsMan ∈ zU := zsel (i := 40) rfl
theorem qs_41 : Cond.selects RX7 yX7_isMan yX7_isMan ∈ zU := zsel (i := 41) rfl
theorem qs_42 : Cond.selects RX7 yX7_mayVote yX7_mayVote ∈ zU := zsel (i := 42) rfl
theorem qs_43 : Cond.selects RX7 yX7_whoThen yX7_whoThen ∈ zU := zsel (i := 43) rfl
theorem qs_44 : Cond.selects RX7 yX7_bulkThen yX7_bulkThen ∈ zU := zsel (i := 44) rfl
theorem qs_45 : Cond.selects RX7 yX7_bulkAfter yX7_bulkAfter ∈ zU := zsel (i := 45) rfl
theorem qs_46 : Cond.selects RX7 yX7_melts yX7_melts ∈ zU := zsel (i := 46) rfl
theorem qs_47 : Cond.selects RX7 yX7_votesBy yX7_votesBy ∈ zU := zsel (i := 47) rfl
theorem qs_48 : Cond.selects RX7 yX7_votesAs yX7_votesAs ∈ zU := zsel (i := 48) rfl
theorem qs_49 : Cond.selects RX7 yX7_goneIn yX7_goneIn ∈ zU := zsel (i := 49) rfl
theorem qs_50 : Cond.selects RX7 yX7_smallDays yX7_smallDays ∈ zU := zsel (i := 50) rfl
theorem qs_51 : Cond.selects RX7 yX7_meltDays yX7_meltDays ∈ zU := zsel (i := 51) rfl
theorem qs_52 : Cond.selects RX7 yX7_pass yX7_pass ∈ zU := zsel (i := 52) rfl
theorem qs_53 : Cond.selects RX7 yX7_remember yX7_remember ∈ zU := zsel (i := 53) rfl
theorem qs_54 : Cond.selects RX7 yX7_here yX7_here ∈ zU := zsel (i := 54) rfl
theorem qs_55 : Cond.selects RX7 yX7_manyFor yX7_manyFor ∈ zU := zsel (i := 55) rfl
theorem qs_56 : Cond.selects RX7 yX7_isCarried yX7_isCarried ∈ zU := zsel (i := 56) rfl
theorem qs_57 : Cond.selects RX7 yX7_areMen yX7_areMen ∈ zU := zsel (i := 57) rfl
theorem qs_58 : Cond.selects RX7 yX7_tellShades yX7_tellShades ∈ zU := zsel (i := 58) rfl
theorem qs_59 : Cond.selects RX7 yX7_layShades yX7_layShades ∈ zU := zsel (i := 59) rfl
theorem qs_60 : Cond.selects RX7 yX7_costs yX7_costs ∈ zU := zsel (i := 60) rfl
theorem qs_61 : Cond.selects RX7 yX7_layGone yX7_layGone ∈ zU := zsel (i := 61) rfl
theorem qs_62 : Cond.selects RX7 yX7_countedBy yX7_countedBy ∈ zU := zsel (i := 62) rfl
theorem qs_63 : Cond.selects RX7 yX7_nextOrder yX7_nextOrder ∈ zU := zsel (i := 63) rfl
theorem qs_64 : Cond.selects RX7 yX7_wrongPairs yX7_wrongPairs ∈ zU := zsel (i := 64) rfl
theorem qs_65 : Cond.selects RX7 yX7_isSeen yX7_isSeen ∈ zU := zsel (i := 65) rfl
theorem qs_66 : Cond.selects RX7 yX7_isCarriedThen yX7_isCarriedThen ∈ zU := zsel (i := 66) rfl
theorem qs_67 : Cond.selects RX7 yX7_winsOne yX7_winsOne ∈ zU := zsel (i := 67) rfl
theorem qs_68 : Cond.selects RX7 yX7_lastOther yX7_lastOther ∈ zU := zsel (i := 68) rfl
theorem qs_69 : Cond.selects RX7 yX7_otherLast yX7_otherLast ∈ zU := zsel (i := 69) rfl
theorem qs_70 : Cond.selects RX7 yX7_otherFirst yX7_otherFirst ∈ zU := zsel (i := 70) rfl
theorem qs_71 : Cond.selects RX7 yX7_oneLast yX7_oneLast ∈ zU := zsel (i := 71) rfl
theorem qs_72 : Cond.selects RX7 yX7_isCloud yX7_isCloud ∈ zU := zsel (i := 72) rfl
theorem qs_73 : Cond.selects RX7 yX7_layCases yX7_layCases ∈ zU := zsel (i := 73) rfl
theorem qs_74 : Cond.selects RX7 yX7_fraction yX7_fraction ∈ zU := zsel (i := 74) rfl
theorem qs_75 : Cond.selects RX7 yX7_allBulks yX7_allBulks ∈ zU := zsel (i := 75) rfl
theorem qs_76 : Cond.selects RX7 yX7_hatted yX7_hatted ∈ zU := zsel (i := 76) rfl
theorem qs_77 : Cond.selects RX7 yX7_norths yX7_norths ∈ zU := zsel (i := 77) rfl
theorem inU0r : ∀ k, k < 3 → u_lay RX0 TX0 k ∈ zU
  | 0, _ => q1_155
  | 1, _ => q1_157
  | 2, _ => q1_159
  | k + 3, h => absurd h (by omega)
theorem inU0 : ∀ w ∈ wsX00, w ∈ zU := fun w h => by
  obtain ⟨k, hk, rfl⟩ := List.mem_map.mp h
  have hk := List.mem_range.mp hk
  exact inU0r k hk
theorem inU1r : ∀ k, k < 5 → u_lay RX1 TX1 k ∈ zU
  | 0, _ => q1_134
  | 1, _ => q1_136
  | 2, _ => q1_138
  | 3, _ => q1_140
  | 4, _ => q1_142
  | k + 5, h => absurd h (by omega)
theorem inU1 : ∀ w ∈ wsX10, w ∈ zU := fun w h => by
  obtain ⟨k, hk, rfl⟩ := List.mem_map.mp h
  have hk := List.mem_range.mp hk
  exact inU1r k hk
theorem inU2r : ∀ k, k < 14 → u_lay RX2 TX2 k ∈ zU
  | 0, _ => q1_54
  | 1, _ => q1_56
  | 2, _ => q1_58
  | 3, _ => q1_60
  | 4, _ => q1_62
  | 5, _ => q1_64
  | 6, _ => q1_66
  | 7, _ => q1_68
  | 8, _ => q1_70
  | 9, _ => q1_72
  | 10, _ => q1_74
  | 11, _ => q1_76
  | 12, _ => q1_78
  | 13, _ => q1_80
  | k + 14, h => absurd h (by omega)
theorem inU2 : ∀ w ∈ wsX20, w ∈ zU := fun w h => by
  obtain ⟨k, hk, rfl⟩ := List.mem_map.mp h
  have hk := List.mem_range.mp hk
  exact inU2r k hk
theorem inU3r : ∀ k, k < 8 → u_lay RX3 TX3 k ∈ zU
  | 0, _ => q1_106
  | 1, _ => q1_108
  | 2, _ => q1_110
  | 3, _ => q1_112
  | 4, _ => q1_114
  | 5, _ => q1_116
  | 6, _ => q1_118
  | 7, _ => q1_120
  | k + 8, h => absurd h (by omega)
theorem inU3 : ∀ w ∈ wsX30, w ∈ zU := fun w h => by
  obtain ⟨k, hk, rfl⟩ := List.mem_map.mp h
  have hk := List.mem_range.mp hk
  exact inU3r k hk
theorem inU4r : ∀ k, k < 3 → u_lay RX4 TX4 k ∈ zU
  | 0, _ => q1_174
  | 1, _ => q1_176
  | 2, _ => q1_178
  | k + 3, h => absurd h (by omega)
theorem inU4 : ∀ w ∈ wsX40, w ∈ zU := fun w h => by
  obtain ⟨k, hk, rfl⟩ := List.mem_map.mp h
  have hk := List.mem_range.mp hk
  exact inU4r k hk
theorem inU5r : ∀ k, k < 3 → u_lay RX5 TX5 k ∈ zU
  | 0, _ => q1_192
  | 1, _ => q1_194
  | 2, _ => q1_196
  | k + 3, h => absurd h (by omega)
theorem inU5 : ∀ w ∈ wsX50, w ∈ zU := fun w h => by
  obtain ⟨k, hk, rfl⟩ := List.mem_map.mp h
  have hk := List.mem_range.mp hk
  exact inU5r k hk
theorem inU6r : ∀ k, k < 17 → u_lay RX6 TX6 k ∈ zU
  | 0, _ => q1_217
  | 1, _ => q1_219
  | 2, _ => q1_221
  | 3, _ => q1_223
  | 4, _ => q1_225
  | 5, _ => q1_227
  | 6, _ => q1_229
  | 7, _ => q1_231
  | 8, _ => q1_233
  | 9, _ => q1_235
  | 10, _ => q1_237
  | 11, _ => q1_239
  | 12, _ => q2_1
  | 13, _ => q2_3
  | 14, _ => q2_5
  | 15, _ => q2_7
  | 16, _ => q2_9
  | k + 17, h => absurd h (by omega)
theorem inU6 : ∀ w ∈ wsX60, w ∈ zU := fun w h => by
  obtain ⟨k, hk, rfl⟩ := List.mem_map.mp h
  have hk := List.mem_range.mp hk
  exact inU6r k hk
theorem inU7r : ∀ k, k < 37 → u_lay RX7 TX7 k ∈ zU
  | 0, _ => q4_159
  | 1, _ => q4_161
  | 2, _ => q4_163
  | 3, _ => q4_165
  | 4, _ => q4_167
  | 5, _ => q4_169
  | 6, _ => q4_171
  | 7, _ => q4_173
  | 8, _ => q4_175
  | 9, _ => q4_177
  | 10, _ => q4_179
  | 11, _ => q4_181
  | 12, _ => q4_183
  | 13, _ => q4_185
  | 14, _ => q4_187
  | 15, _ => q4_189
  | 16, _ => q4_191
  | 17, _ => q4_193
  | 18, _ => q4_195
  | 19, _ => q4_197
  | 20, _ => q4_199
  | 21, _ => q4_201
  | 22, _ => q4_203
  | 23, _ => q4_205
  | 24, _ => q4_207
  | 25, _ => q4_209
  | 26, _ => q4_211
  | 27, _ => q4_213
  | 28, _ => q4_215
  | 29, _ => q4_217
  | 30, _ => q4_219
  | 31, _ => q4_221
  | 32, _ => q4_223
  | 33, _ => q4_225
  | 34, _ => q4_227
  | 35, _ => q4_229
  | 36, _ => q4_231
  | k + 37, h => absurd h (by omega)
theorem inU7 : ∀ w ∈ wsX70, w ∈ zU := fun w h => by
  obtain ⟨k, hk, rfl⟩ := List.mem_map.mp h
  have hk := List.mem_range.mp hk
  exact inU7r k hk
