/-! the good words of the tables, by their places -/
def zU : List Cond := lw_tbl.filter goodWord
theorem zt1 {i : Nat} {w : Cond} (h0 : tables_1_1[i]? = some w) (hg : goodWord w = true) : w ∈ zU := List.mem_filter.mpr ⟨by
  have h := List.mem_of_getElem? h0
  exact List.mem_append_right _ (List.mem_append_left _ h), hg⟩
theorem zt2 {i : Nat} {w : Cond} (h0 : tables_1_2[i]? = some w) (hg : goodWord w = true) : w ∈ zU := List.mem_filter.mpr ⟨by
  have h := List.mem_of_getElem? h0
  exact List.mem_append_right _ (List.mem_append_right _ (List.mem_append_left _ h)), hg⟩
theorem zt3 {i : Nat} {w : Cond} (h0 : tables_1_3[i]? = some w) (hg : goodWord w = true) : w ∈ zU := List.mem_filter.mpr ⟨by
  have h := List.mem_of_getElem? h0
  exact List.mem_append_right _ (List.mem_append_right _ (List.mem_append_right _ h)), hg⟩
theorem zsel {i : Nat} {q : MethodName × Nat} (h0 : lw_privs[i]? = some q) : Cond.selects q.1.cls q.1 q.1 ∈ zU := List.mem_filter.mpr ⟨List.mem_append_left _ (List.mem_map.mpr ⟨q, List.mem_of_getElem? h0, rfl⟩), rfl⟩
theorem q1_0 : Cond.initialized "SnowCitizensLaw" ∈ zU := zt1 (i := 0) rfl rfl
theorem q1_1 : Cond.initialized "SnowCitizens" ∈ zU := zt1 (i := 1) rfl rfl
theorem q1_2 : Cond.initialized "SnowCitizens$North" ∈ zU := zt1 (i := 2) rfl rfl
theorem q1_3 : Cond.initialized "SnowCitizens$Reading" ∈ zU := zt1 (i := 3) rfl rfl
theorem q1_4 : Cond.initialized "SnowCitizens$Game" ∈ zU := zt1 (i := 4) rfl rfl
theorem q1_5 : Cond.initialized "SnowCitizens$Clouds" ∈ zU := zt1 (i := 5) rfl rfl
theorem q1_6 : Cond.initialized "SnowCitizens$Row" ∈ zU := zt1 (i := 6) rfl rfl
theorem q1_7 : Cond.initialized "SnowCitizens$Text" ∈ zU := zt1 (i := 7) rfl rfl
theorem q1_8 : Cond.initialized "java/lang/Math" ∈ zU := zt1 (i := 8) rfl rfl
theorem q1_9 : Cond.initialized "java/lang/Integer" ∈ zU := zt1 (i := 9) rfl rfl
theorem q1_10 : Cond.classLink RL 20 "SnowCitizens" ∈ zU := zt1 (i := 10) rfl rfl
theorem q1_11 : Cond.instantiable "SnowCitizens" 17 ∈ zU := zt1 (i := 11) rfl rfl
theorem q1_12 : Cond.methodLink RL 38 yX6_init ∈ zU := zt1 (i := 12) rfl rfl
theorem q1_13 : Cond.instanceMethod yX6_init ∈ zU := zt1 (i := 13) rfl rfl
theorem q1_14 : Cond.code yX6_init cX6_init 2 none ∈ zU := zt1 (i := 14) rfl rfl
theorem q1_15 : Cond.methodLink RX6 1 objectInit ∈ zU := zt1 (i := 15) rfl rfl
theorem q1_16 : Cond.instanceMethod objectInit ∈ zU := zt1 (i := 16) rfl rfl
theorem q1_17 : Cond.code objectInit object_method_1_code 1 none ∈ zU := zt1 (i := 17) rfl rfl
theorem q1_18 : Cond.classLink RX6 9 "SnowCitizens$Row" ∈ zU := zt1 (i := 18) rfl rfl
theorem q1_20 : Cond.classLink RX6 15 "SnowCitizens$Text" ∈ zU := zt1 (i := 20) rfl rfl
theorem q1_22 : Cond.classLink RX6 21 "SnowCitizens$North" ∈ zU := zt1 (i := 22) rfl rfl
theorem q1_23 : Cond.instantiable "SnowCitizens$North" 14 ∈ zU := zt1 (i := 23) rfl rfl
theorem q1_25 : Cond.instanceMethod yX2_init ∈ zU := zt1 (i := 25) rfl rfl
theorem q1_26 : Cond.code yX2_init cX2_init 1 none ∈ zU := zt1 (i := 26) rfl rfl
theorem q1_27 : Cond.methodLink RX2 3 objectInit ∈ zU := zt1 (i := 27) rfl rfl
theorem q1_28 : Cond.fieldLink RX2 48 "SnowCitizens$North" "men" "I" ∈ zU := zt1 (i := 28) rfl rfl
theorem q1_29 : Cond.fieldLink RX6 152 "SnowCitizens$North" "men" "I" ∈ zU := zt1 (i := 29) rfl rfl
theorem q1_30 : Cond.fieldLink RX2 52 "SnowCitizens$North" "rightNow" "I" ∈ zU := zt1 (i := 30) rfl rfl
theorem q1_31 : Cond.fieldLink RX6 195 "SnowCitizens$North" "rightNow" "I" ∈ zU := zt1 (i := 31) rfl rfl
theorem q1_32 : Cond.fieldLink RX2 70 "SnowCitizens$North" "today" "I" ∈ zU := zt1 (i := 32) rfl rfl
theorem q1_33 : Cond.fieldLink RX6 223 "SnowCitizens$North" "today" "I" ∈ zU := zt1 (i := 33) rfl rfl
theorem q1_34 : Cond.fieldLink RX2 64 "SnowCitizens$North" "deeds" "I" ∈ zU := zt1 (i := 34) rfl rfl
theorem q1_35 : Cond.fieldLink RX6 198 "SnowCitizens$North" "deeds" "I" ∈ zU := zt1 (i := 35) rfl rfl
theorem q1_36 : Cond.fieldLink RX2 9 "SnowCitizens$North" "suns" "[I" ∈ zU := zt1 (i := 36) rfl rfl
theorem q1_37 : Cond.fieldLink RX2 15 "SnowCitizens$North" "kindOf" "[I" ∈ zU := zt1 (i := 37) rfl rfl
theorem q1_38 : Cond.fieldLink RX6 163 "SnowCitizens$North" "kindOf" "[I" ∈ zU := zt1 (i := 38) rfl rfl
theorem q1_39 : Cond.fieldLink RX2 18 "SnowCitizens$North" "voteOf" "[I" ∈ zU := zt1 (i := 39) rfl rfl
theorem q1_40 : Cond.fieldLink RX2 21 "SnowCitizens$North" "bulkOf" "[I" ∈ zU := zt1 (i := 40) rfl rfl
theorem q1_41 : Cond.fieldLink RX0 22 "SnowCitizens$North" "bulkOf" "[I" ∈ zU := zt1 (i := 41) rfl rfl
theorem q1_42 : Cond.fieldLink RX6 169 "SnowCitizens$North" "bulkOf" "[I" ∈ zU := zt1 (i := 42) rfl rfl
theorem q1_43 : Cond.fieldLink RX2 24 "SnowCitizens$North" "shadeOf" "[I" ∈ zU := zt1 (i := 43) rfl rfl
theorem q1_44 : Cond.fieldLink RX6 214 "SnowCitizens$North" "shadeOf" "[I" ∈ zU := zt1 (i := 44) rfl rfl
theorem q1_45 : Cond.fieldLink RX2 27 "SnowCitizens$North" "firstBulkOf" "[I" ∈ zU := zt1 (i := 45) rfl rfl
theorem q1_46 : Cond.fieldLink RX2 30 "SnowCitizens$North" "firstShadeOf" "[I" ∈ zU := zt1 (i := 46) rfl rfl
theorem q1_47 : Cond.fieldLink RX2 33 "SnowCitizens$North" "deedSorts" "[I" ∈ zU := zt1 (i := 47) rfl rfl
theorem q1_48 : Cond.fieldLink RX2 36 "SnowCitizens$North" "deedMen" "[I" ∈ zU := zt1 (i := 48) rfl rfl
theorem q1_49 : Cond.fieldLink RX2 39 "SnowCitizens$North" "deedValues" "[I" ∈ zU := zt1 (i := 49) rfl rfl
theorem q1_50 : Cond.lays "SnowCitizens$North" "SnowCitizens$North" "men" "I" ∈ zU := zt1 (i := 50) rfl rfl
theorem q1_52 : Cond.lays "SnowCitizens$North" "SnowCitizens$North" "rightNow" "I" ∈ zU := zt1 (i := 52) rfl rfl
theorem q1_54 : Cond.lays "SnowCitizens$North" "SnowCitizens$North" "today" "I" ∈ zU := zt1 (i := 54) rfl rfl
theorem q1_56 : Cond.lays "SnowCitizens$North" "SnowCitizens$North" "deeds" "I" ∈ zU := zt1 (i := 56) rfl rfl
theorem q1_58 : Cond.laysFinal "SnowCitizens$North" "SnowCitizens$North" "suns" "[I" ∈ zU := zt1 (i := 58) rfl rfl
theorem q1_60 : Cond.laysFinal "SnowCitizens$North" "SnowCitizens$North" "kindOf" "[I" ∈ zU := zt1 (i := 60) rfl rfl
theorem q1_62 : Cond.laysFinal "SnowCitizens$North" "SnowCitizens$North" "voteOf" "[I" ∈ zU := zt1 (i := 62) rfl rfl
theorem q1_64 : Cond.laysFinal "SnowCitizens$North" "SnowCitizens$North" "bulkOf" "[I" ∈ zU := zt1 (i := 64) rfl rfl
theorem q1_66 : Cond.laysFinal "SnowCitizens$North" "SnowCitizens$North" "shadeOf" "[I" ∈ zU := zt1 (i := 66) rfl rfl
theorem q1_68 : Cond.laysFinal "SnowCitizens$North" "SnowCitizens$North" "firstBulkOf" "[I" ∈ zU := zt1 (i := 68) rfl rfl
theorem q1_70 : Cond.laysFinal "SnowCitizens$North" "SnowCitizens$North" "firstShadeOf" "[I" ∈ zU := zt1 (i := 70) rfl rfl
theorem q1_72 : Cond.laysFinal "SnowCitizens$North" "SnowCitizens$North" "deedSorts" "[I" ∈ zU := zt1 (i := 72) rfl rfl
theorem q1_74 : Cond.laysFinal "SnowCitizens$North" "SnowCitizens$North" "deedMen" "[I" ∈ zU := zt1 (i := 74) rfl rfl
theorem q1_76 : Cond.laysFinal "SnowCitizens$North" "SnowCitizens$North" "deedValues" "[I" ∈ zU := zt1 (i := 76) rfl rfl
theorem q1_79 : Cond.arrayClass .int ∈ zU := zt1 (i := 79) rfl rfl
theorem q1_81 : Cond.classLink RX6 32 "SnowCitizens$Reading" ∈ zU := zt1 (i := 81) rfl rfl
theorem q1_82 : Cond.instantiable "SnowCitizens$Reading" 8 ∈ zU := zt1 (i := 82) rfl rfl
theorem q1_84 : Cond.instanceMethod yX3_init ∈ zU := zt1 (i := 84) rfl rfl
theorem q1_85 : Cond.code yX3_init cX3_init 1 none ∈ zU := zt1 (i := 85) rfl rfl
theorem q1_86 : Cond.methodLink RX3 3 objectInit ∈ zU := zt1 (i := 86) rfl rfl
theorem q1_87 : Cond.fieldLink RX3 27 "SnowCitizens$Reading" "stage" "I" ∈ zU := zt1 (i := 87) rfl rfl
theorem q1_88 : Cond.fieldLink RX2 42 "SnowCitizens$Reading" "men" "I" ∈ zU := zt1 (i := 88) rfl rfl
theorem q1_89 : Cond.fieldLink RX3 31 "SnowCitizens$Reading" "men" "I" ∈ zU := zt1 (i := 89) rfl rfl
theorem q1_90 : Cond.fieldLink RX2 49 "SnowCitizens$Reading" "right" "I" ∈ zU := zt1 (i := 90) rfl rfl
theorem q1_91 : Cond.fieldLink RX3 63 "SnowCitizens$Reading" "right" "I" ∈ zU := zt1 (i := 91) rfl rfl
theorem q1_92 : Cond.fieldLink RX3 9 "SnowCitizens$Reading" "suns" "[I" ∈ zU := zt1 (i := 92) rfl rfl
theorem q1_93 : Cond.fieldLink RX2 55 "SnowCitizens$Reading" "suns" "[I" ∈ zU := zt1 (i := 93) rfl rfl
theorem q1_94 : Cond.fieldLink RX3 15 "SnowCitizens$Reading" "kindOf" "[I" ∈ zU := zt1 (i := 94) rfl rfl
theorem q1_95 : Cond.fieldLink RX2 60 "SnowCitizens$Reading" "kindOf" "[I" ∈ zU := zt1 (i := 95) rfl rfl
theorem q1_96 : Cond.fieldLink RX3 18 "SnowCitizens$Reading" "bulkOf" "[I" ∈ zU := zt1 (i := 96) rfl rfl
theorem q1_97 : Cond.fieldLink RX2 62 "SnowCitizens$Reading" "bulkOf" "[I" ∈ zU := zt1 (i := 97) rfl rfl
theorem q1_98 : Cond.fieldLink RX3 21 "SnowCitizens$Reading" "shadeOf" "[I" ∈ zU := zt1 (i := 98) rfl rfl
theorem q1_99 : Cond.fieldLink RX2 63 "SnowCitizens$Reading" "shadeOf" "[I" ∈ zU := zt1 (i := 99) rfl rfl
theorem q1_100 : Cond.fieldLink RX3 24 "SnowCitizens$Reading" "voteOf" "[I" ∈ zU := zt1 (i := 100) rfl rfl
theorem q1_101 : Cond.fieldLink RX2 61 "SnowCitizens$Reading" "voteOf" "[I" ∈ zU := zt1 (i := 101) rfl rfl
theorem q1_102 : Cond.lays "SnowCitizens$Reading" "SnowCitizens$Reading" "stage" "I" ∈ zU := zt1 (i := 102) rfl rfl
theorem q1_104 : Cond.lays "SnowCitizens$Reading" "SnowCitizens$Reading" "men" "I" ∈ zU := zt1 (i := 104) rfl rfl
theorem q1_106 : Cond.lays "SnowCitizens$Reading" "SnowCitizens$Reading" "right" "I" ∈ zU := zt1 (i := 106) rfl rfl
theorem q1_108 : Cond.laysFinal "SnowCitizens$Reading" "SnowCitizens$Reading" "suns" "[I" ∈ zU := zt1 (i := 108) rfl rfl
theorem q1_110 : Cond.laysFinal "SnowCitizens$Reading" "SnowCitizens$Reading" "kindOf" "[I" ∈ zU := zt1 (i := 110) rfl rfl
theorem q1_112 : Cond.laysFinal "SnowCitizens$Reading" "SnowCitizens$Reading" "bulkOf" "[I" ∈ zU := zt1 (i := 112) rfl rfl
theorem q1_114 : Cond.laysFinal "SnowCitizens$Reading" "SnowCitizens$Reading" "shadeOf" "[I" ∈ zU := zt1 (i := 114) rfl rfl
theorem q1_116 : Cond.laysFinal "SnowCitizens$Reading" "SnowCitizens$Reading" "voteOf" "[I" ∈ zU := zt1 (i := 116) rfl rfl
theorem q1_119 : Cond.classLink RX6 39 "SnowCitizens$Game" ∈ zU := zt1 (i := 119) rfl rfl
theorem q1_120 : Cond.instantiable "SnowCitizens$Game" 5 ∈ zU := zt1 (i := 120) rfl rfl
theorem q1_122 : Cond.instanceMethod yX1_init ∈ zU := zt1 (i := 122) rfl rfl
theorem q1_123 : Cond.code yX1_init cX1_init 1 none ∈ zU := zt1 (i := 123) rfl rfl
theorem q1_124 : Cond.methodLink RX1 3 objectInit ∈ zU := zt1 (i := 124) rfl rfl
theorem q1_125 : Cond.fieldLink RX1 9 "SnowCitizens$Game" "shadeOf" "[I" ∈ zU := zt1 (i := 125) rfl rfl
theorem q1_126 : Cond.fieldLink RX1 15 "SnowCitizens$Game" "rightBy" "[I" ∈ zU := zt1 (i := 126) rfl rfl
theorem q1_127 : Cond.lays "SnowCitizens$Game" "SnowCitizens$Game" "men" "I" ∈ zU := zt1 (i := 127) rfl rfl
theorem q1_129 : Cond.lays "SnowCitizens$Game" "SnowCitizens$Game" "voters" "I" ∈ zU := zt1 (i := 129) rfl rfl
theorem q1_131 : Cond.lays "SnowCitizens$Game" "SnowCitizens$Game" "carriedBy" "J" ∈ zU := zt1 (i := 131) rfl rfl
theorem q1_133 : Cond.laysFinal "SnowCitizens$Game" "SnowCitizens$Game" "shadeOf" "[I" ∈ zU := zt1 (i := 133) rfl rfl
theorem q1_135 : Cond.laysFinal "SnowCitizens$Game" "SnowCitizens$Game" "rightBy" "[I" ∈ zU := zt1 (i := 135) rfl rfl
theorem q1_138 : Cond.classLink RX6 46 "SnowCitizens$Clouds" ∈ zU := zt1 (i := 138) rfl rfl
theorem q1_139 : Cond.instantiable "SnowCitizens$Clouds" 3 ∈ zU := zt1 (i := 139) rfl rfl
theorem q1_141 : Cond.instanceMethod yX0_init ∈ zU := zt1 (i := 141) rfl rfl
theorem q1_142 : Cond.code yX0_init cX0_init 1 none ∈ zU := zt1 (i := 142) rfl rfl
theorem q1_143 : Cond.methodLink RX0 3 objectInit ∈ zU := zt1 (i := 143) rfl rfl
theorem q1_144 : Cond.fieldLink RX0 9 "SnowCitizens$Clouds" "ways" "[J" ∈ zU := zt1 (i := 144) rfl rfl
theorem q1_145 : Cond.fieldLink RX0 15 "SnowCitizens$Clouds" "next" "[J" ∈ zU := zt1 (i := 145) rfl rfl
theorem q1_146 : Cond.fieldLink RX0 36 "SnowCitizens$Clouds" "allWays" "J" ∈ zU := zt1 (i := 146) rfl rfl
theorem q1_147 : Cond.fieldLink RX6 324 "SnowCitizens$Clouds" "allWays" "J" ∈ zU := zt1 (i := 147) rfl rfl
theorem q1_148 : Cond.laysFinal "SnowCitizens$Clouds" "SnowCitizens$Clouds" "ways" "[J" ∈ zU := zt1 (i := 148) rfl rfl
theorem q1_150 : Cond.laysFinal "SnowCitizens$Clouds" "SnowCitizens$Clouds" "next" "[J" ∈ zU := zt1 (i := 150) rfl rfl
theorem q1_152 : Cond.lays "SnowCitizens$Clouds" "SnowCitizens$Clouds" "allWays" "J" ∈ zU := zt1 (i := 152) rfl rfl
theorem q1_155 : Cond.arrayClass .long ∈ zU := zt1 (i := 155) rfl rfl
theorem q1_156 : Cond.instantiable "SnowCitizens$Row" 3 ∈ zU := zt1 (i := 156) rfl rfl
theorem q1_158 : Cond.instanceMethod yX4_init ∈ zU := zt1 (i := 158) rfl rfl
theorem q1_159 : Cond.code yX4_init cX4_init 1 none ∈ zU := zt1 (i := 159) rfl rfl
theorem q1_160 : Cond.methodLink RX4 3 objectInit ∈ zU := zt1 (i := 160) rfl rfl
theorem q1_161 : Cond.fieldLink RX4 15 "SnowCitizens$Row" "there" "Z" ∈ zU := zt1 (i := 161) rfl rfl
theorem q1_162 : Cond.fieldLink RX6 90 "SnowCitizens$Row" "there" "Z" ∈ zU := zt1 (i := 162) rfl rfl
theorem q1_163 : Cond.fieldLink RX4 19 "SnowCitizens$Row" "size" "I" ∈ zU := zt1 (i := 163) rfl rfl
theorem q1_164 : Cond.fieldLink RX6 94 "SnowCitizens$Row" "size" "I" ∈ zU := zt1 (i := 164) rfl rfl
theorem q1_165 : Cond.fieldLink RX4 9 "SnowCitizens$Row" "cells" "[I" ∈ zU := zt1 (i := 165) rfl rfl
theorem q1_166 : Cond.fieldLink RX6 98 "SnowCitizens$Row" "cells" "[I" ∈ zU := zt1 (i := 166) rfl rfl
theorem q1_167 : Cond.lays "SnowCitizens$Row" "SnowCitizens$Row" "there" "Z" ∈ zU := zt1 (i := 167) rfl rfl
theorem q1_169 : Cond.lays "SnowCitizens$Row" "SnowCitizens$Row" "size" "I" ∈ zU := zt1 (i := 169) rfl rfl
theorem q1_171 : Cond.laysFinal "SnowCitizens$Row" "SnowCitizens$Row" "cells" "[I" ∈ zU := zt1 (i := 171) rfl rfl
theorem q1_174 : Cond.instantiable "SnowCitizens$Text" 3 ∈ zU := zt1 (i := 174) rfl rfl
theorem q1_176 : Cond.instanceMethod yX5_init ∈ zU := zt1 (i := 176) rfl rfl
theorem q1_177 : Cond.code yX5_init cX5_init 1 none ∈ zU := zt1 (i := 177) rfl rfl
theorem q1_178 : Cond.methodLink RX5 3 objectInit ∈ zU := zt1 (i := 178) rfl rfl
theorem q1_179 : Cond.fieldLink RX5 15 "SnowCitizens$Text" "there" "Z" ∈ zU := zt1 (i := 179) rfl rfl
theorem q1_180 : Cond.fieldLink RX6 131 "SnowCitizens$Text" "there" "Z" ∈ zU := zt1 (i := 180) rfl rfl
theorem q1_181 : Cond.fieldLink RX5 19 "SnowCitizens$Text" "size" "I" ∈ zU := zt1 (i := 181) rfl rfl
theorem q1_182 : Cond.fieldLink RX3 34 "SnowCitizens$Text" "size" "I" ∈ zU := zt1 (i := 182) rfl rfl
theorem q1_183 : Cond.fieldLink RX6 132 "SnowCitizens$Text" "size" "I" ∈ zU := zt1 (i := 183) rfl rfl
theorem q1_184 : Cond.fieldLink RX5 9 "SnowCitizens$Text" "signs" "[B" ∈ zU := zt1 (i := 184) rfl rfl
theorem q1_185 : Cond.lays "SnowCitizens$Text" "SnowCitizens$Text" "there" "Z" ∈ zU := zt1 (i := 185) rfl rfl
theorem q1_187 : Cond.lays "SnowCitizens$Text" "SnowCitizens$Text" "size" "I" ∈ zU := zt1 (i := 187) rfl rfl
theorem q1_189 : Cond.laysFinal "SnowCitizens$Text" "SnowCitizens$Text" "signs" "[B" ∈ zU := zt1 (i := 189) rfl rfl
theorem q1_192 : Cond.arrayClass .byte ∈ zU := zt1 (i := 192) rfl rfl
theorem q1_193 : Cond.fieldLink RX6 11 "SnowCitizens" "rows" "[LSnowCitizens$Row;" ∈ zU := zt1 (i := 193) rfl rfl
theorem q1_194 : Cond.fieldLink RX6 17 "SnowCitizens" "texts" "[LSnowCitizens$Text;" ∈ zU := zt1 (i := 194) rfl rfl
theorem q1_195 : Cond.fieldLink RX6 24 "SnowCitizens" "north" "LSnowCitizens$North;" ∈ zU := zt1 (i := 195) rfl rfl
theorem q1_196 : Cond.fieldLink RX6 28 "SnowCitizens" "kept" "[LSnowCitizens$North;" ∈ zU := zt1 (i := 196) rfl rfl
theorem q1_197 : Cond.fieldLink RX6 35 "SnowCitizens" "reading" "LSnowCitizens$Reading;" ∈ zU := zt1 (i := 197) rfl rfl
theorem q1_198 : Cond.fieldLink RX6 42 "SnowCitizens" "game" "LSnowCitizens$Game;" ∈ zU := zt1 (i := 198) rfl rfl
theorem q1_199 : Cond.fieldLink RX6 49 "SnowCitizens" "clouds" "LSnowCitizens$Clouds;" ∈ zU := zt1 (i := 199) rfl rfl
theorem q1_200 : Cond.fieldLink RX6 53 "SnowCitizens" "findingCounts" "[I" ∈ zU := zt1 (i := 200) rfl rfl
theorem q1_201 : Cond.fieldLink RX6 347 "SnowCitizens" "latestFinding" "I" ∈ zU := zt1 (i := 201) rfl rfl
theorem q1_202 : Cond.fieldLink RX6 220 "SnowCitizens" "told" "I" ∈ zU := zt1 (i := 202) rfl rfl
theorem q1_203 : Cond.fieldLink RX6 341 "SnowCitizens" "upperNumber" "J" ∈ zU := zt1 (i := 203) rfl rfl
theorem q1_204 : Cond.fieldLink RX6 57 "SnowCitizens" "lowerNumber" "J" ∈ zU := zt1 (i := 204) rfl rfl
theorem q1_205 : Cond.fieldLink RX6 61 "SnowCitizens" "ahead" "[I" ∈ zU := zt1 (i := 205) rfl rfl
theorem q1_206 : Cond.fieldLink RX6 64 "SnowCitizens" "plan" "[I" ∈ zU := zt1 (i := 206) rfl rfl
theorem q1_207 : Cond.fieldLink RX6 67 "SnowCitizens" "shadesWith" "[I" ∈ zU := zt1 (i := 207) rfl rfl
theorem q1_208 : Cond.fieldLink RX6 70 "SnowCitizens" "shadesWithout" "[I" ∈ zU := zt1 (i := 208) rfl rfl
theorem q1_209 : Cond.fieldLink RX6 73 "SnowCitizens" "mostCounted" "[I" ∈ zU := zt1 (i := 209) rfl rfl
theorem q1_210 : Cond.laysFinal "SnowCitizens" "SnowCitizens" "rows" "[LSnowCitizens$Row;" ∈ zU := zt1 (i := 210) rfl rfl
theorem q1_212 : Cond.laysFinal "SnowCitizens" "SnowCitizens" "texts" "[LSnowCitizens$Text;" ∈ zU := zt1 (i := 212) rfl rfl
theorem q1_214 : Cond.laysFinal "SnowCitizens" "SnowCitizens" "north" "LSnowCitizens$North;" ∈ zU := zt1 (i := 214) rfl rfl
theorem q1_216 : Cond.laysFinal "SnowCitizens" "SnowCitizens" "kept" "[LSnowCitizens$North;" ∈ zU := zt1 (i := 216) rfl rfl
theorem q1_218 : Cond.laysFinal "SnowCitizens" "SnowCitizens" "reading" "LSnowCitizens$Reading;" ∈ zU := zt1 (i := 218) rfl rfl
theorem q1_220 : Cond.laysFinal "SnowCitizens" "SnowCitizens" "game" "LSnowCitizens$Game;" ∈ zU := zt1 (i := 220) rfl rfl
theorem q1_222 : Cond.laysFinal "SnowCitizens" "SnowCitizens" "clouds" "LSnowCitizens$Clouds;" ∈ zU := zt1 (i := 222) rfl rfl
theorem q1_224 : Cond.laysFinal "SnowCitizens" "SnowCitizens" "findingCounts" "[I" ∈ zU := zt1 (i := 224) rfl rfl
theorem q1_226 : Cond.lays "SnowCitizens" "SnowCitizens" "latestFinding" "I" ∈ zU := zt1 (i := 226) rfl rfl
theorem q1_228 : Cond.lays "SnowCitizens" "SnowCitizens" "told" "I" ∈ zU := zt1 (i := 228) rfl rfl
theorem q1_230 : Cond.lays "SnowCitizens" "SnowCitizens" "upperNumber" "J" ∈ zU := zt1 (i := 230) rfl rfl
theorem q1_232 : Cond.lays "SnowCitizens" "SnowCitizens" "lowerNumber" "J" ∈ zU := zt1 (i := 232) rfl rfl
theorem q1_234 : Cond.laysFinal "SnowCitizens" "SnowCitizens" "ahead" "[I" ∈ zU := zt1 (i := 234) rfl rfl
theorem q1_236 : Cond.laysFinal "SnowCitizens" "SnowCitizens" "plan" "[I" ∈ zU := zt1 (i := 236) rfl rfl
theorem q1_238 : Cond.laysFinal "SnowCitizens" "SnowCitizens" "shadesWith" "[I" ∈ zU := zt1 (i := 238) rfl rfl
theorem q2_0 : Cond.laysFinal "SnowCitizens" "SnowCitizens" "shadesWithout" "[I" ∈ zU := zt2 (i := 0) rfl rfl
theorem q2_2 : Cond.laysFinal "SnowCitizens" "SnowCitizens" "mostCounted" "[I" ∈ zU := zt2 (i := 2) rfl rfl
theorem q2_5 : Cond.methodLink RL 53 yX6_at ∈ zU := zt2 (i := 5) rfl rfl
theorem q2_6 : Cond.instanceMethod yX6_at ∈ zU := zt2 (i := 6) rfl rfl
theorem q2_7 : Cond.selects "SnowCitizens" yX6_at yX6_at ∈ zU := zt2 (i := 7) rfl rfl
theorem q2_8 : Cond.code yX6_at cX6_at 4 (some .int) ∈ zU := zt2 (i := 8) rfl rfl
theorem q2_9 : Cond.methodLink RX6 78 yX6_rowOf ∈ zU := zt2 (i := 9) rfl rfl
theorem q2_11 : Cond.instanceMethod yX6_rowOf ∈ zU := zt2 (i := 11) rfl rfl
theorem q2_12 : Cond.code yX6_rowOf cX6_rowOf 2 (Option.some (.object "SnowCitizens$Row")) ∈ zU := zt2 (i := 12) rfl rfl
theorem q2_13 : Cond.methodLink RX6 82 yX6_found ∈ zU := zt2 (i := 13) rfl rfl
theorem q2_15 : Cond.instanceMethod yX6_found ∈ zU := zt2 (i := 15) rfl rfl
theorem q2_16 : Cond.code yX6_found cX6_found 2 (some .int) ∈ zU := zt2 (i := 16) rfl rfl
theorem q2_17 : Cond.methodLink RX6 101 yX6_read ∈ zU := zt2 (i := 17) rfl rfl
theorem q2_18 : Cond.static yX6_read ∈ zU := zt2 (i := 18) rfl rfl
theorem q2_19 : Cond.code yX6_read cX6_read 2 (some .int) ∈ zU := zt2 (i := 19) rfl rfl
theorem q2_20 : Cond.methodLink RX6 105 yX6_write ∈ zU := zt2 (i := 20) rfl rfl
theorem q2_21 : Cond.static yX6_write ∈ zU := zt2 (i := 21) rfl rfl
theorem q2_22 : Cond.code yX6_write cX6_write 3 none ∈ zU := zt2 (i := 22) rfl rfl
theorem q2_23 : Cond.methodLink RX6 109 yX6_tell ∈ zU := zt2 (i := 23) rfl rfl
theorem q2_25 : Cond.instanceMethod yX6_tell ∈ zU := zt2 (i := 25) rfl rfl
theorem q2_26 : Cond.code yX6_tell cX6_tell 2 (some .int) ∈ zU := zt2 (i := 26) rfl rfl
theorem q2_27 : Cond.methodLink RL 118 yX6_man ∈ zU := zt2 (i := 27) rfl rfl
theorem q2_28 : Cond.instanceMethod yX6_man ∈ zU := zt2 (i := 28) rfl rfl
theorem q2_29 : Cond.selects "SnowCitizens" yX6_man yX6_man ∈ zU := zt2 (i := 29) rfl rfl
theorem q2_30 : Cond.code yX6_man cX6_man 3 (some .int) ∈ zU := zt2 (i := 30) rfl rfl
theorem q2_31 : Cond.methodLink RX6 155 yX2_isMan ∈ zU := zt2 (i := 31) rfl rfl
theorem q2_32 : Cond.instanceMethod yX2_isMan ∈ zU := zt2 (i := 32) rfl rfl
theorem q2_33 : Cond.selects "SnowCitizens$North" yX2_isMan yX2_isMan ∈ zU := zt2 (i := 33) rfl rfl
theorem q2_34 : Cond.code yX2_isMan cX2_isMan 2 (some .boolean) ∈ zU := zt2 (i := 34) rfl rfl
theorem q2_35 : Cond.methodLink RX6 159 yX2_tellsOf ∈ zU := zt2 (i := 35) rfl rfl
theorem q2_36 : Cond.instanceMethod yX2_tellsOf ∈ zU := zt2 (i := 36) rfl rfl
theorem q2_37 : Cond.selects "SnowCitizens$North" yX2_tellsOf yX2_tellsOf ∈ zU := zt2 (i := 37) rfl rfl
theorem q2_38 : Cond.code yX2_tellsOf cX2_tellsOf 3 (some .int) ∈ zU := zt2 (i := 38) rfl rfl
theorem q2_40 : Cond.methodLink RX2 110 yX2_votersBy ∈ zU := zt2 (i := 40) rfl rfl
theorem q2_41 : Cond.instanceMethod yX2_votersBy ∈ zU := zt2 (i := 41) rfl rfl
theorem q2_42 : Cond.selects "SnowCitizens$North" yX2_votersBy yX2_votersBy ∈ zU := zt2 (i := 42) rfl rfl
theorem q2_43 : Cond.code yX2_votersBy cX2_votersBy 4 (some .int) ∈ zU := zt2 (i := 43) rfl rfl
theorem q2_44 : Cond.methodLink RX2 114 yX2_hasRight ∈ zU := zt2 (i := 44) rfl rfl
theorem q2_45 : Cond.instanceMethod yX2_hasRight ∈ zU := zt2 (i := 45) rfl rfl
theorem q2_46 : Cond.selects "SnowCitizens$North" yX2_hasRight yX2_hasRight ∈ zU := zt2 (i := 46) rfl rfl
theorem q2_47 : Cond.code yX2_hasRight cX2_hasRight 4 (some .boolean) ∈ zU := zt2 (i := 47) rfl rfl
theorem q2_49 : Cond.static yX6_isIn ∈ zU := zt2 (i := 49) rfl rfl
theorem q2_50 : Cond.code yX6_isIn cX6_isIn 2 (some .boolean) ∈ zU := zt2 (i := 50) rfl rfl
theorem q2_51 : Cond.methodLink RX2 140 yX2_voteNow ∈ zU := zt2 (i := 51) rfl rfl
theorem q2_53 : Cond.instanceMethod yX2_voteNow ∈ zU := zt2 (i := 53) rfl rfl
theorem q2_54 : Cond.code yX2_voteNow cX2_voteNow 3 (some .int) ∈ zU := zt2 (i := 54) rfl rfl
theorem q2_55 : Cond.methodLink RX2 132 yX2_onesAmong ∈ zU := zt2 (i := 55) rfl rfl
theorem q2_56 : Cond.instanceMethod yX2_onesAmong ∈ zU := zt2 (i := 56) rfl rfl
theorem q2_57 : Cond.selects "SnowCitizens$North" yX2_onesAmong yX2_onesAmong ∈ zU := zt2 (i := 57) rfl rfl
theorem q2_58 : Cond.code yX2_onesAmong cX2_onesAmong 4 (some .int) ∈ zU := zt2 (i := 58) rfl rfl
theorem q2_59 : Cond.methodLink RX2 129 yX2_votesOne ∈ zU := zt2 (i := 59) rfl rfl
theorem q2_61 : Cond.instanceMethod yX2_votesOne ∈ zU := zt2 (i := 61) rfl rfl
theorem q2_62 : Cond.code yX2_votesOne cX2_votesOne 5 (some .boolean) ∈ zU := zt2 (i := 62) rfl rfl
theorem q2_63 : Cond.methodLink RL 87 yX6_day ∈ zU := zt2 (i := 63) rfl rfl
theorem q2_64 : Cond.instanceMethod yX6_day ∈ zU := zt2 (i := 64) rfl rfl
theorem q2_65 : Cond.selects "SnowCitizens" yX6_day yX6_day ∈ zU := zt2 (i := 65) rfl rfl
theorem q2_66 : Cond.code yX6_day cX6_day 1 (some .int) ∈ zU := zt2 (i := 66) rfl rfl
theorem q2_67 : Cond.methodLink RX6 201 yX2_act ∈ zU := zt2 (i := 67) rfl rfl
theorem q2_68 : Cond.instanceMethod yX2_act ∈ zU := zt2 (i := 68) rfl rfl
theorem q2_69 : Cond.selects "SnowCitizens$North" yX2_act yX2_act ∈ zU := zt2 (i := 69) rfl rfl
theorem q2_70 : Cond.code yX2_act cX2_act 4 none ∈ zU := zt2 (i := 70) rfl rfl
theorem q2_72 : Cond.methodLink RX2 77 yX2_perform ∈ zU := zt2 (i := 72) rfl rfl
theorem q2_74 : Cond.instanceMethod yX2_perform ∈ zU := zt2 (i := 74) rfl rfl
theorem q2_75 : Cond.code yX2_perform cX2_perform 4 none ∈ zU := zt2 (i := 75) rfl rfl
theorem q2_76 : Cond.methodLink RX2 85 Lib.Math.min.name ∈ zU := zt2 (i := 76) rfl rfl
theorem q2_77 : Cond.static Lib.Math.min.name ∈ zU := zt2 (i := 77) rfl rfl
theorem q2_78 : Cond.code Lib.Math.min.name cJ9_min_7cf53 2 (some .int) ∈ zU := zt2 (i := 78) rfl rfl
theorem q2_79 : Cond.methodLink RX2 91 yX2_meltAll ∈ zU := zt2 (i := 79) rfl rfl
theorem q2_81 : Cond.instanceMethod yX2_meltAll ∈ zU := zt2 (i := 81) rfl rfl
theorem q2_82 : Cond.code yX2_meltAll cX2_meltAll 2 none ∈ zU := zt2 (i := 82) rfl rfl
theorem q2_83 : Cond.methodLink RX2 94 yX2_meltingIn ∈ zU := zt2 (i := 83) rfl rfl
theorem q2_84 : Cond.instanceMethod yX2_meltingIn ∈ zU := zt2 (i := 84) rfl rfl
theorem q2_85 : Cond.selects "SnowCitizens$North" yX2_meltingIn yX2_meltingIn ∈ zU := zt2 (i := 85) rfl rfl
theorem q2_86 : Cond.code yX2_meltingIn cX2_meltingIn 3 (some .int) ∈ zU := zt2 (i := 86) rfl rfl
theorem q2_87 : Cond.methodLink RX2 100 yX2_melting ∈ zU := zt2 (i := 87) rfl rfl
theorem q2_89 : Cond.instanceMethod yX2_melting ∈ zU := zt2 (i := 89) rfl rfl
theorem q2_90 : Cond.code yX2_melting cX2_melting 5 (some .int) ∈ zU := zt2 (i := 90) rfl rfl
theorem q2_91 : Cond.methodLink RX2 97 Lib.Math.max.name ∈ zU := zt2 (i := 91) rfl rfl
theorem q2_92 : Cond.static Lib.Math.max.name ∈ zU := zt2 (i := 92) rfl rfl
theorem q2_93 : Cond.code Lib.Math.max.name cJ9_max_7cf53 2 (some .int) ∈ zU := zt2 (i := 93) rfl rfl
theorem q2_94 : Cond.methodLink RX6 205 yX2_living ∈ zU := zt2 (i := 94) rfl rfl
theorem q2_95 : Cond.instanceMethod yX2_living ∈ zU := zt2 (i := 95) rfl rfl
theorem q2_96 : Cond.selects "SnowCitizens$North" yX2_living yX2_living ∈ zU := zt2 (i := 96) rfl rfl
theorem q2_97 : Cond.code yX2_living cX2_living 1 (some .int) ∈ zU := zt2 (i := 97) rfl rfl
theorem q2_98 : Cond.methodLink RX6 209 yJ6_bitCount_0f7a4 ∈ zU := zt2 (i := 98) rfl rfl
theorem q2_99 : Cond.static yJ6_bitCount_0f7a4 ∈ zU := zt2 (i := 99) rfl rfl
theorem q2_100 : Cond.code yJ6_bitCount_0f7a4 cJ6_bitCount_0f7a4 1 (some .int) ∈ zU := zt2 (i := 100) rfl rfl
theorem q2_101 : Cond.constant RJ6 265 1431655765 ∈ zU := zt2 (i := 101) rfl rfl
theorem q2_102 : Cond.constant RJ6 266 858993459 ∈ zU := zt2 (i := 102) rfl rfl
theorem q2_103 : Cond.constant RJ6 267 252645135 ∈ zU := zt2 (i := 103) rfl rfl
theorem q2_104 : Cond.methodLink RL 60 yX6_shade ∈ zU := zt2 (i := 104) rfl rfl
theorem q2_105 : Cond.instanceMethod yX6_shade ∈ zU := zt2 (i := 105) rfl rfl
theorem q2_106 : Cond.selects "SnowCitizens" yX6_shade yX6_shade ∈ zU := zt2 (i := 106) rfl rfl
theorem q2_107 : Cond.code yX6_shade cX6_shade 4 (some .int) ∈ zU := zt2 (i := 107) rfl rfl
theorem q2_108 : Cond.methodLink RL 78 yX6_snow ∈ zU := zt2 (i := 108) rfl rfl
theorem q2_109 : Cond.instanceMethod yX6_snow ∈ zU := zt2 (i := 109) rfl rfl
theorem q2_110 : Cond.selects "SnowCitizens" yX6_snow yX6_snow ∈ zU := zt2 (i := 110) rfl rfl
theorem q2_111 : Cond.code yX6_snow cX6_snow 3 (some .int) ∈ zU := zt2 (i := 111) rfl rfl
theorem q2_112 : Cond.methodLink RL 93 yX6_undo ∈ zU := zt2 (i := 112) rfl rfl
theorem q2_113 : Cond.instanceMethod yX6_undo ∈ zU := zt2 (i := 113) rfl rfl
theorem q2_114 : Cond.selects "SnowCitizens" yX6_undo yX6_undo ∈ zU := zt2 (i := 114) rfl rfl
theorem q2_115 : Cond.code yX6_undo cX6_undo 3 (some .int) ∈ zU := zt2 (i := 115) rfl rfl
theorem q2_116 : Cond.methodLink RX6 217 yX2_undoFrom ∈ zU := zt2 (i := 116) rfl rfl
theorem q2_117 : Cond.instanceMethod yX2_undoFrom ∈ zU := zt2 (i := 117) rfl rfl
theorem q2_118 : Cond.selects "SnowCitizens$North" yX2_undoFrom yX2_undoFrom ∈ zU := zt2 (i := 118) rfl rfl
theorem q2_119 : Cond.code yX2_undoFrom cX2_undoFrom 3 none ∈ zU := zt2 (i := 119) rfl rfl
theorem q2_120 : Cond.methodLink RX2 67 yX2_restart ∈ zU := zt2 (i := 120) rfl rfl
theorem q2_122 : Cond.instanceMethod yX2_restart ∈ zU := zt2 (i := 122) rfl rfl
theorem q2_123 : Cond.code yX2_restart cX2_restart 1 none ∈ zU := zt2 (i := 123) rfl rfl
theorem q2_125 : Cond.static yX6_writeAll ∈ zU := zt2 (i := 125) rfl rfl
theorem q2_126 : Cond.code yX6_writeAll cX6_writeAll 3 none ∈ zU := zt2 (i := 126) rfl rfl
theorem q2_127 : Cond.methodLink RL 47 yX6_keep ∈ zU := zt2 (i := 127) rfl rfl
theorem q2_128 : Cond.instanceMethod yX6_keep ∈ zU := zt2 (i := 128) rfl rfl
theorem q2_129 : Cond.selects "SnowCitizens" yX6_keep yX6_keep ∈ zU := zt2 (i := 129) rfl rfl
theorem q2_130 : Cond.code yX6_keep cX6_keep 3 (some .int) ∈ zU := zt2 (i := 130) rfl rfl
theorem q2_131 : Cond.methodLink RX6 148 yX6_keptOf ∈ zU := zt2 (i := 131) rfl rfl
theorem q2_133 : Cond.instanceMethod yX6_keptOf ∈ zU := zt2 (i := 133) rfl rfl
theorem q2_134 : Cond.code yX6_keptOf cX6_keptOf 2 (Option.some (.object "SnowCitizens$North")) ∈ zU := zt2 (i := 134) rfl rfl
theorem q2_135 : Cond.methodLink RX6 226 yX2_become ∈ zU := zt2 (i := 135) rfl rfl
theorem q2_136 : Cond.instanceMethod yX2_become ∈ zU := zt2 (i := 136) rfl rfl
theorem q2_137 : Cond.selects "SnowCitizens$North" yX2_become yX2_become ∈ zU := zt2 (i := 137) rfl rfl
theorem q2_138 : Cond.code yX2_become cX2_become 2 none ∈ zU := zt2 (i := 138) rfl rfl
theorem q2_139 : Cond.methodLink RL 66 yX6_on ∈ zU := zt2 (i := 139) rfl rfl
theorem q2_140 : Cond.instanceMethod yX6_on ∈ zU := zt2 (i := 140) rfl rfl
theorem q2_141 : Cond.selects "SnowCitizens" yX6_on yX6_on ∈ zU := zt2 (i := 141) rfl rfl
theorem q2_142 : Cond.code yX6_on cX6_on 3 (some .int) ∈ zU := zt2 (i := 142) rfl rfl
theorem q2_143 : Cond.methodLink RL 63 yX6_bulk ∈ zU := zt2 (i := 143) rfl rfl
theorem q2_144 : Cond.instanceMethod yX6_bulk ∈ zU := zt2 (i := 144) rfl rfl
theorem q2_145 : Cond.selects "SnowCitizens" yX6_bulk yX6_bulk ∈ zU := zt2 (i := 145) rfl rfl
theorem q2_146 : Cond.code yX6_bulk cX6_bulk 3 (some .int) ∈ zU := zt2 (i := 146) rfl rfl
theorem q2_147 : Cond.methodLink RX6 230 yX6_isAhead ∈ zU := zt2 (i := 147) rfl rfl
theorem q2_148 : Cond.static yX6_isAhead ∈ zU := zt2 (i := 148) rfl rfl
theorem q2_149 : Cond.code yX6_isAhead cX6_isAhead 1 (some .boolean) ∈ zU := zt2 (i := 149) rfl rfl
theorem q2_150 : Cond.methodLink RX6 233 yX2_bulkIn ∈ zU := zt2 (i := 150) rfl rfl
theorem q2_151 : Cond.instanceMethod yX2_bulkIn ∈ zU := zt2 (i := 151) rfl rfl
theorem q2_152 : Cond.selects "SnowCitizens$North" yX2_bulkIn yX2_bulkIn ∈ zU := zt2 (i := 152) rfl rfl
theorem q2_153 : Cond.code yX2_bulkIn cX2_bulkIn 3 (some .int) ∈ zU := zt2 (i := 153) rfl rfl
theorem q2_154 : Cond.methodLink RX2 104 yX2_bulkBy ∈ zU := zt2 (i := 154) rfl rfl
theorem q2_156 : Cond.instanceMethod yX2_bulkBy ∈ zU := zt2 (i := 156) rfl rfl
theorem q2_157 : Cond.code yX2_bulkBy cX2_bulkBy 4 (some .int) ∈ zU := zt2 (i := 157) rfl rfl
theorem q2_158 : Cond.methodLink RX2 107 yX2_meltedIn ∈ zU := zt2 (i := 158) rfl rfl
theorem q2_159 : Cond.instanceMethod yX2_meltedIn ∈ zU := zt2 (i := 159) rfl rfl
theorem q2_160 : Cond.selects "SnowCitizens$North" yX2_meltedIn yX2_meltedIn ∈ zU := zt2 (i := 160) rfl rfl
theorem q2_161 : Cond.code yX2_meltedIn cX2_meltedIn 6 (some .int) ∈ zU := zt2 (i := 161) rfl rfl
theorem q2_162 : Cond.methodLink RL 102 yX6_gone ∈ zU := zt2 (i := 162) rfl rfl
theorem q2_163 : Cond.instanceMethod yX6_gone ∈ zU := zt2 (i := 163) rfl rfl
theorem q2_164 : Cond.selects "SnowCitizens" yX6_gone yX6_gone ∈ zU := zt2 (i := 164) rfl rfl
theorem q2_165 : Cond.code yX6_gone cX6_gone 2 (some .int) ∈ zU := zt2 (i := 165) rfl rfl
theorem q2_166 : Cond.methodLink RX6 183 yX2_goneIn ∈ zU := zt2 (i := 166) rfl rfl
theorem q2_167 : Cond.instanceMethod yX2_goneIn ∈ zU := zt2 (i := 167) rfl rfl
theorem q2_168 : Cond.selects "SnowCitizens$North" yX2_goneIn yX2_goneIn ∈ zU := zt2 (i := 168) rfl rfl
theorem q2_169 : Cond.code yX2_goneIn cX2_goneIn 4 (some .int) ∈ zU := zt2 (i := 169) rfl rfl
theorem q2_170 : Cond.methodLink RL 72 yX6_votes ∈ zU := zt2 (i := 170) rfl rfl
theorem q2_171 : Cond.instanceMethod yX6_votes ∈ zU := zt2 (i := 171) rfl rfl
theorem q2_172 : Cond.selects "SnowCitizens" yX6_votes yX6_votes ∈ zU := zt2 (i := 172) rfl rfl
theorem q2_173 : Cond.code yX6_votes cX6_votes 4 (some .int) ∈ zU := zt2 (i := 173) rfl rfl
theorem q2_174 : Cond.methodLink RX6 236 yX2_votersIn ∈ zU := zt2 (i := 174) rfl rfl
theorem q2_175 : Cond.instanceMethod yX2_votersIn ∈ zU := zt2 (i := 175) rfl rfl
theorem q2_176 : Cond.selects "SnowCitizens$North" yX2_votersIn yX2_votersIn ∈ zU := zt2 (i := 176) rfl rfl
theorem q2_177 : Cond.code yX2_votersIn cX2_votersIn 4 (some .int) ∈ zU := zt2 (i := 177) rfl rfl
theorem q2_178 : Cond.methodLink RX2 118 yX2_hasRightBy ∈ zU := zt2 (i := 178) rfl rfl
theorem q2_179 : Cond.instanceMethod yX2_hasRightBy ∈ zU := zt2 (i := 179) rfl rfl
theorem q2_180 : Cond.selects "SnowCitizens$North" yX2_hasRightBy yX2_hasRightBy ∈ zU := zt2 (i := 180) rfl rfl
theorem q2_181 : Cond.code yX2_hasRightBy cX2_hasRightBy 4 (some .boolean) ∈ zU := zt2 (i := 181) rfl rfl
theorem q2_182 : Cond.methodLink RX6 239 yX2_onesAmong ∈ zU := zt2 (i := 182) rfl rfl
theorem q2_183 : Cond.methodLink RL 96 yX6_widow ∈ zU := zt2 (i := 183) rfl rfl
theorem q2_184 : Cond.instanceMethod yX6_widow ∈ zU := zt2 (i := 184) rfl rfl
theorem q2_185 : Cond.selects "SnowCitizens" yX6_widow yX6_widow ∈ zU := zt2 (i := 185) rfl rfl
theorem q2_186 : Cond.code yX6_widow cX6_widow 5 (some .int) ∈ zU := zt2 (i := 186) rfl rfl
theorem q2_187 : Cond.methodLink RL 99 yX6_heir ∈ zU := zt2 (i := 187) rfl rfl
theorem q2_188 : Cond.instanceMethod yX6_heir ∈ zU := zt2 (i := 188) rfl rfl
theorem q2_189 : Cond.selects "SnowCitizens" yX6_heir yX6_heir ∈ zU := zt2 (i := 189) rfl rfl
theorem q2_190 : Cond.code yX6_heir cX6_heir 4 (some .int) ∈ zU := zt2 (i := 190) rfl rfl
theorem q2_191 : Cond.methodLink RL 50 yX6_guard ∈ zU := zt2 (i := 191) rfl rfl
theorem q2_192 : Cond.instanceMethod yX6_guard ∈ zU := zt2 (i := 192) rfl rfl
theorem q2_193 : Cond.selects "SnowCitizens" yX6_guard yX6_guard ∈ zU := zt2 (i := 193) rfl rfl
theorem q2_194 : Cond.code yX6_guard cX6_guard 9 (some .int) ∈ zU := zt2 (i := 194) rfl rfl
theorem q2_195 : Cond.methodLink RX6 249 yX2_isSet ∈ zU := zt2 (i := 195) rfl rfl
theorem q2_196 : Cond.instanceMethod yX2_isSet ∈ zU := zt2 (i := 196) rfl rfl
theorem q2_197 : Cond.selects "SnowCitizens$North" yX2_isSet yX2_isSet ∈ zU := zt2 (i := 197) rfl rfl
theorem q2_198 : Cond.code yX2_isSet cX2_isSet 2 (some .boolean) ∈ zU := zt2 (i := 198) rfl rfl
theorem q2_199 : Cond.methodLink RX6 252 yX6_isIn ∈ zU := zt2 (i := 199) rfl rfl
theorem q2_200 : Cond.methodLink RX6 255 yX2_leastGuard ∈ zU := zt2 (i := 200) rfl rfl
theorem q2_201 : Cond.instanceMethod yX2_leastGuard ∈ zU := zt2 (i := 201) rfl rfl
theorem q2_202 : Cond.selects "SnowCitizens$North" yX2_leastGuard yX2_leastGuard ∈ zU := zt2 (i := 202) rfl rfl
theorem q2_203 : Cond.code yX2_leastGuard cX2_leastGuard 4 (some .int) ∈ zU := zt2 (i := 203) rfl rfl
theorem q2_204 : Cond.methodLink RX6 258 yX4_take ∈ zU := zt2 (i := 204) rfl rfl
theorem q2_205 : Cond.instanceMethod yX4_take ∈ zU := zt2 (i := 205) rfl rfl
theorem q2_206 : Cond.selects "SnowCitizens$Row" yX4_take yX4_take ∈ zU := zt2 (i := 206) rfl rfl
theorem q2_207 : Cond.code yX4_take cX4_take 3 none ∈ zU := zt2 (i := 207) rfl rfl
theorem q2_209 : Cond.methodLink RL 69 yX6_bribe ∈ zU := zt2 (i := 209) rfl rfl
theorem q2_210 : Cond.instanceMethod yX6_bribe ∈ zU := zt2 (i := 210) rfl rfl
theorem q2_211 : Cond.selects "SnowCitizens" yX6_bribe yX6_bribe ∈ zU := zt2 (i := 211) rfl rfl
theorem q2_212 : Cond.code yX6_bribe cX6_bribe 9 (some .int) ∈ zU := zt2 (i := 212) rfl rfl
theorem q2_213 : Cond.methodLink RX6 262 yX2_nearestShade ∈ zU := zt2 (i := 213) rfl rfl
theorem q2_214 : Cond.instanceMethod yX2_nearestShade ∈ zU := zt2 (i := 214) rfl rfl
theorem q2_215 : Cond.selects "SnowCitizens$North" yX2_nearestShade yX2_nearestShade ∈ zU := zt2 (i := 215) rfl rfl
theorem q2_216 : Cond.code yX2_nearestShade cX2_nearestShade 6 (some .int) ∈ zU := zt2 (i := 216) rfl rfl
theorem q2_217 : Cond.methodLink RX6 266 yX6_costOfVoters ∈ zU := zt2 (i := 217) rfl rfl
theorem q2_219 : Cond.instanceMethod yX6_costOfVoters ∈ zU := zt2 (i := 219) rfl rfl
theorem q2_220 : Cond.code yX6_costOfVoters cX6_costOfVoters 5 (some .int) ∈ zU := zt2 (i := 220) rfl rfl
theorem q2_221 : Cond.methodLink RX6 269 yX6_shadeByVoters ∈ zU := zt2 (i := 221) rfl rfl
theorem q2_223 : Cond.instanceMethod yX6_shadeByVoters ∈ zU := zt2 (i := 223) rfl rfl
theorem q2_224 : Cond.code yX6_shadeByVoters cX6_shadeByVoters 3 (some .int) ∈ zU := zt2 (i := 224) rfl rfl
theorem q2_225 : Cond.methodLink RX6 378 Lib.Math.abs.name ∈ zU := zt2 (i := 225) rfl rfl
theorem q2_226 : Cond.static Lib.Math.abs.name ∈ zU := zt2 (i := 226) rfl rfl
theorem q2_227 : Cond.code Lib.Math.abs.name cJ9_abs_0f7a4 1 (some .int) ∈ zU := zt2 (i := 227) rfl rfl
theorem q2_228 : Cond.methodLink RX6 246 yX2_isCarriedBy ∈ zU := zt2 (i := 228) rfl rfl
theorem q2_229 : Cond.instanceMethod yX2_isCarriedBy ∈ zU := zt2 (i := 229) rfl rfl
theorem q2_230 : Cond.selects "SnowCitizens$North" yX2_isCarriedBy yX2_isCarriedBy ∈ zU := zt2 (i := 230) rfl rfl
theorem q2_231 : Cond.code yX2_isCarriedBy cX2_isCarriedBy 2 (some .boolean) ∈ zU := zt2 (i := 231) rfl rfl
theorem q2_232 : Cond.methodLink RX2 135 yJ6_bitCount_0f7a4 ∈ zU := zt2 (i := 232) rfl rfl
theorem q2_233 : Cond.methodLink RL 75 yX6_carry ∈ zU := zt2 (i := 233) rfl rfl
theorem q2_234 : Cond.instanceMethod yX6_carry ∈ zU := zt2 (i := 234) rfl rfl
theorem q2_235 : Cond.selects "SnowCitizens" yX6_carry yX6_carry ∈ zU := zt2 (i := 235) rfl rfl
theorem q2_236 : Cond.code yX6_carry cX6_carry 6 (some .int) ∈ zU := zt2 (i := 236) rfl rfl
theorem q2_237 : Cond.methodLink RX6 272 yX2_meltedIn ∈ zU := zt2 (i := 237) rfl rfl
theorem q2_238 : Cond.methodLink RX6 276 yX2_hasRight ∈ zU := zt2 (i := 238) rfl rfl
theorem q2_239 : Cond.methodLink RL 81 yX6_census ∈ zU := zt2 (i := 239) rfl rfl
theorem q3_0 : Cond.instanceMethod yX6_census ∈ zU := zt3 (i := 0) rfl rfl
theorem q3_1 : Cond.selects "SnowCitizens" yX6_census yX6_census ∈ zU := zt3 (i := 1) rfl rfl
theorem q3_2 : Cond.code yX6_census cX6_census 6 (some .int) ∈ zU := zt3 (i := 2) rfl rfl
theorem q3_3 : Cond.methodLink RX6 280 yX2_foreseeLiving ∈ zU := zt3 (i := 3) rfl rfl
theorem q3_4 : Cond.instanceMethod yX2_foreseeLiving ∈ zU := zt3 (i := 4) rfl rfl
theorem q3_5 : Cond.selects "SnowCitizens$North" yX2_foreseeLiving yX2_foreseeLiving ∈ zU := zt3 (i := 5) rfl rfl
theorem q3_6 : Cond.code yX2_foreseeLiving cX2_foreseeLiving 2 none ∈ zU := zt3 (i := 6) rfl rfl
theorem q3_7 : Cond.methodLink RX2 121 yX2_foreseeVoters ∈ zU := zt3 (i := 7) rfl rfl
theorem q3_8 : Cond.instanceMethod yX2_foreseeVoters ∈ zU := zt3 (i := 8) rfl rfl
theorem q3_9 : Cond.selects "SnowCitizens$North" yX2_foreseeVoters yX2_foreseeVoters ∈ zU := zt3 (i := 9) rfl rfl
theorem q3_10 : Cond.code yX2_foreseeVoters cX2_foreseeVoters 6 none ∈ zU := zt3 (i := 10) rfl rfl
theorem q3_11 : Cond.methodLink RX6 284 yX6_fillMostCounted ∈ zU := zt3 (i := 11) rfl rfl
theorem q3_13 : Cond.instanceMethod yX6_fillMostCounted ∈ zU := zt3 (i := 13) rfl rfl
theorem q3_14 : Cond.code yX6_fillMostCounted cX6_fillMostCounted 4 none ∈ zU := zt3 (i := 14) rfl rfl
theorem q3_15 : Cond.methodLink RX6 381 yX6_countedFrom ∈ zU := zt3 (i := 15) rfl rfl
theorem q3_17 : Cond.instanceMethod yX6_countedFrom ∈ zU := zt3 (i := 17) rfl rfl
theorem q3_18 : Cond.code yX6_countedFrom cX6_countedFrom 3 (some .int) ∈ zU := zt3 (i := 18) rfl rfl
theorem q3_19 : Cond.methodLink RX6 290 yX6_countedOn ∈ zU := zt3 (i := 19) rfl rfl
theorem q3_21 : Cond.instanceMethod yX6_countedOn ∈ zU := zt3 (i := 21) rfl rfl
theorem q3_22 : Cond.code yX6_countedOn cX6_countedOn 3 (some .int) ∈ zU := zt3 (i := 22) rfl rfl
theorem q3_23 : Cond.methodLink RX6 384 Lib.Math.max.name ∈ zU := zt3 (i := 23) rfl rfl
theorem q3_24 : Cond.methodLink RX6 287 yX6_nextCounted ∈ zU := zt3 (i := 24) rfl rfl
theorem q3_26 : Cond.instanceMethod yX6_nextCounted ∈ zU := zt3 (i := 26) rfl rfl
theorem q3_27 : Cond.code yX6_nextCounted cX6_nextCounted 4 (some .int) ∈ zU := zt3 (i := 27) rfl rfl
theorem q3_28 : Cond.methodLink RL 84 yX6_counted ∈ zU := zt3 (i := 28) rfl rfl
theorem q3_29 : Cond.instanceMethod yX6_counted ∈ zU := zt3 (i := 29) rfl rfl
theorem q3_30 : Cond.selects "SnowCitizens" yX6_counted yX6_counted ∈ zU := zt3 (i := 30) rfl rfl
theorem q3_31 : Cond.code yX6_counted cX6_counted 7 (some .int) ∈ zU := zt3 (i := 31) rfl rfl
theorem q3_32 : Cond.methodLink RL 121 yX6_rights ∈ zU := zt3 (i := 32) rfl rfl
theorem q3_33 : Cond.instanceMethod yX6_rights ∈ zU := zt3 (i := 33) rfl rfl
theorem q3_34 : Cond.selects "SnowCitizens" yX6_rights yX6_rights ∈ zU := zt3 (i := 34) rfl rfl
theorem q3_35 : Cond.code yX6_rights cX6_rights 4 (some .int) ∈ zU := zt3 (i := 35) rfl rfl
theorem q3_36 : Cond.methodLink RX6 304 yX2_votersBy ∈ zU := zt3 (i := 36) rfl rfl
theorem q3_37 : Cond.methodLink RL 105 yX6_odds ∈ zU := zt3 (i := 37) rfl rfl
theorem q3_38 : Cond.instanceMethod yX6_odds ∈ zU := zt3 (i := 38) rfl rfl
theorem q3_39 : Cond.selects "SnowCitizens" yX6_odds yX6_odds ∈ zU := zt3 (i := 39) rfl rfl
theorem q3_40 : Cond.code yX6_odds cX6_odds 4 (some .int) ∈ zU := zt3 (i := 40) rfl rfl
theorem q3_41 : Cond.methodLink RX6 317 yX0_weigh ∈ zU := zt3 (i := 41) rfl rfl
theorem q3_42 : Cond.instanceMethod yX0_weigh ∈ zU := zt3 (i := 42) rfl rfl
theorem q3_43 : Cond.selects "SnowCitizens$Clouds" yX0_weigh yX0_weigh ∈ zU := zt3 (i := 43) rfl rfl
theorem q3_44 : Cond.code yX0_weigh cX0_weigh 6 none ∈ zU := zt3 (i := 44) rfl rfl
theorem q3_45 : Cond.methodLink RX0 18 yX0_clear ∈ zU := zt3 (i := 45) rfl rfl
theorem q3_46 : Cond.static yX0_clear ∈ zU := zt3 (i := 46) rfl rfl
theorem q3_47 : Cond.code yX0_clear cX0_clear 2 none ∈ zU := zt3 (i := 47) rfl rfl
theorem q3_49 : Cond.methodLink RX0 32 yX0_add ∈ zU := zt3 (i := 49) rfl rfl
theorem q3_50 : Cond.static yX0_add ∈ zU := zt3 (i := 50) rfl rfl
theorem q3_51 : Cond.code yX0_add cX0_add 4 none ∈ zU := zt3 (i := 51) rfl rfl
theorem q3_52 : Cond.methodLink RX0 40 yX2_meltingIn ∈ zU := zt3 (i := 52) rfl rfl
theorem q3_53 : Cond.methodLink RX0 44 yX0_pass ∈ zU := zt3 (i := 53) rfl rfl
theorem q3_55 : Cond.instanceMethod yX0_pass ∈ zU := zt3 (i := 55) rfl rfl
theorem q3_56 : Cond.code yX0_pass cX0_pass 4 none ∈ zU := zt3 (i := 56) rfl rfl
theorem q3_57 : Cond.methodLink RX0 50 Lib.Math.max.name ∈ zU := zt3 (i := 57) rfl rfl
theorem q3_58 : Cond.constantLong RX0 48 12 ∈ zU := zt3 (i := 58) rfl rfl
theorem q3_59 : Cond.methodLink RX6 321 yX0_waysToLast ∈ zU := zt3 (i := 59) rfl rfl
theorem q3_60 : Cond.instanceMethod yX0_waysToLast ∈ zU := zt3 (i := 60) rfl rfl
theorem q3_61 : Cond.selects "SnowCitizens$Clouds" yX0_waysToLast yX0_waysToLast ∈ zU := zt3 (i := 61) rfl rfl
theorem q3_62 : Cond.code yX0_waysToLast cX0_waysToLast 4 (some .long) ∈ zU := zt3 (i := 62) rfl rfl
theorem q3_63 : Cond.methodLink RX6 327 yX6_tellChance ∈ zU := zt3 (i := 63) rfl rfl
theorem q3_65 : Cond.instanceMethod yX6_tellChance ∈ zU := zt3 (i := 65) rfl rfl
theorem q3_66 : Cond.code yX6_tellChance cX6_tellChance 7 none ∈ zU := zt3 (i := 66) rfl rfl
theorem q3_67 : Cond.methodLink RX6 359 yX6_commonDivisor ∈ zU := zt3 (i := 67) rfl rfl
theorem q3_68 : Cond.static yX6_commonDivisor ∈ zU := zt3 (i := 68) rfl rfl
theorem q3_69 : Cond.code yX6_commonDivisor cX6_commonDivisor 7 (some .long) ∈ zU := zt3 (i := 69) rfl rfl
theorem q3_70 : Cond.methodLink RL 115 yX6_mid ∈ zU := zt3 (i := 70) rfl rfl
theorem q3_71 : Cond.instanceMethod yX6_mid ∈ zU := zt3 (i := 71) rfl rfl
theorem q3_72 : Cond.selects "SnowCitizens" yX6_mid yX6_mid ∈ zU := zt3 (i := 72) rfl rfl
theorem q3_73 : Cond.code yX6_mid cX6_mid 4 (some .int) ∈ zU := zt3 (i := 73) rfl rfl
theorem q3_74 : Cond.methodLink RX6 331 yX0_bulkOfWays ∈ zU := zt3 (i := 74) rfl rfl
theorem q3_75 : Cond.instanceMethod yX0_bulkOfWays ∈ zU := zt3 (i := 75) rfl rfl
theorem q3_76 : Cond.selects "SnowCitizens$Clouds" yX0_bulkOfWays yX0_bulkOfWays ∈ zU := zt3 (i := 76) rfl rfl
theorem q3_77 : Cond.code yX0_bulkOfWays cX0_bulkOfWays 4 (some .long) ∈ zU := zt3 (i := 77) rfl rfl
theorem q3_78 : Cond.methodLink RL 124 yX6_lots ∈ zU := zt3 (i := 78) rfl rfl
theorem q3_79 : Cond.instanceMethod yX6_lots ∈ zU := zt3 (i := 79) rfl rfl
theorem q3_80 : Cond.selects "SnowCitizens" yX6_lots yX6_lots ∈ zU := zt3 (i := 80) rfl rfl
theorem q3_81 : Cond.code yX6_lots cX6_lots 7 (some .int) ∈ zU := zt3 (i := 81) rfl rfl
theorem q3_82 : Cond.constant RX6 334 2147483646 ∈ zU := zt3 (i := 82) rfl rfl
theorem q3_83 : Cond.constantLong RX6 335 48271 ∈ zU := zt3 (i := 83) rfl rfl
theorem q3_84 : Cond.constantLong RX6 337 2147483647 ∈ zU := zt3 (i := 84) rfl rfl
theorem q3_85 : Cond.constantLong RX6 339 12 ∈ zU := zt3 (i := 85) rfl rfl
theorem q3_86 : Cond.methodLink RL 56 yX6_asked ∈ zU := zt3 (i := 86) rfl rfl
theorem q3_87 : Cond.instanceMethod yX6_asked ∈ zU := zt3 (i := 87) rfl rfl
theorem q3_88 : Cond.selects "SnowCitizens" yX6_asked yX6_asked ∈ zU := zt3 (i := 88) rfl rfl
theorem q3_89 : Cond.code yX6_asked cX6_asked 1 (some .int) ∈ zU := zt3 (i := 89) rfl rfl
theorem q3_90 : Cond.methodLink RL 108 yX6_upper ∈ zU := zt3 (i := 90) rfl rfl
theorem q3_91 : Cond.instanceMethod yX6_upper ∈ zU := zt3 (i := 91) rfl rfl
theorem q3_92 : Cond.selects "SnowCitizens" yX6_upper yX6_upper ∈ zU := zt3 (i := 92) rfl rfl
theorem q3_93 : Cond.code yX6_upper cX6_upper 1 (some .long) ∈ zU := zt3 (i := 93) rfl rfl
theorem q3_94 : Cond.methodLink RL 112 yX6_lower ∈ zU := zt3 (i := 94) rfl rfl
theorem q3_95 : Cond.instanceMethod yX6_lower ∈ zU := zt3 (i := 95) rfl rfl
theorem q3_96 : Cond.selects "SnowCitizens" yX6_lower yX6_lower ∈ zU := zt3 (i := 96) rfl rfl
theorem q3_97 : Cond.code yX6_lower cX6_lower 1 (some .long) ∈ zU := zt3 (i := 97) rfl rfl
theorem q3_98 : Cond.methodLink RL 90 yX6_count ∈ zU := zt3 (i := 98) rfl rfl
theorem q3_99 : Cond.instanceMethod yX6_count ∈ zU := zt3 (i := 99) rfl rfl
theorem q3_100 : Cond.selects "SnowCitizens" yX6_count yX6_count ∈ zU := zt3 (i := 100) rfl rfl
theorem q3_101 : Cond.code yX6_count cX6_count 2 (some .int) ∈ zU := zt3 (i := 101) rfl rfl
theorem q3_102 : Cond.methodLink RX6 344 yX6_countOf ∈ zU := zt3 (i := 102) rfl rfl
theorem q3_104 : Cond.instanceMethod yX6_countOf ∈ zU := zt3 (i := 104) rfl rfl
theorem q3_105 : Cond.code yX6_countOf cX6_countOf 2 (some .int) ∈ zU := zt3 (i := 105) rfl rfl
theorem q3_106 : Cond.methodLink RX6 363 yX2_bulkOfAll ∈ zU := zt3 (i := 106) rfl rfl
theorem q3_107 : Cond.instanceMethod yX2_bulkOfAll ∈ zU := zt3 (i := 107) rfl rfl
theorem q3_108 : Cond.selects "SnowCitizens$North" yX2_bulkOfAll yX2_bulkOfAll ∈ zU := zt3 (i := 108) rfl rfl
theorem q3_109 : Cond.code yX2_bulkOfAll cX2_bulkOfAll 3 (some .int) ∈ zU := zt3 (i := 109) rfl rfl
theorem q3_110 : Cond.methodLink RX6 366 yX2_hattedOnes ∈ zU := zt3 (i := 110) rfl rfl
theorem q3_111 : Cond.instanceMethod yX2_hattedOnes ∈ zU := zt3 (i := 111) rfl rfl
theorem q3_112 : Cond.selects "SnowCitizens$North" yX2_hattedOnes yX2_hattedOnes ∈ zU := zt3 (i := 112) rfl rfl
theorem q3_113 : Cond.code yX2_hattedOnes cX2_hattedOnes 3 (some .int) ∈ zU := zt3 (i := 113) rfl rfl
theorem q3_115 : Cond.static yX6_isOfKind ∈ zU := zt3 (i := 115) rfl rfl
theorem q3_116 : Cond.code yX6_isOfKind cX6_isOfKind 2 (some .boolean) ∈ zU := zt3 (i := 116) rfl rfl
theorem q3_117 : Cond.methodLink RX6 369 yX6_rowsThere ∈ zU := zt3 (i := 117) rfl rfl
theorem q3_119 : Cond.instanceMethod yX6_rowsThere ∈ zU := zt3 (i := 119) rfl rfl
theorem q3_120 : Cond.code yX6_rowsThere cX6_rowsThere 4 (some .int) ∈ zU := zt3 (i := 120) rfl rfl
theorem q3_121 : Cond.methodLink RX6 372 yX6_textsThere ∈ zU := zt3 (i := 121) rfl rfl
theorem q3_123 : Cond.instanceMethod yX6_textsThere ∈ zU := zt3 (i := 123) rfl rfl
theorem q3_124 : Cond.code yX6_textsThere cX6_textsThere 4 (some .int) ∈ zU := zt3 (i := 124) rfl rfl
theorem q3_125 : Cond.methodLink RX6 126 yX6_textOf ∈ zU := zt3 (i := 125) rfl rfl
theorem q3_127 : Cond.instanceMethod yX6_textOf ∈ zU := zt3 (i := 127) rfl rfl
theorem q3_128 : Cond.code yX6_textOf cX6_textOf 2 (Option.some (.object "SnowCitizens$Text")) ∈ zU := zt3 (i := 128) rfl rfl
theorem q3_129 : Cond.methodLink RX6 375 yX6_keptThere ∈ zU := zt3 (i := 129) rfl rfl
theorem q3_131 : Cond.instanceMethod yX6_keptThere ∈ zU := zt3 (i := 131) rfl rfl
theorem q3_132 : Cond.code yX6_keptThere cX6_keptThere 4 (some .int) ∈ zU := zt3 (i := 132) rfl rfl
theorem q3_133 : Cond.methodLink RL 9 yL_cell ∈ zU := zt3 (i := 133) rfl rfl
theorem q3_134 : Cond.static yL_cell ∈ zU := zt3 (i := 134) rfl rfl
theorem q3_135 : Cond.code yL_cell cL_cell 2 (some .int) ∈ zU := zt3 (i := 135) rfl rfl
theorem q3_136 : Cond.constant RL 7 320440878 ∈ zU := zt3 (i := 136) rfl rfl
theorem q3_137 : Cond.methodLink RL 15 yL_up ∈ zU := zt3 (i := 137) rfl rfl
theorem q3_138 : Cond.static yL_up ∈ zU := zt3 (i := 138) rfl rfl
theorem q3_139 : Cond.code yL_up cL_up 2 (some .int) ∈ zU := zt3 (i := 139) rfl rfl
theorem q3_140 : Cond.constant RL 8 2147483647 ∈ zU := zt3 (i := 140) rfl rfl
theorem q3_141 : Cond.methodLink RL 127 yL_bits ∈ zU := zt3 (i := 141) rfl rfl
theorem q3_142 : Cond.static yL_bits ∈ zU := zt3 (i := 142) rfl rfl
theorem q3_143 : Cond.code yL_bits cL_bits 3 (some .int) ∈ zU := zt3 (i := 143) rfl rfl
theorem q3_144 : Cond.methodLink RL 39 yL_lay ∈ zU := zt3 (i := 144) rfl rfl
theorem q3_145 : Cond.static yL_lay ∈ zU := zt3 (i := 145) rfl rfl
theorem q3_146 : Cond.code yL_lay cL_lay 5 none ∈ zU := zt3 (i := 146) rfl rfl
theorem q3_147 : Cond.methodLink RL 43 yL_made ∈ zU := zt3 (i := 147) rfl rfl
theorem q3_148 : Cond.static yL_made ∈ zU := zt3 (i := 148) rfl rfl
theorem q3_149 : Cond.code yL_made cL_made 6 (some .boolean) ∈ zU := zt3 (i := 149) rfl rfl
theorem q3_150 : Cond.methodLink RL 19 yX6_text ∈ zU := zt3 (i := 150) rfl rfl
theorem q3_151 : Cond.instanceMethod yX6_text ∈ zU := zt3 (i := 151) rfl rfl
theorem q3_152 : Cond.selects "SnowCitizens" yX6_text yX6_text ∈ zU := zt3 (i := 152) rfl rfl
theorem q3_153 : Cond.code yX6_text cX6_text 4 (some .int) ∈ zU := zt3 (i := 153) rfl rfl
theorem q3_154 : Cond.methodLink RX6 130 yX5_renew ∈ zU := zt3 (i := 154) rfl rfl
theorem q3_155 : Cond.instanceMethod yX5_renew ∈ zU := zt3 (i := 155) rfl rfl
theorem q3_156 : Cond.selects "SnowCitizens$Text" yX5_renew yX5_renew ∈ zU := zt3 (i := 156) rfl rfl
theorem q3_157 : Cond.code yX5_renew cX5_renew 3 none ∈ zU := zt3 (i := 157) rfl rfl
theorem q3_158 : Cond.methodLink RL 24 yX6_put ∈ zU := zt3 (i := 158) rfl rfl
theorem q3_159 : Cond.instanceMethod yX6_put ∈ zU := zt3 (i := 159) rfl rfl
theorem q3_160 : Cond.selects "SnowCitizens" yX6_put yX6_put ∈ zU := zt3 (i := 160) rfl rfl
theorem q3_161 : Cond.code yX6_put cX6_put 6 (some .int) ∈ zU := zt3 (i := 161) rfl rfl
theorem q3_162 : Cond.methodLink RX6 133 yX5_sign ∈ zU := zt3 (i := 162) rfl rfl
theorem q3_163 : Cond.instanceMethod yX5_sign ∈ zU := zt3 (i := 163) rfl rfl
theorem q3_164 : Cond.selects "SnowCitizens$Text" yX5_sign yX5_sign ∈ zU := zt3 (i := 164) rfl rfl
theorem q3_165 : Cond.code yX5_sign cX5_sign 2 (some .int) ∈ zU := zt3 (i := 165) rfl rfl
theorem q3_166 : Cond.methodLink RX6 136 yX5_change ∈ zU := zt3 (i := 166) rfl rfl
theorem q3_167 : Cond.instanceMethod yX5_change ∈ zU := zt3 (i := 167) rfl rfl
theorem q3_168 : Cond.selects "SnowCitizens$Text" yX5_change yX5_change ∈ zU := zt3 (i := 168) rfl rfl
theorem q3_169 : Cond.code yX5_change cX5_change 3 none ∈ zU := zt3 (i := 169) rfl rfl
theorem q3_170 : Cond.methodLink RL 28 yL_letter ∈ zU := zt3 (i := 170) rfl rfl
theorem q3_171 : Cond.static yL_letter ∈ zU := zt3 (i := 171) rfl rfl
theorem q3_172 : Cond.code yL_letter cL_letter 1 (some .int) ∈ zU := zt3 (i := 172) rfl rfl
theorem q3_173 : Cond.methodLink RL 32 yX6_fault ∈ zU := zt3 (i := 173) rfl rfl
theorem q3_174 : Cond.instanceMethod yX6_fault ∈ zU := zt3 (i := 174) rfl rfl
theorem q3_175 : Cond.selects "SnowCitizens" yX6_fault yX6_fault ∈ zU := zt3 (i := 175) rfl rfl
theorem q3_176 : Cond.code yX6_fault cX6_fault 3 (some .int) ∈ zU := zt3 (i := 176) rfl rfl
theorem q3_177 : Cond.methodLink RX6 140 yX3_faultIn ∈ zU := zt3 (i := 177) rfl rfl
theorem q3_178 : Cond.instanceMethod yX3_faultIn ∈ zU := zt3 (i := 178) rfl rfl
theorem q3_179 : Cond.selects "SnowCitizens$Reading" yX3_faultIn yX3_faultIn ∈ zU := zt3 (i := 179) rfl rfl
theorem q3_180 : Cond.code yX3_faultIn cX3_faultIn 3 (some .int) ∈ zU := zt3 (i := 180) rfl rfl
theorem q3_181 : Cond.methodLink RX3 39 yX5_sign ∈ zU := zt3 (i := 181) rfl rfl
theorem q3_182 : Cond.methodLink RX3 43 yX3_takes ∈ zU := zt3 (i := 182) rfl rfl
theorem q3_184 : Cond.instanceMethod yX3_takes ∈ zU := zt3 (i := 184) rfl rfl
theorem q3_185 : Cond.code yX3_takes cX3_takes 3 (some .boolean) ∈ zU := zt3 (i := 185) rfl rfl
theorem q3_186 : Cond.methodLink RX3 47 yX3_takesSun ∈ zU := zt3 (i := 186) rfl rfl
theorem q3_188 : Cond.instanceMethod yX3_takesSun ∈ zU := zt3 (i := 188) rfl rfl
theorem q3_189 : Cond.code yX3_takesSun cX3_takesSun 2 (some .boolean) ∈ zU := zt3 (i := 189) rfl rfl
theorem q3_190 : Cond.methodLink RX3 50 yX3_takesLetter ∈ zU := zt3 (i := 190) rfl rfl
theorem q3_192 : Cond.instanceMethod yX3_takesLetter ∈ zU := zt3 (i := 192) rfl rfl
theorem q3_193 : Cond.code yX3_takesLetter cX3_takesLetter 3 (some .boolean) ∈ zU := zt3 (i := 193) rfl rfl
theorem q3_194 : Cond.methodLink RX3 56 yX3_kindBy ∈ zU := zt3 (i := 194) rfl rfl
theorem q3_195 : Cond.static yX3_kindBy ∈ zU := zt3 (i := 195) rfl rfl
theorem q3_196 : Cond.code yX3_kindBy cX3_kindBy 1 (some .int) ∈ zU := zt3 (i := 196) rfl rfl
theorem q3_198 : Cond.methodLink RX3 53 yX3_takesFigure ∈ zU := zt3 (i := 198) rfl rfl
theorem q3_200 : Cond.instanceMethod yX3_takesFigure ∈ zU := zt3 (i := 200) rfl rfl
theorem q3_201 : Cond.code yX3_takesFigure cX3_takesFigure 3 (some .boolean) ∈ zU := zt3 (i := 201) rfl rfl
theorem q3_203 : Cond.methodLink RL 35 yX6_north ∈ zU := zt3 (i := 203) rfl rfl
theorem q3_204 : Cond.instanceMethod yX6_north ∈ zU := zt3 (i := 204) rfl rfl
theorem q3_205 : Cond.selects "SnowCitizens" yX6_north yX6_north ∈ zU := zt3 (i := 205) rfl rfl
theorem q3_206 : Cond.code yX6_north cX6_north 5 (some .int) ∈ zU := zt3 (i := 206) rfl rfl
theorem q3_207 : Cond.methodLink RX6 144 yX2_settle ∈ zU := zt3 (i := 207) rfl rfl
theorem q3_208 : Cond.instanceMethod yX2_settle ∈ zU := zt3 (i := 208) rfl rfl
theorem q3_209 : Cond.selects "SnowCitizens$North" yX2_settle yX2_settle ∈ zU := zt3 (i := 209) rfl rfl
theorem q3_210 : Cond.code yX2_settle cX2_settle 2 none ∈ zU := zt3 (i := 210) rfl rfl
theorem qs_0 : Cond.selects RX6 yX6_rowOf yX6_rowOf ∈ zU := zsel (i := 0) rfl
theorem qs_1 : Cond.selects RX6 yX6_found yX6_found ∈ zU := zsel (i := 1) rfl
theorem qs_2 : Cond.selects RX6 yX6_tell yX6_tell ∈ zU := zsel (i := 2) rfl
theorem qs_3 : Cond.selects RX2 yX2_voteNow yX2_voteNow ∈ zU := zsel (i := 3) rfl
theorem qs_4 : Cond.selects RX2 yX2_votesOne yX2_votesOne ∈ zU := zsel (i := 4) rfl
theorem qs_5 : Cond.selects RX2 yX2_perform yX2_perform ∈ zU := zsel (i := 5) rfl
theorem qs_6 : Cond.selects RX2 yX2_meltAll yX2_meltAll ∈ zU := zsel (i := 6) rfl
theorem qs_7 : Cond.selects RX2 yX2_melting yX2_melting ∈ zU := zsel (i := 7) rfl
theorem qs_8 : Cond.selects RX2 yX2_restart yX2_restart ∈ zU := zsel (i := 8) rfl
theorem qs_9 : Cond.selects RX6 yX6_keptOf yX6_keptOf ∈ zU := zsel (i := 9) rfl
theorem qs_10 : Cond.selects RX2 yX2_bulkBy yX2_bulkBy ∈ zU := zsel (i := 10) rfl
theorem qs_11 : Cond.selects RX6 yX6_costOfVoters yX6_costOfVoters ∈ zU := zsel (i := 11) rfl
theorem qs_12 : Cond.selects RX6 yX6_shadeByVoters yX6_shadeByVoters ∈ zU := zsel (i := 12) rfl
theorem qs_13 : Cond.selects RX6 yX6_fillMostCounted yX6_fillMostCounted ∈ zU := zsel (i := 13) rfl
theorem qs_14 : Cond.selects RX6 yX6_countedFrom yX6_countedFrom ∈ zU := zsel (i := 14) rfl
theorem qs_15 : Cond.selects RX6 yX6_countedOn yX6_countedOn ∈ zU := zsel (i := 15) rfl
theorem qs_16 : Cond.selects RX6 yX6_nextCounted yX6_nextCounted ∈ zU := zsel (i := 16) rfl
theorem qs_17 : Cond.selects RX0 yX0_pass yX0_pass ∈ zU := zsel (i := 17) rfl
theorem qs_18 : Cond.selects RX6 yX6_tellChance yX6_tellChance ∈ zU := zsel (i := 18) rfl
theorem qs_19 : Cond.selects RX6 yX6_countOf yX6_countOf ∈ zU := zsel (i := 19) rfl
theorem qs_20 : Cond.selects RX6 yX6_rowsThere yX6_rowsThere ∈ zU := zsel (i := 20) rfl
theorem qs_21 : Cond.selects RX6 yX6_textsThere yX6_textsThere ∈ zU := zsel (i := 21) rfl
theorem qs_22 : Cond.selects RX6 yX6_textOf yX6_textOf ∈ zU := zsel (i := 22) rfl
theorem qs_23 : Cond.selects RX6 yX6_keptThere yX6_keptThere ∈ zU := zsel (i := 23) rfl
theorem qs_24 : Cond.selects RX3 yX3_takes yX3_takes ∈ zU := zsel (i := 24) rfl
theorem qs_25 : Cond.selects RX3 yX3_takesSun yX3_takesSun ∈ zU := zsel (i := 25) rfl
theorem qs_26 : Cond.selects RX3 yX3_takesLetter yX3_takesLetter ∈ zU := zsel (i := 26) rfl
theorem qs_27 : Cond.selects RX3 yX3_takesFigure yX3_takesFigure ∈ zU := zsel (i := 27) rfl
theorem inU0r : ∀ k, k < 3 → u_lay RX0 TX0 k ∈ zU
  | 0, _ => q1_148
  | 1, _ => q1_150
  | 2, _ => q1_152
  | k + 3, h => absurd h (by omega)
theorem inU0 : ∀ w ∈ wsX00, w ∈ zU := fun w h => by
  obtain ⟨k, hk, rfl⟩ := List.mem_map.mp h
  have hk := List.mem_range.mp hk
  exact inU0r k hk
theorem inU1r : ∀ k, k < 5 → u_lay RX1 TX1 k ∈ zU
  | 0, _ => q1_127
  | 1, _ => q1_129
  | 2, _ => q1_131
  | 3, _ => q1_133
  | 4, _ => q1_135
  | k + 5, h => absurd h (by omega)
theorem inU1 : ∀ w ∈ wsX10, w ∈ zU := fun w h => by
  obtain ⟨k, hk, rfl⟩ := List.mem_map.mp h
  have hk := List.mem_range.mp hk
  exact inU1r k hk
theorem inU2r : ∀ k, k < 14 → u_lay RX2 TX2 k ∈ zU
  | 0, _ => q1_50
  | 1, _ => q1_52
  | 2, _ => q1_54
  | 3, _ => q1_56
  | 4, _ => q1_58
  | 5, _ => q1_60
  | 6, _ => q1_62
  | 7, _ => q1_64
  | 8, _ => q1_66
  | 9, _ => q1_68
  | 10, _ => q1_70
  | 11, _ => q1_72
  | 12, _ => q1_74
  | 13, _ => q1_76
  | k + 14, h => absurd h (by omega)
theorem inU2 : ∀ w ∈ wsX20, w ∈ zU := fun w h => by
  obtain ⟨k, hk, rfl⟩ := List.mem_map.mp h
  have hk := List.mem_range.mp hk
  exact inU2r k hk
theorem inU3r : ∀ k, k < 8 → u_lay RX3 TX3 k ∈ zU
  | 0, _ => q1_102
  | 1, _ => q1_104
  | 2, _ => q1_106
  | 3, _ => q1_108
  | 4, _ => q1_110
  | 5, _ => q1_112
  | 6, _ => q1_114
  | 7, _ => q1_116
  | k + 8, h => absurd h (by omega)
theorem inU3 : ∀ w ∈ wsX30, w ∈ zU := fun w h => by
  obtain ⟨k, hk, rfl⟩ := List.mem_map.mp h
  have hk := List.mem_range.mp hk
  exact inU3r k hk
theorem inU4r : ∀ k, k < 3 → u_lay RX4 TX4 k ∈ zU
  | 0, _ => q1_167
  | 1, _ => q1_169
  | 2, _ => q1_171
  | k + 3, h => absurd h (by omega)
theorem inU4 : ∀ w ∈ wsX40, w ∈ zU := fun w h => by
  obtain ⟨k, hk, rfl⟩ := List.mem_map.mp h
  have hk := List.mem_range.mp hk
  exact inU4r k hk
theorem inU5r : ∀ k, k < 3 → u_lay RX5 TX5 k ∈ zU
  | 0, _ => q1_185
  | 1, _ => q1_187
  | 2, _ => q1_189
  | k + 3, h => absurd h (by omega)
theorem inU5 : ∀ w ∈ wsX50, w ∈ zU := fun w h => by
  obtain ⟨k, hk, rfl⟩ := List.mem_map.mp h
  have hk := List.mem_range.mp hk
  exact inU5r k hk
theorem inU6r : ∀ k, k < 17 → u_lay RX6 TX6 k ∈ zU
  | 0, _ => q1_210
  | 1, _ => q1_212
  | 2, _ => q1_214
  | 3, _ => q1_216
  | 4, _ => q1_218
  | 5, _ => q1_220
  | 6, _ => q1_222
  | 7, _ => q1_224
  | 8, _ => q1_226
  | 9, _ => q1_228
  | 10, _ => q1_230
  | 11, _ => q1_232
  | 12, _ => q1_234
  | 13, _ => q1_236
  | 14, _ => q1_238
  | 15, _ => q2_0
  | 16, _ => q2_2
  | k + 17, h => absurd h (by omega)
theorem inU6 : ∀ w ∈ wsX60, w ∈ zU := fun w h => by
  obtain ⟨k, hk, rfl⟩ := List.mem_map.mp h
  have hk := List.mem_range.mp hk
  exact inU6r k hk
